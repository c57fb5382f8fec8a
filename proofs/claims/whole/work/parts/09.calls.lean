/-! branches, calls, returns; a method's contract -/
def icd (cd : Jvm.ClassFile.Cond) (x y : Int32) : Prop := match cd with
  | .eq => x = y
  | .ne => ¬ x = y
  | .lt => x < y
  | .ge => y ≤ x
  | .gt => y < x
  | .le => x ≤ y
def rmM (M : MD) : Room := { frames := M.2.2.2.2.2.1, cells := 0, slots := 0, locals := M.2.2.2.2.2.2 }
def Qx (ω : Wd) (Q : Option Value → Mm → Prop) : Array Value → State → Outcome → State → Prop := fun _ st oc t => (∃ (v : Option Value) (μ : Mm), oc = .returned (v.map (tv ω)) ∧ Q v μ ∧ va_P (wD ω) vwCl (cW ω μ) t.heap) ∧ va_F (wA ω) st t
def wds (M : MD) : List Jvm.Cond := .code M.1 M.2.1 M.2.2.1 M.2.2.2.1 :: gt
def PreC (ω : Wd) (μ : Mm) (U : State) : Prop := va_P (wD ω) vwCl (cW ω μ) U.heap ∧ va_K (wD ω) vwCl (tys3 ω) U ∧ (∀ w ∈ nw, va_Nw w U) ∧ wAp ω
def Ctr (l : Launch) (ω : Wd) (M : MD) (as : List Value) (μ : Mm) (Q : Option Value → Mm → Prop) : Prop := Met l M.1 (wds M) (rmM M) (va_Pc (as.map (tv ω)) (PreC ω μ)) (Qx ω Q) 0 0 (wA ω)
def Good (l : Launch) (ω : Wd) (M : MD) (pc : Nat) (L st : List Value) (μ : Mm) (Q : Option Value → Mm → Prop) : Prop := ∀ (p : Program) (e : Env) (s : State) (m : MethodId) (args : Array Value) (below : List Frame) (meth : Method) (c : Code), Cx ω M p s m args meth c → GW ω M p l e (rmM M) s m args below meth c 0 0 (MQ below (Qx ω Q) args s 0 0 (wA ω)) pc L st μ
theorem gt_good {w : Jvm.Cond} (h : w ∈ gt) : (w.onTables && w.keeps) = true ∨ ∃ ty, w = .arrayClass ty := good_of_word (List.mem_filter.mp h).2
theorem wds_good {M : MD} (h : Jvm.Cond.code M.1 M.2.1 M.2.2.1 M.2.2.2.1 ∈ gt) : GoodIn gt (wds M) := by
  intro w hw
  rcases List.mem_cons.mp hw with rfl | hw
  · exact ⟨h, gt_good h⟩
  · exact ⟨hw, gt_good hw⟩
theorem pre_blind {ω : Wd} {μ : Mm} {av : List Value} : FrameBlind (va_Pc av (PreC ω μ)) := by
  intro a U g mk q
  obtain ⟨q0, qP, qK, qN, qA⟩ := q
  refine ⟨q0, qP, va_K.moved (u := U) (U := U.calling g mk a) (Vm.Alike.refl U.vm) qK, fun w hw => ?_, qA⟩
  obtain ⟨a1, i, x, y, rfl⟩ := nw_is hw
  exact va_Nw.same (u := U) (U := U.calling g mk a) rfl rfl (qN _ hw)
/-- what a method's words say: its code, its class -/
def MOk (M : MD) : Prop := Jvm.Cond.code M.1 M.2.1 M.2.2.1 M.2.2.2.1 ∈ gt ∧ Jvm.Cond.initialized M.1.cls ∈ gt ∧ (M.1.cls ≠ "java/lang/invoke/MethodHandle" ∧ M.1.cls ≠ "java/lang/invoke/VarHandle") ∧ M.1.cls = RR M.2.2.2.2.1
/-- a call's words: of a virtual call, of a static one, of a nest mate's -/
def StV (ow idx : Nat) (M : MD) (n : Nat) : Prop := MOk M ∧ (parseMethodDescriptor M.1.desc).map (fun d => d.parameters.length) = some n ∧ Jvm.Cond.methodLink (RR ow) idx M.1 ∈ gt ∧ Jvm.Cond.instanceMethod M.1 ∈ gt ∧ Jvm.Cond.selects M.1.cls M.1 M.1 ∈ gt ∧ M.2.2.2.2.1 < 8
def StS (ow idx : Nat) (M : MD) (n : Nat) : Prop := MOk M ∧ (parseMethodDescriptor M.1.desc).map (fun d => d.parameters.length) = some n ∧ Jvm.Cond.methodLink (RR ow) idx M.1 ∈ gt ∧ Jvm.Cond.static M.1 ∈ gt
def StN (ow idx : Nat) (M : MD) (n : Nat) : Prop := MOk M ∧ (parseMethodDescriptor M.1.desc).map (fun d => d.parameters.length) = some n ∧ (∃ host, Jvm.Cond.methodLinkNest (RR ow) idx M.1 host ∈ nw) ∧ Jvm.Cond.static M.1 ∈ gt
def rmOk (R : Room) (M : MD) (st : List Value) : Bool := decide (M.2.2.2.2.2.1 + 1 ≤ R.frames) && decide (8 + (M.2.2.1 + 11) + M.2.2.2.2.2.2 ≤ R.locals) && decide ((st.map fun v => v.category).sum ≤ 8)
section GWC
variable {ω : Wd} {M : MD} {p : Program} {l : Launch} {e : Env} {R : Room} {s : State} {m : MethodId} {args : Array Value} {below : List Frame} {meth : Method} {c : Code} {cells slots : Nat} {Z : State → Prop} {pc : Nat}
theorem gw_goto (C : Cx ω M p s m args meth c) {off : Int} {tgt : Nat} {L st : List Value} {μ : Mm} (hd : decode M.2.1 pc = .ok (.goto off, 3)) (ht : (pc : Int) + off = (tgt : Int)) (k : GW ω M p l e R s m args below meth c cells slots Z tgt L st μ) : GW ω M p l e R s m args below meth c cells slots Z pc L st μ :=
  fun H locs ls hP hS hl hL => lv_goto C.1 C.2.1 hd ht (k H locs ls hP hS hl hL)
theorem gw_icmp (C : Cx ω M p s m args meth c) {cd : Jvm.ClassFile.Cond} {off : Int} {tgt : Nat} {L st : List Value} {μ : Mm} {x y : Int32} (hd : decode M.2.1 pc = .ok (.if_icmp cd off, 3)) (ht : (pc : Int) + off = (tgt : Int)) (k1 : icd cd x y → GW ω M p l e R s m args below meth c cells slots Z tgt L st μ) (k2 : ¬ icd cd x y → GW ω M p l e R s m args below meth c cells slots Z (pc + 3) L st μ) : GW ω M p l e R s m args below meth c cells slots Z pc L (.int y :: .int x :: st) μ := by
  intro H locs ls hP hS hl hL
  cases cd
  · exact lv_icmp_eq C.1 C.2.1 hd ht (fun h => k1 h H locs ls hP hS hl hL) (fun h => k2 h H locs ls hP hS hl hL)
  · exact lv_icmp_ne C.1 C.2.1 hd ht (fun h => k1 h H locs ls hP hS hl hL) (fun h => k2 (fun g => g h) H locs ls hP hS hl hL)
  · exact lv_icmp_lt C.1 C.2.1 hd ht (fun h => k1 h H locs ls hP hS hl hL) (fun h => k2 h H locs ls hP hS hl hL)
  · exact lv_icmp_ge C.1 C.2.1 hd ht (fun h => k1 h H locs ls hP hS hl hL) (fun h => k2 h H locs ls hP hS hl hL)
  · exact lv_icmp_gt C.1 C.2.1 hd ht (fun h => k1 h H locs ls hP hS hl hL) (fun h => k2 h H locs ls hP hS hl hL)
  · exact lv_icmp_le C.1 C.2.1 hd ht (fun h => k1 h H locs ls hP hS hl hL) (fun h => k2 h H locs ls hP hS hl hL)
theorem gw_if (C : Cx ω M p s m args meth c) {cd : Jvm.ClassFile.Cond} {off : Int} {tgt : Nat} {L st : List Value} {μ : Mm} {x : Int32} (hd : decode M.2.1 pc = .ok (.ifCond cd off, 3)) (ht : (pc : Int) + off = (tgt : Int)) (k1 : icd cd x 0 → GW ω M p l e R s m args below meth c cells slots Z tgt L st μ) (k2 : ¬ icd cd x 0 → GW ω M p l e R s m args below meth c cells slots Z (pc + 3) L st μ) : GW ω M p l e R s m args below meth c cells slots Z pc L (.int x :: st) μ := by
  intro H locs ls hP hS hl hL
  cases cd
  · exact lv_if_eq C.1 C.2.1 hd ht (fun h => k1 h H locs ls hP hS hl hL) (fun h => k2 h H locs ls hP hS hl hL)
  · exact lv_if_ne C.1 C.2.1 hd ht (fun h => k1 h H locs ls hP hS hl hL) (fun h => k2 (fun g => g h) H locs ls hP hS hl hL)
  · exact lv_if_lt C.1 C.2.1 hd ht (fun h => k1 h H locs ls hP hS hl hL) (fun h => k2 h H locs ls hP hS hl hL)
  · exact lv_if_ge C.1 C.2.1 hd ht (fun h => k1 h H locs ls hP hS hl hL) (fun h => k2 h H locs ls hP hS hl hL)
  · exact lv_if_gt C.1 C.2.1 hd ht (fun h => k1 h H locs ls hP hS hl hL) (fun h => k2 h H locs ls hP hS hl hL)
  · exact lv_if_le C.1 C.2.1 hd ht (fun h => k1 h H locs ls hP hS hl hL) (fun h => k2 h H locs ls hP hS hl hL)
theorem w_after {H : Heap} {locs : List Loc} {ls : Array Slot} {st0 rest : List Value} {a : Array Value} {Q : Option Value → Mm → Prop} (hr : va_Run p l e R s m args below meth c H locs cells slots 0 0 (F0 m pc ls st0) rest (Qx ω Q a) (wA ω)) (hS : va_S (wA ω) s.heap H locs)
    (kk : ∀ (v : Option Value) (μ : Mm) (H1 : Heap) (locs1 : List Loc), Q v μ → va_P (wD ω) vwCl (cW ω μ) H1 → va_S (wA ω) s.heap H1 locs1 → W p l e R s m args below meth c H1 locs1 cells slots Z (F0 m (pc + 3) ls ((v.map (tv ω)).toList ++ rest))) : W p l e R s m args below meth c H locs cells slots Z (F0 m pc ls st0) := by
  intro T hT X
  obtain ⟨v, st₀, t, T', L, h0, X', hL, e1, e2, ⟨⟨r, μ, hv, hq, hP⟩, hz, hk⟩, st⟩ := hr T hT X
  cases hv
  rw [h0] at hz hk
  obtain ⟨t2, a1, b1⟩ := kk r μ T'.heap (locs ++ L) hq (by rw [e1]; exact hP)
    ⟨Nat.le_trans hS.1 (by rw [e1]; exact hz), fun q h1 h2 => by rw [e1, hk q (Nat.lt_of_lt_of_le h1 hS.1) h2]; exact hS.2.1 q h1 h2, fun q hq => by
      rcases List.mem_append.mp hq with h | h
      · exact hS.2.2 q h
      · exact hL q h⟩ T' rfl X'
  exact ⟨t2, st t2 a1, b1⟩
theorem callB_M (C : Cx ω M p s m args meth c) {M' : MD} {idx n : Nat} {st : List Value} (hM : MOk M') (hn : (parseMethodDescriptor M'.1.desc).map (fun d => d.parameters.length) = some n) (hl : Jvm.Cond.methodLink (RR M.2.2.2.2.1) idx M'.1 ∈ gt) (hR : rmOk R M' st = true) : CallB R s args (RR M.2.2.2.2.1) idx M'.1 M'.2.1 M'.2.2.1 M'.2.2.2.1 (wds M') (rmM M') 0 0 n := by
  obtain ⟨hx, hb, hml, hr, hown, hts, hnw, hK, hlk, hap⟩ := C
  obtain ⟨h1, h2, h3⟩ := b3 hR
  exact callB_of n hts (wds_good hM.1) rfl rfl rfl (hts _ hM.2.1) (hts _ hl) ⟨hM.2.2.1.1, hM.2.2.1.2, hn⟩ ⟨of_decide_eq_true h1, of_decide_eq_true h2⟩
theorem st_cat {st : List Value} : ((st.map (tv ω)).map fun v => v.category).sum = (st.map fun v => v.category).sum := by
  induction st with
  | nil => rfl
  | cons v t ih => simp only [List.map_cons, List.sum_cons, ih, tv_cat]
theorem pre_now (C : Cx ω M p s m args meth c) {μ : Mm} {H : Heap} (hP : va_P (wD ω) vwCl (cW ω μ) H) : ∀ U : State, U.heap = H → s.WarmedH U.vm → PreC ω μ U := by
  intro U hU hW
  obtain ⟨hx, hb, hml, hr, hown, hts, hnw, hK, hlk, hap⟩ := C
  exact ⟨by rw [hU]; exact hP, va_K.moved hW.alike hK, nw_warm hW hnw, hap⟩
theorem gw_callV (C : Cx ω M p s m args meth c) (hcs : cells ≤ R.cells ∧ slots ≤ R.slots) {M' : MD} {idx n q : Nat} {L as st : List Value} {μ : Mm} {Q' : Option Value → Mm → Prop} (hs : StV M.2.2.2.2.1 idx M' n) (hd : decode M.2.1 pc = .ok (.invokevirtual idx, 3)) (ho : oCl q M'.2.2.2.2.1 = true) (hn : as.length = n) (hR : rmOk R M' st = true) (K : Ctr l ω M' (.ref q :: as) μ Q')
    (k : ∀ v μ', Q' v μ' → GW ω M p l e R s m args below meth c cells slots Z (pc + 3) L (v.toList ++ st) μ') : GW ω M p l e R s m args below meth c cells slots Z pc L (as.reverse ++ .ref q :: st) μ := by
  intro H locs ls hP hS hl hL
  obtain ⟨hM, hpn, hlk, hin, hse, hci⟩ := hs
  have cb := callB_M C hM hpn hlk hR
  have C0 := C
  obtain ⟨hx, hb, hml, hr, hown, hts, hnw, hK, hlk, hap⟩ := C
  have ho' : shA q = (0, M'.2.2.2.2.1) := of_decide_eq_true ho
  have hq := shA_lt ho' (by decide)
  have hrec := va_recv hK hP (cl_at _ hci) (q0 := q) (a := wa ω q) (fs := fsV ω μ q M'.2.2.2.2.1) (by rw [cW_at hq, ceE_o ho'])
  rw [← hM.2.2.2] at hrec
  have hrun := va_runV (g := F0 m pc ls ((as.reverse ++ .ref q :: st).map (tv ω))) (b := wa ω q) (As := as.map (tv ω)) (rest := st.map (tv ω)) (locs := locs) (cells := cells) (slots := slots) (below := below) (meth := meth) (e := e) ⟨hx, hb, hml, hown, hts⟩ K ⟨cb, hts _ hin, hts _ hse⟩ ⟨pre_blind, hrec, fun U hU hW => ⟨rfl, pre_now C0 hP U hU hW⟩⟩ rfl (by rw [List.length_map]; exact hn) hl.1 (by simp [tv]) (lv_room (by rw [st_cat]; exact of_decide_eq_true (b3 hR).2.2)) hd hcs
  refine w_after hrun hS (fun v μ' H1 locs1 hq' hP1 hS1 => ?_)
  have := k v μ' hq' H1 locs1 ls hP1 hS1 hl hL
  rw [List.map_append] at this
  cases v <;> exact this
theorem gw_callS (C : Cx ω M p s m args meth c) (hcs : cells ≤ R.cells ∧ slots ≤ R.slots) {M' : MD} {idx n : Nat} {L as st : List Value} {μ : Mm} {Q' : Option Value → Mm → Prop} (hs : StS M.2.2.2.2.1 idx M' n) (hd : decode M.2.1 pc = .ok (.invokestatic idx, 3)) (hn : as.length = n) (hR : rmOk R M' st = true) (K : Ctr l ω M' as μ Q')
    (k : ∀ v μ', Q' v μ' → GW ω M p l e R s m args below meth c cells slots Z (pc + 3) L (v.toList ++ st) μ') : GW ω M p l e R s m args below meth c cells slots Z pc L (as.reverse ++ st) μ := by
  intro H locs ls hP hS hl hL
  obtain ⟨hM, hpn, hlk, hin⟩ := hs
  have cb := callB_M C hM hpn hlk hR
  have C0 := C
  obtain ⟨hx, hb, hml, hr, hown, hts, hnw, hK, hlk, hap⟩ := C
  have hrun := va_runS (g := F0 m pc ls ((as.reverse ++ st).map (tv ω))) (As := as.map (tv ω)) (rest := st.map (tv ω)) (H := H) (locs := locs) (cells := cells) (slots := slots) (below := below) (meth := meth) (e := e) ⟨hx, hb, hml, hown, hts⟩ K ⟨cb, hts _ hin⟩ ⟨pre_blind, fun U hU hW => ⟨rfl, pre_now C0 hP U hU hW⟩⟩ rfl (by rw [List.length_map]; exact hn) hl.1 (by simp) (lv_room (by rw [st_cat]; exact of_decide_eq_true (b3 hR).2.2)) hd hcs
  refine w_after hrun hS (fun v μ' H1 locs1 hq' hP1 hS1 => ?_)
  have := k v μ' hq' H1 locs1 ls hP1 hS1 hl hL
  rw [List.map_append] at this
  cases v <;> exact this
theorem gw_callN (C : Cx ω M p s m args meth c) (hcs : cells ≤ R.cells ∧ slots ≤ R.slots) {M' : MD} {idx n : Nat} {L as st : List Value} {μ : Mm} {Q' : Option Value → Mm → Prop} (hs : StN M.2.2.2.2.1 idx M' n) (hd : decode M.2.1 pc = .ok (.invokestatic idx, 3)) (hn : as.length = n) (hR : rmOk R M' st = true) (K : Ctr l ω M' as μ Q')
    (k : ∀ v μ', Q' v μ' → GW ω M p l e R s m args below meth c cells slots Z (pc + 3) L (v.toList ++ st) μ') : GW ω M p l e R s m args below meth c cells slots Z pc L (as.reverse ++ st) μ := by
  intro H locs ls hP hS hl hL
  obtain ⟨hM, hpn, ⟨host, hlk⟩, hin⟩ := hs
  have C0 := C
  obtain ⟨hx, hb, hml, hr, hown, hts, hnw, hK, hlk', hap⟩ := C
  obtain ⟨r1, r2, r3⟩ := b3 hR
  have cn : va_CN R s args (RR M.2.2.2.2.1) idx M'.1 host M'.2.1 M'.2.2.1 M'.2.2.2.1 (wds M') (rmM M') 0 0 n := va_cnB n hts (wds_good hM.1) rfl rfl rfl (hnw _ hlk) (hts _ hM.2.1) ⟨hM.2.2.1.1, hM.2.2.1.2, hpn⟩ ⟨of_decide_eq_true r1, of_decide_eq_true r2⟩
  have hrun := va_runSN (g := F0 m pc ls ((as.reverse ++ st).map (tv ω))) (As := as.map (tv ω)) (rest := st.map (tv ω)) (H := H) (locs := locs) (cells := cells) (slots := slots) (below := below) (meth := meth) (e := e) ⟨hx, hb, hml, hown, hts⟩ K ⟨cn, hts _ hin, trivial⟩ ⟨pre_blind, fun U hU hW => ⟨rfl, pre_now C0 hP U hU hW⟩⟩ rfl (by rw [List.length_map]; exact hn) hl.1 (by simp) (lv_room (by rw [st_cat]; exact of_decide_eq_true r3)) hd hcs
  refine w_after hrun hS (fun v μ' H1 locs1 hq' hP1 hS1 => ?_)
  have := k v μ' hq' H1 locs1 ls hP1 hS1 hl hL
  rw [List.map_append] at this
  cases v <;> exact this
theorem gw_copy (C : Cx ω M p s m args meth c) {idx q0 q1 : Nat} {L st : List Value} {μ : Mm} {sp dp n : Int32} (hlink : Jvm.Cond.methodLink (RR M.2.2.2.2.1) idx arraycopyName ∈ gt) (hnat : Jvm.Cond.native arraycopyName ∈ gt) (hstat : Jvm.Cond.static arraycopyName ∈ gt) (hini : Jvm.Cond.initialized "java/lang/System" ∈ gt) (hd : decode M.2.1 pc = .ok (.invokestatic idx, 3))
    {n0 n1 : Nat} (s0 : shA q0 = (1, n0)) (s1 : shA q1 = (1, n1)) (h1 : ¬ sp < 0) (h2 : ¬ dp < 0) (h3 : ¬ n < 0) (h4 : sp.toNatClampNeg + n.toNatClampNeg ≤ n0) (h5 : dp.toNatClampNeg + n.toNatClampNeg ≤ n1) (hfr : 1 ≤ R.frames) (hlo : (st.map fun v => v.category).sum + (nativeFrameWords "java/lang/System" "arraycopy" 5 + 11) ≤ R.locals)
    (k : GW ω M p l e R s m args below meth c cells slots Z (pc + 3) L st (ss_cp μ q0 sp.toNatClampNeg q1 dp.toNatClampNeg n.toNatClampNeg)) : GW ω M p l e R s m args below meth c cells slots Z pc L (.int n :: .int dp :: .ref q1 :: .int sp :: .ref q0 :: st) μ := by
  intro H locs ls hP hS hl hL
  obtain ⟨hx, hb, hml, hr, hown, hts, hnw, hK, hlk', hap⟩ := C
  refine va_copyi hx hb (by rw [hml]; exact hl.1.symm) hown (hts _ hlink) (hts _ hnat) (hts _ hstat) (hts _ hini) hK hP (cW_D hap) hS q0 q1 0 0 (by rw [cW_at (shA_lt s0 (by decide)), ceE_i s0]) (by rw [cW_at (shA_lt s1 (by decide)), ceE_i s1]) (ty := .int) rfl rfl rfl h1 h2 h3 h4 h5 (fun _ _ => rfl) hfr (by rw [st_cat]; exact hlo) hd (fun H1 locs1 hP1 hD1 hS1 => ?_)
  rw [cW_cp s1] at hP1
  exact k H1 locs1 ls hP1 hS1 hl hL
end GWC
section GDS
variable {l : Launch} {ω : Wd} {M : MD} {pc : Nat} {L st : List Value} {μ : Mm} {Q : Option Value → Mm → Prop}
theorem gd_blk (is : List IA) (n : Nat) {L' st' : List Value} {μ' : Mm} {f : Bool} (hk : ckB M.2.2.2.2.1 M.2.1 pc is n = true) (hx : xs is (L, st, μ, true) = (L', st', μ', f)) (hf : f = true) (k : Good l ω M n L' st' μ' Q) : Good l ω M pc L st μ Q := by
  intro p e s m args below meth c C
  refine gw_blk C is pc n (L, st, μ, true) hk (by rw [hx]; exact hf) ?_
  rw [hx]
  exact k p e s m args below meth c C
theorem gd_goto {off : Int} {tgt : Nat} (hd : decode M.2.1 pc = .ok (.goto off, 3)) (ht : (pc : Int) + off = (tgt : Int)) (k : Good l ω M tgt L st μ Q) : Good l ω M pc L st μ Q :=
  fun p e s m args below meth c C => gw_goto C hd ht (k p e s m args below meth c C)
theorem gd_icmp {cd : Jvm.ClassFile.Cond} {off : Int} {tgt : Nat} {x y : Int32} (hd : decode M.2.1 pc = .ok (.if_icmp cd off, 3)) (ht : (pc : Int) + off = (tgt : Int)) (k1 : icd cd x y → Good l ω M tgt L st μ Q) (k2 : ¬ icd cd x y → Good l ω M (pc + 3) L st μ Q) : Good l ω M pc L (.int y :: .int x :: st) μ Q :=
  fun p e s m args below meth c C => gw_icmp C hd ht (fun h => k1 h p e s m args below meth c C) (fun h => k2 h p e s m args below meth c C)
theorem gd_if {cd : Jvm.ClassFile.Cond} {off : Int} {tgt : Nat} {x : Int32} (hd : decode M.2.1 pc = .ok (.ifCond cd off, 3)) (ht : (pc : Int) + off = (tgt : Int)) (k1 : icd cd x 0 → Good l ω M tgt L st μ Q) (k2 : ¬ icd cd x 0 → Good l ω M (pc + 3) L st μ Q) : Good l ω M pc L (.int x :: st) μ Q :=
  fun p e s m args below meth c C => gw_if C hd ht (fun h => k1 h p e s m args below meth c C) (fun h => k2 h p e s m args below meth c C)
theorem gd_callV {M' : MD} {idx n q : Nat} (as : List Value) {Q' : Option Value → Mm → Prop} (hs : StV M.2.2.2.2.1 idx M' n) (hd : decode M.2.1 pc = .ok (.invokevirtual idx, 3)) (hn : as.length = n) (hR : rmOk (rmM M) M' st = true) {st0 : List Value} (h0 : st0 = as.reverse ++ .ref q :: st) (ho : oCl q M'.2.2.2.2.1 = true) (K : Ctr l ω M' (.ref q :: as) μ Q') (k : ∀ v μ', Q' v μ' → Good l ω M (pc + 3) L (v.toList ++ st) μ' Q) : Good l ω M pc L st0 μ Q := by
  subst h0
  exact fun p e s m args below meth c C => gw_callV C ⟨Nat.le_refl 0, Nat.le_refl 0⟩ hs hd ho hn hR K (fun v μ' h => k v μ' h p e s m args below meth c C)
theorem gd_callS {M' : MD} {idx n : Nat} (as : List Value) {Q' : Option Value → Mm → Prop} (hs : StS M.2.2.2.2.1 idx M' n) (hd : decode M.2.1 pc = .ok (.invokestatic idx, 3)) (hn : as.length = n) (hR : rmOk (rmM M) M' st = true) {st0 : List Value} (h0 : st0 = as.reverse ++ st) (K : Ctr l ω M' as μ Q') (k : ∀ v μ', Q' v μ' → Good l ω M (pc + 3) L (v.toList ++ st) μ' Q) : Good l ω M pc L st0 μ Q := by
  subst h0
  exact fun p e s m args below meth c C => gw_callS C ⟨Nat.le_refl 0, Nat.le_refl 0⟩ hs hd hn hR K (fun v μ' h => k v μ' h p e s m args below meth c C)
theorem gd_callN {M' : MD} {idx n : Nat} (as : List Value) {Q' : Option Value → Mm → Prop} (hs : StN M.2.2.2.2.1 idx M' n) (hd : decode M.2.1 pc = .ok (.invokestatic idx, 3)) (hn : as.length = n) (hR : rmOk (rmM M) M' st = true) {st0 : List Value} (h0 : st0 = as.reverse ++ st) (K : Ctr l ω M' as μ Q') (k : ∀ v μ', Q' v μ' → Good l ω M (pc + 3) L (v.toList ++ st) μ' Q) : Good l ω M pc L st0 μ Q := by
  subst h0
  exact fun p e s m args below meth c C => gw_callN C ⟨Nat.le_refl 0, Nat.le_refl 0⟩ hs hd hn hR K (fun v μ' h => k v μ' h p e s m args below meth c C)
theorem gd_copy {idx q0 q1 : Nat} {sp dp n : Int32} (hlink : Jvm.Cond.methodLink (RR M.2.2.2.2.1) idx arraycopyName ∈ gt) (hnat : Jvm.Cond.native arraycopyName ∈ gt) (hstat : Jvm.Cond.static arraycopyName ∈ gt) (hini : Jvm.Cond.initialized "java/lang/System" ∈ gt) (hd : decode M.2.1 pc = .ok (.invokestatic idx, 3)) (hfr : 1 ≤ (rmM M).frames) (hlo : (st.map fun v => v.category).sum + (nativeFrameWords "java/lang/System" "arraycopy" 5 + 11) ≤ (rmM M).locals)
    {n0 n1 : Nat} (s0 : shA q0 = (1, n0)) (s1 : shA q1 = (1, n1)) (h1 : ¬ sp < 0) (h2 : ¬ dp < 0) (h3 : ¬ n < 0) (h4 : sp.toNatClampNeg + n.toNatClampNeg ≤ n0) (h5 : dp.toNatClampNeg + n.toNatClampNeg ≤ n1)
    (k : Good l ω M (pc + 3) L st (ss_cp μ q0 sp.toNatClampNeg q1 dp.toNatClampNeg n.toNatClampNeg) Q) : Good l ω M pc L (.int n :: .int dp :: .ref q1 :: .int sp :: .ref q0 :: st) μ Q :=
  fun p e s m args below meth c C => gw_copy C hlink hnat hstat hini hd s0 s1 h1 h2 h3 h4 h5 hfr hlo (k p e s m args below meth c C)
theorem gd_iret {ty : FieldType} {v : Int32} (hd : decode M.2.1 pc = .ok (.ireturn, 1)) (hr : M.2.2.2.1 = some ty) (hn : narrow ty (.int v) = .int v) (hq : Q (some (.int v)) μ) : Good l ω M pc L [.int v] μ Q := by
  intro p e s m args below meth c C H locs ls hP hS hl hL
  obtain ⟨hx, hb, hml, hr', hown, hts, hnw, hK, hlk, hap⟩ := C
  exact W.zret (v := v) hx hb (by rw [hr', hr]) hn (fun t ht hW => ⟨⟨some (.int v), μ, rfl, hq, by rw [ht]; exact hP⟩, hS.F ht⟩) hS.2.2 hd hlk
theorem gd_lret {v : Int64} (hd : decode M.2.1 pc = .ok (.lreturn, 1)) (hr : M.2.2.2.1 = some .long) (hq : Q (some (.long v)) μ) : Good l ω M pc L [.long v] μ Q := by
  intro p e s m args below meth c C H locs ls hP hS hl hL
  obtain ⟨hx, hb, hml, hr', hown, hts, hnw, hK, hlk, hap⟩ := C
  exact W.lret (v := v) hx hb (by rw [hr', hr]) (fun t ht hW => ⟨⟨some (.long v), μ, rfl, hq, by rw [ht]; exact hP⟩, hS.F ht⟩) hS.2.2 hd hlk
theorem gd_vret (hd : decode M.2.1 pc = .ok (.return_, 1)) (hr : M.2.2.2.1 = none) (hq : Q none μ) : Good l ω M pc L [] μ Q := by
  intro p e s m args below meth c C H locs ls hP hS hl hL
  obtain ⟨hx, hb, hml, hr', hown, hts, hnw, hK, hlk, hap⟩ := C
  exact W.vret hx hb (by rw [hr', hr]) (fun t ht hW => ⟨⟨none, μ, rfl, hq, by rw [ht]; exact hP⟩, hS.F ht⟩) hS.2.2 hd hlk
def flt : List Value → List Value
  | [] => []
  | v :: vs => if v.category = 2 then v :: .null :: flt vs else v :: flt vs
def enL (as : List Value) (n : Nat) : List Value := flt as ++ List.replicate (n - (flt as).length) .null
theorem flt_len : ∀ as : List Value, (lg_sl (as.map (tv ω))).length = (flt as).length
  | [] => rfl
  | v :: vs => by
    have ih := flt_len vs
    unfold lg_sl at ih ⊢
    simp only [List.map_cons, List.flatMap_cons, List.length_append, flt, tv_cat, ih]
    by_cases h : v.category = 2 <;> simp [h] <;> omega
theorem enL_in : ∀ (as : List Value) (k i j : Nat) (v : Value), (flt as ++ List.replicate k Value.null)[j]? = some v → nul v = false → (i + j, tv ω v) ∈ lv_args i (as.map (tv ω))
  | [], k, i, j, v, h, hn => by
    simp only [flt, List.nil_append, List.getElem?_replicate] at h
    split at h
    · cases h; exact absurd hn (by decide)
    · cases h
  | u :: us, k, i, j, v, h, hn => by
    have ih := enL_in us k
    simp only [List.map_cons, lv_args, tv_cat]
    by_cases hc : u.category = 2
    · simp only [flt, hc, if_true, List.cons_append] at h ⊢
      rcases j with _ | _ | j
      · cases h; exact List.mem_cons_self
      · cases h; exact absurd hn (by decide)
      · have h' : (flt us ++ List.replicate k Value.null)[j]? = some v := h
        have := ih (i + 2) j v h' hn
        rw [show i + (j + 1 + 1) = i + 2 + j by omega]
        exact List.mem_cons_of_mem _ this
    · simp only [flt, hc, if_false, List.cons_append] at h ⊢
      rcases j with _ | j
      · cases h; exact List.mem_cons_self
      · have h' : (flt us ++ List.replicate k Value.null)[j]? = some v := h
        have := ih (i + 1) j v h' hn
        rw [show i + (j + 1) = i + 1 + j by omega]
        exact List.mem_cons_of_mem _ this
theorem ctr_of {as : List Value} (hy : plainName M.1.cls = true) (ho : M.1.cls = RR M.2.2.2.2.1) (hle : (flt as).length ≤ M.2.2.1) (k : Good l ω M 0 (enL as M.2.2.1) [] μ Q) : Ctr l ω M as μ Q := by
  refine Met.ofW (cc := M.2.1) (maxL := M.2.2.1) (ret := M.2.2.2.1) hy rfl ?_
  intro p e s m args below meth c s₁ B hml hv
  obtain ⟨rfl, hP, hK, hN, hap⟩ := hv
  have hts := atoms_spec (ws := wds M) B.pre
  have hl := lv_entry (as.map (tv ω)) (n := M.2.2.1) (by rw [flt_len]; exact hle)
  rw [lg_entry_eq]
  generalize (lg_sl (as.map (tv ω)) ++ List.replicate (M.2.2.1 - (lg_sl (as.map (tv ω))).length) Slot.unset).toArray = ls at hl ⊢
  have hl2 : lv_has ls M.2.2.1 (la ω (enL as M.2.2.1)) := la_sub hl (fun q hq => by
    obtain ⟨j, w⟩ := q
    obtain ⟨v, h1, h2, rfl⟩ := la_mem.mp hq
    have := enL_in (ω := ω) as _ 0 j v h1 h2
    rwa [Nat.zero_add] at this)
  exact k p e s m _ below meth c ⟨B.exec, B.bytes, hml, B.returns, by rw [← ho]; exact findClass_of_methodNamed B.named, fun w hw => hts w (List.mem_cons_of_mem _ hw), hN, hK, B.notSynchronized, hap⟩ s.heap [] ls hP va_S.rf hl2 (by unfold enL; rw [List.length_append, List.length_replicate]; omega)
theorem ctr_mono {as : List Value} {Q1 : Option Value → Mm → Prop} (h : Ctr l ω M as μ Q1) (hq : ∀ v μ', Q1 v μ' → Q v μ') : Ctr l ω M as μ Q := by
  intro p e ha hc hk s m args below hf h1 hP hK
  obtain ⟨t, o, a1, a2, a3, ⟨⟨v, μ', b1, b2, b3⟩, b4⟩, b5⟩ := h p e ha hc hk s m args below hf h1 hP hK
  exact ⟨t, o, a1, a2, a3, ⟨⟨v, μ', b1, hq v μ' b2, b3⟩, b4⟩, b5⟩
end GDS

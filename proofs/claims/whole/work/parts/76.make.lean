/-! making the cells: constructors -/
abbrev tysC (cs : ClassId × ClassId × ClassId) : List (ClassId × FieldType) := [(cs.1, .int), (cs.2.1, .long), (cs.2.2, .boolean)]
def CI (D : va_G) (cs : ClassId × ClassId × ClassId) (M : MD) (p : Program) (s : State) (m : MethodId) (args : Array Value) (meth : Method) (c : Code) : Prop :=
  p.tables.exec = Jvm.exec ∧ c.code = M.2.1 ∧ c.maxLocals = M.2.2.1 ∧ meth.sig.returnType = M.2.2.2.1 ∧ s.vm.findClass (RR M.2.2.2.2.1) = some m.cls ∧ (∀ w ∈ gt, w.before args s = true) ∧ (∀ w ∈ nw, va_Nw w s) ∧ va_K D vwCl (tysC cs) s ∧ meth.locks = false ∧ meth.name = "<init>"
def GI (D : va_G) (A : Nat → Prop) (h0 : Nat) (p : Program) (l : Launch) (e : Env) (R : Room) (s : State) (m : MethodId) (args : Array Value) (below : List Frame) (meth : Method) (c : Code) (cells slots : Nat) (Z : State → Prop) (pc : Nat) (ws : va_W) : Prop :=
  ∀ (H : Heap) (locs : List Loc) (ls : Array Slot), va_P D vwCl ws H → va_D A ws → va_S A s.heap H locs → lv_has ls 1 [(0, .ref h0)] → W p l e R s m args below meth c H locs cells slots Z (F0 m pc ls [])
def pushes (cc : ByteArray) (pc n1 : Nat) (v : Int32) : Prop := (∃ z, decode cc pc = .ok (.iconst z, 1) ∧ Int32.ofInt z = v ∧ n1 = pc + 1) ∨ (∃ z, decode cc pc = .ok (.bipush z, 2) ∧ (Int8.ofInt z).toInt32 = v ∧ n1 = pc + 2) ∨ (∃ z, decode cc pc = .ok (.sipush z, 3) ∧ (Int16.ofInt z).toInt32 = v ∧ n1 = pc + 3)
theorem nd_range : ∀ n, va_nd ((List.range n).reverse) = true
  | 0 => rfl
  | n + 1 => by
    rw [List.range_succ, List.reverse_append]
    show va_nd (n :: (List.range n).reverse) = true
    simp only [va_nd, nd_range n, Bool.and_true, decide_eq_true_eq, List.mem_reverse, List.mem_range]
    exact Nat.lt_irrefl n
theorem nd_r2 : ∀ (n k : Nat), va_nd (List.range' k n) = true
  | 0, _ => rfl
  | n + 1, k => by
    rw [List.range'_succ]
    simp only [va_nd, nd_r2 n (k + 1), Bool.and_true, decide_eq_true_eq, List.mem_range'_1]
    omega
theorem wjoin {D : va_G} {cl : List vw_C} {A0 : Nat → Prop} {ws w1 : va_W} {x : Nat × va_E} {H H1 : Heap} (hP : va_P D cl (ws ++ [x]) H) (hD : va_D A0 (ws ++ [x])) (hk : ∀ q : Nat, q < H.size → ¬ va_A [x] H.size q → H1[q]? = H[q]?) (hF : ∀ q, va_A [x] H.size q → A0 q) (hP1 : va_P D cl w1 H1) (hD1 : va_D (va_A [x] H.size) w1) : va_P D cl (ws ++ w1) H1 ∧ va_D A0 (ws ++ w1) := by
  refine va_join (wc := [x]) (wr := ws) hP hD [ws.length] (List.range' 0 ws.length) ?_ ?_ (nd_r2 _ _) ?_ hk hF hP1 hD1
  · simp
  · apply List.ext_getElem?
    intro i
    by_cases hi : i < ws.length
    · simp [hi, List.getElem?_append_left hi]
    · simp [List.getElem?_eq_none, show ws.length ≤ i by omega]
  · intro i hi
    simp at hi
    simp
    omega
section MK
variable {D : va_G} {cs : ClassId × ClassId × ClassId} {M : MD} {p : Program} {l : Launch} {e : Env} {R : Room} {s : State} {m : MethodId} {args : Array Value} {below : List Frame} {meth : Method} {c : Code} {cells slots : Nat} {Z : State → Prop} {A : Nat → Prop} {h0 : Nat} {pc : Nat}
theorem K_id {tys : List (ClassId × FieldType)} {a b : ClassId} {ty : FieldType} (hK : va_K D vwCl tys s) {i j : Nat} (hi : tys[i]? = some (a, ty)) (hj : tys[j]? = some (b, ty)) (ht : ty = .int ∨ ty = .long ∨ ty = .boolean) : a = b := by
  have h1 := (hK.2 i _ hi).2
  have h2 := (hK.2 j _ hj).2
  rcases ht with rfl | rfl | rfl
  · have e1 : s.vm.findClass ("[" ++ FieldType.int.toString) = some a := h1
    have e2 : s.vm.findClass ("[" ++ FieldType.int.toString) = some b := h2
    exact Option.some.inj (e1.symm.trans e2)
  · have e1 : s.vm.findClass ("[" ++ FieldType.long.toString) = some a := h1
    have e2 : s.vm.findClass ("[" ++ FieldType.long.toString) = some b := h2
    exact Option.some.inj (e1.symm.trans e2)
  · have e1 : s.vm.findClass ("[" ++ FieldType.boolean.toString) = some a := h1
    have e2 : s.vm.findClass ("[" ++ FieldType.boolean.toString) = some b := h2
    exact Option.some.inj (e1.symm.trans e2)
theorem gi_put (C : CI D cs M p s m args meth c) {idx ci k d : Nat} {fs : List Value} {rest : va_W} {H : Heap} {locs : List Loc} {ls : Array Slot} {v : Value} {st : List Value} (hw : flOk M.2.2.2.2.1 idx ci k d = true) (hdecl : (TT ci k).1 = RR M.2.2.2.2.1) (hn : narrow (tyT ci k) v = v) (hfit : fits (tyT ci k) v = true) (hl : k < fs.length) (hd : decode M.2.1 pc = .ok (.putfield idx, 3))
    (hP : va_P D vwCl ((h0, .inr (ci, fs)) :: rest) H) (hD : va_D A ((h0, .inr (ci, fs)) :: rest)) (hS : va_S A s.heap H locs)
    (kk : ∀ (H1 : Heap) (locs1 : List Loc), va_P D vwCl ((h0, .inr (ci, fs.set k v)) :: rest) H1 → va_D A ((h0, .inr (ci, fs.set k v)) :: rest) → va_S A s.heap H1 locs1 → W p l e R s m args below meth c H1 locs1 cells slots Z (F0 m (pc + 3) ls st)) : W p l e R s m args below meth c H locs cells slots Z (F0 m pc ls (v :: .ref h0 :: st)) := by
  obtain ⟨hx, hb, hml, hr, hown, hts, hnw, hK, hlk, hnm⟩ := C
  obtain ⟨w1, w2, w3, w4, w5⟩ := fl_use hw
  cases hfin : (TT ci k).2.2.2 with
  | false => exact va_put hx hb hts (cl_in ci w2) (tyT ci) (cl_ty ci w2) (cl_nm ci w2) hown hK hP hD hS 0 (fs := fs) rfl (cl_at ci w2) k w3 (hts _ w1) (fun _ h => h) hfin (cl_ty ci w2 k w3) hn hfit hl hd kk
  | true => exact va_putF hx hb hts (cl_in ci w2) (tyT ci) (cl_ty ci w2) (cl_nm ci w2) hown hK hP hD hS 0 (fs := fs) rfl (cl_at ci w2) k w3 (hts _ w1) (fun _ h => h) hfin hnm hdecl (cl_ty ci w2 k w3) hn hfit hl hd kk
theorem gi_push (C : CI D cs M p s m args meth c) {n1 : Nat} {v : Int32} {H : Heap} {locs : List Loc} {ls : Array Slot} {st : List Value} (d1 : pushes M.2.1 pc n1 v) (k : W p l e R s m args below meth c H locs cells slots Z (F0 m n1 ls (.int v :: st))) : W p l e R s m args below meth c H locs cells slots Z (F0 m pc ls st) := by
  rcases d1 with ⟨z, h1, h2, rfl⟩ | ⟨z, h1, h2, rfl⟩ | ⟨z, h1, h2, rfl⟩
  · exact lv_iconst C.1 C.2.1 h1 h2 k
  · exact lv_bipush C.1 C.2.1 h1 h2 k
  · exact lv_sipush C.1 C.2.1 h1 h2 k
theorem gi_start (C : CI D cs M p s m args meth c) (hm1 : M.2.2.1 = 1) {idx : Nat} {ws : va_W} (d0 : decode M.2.1 pc = .ok (.aload_n 0, 1)) (d1 : decode M.2.1 (pc + 1) = .ok (.invokespecial idx, 3)) (h1 : Jvm.Cond.methodLink (RR M.2.2.2.2.1) idx Lib.objectInit ∈ gt) (h2 : Jvm.Cond.instanceMethod Lib.objectInit ∈ gt) (h3 : Jvm.Cond.code Lib.objectInit ⟨#[0xb1]⟩ 1 none ∈ gt) (hf : 1 ≤ R.frames) (hlo : 12 ≤ R.locals) (k : GI D A h0 p l e R s m args below meth c cells slots Z (pc + 4) ws) : GI D A h0 p l e R s m args below meth c cells slots Z pc ws := by
  intro H locs ls hP hD hS hl
  obtain ⟨hx, hb, hml, hr, hown, hts, hnw, hK, hlk, hnm⟩ := C
  refine lv_aload_n hx hb d0 rfl (lv_at hl 0 rfl) ?_
  refine W.objInit hx hb hown (hts _ h1) (hts _ h2) (hts _ h3) rfl (by rw [hml, hm1]; exact hl.1) rfl d1 hf (by show 2 * 0 + 0 + 12 ≤ R.locals; omega) ?_
  exact k H locs ls hP hD hS hl
theorem gi_arr (C : CI D cs M p s m args meth c) (hA : ∀ q, s.heap.size ≤ q → A q) {idx ci k N n1 : Nat} {fs : List Value} {rest : va_W} {v : Int32} {atype : ArrayType} {ty : FieldType} {cA : ClassId} {a0 : vp_A} (i : Nat) (hi : (tysC cs)[i]? = some (cA, ty)) (ht : ty = .int ∨ ty = .long ∨ ty = .boolean) (hat : newarray.typeOf atype = ty) (harr : Jvm.Cond.arrayClass (newarray.typeOf atype) ∈ gt) (ha : ∀ cA : ClassId, vp_cell cA a0 = arrV cA N (fun _ => defaultValue ty)) (hv : ¬ v < 0) (hN : v.toNatClampNeg = N) (hby : N * componentBytes ty ≤ 536870912) (hc : cells + 1 ≤ R.cells) (hs : slots + N ≤ R.slots)
    (d0 : decode M.2.1 pc = .ok (.aload_n 0, 1)) (d1 : pushes M.2.1 (pc + 1) n1 v) (d2 : decode M.2.1 n1 = .ok (.newarray atype, 2)) (hw : flOk M.2.2.2.2.1 idx ci k 2 = true) (hdecl : (TT ci k).1 = RR M.2.2.2.2.1) (hn : ∀ a, narrow (tyT ci k) (.ref a) = .ref a) (hfit : ∀ a, fits (tyT ci k) (.ref a) = true) (hl0 : k < fs.length) (d3 : decode M.2.1 (n1 + 2) = .ok (.putfield idx, 3))
    (k' : ∀ a, GI D A h0 p l e R s m args below meth c (cells + 1) (slots + N) Z (n1 + 2 + 3) ((h0, .inr (ci, fs.set k (.ref a))) :: (rest ++ [(a, .inl (cA, a0))]))) : GI D A h0 p l e R s m args below meth c cells slots Z pc ((h0, .inr (ci, fs)) :: rest) := by
  intro H locs ls hP hD hS hl
  have C0 := C
  obtain ⟨hx, hb, hml, hr, hown, hts, hnw, hK, hlk, hnm⟩ := C
  refine lv_aload_n hx hb d0 rfl (lv_at hl 0 rfl) ?_
  refine gi_push C0 d1 ?_
  refine va_newa hx hb (hts _ harr) hat hK hP hD hS hA ha hv hN hby hc hs d2 (fun q cB H1 hK1 hP1 hD1 hS1 => ?_)
  have e : cB = cA := K_id hK1 (i := 3) (j := i) rfl (by
    have : i < 3 := (List.getElem?_eq_some_iff.mp hi).1
    rw [List.getElem?_append_left this]; exact hi) ht
  subst e
  exact gi_put C0 hw hdecl (hn q) (hfit q) hl0 d3 hP1 hD1 hS1 (fun H2 locs2 hP2 hD2 hS2 => k' q H2 locs2 ls hP2 hD2 hS2 hl)
theorem gi_long (C : CI D cs M p s m args meth c) {idx ci k : Nat} {fs : List Value} {rest : va_W} {z : Fin 2} {v : Int64} (d0 : decode M.2.1 pc = .ok (.aload_n 0, 1)) (d1 : decode M.2.1 (pc + 1) = .ok (.lconst z, 1)) (hz : Int64.ofNat (z : Nat) = v) (hw : flOk M.2.2.2.2.1 idx ci k 1 = true) (hdecl : (TT ci k).1 = RR M.2.2.2.2.1) (hn : narrow (tyT ci k) (.long v) = .long v) (hfit : fits (tyT ci k) (.long v) = true) (hl0 : k < fs.length) (d3 : decode M.2.1 (pc + 2) = .ok (.putfield idx, 3))
    (k' : GI D A h0 p l e R s m args below meth c cells slots Z (pc + 2 + 3) ((h0, .inr (ci, fs.set k (.long v))) :: rest)) : GI D A h0 p l e R s m args below meth c cells slots Z pc ((h0, .inr (ci, fs)) :: rest) := by
  intro H locs ls hP hD hS hl
  refine lv_aload_n C.1 C.2.1 d0 rfl (lv_at hl 0 rfl) ?_
  refine lv_lconst C.1 C.2.1 d1 hz ?_
  exact gi_put C hw hdecl hn hfit hl0 d3 hP hD hS (fun H2 locs2 hP2 hD2 hS2 => k' H2 locs2 ls hP2 hD2 hS2 hl)
def rmK (M : MD) (mc ms : Nat) : Room := { frames := M.2.2.2.2.2.1, cells := mc, slots := ms, locals := M.2.2.2.2.2.2 }
def PreI (D : va_G) (cs : ClassId × ClassId × ClassId) (ci : Nat) (fs : List Value) (h0 sz : Nat) (U : State) : Prop := U.heap.size = sz ∧ va_P D vwCl [(h0, .inr (ci, fs))] U.heap ∧ va_K D vwCl (tysC cs) U ∧ (∀ w ∈ nw, va_Nw w U) ∧ va_D (fun _ => True) [(h0, .inr (ci, fs))]
def Cin (l : Launch) (D : va_G) (cs : ClassId × ClassId × ClassId) (M : MD) (ci : Nat) (fs : List Value) (mc ms : Nat) (B : Nat → va_W → Prop) : Prop :=
  ∀ (h0 sz : Nat), Met l M.1 (wds M) (rmK M mc ms) (va_Pc [.ref h0] (PreI D cs ci fs h0 sz)) (va_Qv (B h0) (fun u t => va_P D vwCl u t.heap ∧ va_D (va_A [(h0, .inr (ci, fs))] sz) u) (va_A [(h0, .inr (ci, fs))] sz)) mc ms (va_A [(h0, .inr (ci, fs))] sz)
theorem preI_blind {ci : Nat} {fs : List Value} {h0 sz : Nat} : FrameBlind (va_Pc [.ref h0] (PreI D cs ci fs h0 sz)) := by
  intro a U g mk q
  obtain ⟨q0, q1, qP, qK, qN, qA⟩ := q
  refine ⟨q0, q1, qP, va_K.moved (u := U) (U := U.calling g mk a) (Vm.Alike.refl U.vm) qK, fun w hw => ?_, qA⟩
  obtain ⟨a1, i, x, y, rfl⟩ := nw_is hw
  exact va_Nw.same (u := U) (U := U.calling g mk a) rfl rfl (qN _ hw)
theorem gi_obj (C : CI D cs M p s m args meth c) (hA : ∀ q, s.heap.size ≤ q → A q) {M' : MD} {idx1 idx2 idx3 ci k cj mc ms : Nat} {fs fs' : List Value} {rest : va_W} {B : Nat → va_W → Prop} (K : Cin l D cs M' cj fs' mc ms B) (hM : MOk M') (hnm' : M'.1.name = "<init>") (hdesc : (parseMethodDescriptor M'.1.desc).map (fun d => d.parameters.length) = some 0) (hret : M'.2.2.2.1 = none) (hcj : cj < 8) (how : M'.2.2.2.2.1 = cj)
    (hlink : Jvm.Cond.classLink (RR M.2.2.2.2.1) idx1 (RR cj) ∈ gt) (hinst : Jvm.Cond.instantiable (RR cj) (NN.getD cj 0) ∈ gt) (hfs : ∀ j, j < NN.getD cj 0 → defaultValue (tyT cj j) = vp_V fs' j) (hnest : ∃ host, Jvm.Cond.methodLinkNest (RR M.2.2.2.2.1) idx2 M'.1 host ∈ nw) (hin : Jvm.Cond.instanceMethod M'.1 ∈ gt) (hc : cells + 1 + mc ≤ R.cells) (hs : slots + NN.getD cj 0 + ms ≤ R.slots) (hfr : M'.2.2.2.2.2.1 + 1 ≤ R.frames) (hlo : 8 + (M'.2.2.1 + 11) + M'.2.2.2.2.2.2 ≤ R.locals) (hm1 : M.2.2.1 = 1)
    (d0 : decode M.2.1 pc = .ok (.aload_n 0, 1)) (d1 : decode M.2.1 (pc + 1) = .ok (.new idx1, 3)) (d2 : decode M.2.1 (pc + 4) = .ok (.dup, 1)) (d3 : decode M.2.1 (pc + 5) = .ok (.invokespecial idx2, 3)) (hw : flOk M.2.2.2.2.1 idx3 ci k 2 = true) (hdecl : (TT ci k).1 = RR M.2.2.2.2.1) (hn : ∀ a, narrow (tyT ci k) (.ref a) = .ref a) (hfit : ∀ a, fits (tyT ci k) (.ref a) = true) (hl0 : k < fs.length) (d4 : decode M.2.1 (pc + 8) = .ok (.putfield idx3, 3))
    (k' : ∀ a u, B a u → GI D A h0 p l e R s m args below meth c (cells + 1 + mc) (slots + NN.getD cj 0 + ms) Z (pc + 8 + 3) ((h0, .inr (ci, fs.set k (.ref a))) :: (rest ++ u))) : GI D A h0 p l e R s m args below meth c cells slots Z pc ((h0, .inr (ci, fs)) :: rest) := by
  intro H locs ls hP hD hS hl
  have C0 := C
  obtain ⟨hx, hb, hml, hr, hown, hts, hnw, hK, hlk, hnm⟩ := C
  refine lv_aload_n hx hb d0 rfl (lv_at hl 0 rfl) ?_
  have hini : Jvm.Cond.initialized (RR cj) ∈ gt := by have := hM.2.1; rw [hM.2.2.2, how] at this; exact this
  refine va_new (ci := cj) (fs := fs') hx hb hts (cl_in cj hcj) (tyT cj) (cl_ty cj hcj) hown (hts _ hlink) (hts _ hinst) (hts _ hini) hK hP hD hS hA (cl_at cj hcj) hfs (by omega) (by omega) d1 (fun q H1 hP1 hD1 hS1 => ?_)
  refine lv_dup hx hb d2 rfl ?_
  have hFc := va_free (wc := [(q, .inr (cj, fs'))]) hD1 hS1 hA [rest.length + 1] (by simp)
  have hPc : va_P D vwCl [(q, .inr (cj, fs'))] H1 := hP1.sub [rest.length + 1] (by simp)
  have hDc : va_D A [(q, .inr (cj, fs'))] := hD1.sub [rest.length + 1] (by simp [va_nd]) (by simp)
  obtain ⟨host, hne⟩ := hnest
  have cn : va_CN R s args (RR M.2.2.2.2.1) idx2 M'.1 host M'.2.1 M'.2.2.1 none (wds M') (rmK M' mc ms) mc ms 0 := by
    have := va_cnB (R := R) (s := s) (args := args) (rm := rmK M' mc ms) (mc := mc) (ms := ms) 0 hts (wds_good hM.1) rfl rfl rfl (hnw _ hne) (hts _ hM.2.1) ⟨hM.2.2.1.1, hM.2.2.1.2, hdesc⟩ ⟨hfr, hlo⟩
    rw [hret] at this
    exact this
  have hrun := va_runIN (g := F0 m (pc + 5) ls [.ref q, .ref q, .ref h0]) (b := q) (As := []) (rest := [.ref q, .ref h0]) (locs := locs) (cells := cells + 1) (slots := slots + NN.getD cj 0) (below := below) (meth := meth) (e := e) ⟨hx, hb, hml, hown, hts⟩ (K q H1.size) ⟨cn, hnm', hts _ hin⟩ ⟨preI_blind, fun U hU hW => ⟨rfl, by rw [hU], by rw [hU]; exact hPc, va_K.moved hW.alike hK, nw_warm hW hnw, hDc.weaken (fun _ _ _ _ => trivial)⟩⟩ rfl rfl (by rw [hm1]; exact hl.1) rfl (lv_room (Nat.le_of_ble_eq_true rfl)) d3 ⟨by omega, by omega⟩
  refine va_callv hrun hS1 (fun q' _ h => hFc q' h) hFc (fun u t H2 locs2 ht hvm hw' hB hz1 hk1 hS2 => ?_)
  obtain ⟨hP2, hD2⟩ := hB
  rw [ht] at hP2
  obtain ⟨hP3, hD3⟩ := wjoin hP1 hD1 hk1 hFc hP2 hD2
  exact gi_put C0 hw hdecl (hn q) (hfit q) hl0 d4 hP3 hD3 hS2 (fun H4 locs4 hP4 hD4 hS4 => k' q u hw' H4 locs4 ls hP4 hD4 hS4 hl)
theorem ci_of {ci mc ms : Nat} {fs : List Value} {B : Nat → va_W → Prop} (hy : plainName M.1.cls = true) (ho : M.1.cls = RR M.2.2.2.2.1) (hm1 : M.2.2.1 = 1) (hret : M.2.2.2.1 = none) (hn : M.1.name = "<init>")
    (k : ∀ (h0 : Nat) (p : Program) (e : Env) (s : State) (m : MethodId) (args : Array Value) (below : List Frame) (meth : Method) (c : Code) (A : Nat → Prop) (Z : State → Prop), CI D cs M p s m args meth c → (∀ q, s.heap.size ≤ q → A q) → (∀ (u : va_W) (pc : Nat), B h0 u → decode M.2.1 pc = .ok (.return_, 1) → GI D A h0 p l e (rmK M mc ms) s m args below meth c mc ms Z pc u) → GI D A h0 p l e (rmK M mc ms) s m args below meth c 0 0 Z 0 [(h0, .inr (ci, fs))]) : Cin l D cs M ci fs mc ms B := by
  intro h0 sz
  refine Met.ofW (cc := M.2.1) (maxL := M.2.2.1) (ret := M.2.2.2.1) hy rfl ?_
  intro p e s m args below meth c s₁ Bd hml hv
  obtain ⟨rfl, hsz, hP, hK, hN, hD0⟩ := hv
  have hts := atoms_spec (ws := wds M) Bd.pre
  have hin : meth.name = M.1.name := (name_of_methodNamed Bd.named Bd.method).1
  subst hsz
  have hD := hD0.self (sz := s.heap.size)
  have hl := lv_entry ([.ref h0]) (n := M.2.2.1) (by rw [hm1]; exact Nat.le_of_ble_eq_true rfl)
  rw [lg_entry_eq]
  generalize (lg_sl ([.ref h0]) ++ List.replicate (M.2.2.1 - (lg_sl ([.ref h0])).length) Slot.unset).toArray = ls at hl ⊢
  have hl2 : lv_has ls 1 [(0, .ref h0)] := by rw [hm1] at hl; exact hl
  have C : CI D cs M p s m [Value.ref h0].toArray meth c := ⟨Bd.exec, Bd.bytes, hml, Bd.returns, by rw [← ho]; exact findClass_of_methodNamed Bd.named, fun w hw => hts w (List.mem_cons_of_mem _ hw), hN, hK, Bd.notSynchronized, by rw [hin, hn]⟩
  refine k h0 p e s m _ below meth c (va_A [(h0, .inr (ci, fs))] s.heap.size) _ C (fun q h => Or.inr h) (fun u pc hB hd => ?_) s.heap [] ls hP hD va_S.rf hl2
  intro H locs ls' hP' hD' hS' hl'
  exact W.vret Bd.exec Bd.bytes (by rw [Bd.returns, hret]) (fun t ht hW => ⟨⟨u, rfl, hB, by rw [ht]; exact hP', hD'⟩, hS'.F ht⟩) hS'.2.2 hd Bd.notSynchronized
end MK

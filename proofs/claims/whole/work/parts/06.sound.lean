/-! the straight instructions on the machine -/
abbrev MD : Type := MethodName × ByteArray × Nat × Option FieldType × Nat × Nat × Nat
def isNest : Cond → Bool
  | .methodLinkNest .. => true
  | _ => false
def nw : List Cond := lw_tbl.filter isNest
theorem nw_is {w : Cond} (h : w ∈ nw) : ∃ a i x y, w = .methodLinkNest a i x y := by
  have h2 := (List.mem_filter.mp h).2
  cases w <;> first | exact ⟨_, _, _, _, rfl⟩ | exact absurd h2 Bool.false_ne_true
theorem nw_warm {s U : State} (hW : s.WarmedH U.vm) (h : ∀ w ∈ nw, va_Nw w s) : ∀ w ∈ nw, va_Nw w U := by
  intro w hw
  obtain ⟨a, i, x, y, rfl⟩ := nw_is hw
  exact va_Nw.warmM hW (h _ hw)
def Cx (ω : Wd) (M : MD) (p : Program) (s : State) (m : MethodId) (args : Array Value) (meth : Method) (c : Code) : Prop :=
  p.tables.exec = Jvm.exec ∧ c.code = M.2.1 ∧ c.maxLocals = M.2.2.1 ∧ meth.sig.returnType = M.2.2.2.1 ∧ s.vm.findClass (RR M.2.2.2.2.1) = some m.cls ∧ (∀ w ∈ gt, w.before args s = true) ∧ (∀ w ∈ nw, va_Nw w s) ∧ va_K (wD ω) vwCl (tys3 ω) s ∧ meth.locks = false ∧ wAp ω
def GW (ω : Wd) (M : MD) (p : Program) (l : Launch) (e : Env) (R : Room) (s : State) (m : MethodId) (args : Array Value) (below : List Frame) (meth : Method) (c : Code) (cells slots : Nat) (Z : State → Prop) (pc : Nat) (L st : List Value) (μ : Mm) : Prop :=
  ∀ (H : Heap) (locs : List Loc) (ls : Array Slot), va_P (wD ω) vwCl (cW ω μ) H → va_S (wA ω) s.heap H locs → lv_has ls M.2.2.1 (la ω L) → L.length = M.2.2.1 → W p l e R s m args below meth c H locs cells slots Z (F0 m pc ls (st.map (tv ω)))
theorem la_set1 {ω : Wd} {L : List Value} {i : Nat} {v : Value} (hn : noL L i = true) : ∀ q ∈ la ω (L.set i v), q ∈ (i, tv ω v) :: (la ω L).filter (fun q => !(q.1 == i) && !(q.1 + 1 == i && q.2.category == 2)) := by
  rintro ⟨j, w⟩ hq
  obtain ⟨u, h1, h2, rfl⟩ := la_mem.mp hq
  by_cases hj : j = i
  · subst hj
    rw [List.getElem?_set] at h1
    simp only [if_true] at h1
    split at h1
    · cases h1; exact List.mem_cons_self
    · cases h1
  · rw [List.getElem?_set_ne (Ne.symm hj)] at h1
    refine List.mem_cons_of_mem _ (List.mem_filter.mpr ⟨la_mem.mpr ⟨u, h1, h2, rfl⟩, ?_⟩)
    by_cases hj2 : j + 1 = i
    · subst hj2
      unfold noL at hn
      simp only [h1] at hn
      have hc : u.category = 1 := by simpa using hn
      simp [tv_cat, hc]
    · simp [hj, hj2]
theorem la_set2 {ω : Wd} {L : List Value} {i : Nat} {v : Value} (hn : noL L i = true) : ∀ q ∈ la ω ((L.set i v).set (i + 1) .null), q ∈ (i, tv ω v) :: (la ω L).filter (fun q => !(q.1 == i) && (!(q.1 == i + 1) && !(q.1 + 1 == i && q.2.category == 2))) := by
  rintro ⟨j, w⟩ hq
  obtain ⟨u, h1, h2, rfl⟩ := la_mem.mp hq
  by_cases hj1 : j = i + 1
  · subst hj1
    rw [List.getElem?_set] at h1
    simp only [if_true] at h1
    split at h1
    · cases h1; exact absurd h2 (by decide)
    · cases h1
  rw [List.getElem?_set_ne (Ne.symm hj1)] at h1
  by_cases hj : j = i
  · subst hj
    rw [List.getElem?_set] at h1
    simp only [if_true] at h1
    split at h1
    · cases h1; exact List.mem_cons_self
    · cases h1
  · rw [List.getElem?_set_ne (Ne.symm hj)] at h1
    refine List.mem_cons_of_mem _ (List.mem_filter.mpr ⟨la_mem.mpr ⟨u, h1, h2, rfl⟩, ?_⟩)
    by_cases hj2 : j + 1 = i
    · subst hj2
      unfold noL at hn
      simp only [h1] at hn
      have hc : u.category = 1 := by simpa using hn
      simp [tv_cat, hc]; omega
    · simp [hj, hj1, hj2]
theorem b3 {a b c : Bool} (h : (a && b && c) = true) : a = true ∧ b = true ∧ c = true := by
  revert a b c; decide
theorem b2 {a b : Bool} (h : (a && b) = true) : a = true ∧ b = true := by
  revert a b; decide
theorem b4 {a b c d : Bool} (h : (a && b && c && d) = true) : a = true ∧ b = true ∧ c = true ∧ d = true := by
  revert a b c d; decide
theorem f2 {a b : Bool} (h : (b && a) = true) : a = true ∧ b = true := by
  revert a b; decide
theorem f3 {a b c : Bool} (h : (b && (c && a)) = true) : a = true ∧ b = true ∧ c = true := by
  revert a b c; decide
theorem f4 {a b c d : Bool} (h : (b && (c && (d && a))) = true) : a = true ∧ b = true ∧ c = true ∧ d = true := by
  revert a b c d; decide
theorem fa {a b : Bool} (h : a = true) (k : b = true) : (a && b) = true := by
  rw [h, k]; rfl
section GWS
variable {ω : Wd} {M : MD} {p : Program} {l : Launch} {e : Env} {R : Room} {s : State} {m : MethodId} {args : Array Value} {below : List Frame} {meth : Method} {c : Code} {cells slots : Nat} {Z : State → Prop} {pc n : Nat}
theorem gw_P {v : Value} {x : Sx} (row : ∀ {H : Heap} {locs : List Loc} {ls : Array Slot} {rest : List Value}, W p l e R s m args below meth c H locs cells slots Z (F0 m n ls (tv ω v :: rest)) → W p l e R s m args below meth c H locs cells slots Z (F0 m pc ls rest)) (k : GW ω M p l e R s m args below meth c cells slots Z n (xP v x).1 (xP v x).2.1 (xP v x).2.2.1) : GW ω M p l e R s m args below meth c cells slots Z pc x.1 x.2.1 x.2.2.1 :=
  fun H locs ls hP hS hl hL => row (k H locs ls hP hS hl hL)
theorem gw_Li {i : Nat} {x : Sx} (row : ∀ {H : Heap} {locs : List Loc} {ls : Array Slot} {rest : List Value} {v : Int32}, ls[i]? = some (.val (.int v)) → W p l e R s m args below meth c H locs cells slots Z (F0 m n ls (.int v :: rest)) → W p l e R s m args below meth c H locs cells slots Z (F0 m pc ls rest)) (hf : (xLi i x).2.2.2 = true) (k : GW ω M p l e R s m args below meth c cells slots Z n (xLi i x).1 (xLi i x).2.1 (xLi i x).2.2.1) : GW ω M p l e R s m args below meth c cells slots Z pc x.1 x.2.1 x.2.2.1 := by
  unfold xLi at hf k
  intro H locs ls hP hS hl hL
  cases h : x.1[i]? with
  | none => rw [h] at hf; exact absurd hf Bool.false_ne_true
  | some v =>
    rw [h] at hf k
    cases v <;> first | exact absurd hf Bool.false_ne_true | exact row (la_has hl h rfl) (k H locs ls hP hS hl hL)
theorem gw_Ll {i : Nat} {x : Sx} (row : ∀ {H : Heap} {locs : List Loc} {ls : Array Slot} {rest : List Value} {v : Int64}, ls[i]? = some (.val (.long v)) → W p l e R s m args below meth c H locs cells slots Z (F0 m n ls (.long v :: rest)) → W p l e R s m args below meth c H locs cells slots Z (F0 m pc ls rest)) (hf : (xLl i x).2.2.2 = true) (k : GW ω M p l e R s m args below meth c cells slots Z n (xLl i x).1 (xLl i x).2.1 (xLl i x).2.2.1) : GW ω M p l e R s m args below meth c cells slots Z pc x.1 x.2.1 x.2.2.1 := by
  unfold xLl at hf k
  intro H locs ls hP hS hl hL
  cases h : x.1[i]? with
  | none => rw [h] at hf; exact absurd hf Bool.false_ne_true
  | some v =>
    rw [h] at hf k
    cases v <;> first | exact absurd hf Bool.false_ne_true | exact row (la_has hl h rfl) (k H locs ls hP hS hl hL)
theorem gw_La {i : Nat} {x : Sx} (row : ∀ {H : Heap} {locs : List Loc} {ls : Array Slot} {rest : List Value} {v : Nat}, ls[i]? = some (.val (.ref v)) → W p l e R s m args below meth c H locs cells slots Z (F0 m n ls (.ref v :: rest)) → W p l e R s m args below meth c H locs cells slots Z (F0 m pc ls rest)) (hf : (xLa i x).2.2.2 = true) (k : GW ω M p l e R s m args below meth c cells slots Z n (xLa i x).1 (xLa i x).2.1 (xLa i x).2.2.1) : GW ω M p l e R s m args below meth c cells slots Z pc x.1 x.2.1 x.2.2.1 := by
  unfold xLa at hf k
  intro H locs ls hP hS hl hL
  cases h : x.1[i]? with
  | none => rw [h] at hf; exact absurd hf Bool.false_ne_true
  | some v =>
    rw [h] at hf k
    cases v <;> first | exact absurd hf Bool.false_ne_true | exact row (la_has hl h rfl) (k H locs ls hP hS hl hL)
theorem gw_Si {i : Nat} {x : Sx} (row : ∀ {H : Heap} {locs : List Loc} {ls : Array Slot} {rest : List Value} {v : Int32} {lv : List (Nat × Value)}, lv_has ls M.2.2.1 lv → i < M.2.2.1 → (∀ ls' : Array Slot, lv_has ls' M.2.2.1 ((i, Value.int v) :: lv.filter (fun q => !(q.1 == i) && !(q.1 + 1 == i && q.2.category == 2))) → W p l e R s m args below meth c H locs cells slots Z (F0 m n ls' rest)) → W p l e R s m args below meth c H locs cells slots Z (F0 m pc ls (.int v :: rest))) (hf : (xSi i x).2.2.2 = true) (k : GW ω M p l e R s m args below meth c cells slots Z n (xSi i x).1 (xSi i x).2.1 (xSi i x).2.2.1) : GW ω M p l e R s m args below meth c cells slots Z pc x.1 x.2.1 x.2.2.1 := by
  obtain ⟨L, st, μ, f⟩ := x
  rcases st with _ | ⟨v, st⟩
  · exact absurd hf Bool.false_ne_true
  cases v <;> try exact absurd hf Bool.false_ne_true
  intro H locs ls hP hS hl hL
  obtain ⟨h1, h2, h3⟩ := f3 hf
  have hL : L.length = M.2.2.1 := hL
  exact row hl (by rw [← hL]; exact of_decide_eq_true h2) (fun ls' hl' => k H locs ls' hP hS (la_sub hl' (la_set1 h3)) (by show (L.set _ _).length = _; rw [List.length_set]; exact hL))
theorem gw_Sa {i : Nat} {x : Sx} (row : ∀ {H : Heap} {locs : List Loc} {ls : Array Slot} {rest : List Value} {v : Nat} {lv : List (Nat × Value)}, lv_has ls M.2.2.1 lv → i < M.2.2.1 → (∀ ls' : Array Slot, lv_has ls' M.2.2.1 ((i, Value.ref v) :: lv.filter (fun q => !(q.1 == i) && !(q.1 + 1 == i && q.2.category == 2))) → W p l e R s m args below meth c H locs cells slots Z (F0 m n ls' rest)) → W p l e R s m args below meth c H locs cells slots Z (F0 m pc ls (.ref v :: rest))) (hf : (xSa i x).2.2.2 = true) (k : GW ω M p l e R s m args below meth c cells slots Z n (xSa i x).1 (xSa i x).2.1 (xSa i x).2.2.1) : GW ω M p l e R s m args below meth c cells slots Z pc x.1 x.2.1 x.2.2.1 := by
  obtain ⟨L, st, μ, f⟩ := x
  rcases st with _ | ⟨v, st⟩
  · exact absurd hf Bool.false_ne_true
  cases v <;> try exact absurd hf Bool.false_ne_true
  intro H locs ls hP hS hl hL
  obtain ⟨h1, h2, h3⟩ := f3 hf
  have hL : L.length = M.2.2.1 := hL
  exact row hl (by rw [← hL]; exact of_decide_eq_true h2) (fun ls' hl' => k H locs ls' hP hS (la_sub hl' (la_set1 h3)) (by show (L.set _ _).length = _; rw [List.length_set]; exact hL))
theorem gw_Sl {i : Nat} {x : Sx} (row : ∀ {H : Heap} {locs : List Loc} {ls : Array Slot} {rest : List Value} {v : Int64} {lv : List (Nat × Value)}, lv_has ls M.2.2.1 lv → i + 1 < M.2.2.1 → (∀ ls' : Array Slot, lv_has ls' M.2.2.1 ((i, Value.long v) :: lv.filter (fun q => !(q.1 == i) && (!(q.1 == i + 1) && !(q.1 + 1 == i && q.2.category == 2)))) → W p l e R s m args below meth c H locs cells slots Z (F0 m n ls' rest)) → W p l e R s m args below meth c H locs cells slots Z (F0 m pc ls (.long v :: rest))) (hf : (xSl i x).2.2.2 = true) (k : GW ω M p l e R s m args below meth c cells slots Z n (xSl i x).1 (xSl i x).2.1 (xSl i x).2.2.1) : GW ω M p l e R s m args below meth c cells slots Z pc x.1 x.2.1 x.2.2.1 := by
  obtain ⟨L, st, μ, f⟩ := x
  rcases st with _ | ⟨v, st⟩
  · exact absurd hf Bool.false_ne_true
  cases v <;> try exact absurd hf Bool.false_ne_true
  intro H locs ls hP hS hl hL
  obtain ⟨h1, h2, h3⟩ := f3 hf
  have hL : L.length = M.2.2.1 := hL
  exact row hl (by rw [← hL]; exact of_decide_eq_true h2) (fun ls' hl' => k H locs ls' hP hS (la_sub hl' (la_set2 h3)) (by show ((L.set _ _).set _ _).length = _; rw [List.length_set, List.length_set]; exact hL))
theorem gw_Inc {i : Nat} {z : Int} {x : Sx} (row : ∀ {H : Heap} {locs : List Loc} {ls : Array Slot} {rest : List Value} {v : Int32} {j : Nat} {lv : List (Nat × Value)}, lv_has ls M.2.2.1 lv → lv[j]? = some (i, .int v) → i < M.2.2.1 → (∀ ls' : Array Slot, lv_has ls' M.2.2.1 ((i, Value.int (v + Int32.ofInt z)) :: lv.filter (fun q => !(q.1 == i) && !(q.1 + 1 == i && q.2.category == 2))) → W p l e R s m args below meth c H locs cells slots Z (F0 m n ls' rest)) → W p l e R s m args below meth c H locs cells slots Z (F0 m pc ls rest)) (hf : (xInc i z x).2.2.2 = true) (k : GW ω M p l e R s m args below meth c cells slots Z n (xInc i z x).1 (xInc i z x).2.1 (xInc i z x).2.2.1) : GW ω M p l e R s m args below meth c cells slots Z pc x.1 x.2.1 x.2.2.1 := by
  obtain ⟨L, st, μ, f⟩ := x
  unfold xInc at hf k
  intro H locs ls hP hS hl hL
  have hL : L.length = M.2.2.1 := hL
  cases h : L[i]? with
  | none => simp only [h] at hf; exact absurd hf Bool.false_ne_true
  | some v =>
    simp only [h] at hf k
    cases v <;> first | exact absurd hf Bool.false_ne_true | skip
    obtain ⟨h1, h2, h3⟩ := f3 hf
    obtain ⟨j, hj⟩ := List.getElem?_of_mem (la_mem (ω := ω).mpr ⟨_, h, rfl, rfl⟩)
    exact row hl hj (by rw [← hL]; exact of_decide_eq_true h2) (fun ls' hl' => k H locs ls' hP hS (la_sub hl' (la_set1 h3)) (by show (L.set _ _).length = _; rw [List.length_set]; exact hL))
theorem gw_II {g : Int32 → Int32 → Int32} {x : Sx} (row : ∀ {H : Heap} {locs : List Loc} {ls : Array Slot} {rest : List Value} {a b : Int32}, W p l e R s m args below meth c H locs cells slots Z (F0 m n ls (.int (g a b) :: rest)) → W p l e R s m args below meth c H locs cells slots Z (F0 m pc ls (.int b :: .int a :: rest))) (hf : (xII g x).2.2.2 = true) (k : GW ω M p l e R s m args below meth c cells slots Z n (xII g x).1 (xII g x).2.1 (xII g x).2.2.1) : GW ω M p l e R s m args below meth c cells slots Z pc x.1 x.2.1 x.2.2.1 := by
  obtain ⟨L, st, μ, f⟩ := x
  rcases st with _ | ⟨v, _ | ⟨w, st⟩⟩
  · exact absurd hf Bool.false_ne_true
  · cases v <;> exact absurd hf Bool.false_ne_true
  cases v <;> try exact absurd hf Bool.false_ne_true
  cases w <;> try exact absurd hf Bool.false_ne_true
  exact fun H locs ls hP hS hl hL => row (k H locs ls hP hS hl hL)
theorem gw_IIn {g : Int32 → Int32 → Int32} {x : Sx} (row : ∀ {H : Heap} {locs : List Loc} {ls : Array Slot} {rest : List Value} {a b : Int32}, ¬ b = 0 → W p l e R s m args below meth c H locs cells slots Z (F0 m n ls (.int (g a b) :: rest)) → W p l e R s m args below meth c H locs cells slots Z (F0 m pc ls (.int b :: .int a :: rest))) (hf : (xIIn g x).2.2.2 = true) (k : GW ω M p l e R s m args below meth c cells slots Z n (xIIn g x).1 (xIIn g x).2.1 (xIIn g x).2.2.1) : GW ω M p l e R s m args below meth c cells slots Z pc x.1 x.2.1 x.2.2.1 := by
  obtain ⟨L, st, μ, f⟩ := x
  rcases st with _ | ⟨v, _ | ⟨w, st⟩⟩
  · exact absurd hf Bool.false_ne_true
  · cases v <;> exact absurd hf Bool.false_ne_true
  cases v <;> try exact absurd hf Bool.false_ne_true
  cases w <;> try exact absurd hf Bool.false_ne_true
  exact fun H locs ls hP hS hl hL => row (of_decide_eq_true (f2 hf).2) (k H locs ls hP hS hl hL)
theorem gw_JJ {g : Int64 → Int64 → Int64} {x : Sx} (row : ∀ {H : Heap} {locs : List Loc} {ls : Array Slot} {rest : List Value} {a b : Int64}, W p l e R s m args below meth c H locs cells slots Z (F0 m n ls (.long (g a b) :: rest)) → W p l e R s m args below meth c H locs cells slots Z (F0 m pc ls (.long b :: .long a :: rest))) (hf : (xJJ g x).2.2.2 = true) (k : GW ω M p l e R s m args below meth c cells slots Z n (xJJ g x).1 (xJJ g x).2.1 (xJJ g x).2.2.1) : GW ω M p l e R s m args below meth c cells slots Z pc x.1 x.2.1 x.2.2.1 := by
  obtain ⟨L, st, μ, f⟩ := x
  rcases st with _ | ⟨v, _ | ⟨w, st⟩⟩
  · exact absurd hf Bool.false_ne_true
  · cases v <;> exact absurd hf Bool.false_ne_true
  cases v <;> try exact absurd hf Bool.false_ne_true
  cases w <;> try exact absurd hf Bool.false_ne_true
  exact fun H locs ls hP hS hl hL => row (k H locs ls hP hS hl hL)
theorem gw_JJn {g : Int64 → Int64 → Int64} {x : Sx} (row : ∀ {H : Heap} {locs : List Loc} {ls : Array Slot} {rest : List Value} {a b : Int64}, ¬ b = 0 → W p l e R s m args below meth c H locs cells slots Z (F0 m n ls (.long (g a b) :: rest)) → W p l e R s m args below meth c H locs cells slots Z (F0 m pc ls (.long b :: .long a :: rest))) (hf : (xJJn g x).2.2.2 = true) (k : GW ω M p l e R s m args below meth c cells slots Z n (xJJn g x).1 (xJJn g x).2.1 (xJJn g x).2.2.1) : GW ω M p l e R s m args below meth c cells slots Z pc x.1 x.2.1 x.2.2.1 := by
  obtain ⟨L, st, μ, f⟩ := x
  rcases st with _ | ⟨v, _ | ⟨w, st⟩⟩
  · exact absurd hf Bool.false_ne_true
  · cases v <;> exact absurd hf Bool.false_ne_true
  cases v <;> try exact absurd hf Bool.false_ne_true
  cases w <;> try exact absurd hf Bool.false_ne_true
  exact fun H locs ls hP hS hl hL => row (of_decide_eq_true (f2 hf).2) (k H locs ls hP hS hl hL)
theorem gw_JI {g : Int64 → Int32 → Int64} {x : Sx} (row : ∀ {H : Heap} {locs : List Loc} {ls : Array Slot} {rest : List Value} {a : Int64} {b : Int32}, W p l e R s m args below meth c H locs cells slots Z (F0 m n ls (.long (g a b) :: rest)) → W p l e R s m args below meth c H locs cells slots Z (F0 m pc ls (.int b :: .long a :: rest))) (hf : (xJI g x).2.2.2 = true) (k : GW ω M p l e R s m args below meth c cells slots Z n (xJI g x).1 (xJI g x).2.1 (xJI g x).2.2.1) : GW ω M p l e R s m args below meth c cells slots Z pc x.1 x.2.1 x.2.2.1 := by
  obtain ⟨L, st, μ, f⟩ := x
  rcases st with _ | ⟨v, _ | ⟨w, st⟩⟩
  · exact absurd hf Bool.false_ne_true
  · cases v <;> exact absurd hf Bool.false_ne_true
  cases v <;> try exact absurd hf Bool.false_ne_true
  cases w <;> try exact absurd hf Bool.false_ne_true
  exact fun H locs ls hP hS hl hL => row (k H locs ls hP hS hl hL)
theorem gw_Cmp {x : Sx} (row : ∀ {H : Heap} {locs : List Loc} {ls : Array Slot} {rest : List Value} {a b : Int64}, W p l e R s m args below meth c H locs cells slots Z (F0 m n ls (.int (lg_cmp a b) :: rest)) → W p l e R s m args below meth c H locs cells slots Z (F0 m pc ls (.long b :: .long a :: rest))) (hf : (xCmp x).2.2.2 = true) (k : GW ω M p l e R s m args below meth c cells slots Z n (xCmp x).1 (xCmp x).2.1 (xCmp x).2.2.1) : GW ω M p l e R s m args below meth c cells slots Z pc x.1 x.2.1 x.2.2.1 := by
  obtain ⟨L, st, μ, f⟩ := x
  rcases st with _ | ⟨v, _ | ⟨w, st⟩⟩
  · exact absurd hf Bool.false_ne_true
  · cases v <;> exact absurd hf Bool.false_ne_true
  cases v <;> try exact absurd hf Bool.false_ne_true
  cases w <;> try exact absurd hf Bool.false_ne_true
  exact fun H locs ls hP hS hl hL => row (k H locs ls hP hS hl hL)
theorem gw_I2l {x : Sx} (row : ∀ {H : Heap} {locs : List Loc} {ls : Array Slot} {rest : List Value} {a : Int32}, W p l e R s m args below meth c H locs cells slots Z (F0 m n ls (.long a.toInt64 :: rest)) → W p l e R s m args below meth c H locs cells slots Z (F0 m pc ls (.int a :: rest))) (hf : (xI2l x).2.2.2 = true) (k : GW ω M p l e R s m args below meth c cells slots Z n (xI2l x).1 (xI2l x).2.1 (xI2l x).2.2.1) : GW ω M p l e R s m args below meth c cells slots Z pc x.1 x.2.1 x.2.2.1 := by
  obtain ⟨L, st, μ, f⟩ := x
  rcases st with _ | ⟨v, st⟩
  · exact absurd hf Bool.false_ne_true
  cases v <;> try exact absurd hf Bool.false_ne_true
  exact fun H locs ls hP hS hl hL => row (k H locs ls hP hS hl hL)
theorem gw_Dup {x : Sx} (row : ∀ {H : Heap} {locs : List Loc} {ls : Array Slot} {rest : List Value} {v : Value}, v.category = 1 → W p l e R s m args below meth c H locs cells slots Z (F0 m n ls (v :: v :: rest)) → W p l e R s m args below meth c H locs cells slots Z (F0 m pc ls (v :: rest))) (hf : (xDup x).2.2.2 = true) (k : GW ω M p l e R s m args below meth c cells slots Z n (xDup x).1 (xDup x).2.1 (xDup x).2.2.1) : GW ω M p l e R s m args below meth c cells slots Z pc x.1 x.2.1 x.2.2.1 := by
  obtain ⟨L, st, μ, f⟩ := x
  rcases st with _ | ⟨v, st⟩
  · exact absurd hf Bool.false_ne_true
  exact fun H locs ls hP hS hl hL => row (by rw [tv_cat]; exact eq_of_beq (f2 hf).2) (k H locs ls hP hS hl hL)
theorem gw_Pop {x : Sx} (row : ∀ {H : Heap} {locs : List Loc} {ls : Array Slot} {rest : List Value} {v : Value}, v.category = 1 → W p l e R s m args below meth c H locs cells slots Z (F0 m n ls rest) → W p l e R s m args below meth c H locs cells slots Z (F0 m pc ls (v :: rest))) (hf : (xPop x).2.2.2 = true) (k : GW ω M p l e R s m args below meth c cells slots Z n (xPop x).1 (xPop x).2.1 (xPop x).2.2.1) : GW ω M p l e R s m args below meth c cells slots Z pc x.1 x.2.1 x.2.2.1 := by
  obtain ⟨L, st, μ, f⟩ := x
  rcases st with _ | ⟨v, st⟩
  · exact absurd hf Bool.false_ne_true
  exact fun H locs ls hP hS hl hL => row (by rw [tv_cat]; exact eq_of_beq (f2 hf).2) (k H locs ls hP hS hl hL)
theorem gw_Dup2 {x : Sx} (row : ∀ {H : Heap} {locs : List Loc} {ls : Array Slot} {rest : List Value} {v w : Value}, v.category = 1 → w.category = 1 → W p l e R s m args below meth c H locs cells slots Z (F0 m n ls (v :: w :: v :: w :: rest)) → W p l e R s m args below meth c H locs cells slots Z (F0 m pc ls (v :: w :: rest))) (hf : (xDup2 x).2.2.2 = true) (k : GW ω M p l e R s m args below meth c cells slots Z n (xDup2 x).1 (xDup2 x).2.1 (xDup2 x).2.2.1) : GW ω M p l e R s m args below meth c cells slots Z pc x.1 x.2.1 x.2.2.1 := by
  obtain ⟨L, st, μ, f⟩ := x
  rcases st with _ | ⟨v, _ | ⟨w, st⟩⟩
  · exact absurd hf Bool.false_ne_true
  · exact absurd hf Bool.false_ne_true
  exact fun H locs ls hP hS hl hL => row (by rw [tv_cat]; exact eq_of_beq (f3 hf).2.1) (by rw [tv_cat]; exact eq_of_beq (f3 hf).2.2) (k H locs ls hP hS hl hL)
end GWS

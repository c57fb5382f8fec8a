/-! the law from its entry -/
theorem nI_of32 {x : Int32} {n : Nat} (h : x.toBitVec.toNat = n) : x = nI n := by
  apply Int32.toBitVec_inj.mp
  apply BitVec.eq_of_toNat_eq
  have : (nI n).toBitVec = BitVec.ofNat 32 n := rfl
  rw [h, this, BitVec.toNat_ofNat, Nat.mod_eq_of_lt]
  rw [← h]; exact x.toBitVec.isLt
theorem and31 (a : Int32) : ∃ k, k < 32 ∧ a &&& nI 31 = nI k := by
  refine ⟨(a &&& nI 31).toBitVec.toNat, ?_, nI_of32 rfl⟩
  rw [Int32.toBitVec_and, BitVec.toNat_and]
  have : (nI 31).toBitVec.toNat = 31 := by decide
  rw [this]
  exact Nat.lt_of_le_of_lt Nat.and_le_right (by decide)
theorem d_18 : decode code 18 = .ok (.iload_n 3, 1) := by decide +kernel
theorem d_19 : decode code 19 = .ok (.aload_n 0, 1) := by decide +kernel
theorem d_20 : decode code 20 = .ok (.arraylength, 1) := by decide +kernel
theorem d_21 : decode code 21 = .ok (.iconst 5, 1) := by decide +kernel
theorem d_22 : decode code 22 = .ok (.isub, 1) := by decide +kernel
theorem d_23 : decode code 23 = .ok (.if_icmp .gt 770, 3) := by decide +kernel
theorem d_26 : decode code 26 = .ok (.aload_n 0, 1) := by decide +kernel
theorem d_27 : decode code 27 = .ok (.iload_n 3, 1) := by decide +kernel
theorem d_28 : decode code 28 = .ok (.iaload, 1) := by decide +kernel
theorem d_29 : decode code 29 = .ok (.bipush 31, 2) := by decide +kernel
theorem d_31 : decode code 31 = .ok (.iand, 1) := by decide +kernel
theorem d_32 : decode code 32 = .ok (.tableswitch 755 0 23 #[112, 125, 148, 191, 204, 217, 240, 263, 316, 369, 422, 475, 498, 511, 524, 557, 580, 603, 637, 660, 683, 706, 729, 742], 112) := by decide +kernel
theorem d_787 : decode code 787 = .ok (.iinc 3 5, 3) := by decide +kernel
theorem d_790 : decode code 790 = .ok (.goto (-772), 3) := by decide +kernel
theorem d_793 : decode code 793 = .ok (.iconst 1, 1) := by decide +kernel
theorem d_794 : decode code 794 = .ok (.ireturn, 1) := by decide +kernel
section LG
variable {l : Launch} {ω : Wd} {p : Program} {e : Env} {s : State} {m : MethodId} {below : List Frame} {meth : Method} {c : Code} {b L : Nat} {xs : Nat → Int32} {i : Nat} {μ : Mm}
theorem gl_next (C : CL ω p s m meth c b L xs) (k : GL l ω p e s m below meth c b (i + 5) 18 [] μ) : GL l ω p e s m below meth c b i 787 [] μ := by
  intro H locs ls hP hS hl hL
  have hl0 : lv_has ls 4 [(0, .ref (wa ω 51)), (1, .ref (wa ω 0)), (2, .ref (wa ω 29)), (3, .int (nI i))] := hl
  refine lv_iinc (v := nI (i + 5)) (lv' := [(3, .int (nI (i + 5))), (0, .ref (wa ω 51)), (1, .ref (wa ω 0)), (2, .ref (wa ω 29))]) C.1.1 C.1.2.1 d_787 hl0 (k := 3) rfl (by rw [← nI_add]; rfl) (by decide) rfl (fun ls hl => ?_)
  refine lv_goto (tgt := 18) C.1.1 C.1.2.1 d_790 (by decide) ?_
  exact k H locs ls hP hS (lv_sub hl [1, 2, 3, 0] rfl) rfl
set_option maxRecDepth 4000 in
theorem gl_head (C : CL ω p s m meth c b L xs) (hJ : Jn μ) (hiL : i ≤ L + 5) (ih : i + 5 ≤ L → ∀ μ2, Jn μ2 → GL l ω p e s m below meth c b (i + 5) 18 [] μ2) : GL l ω p e s m below meth c b i 18 [] μ := by
  obtain ⟨⟨hx, hb, hml, hr, hown, hts, hnw, hK, hlk, hap⟩, hX, hbl, hbA, h51, hge, hLb⟩ := id C
  intro H locs ls hP hS hl hL
  have e51 : tv ω (.ref 51) = .ref b := by show Value.ref (wa ω 51) = _; rw [h51]
  have a0 := la_has hl (i := 0) (v := .ref 51) rfl rfl
  have a3 := la_has hl (i := 3) (v := .int (nI i)) rfl rfl
  rw [e51] at a0
  refine lv_iload_n hx hb d_18 rfl a3 ?_
  refine lv_aload_n hx hb d_19 rfl a0 ?_
  refine va_slen hx hb hX hbl hbA hS d_20 ?_
  refine lv_iconst (v := nI 5) hx hb d_21 rfl ?_
  refine lv_isub hx hb d_22 ?_
  have hsub : (Int32.ofNat L - nI 5).toInt = (L : Int) - 5 := pk_sub_toInt (a := L) (b := 5) (by omega) (by decide)
  have hit : (nI i).toInt = (i : Int) := nI_toInt (by omega)
  refine lv_icmp_gt (tgt := 793) hx hb d_23 (by decide) (fun g => ?_) (fun g => ?_)
  · refine lv_iconst (v := 1) hx hb d_793 rfl ?_
    refine va_forget (fun q hq => hge _ (hS.2.2 q hq)) ?_
    exact lw_ret hx hb hr hlk d_794
  · have hi : i + 5 ≤ L := by
      rcases Nat.lt_or_ge L (i + 5) with q | q
      · exact absurd (Int32.lt_iff_toInt_lt.mpr (by rw [hsub, hit]; omega)) g
      · exact q
    refine lv_aload_n hx hb d_26 rfl a0 ?_
    refine lv_iload_n hx hb d_27 rfl a3 ?_
    refine va_sld hx hb hX hbl hbA hS (vp_in_nI (show i < L by omega) (by omega)) d_28 ?_
    refine lv_bipush (v := nI 31) hx hb d_29 (by decide) ?_
    refine lv_iand hx hb d_31 ?_
    obtain ⟨k, hk, ek⟩ := and31 (xs (nI i).toNatClampNeg)
    rw [ek]
    have nx : ∀ μ2, Jn μ2 → GL l ω p e s m below meth c b i 787 [] μ2 := fun μ2 h => gl_next C (ih hi μ2 h)
    by_cases h24 : k < 24
    · rcases (show k = 0 ∨ k = 1 ∨ k = 2 ∨ k = 3 ∨ k = 4 ∨ k = 5 ∨ k = 6 ∨ k = 7 ∨ k = 8 ∨ k = 9 ∨ k = 10 ∨ k = 11 ∨ k = 12 ∨ k = 13 ∨ k = 14 ∨ k = 15 ∨ k = 16 ∨ k = 17 ∨ k = 18 ∨ k = 19 ∨ k = 20 ∨ k = 21 ∨ k = 22 ∨ k = 23 by omega) with rfl | rfl | rfl | rfl | rfl | rfl | rfl | rfl | rfl | rfl | rfl | rfl | rfl | rfl | rfl | rfl | rfl | rfl | rfl | rfl | rfl | rfl | rfl | rfl
      · exact lv_tableIn (off := 112) (tgt := 144) hx hb d_32 (by decide) (by decide) (by decide) (by decide) (gc_0 C hi hJ nx H locs ls hP hS hl hL)
      · exact lv_tableIn (off := 125) (tgt := 157) hx hb d_32 (by decide) (by decide) (by decide) (by decide) (gc_1 C hi hJ nx H locs ls hP hS hl hL)
      · exact lv_tableIn (off := 148) (tgt := 180) hx hb d_32 (by decide) (by decide) (by decide) (by decide) (gc_2 C hi hJ nx H locs ls hP hS hl hL)
      · exact lv_tableIn (off := 191) (tgt := 223) hx hb d_32 (by decide) (by decide) (by decide) (by decide) (gc_3 C hi hJ nx H locs ls hP hS hl hL)
      · exact lv_tableIn (off := 204) (tgt := 236) hx hb d_32 (by decide) (by decide) (by decide) (by decide) (gc_4 C hi hJ nx H locs ls hP hS hl hL)
      · exact lv_tableIn (off := 217) (tgt := 249) hx hb d_32 (by decide) (by decide) (by decide) (by decide) (gc_5 C hi hJ nx H locs ls hP hS hl hL)
      · exact lv_tableIn (off := 240) (tgt := 272) hx hb d_32 (by decide) (by decide) (by decide) (by decide) (gc_6 C hi hJ nx H locs ls hP hS hl hL)
      · exact lv_tableIn (off := 263) (tgt := 295) hx hb d_32 (by decide) (by decide) (by decide) (by decide) (gc_7 C hi hJ nx H locs ls hP hS hl hL)
      · exact lv_tableIn (off := 316) (tgt := 348) hx hb d_32 (by decide) (by decide) (by decide) (by decide) (gc_8 C hi hJ nx H locs ls hP hS hl hL)
      · exact lv_tableIn (off := 369) (tgt := 401) hx hb d_32 (by decide) (by decide) (by decide) (by decide) (gc_9 C hi hJ nx H locs ls hP hS hl hL)
      · exact lv_tableIn (off := 422) (tgt := 454) hx hb d_32 (by decide) (by decide) (by decide) (by decide) (gc_10 C hi hJ nx H locs ls hP hS hl hL)
      · exact lv_tableIn (off := 475) (tgt := 507) hx hb d_32 (by decide) (by decide) (by decide) (by decide) (gc_11 C hi hJ nx H locs ls hP hS hl hL)
      · exact lv_tableIn (off := 498) (tgt := 530) hx hb d_32 (by decide) (by decide) (by decide) (by decide) (gc_12 C hi hJ nx H locs ls hP hS hl hL)
      · exact lv_tableIn (off := 511) (tgt := 543) hx hb d_32 (by decide) (by decide) (by decide) (by decide) (gc_13 C hi hJ nx H locs ls hP hS hl hL)
      · exact lv_tableIn (off := 524) (tgt := 556) hx hb d_32 (by decide) (by decide) (by decide) (by decide) (gc_14 C hi hJ nx H locs ls hP hS hl hL)
      · exact lv_tableIn (off := 557) (tgt := 589) hx hb d_32 (by decide) (by decide) (by decide) (by decide) (gc_15 C hi hJ nx H locs ls hP hS hl hL)
      · exact lv_tableIn (off := 580) (tgt := 612) hx hb d_32 (by decide) (by decide) (by decide) (by decide) (gc_16 C hi hJ nx H locs ls hP hS hl hL)
      · exact lv_tableIn (off := 603) (tgt := 635) hx hb d_32 (by decide) (by decide) (by decide) (by decide) (gc_17 C hi hJ nx H locs ls hP hS hl hL)
      · exact lv_tableIn (off := 637) (tgt := 669) hx hb d_32 (by decide) (by decide) (by decide) (by decide) (gc_18 C hi hJ nx H locs ls hP hS hl hL)
      · exact lv_tableIn (off := 660) (tgt := 692) hx hb d_32 (by decide) (by decide) (by decide) (by decide) (gc_19 C hi hJ nx H locs ls hP hS hl hL)
      · exact lv_tableIn (off := 683) (tgt := 715) hx hb d_32 (by decide) (by decide) (by decide) (by decide) (gc_20 C hi hJ nx H locs ls hP hS hl hL)
      · exact lv_tableIn (off := 706) (tgt := 738) hx hb d_32 (by decide) (by decide) (by decide) (by decide) (gc_21 C hi hJ nx H locs ls hP hS hl hL)
      · exact lv_tableIn (off := 729) (tgt := 761) hx hb d_32 (by decide) (by decide) (by decide) (by decide) (gc_22 C hi hJ nx H locs ls hP hS hl hL)
      · exact lv_tableIn (off := 742) (tgt := 774) hx hb d_32 (by decide) (by decide) (by decide) (by decide) (gc_23 C hi hJ nx H locs ls hP hS hl hL)
    · refine lv_tableOut (tgt := 787) hx hb d_32 (Or.inr (by rw [nI_toInt (by omega)]; omega)) (by decide) ?_
      exact nx μ hJ H locs ls hP hS hl hL
theorem law_loop (C : CL ω p s m meth c b L xs) : ∀ (n i : Nat) (μ : Mm), L < i + n → i ≤ L + 5 → Jn μ → GL l ω p e s m below meth c b i 18 [] μ
  | 0, i, μ, h, h2, hJ => gl_head C hJ h2 (fun q => by omega)
  | n + 1, i, μ, h, h2, hJ => gl_head C hJ h2 (fun q μ2 hJ2 => law_loop C n (i + 5) μ2 (by omega) (by omega) hJ2)
end LG
def mu0 : Mm := (fun _ _ => 0, fun p k => if p = 22 then (if k = 4 then 1 else 0) else 0, fun k => if k = 0 then 1 else 4)
theorem Jn_0 : Jn mu0 := ⟨eS, eS, eD, ⟨eS_V, eS_V, eD_V⟩, ⟨1, Or.inl rfl, rfl, rfl, ⟨rfl, fun c hc => absurd hc (Nat.not_lt_zero c)⟩, ⟨rfl, fun c hc => absurd hc (Nat.not_lt_zero c)⟩, rfl, fun q => absurd q (by decide)⟩, ⟨rfl, fun c hc => absurd hc (Nat.not_lt_zero c)⟩, ⟨rfl, fun c hc => absurd hc (Nat.not_lt_zero c)⟩, rfl, fun q => absurd q (by decide)⟩
def wL (b : Nat) (L1 L2 : Nat → Nat) (i : Nat) : Nat := if i = 51 then b else if i < 29 then L1 i else L2 i
abbrev omg (D : va_G) (cs : ClassId × ClassId × ClassId) (b : Nat) (L1 L2 : Nat → Nat) : Wd := (D.1, D.2, wL b L1 L2, cs.1, cs.2.1, cs.2.2)
abbrev perm : List Nat := [0, 1, 2, 3, 4, 5, 6, 7, 8, 9, 10, 11, 12, 13, 14, 15, 16, 17, 18, 19, 20, 21, 22, 25, 23, 24, 26, 27, 28, 29, 30, 31, 32, 33, 34, 35, 36, 37, 38, 39, 40, 41, 42, 43, 44, 45, 46, 47, 48, 49, 50]
set_option maxRecDepth 20000 in
set_option maxHeartbeats 4000000 in
theorem cW_new (D : va_G) (cs : ClassId × ClassId × ClassId) (b : Nat) (L1 L2 : Nat → Nat) : perm.map (fun i => (w_X6 cs L1 ++ w_X7 cs L2)[i]?) = (cW (omg D cs b L1 L2) mu0).map some := rfl
theorem fm_of {α β : Type} {f : α → Option β} : ∀ {is : List α} {ws : List β}, is.map f = ws.map some → is.filterMap f = ws
  | [], ws, h => by
    cases ws with
    | nil => rfl
    | cons a t => cases h
  | a :: t, ws, h => by
    cases ws with
    | nil => cases h
    | cons x r =>
      rw [List.map_cons, List.map_cons, List.cons.injEq] at h
      rw [List.filterMap_cons, h.1, fm_of h.2]
theorem arr_id {s : State} {args : Array Value} {ty : FieldType} (ht : ty = .int ∨ ty = .long ∨ ty = .boolean) (h : (Jvm.Cond.arrayClass ty).before args s = true) : ∃ cA : ClassId, ArrOfT s cA ty ∧ va_RA s cA ty := by
  obtain ⟨cA, kA, comp, hfind, hk, hkind⟩ := Cond.arrayClass_spec h
  refine ⟨cA, fun n z => ⟨fun k h => (by cases h), kA, hk, comp, hkind⟩, ?_⟩
  rcases ht with rfl | rfl | rfl <;> exact hfind
theorem inst_ok : ∀ ci, ci < 8 → Jvm.Cond.instantiable (RR ci) (NN.getD ci 0) ∈ gt := by
  intro ci h
  rcases (show ci = 0 ∨ ci = 1 ∨ ci = 2 ∨ ci = 3 ∨ ci = 4 ∨ ci = 5 ∨ ci = 6 ∨ ci = 7 by omega) with rfl | rfl | rfl | rfl | rfl | rfl | rfl | rfl
  · exact gt_at 76 (by decide +kernel) (by decide +kernel)
  · exact gt_at 100 (by decide +kernel) (by decide +kernel)
  · exact gt_at 154 (by decide +kernel) (by decide +kernel)
  · exact gt_at 137 (by decide +kernel) (by decide +kernel)
  · exact gt_at 115 (by decide +kernel) (by decide +kernel)
  · exact gt_at 160 (by decide +kernel) (by decide +kernel)
  · exact gt_at 68 (by decide +kernel) (by decide +kernel)
  · exact gt_at 656 (by decide +kernel) (by decide +kernel)
theorem d_0 : decode code 0 = .ok (.new 7, 3) := by decide +kernel
theorem d_3 : decode code 3 = .ok (.dup, 1) := by decide +kernel
theorem d_4 : decode code 4 = .ok (.invokespecial 9, 3) := by decide +kernel
theorem d_7 : decode code 7 = .ok (.astore_n 1, 1) := by decide +kernel
theorem d_8 : decode code 8 = .ok (.new 10, 3) := by decide +kernel
theorem d_11 : decode code 11 = .ok (.dup, 1) := by decide +kernel
theorem d_12 : decode code 12 = .ok (.invokespecial 12, 3) := by decide +kernel
theorem d_15 : decode code 15 = .ok (.astore_n 2, 1) := by decide +kernel
theorem d_16 : decode code 16 = .ok (.iconst 0, 1) := by decide +kernel
theorem d_17 : decode code 17 = .ok (.istore_n 3, 1) := by decide +kernel
theorem c_law6 : Jvm.Cond.classLink (RR 11) 7 (RR 6) ∈ gt := gt_at 67 (by decide +kernel) (by decide +kernel)
theorem c_law7 : Jvm.Cond.classLink (RR 11) 10 (RR 7) ∈ gt := gt_at 655 (by decide +kernel) (by decide +kernel)
theorem m_law6 : Jvm.Cond.methodLink (RR 11) 9 yX6_init ∈ gt := gt_at 69 (by decide +kernel) (by decide +kernel)
theorem m_law7 : Jvm.Cond.methodLink (RR 11) 12 yX7_init ∈ gt := gt_at 657 (by decide +kernel) (by decide +kernel)
theorem i_law6 : Jvm.Cond.instanceMethod yX6_init ∈ gt := gt_at 70 (by decide +kernel) (by decide +kernel)
theorem i_law7 : Jvm.Cond.instanceMethod yX7_init ∈ gt := gt_at 658 (by decide +kernel) (by decide +kernel)
set_option maxHeartbeats 4000000 in
set_option maxRecDepth 20000 in
theorem whole_start {p : Program} {e : Env} {s : State} {m : MethodId} {below : List Frame} {meth : Method} {c : Code} (l : Launch) (hflags : l.flags = flags0) {b L : Nat} {xs : Nat → Int32} (hL : L ≤ 2560) (C0 : lw_At p s m meth c b L xs) : W p l e room_1 s m #[Value.ref b] below meth c s.heap [] 0 0 (lw_Z below #[Value.ref b] s) (entryFrame m ([Value.ref b] : List Value).toArray 4) := by
  obtain ⟨hx, hb, hr, hml, hown, hts, hX, hbl, hlocks, hgv⟩ := id C0
  have hgt : ∀ w ∈ gt, w.before #[Value.ref b] s = true := fun w hw => hts w (List.mem_filter.mp hw).1
  have hnw : ∀ w ∈ nw, va_Nw w s := fun w hw => by
    have h1 := hts w (List.mem_filter.mp hw).1
    obtain ⟨a, i, x, y, rfl⟩ := nw_is hw
    exact va_Nw.of rfl h1
  have hown' : s.vm.findClass (RR 11) = some m.cls := hown
  have hkn : ∀ ci, ci < 8 → ∃ z : ClassId × (Nat → Nat), u_Kn s (RR ci) (TT ci) (NN.getD ci 0) z.1 z.2 := fun ci h => by
    obtain ⟨cC, iS, hK⟩ := u_known hgt (cl_in ci h) (hgt _ (inst_ok ci h))
    exact ⟨(cC, iS), hK⟩
  have hkn2 : ∀ ci, ∃ z : ClassId × (Nat → Nat), ci < 8 → u_Kn s (RR ci) (TT ci) (NN.getD ci 0) z.1 z.2 := fun ci => by
    by_cases h : ci < 8
    · obtain ⟨z, hz⟩ := hkn ci h; exact ⟨z, fun _ => hz⟩
    · obtain ⟨z, _⟩ := hkn 0 (by decide); exact ⟨z, fun q => absurd q h⟩
  obtain ⟨fz, hfz⟩ := Classical.axiomOfChoice hkn2
  obtain ⟨D, hD0⟩ : ∃ D : va_G, D = (fun k => (fz k).1, fun k => (fz k).2) := ⟨_, rfl⟩
  have hKc : ∀ (k : Nat) (q : vw_C), vwCl[k]? = some q → u_Kn s q.1 q.2.1 q.2.2 (D.1 k) (D.2 k) := by
    intro k q hq
    have hk : k < 8 := (List.getElem?_eq_some_iff.mp hq).1
    rw [cl_at k hk] at hq
    cases hq
    rw [hD0]; exact hfz k hk
  obtain ⟨cI, aI1, aI2⟩ := arr_id (Or.inl rfl) (hgt _ gt_a0)
  obtain ⟨cJ, aJ1, aJ2⟩ := arr_id (Or.inr (Or.inl rfl)) (hgt _ gt_a1)
  obtain ⟨cZ, aZ1, aZ2⟩ := arr_id (Or.inr (Or.inr rfl)) (hgt _ gt_a2)
  have hK : va_K D vwCl (tysC (cI, cJ, cZ)) s := by
    refine ⟨hKc, fun k q hq => ?_⟩
    match k, hq with
    | 0, hq => cases hq; exact ⟨aI1, aI2⟩
    | 1, hq => cases hq; exact ⟨aJ1, aJ2⟩
    | 2, hq => cases hq; exact ⟨aZ1, aZ2⟩
    | k + 3, hq => cases hq
  obtain ⟨cs, hcs⟩ : ∃ cs : ClassId × ClassId × ClassId, cs = (cI, cJ, cZ) := ⟨_, rfl⟩
  rw [← hcs] at hK
  have hA : ∀ q : Nat, s.heap.size ≤ q → (fun q : Nat => s.heap.size ≤ q) q := fun _ h => h
  have hS : va_S (fun q : Nat => s.heap.size ≤ q) s.heap s.heap [] := va_S.rf
  have hP : va_P D vwCl [] s.heap := fun k q h => by simp at h
  have hDD : va_D (fun q : Nat => s.heap.size ≤ q) [] := ⟨fun i j p q h => by simp at h, fun k q h => by simp at h⟩
  have hl := lv_entry ([.ref b]) (n := 4) (Nat.le_of_ble_eq_true rfl)
  rw [lg_entry_eq]
  generalize (lg_sl ([.ref b]) ++ List.replicate (4 - (lg_sl ([.ref b])).length) Slot.unset).toArray = ls at hl ⊢
  have hl : lv_has ls 4 [(0, .ref b)] := hl
  refine va_new (ci := 6) (fs := z_X6) hx hb hgt (cl_in 6 (by decide)) (tyT 6) (cl_ty 6 (by decide)) hown' (hgt _ c_law6) (hgt _ (inst_ok 6 (by decide))) (hgt _ mok_X6_init.2.1) hK hP hDD hS hA (cl_at 6 (by decide)) dv_X6 (Nat.le_of_ble_eq_true rfl) (Nat.le_of_ble_eq_true rfl) d_0 (fun q0 H hP hD hS => ?_)
  refine W.widen (k := 1) (n := 10) (Nat.le_of_ble_eq_true rfl) (Nat.le_of_ble_eq_true rfl) ?_
  refine lv_dup hx hb d_3 rfl ?_
  have hFc := va_free (wc := [(q0, .inr (6, z_X6))]) hD hS hA [0] rfl
  have hrun := va_runI (g := F0 m 4 ls [.ref q0, .ref q0]) (b := q0) (As := []) (rest := [.ref q0]) (locs := []) (cells := 1) (slots := 10) (below := below) (meth := meth) (e := e) (p := p) (R := room_1) ⟨hx, hb, hml, hown', hgt⟩ (c_X6_init l D cs q0 H.size) (cwI 0 hgt (wds_good mok_X6_init.1) rfl rfl rfl (hgt _ mok_X6_init.2.1) (hgt _ m_law6) (hgt _ i_law6) rfl (by decide +kernel) ⟨Nat.le_of_ble_eq_true rfl, Nat.le_of_ble_eq_true rfl⟩) ⟨preI_blind, fun U hU hW => ⟨rfl, by rw [hU], by rw [hU]; exact hP, va_K.moved hW.alike hK, nw_warm hW hnw, hD.weaken (fun _ _ _ _ => trivial)⟩⟩ rfl rfl hl.1 rfl (lv_room (Nat.le_of_ble_eq_true rfl)) d_4 ⟨Nat.le_of_ble_eq_true rfl, Nat.le_of_ble_eq_true rfl⟩
  refine va_callv hrun hS (fun q' _ h => hFc q' h) hFc (fun u t H2 locs2 ht hvm hw' hB hz1 hk1 hS2 => ?_)
  obtain ⟨L1, eL1, rfl⟩ := hw'
  obtain ⟨hP2, hD2⟩ := hB
  rw [ht] at hP2
  obtain ⟨hP3, hD3⟩ := wjoin (ws := []) hP hD hk1 hFc hP2 hD2
  refine W.widen (k := 29) (n := 1957) (Nat.le_of_ble_eq_true rfl) (Nat.le_of_ble_eq_true rfl) ?_
  refine lv_astore_n (lv' := [(1, .ref q0), (0, .ref b)]) hx hb d_7 rfl hl (by decide) rfl (fun ls hl => ?_)
  refine va_new (ci := 7) (fs := z_X7) (ws := w_X6 cs L1) hx hb hgt (cl_in 7 (by decide)) (tyT 7) (cl_ty 7 (by decide)) hown' (hgt _ c_law7) (hgt _ (inst_ok 7 (by decide))) (hgt _ mok_X7_init.2.1) hK hP3 hD3 hS2 hA (cl_at 7 (by decide)) dv_X7 (Nat.le_of_ble_eq_true rfl) (Nat.le_of_ble_eq_true rfl) d_8 (fun q1 H4 hP4 hD4 hS4 => ?_)
  refine W.widen (k := 30) (n := 1991) (Nat.le_of_ble_eq_true rfl) (Nat.le_of_ble_eq_true rfl) ?_
  refine lv_dup hx hb d_11 rfl ?_
  have hFc4 := va_free (wc := [(q1, .inr (7, z_X7))]) hD4 hS4 hA [29] rfl
  have hPc4 : va_P D vwCl [(q1, .inr (7, z_X7))] H4 := hP4.sub [29] rfl
  have hDc4 : va_D (fun q : Nat => s.heap.size ≤ q) [(q1, .inr (7, z_X7))] := hD4.sub [29] rfl rfl
  have hrun4 := va_runI (g := F0 m 12 ls [.ref q1, .ref q1]) (b := q1) (As := []) (rest := [.ref q1]) (locs := locs2) (cells := 30) (slots := 1991) (below := below) (meth := meth) (e := e) (p := p) (R := room_1) ⟨hx, hb, hml, hown', hgt⟩ (c_X7_init l D cs q1 H4.size) (cwI 0 hgt (wds_good mok_X7_init.1) rfl rfl rfl (hgt _ mok_X7_init.2.1) (hgt _ m_law7) (hgt _ i_law7) rfl (by decide +kernel) ⟨Nat.le_of_ble_eq_true rfl, Nat.le_of_ble_eq_true rfl⟩) ⟨preI_blind, fun U hU hW => ⟨rfl, by rw [hU], by rw [hU]; exact hPc4, va_K.moved hW.alike hK, nw_warm hW hnw, hDc4.weaken (fun _ _ _ _ => trivial)⟩⟩ rfl rfl hl.1 rfl (lv_room (Nat.le_of_ble_eq_true rfl)) d_12 ⟨Nat.le_of_ble_eq_true rfl, Nat.le_of_ble_eq_true rfl⟩
  refine va_callv hrun4 hS4 (fun q' _ h => hFc4 q' h) hFc4 (fun u5 t5 H5 locs5 ht5 hvm5 hw5 hB5 hz5 hk5 hS5 => ?_)
  obtain ⟨L2, eL2, rfl⟩ := hw5
  obtain ⟨hP5, hD5⟩ := hB5
  rw [ht5] at hP5
  obtain ⟨hP6, hD6⟩ := wjoin hP4 hD4 hk5 hFc4 hP5 hD5
  refine W.widen (k := 51) (n := 10977) (Nat.le_of_ble_eq_true rfl) (Nat.le_of_ble_eq_true rfl) ?_
  refine lv_astore_n (lv' := [(2, .ref q1), (1, .ref q0), (0, .ref b)]) hx hb d_15 rfl hl (by decide) rfl (fun ls hl => ?_)
  refine lv_iconst (v := nI 0) hx hb d_16 rfl ?_
  refine lv_istore_n (lv' := [(3, .int (nI 0)), (2, .ref q1), (1, .ref q0), (0, .ref b)]) hx hb d_17 rfl hl (by decide) rfl (fun ls hl => ?_)
  refine va_forget (fun q hq => hS5.2.2 q hq) ?_
  have hPw : va_P (wD (omg D cs b L1 L2)) vwCl (cW (omg D cs b L1 L2) mu0) H5 := hP6.sub perm (fm_of (cW_new D cs b L1 L2))
  have hDw : va_D (fun q : Nat => s.heap.size ≤ q) (cW (omg D cs b L1 L2) mu0) := hD6.sub perm (by decide +kernel) (cW_new D cs b L1 L2)
  have hap : wAp (omg D cs b L1 L2) := fun i j hi hj h => hDw.1 i j _ _ (cW_at hi) (cW_at hj) h
  have hge : ∀ q, wA (omg D cs b L1 L2) q → s.heap.size ≤ q := fun q ⟨k, hk, e⟩ => by rw [e]; exact hDw.2 k _ (cW_at hk)
  have hCL : CL (omg D cs b L1 L2) p s m meth c b L xs := ⟨⟨hx, hb, hml, hr, hown', hgt, hnw, hK, hlocks, hap⟩, hX, hbl, fun q => absurd (hge b q) (Nat.not_le.mpr hbl), rfl, hge, hL⟩
  have hSw : va_S (wA (omg D cs b L1 L2)) s.heap H5 [] := ⟨hS5.1, fun q h1 h2 => hS5.2.1 q h1 (Nat.not_le.mpr h1), fun _ h => by cases h⟩
  have e1 : wa (omg D cs b L1 L2) 0 = q0 := eL1
  have e2 : wa (omg D cs b L1 L2) 29 = q1 := eL2
  have e3 : wa (omg D cs b L1 L2) 51 = b := rfl
  have hlw : lv_has ls 4 (la (omg D cs b L1 L2) (lawL 0)) := by
    show lv_has ls 4 [(0, .ref (wa (omg D cs b L1 L2) 51)), (1, .ref (wa (omg D cs b L1 L2) 0)), (2, .ref (wa (omg D cs b L1 L2) 29)), (3, .int (nI 0))]
    rw [e1, e2, e3]
    exact lv_sub hl [3, 2, 1, 0] rfl
  exact law_loop hCL (L + 1) 0 mu0 (by omega) (by omega) Jn_0 H5 [] ls hPw hSw hlw rfl

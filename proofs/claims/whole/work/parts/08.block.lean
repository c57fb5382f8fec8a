/-! one instruction of any kind, a block of them -/
section GWB
variable {ω : Wd} {M : MD} {p : Program} {l : Launch} {e : Env} {R : Room} {s : State} {m : MethodId} {args : Array Value} {below : List Frame} {meth : Method} {c : Code} {cells slots : Nat} {Z : State → Prop} {pc : Nat}
theorem sI_fl (q : IA) (x : Sx) (h : (sI q x).2.2.2 = true) : x.2.2.2 = true := by
  obtain ⟨i, len, a, b, d, z⟩ := q
  obtain ⟨L, st, μ, f⟩ := x
  cases f
  · exfalso
    cases i <;> first
      | exact absurd h Bool.false_ne_true
      | (revert h; simp only [sI, xP, xLi, xLl, xLa, xSi, xSa, xSl, xInc, xII, xIIn, xJJ, xJJn, xJI, xCmp, xI2l, xDup, xPop, xDup2, xGet, xPut, xIal, xZal, xLal, xIas, xZas, xLas, xLen, x0]; split <;> (try (rename_i heq; cases heq)) <;> simp [xP, x0])
  · rfl
set_option maxHeartbeats 4000000 in
theorem gw_one (C : Cx ω M p s m args meth c) (q : IA) (x : Sx) (hk : ckI M.2.2.2.2.1 M.2.1 pc q = true) (hf : (sI q x).2.2.2 = true) (k : GW ω M p l e R s m args below meth c cells slots Z (pc + q.2.1) (sI q x).1 (sI q x).2.1 (sI q x).2.2.1) : GW ω M p l e R s m args below meth c cells slots Z pc x.1 x.2.1 x.2.2.1 := by
  obtain ⟨i, len, a, b, d, z⟩ := q
  have C0 := C
  obtain ⟨hx, hb, hml, hr, hown, hts, hnw, hK, hlk, hap⟩ := C
  obtain ⟨hk1, hk2⟩ := b2 hk
  have hd : decode M.2.1 pc = .ok (i, len) := of_decide_eq_true hk1
  cases i <;> try exact absurd hf Bool.false_ne_true
  case iconst n => obtain rfl : len = 1 := eq_of_beq hk2; exact gw_P (fun h => lv_iconst hx hb hd rfl h) k
  case bipush n => obtain rfl : len = 2 := eq_of_beq hk2; exact gw_P (fun h => lv_bipush hx hb hd rfl h) k
  case sipush n => obtain rfl : len = 3 := eq_of_beq hk2; exact gw_P (fun h => lv_sipush hx hb hd rfl h) k
  case lconst n => obtain rfl : len = 1 := eq_of_beq hk2; exact gw_P (fun h => lv_lconst hx hb hd rfl h) k
  case ldc n =>
    obtain ⟨h1, h2⟩ := b2 hk2
    obtain rfl : len = 2 := eq_of_beq h2
    exact gw_P (fun h => lv_ldc hx hb hown (hts _ (ctI_ok _ (List.contains_iff_mem.mp h1))) hd h) k
  case ldc_w n =>
    obtain ⟨h1, h2⟩ := b2 hk2
    obtain rfl : len = 3 := eq_of_beq h2
    exact gw_P (fun h => lv_ldcw hx hb hown (hts _ (ctI_ok _ (List.contains_iff_mem.mp h1))) hd h) k
  case ldc2_w n =>
    obtain ⟨h1, h2⟩ := b2 hk2
    obtain rfl : len = 3 := eq_of_beq h2
    exact gw_P (fun h => lv_ldc2 hx hb hown (hts _ (ctL_ok _ (List.contains_iff_mem.mp h1))) hd h) k
  case iload_n n => obtain rfl : len = 1 := eq_of_beq hk2; exact gw_Li (fun h1 h => lv_iload_n hx hb hd rfl h1 h) hf k
  case iload n => obtain rfl : len = 2 := eq_of_beq hk2; exact gw_Li (fun h1 h => lv_iload hx hb hd h1 h) hf k
  case lload_n n => obtain rfl : len = 1 := eq_of_beq hk2; exact gw_Ll (fun h1 h => lv_lload_n hx hb hd rfl h1 h) hf k
  case lload n => obtain rfl : len = 2 := eq_of_beq hk2; exact gw_Ll (fun h1 h => lv_lload hx hb hd h1 h) hf k
  case aload_n n => obtain rfl : len = 1 := eq_of_beq hk2; exact gw_La (fun h1 h => lv_aload_n hx hb hd rfl h1 h) hf k
  case aload n => obtain rfl : len = 2 := eq_of_beq hk2; exact gw_La (fun h1 h => lv_aload hx hb hd h1 h) hf k
  case istore_n n => obtain rfl : len = 1 := eq_of_beq hk2; exact gw_Si (fun h1 h2 h => lv_istore_n hx hb hd rfl h1 h2 rfl h) hf k
  case istore n => obtain rfl : len = 2 := eq_of_beq hk2; exact gw_Si (fun h1 h2 h => lv_istore hx hb hd h1 h2 rfl h) hf k
  case lstore_n n => obtain rfl : len = 1 := eq_of_beq hk2; exact gw_Sl (fun h1 h2 h => lv_lstore_n hx hb hd rfl h1 h2 rfl h) hf k
  case lstore n => obtain rfl : len = 2 := eq_of_beq hk2; exact gw_Sl (fun h1 h2 h => lv_lstore hx hb hd h1 h2 rfl h) hf k
  case astore_n n => obtain rfl : len = 1 := eq_of_beq hk2; exact gw_Sa (fun h1 h2 h => lv_astore_n hx hb hd rfl h1 h2 rfl h) hf k
  case astore n => obtain rfl : len = 2 := eq_of_beq hk2; exact gw_Sa (fun h1 h2 h => lv_astore hx hb hd h1 h2 rfl h) hf k
  case iinc n z => obtain rfl : len = 3 := eq_of_beq hk2; exact gw_Inc (fun h1 h2 h3 h => lv_iinc hx hb hd h1 h2 rfl h3 rfl h) hf k
  case iadd => obtain rfl : len = 1 := eq_of_beq hk2; exact gw_II (fun h => lv_iadd hx hb hd h) hf k
  case isub => obtain rfl : len = 1 := eq_of_beq hk2; exact gw_II (fun h => lv_isub hx hb hd h) hf k
  case imul => obtain rfl : len = 1 := eq_of_beq hk2; exact gw_II (fun h => lv_imul hx hb hd h) hf k
  case iand => obtain rfl : len = 1 := eq_of_beq hk2; exact gw_II (fun h => lv_iand hx hb hd h) hf k
  case ior => obtain rfl : len = 1 := eq_of_beq hk2; exact gw_II (fun h => lv_ior hx hb hd h) hf k
  case ixor => obtain rfl : len = 1 := eq_of_beq hk2; exact gw_II (fun h => lv_ixor hx hb hd h) hf k
  case ishl => obtain rfl : len = 1 := eq_of_beq hk2; exact gw_II (fun h => lv_ishl hx hb hd h) hf k
  case ishr => obtain rfl : len = 1 := eq_of_beq hk2; exact gw_II (fun h => lv_ishr hx hb hd h) hf k
  case iushr => obtain rfl : len = 1 := eq_of_beq hk2; exact gw_II (fun h => lv_iushr hx hb hd rfl h) hf k
  case idiv => obtain rfl : len = 1 := eq_of_beq hk2; exact gw_IIn (fun h1 h => lv_idiv hx hb hd h1 h) hf k
  case irem => obtain rfl : len = 1 := eq_of_beq hk2; exact gw_IIn (fun h1 h => lv_irem hx hb hd h1 h) hf k
  case ladd => obtain rfl : len = 1 := eq_of_beq hk2; exact gw_JJ (fun h => lv_ladd hx hb hd h) hf k
  case lsub => obtain rfl : len = 1 := eq_of_beq hk2; exact gw_JJ (fun h => lv_lsub hx hb hd h) hf k
  case lmul => obtain rfl : len = 1 := eq_of_beq hk2; exact gw_JJ (fun h => lv_lmul hx hb hd h) hf k
  case land => obtain rfl : len = 1 := eq_of_beq hk2; exact gw_JJ (fun h => lv_land hx hb hd h) hf k
  case lor => obtain rfl : len = 1 := eq_of_beq hk2; exact gw_JJ (fun h => lv_lor hx hb hd h) hf k
  case ldiv => obtain rfl : len = 1 := eq_of_beq hk2; exact gw_JJn (fun h1 h => lv_ldiv hx hb hd h1 h) hf k
  case lrem => obtain rfl : len = 1 := eq_of_beq hk2; exact gw_JJn (fun h1 h => lv_lrem hx hb hd h1 h) hf k
  case lshl => obtain rfl : len = 1 := eq_of_beq hk2; exact gw_JI (fun h => lv_lshl hx hb hd rfl h) hf k
  case lshr => obtain rfl : len = 1 := eq_of_beq hk2; exact gw_JI (fun h => lv_lshr hx hb hd rfl h) hf k
  case lcmp => obtain rfl : len = 1 := eq_of_beq hk2; exact gw_Cmp (fun h => W.lcmp hx hb hd h) hf k
  case i2l => obtain rfl : len = 1 := eq_of_beq hk2; exact gw_I2l (fun h => lv_i2l hx hb hd rfl h) hf k
  case dup => obtain rfl : len = 1 := eq_of_beq hk2; exact gw_Dup (fun h1 h => lv_dup hx hb hd h1 h) hf k
  case pop => obtain rfl : len = 1 := eq_of_beq hk2; exact gw_Pop (fun h1 h => lv_pop hx hb hd h1 h) hf k
  case dup2 => obtain rfl : len = 1 := eq_of_beq hk2; exact gw_Dup2 (fun h1 h2 h => lv_dup2_11 hx hb hd h1 h2 h) hf k
  case getfield n =>
    obtain ⟨h1, h2⟩ := b2 hk2
    obtain rfl : len = 3 := eq_of_beq h2
    exact gw_Get C0 hd h1 hf k
  case putfield n =>
    obtain ⟨h1, h2, h3⟩ := b3 hk2
    obtain rfl : len = 3 := eq_of_beq h3
    exact gw_Put C0 hd h1 (by simpa using h2) hf k
  case iaload => obtain rfl : len = 1 := eq_of_beq hk2; exact gw_Ial C0 hd hf k
  case baload => obtain rfl : len = 1 := eq_of_beq hk2; exact gw_Zal C0 hd hf k
  case laload => obtain rfl : len = 1 := eq_of_beq hk2; exact gw_Lal C0 hd hf k
  case iastore => obtain rfl : len = 1 := eq_of_beq hk2; exact gw_Ias C0 hd hf k
  case bastore => obtain rfl : len = 1 := eq_of_beq hk2; exact gw_Zas C0 hd hf k
  case lastore => obtain rfl : len = 1 := eq_of_beq hk2; exact gw_Las C0 hd hf k
  case arraylength => obtain rfl : len = 1 := eq_of_beq hk2; exact gw_Len C0 hd hf k
def xs : List IA → Sx → Sx
  | [], x => x
  | q :: r, x => xs r (sI q x)
def ckB (ow : Nat) (cc : ByteArray) : Nat → List IA → Nat → Bool
  | pc, [], n => pc == n
  | pc, q :: r, n => ckI ow cc pc q && ckB ow cc (pc + q.2.1) r n
theorem xs_fl : ∀ (is : List IA) (x : Sx), (xs is x).2.2.2 = true → x.2.2.2 = true
  | [], _, h => h
  | q :: r, x, h => sI_fl q x (xs_fl r _ h)
theorem gw_blk (C : Cx ω M p s m args meth c) : ∀ (is : List IA) (pc n : Nat) (x : Sx), ckB M.2.2.2.2.1 M.2.1 pc is n = true → (xs is x).2.2.2 = true → GW ω M p l e R s m args below meth c cells slots Z n (xs is x).1 (xs is x).2.1 (xs is x).2.2.1 → GW ω M p l e R s m args below meth c cells slots Z pc x.1 x.2.1 x.2.2.1
  | [], pc, n, x, hk, hf, k => by
    obtain rfl : pc = n := eq_of_beq hk
    exact k
  | q :: r, pc, n, x, hk, hf, k => by
    obtain ⟨h1, h2⟩ := b2 hk
    exact gw_one C q x h1 (xs_fl r _ hf) (gw_blk C r _ n _ h2 hf k)
end GWB

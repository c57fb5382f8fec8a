/-! one straight instruction on locals, stack, memory, a flag that stays true as long as the machine does not throw -/
abbrev Sx : Type := List Value × List Value × Mm × Bool
abbrev IA : Type := Instr × Nat × Nat × Nat × Nat × Int
def oCl (p ci : Nat) : Bool := decide (shA p = (0, ci))
def inb (p t : Nat) (j : Int32) : Bool := decide ((shA p).1 = t) && decide (¬ (j < 0 ∨ (shA p).2 ≤ j.toNatClampNeg))
def noL (L : List Value) (i : Nat) : Bool := match i with
  | 0 => true
  | j + 1 => match L[j]? with
    | some v => v.category == 1
    | none => true
def x0 (x : Sx) : Sx := (x.1, x.2.1, x.2.2.1, false)
def xP (v : Value) (x : Sx) : Sx := (x.1, v :: x.2.1, x.2.2.1, x.2.2.2)
def xLi (i : Nat) (x : Sx) : Sx := match x.1[i]? with
  | some (.int v) => xP (.int v) x
  | _ => x0 x
def xLl (i : Nat) (x : Sx) : Sx := match x.1[i]? with
  | some (.long v) => xP (.long v) x
  | _ => x0 x
def xLa (i : Nat) (x : Sx) : Sx := match x.1[i]? with
  | some (.ref v) => xP (.ref v) x
  | _ => x0 x
def xSi (i : Nat) (x : Sx) : Sx := match x with
  | (L, .int v :: st, μ, f) => (L.set i (.int v), st, μ, decide (i < L.length) && (noL L i && f))
  | x => x0 x
def xSa (i : Nat) (x : Sx) : Sx := match x with
  | (L, .ref v :: st, μ, f) => (L.set i (.ref v), st, μ, decide (i < L.length) && (noL L i && f))
  | x => x0 x
def xSl (i : Nat) (x : Sx) : Sx := match x with
  | (L, .long v :: st, μ, f) => ((L.set i (.long v)).set (i + 1) .null, st, μ, decide (i + 1 < L.length) && (noL L i && f))
  | x => x0 x
def xInc (i : Nat) (n : Int) (x : Sx) : Sx := match x.1[i]? with
  | some (.int v) => (x.1.set i (.int (v + Int32.ofInt n)), x.2.1, x.2.2.1, decide (i < x.1.length) && (noL x.1 i && x.2.2.2))
  | _ => x0 x
def xII (g : Int32 → Int32 → Int32) (x : Sx) : Sx := match x with
  | (L, .int b :: .int a :: st, μ, f) => (L, .int (g a b) :: st, μ, f)
  | x => x0 x
def xIIn (g : Int32 → Int32 → Int32) (x : Sx) : Sx := match x with
  | (L, .int b :: .int a :: st, μ, f) => (L, .int (g a b) :: st, μ, decide (¬ b = 0) && f)
  | x => x0 x
def xJJ (g : Int64 → Int64 → Int64) (x : Sx) : Sx := match x with
  | (L, .long b :: .long a :: st, μ, f) => (L, .long (g a b) :: st, μ, f)
  | x => x0 x
def xJJn (g : Int64 → Int64 → Int64) (x : Sx) : Sx := match x with
  | (L, .long b :: .long a :: st, μ, f) => (L, .long (g a b) :: st, μ, decide (¬ b = 0) && f)
  | x => x0 x
def xJI (g : Int64 → Int32 → Int64) (x : Sx) : Sx := match x with
  | (L, .int b :: .long a :: st, μ, f) => (L, .long (g a b) :: st, μ, f)
  | x => x0 x
def xCmp (x : Sx) : Sx := match x with
  | (L, .long b :: .long a :: st, μ, f) => (L, .int (lg_cmp a b) :: st, μ, f)
  | x => x0 x
def xI2l (x : Sx) : Sx := match x with
  | (L, .int a :: st, μ, f) => (L, .long a.toInt64 :: st, μ, f)
  | x => x0 x
def xDup (x : Sx) : Sx := match x with
  | (L, v :: st, μ, f) => (L, v :: v :: st, μ, (v.category == 1) && f)
  | x => x0 x
def xPop (x : Sx) : Sx := match x with
  | (L, v :: st, μ, f) => (L, st, μ, (v.category == 1) && f)
  | x => x0 x
def xDup2 (x : Sx) : Sx := match x with
  | (L, v :: w :: st, μ, f) => (L, v :: w :: v :: w :: st, μ, (v.category == 1) && ((w.category == 1) && f))
  | x => x0 x
def aV (μ : Mm) (p k d : Nat) : Value := match d with
  | 0 => .int (ss_i μ p k)
  | 1 => .long (ss_l μ p k)
  | _ => .ref (ss_r μ p k)
def xGet (a b d : Nat) (x : Sx) : Sx := match x with
  | (L, .ref p :: st, μ, f) => (L, aV μ p b d :: st, μ, oCl p a && f)
  | x => x0 x
def xPut (a b d : Nat) (x : Sx) : Sx := match x with
  | (L, .int v :: .ref p :: st, μ, f) => (L, st, ss_wi μ p b v, oCl p a && ((d == 0) && f))
  | (L, .long v :: .ref p :: st, μ, f) => (L, st, ss_wl μ p b v, oCl p a && ((d == 1) && f))
  | (L, .ref v :: .ref p :: st, μ, f) => (L, st, ss_wr μ b v, decide (p = 0) && ((a == 6) && (decide (b < 2) && f)))
  | x => x0 x
def xIal (x : Sx) : Sx := match x with
  | (L, .int j :: .ref p :: st, μ, f) => (L, .int (ss_i μ p j.toNatClampNeg) :: st, μ, inb p 1 j && f)
  | x => x0 x
def xZal (x : Sx) : Sx := match x with
  | (L, .int j :: .ref p :: st, μ, f) => (L, .int (ss_i μ p j.toNatClampNeg) :: st, μ, inb p 3 j && f)
  | x => x0 x
def xLal (x : Sx) : Sx := match x with
  | (L, .int j :: .ref p :: st, μ, f) => (L, .long (ss_l μ p j.toNatClampNeg) :: st, μ, inb p 2 j && f)
  | x => x0 x
def xIas (x : Sx) : Sx := match x with
  | (L, .int v :: .int j :: .ref p :: st, μ, f) => (L, st, ss_wi μ p j.toNatClampNeg v, inb p 1 j && f)
  | x => x0 x
def xZas (x : Sx) : Sx := match x with
  | (L, .int v :: .int j :: .ref p :: st, μ, f) => (L, st, ss_wi μ p j.toNatClampNeg (vp_nar .boolean v), inb p 3 j && f)
  | x => x0 x
def xLas (x : Sx) : Sx := match x with
  | (L, .long v :: .int j :: .ref p :: st, μ, f) => (L, st, ss_wl μ p j.toNatClampNeg v, inb p 2 j && f)
  | x => x0 x
def xLen (x : Sx) : Sx := match x with
  | (L, .ref p :: st, μ, f) => (L, .int (Int32.ofNat (shA p).2) :: st, μ, decide (1 ≤ (shA p).1 ∧ (shA p).1 ≤ 3) && f)
  | x => x0 x
def sI (q : IA) (x : Sx) : Sx := match q.1 with
  | .iconst n => xP (.int (Int32.ofInt n)) x
  | .bipush n => xP (.int (Int8.ofInt n).toInt32) x
  | .sipush n => xP (.int (Int16.ofInt n).toInt32) x
  | .lconst n => xP (.long (Int64.ofNat (n : Nat))) x
  | .ldc _ => xP (.int (Int32.ofInt q.2.2.2.2.2)) x
  | .ldc_w _ => xP (.int (Int32.ofInt q.2.2.2.2.2)) x
  | .ldc2_w _ => xP (.long (Int64.ofInt q.2.2.2.2.2)) x
  | .iload_n k => xLi k x
  | .iload i => xLi i x
  | .lload_n k => xLl k x
  | .lload i => xLl i x
  | .aload_n k => xLa k x
  | .aload i => xLa i x
  | .istore_n k => xSi k x
  | .istore i => xSi i x
  | .lstore_n k => xSl k x
  | .lstore i => xSl i x
  | .astore_n k => xSa k x
  | .astore i => xSa i x
  | .iinc i n => xInc i n x
  | .iadd => xII (fun a b => a + b) x
  | .isub => xII (fun a b => a - b) x
  | .imul => xII (fun a b => a * b) x
  | .iand => xII (fun a b => a &&& b) x
  | .ior => xII (fun a b => a ||| b) x
  | .ixor => xII (fun a b => a ^^^ b) x
  | .ishl => xII (fun a b => a <<< (b &&& 31)) x
  | .ishr => xII (fun a b => a >>> (b &&& 31)) x
  | .iushr => xII (fun a b => (a.toUInt32 >>> (b.toUInt32 &&& Int32.toUInt32 31)).toInt32) x
  | .idiv => xIIn (fun a b => a / b) x
  | .irem => xIIn (fun a b => a - a / b * b) x
  | .ladd => xJJ (fun a b => a + b) x
  | .lsub => xJJ (fun a b => a - b) x
  | .lmul => xJJ (fun a b => a * b) x
  | .land => xJJ (fun a b => a &&& b) x
  | .lor => xJJ (fun a b => a ||| b) x
  | .ldiv => xJJn (fun a b => a / b) x
  | .lrem => xJJn (fun a b => a - a / b * b) x
  | .lshl => xJI (fun a b => a <<< (b.toInt64 &&& 63)) x
  | .lshr => xJI (fun a b => a >>> (b.toInt64 &&& 63)) x
  | .lcmp => xCmp x
  | .i2l => xI2l x
  | .dup => xDup x
  | .pop => xPop x
  | .dup2 => xDup2 x
  | .getfield _ => xGet q.2.2.1 q.2.2.2.1 q.2.2.2.2.1 x
  | .putfield _ => xPut q.2.2.1 q.2.2.2.1 q.2.2.2.2.1 x
  | .iaload => xIal x
  | .baload => xZal x
  | .laload => xLal x
  | .iastore => xIas x
  | .bastore => xZas x
  | .lastore => xLas x
  | .arraylength => xLen x
  | _ => x0 x
def flOk (ow idx a b d : Nat) : Bool := flT.contains (ow, idx, a, b) && ((fkL.getD a []).getD b 9 == d)
/-- an instruction of the code at a place, with its notes held against the tables -/
def ckI (ow : Nat) (cc : ByteArray) (pc : Nat) (q : IA) : Bool := decide (decode cc pc = .ok (q.1, q.2.1)) && (match q.1 with
  | .getfield idx => flOk ow idx q.2.2.1 q.2.2.2.1 q.2.2.2.2.1 && (q.2.1 == 3)
  | .putfield idx => flOk ow idx q.2.2.1 q.2.2.2.1 q.2.2.2.2.1 && !(TT q.2.2.1 q.2.2.2.1).2.2.2 && (q.2.1 == 3)
  | .ldc idx => ctI.contains (ow, idx, q.2.2.2.2.2) && (q.2.1 == 2)
  | .ldc_w idx => ctI.contains (ow, idx, q.2.2.2.2.2) && (q.2.1 == 3)
  | .ldc2_w idx => ctL.contains (ow, idx, q.2.2.2.2.2) && (q.2.1 == 3)
  | .bipush _ | .iload _ | .lload _ | .aload _ | .istore _ | .lstore _ | .astore _ => q.2.1 == 2
  | .sipush _ | .iinc _ _ => q.2.1 == 3
  | _ => q.2.1 == 1)

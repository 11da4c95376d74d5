/-! THE CODES AGREE WITH THE BYTES: each resolved instruction is what the bytes decode to -/
def qbpc (cd : qC) (pc : Nat) : Nat := match qnth cd pc with
  | some row => row.1
  | none => 0
def qterm : Instr → Bool
  | .goto _ => true
  | .ireturn => true
  | .lreturn => true
  | .return_ => true
  | .tableswitch .. => true
  | .lookupswitch .. => true
  | _ => false
/-- the target's row for x -/
def qswt (d : Int) (ps : List (Int × Int)) (x : Int) : Int := match ps with
  | [] => d
  | (a, t) :: ps => if x = a then t else qswt d ps x
def qtgt (cd : qC) (b : Nat) (off t : Int) : Bool := decide ((b : Int) + off = (qbpc cd t.toNat : Int))
def qlk (cd : qC) (b : Nat) : List (Int × Int) → List (Int × Int) → Bool
  | [], [] => true
  | (a, o) :: ps, (a', t) :: qs => decide (a = a') && qtgt cd b o t && qlk cd b ps qs
  | _, _ => false
def qkeys (ps : List (Int × Int)) : Bool := ps.all fun z => decide ((Int32.ofInt z.1).toInt = z.1)
def qentry (o j : Nat) (i : Instr) : Bool := match (qcpl o j).1 with
  | 2 => decide (i = .iconst (qcpl o j).2)
  | 4 => decide (i = .jsr (qcpl o j).2)
  | _ => false
def qis (o j tag : Nat) (v : Nat) : Bool := decide (qcpl o j = (tag, (v : Int)))
def qrel (o : Nat) (ret : Option FieldType) (ini : Bool) (nL : Nat) (cd : qC) (b : Nat) (di i : Instr) : Bool := match di with
  | .iconst n => decide (i = .iconst n)
  | .bipush n => (match i with
      | .iconst m => decide ((Int8.ofInt n).toInt32 = Int32.ofInt m)
      | _ => false)
  | .sipush n => (match i with
      | .iconst m => decide ((Int16.ofInt n).toInt32 = Int32.ofInt m)
      | _ => false)
  | .ldc j => qentry o j i
  | .ldc_w j => qentry o j i
  | .lconst n => (match i with
      | .goto_w m => decide (Int64.ofNat (n : Nat) = Int64.ofInt m)
      | _ => false)
  | .ldc2_w j => decide ((qcpl o j).1 = 3 ∧ i = .goto_w (qcpl o j).2)
  | .iload j => decide (i = .iload j)
  | .lload j => decide (i = .lload j)
  | .aload j => decide (i = .aload j)
  | .iload_n j => decide (i = .iload j)
  | .lload_n j => decide (i = .lload j)
  | .aload_n j => decide (i = .aload j)
  | .istore j => decide (i = .istore j) && decide (j < nL)
  | .lstore j => decide (i = .lstore j) && decide (j + 1 < nL)
  | .astore j => decide (i = .astore j) && decide (j < nL)
  | .istore_n j => decide (i = .istore j) && decide ((j : Nat) < nL)
  | .lstore_n j => decide (i = .lstore j) && decide ((j : Nat) + 1 < nL)
  | .astore_n j => decide (i = .astore j) && decide ((j : Nat) < nL)
  | .iinc j n => decide (i = .iinc j n) && decide (j < nL)
  | .iadd => decide (i = .iadd)
  | .isub => decide (i = .isub)
  | .imul => decide (i = .imul)
  | .iand => decide (i = .iand)
  | .ior => decide (i = .ior)
  | .ixor => decide (i = .ixor)
  | .idiv => decide (i = .idiv)
  | .irem => decide (i = .irem)
  | .ineg => decide (i = .ineg)
  | .ishl => decide (i = .ishl)
  | .ishr => decide (i = .ishr)
  | .iushr => decide (i = .iushr)
  | .land => decide (i = .land)
  | .lor => decide (i = .lor)
  | .lshl => decide (i = .lshl)
  | .lshr => decide (i = .lshr)
  | .lcmp => decide (i = .lcmp)
  | .i2l => decide (i = .i2l)
  | .l2i => decide (i = .l2i)
  | .i2c => decide (i = .i2c)
  | .dup => decide (i = .dup)
  | .dup2 => decide (i = .dup2)
  | .pop => decide (i = .pop)
  | .ifCond c off => (match i with
      | .ifCond c' t => decide (c = c') && qtgt cd b off t
      | _ => false)
  | .if_icmp c off => (match i with
      | .if_icmp c' t => decide (c = c') && qtgt cd b off t
      | _ => false)
  | .goto off => (match i with
      | .goto t => qtgt cd b off t
      | _ => false)
  | .tableswitch d lo hi offs => (match i with
      | .lookupswitch d' ps => qtgt cd b d d' && qkeys ps.toList && ps.toList.all (fun z => decide (lo ≤ z.1 ∧ z.1 ≤ hi)) && decide ((offs.size : Int) = hi - lo + 1) && (List.range offs.size).all fun k => match offs[k]? with
          | some off => qtgt cd b off (qswt d' ps.toList (lo + (k : Int)))
          | none => false
      | _ => false)
  | .lookupswitch d ps => (match i with
      | .lookupswitch d' qs => qtgt cd b d d' && qkeys qs.toList && qlk cd b ps.toList qs.toList && (ps.toList.zip (ps.toList.drop 1)).all (fun (a, next) => a.1 < next.1)
      | _ => false)
  | .getfield j => (match i with
      | .getfield n => qis o j 1 n || (decide (n = 0) && qis o j 19 n) || (decide (n = 1) && qis o j 20 n)
      | _ => false)
  | .putfield j => (match i with
      | .putfield n => qis o j 1 n && (!(qfT n).2.2.2 || (ini && decide ((qfT n).1 = qown o)))
      | _ => false)
  | .getstatic j => (match i with
      | .jsr n => decide ((qcpl o j).2 = n) && decide ((qcpl o j).1 = 5 ∨ (qcpl o j).1 = 6 ∨ (qcpl o j).1 = 8)
      | .iconst n => decide (n = 1) && qis o j 7 1
      | _ => false)
  | .iaload => decide (i = .iaload)
  | .caload => decide (i = .caload)
  | .baload => decide (i = .baload)
  | .laload => decide (i = .laload)
  | .aaload => decide (i = .aaload)
  | .iastore => decide (i = .iastore)
  | .castore => decide (i = .castore)
  | .bastore => decide (i = .bastore)
  | .lastore => decide (i = .lastore)
  | .aastore => decide (i = .aastore)
  | .arraylength => decide (i = .arraylength)
  | .new j => (match i with
      | .new n => qis o j 9 n
      | _ => false)
  | .newarray t => (match i with
      | .anewarray n => (match t with
          | .int => n == 20
          | .long => n == 21
          | .char => n == 22
          | .boolean => n == 23
          | _ => false)
      | _ => false)
  | .anewarray j => decide (i = .anewarray 24) && qis o j 9 513
  | .invokevirtual j => (match i with
      | .invokestatic n => qis o j 11 n || qis o j 14 n
      | _ => false)
  | .invokestatic j => (match i with
      | .invokestatic n => qis o j 12 n || qis o j 15 n
      | .multianewarray .. => qis o j 18 0
      | .fmul => qis o j 21 0
      | .fadd => qis o j 22 0
      | _ => false)
  | .invokespecial j => (match i with
      | .invokestatic n => qis o j 13 n || qis o j 16 n
      | .pop2 => qis o j 17 0
      | _ => false)
  | .ireturn => (match i with
      | .ireturn => decide (ret = some .int)
      | .freturn => decide (ret = some .boolean)
      | .dreturn => decide (ret = some .char)
      | .areturn => decide (ret = some .byte)
      | _ => false)
  | .lreturn => decide (i = .lreturn ∧ ret = some .long)
  | .return_ => decide (i = .return_ ∧ ret = none)
  | _ => false
def qlen (di : Instr) : Nat := match di with
  | .bipush _ => 2
  | .sipush _ => 3
  | .ldc _ => 2
  | .ldc_w _ => 3
  | .ldc2_w _ => 3
  | .iload _ => 2
  | .lload _ => 2
  | .aload _ => 2
  | .istore _ => 2
  | .lstore _ => 2
  | .astore _ => 2
  | .iinc _ _ => 3
  | .ifCond _ _ => 3
  | .if_icmp _ _ => 3
  | .goto _ => 3
  | .getfield _ => 3
  | .putfield _ => 3
  | .getstatic _ => 3
  | .new _ => 3
  | .newarray _ => 2
  | .anewarray _ => 3
  | .invokevirtual _ => 3
  | .invokestatic _ => 3
  | .invokespecial _ => 3
  | _ => 1
def qrowok (o : Nat) (ret : Option FieldType) (ini : Bool) (nL : Nat) (b : ByteArray) (cd : qC) (k : Nat) (row : Nat × Nat × Instr) : Bool :=
  decide (row.2.2 = .nop) || match decode b row.1 with
    | .ok (di, len) => qrel o ret ini nL cd row.1 di row.2.2 && (qterm di || (decide (len = qlen di) && match qnth cd (k + 1) with
        | some nx => decide (nx.1 = row.1 + len)
        | none => false)) && (match di with
          | .goto _ => decide (len = 3)
          | .ireturn => decide (len = 1)
          | .lreturn => decide (len = 1)
          | .return_ => decide (len = 1)
          | _ => true)
    | .error _ => false
def qcodes (o : Nat) (ret : Option FieldType) (ini : Bool) (nL : Nat) (b : ByteArray) (cd : qC) : Nat → List (Nat × Nat × Instr) → Bool
  | _, [] => true
  | k, row :: l => qrowok o ret ini nL b cd k row && qcodes o ret ini nL b cd (k + 1) l
/-- a method's code is as its bytes have it -/
abbrev qcodeok (M : Nat) : Prop := qcodes (qm M).1 (qm M).2.2.2.2.2.1 (decide ((qmy M).name = "<init>")) (qm M).2.2.2.2.1 (qm M).2.2.2.1 (qm M).2.2.2.2.2.2 0 (qm M).2.2.2.2.2.2 = true
theorem qcodes_at {o : Nat} {ret : Option FieldType} {ini : Bool} {nL : Nat} {b : ByteArray} {cd : qC} : ∀ {l : List (Nat × Nat × Instr)} {k i : Nat} {row : Nat × Nat × Instr}, qcodes o ret ini nL b cd k l = true → qnth l i = some row → qrowok o ret ini nL b cd (k + i) row = true := by
  intro l
  induction l with
  | nil => intro k i row h hi; cases i <;> cases hi
  | cons a l ih =>
    intro k i row h hi
    simp only [qcodes, Bool.and_eq_true] at h
    cases i with
    | zero => simp only [qnth, Option.some.injEq] at hi; rw [← hi]; exact h.1
    | succ i =>
      have := ih h.2 (show qnth l i = some row from hi)
      rw [show k + (i + 1) = k + 1 + i by omega]
      exact this

/-! THE PURE MACHINE: a small interpreter of resolved instructions over a memory of numbers. An Instr of the code lists below is RESOLVED: what its numbers mean here is said at its row of 'qop'. -/
def qnth {α : Type} : List α → Nat → Option α
  | [], _ => none
  | a :: _, 0 => some a
  | _ :: l, n + 1 => qnth l n
/-- memory: kinds of the objects 1, 2, .. (code, length), their ints, longs, references (0: null), cells and slots made -/
abbrev qM : Type := List (Nat × Nat) × (Nat → Nat → Int32) × (Nat → Nat → Int64) × (Nat → Nat → Nat) × Nat × Nat
abbrev qR : Type := Int32 × Int64 × qM
abbrev qF : Type := Nat → List Value → qM → Option qR
abbrev qC : Type := List (Nat × Nat × Instr)
abbrev qK : Type := Nat → List Value → List Value → qM → Option qR
/-- kind of an object: below 20 the class' number; 20 int[], 21 long[], 22 char[], 23 boolean[], 24 references -/
def qk (μ : qM) (a : Nat) : Nat × Nat := match a with
  | 0 => (99, 0)
  | a + 1 => (qnth μ.1 a).getD (99, 0)
def qI (μ : qM) (a i : Nat) : Int32 := μ.2.1 a i
def qL (μ : qM) (a i : Nat) : Int64 := μ.2.2.1 a i
def qP (μ : qM) (a i : Nat) : Nat := μ.2.2.2.1 a i
def qsI (μ : qM) (a i : Nat) (x : Int32) : qM := (μ.1, fun b j => if b = a ∧ j = i then x else μ.2.1 b j, μ.2.2)
def qsL (μ : qM) (a i : Nat) (x : Int64) : qM := (μ.1, μ.2.1, fun b j => if b = a ∧ j = i then x else μ.2.2.1 b j, μ.2.2.2)
def qsP (μ : qM) (a i : Nat) (x : Nat) : qM := (μ.1, μ.2.1, μ.2.2.1, fun b j => if b = a ∧ j = i then x else μ.2.2.2.1 b j, μ.2.2.2.2)
/-- a new object of n slots -/
def qnew (μ : qM) (c n : Nat) : qM := (μ.1 ++ [(c, n)], fun b j => if b = μ.1.length + 1 then 0 else μ.2.1 b j, fun b j => if b = μ.1.length + 1 then 0 else μ.2.2.1 b j, fun b j => if b = μ.1.length + 1 then 0 else μ.2.2.2.1 b j, μ.2.2.2.2.1 + 1, μ.2.2.2.2.2 + n)
def qcpy (μ : qM) (a0 : Nat) (sp : Nat) (a1 : Nat) (dp n : Nat) : qM := (μ.1, fun b j => if b = a1 ∧ dp ≤ j ∧ j < dp + n then μ.2.1 a0 (sp + (j - dp)) else μ.2.1 b j, μ.2.2)
/-- constants: 0 TOGETHER, 1 STRONG, 2 BOTH, 3 WITH, 4 the reference's STRONG; 10 + i the i-th String, 30 + i its bytes; 50 another reference -/
def qtabs : List (List Int32) := [[127, 63, 7, 43, 3, 11, 1], [1, 3, 7, 11, 31, 43, 127], [0, 1, 2, 3, 4, 5, 6, 1, 1, 2, 3, 4, 5, 6, 2, 2, 2, 4, 4, 6, 6, 3, 3, 4, 3, 4, 5, 6, 4, 4, 4, 4, 4, 6, 6, 5, 5, 6, 5, 6, 5, 6, 6, 6, 6, 6, 6, 6, 6], [127, 63, 7, 43, 3, 11, 1], [1, 3, 7, 11, 31, 43, 127]]
def qstrs : List (List Int32) := [[73, 83], [73, 88], [83], [83, 73, 88], [85], [88], [98, 108, 108, 108, 119, 111], [101, 102, 103], [119, 104, 97, 102, 105, 113, 120], [60, 62, 61], [43, 45], [42, 47], [102, 98, 101, 118, 119, 117, 103, 108]]
/-- kind of a constant: 1 int[], 2 String, 3 byte[], 0 other -/
def qtk (j : Nat) : Nat := if j < 5 then 1 else if 10 ≤ j ∧ j < 10 + qstrs.length then 2 else if 30 ≤ j ∧ j < 30 + qstrs.length then 3 else 0
def qtv (j : Nat) : List Int32 := if j < 5 then (qnth qtabs j).getD [] else (qnth qstrs (j - 30)).getD []
def oGetI (μ : qM) (c a k : Nat) : Option Int32 := if (qk μ a).1 = c then some (qI μ a k) else none
def oGetP (μ : qM) (c a k : Nat) : Option Nat := if (qk μ a).1 = c then some (qP μ a k) else none
def oPutI (μ : qM) (c a k : Nat) (x : Int32) : Option qM := if (qk μ a).1 = c then some (qsI μ a k x) else none
def oPutP (μ : qM) (c a k : Nat) (x : Nat) : Option qM := if (qk μ a).1 = c then some (qsP μ a k x) else none
def oLdI (t : Nat) (μ : qM) (a : Nat) (i : Int32) : Option Int32 := if (qk μ a).1 = t ∧ ¬ (i < 0 ∨ (qk μ a).2 ≤ i.toNatClampNeg) then some (qI μ a i.toNatClampNeg) else none
def oLdL (μ : qM) (a : Nat) (i : Int32) : Option Int64 := if (qk μ a).1 = 21 ∧ ¬ (i < 0 ∨ (qk μ a).2 ≤ i.toNatClampNeg) then some (qL μ a i.toNatClampNeg) else none
def oLdP (μ : qM) (a : Nat) (i : Int32) : Option Nat := if (qk μ a).1 = 24 ∧ ¬ (i < 0 ∨ (qk μ a).2 ≤ i.toNatClampNeg) then some (qP μ a i.toNatClampNeg) else none
def oStI (t : Nat) (μ : qM) (a : Nat) (i x : Int32) : Option qM := if (qk μ a).1 = t ∧ ¬ (i < 0 ∨ (qk μ a).2 ≤ i.toNatClampNeg) then some (qsI μ a i.toNatClampNeg x) else none
def oStL (μ : qM) (a : Nat) (i : Int32) (x : Int64) : Option qM := if (qk μ a).1 = 21 ∧ ¬ (i < 0 ∨ (qk μ a).2 ≤ i.toNatClampNeg) then some (qsL μ a i.toNatClampNeg x) else none
def oStP (μ : qM) (a : Nat) (i : Int32) (x : Nat) : Option qM := if (qk μ a).1 = 24 ∧ ¬ (i < 0 ∨ (qk μ a).2 ≤ i.toNatClampNeg) ∧ (qk μ x).1 = 5 then some (qsP μ a i.toNatClampNeg x) else none
def oLen (μ : qM) (a : Nat) : Option Int32 := if 20 ≤ (qk μ a).1 ∧ (qk μ a).1 ≤ 24 then some (Int32.ofNat (qk μ a).2) else none
def oTab (t j : Nat) (i : Int32) : Option Int32 := if qtk j = t ∧ ¬ (i < 0 ∨ (qtv j).length ≤ i.toNatClampNeg) then some ((qtv j).getD i.toNatClampNeg 0) else none
def oCpy (μ : qM) (a0 : Nat) (sp : Int32) (a1 : Nat) (dp n : Int32) : Option qM :=
  if ((qk μ a0).1 = 20 ∧ (qk μ a1).1 = 20) ∧ (¬ sp < 0 ∧ ¬ dp < 0 ∧ ¬ n < 0) ∧ (sp.toNatClampNeg + n.toNatClampNeg ≤ (qk μ a0).2 ∧ dp.toNatClampNeg + n.toNatClampNeg ≤ (qk μ a1).2) then some (qcpy μ a0 sp.toNatClampNeg a1 dp.toNatClampNeg n.toNatClampNeg) else none
def oNew (al : Bool) (μ : qM) (c n : Nat) : Option (Nat × qM) := if al = true then some (μ.1.length + 1, qnew μ c n) else none
def oArr (al : Bool) (μ : qM) (t : Nat) (n : Int32) : Option (Nat × qM) := if (n < 0 ∨ 100000 ≤ n.toNatClampNeg) ∨ al = false then none else some (μ.1.length + 1, qnew μ t n.toNatClampNeg)
/-- rounds of a loop, at most; depth of those that call themselves -/
noncomputable def qfu : Nat := Classical.choose (⟨10000, rfl⟩ : ∃ n : Nat, n = 10000)
theorem qfu_eq : qfu = 10000 := Classical.choose_spec (⟨10000, rfl⟩ : ∃ n : Nat, n = 10000)
noncomputable def qdp : Nat := Classical.choose (⟨120, rfl⟩ : ∃ n : Nat, n = 120)
theorem qdp_eq : qdp = 120 := Classical.choose_spec (⟨120, rfl⟩ : ∃ n : Nat, n = 120)
/-- a local is stored: a long below it is lost -/
def qst (L : List Value) (i : Nat) (v : Value) : List Value := match i with
  | 0 => L.set 0 v
  | i + 1 => match qnth L i with
    | some (.long _) => (L.set i .null).set (i + 1) v
    | some (.double _) => (L.set i .null).set (i + 1) v
    | _ => L.set (i + 1) v
def q1 (S : List Value) (f : Int32 → List Value → Option qR) : Option qR := match S with
  | .int x :: S => f x S
  | _ => none
def q2 (S : List Value) (f : Int32 → Int32 → List Value → Option qR) : Option qR := match S with
  | .int y :: .int x :: S => f x y S
  | _ => none
def ql2 (S : List Value) (f : Int64 → Int64 → List Value → Option qR) : Option qR := match S with
  | .long y :: .long x :: S => f x y S
  | _ => none
def qli (S : List Value) (f : Int64 → Int32 → List Value → Option qR) : Option qR := match S with
  | .int y :: .long x :: S => f x y S
  | _ => none
def ql1 (S : List Value) (f : Int64 → List Value → Option qR) : Option qR := match S with
  | .long x :: S => f x S
  | _ => none
def qbnd {α : Type} (o : Option α) (f : α → Option qR) : Option qR := match o with
  | some a => f a
  | none => none
def qcond (c : ClassFile.Cond) (x y : Int32) (t e : Option qR) : Option qR := match c with
  | .eq => if x = y then t else e
  | .ne => if x = y then e else t
  | .lt => if x < y then t else e
  | .ge => if y ≤ x then t else e
  | .gt => if y < x then t else e
  | .le => if x ≤ y then t else e
/-- tables of a switch: targets are rows -/
def qlook (d : Int) (ps : List (Int × Int)) (x : Int32) (k : Nat → Option qR) : Option qR := match ps with
  | [] => k d.toNat
  | (a, t) :: ps => if x = Int32.ofInt a then k t.toNat else qlook d ps x k
/-- x >>> y, unsigned -/
def qush (x y : Int32) : Int32 := (x.toUInt32 >>> (y.toUInt32 &&& Int32.toUInt32 31)).toInt32
def qnz (x : Int32) : Int32 := vp_nar .boolean x
def qnc (x : Int32) : Int32 := vp_nar .char x
def qnb (x : Int32) : Int32 := vp_nar .byte x
def qcats (S : List Value) : Nat := (S.map fun v => v.category).sum
/-- a call: n = 100 times the method, 10 times how many values it takes, and what it answers (0 nothing, 1 int, 2 long) -/
def qcall (cf : qF) (n pc : Nat) (L S : List Value) (μ : qM) (k : qK) : Option qR :=
  if qcats (S.drop (n % 100 / 10)) ≤ 8 then
    qbnd (cf (n / 100) ((S.take (n % 100 / 10)).reverse) μ) fun r => match n % 10 with
      | 0 => k (pc + 1) L (S.drop (n % 100 / 10)) r.2.2
      | 1 => k (pc + 1) L (.int r.1 :: S.drop (n % 100 / 10)) r.2.2
      | _ => k (pc + 1) L (.long r.2.1 :: S.drop (n % 100 / 10)) r.2.2
  else none
/-- a field n = 1000 times the class, 10 times its place, and its type (0 int, 2 reference, 3 boolean) -/
def qget (n pc : Nat) (L S : List Value) (μ : qM) (k : qK) : Option qR := match S with
  | .ref a :: S => if n < 2 then none else (match n % 10 with
      | 2 => qbnd (oGetP μ (n / 1000) a (n % 1000 / 10)) fun x => k (pc + 1) L (.ref x :: S) μ
      | _ => qbnd (oGetI μ (n / 1000) a (n % 1000 / 10)) fun x => k (pc + 1) L (.int x :: S) μ)
  | .retAddr j :: S => if qtk j = 2 then (match n with
      | 0 => k (pc + 1) L (.retAddr (j + 20) :: S) μ
      | 1 => k (pc + 1) L (.int 0 :: S) μ
      | _ => none) else none
  | _ => none
def qput (n pc : Nat) (L S : List Value) (μ : qM) (k : qK) : Option qR := match S with
  | .int x :: .ref a :: S => (match n % 10 with
      | 0 => qbnd (oPutI μ (n / 1000) a (n % 1000 / 10) x) fun μ => k (pc + 1) L S μ
      | 3 => if x = 0 ∨ x = 1 then qbnd (oPutI μ (n / 1000) a (n % 1000 / 10) x) fun μ => k (pc + 1) L S μ else none
      | _ => none)
  | .ref x :: .ref a :: S => if n % 10 = 2 then qbnd (oPutP μ (n / 1000) a (n % 1000 / 10) x) fun μ => k (pc + 1) L S μ else none
  | _ => none
def qld (t u pc : Nat) (L S : List Value) (μ : qM) (k : qK) : Option qR := match S with
  | .int i :: .ref a :: S => qbnd (oLdI t μ a i) fun x => k (pc + 1) L (.int x :: S) μ
  | .int i :: .retAddr j :: S => qbnd (oTab u j i) fun x => k (pc + 1) L (.int x :: S) μ
  | _ => none
def qsto (t : Nat) (w : Int32 → Int32) (pc : Nat) (L S : List Value) (μ : qM) (k : qK) : Option qR := match S with
  | .int x :: .int i :: .ref a :: S => qbnd (oStI t μ a i (w x)) fun μ => k (pc + 1) L S μ
  | _ => none
/-- one instruction; al: objects may be made (and then no array is copied) -/
def qop (al : Bool) (cf : qF) (i : Instr) (pc : Nat) (L S : List Value) (μ : qM) (k : qK) : Option qR := match i with
  -- an int constant
  | .iconst n => k (pc + 1) L (.int (Int32.ofInt n) :: S) μ
  -- a long constant
  | .goto_w n => k (pc + 1) L (.long (Int64.ofInt n) :: S) μ
  -- a constant reference
  | .jsr n => k (pc + 1) L (.retAddr n.toNat :: S) μ
  | .iload j => (match qnth L j with
      | some (.int x) => k (pc + 1) L (.int x :: S) μ
      | _ => none)
  | .lload j => (match qnth L j with
      | some (.long x) => k (pc + 1) L (.long x :: S) μ
      | _ => none)
  | .aload j => (match qnth L j with
      | some (.ref x) => k (pc + 1) L (.ref x :: S) μ
      | some (.retAddr x) => k (pc + 1) L (.retAddr x :: S) μ
      | _ => none)
  | .istore j => q1 S fun x S => k (pc + 1) (qst L j (.int x)) S μ
  | .lstore j => ql1 S fun x S => k (pc + 1) (qst (L.set (j + 1) .null) j (.long x)) S μ
  | .astore j => (match S with
      | .ref x :: S => k (pc + 1) (qst L j (.ref x)) S μ
      | .retAddr x :: S => k (pc + 1) (qst L j (.retAddr x)) S μ
      | _ => none)
  | .iinc j n => (match qnth L j with
      | some (.int x) => k (pc + 1) (qst L j (.int (x + Int32.ofInt n))) S μ
      | _ => none)
  | .iadd => q2 S fun x y S => k (pc + 1) L (.int (x + y) :: S) μ
  | .isub => q2 S fun x y S => k (pc + 1) L (.int (x - y) :: S) μ
  | .imul => q2 S fun x y S => k (pc + 1) L (.int (x * y) :: S) μ
  | .iand => q2 S fun x y S => k (pc + 1) L (.int (x &&& y) :: S) μ
  | .ior => q2 S fun x y S => k (pc + 1) L (.int (x ||| y) :: S) μ
  | .ixor => q2 S fun x y S => k (pc + 1) L (.int (x ^^^ y) :: S) μ
  | .idiv => q2 S fun x y S => if y = 0 then none else k (pc + 1) L (.int (x / y) :: S) μ
  | .irem => q2 S fun x y S => if y = 0 then none else k (pc + 1) L (.int (x - x / y * y) :: S) μ
  | .ineg => q1 S fun x S => k (pc + 1) L (.int (-x) :: S) μ
  | .ishl => q2 S fun x y S => k (pc + 1) L (.int (x <<< (y &&& 31)) :: S) μ
  | .ishr => q2 S fun x y S => k (pc + 1) L (.int (x >>> (y &&& 31)) :: S) μ
  | .iushr => q2 S fun x y S => k (pc + 1) L (.int (qush x y) :: S) μ
  | .land => ql2 S fun x y S => k (pc + 1) L (.long (x &&& y) :: S) μ
  | .lor => ql2 S fun x y S => k (pc + 1) L (.long (x ||| y) :: S) μ
  | .lshl => qli S fun x y S => k (pc + 1) L (.long (x <<< (y.toInt64 &&& 63)) :: S) μ
  | .lshr => qli S fun x y S => k (pc + 1) L (.long (x >>> (y.toInt64 &&& 63)) :: S) μ
  | .lcmp => ql2 S fun x y S => k (pc + 1) L (.int (lg_cmp x y) :: S) μ
  | .i2l => q1 S fun x S => k (pc + 1) L (.long x.toInt64 :: S) μ
  | .l2i => ql1 S fun x S => k (pc + 1) L (.int x.toInt32 :: S) μ
  | .i2c => q1 S fun x S => k (pc + 1) L (.int (x.toUInt32 % 65536).toInt32 :: S) μ
  | .dup => (match S with
      | .int x :: S => k (pc + 1) L (.int x :: .int x :: S) μ
      | .ref x :: S => k (pc + 1) L (.ref x :: .ref x :: S) μ
      | _ => none)
  | .dup2 => (match S with
      | .int x :: .ref y :: S => k (pc + 1) L (.int x :: .ref y :: .int x :: .ref y :: S) μ
      | _ => none)
  | .pop => (match S with
      | .int _ :: S => k (pc + 1) L S μ
      | .ref _ :: S => k (pc + 1) L S μ
      | _ => none)
  -- the constructor of Object
  | .pop2 => (match S with
      | .ref a :: S => if 0 < a ∧ qcats S ≤ 8 then k (pc + 1) L S μ else none
      | _ => none)
  | .ifCond c t => q1 S fun x S => qcond c x 0 (k t.toNat L S μ) (k (pc + 1) L S μ)
  | .if_icmp c t => q2 S fun x y S => qcond c x y (k t.toNat L S μ) (k (pc + 1) L S μ)
  | .goto t => k t.toNat L S μ
  | .lookupswitch d ps => q1 S fun x S => qlook d ps.toList x fun t => k t L S μ
  | .getfield n => qget n pc L S μ k
  | .putfield n => qput n pc L S μ k
  | .iaload => qld 20 1 pc L S μ k
  | .caload => qld 22 9 pc L S μ k
  -- of a boolean[]; of a constant byte[]
  | .baload => qld 23 3 pc L S μ k
  | .laload => (match S with
      | .int i :: .ref a :: S => qbnd (oLdL μ a i) fun x => k (pc + 1) L (.long x :: S) μ
      | _ => none)
  | .aaload => (match S with
      | .int i :: .ref a :: S => qbnd (oLdP μ a i) fun x => k (pc + 1) L (.ref x :: S) μ
      | _ => none)
  | .iastore => qsto 20 (fun x => x) pc L S μ k
  | .castore => if al = true then none else qsto 22 qnc pc L S μ k
  | .bastore => if al = true then none else qsto 23 qnz pc L S μ k
  | .lastore => (match S with
      | .long x :: .int i :: .ref a :: S => if al = true then none else qbnd (oStL μ a i x) fun μ => k (pc + 1) L S μ
      | _ => none)
  | .aastore => (match S with
      | .ref x :: .int i :: .ref a :: S => qbnd (oStP μ a i x) fun μ => k (pc + 1) L S μ
      | _ => none)
  | .arraylength => (match S with
      | .ref a :: S => qbnd (oLen μ a) fun x => k (pc + 1) L (.int x :: S) μ
      | .retAddr j :: S => if qtk j = 1 ∨ qtk j = 3 then k (pc + 1) L (.int (Int32.ofNat (qtv j).length) :: S) μ else none
      | _ => none)
  -- n = 100 times the class, and how many fields
  | .new n => qbnd (oNew al μ (n / 100) (n % 100)) fun r => k (pc + 1) L (.ref r.1 :: S) r.2
  -- the kind 20 .. 23, and of references 24
  | .anewarray n => q1 S fun x S => qbnd (oArr al μ n x) fun r => k (pc + 1) L (.ref r.1 :: S) r.2
  | .invokestatic n => qcall cf n pc L S μ k
  -- Math.min, Math.max of ints
  | .fmul => q2 S fun x y S => if qcats S ≤ 8 then k (pc + 1) L (.int (if y < x then y else x) :: S) μ else none
  | .fadd => q2 S fun x y S => if qcats S ≤ 8 then k (pc + 1) L (.int (if x < y then y else x) :: S) μ else none
  -- System.arraycopy of int[]
  | .multianewarray _ _ => (match S with
      | .int n :: .int dp :: .ref a1 :: .int sp :: .ref a0 :: S => if al = false ∧ qcats S ≤ 8 then qbnd (oCpy μ a0 sp a1 dp n) fun μ => k (pc + 1) L S μ else none
      | _ => none)
  -- the end: int, boolean (freturn), char (dreturn), byte (areturn), long, nothing
  | .ireturn => (match S with
      | [.int x] => some (x, 0, μ)
      | _ => none)
  | .freturn => (match S with
      | [.int x] => if qnz x = x then some (x, 0, μ) else none
      | _ => none)
  | .dreturn => (match S with
      | [.int x] => if qnc x = x then some (x, 0, μ) else none
      | _ => none)
  | .areturn => (match S with
      | [.int x] => if qnb x = x then some (x, 0, μ) else none
      | _ => none)
  | .lreturn => (match S with
      | [.long x] => some (0, x, μ)
      | _ => none)
  | .return_ => (match S with
      | [] => some (0, 0, μ)
      | _ => none)
  | _ => none
def qstep (al : Bool) (cf : qF) (cd : qC) (pc : Nat) (L S : List Value) (μ : qM) (k : qK) : Option qR := match qnth cd pc with
  | some (_, _, i) => qop al cf i pc L S μ k
  | none => none
/-- n steps, to the method's end -/
def qrun (al : Bool) (cf : qF) (cd : qC) : Nat → qK
  | 0 => fun _ _ _ _ => none
  | n + 1 => fun pc L S μ => qstep al cf cd pc L S μ (qrun al cf cd n)
/-- up to n steps, to the method's end or to a row of 'st', where K answers -/
def qblk (al : Bool) (cf : qF) (cd : qC) (st : Nat → Bool) (K : qK) : Nat → qK
  | 0 => fun _ _ _ _ => none
  | n + 1 => fun pc L S μ => qstep al cf cd pc L S μ fun pc' L' S' μ' => if st pc' = true then K pc' L' S' μ' else qblk al cf cd st K n pc' L' S' μ'
def qin (l : List Nat) (n : Nat) : Bool := match l with
  | [] => false
  | a :: l => if a = n then true else qin l n
/-- what a method starts with -/
def qent : List Value → Nat → List Value
  | [], n => List.replicate n .null
  | .long x :: vs, n => .long x :: .null :: qent vs (n - 2)
  | v :: vs, n => v :: qent vs (n - 1)

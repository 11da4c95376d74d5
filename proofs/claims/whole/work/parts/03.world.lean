/-! THE WORLD: how a memory of the pure machine lies in the heap. The k-th object made lies at base + k. -/
def qA (base : Nat) : Nat → Prop := fun q => base ≤ q
/-- a value of the pure machine as the machine has it -/
def qtr (base : Nat) (cv : Nat → Value) : Value → Value
  | .ref 0 => .null
  | .ref (k + 1) => .ref (base + k)
  | .retAddr j => cv j
  | v => v
def qopt (base : Nat) : Nat → Option Nat
  | 0 => none
  | k + 1 => some (base + k)
theorem qopt_tr (base : Nat) (cv : Nat → Value) (x : Nat) : va_rf (qopt base x) = qtr base cv (.ref x) := by cases x <;> rfl
/-- classes: the fields' types (0 int, 2 reference, 3 boolean) -/
def qftys : List (List Nat) := [[2, 2, 2, 2, 0], [2, 0, 0], [2, 2, 2, 2], [2, 0], [2, 2, 2, 0, 0, 0, 0, 0, 3], [2, 2, 2, 2, 2, 2, 2, 2, 2, 2, 0, 0, 0], [2, 0], [2, 2, 2, 2, 2, 2, 2, 2, 2, 2], [0, 0, 2, 2, 0, 0, 0, 0, 2, 2, 0, 0, 2, 2, 2, 2, 0, 2, 0, 2, 2, 2, 2, 2, 0, 0, 2, 2, 0, 2, 2]]
def qfty (c j : Nat) : Nat := (qnth ((qnth qftys c).getD []) j).getD 0
def qfn (c : Nat) : Nat := ((qnth qftys c).getD []).length
def qcl (c : Nat) : vw_C := (qnth vwCl c).getD (RX0, TX0, 5)
def qtyF (c : Nat) : Nat → FieldType := match c with
  | 0 => tyX0
  | 1 => tyX1
  | 2 => tyX2
  | 3 => tyX3
  | 4 => tyX4
  | 5 => tyX5
  | 6 => tyX6
  | 7 => tyX7
  | _ => tyX8
def qslot (base : Nat) (cv : Nat → Value) (μ : qM) (k c j : Nat) : Value := if qfty c j = 2 then qtr base cv (.ref (qP μ (k + 1) j)) else .int (qI μ (k + 1) j)
/-- the array classes by their kinds -/
def qE (base : Nat) (ca : Nat → ClassId) (cv : Nat → Value) (μ : qM) (k : Nat) : va_E := match qnth μ.1 k with
  | none => .inr (0, [])
  | some (c, n) =>
    if c < 20 then .inr (c, (List.range (qfn c)).map (qslot base cv μ k c))
    else if c = 21 then .inl (ca 21, n, .inr (.inl (qL μ (k + 1))))
    else if c = 24 then .inl (ca 24, n, .inr (.inr (.inr (.inr fun j => qopt base (qP μ (k + 1) j)))))
    else .inl (ca c, n, .inl (qI μ (k + 1)))
def qW (base : Nat) (ca : Nat → ClassId) (cv : Nat → Value) (μ : qM) : va_W := (List.range μ.1.length).map fun k => (base + k, qE base ca cv μ k)
def qtys (ca : Nat → ClassId) : List (ClassId × FieldType) := [(ca 20, .int), (ca 21, .long), (ca 22, .char), (ca 23, .boolean), (ca 24, .object "LockLadder$State")]
theorem qnth_eq {α : Type} (l : List α) (n : Nat) : qnth l n = l[n]? := by
  induction l generalizing n with
  | nil => cases n <;> rfl
  | cons a l ih => cases n with
    | zero => rfl
    | succ n => simpa [qnth] using ih n
theorem qnth_lt {α : Type} {l : List α} {n : Nat} {a : α} (h : qnth l n = some a) : n < l.length := by
  rw [qnth_eq] at h
  exact (List.getElem?_eq_some_iff.mp h).1
theorem qk_some {μ : qM} {a c n : Nat} (h : qk μ a = (c, n)) (hc : c ≠ 99) : ∃ k, a = k + 1 ∧ qnth μ.1 k = some (c, n) := by
  cases a with
  | zero => simp only [qk, Prod.mk.injEq] at h; exact absurd h.1.symm hc
  | succ k =>
    refine ⟨k, rfl, ?_⟩
    simp only [qk] at h
    cases hq : qnth μ.1 k with
    | none => rw [hq] at h; simp only [Option.getD_none, Prod.mk.injEq] at h; exact absurd h.1.symm hc
    | some z => rw [hq] at h; simp only [Option.getD_some] at h; rw [h]
theorem qk_at {μ : qM} {a c : Nat} (h : (qk μ a).1 = c) (hc : c ≠ 99) : ∃ k, a = k + 1 ∧ qnth μ.1 k = some (c, (qk μ a).2) :=
  qk_some (by rw [← h]) hc
theorem qW_get {base : Nat} {ca : Nat → ClassId} {cv : Nat → Value} {μ : qM} {k : Nat} {z : Nat × Nat} (h : qnth μ.1 k = some z) : (qW base ca cv μ)[k]? = some (base + k, qE base ca cv μ k) := by
  have hl := qnth_lt h
  simp [qW, hl]
/-- one object is written -/
theorem qW_set {base : Nat} {ca : Nat → ClassId} {cv : Nat → Value} {μ μ' : qM} {k : Nat} {e : va_E} (h1 : μ'.1 = μ.1) (hk : qE base ca cv μ' k = e) (h2 : ∀ i, i ≠ k → qE base ca cv μ' i = qE base ca cv μ i) : (qW base ca cv μ).set k (base + k, e) = qW base ca cv μ' := by
  apply List.ext_getElem?
  intro i
  rw [List.getElem?_set]
  by_cases hi : k = i
  · subst hi
    rw [if_pos rfl]
    by_cases hl : k < (qW base ca cv μ).length
    · rw [if_pos hl]
      have hl2 : k < μ.1.length := by simpa [qW] using hl
      simp [qW, h1, hl2, hk]
    · rw [if_neg hl]
      have hl2 : ¬ k < μ.1.length := by simpa [qW] using hl
      simp [qW, h1, Nat.not_lt.mp hl2]
  · rw [if_neg hi]
    by_cases hl2 : i < μ.1.length
    · simp [qW, h1, hl2, h2 i (fun e => hi e.symm)]
    · simp [qW, h1, Nat.not_lt.mp hl2]
theorem qD (base : Nat) (ca : Nat → ClassId) (cv : Nat → Value) (μ : qM) : va_D (qA base) (qW base ca cv μ) := by
  have key : ∀ (k : Nat) (q : Nat × va_E), (qW base ca cv μ)[k]? = some q → q.1 = base + k := by
    intro k q h
    simp only [qW, List.getElem?_map, Option.map_eq_some_iff] at h
    obtain ⟨a, h1, rfl⟩ := h
    rw [List.getElem?_eq_some_iff] at h1
    obtain ⟨h1, h2⟩ := h1
    simp at h2
    simp [h2]
  refine ⟨fun i j p q hi hj e => ?_, fun k q h => ?_⟩
  · have := key i p hi
    have := key j q hj
    omega
  · have := key k q h
    simp only [qA]
    omega
theorem qE_I {base : Nat} {ca : Nat → ClassId} {cv : Nat → Value} {μ : qM} {a i : Nat} {x : Int32} {k : Nat} (h : k + 1 ≠ a) : qE base ca cv (qsI μ a i x) k = qE base ca cv μ k := by
  have hI : ∀ j, qI (qsI μ a i x) (k + 1) j = qI μ (k + 1) j := fun j => by simp [qI, qsI, h]
  have hI' : qI (qsI μ a i x) (k + 1) = qI μ (k + 1) := funext hI
  unfold qE
  rw [hI']
  have hs : qslot base cv (qsI μ a i x) k = qslot base cv μ k := by
    funext c j
    simp only [qslot, hI]
    rfl
  rw [hs]
  rfl
theorem qE_L {base : Nat} {ca : Nat → ClassId} {cv : Nat → Value} {μ : qM} {a i : Nat} {x : Int64} {k : Nat} (h : k + 1 ≠ a) : qE base ca cv (qsL μ a i x) k = qE base ca cv μ k := by
  have hI' : qL (qsL μ a i x) (k + 1) = qL μ (k + 1) := funext fun j => by simp [qL, qsL, h]
  unfold qE
  rw [hI']
  rfl
theorem qE_P {base : Nat} {ca : Nat → ClassId} {cv : Nat → Value} {μ : qM} {a i x : Nat} {k : Nat} (h : k + 1 ≠ a) : qE base ca cv (qsP μ a i x) k = qE base ca cv μ k := by
  have hI : ∀ j, qP (qsP μ a i x) (k + 1) j = qP μ (k + 1) j := fun j => by simp [qP, qsP, h]
  have hI' : qP (qsP μ a i x) (k + 1) = qP μ (k + 1) := funext hI
  unfold qE
  rw [hI']
  have hs : qslot base cv (qsP μ a i x) k = qslot base cv μ k := by
    funext c j
    simp only [qslot, hI]
    rfl
  rw [hs]
  rfl
theorem qE_C {base : Nat} {ca : Nat → ClassId} {cv : Nat → Value} {μ : qM} {a0 sp a1 dp n : Nat} {k : Nat} (h : k + 1 ≠ a1) : qE base ca cv (qcpy μ a0 sp a1 dp n) k = qE base ca cv μ k := by
  have hI : ∀ j, qI (qcpy μ a0 sp a1 dp n) (k + 1) j = qI μ (k + 1) j := fun j => by simp [qI, qcpy, h]
  have hI' : qI (qcpy μ a0 sp a1 dp n) (k + 1) = qI μ (k + 1) := funext hI
  unfold qE
  rw [hI']
  have hs : qslot base cv (qcpy μ a0 sp a1 dp n) k = qslot base cv μ k := by
    funext c j
    simp only [qslot, hI]
    rfl
  rw [hs]
  rfl
/-- the words of every method: all that the tables give and that calls may hand on -/
def qG : List Cond := lw_tbl.filter goodWord
theorem qG_in {w : Cond} (h : w ∈ lw_tbl) (hg : goodWord w = true) : w ∈ qG := List.mem_filter.mpr ⟨h, hg⟩
theorem qG_good {w : Cond} (h : w ∈ qG) : (w.onTables && w.keeps) = true ∨ ∃ ty, w = .arrayClass ty := good_of_word (List.mem_filter.mp h).2
theorem qG_sub (ws : List Cond) (h : ∀ w ∈ ws, w ∈ qG) : GoodIn qG ws := fun w hw => ⟨h w hw, qG_good (h w hw)⟩
def qnest : List Cond := [.methodLinkNest "LockLadder" (9) ⟨"LockLadder$Desk", "<init>", "()V"⟩ "LockLadder", .methodLinkNest "LockLadder$Desk" (20) ⟨"LockLadder$Links", "<init>", "()V"⟩ "LockLadder", .methodLinkNest "LockLadder" (46) ⟨"LockLadder$Text", "<init>", "()V"⟩ "LockLadder", .methodLinkNest "LockLadder" (53) ⟨"LockLadder$Row", "<init>", "()V"⟩ "LockLadder", .methodLinkNest "LockLadder" (60) ⟨"LockLadder$Rule", "<init>", "()V"⟩ "LockLadder", .methodLinkNest "LockLadder$Rule" (74) ⟨"LockLadder", "isDigit", "(I)Z"⟩ "LockLadder", .methodLinkNest "LockLadder$Desk" (65) ⟨"LockLadder", "isOwner", "(I)Z"⟩ "LockLadder", .methodLinkNest "LockLadder$Desk" (89) ⟨"LockLadder", "isPlace", "(I)Z"⟩ "LockLadder", .methodLinkNest "LockLadder$Desk" (92) ⟨"LockLadder", "isLockMode", "(I)Z"⟩ "LockLadder", .methodLinkNest "LockLadder$State" (68) ⟨"LockLadder", "levelOf", "(I)I"⟩ "LockLadder", .methodLinkNest "LockLadder$State" (72) ⟨"LockLadder", "onPath", "(II)I"⟩ "LockLadder", .methodLinkNest "LockLadder$Desk" (183) ⟨"LockLadder", "levelOf", "(I)I"⟩ "LockLadder", .methodLinkNest "LockLadder$Desk" (186) ⟨"LockLadder", "onPath", "(II)I"⟩ "LockLadder", .fieldLinkNest "LockLadder$Desk" (189) "LockLadder" "BOTH" "[I" "LockLadder", .methodLinkNest "LockLadder$Desk" (192) ⟨"LockLadder", "stepMode", "(III)I"⟩ "LockLadder", .fieldLinkNest "LockLadder$State" (79) "LockLadder" "TOGETHER" "[I" "LockLadder", .fieldLinkNest "LockLadder$State" (65) "LockLadder" "BOTH" "[I" "LockLadder", .methodLinkNest "LockLadder$Text" (23) ⟨"LockLadder", "isDigit", "(I)Z"⟩ "LockLadder", .methodLinkNest "LockLadder$State" (82) ⟨"LockLadder", "stepMode", "(III)I"⟩ "LockLadder", .castable "java/util/NoSuchElementException" "java/util/NoSuchElementException", .declares ⟨"java/lang/RuntimeException", "<init>", "()V"⟩, .declares ⟨"java/lang/Exception", "<init>", "()V"⟩, .declares ⟨"java/lang/Throwable", "<init>", "()V"⟩]
/-- the classes and names of the constant arrays; of each String the class, the entry and the text -/
def qtabn : List (String × String) := [("LockLadder", "TOGETHER"), ("LockLadder", "STRONG"), ("LockLadder", "BOTH"), ("LockLadderModel", "WITH"), ("LockLadderModel", "STRONG")]
def qstrk : List (String × Nat × String) := [("LockLadder$Text", 37, "IS"), ("LockLadder$Text", 43, "IX"), ("LockLadder$Text", 45, "S"), ("LockLadder$Text", 47, "SIX"), ("LockLadder$Text", 49, "U"), ("LockLadder$Text", 51, "X"), ("LockLadder", 324, "blllwo"), ("LockLadder", 335, "efg"), ("LockLadderModel", 113, "whafiqx"), ("LockLadderModel", 122, "<>="), ("LockLadderModel", 124, "+-"), ("LockLadderModel", 126, "*/"), ("LockLadderModel", 395, "fbevwugl")]
/-- what doesn't change: constants' arrays, Strings, what the tables say of mates of a nest, and of exceptions -/
def qSt (base : Nat) (cv : Nat → Value) (U : State) (H : Heap) : Prop :=
  (∀ j, j < 5 → va_Z ((qnth qtabn j).getD ("", "")).1 ((qnth qtabn j).getD ("", "")).2 "[I" (cv j) (qA base) U H ∧ ∃ t, cv j = .ref t ∧ va_T .int t (qtv j).length (fun i => .int ((qtv j).getD i 0)) (qA base) U H) ∧
  (∀ i, i < 13 → ∃ q v, cv (10 + i) = .ref q ∧ cv (30 + i) = .ref v ∧ vk_R ((qnth qstrk i).getD ("", 0, "")).1 ((qnth qstrk i).getD ("", 0, "")).2.1 ((qnth qstrk i).getD ("", 0, "")).2.2 q U ∧ va_O "java/lang/String" q (qA base) U H ∧ va_OF "java/lang/String" "coder" "B" (.int 0) q (qA base) U H ∧ va_OF "java/lang/String" "value" "[B" (.ref v) q (qA base) U H ∧ va_T .byte v (qtv (30 + i)).length (fun k => .int ((qtv (30 + i)).getD k 0)) (qA base) U H) ∧
  va_Z "java/lang/String" "COMPACT_STRINGS" "Z" (.int 1) (qA base) U H ∧
  ((∃ t, cv 50 = va_rf t) ∧ va_Z "jdk/internal/util/Preconditions" "SIOOBE_FORMATTER" "Ljava/util/function/BiFunction;" (cv 50) (qA base) U H) ∧
  (∀ j, cv j = .null ∨ ∃ a, cv j = .ref a) ∧ (∀ w ∈ qnest, va_Nw w U) ∧ va_AO "LockLadder$State" U ∧
  vx_Zq Bundle.tN "UNASSIGNED_STACK" Bundle.steD (qA base) U H ∧ vx_Zq Bundle.tN "SUPPRESSED_SENTINEL" Bundle.listD (qA base) U H
theorem qwarmD {x : MethodName} {s U : State} (hW : s.WarmedH U.vm) (hZ : va_Nw (.declares x) s) : va_Nw (.declares x) U := va_tabs rfl (rfl : (s.setVm U.vm).vm = U.vm) (by rw [Cond.declares_setVm hW.alike]; exact hZ)
theorem qSt.moved {base : Nat} {cv : Nat → Value} {u U : State} {H : Heap} (hW : u.WarmedH U.vm) (h : qSt base cv u H) : qSt base cv U H := by
  obtain ⟨h1, h2, h3, h4, h9, h5, h8, h6, h7⟩ := h
  have hvm := hW.alike
  refine ⟨fun j hj => ⟨va_Z.moved hvm (h1 j hj).1, ?_⟩, fun i hi => ?_, va_Z.moved hvm h3, ⟨h4.1, va_Z.moved hvm h4.2⟩, h9, fun w hw => ?_, va_AO.moved hvm h8, vx_Zq.moved hvm h6, vx_Zq.moved hvm h7⟩
  · obtain ⟨t, e1, e2⟩ := (h1 j hj).2
    exact ⟨t, e1, va_T.moved hvm e2⟩
  · obtain ⟨q, v, e1, e2, e3, e4, e5, e6, e7⟩ := h2 i hi
    exact ⟨q, v, e1, e2, vk_R.warm hW e3, va_O.moved hvm e4, va_OF.moved hvm e5, va_OF.moved hvm e6, va_T.moved hvm e7⟩
  · have := h5 w hw
    simp only [qnest, List.mem_cons, List.not_mem_nil, or_false] at hw
    rcases hw with rfl | rfl | rfl | rfl | rfl | rfl | rfl | rfl | rfl | rfl | rfl | rfl | rfl | rfl | rfl | rfl | rfl | rfl | rfl | rfl | rfl | rfl | rfl <;> first | exact va_Nw.warmM hW this | exact va_Nw.warmF hW this | exact va_Nw.warmC hW this | exact qwarmD hW this
theorem qSt.same {base : Nat} {cv : Nat → Value} {u U : State} {H : Heap} (hv : U.vm = u.vm) (h : qSt base cv u H) : qSt base cv U H := by
  obtain ⟨h1, h2, h3, h4, h9, h5, h8, h6, h7⟩ := h
  have hvm : u.vm.Alike U.vm := by rw [hv]; exact Vm.Alike.refl _
  refine ⟨fun j hj => ⟨va_Z.moved hvm (h1 j hj).1, ?_⟩, fun i hi => ?_, va_Z.moved hvm h3, ⟨h4.1, va_Z.moved hvm h4.2⟩, h9, fun w hw => ?_, va_AO.moved hvm h8, vx_Zq.moved hvm h6, vx_Zq.moved hvm h7⟩
  · obtain ⟨t, e1, e2⟩ := (h1 j hj).2
    exact ⟨t, e1, va_T.moved hvm e2⟩
  · obtain ⟨q, v, e1, e2, e3, e4, e5, e6, e7⟩ := h2 i hi
    exact ⟨q, v, e1, e2, vk_R.same hv e3, va_O.moved hvm e4, va_OF.moved hvm e5, va_OF.moved hvm e6, va_T.moved hvm e7⟩
  · have := h5 w hw
    simp only [qnest, List.mem_cons, List.not_mem_nil, or_false] at hw
    rcases hw with rfl | rfl | rfl | rfl | rfl | rfl | rfl | rfl | rfl | rfl | rfl | rfl | rfl | rfl | rfl | rfl | rfl | rfl | rfl | rfl | rfl | rfl | rfl <;> exact va_Nw.same rfl hv.symm this
theorem qSt.kept {base : Nat} {cv : Nat → Value} {U : State} {H H1 : Heap} (hq : ∀ a : Nat, a < H.size → ¬ qA base a → H1[a]? = H[a]?) (h : qSt base cv U H) : qSt base cv U H1 := by
  obtain ⟨h1, h2, h3, h4, h9, h5, h8, h6, h7⟩ := h
  refine ⟨fun j hj => ⟨(h1 j hj).1.kept hq, ?_⟩, fun i hi => ?_, h3.kept hq, ⟨h4.1, h4.2.kept hq⟩, h9, h5, h8, vx_Zq.kept h6 hq, vx_Zq.kept h7 hq⟩
  · obtain ⟨t, e1, e2⟩ := (h1 j hj).2
    exact ⟨t, e1, e2.kept hq⟩
  · obtain ⟨q, v, e1, e2, e3, e4, e5, e6, e7⟩ := h2 i hi
    exact ⟨q, v, e1, e2, e3, e4.kept hq, e5.kept hq, e6.kept hq, e7.kept hq⟩
theorem qSt_cv {base : Nat} {cv : Nat → Value} {U : State} {H : Heap} (h : qSt base cv U H) (j : Nat) : qtr base cv (.retAddr j) = .null ∨ ∃ a, qtr base cv (.retAddr j) = .ref a := h.2.2.2.2.1 j
/-- the memory μ lies in the state U -/
def qRep (al : Bool) (base : Nat) (D : va_G) (ca : Nat → ClassId) (cv : Nat → Value) (μ : qM) (U : State) : Prop :=
  va_P D vwCl (qW base ca cv μ) U.heap ∧ va_K D vwCl (qtys ca) U ∧ qSt base cv U U.heap ∧ base ≤ U.heap.size ∧ (al = true → U.heap.size = base + μ.1.length)
/-- the machine's locals hold at least these -/
def qLs (base : Nat) (cv : Nat → Value) (ls : Array Slot) (nL : Nat) (L : List Value) : Prop :=
  ls.size = nL ∧ L.length = nL ∧ lv_wf ls ∧ ∀ i v, qnth L i = some v → v ≠ .null → ls[i]? = some (.val (qtr base cv v))

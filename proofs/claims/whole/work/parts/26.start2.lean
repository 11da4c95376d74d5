/-! THE BEGINNING: what the tables and the Statement give of classes, arrays, constants (printed by gen/emit11.py) -/
theorem qtb (i : Nat) {w : Cond} (h : tables_1[i]? = some w) : w ∈ lw_tbl := List.mem_append_right _ (List.mem_of_getElem? h)
theorem qG_tbl {w : Cond} (h : w ∈ qG) : w ∈ lw_tbl := (List.mem_filter.mp h).1
theorem q2_cls {args : Array Value} {s : State} (hts : ∀ w ∈ lw_tbl, w.before args s = true) : ∃ (dC : Nat → ClassId) (dI : Nat → Nat → Nat), ∀ (k : Nat) (q : vw_C), vwCl[k]? = some q → u_Kn s q.1 q.2.1 q.2.2 (dC k) (dI k) := by
  have hG : ∀ w ∈ qG, w.before args s = true := fun w h => hts w (qG_tbl h)
  obtain ⟨c0, i0, h0⟩ := u_known (C := RX0) (T := TX0) (N := 5) (n := 5) hts (fun w h => qG_tbl (qin_0 w h)) (hts (.instantiable "LockLadder$Desk" 5) (qtb 30 (by decide +kernel)))
  obtain ⟨c1, i1, h1⟩ := u_known (C := RX1) (T := TX1) (N := 3) (n := 3) hts (fun w h => qG_tbl (qin_1 w h)) (hts (.instantiable "LockLadder$History" 3) (qtb 147 (by decide +kernel)))
  obtain ⟨c2, i2, h2⟩ := u_known (C := RX2) (T := TX2) (N := 4) (n := 4) hts (fun w h => qG_tbl (qin_2 w h)) (hts (.instantiable "LockLadder$Links" 4) (qtb 107 (by decide +kernel)))
  obtain ⟨c3, i3, h3⟩ := u_known (C := RX3) (T := TX3) (N := 2) (n := 2) hts (fun w h => qG_tbl (qin_3 w h)) (hts (.instantiable "LockLadder$Row" 2) (qtb 186 (by decide +kernel)))
  obtain ⟨c4, i4, h4⟩ := u_known (C := RX4) (T := TX4) (N := 9) (n := 9) hts (fun w h => qG_tbl (qin_4 w h)) (hts (.instantiable "LockLadder$Rule" 9) (qtb 202 (by decide +kernel)))
  obtain ⟨c5, i5, h5⟩ := u_known (C := RX5) (T := TX5) (N := 13) (n := 13) hts (fun w h => qG_tbl (qin_5 w h)) (hts (.instantiable "LockLadder$State" 13) (qtb 36 (by decide +kernel)))
  obtain ⟨c6, i6, h6⟩ := u_known (C := RX6) (T := TX6) (N := 2) (n := 2) hts (fun w h => qG_tbl (qin_6 w h)) (hts (.instantiable "LockLadder$Text" 2) (qtb 169 (by decide +kernel)))
  obtain ⟨c7, i7, h7⟩ := u_known (C := RX7) (T := TX7) (N := 10) (n := 10) hts (fun w h => qG_tbl (qin_7 w h)) (hts (.instantiable "LockLadder" 10) (qtb 22 (by decide +kernel)))
  obtain ⟨c8, i8, h8⟩ := u_known (C := RX8) (T := TX8) (N := 31) (n := 31) hts (fun w h => qG_tbl (qin_8 w h)) (hts (.instantiable "LockLadderModel" 31) (qtb 997 (by decide +kernel)))
  refine ⟨fun k => match k with | 0 => c0 | 1 => c1 | 2 => c2 | 3 => c3 | 4 => c4 | 5 => c5 | 6 => c6 | 7 => c7 | _ => c8, fun k => match k with | 0 => i0 | 1 => i1 | 2 => i2 | 3 => i3 | 4 => i4 | 5 => i5 | 6 => i6 | 7 => i7 | _ => i8, ?_⟩
  intro k q hq
  match k, hq with
  | 0, hq => cases hq; exact h0
  | 1, hq => cases hq; exact h1
  | 2, hq => cases hq; exact h2
  | 3, hq => cases hq; exact h3
  | 4, hq => cases hq; exact h4
  | 5, hq => cases hq; exact h5
  | 6, hq => cases hq; exact h6
  | 7, hq => cases hq; exact h7
  | 8, hq => cases hq; exact h8
  | k + 9, hq => simp [vwCl] at hq
theorem q2_arr {args : Array Value} {s : State} {ty : FieldType} (hn : ∀ C, ty ≠ .object C) (h : (Cond.arrayClass ty).before args s = true) : ∃ c, ArrOfT s c ty ∧ va_RA s c ty := by
  obtain ⟨c, k, comp, h1, h2, h3⟩ := Cond.arrayClass_spec (args := args) (first := s) (o := none) (s := s) (idx := []) h
  refine ⟨c, fun n z => ⟨(fun k h => by cases h), k, h2, comp, h3⟩, ?_⟩
  cases ty <;> first | exact h1 | exact absurd rfl (hn _)
theorem q2_arrO {args : Array Value} {s : State} {C : String} (h : (Cond.arrayOver (.object C)).before args s = true) : ∃ c, ArrOfT s c (.object C) ∧ va_RA s c (.object C) := by
  obtain ⟨comp, c, k, h1, h2, h3, h4, h5⟩ := Cond.arrayOver_spec (args := args) (first := s) (o := none) (s := s) (idx := []) h
  exact ⟨c, fun n z => ⟨(fun k h => by cases h), k, h3, comp, h4⟩, k, comp, h3, h4, h1, h5⟩
theorem q2_K {args : Array Value} {s : State} (hts : ∀ w ∈ lw_tbl, w.before args s = true) : ∃ (D : va_G) (ca : Nat → ClassId), va_K D vwCl (qtys ca) s := by
  obtain ⟨dC, dI, hC⟩ := q2_cls hts
  obtain ⟨a0, b0⟩ := q2_arr (ty := .int) (by intro C h; cases h) (hts (.arrayClass .int) (qtb 105 (by decide +kernel)))
  obtain ⟨a1, b1⟩ := q2_arr (ty := .long) (by intro C h; cases h) (hts (.arrayClass .long) (qtb 200 (by decide +kernel)))
  obtain ⟨a2, b2⟩ := q2_arr (ty := .char) (by intro C h; cases h) (hts (.arrayClass .char) (qtb 184 (by decide +kernel)))
  obtain ⟨a3, b3⟩ := q2_arr (ty := .boolean) (by intro C h; cases h) (hts (.arrayClass .boolean) (qtb 183 (by decide +kernel)))
  obtain ⟨a4, b4⟩ := q2_arrO (C := "LockLadder$State") (hts (.arrayOver (.object "LockLadder$State")) (qtb 153 (by decide +kernel)))
  refine ⟨(dC, dI), fun k => match k with | 20 => a0 | 21 => a1 | 22 => a2 | 23 => a3 | _ => a4, hC, ?_⟩
  intro k q hq
  match k, hq with
  | 0, hq => cases hq; exact b0
  | 1, hq => cases hq; exact b1
  | 2, hq => cases hq; exact b2
  | 3, hq => cases hq; exact b3
  | 4, hq => cases hq; exact b4
  | k + 5, hq => simp [qtys] at hq
def qfl : List Cond := flatC (Jvm.Cond.and given_1 narrow_1)
theorem qfl_at (i : Nat) {w : Cond} (h : qfl[i]? = some w) {args : Array Value} {s : State} (hg : (Jvm.Cond.and given_1 narrow_1).before args s = true) : w.before args s = true := flat_of_before _ hg w (List.mem_of_getElem? h)
def qeltab (C n : String) (vs : List Int32) : List Cond := (List.range vs.length).map fun j => Cond.eq (.elem (.static C n "[I") (.int (Int32.ofNat j))) (.int (vs.getD j 0))
theorem qsub_at {l ws : List Cond} (a : Nat) (h : (l.drop a).take ws.length = ws) : ∀ w ∈ ws, w ∈ l := fun w hw => List.mem_of_mem_drop (List.mem_of_mem_take (by rw [h]; exact hw))
theorem q2_tab {args : Array Value} {s : State} {A : Nat → Prop} (hA : ∀ a : Nat, a < s.heap.size → ¬ A a) (hg : (Jvm.Cond.and given_1 narrow_1).before args s = true) {C n : String} {vs : List Int32} (hN : vs.length < 2 ^ 31) (p : Nat) (h1 : qfl[p]? = some (.arrayOf (.static C n "[I") .int)) (h2 : qfl[p + 1]? = some (.eq (.length (.static C n "[I")) (.int (Int32.ofNat vs.length)))) (h3 : (qfl.drop (p + 2)).take (qeltab C n vs).length = qeltab C n vs)
    (hl : (Cond.laysStatic C n "[I").before args s = true) (hi : (Cond.initialized C).before args s = true) : ∃ t, va_Z C n "[I" (.ref t) A s s.heap ∧ va_T .int t vs.length (fun i => .int (vs.getD i 0)) A s s.heap := by
  obtain ⟨t, ht, hT⟩ := va_Tof (tm := .static C n "[I") (ty := .int) (N := vs.length) (f := fun i => .int (vs.getD i 0)) (A := A) hN (qfl_at p h1 hg) (va_eqt (qfl_at (p + 1) h2 hg)) (fun j hj => va_eqt (flat_of_before _ hg _ (qsub_at (p + 2) h3 _ (List.mem_map.mpr ⟨j, List.mem_range.mpr hj, rfl⟩)))) hA
  exact ⟨t, va_Zof hl hi ht hA, hT⟩
theorem q2_tabs {args : Array Value} {s : State} {A : Nat → Prop} (hA : ∀ a : Nat, a < s.heap.size → ¬ A a) (hg : (Jvm.Cond.and given_1 narrow_1).before args s = true) (hts : ∀ w ∈ lw_tbl, w.before args s = true) : ∃ T : Nat → Nat, ∀ j, j < 5 → va_Z ((qnth qtabn j).getD ("", "")).1 ((qnth qtabn j).getD ("", "")).2 "[I" (.ref (T j)) A s s.heap ∧ va_T .int (T j) (qtv j).length (fun i => .int ((qtv j).getD i 0)) A s s.heap := by
  obtain ⟨t0, z0, y0⟩ := q2_tab (C := "LockLadder") (n := "TOGETHER") (vs := qtv 0) hA hg (by decide +kernel) 67 (by decide +kernel) (by decide +kernel) (by decide +kernel) (hts (.laysStatic "LockLadder" "TOGETHER" "[I") (qtb 357 (by decide +kernel))) (hts (.initialized "LockLadder") (qtb 1 (by decide +kernel)))
  obtain ⟨t1, z1, y1⟩ := q2_tab (C := "LockLadder") (n := "STRONG") (vs := qtv 1) hA hg (by decide +kernel) 57 (by decide +kernel) (by decide +kernel) (by decide +kernel) (hts (.laysStatic "LockLadder" "STRONG" "[I") (qtb 347 (by decide +kernel))) (hts (.initialized "LockLadder") (qtb 1 (by decide +kernel)))
  obtain ⟨t2, z2, y2⟩ := q2_tab (C := "LockLadder") (n := "BOTH") (vs := qtv 2) hA hg (by decide +kernel) 5 (by decide +kernel) (by decide +kernel) (by decide +kernel) (hts (.laysStatic "LockLadder" "BOTH" "[I") (qtb 345 (by decide +kernel))) (hts (.initialized "LockLadder") (qtb 1 (by decide +kernel)))
  obtain ⟨t3, z3, y3⟩ := q2_tab (C := "LockLadderModel") (n := "WITH") (vs := qtv 3) hA hg (by decide +kernel) 94 (by decide +kernel) (by decide +kernel) (by decide +kernel) (hts (.laysStatic "LockLadderModel" "WITH" "[I") (qtb 1006 (by decide +kernel))) (hts (.initialized "LockLadderModel") (qtb 9 (by decide +kernel)))
  obtain ⟨t4, z4, y4⟩ := q2_tab (C := "LockLadderModel") (n := "STRONG") (vs := qtv 4) hA hg (by decide +kernel) 84 (by decide +kernel) (by decide +kernel) (by decide +kernel) (hts (.laysStatic "LockLadderModel" "STRONG" "[I") (qtb 990 (by decide +kernel))) (hts (.initialized "LockLadderModel") (qtb 9 (by decide +kernel)))
  refine ⟨fun j => match j with | 0 => t0 | 1 => t1 | 2 => t2 | 3 => t3 | _ => t4, ?_⟩
  intro j hj
  match j, hj with
  | 0, _ => exact ⟨z0, y0⟩
  | 1, _ => exact ⟨z1, y1⟩
  | 2, _ => exact ⟨z2, y2⟩
  | 3, _ => exact ⟨z3, y3⟩
  | 4, _ => exact ⟨z4, y4⟩
  | j + 5, hj => exact absurd hj (by omega)
theorem q2_str {args : Array Value} {s : State} {A : Nat → Prop} (hA : ∀ a : Nat, a < s.heap.size → ¬ A a) (hg : (Jvm.Cond.and given_1 narrow_1).before args s = true) {own : String} {k : Nat} {tx : String} {vs : List Int32} (hN : vs.length < 2 ^ 31) (p : Nat) (h1 : qfl[p]? = some (.exactly (.string own k) "java/lang/String")) (h2 : qfl[p + 1]? = some (.eq (.field (.string own k) "java/lang/String" "coder" "B") (.int 0))) (h3 : qfl[p + 2]? = some (.arrayOf (.field (.string own k) "java/lang/String" "value" "[B") .byte)) (h4 : qfl[p + 3]? = some (.eq (.length (.field (.string own k) "java/lang/String" "value" "[B")) (.int (Int32.ofNat vs.length))))
    (h5 : (qfl.drop (p + 4)).take ((List.range vs.length).map fun j => Cond.eq (.elem (.field (.string own k) "java/lang/String" "value" "[B") (.int (Int32.ofNat j))) (.int (vs.getD j 0))).length = ((List.range vs.length).map fun j => Cond.eq (.elem (.field (.string own k) "java/lang/String" "value" "[B") (.int (Int32.ofNat j))) (.int (vs.getD j 0)))) (hr : (Cond.stringRef own k tx).before args s = true) :
    ∃ q v, vk_R own k tx q s ∧ va_O "java/lang/String" q A s s.heap ∧ va_OF "java/lang/String" "coder" "B" (.int 0) q A s s.heap ∧ va_OF "java/lang/String" "value" "[B" (.ref v) q A s s.heap ∧ va_T .byte v vs.length (fun k => .int (vs.getD k 0)) A s s.heap := by
  obtain ⟨a, c, cA, kA, q1, q2, q3, q4, q5, q6, -⟩ := Cond.exactly_spec (args := args) (first := s) (o := none) (s := s) (idx := []) (t := .string own k) (cls := "java/lang/String") (qfl_at p h1 hg)
  obtain ⟨t, ht, hT⟩ := va_Tof (f := fun j => .int (vs.getD j 0)) (A := A) hN (qfl_at (p + 2) h3 hg) (va_eqt (qfl_at (p + 3) h4 hg)) (fun j hj => va_eqt (flat_of_before _ hg _ (qsub_at (p + 4) h5 _ (List.mem_map.mpr ⟨j, List.mem_range.mpr hj, rfl⟩)))) hA
  exact ⟨a, t, vk_R.of hr q1, ⟨cA, q3, q5, by rw [q6]; exact q2, hA a (Array.getElem?_eq_some_iff.mp q3).1⟩, vk_OFof q1 (va_eqt (qfl_at (p + 1) h2 hg)) hA, vk_OFof q1 ht hA, hT⟩
theorem q2_strs {args : Array Value} {s : State} {A : Nat → Prop} (hA : ∀ a : Nat, a < s.heap.size → ¬ A a) (hg : (Jvm.Cond.and given_1 narrow_1).before args s = true) (hts : ∀ w ∈ lw_tbl, w.before args s = true) : ∃ adK adV : Nat → Nat, ∀ i, i < 13 → vk_R ((qnth qstrk i).getD ("", 0, "")).1 ((qnth qstrk i).getD ("", 0, "")).2.1 ((qnth qstrk i).getD ("", 0, "")).2.2 (adK i) s ∧ va_O "java/lang/String" (adK i) A s s.heap ∧ va_OF "java/lang/String" "coder" "B" (.int 0) (adK i) A s s.heap ∧ va_OF "java/lang/String" "value" "[B" (.ref (adV i)) (adK i) A s s.heap ∧ va_T .byte (adV i) (qtv (30 + i)).length (fun k => .int ((qtv (30 + i)).getD k 0)) A s s.heap := by
  obtain ⟨q0, v0, z0⟩ := q2_str (own := "LockLadder$Text") (k := 37) (tx := "IS") (vs := qtv (30 + 0)) hA hg (by decide +kernel) 112 (by decide +kernel) (by decide +kernel) (by decide +kernel) (by decide +kernel) (by decide +kernel) (hts (.stringRef "LockLadder$Text" 37 "IS") (qtb 366 (by decide +kernel)))
  obtain ⟨q1, v1, z1⟩ := q2_str (own := "LockLadder$Text") (k := 43) (tx := "IX") (vs := qtv (30 + 1)) hA hg (by decide +kernel) 118 (by decide +kernel) (by decide +kernel) (by decide +kernel) (by decide +kernel) (by decide +kernel) (hts (.stringRef "LockLadder$Text" 43 "IX") (qtb 419 (by decide +kernel)))
  obtain ⟨q2, v2, z2⟩ := q2_str (own := "LockLadder$Text") (k := 45) (tx := "S") (vs := qtv (30 + 2)) hA hg (by decide +kernel) 125 (by decide +kernel) (by decide +kernel) (by decide +kernel) (by decide +kernel) (by decide +kernel) (hts (.stringRef "LockLadder$Text" 45 "S") (qtb 420 (by decide +kernel)))
  obtain ⟨q3, v3, z3⟩ := q2_str (own := "LockLadder$Text") (k := 47) (tx := "SIX") (vs := qtv (30 + 3)) hA hg (by decide +kernel) 132 (by decide +kernel) (by decide +kernel) (by decide +kernel) (by decide +kernel) (by decide +kernel) (hts (.stringRef "LockLadder$Text" 47 "SIX") (qtb 421 (by decide +kernel)))
  obtain ⟨q4, v4, z4⟩ := q2_str (own := "LockLadder$Text") (k := 49) (tx := "U") (vs := qtv (30 + 4)) hA hg (by decide +kernel) 142 (by decide +kernel) (by decide +kernel) (by decide +kernel) (by decide +kernel) (by decide +kernel) (hts (.stringRef "LockLadder$Text" 49 "U") (qtb 422 (by decide +kernel)))
  obtain ⟨q5, v5, z5⟩ := q2_str (own := "LockLadder$Text") (k := 51) (tx := "X") (vs := qtv (30 + 5)) hA hg (by decide +kernel) 151 (by decide +kernel) (by decide +kernel) (by decide +kernel) (by decide +kernel) (by decide +kernel) (hts (.stringRef "LockLadder$Text" 51 "X") (qtb 423 (by decide +kernel)))
  obtain ⟨q6, v6, z6⟩ := q2_str (own := "LockLadder") (k := 324) (tx := "blllwo") (vs := qtv (30 + 6)) hA hg (by decide +kernel) 161 (by decide +kernel) (by decide +kernel) (by decide +kernel) (by decide +kernel) (by decide +kernel) (hts (.stringRef "LockLadder" 324 "blllwo") (qtb 861 (by decide +kernel)))
  obtain ⟨q7, v7, z7⟩ := q2_str (own := "LockLadder") (k := 335) (tx := "efg") (vs := qtv (30 + 7)) hA hg (by decide +kernel) 177 (by decide +kernel) (by decide +kernel) (by decide +kernel) (by decide +kernel) (by decide +kernel) (hts (.stringRef "LockLadder" 335 "efg") (qtb 868 (by decide +kernel)))
  obtain ⟨q8, v8, z8⟩ := q2_str (own := "LockLadderModel") (k := 113) (tx := "whafiqx") (vs := qtv (30 + 8)) hA hg (by decide +kernel) 191 (by decide +kernel) (by decide +kernel) (by decide +kernel) (by decide +kernel) (by decide +kernel) (hts (.stringRef "LockLadderModel" 113 "whafiqx") (qtb 1058 (by decide +kernel)))
  obtain ⟨q9, v9, z9⟩ := q2_str (own := "LockLadderModel") (k := 122) (tx := "<>=") (vs := qtv (30 + 9)) hA hg (by decide +kernel) 210 (by decide +kernel) (by decide +kernel) (by decide +kernel) (by decide +kernel) (by decide +kernel) (hts (.stringRef "LockLadderModel" 122 "<>=") (qtb 1065 (by decide +kernel)))
  obtain ⟨q10, v10, z10⟩ := q2_str (own := "LockLadderModel") (k := 124) (tx := "+-") (vs := qtv (30 + 10)) hA hg (by decide +kernel) 226 (by decide +kernel) (by decide +kernel) (by decide +kernel) (by decide +kernel) (by decide +kernel) (hts (.stringRef "LockLadderModel" 124 "+-") (qtb 1066 (by decide +kernel)))
  obtain ⟨q11, v11, z11⟩ := q2_str (own := "LockLadderModel") (k := 126) (tx := "*/") (vs := qtv (30 + 11)) hA hg (by decide +kernel) 242 (by decide +kernel) (by decide +kernel) (by decide +kernel) (by decide +kernel) (by decide +kernel) (hts (.stringRef "LockLadderModel" 126 "*/") (qtb 1067 (by decide +kernel)))
  obtain ⟨q12, v12, z12⟩ := q2_str (own := "LockLadderModel") (k := 395) (tx := "fbevwugl") (vs := qtv (30 + 12)) hA hg (by decide +kernel) 259 (by decide +kernel) (by decide +kernel) (by decide +kernel) (by decide +kernel) (by decide +kernel) (hts (.stringRef "LockLadderModel" 395 "fbevwugl") (qtb 1421 (by decide +kernel)))
  refine ⟨fun j => match j with | 0 => q0 | 1 => q1 | 2 => q2 | 3 => q3 | 4 => q4 | 5 => q5 | 6 => q6 | 7 => q7 | 8 => q8 | 9 => q9 | 10 => q10 | 11 => q11 | _ => q12, fun j => match j with | 0 => v0 | 1 => v1 | 2 => v2 | 3 => v3 | 4 => v4 | 5 => v5 | 6 => v6 | 7 => v7 | 8 => v8 | 9 => v9 | 10 => v10 | 11 => v11 | _ => v12, ?_⟩
  intro j hj
  match j, hj with
  | 0, _ => exact z0
  | 1, _ => exact z1
  | 2, _ => exact z2
  | 3, _ => exact z3
  | 4, _ => exact z4
  | 5, _ => exact z5
  | 6, _ => exact z6
  | 7, _ => exact z7
  | 8, _ => exact z8
  | 9, _ => exact z9
  | 10, _ => exact z10
  | 11, _ => exact z11
  | 12, _ => exact z12
  | j + 13, hj => exact absurd hj (by omega)
theorem q2_nest : ∀ w ∈ qnest, w ∈ lw_tbl ∧ w.onTables = true := fun w h => ⟨qmem_nth (l := lw_tbl) (ws := qnest) (ps := [88, 165, 227, 244, 260, 354, 499, 531, 534, 545, 548, 560, 561, 563, 564, 571, 592, 732, 805, 957, 958, 960, 962]) (by decide +kernel) w h, List.all_eq_true.mp (show (qnest.all fun w => w.onTables) = true by decide +kernel) w h⟩
/-- the constants -/
def qcv2 (T adK adV : Nat → Nat) (F : Value) (b : Nat) : Nat → Value := fun j => if j < 5 then .ref (T j) else if 10 ≤ j ∧ j < 23 then .ref (adK (j - 10)) else if 30 ≤ j ∧ j < 43 then .ref (adV (j - 30)) else if j = 50 then F else if j = 60 then .ref b else .null
theorem q2_St {s : State} {b : Nat} (hts : ∀ w ∈ lw_tbl, w.before #[Value.ref b] s = true) (hg : (Jvm.Cond.and given_1 narrow_1).before #[Value.ref b] s = true) : ∃ cv : Nat → Value, cv 60 = .ref b ∧ (∀ j, (cv j).category = 1) ∧ qSt s.heap.size cv s s.heap := by
  have hA : ∀ a : Nat, a < s.heap.size → ¬ qA s.heap.size a := fun a h => Nat.not_le.mpr h
  obtain ⟨T, hT⟩ := q2_tabs hA hg hts
  obtain ⟨adK, adV, hS⟩ := q2_strs hA hg hts
  have hF : ∃ F : Value, (∃ t, F = va_rf t) ∧ va_Z "jdk/internal/util/Preconditions" "SIOOBE_FORMATTER" "Ljava/util/function/BiFunction;" F (qA s.heap.size) s s.heap := by
    rcases va_Zqof (A := qA s.heap.size) (hts (.laysStatic "jdk/internal/util/Preconditions" "SIOOBE_FORMATTER" "Ljava/util/function/BiFunction;") (qtb 396 (by decide +kernel))) (hts (.initialized "jdk/internal/util/Preconditions") (qtb 14 (by decide +kernel))) (qfl_at 77 (by decide +kernel) hg) hA with h | ⟨t, h⟩
    · exact ⟨.null, ⟨none, rfl⟩, h⟩
    · exact ⟨.ref t, ⟨some t, rfl⟩, h⟩
  obtain ⟨F, ⟨tF, eF⟩, hF⟩ := hF
  have hFr : F = .null ∨ ∃ a, F = .ref a := by
    rw [eF]
    cases tF with
    | none => exact Or.inl rfl
    | some t => exact Or.inr ⟨t, rfl⟩
  have hn : ∀ j, qcv2 T adK adV F b j = .null ∨ ∃ a, qcv2 T adK adV F b j = .ref a := by
    intro j
    unfold qcv2
    split
    · exact Or.inr ⟨_, rfl⟩
    split
    · exact Or.inr ⟨_, rfl⟩
    split
    · exact Or.inr ⟨_, rfl⟩
    split
    · exact hFr
    split
    · exact Or.inr ⟨_, rfl⟩
    · exact Or.inl rfl
  refine ⟨qcv2 T adK adV F b, rfl, fun j => ?_, fun j hj => ?_, fun i hi => ?_, ?_, ⟨⟨tF, eF⟩, hF⟩, hn, fun w hw => va_Nw.of (q2_nest w hw).2 (hts w (q2_nest w hw).1), ?_, ?_, ?_⟩
  · rcases hn j with h | ⟨a, h⟩ <;> rw [h] <;> rfl
  · have e : qcv2 T adK adV F b j = .ref (T j) := by simp [qcv2, hj]
    rw [e]
    exact ⟨(hT j hj).1, _, rfl, (hT j hj).2⟩
  · have e : qcv2 T adK adV F b (10 + i) = .ref (adK i) := by
      unfold qcv2
      rw [if_neg (by omega), if_pos (by omega), show 10 + i - 10 = i by omega]
    have e2 : qcv2 T adK adV F b (30 + i) = .ref (adV i) := by
      unfold qcv2
      rw [if_neg (by omega), if_neg (by omega), if_pos (by omega), show 30 + i - 30 = i by omega]
    exact ⟨adK i, adV i, e, e2, hS i hi⟩
  · exact va_Zof (hts (.laysStatic "java/lang/String" "COMPACT_STRINGS" "Z") (qtb 380 (by decide +kernel))) (hts (.initialized "java/lang/String") (qtb 12 (by decide +kernel))) (va_eqt (qfl_at 76 (by decide +kernel) hg)) hA
  · exact hts (.arrayOver (.object "LockLadder$State")) (qtb 153 (by decide +kernel))
  · exact vx_Zqof (hts (.laysStatic Bundle.tN "UNASSIGNED_STACK" Bundle.steD) (qtb 925 (by decide +kernel))) (hts (.initialized Bundle.tN) (qtb 16 (by decide +kernel))) (qfl_at 81 (by decide +kernel) hg) hA
  · exact vx_Zqof (hts (.laysStatic Bundle.tN "SUPPRESSED_SENTINEL" Bundle.listD) (qtb 927 (by decide +kernel))) (hts (.initialized Bundle.tN) (qtb 16 (by decide +kernel))) (qfl_at 82 (by decide +kernel) hg) hA
theorem qbpc_13 : qbpc cdP 13 = qbpc qcL_law 13 := by decide +kernel
set_option maxRecDepth 100000 in
/-- the law comes to its end with true, if the pure loop does -/
theorem qlaw_start {p : Program} {e : Env} {s : State} {m : MethodId} {below : List Frame} {meth : Method} {c : Code} (l : Launch) (hst : l.stackTraces = false) {b : Nat} {xs : List Int32} (C0 : lw_At p s m meth c b xs.length (fun j => xs.getD j 0)) {n : Nat} {r : qR} (hr : fL_law_13 xs n 1 210 229 0 qM1 = some r) (hm : r.2.2.2.2.2.2.1 ≤ 601024 ∧ r.2.2.2.2.2.2.2 ≤ 7293033) :
    W p l e room_1 s m #[Value.ref b] below meth c s.heap [] 0 0 (lw_Z below #[Value.ref b] s) (entryFrame m ([Value.ref b] : List Value).toArray 8) := by
  obtain ⟨hx, hb, hrt, hml, hown, hts, hX, hbl, hlk, hgv⟩ := C0
  obtain ⟨D, ca, hK⟩ := q2_K hts
  obtain ⟨cv, h60, hcv, hSt⟩ := q2_St hts hgv
  have C : qCtx p room_1 s m #[Value.ref b] meth c s.heap.size D ca cv 9 false code 8 r.2.2.2.2.2.2.1 r.2.2.2.2.2.2.2 2048 :=
    ⟨hx, hb, hml, hown, fun w h => hts w (qG_tbl h), hK, hSt, Nat.le_refl _, hcv, (fun z => by cases z), by omega, Nat.le_refl _, Nat.le_of_ble_eq_true rfl, hm.1, hm.2⟩
  obtain ⟨r0, hr0⟩ := Option.isSome_iff_exists.mp qst0_some
  have hM1 : qM1 = r0.2.2 := by unfold qM1; rw [hr0]
  rw [hM1] at hr
  clear hM1
  have hgo : qGo true p l e room_1 s m #[Value.ref b] below meth c (lw_Z below #[Value.ref b] s) s.heap.size D ca cv cdP 8 r.2.2.2.2.2.2.1 r.2.2.2.2.2.2.2 r.2.2.2.2.2.2.1 r.2.2.2.2.2.2.2 0 [.retAddr 60, .null, .null, .null, .null, .null, .null, .null] [] qM0 := by
    refine qblk_go (d0 := 6) (ini := false) (ret := some .boolean) (r := r0) (st := fun n => qin [13] n) (K := qKP) C cdPok (Nat.le_of_ble_eq_true rfl) (qcall2_good hcv 6) (fun pc L S μ di i k bb ln hrow hdec hdi hrel _ => ?_) (fun pc L S μ z => ?_) 400 hr0
    · exfalso
      have h1 := qretq_of hdi hrel
      have h2 := List.all_eq_true.mp (show (cdP.all fun row => !qretq row.2.2) = true by decide +kernel) (bb, ln, i) (by rw [qnth_eq] at hrow; exact List.mem_of_getElem? hrow)
      rw [h1] at h2
      cases h2
    · unfold qKP at z
      split at z
      · rename_i epc
        subst epc
        have key : lGo false p l e s m below meth c b D ca cv r r.2.2.2.2.2.2.1 r.2.2.2.2.2.2.2 13 L S μ := by
          unfold jL_law at z
          split at z
          · rename_i x1 x2 x3 x4 _ _ _
            dsimp only at z
            split at z
            · rename_i hx
              obtain ⟨rfl, rfl, rfl, rfl⟩ := hx
              have hz0 := Option.some.inj z
              rw [← hz0] at hr
              have hr2 : fL_law_13 xs n 1 210 229 0 μ = some r := hr
              exact qGo_le (lbL_law (n := n) C (Nat.le_of_ble_eq_true rfl) hst hX hbl h60 hrt hlk hm _ _ _ _ _ hr2) rfl ⟨Or.inr rfl, Or.inr rfl, Or.inr rfl, Or.inr rfl, Or.inr rfl, Or.inl rfl, Or.inl rfl, Or.inl rfl, trivial⟩
            · cases z
          · cases z
        have k2 := qGo_al key
        refine ⟨k2.1, fun H locs cells slots ls hP hS hz hl q1 q2 => ?_⟩
        rw [qbpc_13]
        exact k2.2 H locs cells slots ls hP hS hz hl q1 q2
      · cases z
  have hz1 : ([Value.retAddr 60].map (qtr s.heap.size cv)) = [Value.ref b] := by
    show [cv 60] = _
    rw [h60]
  have hsl2 : (lg_sl ([Value.retAddr 60].map (qtr s.heap.size cv))).length ≤ 8 := by
    rw [hz1]
    exact Nat.le_of_ble_eq_true rfl
  have hl := lv_entry ([Value.retAddr 60].map (qtr s.heap.size cv)) (n := 8) hsl2
  obtain ⟨i1, i2⟩ := qent_at (base := s.heap.size) hcv [Value.retAddr 60] 8 0 rfl hsl2
  rw [lg_entry_eq]
  rw [hz1] at hl i2
  have hls : qLs s.heap.size cv ((lg_sl ([Value.ref b] : List Value) ++ List.replicate (8 - (lg_sl ([Value.ref b] : List Value)).length) Slot.unset).toArray) 8 (qent [Value.retAddr 60] 8) := by
    refine ⟨hl.1, i1, hl.2.1, fun i v h1 h2 => ?_⟩
    have := i2 i v h1 h2
    rw [Nat.zero_add] at this
    exact hl.2.2 _ this
  have fin := hgo.2 s.heap [] 0 0 _ (fun k q h => by cases k <;> cases h) va_S.rf (fun _ => rfl) hls (by show 0 + (_ - 0) = _; omega) (by show 0 + (_ - 0) = _; omega)
  exact fin

/-! PURE SIDE: what a rule costs -/
/-- a rule's items: below 1000 a number; 1000 + k the k-th of w h a f i q x; 2000 + k the k-th of < > = + - * /; 3000 a minus ahead -/
def c7 (x : Nat) : Int32 := if x < 1000 then n2 x else if x = 3000 then -n2 256 else if x < 2000 then -n2 ([119, 104, 97, 102, 105, 113, 120].getD (x - 1000) 0) else -n2 ([60, 62, 61, 43, 45, 42, 47].getD (x - 2000) 0)
def wfc : List Nat → Nat → Bool
  | [], h => decide (h = 1)
  | x :: cs, h => if x = 3000 then decide (1 ≤ h) && wfc cs h else if 2000 ≤ x then decide (x < 2007) && (decide (2 ≤ h) && wfc cs (h - 1)) else decide (x < 1007) && wfc cs (h + 1)
def wkd (k : Nat) (a b : Int32) : Int32 := if k = 0 then (if a < b then n2 1 else n2 0) else if k = 1 then (if b < a then n2 1 else n2 0) else if k = 2 then (if a = b then n2 1 else n2 0) else if k = 3 then a + b else if k = 4 then a - b else if k = 5 then a * b else (if b = n2 0 then n2 0 else a / b)
def upV (v : Nat → Int32) (i : Nat) (x : Int32) : Nat → Int32 := fun j => if j = i then x else v j
def evs (ask : Nat → Int32) (z : (Nat → Int32) × Nat) (x : Nat) : (Nat → Int32) × Nat :=
  if x = 3000 then (upV z.1 (z.2 - 1) (-(z.1 (z.2 - 1))), z.2) else if 2000 ≤ x then (upV z.1 (z.2 - 2) (wkd (x - 2000) (z.1 (z.2 - 2)) (z.1 (z.2 - 1))), z.2 - 1) else if 1000 ≤ x then (upV z.1 z.2 (ask (x - 1000)), z.2 + 1) else (upV z.1 z.2 (n2 x), z.2 + 1)
def evl (ask : Nat → Int32) (cs : List Nat) : Int32 := (cs.foldl (evs ask) (fun _ => n2 0, 0)).1 0
/-- what is asked of an owner -/
def askS (s : St) (o w k : Nat) : Int32 := if k = 0 then n2 (s 87 o) else if k = 1 then n2 (hol s o 0) else if k = 2 then n2 (s 86 o) else if k = 3 then n2 (s 88 o) else if k = 4 then n2 o else if k = 5 then n2 w else n2 (hol s o 6)
def costS (s : St) (cs : List Nat) (o : Nat) : Int32 := if cs = [] then n2 (s 87 o + hol s o 0) else evl (askS s o (wtr s o)) cs
/-- a rule of the class -/
def RuW (I : Nat → Nat → Int32) (a : Nat) (cs : List Nat) : Prop := cs.length ≤ 40 ∧ I a 3 = n2 cs.length ∧ (∀ i, i < cs.length → I (a + 1) i = c7 (cs.getD i 0)) ∧ (cs ≠ [] → wfc cs 0 = true)
theorem RuW.fr {I I' : Nat → Nat → Int32} {a : Nat} {cs : List Nat} (h : RuW I a cs) (hf : ∀ i, I' (a + 1) i = I (a + 1) i) (hf3 : I' a 3 = I a 3) : RuW I' a cs :=
  ⟨h.1, by rw [hf3]; exact h.2.1, fun i hi => by rw [hf]; exact h.2.2.1 i hi, h.2.2.2⟩
theorem c7_num {x : Nat} (h : x < 1000) : c7 x = n2 x := by unfold c7; rw [if_pos h]
theorem c7_ask : ∀ k, k < 7 → c7 (1000 + k) = -n2 ([119, 104, 97, 102, 105, 113, 120].getD k 0) := by decide +kernel
theorem c7_act : ∀ k, k < 7 → c7 (2000 + k) = -n2 ([60, 62, 61, 43, 45, 42, 47].getD k 0) := by decide +kernel
theorem c7_less : c7 3000 = -n2 256 := by decide +kernel
theorem c7_ltm {x : Nat} (h : x < 1000) : n2 x = -n2 256 ↔ False := by
  constructor
  · intro e
    have := congrArg Int32.toInt e
    rw [n2_ti (by omega), show (-n2 256).toInt = -256 from rfl] at this
    omega
  · exact False.elim
section S7R
variable {I : Nat → Nat → Int32} {L : Nat → Nat → Int64} {c t a b w N : Nat} {s : St} {μ : qM}
theorem x4_valueOf (hb : b ∈ stl) (hR : R7 I b s) (hB : Bd s) {o k : Nat} (ho : o < 8) (hk : k < 7) : fX4_valueOf (n2 ([119, 104, 97, 102, 105, 113, 120].getD k 0)) b (n2 o) (n2 w) (mk I L c t) = some (askS s o w k, 0, mk I L c t) := by
  have e : k = 0 ∨ k = 1 ∨ k = 2 ∨ k = 3 ∨ k = 4 ∨ k = 5 ∨ k = 6 := by omega
  rcases e with rfl | rfl | rfl | rfl | rfl | rfl | rfl <;> simp (disch := first | assumption | omega) [fX4_valueOf, l_0, l_1, l_2, l_3, l_4, l_5, l_6, l_7, l_8, l_9, l_10, l_11, l_12, l_15, l_16, l_21, l_24, l_31, l_32, l_40, l_64, l_76, l_80, l_84, l_85, l_99, l_255, l_256, l_680, l_688, l_696, l_704, l_712, l_720, l_728, l_736, l_744, l_752, l_753, l_754, l_755, l_1000, l_2000, l_3000, l_7550, l_1000000, l_41, l_42, l_43, l_45, l_47, l_48, l_56, l_57, l_60, l_61, l_62, l_63, l_73, l_83, l_88, l_97, l_98, l_100, l_101, l_102, l_103, l_104, l_105, l_108, l_111, l_113, l_117, l_118, l_119, l_120, l_65536, n2_31, n2_add, n2_mul, n2_sub, n2_eq, n2_le, n2_lt, n2_div, n2_qz0, n2_qz1, n2_qzb, bn_0, bn_1, bn_t, bn_f, n2_eqm, n2_meq, n2_ltm, n2_mlt, n2_lem, n2_mle, if_true, if_false, qbnd_s, ite_true, ite_false, if_pos, reduceIte, st_q, st_P0, st_P1, st_P2, st_P3, st_P4, st_P5, st_P6, st_P7, st_P8, st_P9, st_L0, st_S0, st_L1, st_S1, st_L2, st_S2, st_L3, st_S3, st_L4, st_S4, st_L5, st_S5, st_L6, st_S6, st_L7, st_S7, st_L8, st_S8, st_L9, st_S9, st_I10, st_U10, st_I11, st_U11, st_I12, st_U12, hR.md, hR.st, hR.ag, hR.wk, hR.fl, hR.at, hR.wa, hR.tu, hR.go, hR.mo, hR.tn, hR.bg, hR.gf, x5_holdings hb hR hB ho (show 0 ≤ 6 by omega), x5_holdings hb hR hB ho (show 6 ≤ 6 by omega), askS]
theorem x4_rankOf_act {k : Nat} (hk : k < 7) : fX4_rankOf (n2 ([60, 62, 61, 43, 45, 42, 47].getD k 0)) μ = some (n2 ([1, 1, 1, 2, 2, 3, 3].getD k 0), 0, μ) := by
  have e : k = 0 ∨ k = 1 ∨ k = 2 ∨ k = 3 ∨ k = 4 ∨ k = 5 ∨ k = 6 := by omega
  rcases e with rfl | rfl | rfl | rfl | rfl | rfl | rfl <;> simp (disch := first | assumption | omega) [fX4_rankOf, l_0, l_1, l_2, l_3, l_4, l_5, l_6, l_7, l_8, l_9, l_10, l_11, l_12, l_15, l_16, l_21, l_24, l_31, l_32, l_40, l_64, l_76, l_80, l_84, l_85, l_99, l_255, l_256, l_680, l_688, l_696, l_704, l_712, l_720, l_728, l_736, l_744, l_752, l_753, l_754, l_755, l_1000, l_2000, l_3000, l_7550, l_1000000, l_41, l_42, l_43, l_45, l_47, l_48, l_56, l_57, l_60, l_61, l_62, l_63, l_73, l_83, l_88, l_97, l_98, l_100, l_101, l_102, l_103, l_104, l_105, l_108, l_111, l_113, l_117, l_118, l_119, l_120, l_65536, n2_31, n2_add, n2_mul, n2_sub, n2_eq, n2_le, n2_lt, n2_div, n2_qz0, n2_qz1, n2_qzb, bn_0, bn_1, bn_t, bn_f, n2_eqm, n2_meq, n2_ltm, n2_mlt, n2_lem, n2_mle, if_true, if_false, qbnd_s, ite_true, ite_false, if_pos, reduceIte]
theorem x4_rankOf_ask {k : Nat} (hk : k < 7) : fX4_rankOf (n2 ([119, 104, 97, 102, 105, 113, 120].getD k 0)) μ = some (n2 0, 0, μ) := by
  have e : k = 0 ∨ k = 1 ∨ k = 2 ∨ k = 3 ∨ k = 4 ∨ k = 5 ∨ k = 6 := by omega
  rcases e with rfl | rfl | rfl | rfl | rfl | rfl | rfl <;> simp (disch := first | assumption | omega) [fX4_rankOf, l_0, l_1, l_2, l_3, l_4, l_5, l_6, l_7, l_8, l_9, l_10, l_11, l_12, l_15, l_16, l_21, l_24, l_31, l_32, l_40, l_64, l_76, l_80, l_84, l_85, l_99, l_255, l_256, l_680, l_688, l_696, l_704, l_712, l_720, l_728, l_736, l_744, l_752, l_753, l_754, l_755, l_1000, l_2000, l_3000, l_7550, l_1000000, l_41, l_42, l_43, l_45, l_47, l_48, l_56, l_57, l_60, l_61, l_62, l_63, l_73, l_83, l_88, l_97, l_98, l_100, l_101, l_102, l_103, l_104, l_105, l_108, l_111, l_113, l_117, l_118, l_119, l_120, l_65536, n2_31, n2_add, n2_mul, n2_sub, n2_eq, n2_le, n2_lt, n2_div, n2_qz0, n2_qz1, n2_qzb, bn_0, bn_1, bn_t, bn_f, n2_eqm, n2_meq, n2_ltm, n2_mlt, n2_lem, n2_mle, if_true, if_false, qbnd_s, ite_true, ite_false, if_pos, reduceIte]
theorem x4_reckon {k : Nat} (hk : k < 7) (x y : Int32) : fX4_reckon (n2 ([60, 62, 61, 43, 45, 42, 47].getD k 0)) x y μ = some (wkd k x y, 0, μ) := by
  have e : k = 0 ∨ k = 1 ∨ k = 2 ∨ k = 3 ∨ k = 4 ∨ k = 5 ∨ k = 6 := by omega
  rcases e with rfl | rfl | rfl | rfl | rfl | rfl | rfl
  · simp (disch := first | assumption | omega) [fX4_reckon, l_0, l_1, l_2, l_3, l_4, l_5, l_6, l_7, l_8, l_9, l_10, l_11, l_12, l_15, l_16, l_21, l_24, l_31, l_32, l_40, l_64, l_76, l_80, l_84, l_85, l_99, l_255, l_256, l_680, l_688, l_696, l_704, l_712, l_720, l_728, l_736, l_744, l_752, l_753, l_754, l_755, l_1000, l_2000, l_3000, l_7550, l_1000000, l_41, l_42, l_43, l_45, l_47, l_48, l_56, l_57, l_60, l_61, l_62, l_63, l_73, l_83, l_88, l_97, l_98, l_100, l_101, l_102, l_103, l_104, l_105, l_108, l_111, l_113, l_117, l_118, l_119, l_120, l_65536, n2_31, n2_add, n2_mul, n2_sub, n2_eq, n2_le, n2_lt, n2_div, n2_qz0, n2_qz1, n2_qzb, bn_0, bn_1, bn_t, bn_f, n2_eqm, n2_meq, n2_ltm, n2_mlt, n2_lem, n2_mle, if_true, if_false, qbnd_s, ite_true, ite_false, if_pos, reduceIte, wkd]
    by_cases h : x < y
    · have h2 : ¬ y ≤ x := by rw [Int32.not_le]; exact h
      simp only [h, h2, if_true, if_false]
    · have h2 : y ≤ x := Int32.not_lt.mp h
      simp only [h, h2, if_true, if_false]
  · simp (disch := first | assumption | omega) [fX4_reckon, l_0, l_1, l_2, l_3, l_4, l_5, l_6, l_7, l_8, l_9, l_10, l_11, l_12, l_15, l_16, l_21, l_24, l_31, l_32, l_40, l_64, l_76, l_80, l_84, l_85, l_99, l_255, l_256, l_680, l_688, l_696, l_704, l_712, l_720, l_728, l_736, l_744, l_752, l_753, l_754, l_755, l_1000, l_2000, l_3000, l_7550, l_1000000, l_41, l_42, l_43, l_45, l_47, l_48, l_56, l_57, l_60, l_61, l_62, l_63, l_73, l_83, l_88, l_97, l_98, l_100, l_101, l_102, l_103, l_104, l_105, l_108, l_111, l_113, l_117, l_118, l_119, l_120, l_65536, n2_31, n2_add, n2_mul, n2_sub, n2_eq, n2_le, n2_lt, n2_div, n2_qz0, n2_qz1, n2_qzb, bn_0, bn_1, bn_t, bn_f, n2_eqm, n2_meq, n2_ltm, n2_mlt, n2_lem, n2_mle, if_true, if_false, qbnd_s, ite_true, ite_false, if_pos, reduceIte, wkd]
    by_cases h : y < x
    · have h2 : ¬ x ≤ y := by rw [Int32.not_le]; exact h
      simp only [h, h2, if_true, if_false]
    · have h2 : x ≤ y := Int32.not_lt.mp h
      simp only [h, h2, if_true, if_false]
  · simp (disch := first | assumption | omega) [fX4_reckon, l_0, l_1, l_2, l_3, l_4, l_5, l_6, l_7, l_8, l_9, l_10, l_11, l_12, l_15, l_16, l_21, l_24, l_31, l_32, l_40, l_64, l_76, l_80, l_84, l_85, l_99, l_255, l_256, l_680, l_688, l_696, l_704, l_712, l_720, l_728, l_736, l_744, l_752, l_753, l_754, l_755, l_1000, l_2000, l_3000, l_7550, l_1000000, l_41, l_42, l_43, l_45, l_47, l_48, l_56, l_57, l_60, l_61, l_62, l_63, l_73, l_83, l_88, l_97, l_98, l_100, l_101, l_102, l_103, l_104, l_105, l_108, l_111, l_113, l_117, l_118, l_119, l_120, l_65536, n2_31, n2_add, n2_mul, n2_sub, n2_eq, n2_le, n2_lt, n2_div, n2_qz0, n2_qz1, n2_qzb, bn_0, bn_1, bn_t, bn_f, n2_eqm, n2_meq, n2_ltm, n2_mlt, n2_lem, n2_mle, if_true, if_false, qbnd_s, ite_true, ite_false, if_pos, reduceIte, wkd]
    by_cases h : x = y <;> simp [h]
  · simp (disch := first | assumption | omega) [fX4_reckon, l_0, l_1, l_2, l_3, l_4, l_5, l_6, l_7, l_8, l_9, l_10, l_11, l_12, l_15, l_16, l_21, l_24, l_31, l_32, l_40, l_64, l_76, l_80, l_84, l_85, l_99, l_255, l_256, l_680, l_688, l_696, l_704, l_712, l_720, l_728, l_736, l_744, l_752, l_753, l_754, l_755, l_1000, l_2000, l_3000, l_7550, l_1000000, l_41, l_42, l_43, l_45, l_47, l_48, l_56, l_57, l_60, l_61, l_62, l_63, l_73, l_83, l_88, l_97, l_98, l_100, l_101, l_102, l_103, l_104, l_105, l_108, l_111, l_113, l_117, l_118, l_119, l_120, l_65536, n2_31, n2_add, n2_mul, n2_sub, n2_eq, n2_le, n2_lt, n2_div, n2_qz0, n2_qz1, n2_qzb, bn_0, bn_1, bn_t, bn_f, n2_eqm, n2_meq, n2_ltm, n2_mlt, n2_lem, n2_mle, if_true, if_false, qbnd_s, ite_true, ite_false, if_pos, reduceIte, wkd]
  · simp (disch := first | assumption | omega) [fX4_reckon, l_0, l_1, l_2, l_3, l_4, l_5, l_6, l_7, l_8, l_9, l_10, l_11, l_12, l_15, l_16, l_21, l_24, l_31, l_32, l_40, l_64, l_76, l_80, l_84, l_85, l_99, l_255, l_256, l_680, l_688, l_696, l_704, l_712, l_720, l_728, l_736, l_744, l_752, l_753, l_754, l_755, l_1000, l_2000, l_3000, l_7550, l_1000000, l_41, l_42, l_43, l_45, l_47, l_48, l_56, l_57, l_60, l_61, l_62, l_63, l_73, l_83, l_88, l_97, l_98, l_100, l_101, l_102, l_103, l_104, l_105, l_108, l_111, l_113, l_117, l_118, l_119, l_120, l_65536, n2_31, n2_add, n2_mul, n2_sub, n2_eq, n2_le, n2_lt, n2_div, n2_qz0, n2_qz1, n2_qzb, bn_0, bn_1, bn_t, bn_f, n2_eqm, n2_meq, n2_ltm, n2_mlt, n2_lem, n2_mle, if_true, if_false, qbnd_s, ite_true, ite_false, if_pos, reduceIte, wkd]
  · simp (disch := first | assumption | omega) [fX4_reckon, l_0, l_1, l_2, l_3, l_4, l_5, l_6, l_7, l_8, l_9, l_10, l_11, l_12, l_15, l_16, l_21, l_24, l_31, l_32, l_40, l_64, l_76, l_80, l_84, l_85, l_99, l_255, l_256, l_680, l_688, l_696, l_704, l_712, l_720, l_728, l_736, l_744, l_752, l_753, l_754, l_755, l_1000, l_2000, l_3000, l_7550, l_1000000, l_41, l_42, l_43, l_45, l_47, l_48, l_56, l_57, l_60, l_61, l_62, l_63, l_73, l_83, l_88, l_97, l_98, l_100, l_101, l_102, l_103, l_104, l_105, l_108, l_111, l_113, l_117, l_118, l_119, l_120, l_65536, n2_31, n2_add, n2_mul, n2_sub, n2_eq, n2_le, n2_lt, n2_div, n2_qz0, n2_qz1, n2_qzb, bn_0, bn_1, bn_t, bn_f, n2_eqm, n2_meq, n2_ltm, n2_mlt, n2_lem, n2_mle, if_true, if_false, qbnd_s, ite_true, ite_false, if_pos, reduceIte, wkd]
  · simp (disch := first | assumption | omega) [fX4_reckon, l_0, l_1, l_2, l_3, l_4, l_5, l_6, l_7, l_8, l_9, l_10, l_11, l_12, l_15, l_16, l_21, l_24, l_31, l_32, l_40, l_64, l_76, l_80, l_84, l_85, l_99, l_255, l_256, l_680, l_688, l_696, l_704, l_712, l_720, l_728, l_736, l_744, l_752, l_753, l_754, l_755, l_1000, l_2000, l_3000, l_7550, l_1000000, l_41, l_42, l_43, l_45, l_47, l_48, l_56, l_57, l_60, l_61, l_62, l_63, l_73, l_83, l_88, l_97, l_98, l_100, l_101, l_102, l_103, l_104, l_105, l_108, l_111, l_113, l_117, l_118, l_119, l_120, l_65536, n2_31, n2_add, n2_mul, n2_sub, n2_eq, n2_le, n2_lt, n2_div, n2_qz0, n2_qz1, n2_qzb, bn_0, bn_1, bn_t, bn_f, n2_eqm, n2_meq, n2_ltm, n2_mlt, n2_lem, n2_mle, if_true, if_false, qbnd_s, ite_true, ite_false, if_pos, reduceIte, wkd]
    by_cases h : y = n2 0 <;> simp [h]
theorem it_act : ∀ k, k < 7 → ¬ c7 (2000 + k) = -n2 256 ∧ ¬ n2 0 ≤ c7 (2000 + k) ∧ -(c7 (2000 + k)) = n2 ([60, 62, 61, 43, 45, 42, 47].getD k 0) ∧ ¬ n2 ([1, 1, 1, 2, 2, 3, 3].getD k 0) ≤ n2 0 := by decide +kernel
theorem it_ask : ∀ k, k < 7 → ¬ c7 (1000 + k) = -n2 256 ∧ ¬ n2 0 ≤ c7 (1000 + k) ∧ -(c7 (1000 + k)) = n2 ([119, 104, 97, 102, 105, 113, 120].getD k 0) ∧ c7 (1000 + k) < n2 0 := by decide +kernel
theorem it_num : ∀ x, x < 1000 → ¬ c7 x = -n2 256 ∧ n2 0 ≤ c7 x ∧ ¬ c7 x < n2 0 ∧ c7 x = n2 x := by decide +kernel
theorem x4_cost {cs : List Nat} (ha : a ∈ rul) (hb : b ∈ stl) (hR : R7 I b s) (hB : Bd s) (hU : RuW I a cs) (hab : b + 11 ≤ a) {o : Nat} (ho : o < 8) : ∃ I', fX4_cost a b (n2 o) (n2 w) (mk I L c t) = some (if cs = [] then n2 (s 87 o + hol s o 0) else evl (askS s o w) cs, 0, mk I' L c t) ∧ Fr I I' (a + 3) (a + 4) := by
  obtain ⟨u1, u2, u3, u4⟩ := hU
  by_cases hc : cs = []
  · rw [if_pos hc]
    rw [hc] at u2
    refine ⟨I, ?_, Fr.rf _ _ _⟩
    simp (disch := first | assumption | omega) only [fX4_cost, gX4_cost, l_0, l_1, l_2, l_3, l_4, l_5, l_6, l_7, l_8, l_9, l_10, l_11, l_12, l_15, l_16, l_21, l_24, l_31, l_32, l_40, l_64, l_76, l_80, l_84, l_85, l_99, l_255, l_256, l_680, l_688, l_696, l_704, l_712, l_720, l_728, l_736, l_744, l_752, l_753, l_754, l_755, l_1000, l_2000, l_3000, l_7550, l_1000000, l_41, l_42, l_43, l_45, l_47, l_48, l_56, l_57, l_60, l_61, l_62, l_63, l_73, l_83, l_88, l_97, l_98, l_100, l_101, l_102, l_103, l_104, l_105, l_108, l_111, l_113, l_117, l_118, l_119, l_120, l_65536, n2_31, n2_add, n2_mul, n2_sub, n2_eq, n2_le, n2_lt, n2_div, n2_qz0, n2_qz1, n2_qzb, bn_0, bn_1, bn_t, bn_f, n2_eqm, n2_meq, n2_ltm, n2_mlt, n2_lem, n2_mle, if_true, if_false, qbnd_s, ite_true, ite_false, if_pos, reduceIte, st_q, st_P0, st_P1, st_P2, st_P3, st_P4, st_P5, st_P6, st_P7, st_P8, st_P9, st_L0, st_S0, st_L1, st_S1, st_L2, st_S2, st_L3, st_S3, st_L4, st_S4, st_L5, st_S5, st_L6, st_S6, st_L7, st_S7, st_L8, st_S8, st_L9, st_S9, st_I10, st_U10, st_I11, st_U11, st_I12, st_U12, ru_q, ru_P0, ru_L0, ru_S0, ru_P1, ru_L1, ru_S1, ru_P2, ru_L2, ru_S2, ru_I3, ru_U3, ru_I4, ru_U4, ru_I5, ru_U5, ru_I6, ru_U6, ru_I7, ru_U7, ru_I8, ru_U8, u2, List.length_nil, hR.md, hR.st, hR.ag, hR.wk, hR.fl, hR.at, hR.wa, hR.tu, hR.go, hR.mo, hR.tn, hR.bg, hR.gf, x5_holdings hb hR hB ho (show 0 ≤ 6 by omega)]
  rw [if_neg hc]
  have hlen : 1 ≤ cs.length := List.length_pos_iff.mpr hc
  have e0 : fX4_cost a b (n2 o) (n2 w) (mk I L c t) = fX4_cost_17 qfu a b (n2 o) (n2 w) (n2 0) (n2 0) (mk I L c t) := by
    have : ¬ cs.length = 0 := by omega
    simp (disch := first | assumption | omega) only [fX4_cost, gX4_cost, l_0, l_1, l_2, l_3, l_4, l_5, l_6, l_7, l_8, l_9, l_10, l_11, l_12, l_15, l_16, l_21, l_24, l_31, l_32, l_40, l_64, l_76, l_80, l_84, l_85, l_99, l_255, l_256, l_680, l_688, l_696, l_704, l_712, l_720, l_728, l_736, l_744, l_752, l_753, l_754, l_755, l_1000, l_2000, l_3000, l_7550, l_1000000, l_41, l_42, l_43, l_45, l_47, l_48, l_56, l_57, l_60, l_61, l_62, l_63, l_73, l_83, l_88, l_97, l_98, l_100, l_101, l_102, l_103, l_104, l_105, l_108, l_111, l_113, l_117, l_118, l_119, l_120, l_65536, n2_31, n2_add, n2_mul, n2_sub, n2_eq, n2_le, n2_lt, n2_div, n2_qz0, n2_qz1, n2_qzb, bn_0, bn_1, bn_t, bn_f, n2_eqm, n2_meq, n2_ltm, n2_mlt, n2_lem, n2_mle, if_true, if_false, qbnd_s, ite_true, ite_false, if_pos, reduceIte, ru_q, ru_P0, ru_L0, ru_S0, ru_P1, ru_L1, ru_S1, ru_P2, ru_L2, ru_S2, ru_I3, ru_U3, ru_I4, ru_U4, ru_I5, ru_U5, ru_I6, ru_U6, ru_I7, ru_U7, ru_I8, ru_U8, u2, this]
  rw [e0]
  refine lp_rk (α := (Nat → Nat → Int32) × (Nat → Int32) × Nat) (fun m k z => fX4_cost_17 m a b (n2 o) (n2 w) (n2 z.2.2) (n2 k) (mk z.1 L c t)) cs.length
    (fun k z => Fr I z.1 (a + 3) (a + 4) ∧ (∀ i, i < z.2.2 → z.1 (a + 3) i = z.2.1 i) ∧ z.2.2 ≤ k ∧ wfc (cs.drop k) z.2.2 = true ∧ (cs.drop k).foldl (evs (askS s o w)) z.2 = cs.foldl (evs (askS s o w)) (fun _ => n2 0, 0))
    (fun r => ∃ I', r = some (evl (askS s o w) cs, 0, mk I' L c t) ∧ Fr I I' (a + 3) (a + 4)) (k0 := 0) (Nat.zero_le _) (by omega) (I, fun _ => n2 0, 0) ⟨Fr.rf _ _ _, fun i hi => absurd hi (Nat.not_lt_zero i), Nat.le_refl _, by rw [List.drop_zero]; exact u4 hc, by rw [List.drop_zero]⟩ (fun m k z _ hk hi => Or.inr ?_) (fun m z hi => ?_)
  · obtain ⟨J, v, h⟩ := z
    obtain ⟨i1, i2, i3, i4, i5⟩ := hi
    dsimp only at i1 i2 i3 i4 i5
    have hdr : cs.drop k = cs.getD k 0 :: cs.drop (k + 1) := by
      rw [List.drop_eq_getElem_cons hk]
      congr 1
      rw [List.getD_eq_getElem?_getD, List.getElem?_eq_getElem hk]
      rfl
    have hx3 : J (a + 1) k = c7 (cs.getD k 0) := by rw [i1 _ _ (by omega)]; exact u3 k hk
    have hs3 : J a 3 = n2 cs.length := by rw [i1 _ _ (by omega)]; exact u2
    have hRJ := hR.fr i1 (by omega)
    rw [hdr] at i4 i5
    generalize cs.getD k 0 = x at *
    rw [List.foldl_cons] at i5
    have hle : ¬ cs.length ≤ k := by omega
    simp only [wfc] at i4
    by_cases e1 : x = 3000
    · rw [if_pos e1, Bool.and_eq_true, decide_eq_true_eq] at i4
      rw [e1, c7_less] at hx3
      have hz : ¬ h ≤ 0 := by omega
      refine ⟨(upI J (a + 3) (h - 1) (-(v (h - 1))), upV v (h - 1) (-(v (h - 1))), h), ?_, i1.trans (Fr.up (by omega) (by omega)), fun i hi => ?_, by show h ≤ k + 1; omega, i4.2, ?_⟩
      · simp (disch := first | assumption | omega) only [fX4_cost_17, l_0, l_1, l_2, l_3, l_4, l_5, l_6, l_7, l_8, l_9, l_10, l_11, l_12, l_15, l_16, l_21, l_24, l_31, l_32, l_40, l_64, l_76, l_80, l_84, l_85, l_99, l_255, l_256, l_680, l_688, l_696, l_704, l_712, l_720, l_728, l_736, l_744, l_752, l_753, l_754, l_755, l_1000, l_2000, l_3000, l_7550, l_1000000, l_41, l_42, l_43, l_45, l_47, l_48, l_56, l_57, l_60, l_61, l_62, l_63, l_73, l_83, l_88, l_97, l_98, l_100, l_101, l_102, l_103, l_104, l_105, l_108, l_111, l_113, l_117, l_118, l_119, l_120, l_65536, n2_31, n2_add, n2_mul, n2_sub, n2_eq, n2_le, n2_lt, n2_div, n2_qz0, n2_qz1, n2_qzb, bn_0, bn_1, bn_t, bn_f, n2_eqm, n2_meq, n2_ltm, n2_mlt, n2_lem, n2_mle, if_true, if_false, qbnd_s, ite_true, ite_false, if_pos, reduceIte, ru_q, ru_P0, ru_L0, ru_S0, ru_P1, ru_L1, ru_S1, ru_P2, ru_L2, ru_S2, ru_I3, ru_U3, ru_I4, ru_U4, ru_I5, ru_U5, ru_I6, ru_U6, ru_I7, ru_U7, ru_I8, ru_U8, hs3, hle, hx3, hz, i2 (h - 1) (by omega)]
      · show upI J (a + 3) (h - 1) (-(v (h - 1))) (a + 3) i = upV v (h - 1) (-(v (h - 1))) i
        unfold upV
        by_cases e : i = h - 1
        · rw [if_pos e, e, upI_eq]
        · rw [if_neg e, upI_ni e]; exact i2 i hi
      · rw [e1] at i5
        simpa only [evs, if_true] using i5
    rw [if_neg e1] at i4
    by_cases e2 : 2000 ≤ x
    · rw [if_pos e2, Bool.and_eq_true, Bool.and_eq_true, decide_eq_true_eq, decide_eq_true_eq] at i4
      obtain ⟨k', rfl⟩ : ∃ k', x = 2000 + k' := ⟨x - 2000, by omega⟩
      have hk7 : k' < 7 := by omega
      obtain ⟨b1, b2, b3, b4⟩ := it_act k' hk7
      have hz : ¬ h ≤ 1 := by omega
      have hsub : 2000 + k' - 2000 = k' := by omega
      refine ⟨(upI J (a + 3) (h - 2) (wkd k' (v (h - 2)) (v (h - 1))), upV v (h - 2) (wkd k' (v (h - 2)) (v (h - 1))), h - 1), ?_, i1.trans (Fr.up (by omega) (by omega)), fun i hi => ?_, by show h - 1 ≤ k + 1; omega, i4.2.2, ?_⟩
      · simp (disch := first | assumption | omega) only [fX4_cost_17, l_0, l_1, l_2, l_3, l_4, l_5, l_6, l_7, l_8, l_9, l_10, l_11, l_12, l_15, l_16, l_21, l_24, l_31, l_32, l_40, l_64, l_76, l_80, l_84, l_85, l_99, l_255, l_256, l_680, l_688, l_696, l_704, l_712, l_720, l_728, l_736, l_744, l_752, l_753, l_754, l_755, l_1000, l_2000, l_3000, l_7550, l_1000000, l_41, l_42, l_43, l_45, l_47, l_48, l_56, l_57, l_60, l_61, l_62, l_63, l_73, l_83, l_88, l_97, l_98, l_100, l_101, l_102, l_103, l_104, l_105, l_108, l_111, l_113, l_117, l_118, l_119, l_120, l_65536, n2_31, n2_add, n2_mul, n2_sub, n2_eq, n2_le, n2_lt, n2_div, n2_qz0, n2_qz1, n2_qzb, bn_0, bn_1, bn_t, bn_f, n2_eqm, n2_meq, n2_ltm, n2_mlt, n2_lem, n2_mle, if_true, if_false, qbnd_s, ite_true, ite_false, if_pos, reduceIte, ru_q, ru_P0, ru_L0, ru_S0, ru_P1, ru_L1, ru_S1, ru_P2, ru_L2, ru_S2, ru_I3, ru_U3, ru_I4, ru_U4, ru_I5, ru_U5, ru_I6, ru_U6, ru_I7, ru_U7, ru_I8, ru_U8, hs3, hle, hx3, b1, b2, b3, x4_rankOf_act hk7, b4, hz, n2_dec, Nat.sub_sub, Nat.reduceAdd, i2 (h - 2) (by omega), i2 (h - 1) (by omega), x4_reckon hk7]
      · show upI J (a + 3) (h - 2) _ (a + 3) i = upV v (h - 2) _ i
        have hi : i < h - 1 := hi
        unfold upV
        by_cases e : i = h - 2
        · rw [if_pos e, e, upI_eq]
        · rw [if_neg e, upI_ni e]; exact i2 i (by omega)
      · simp only [evs] at i5
        rw [if_neg e1, if_pos e2, hsub] at i5
        exact i5
    rw [if_neg e2, Bool.and_eq_true, decide_eq_true_eq] at i4
    by_cases e3 : 1000 ≤ x
    · obtain ⟨k', rfl⟩ : ∃ k', x = 1000 + k' := ⟨x - 1000, by omega⟩
      have hk7 : k' < 7 := by omega
      obtain ⟨b1, b2, b3, b4⟩ := it_ask k' hk7
      have hsub : 1000 + k' - 1000 = k' := by omega
      have hz : ¬ 40 ≤ h := by omega
      refine ⟨(upI J (a + 3) h (askS s o w k'), upV v h (askS s o w k'), h + 1), ?_, i1.trans (Fr.up (by omega) (by omega)), fun i hi => ?_, by show h + 1 ≤ k + 1; omega, i4.2, ?_⟩
      · simp (disch := first | assumption | omega) only [fX4_cost_17, fX4_cost_75, l_0, l_1, l_2, l_3, l_4, l_5, l_6, l_7, l_8, l_9, l_10, l_11, l_12, l_15, l_16, l_21, l_24, l_31, l_32, l_40, l_64, l_76, l_80, l_84, l_85, l_99, l_255, l_256, l_680, l_688, l_696, l_704, l_712, l_720, l_728, l_736, l_744, l_752, l_753, l_754, l_755, l_1000, l_2000, l_3000, l_7550, l_1000000, l_41, l_42, l_43, l_45, l_47, l_48, l_56, l_57, l_60, l_61, l_62, l_63, l_73, l_83, l_88, l_97, l_98, l_100, l_101, l_102, l_103, l_104, l_105, l_108, l_111, l_113, l_117, l_118, l_119, l_120, l_65536, n2_31, n2_add, n2_mul, n2_sub, n2_eq, n2_le, n2_lt, n2_div, n2_qz0, n2_qz1, n2_qzb, bn_0, bn_1, bn_t, bn_f, n2_eqm, n2_meq, n2_ltm, n2_mlt, n2_lem, n2_mle, if_true, if_false, qbnd_s, ite_true, ite_false, if_pos, reduceIte, ru_q, ru_P0, ru_L0, ru_S0, ru_P1, ru_L1, ru_S1, ru_P2, ru_L2, ru_S2, ru_I3, ru_U3, ru_I4, ru_U4, ru_I5, ru_U5, ru_I6, ru_U6, ru_I7, ru_U7, ru_I8, ru_U8, hs3, hle, hx3, b1, b2, b3, b4, x4_rankOf_ask hk7, Nat.le_refl, hz, x4_valueOf hb hRJ hB ho hk7]
      · show upI J (a + 3) h _ (a + 3) i = upV v h _ i
        have hi : i < h + 1 := hi
        unfold upV
        by_cases e : i = h
        · rw [if_pos e, e, upI_eq]
        · rw [if_neg e, upI_ni e]; exact i2 i (by omega)
      · simp only [evs] at i5
        rw [if_neg e1, if_neg e2, if_pos e3, hsub] at i5
        exact i5
    · obtain ⟨b1, b2, b3, b4⟩ := it_num x (by omega)
      have hz : ¬ 40 ≤ h := by omega
      refine ⟨(upI J (a + 3) h (n2 x), upV v h (n2 x), h + 1), ?_, i1.trans (Fr.up (by omega) (by omega)), fun i hi => ?_, by show h + 1 ≤ k + 1; omega, i4.2, ?_⟩
      · rw [b4] at b1 b2 b3 hx3
        simp (disch := first | assumption | omega) only [fX4_cost_17, fX4_cost_75, l_0, l_1, l_40, l_256, n2_add, n2_eq, n2_le, qbnd_s, if_true, if_false, ru_q, ru_P0, ru_L0, ru_S0, ru_P1, ru_L1, ru_S1, ru_P2, ru_L2, ru_S2, ru_I3, ru_U3, ru_I4, ru_U4, ru_I5, ru_U5, ru_I6, ru_U6, ru_I7, ru_U7, ru_I8, ru_U8, hs3, hle, hx3, b1, b3, hz, Nat.zero_le]
      · show upI J (a + 3) h _ (a + 3) i = upV v h _ i
        have hi : i < h + 1 := hi
        unfold upV
        by_cases e : i = h
        · rw [if_pos e, e, upI_eq]
        · rw [if_neg e, upI_ni e]; exact i2 i (by omega)
      · simp only [evs] at i5
        rw [if_neg e1, if_neg e2, if_neg e3] at i5
        exact i5
  · obtain ⟨J, v, h⟩ := z
    obtain ⟨i1, i2, i3, i4, i5⟩ := hi
    dsimp only at i1 i2 i3 i4 i5
    rw [List.drop_length] at i4 i5
    simp only [wfc, decide_eq_true_eq] at i4
    rw [List.foldl_nil] at i5
    have hs3 : J a 3 = n2 cs.length := by rw [i1 _ _ (by omega)]; exact u2
    refine ⟨J, ?_, i1⟩
    have h0 := i2 0 (by omega)
    have hv : evl (askS s o w) cs = v 0 := by unfold evl; rw [← i5]
    rw [hv]
    simp (disch := first | assumption | omega) only [fX4_cost_17, l_0, l_1, l_2, l_3, l_4, l_5, l_6, l_7, l_8, l_9, l_10, l_11, l_12, l_15, l_16, l_21, l_24, l_31, l_32, l_40, l_64, l_76, l_80, l_84, l_85, l_99, l_255, l_256, l_680, l_688, l_696, l_704, l_712, l_720, l_728, l_736, l_744, l_752, l_753, l_754, l_755, l_1000, l_2000, l_3000, l_7550, l_1000000, l_41, l_42, l_43, l_45, l_47, l_48, l_56, l_57, l_60, l_61, l_62, l_63, l_73, l_83, l_88, l_97, l_98, l_100, l_101, l_102, l_103, l_104, l_105, l_108, l_111, l_113, l_117, l_118, l_119, l_120, l_65536, n2_31, n2_add, n2_mul, n2_sub, n2_eq, n2_le, n2_lt, n2_div, n2_qz0, n2_qz1, n2_qzb, bn_0, bn_1, bn_t, bn_f, n2_eqm, n2_meq, n2_ltm, n2_mlt, n2_lem, n2_mle, if_true, if_false, qbnd_s, ite_true, ite_false, if_pos, reduceIte, ru_q, ru_P0, ru_L0, ru_S0, ru_P1, ru_L1, ru_S1, ru_P2, ru_L2, ru_S2, ru_I3, ru_U3, ru_I4, ru_U4, ru_I5, ru_U5, ru_I6, ru_U6, ru_I7, ru_U7, ru_I8, ru_U8, hs3, Nat.le_refl, h0]
end S7R

/-! PURE SIDE, THE CLASS: names, a day's text; what can be undone -/
def strN (i : Nat) : List Nat := ([[73, 83], [73, 88], [83], [83, 73, 88], [85], [88]] : List (List Nat)).getD i []
section S7U
variable {I : Nat → Nat → Int32} {L : Nat → Nat → Int64} {c t : Nat} {tx : List Nat} {μ : qM}
theorem j0_len : ∀ i, i < 6 → (Int32.ofNat (qtv (10 + i + 20)).length) >>> ((0 : Int32) &&& 31) = n2 (strN i).length ∧ qtk (10 + i) = 2 ∧ qtk (10 + i + 20) = 3 := by decide +kernel
theorem j0_chr : ∀ i, i < 6 → ∀ k, k < (strN i).length → oTab 3 (10 + i + 20) (n2 k) = some (n2 ((strN i).getD k 0)) ∧ (strN i).getD k 0 < 128 ∧ n2 k < Int32.ofNat (qtv (10 + i + 20)).length := by decide +kernel
theorem chr_ok2 : ∀ k, k < 128 → (((n2 k &&& n2 255)).toUInt32 % 65536).toInt32 = n2 k ∧ qnc (n2 k) = n2 k := by decide +kernel
theorem j0_length {i : Nat} (hi : i < 6) : fJ0_length_8abf5 (10 + i) μ = some (n2 (strN i).length, 0, μ) := by
  obtain ⟨h1, h2, h3⟩ := j0_len i hi
  have h4 : qnb (n2 0) = n2 0 := by decide +kernel
  have hc : fJ0_coder_7d493 (10 + i) μ = some (0, 0, μ) := by
    unfold fJ0_coder_7d493
    rw [if_pos h2]
    unfold gJ0_coder_7d493
    rw [if_neg (show ¬ ((1 : Int32) = 0) by decide +kernel), if_pos h2, if_pos (show qnb (0 : Int32) = (0 : Int32) by decide +kernel)]
  unfold fJ0_length_8abf5
  rw [if_pos h2]
  unfold gJ0_length_8abf5
  rw [if_pos h2, if_pos (Or.inr h3), hc]
  show some (_, _, _) = _
  rw [h1]
theorem j0_charAt {i k : Nat} (hi : i < 6) (hk : k < (strN i).length) : fJ0_charAt_5068e (10 + i) (n2 k) μ = some (n2 ((strN i).getD k 0), 0, μ) := by
  obtain ⟨-, h2, h3⟩ := j0_len i hi
  obtain ⟨c1, c2, c3⟩ := j0_chr i hi k hk
  obtain ⟨d1, d2⟩ := chr_ok2 _ c2
  have hk31 : k < 2147483648 := by
    have : (strN i).length ≤ 3 := by
      have : ∀ i, i < 6 → (strN i).length ≤ 3 := by decide +kernel
      exact this i hi
    omega
  have e1 : fJ0_isLatin1_aae02 (10 + i) μ = some (1, 0, μ) := by
    unfold fJ0_isLatin1_aae02
    rw [if_pos h2]
    unfold gJ0_isLatin1_aae02
    rw [if_neg (show ¬ ((1 : Int32) = 0) by decide +kernel), if_pos h2, if_pos rfl, if_pos (show qnz (1 : Int32) = (1 : Int32) by decide +kernel)]
  have e2 : fJ1_charAt_3b067 (10 + i + 20) (n2 k) μ = some (n2 ((strN i).getD k 0), 0, μ) := by
    unfold fJ1_charAt_3b067
    rw [if_pos (Or.inr h3)]
    unfold fJ0_checkIndex_df160 fJ3_checkIndex_8e157
    rw [if_neg (by rw [l_0, n2_nn hk31]; exact not_false), if_pos c3]
    show qbnd (some _) _ = _
    rw [qbnd_s, c1, qbnd_s, l_255, d1, if_pos d2]
  unfold fJ0_charAt_5068e
  rw [if_pos h2]
  unfold gJ0_charAt_5068e
  rw [e1]
  rw [qbnd_s]
  dsimp only
  rw [if_neg (show ¬ ((1 : Int32) = 0) by decide +kernel), if_pos h2, e2, qbnd_s]
  show (if qnc (n2 ((strN i).getD k 0)) = n2 ((strN i).getD k 0) then _ else _) = _
  rw [if_pos d2]
theorem x6_says (h : TeW I tx) {i : Nat} (hi : i < 6) : fX6_says 198 (10 + i) (mk I L c t) = some (n2 (bn (decide (tx = strN i))), 0, mk I L c t) := by
  have h1 := h.1
  have h2 := h.2.1
  have hlen : (strN i).length ≤ 3 := by
    have : ∀ i, i < 6 → (strN i).length ≤ 3 := by decide +kernel
    exact this i hi
  by_cases e : (strN i).length = tx.length
  · have key : fX6_says_9 qfu 198 (10 + i) (n2 0) (mk I L c t) = if ((List.range tx.length).all fun k => decide (tx.getD k 0 = (strN i).getD k 0)) = true then some (n2 1, 0, mk I L c t) else some (n2 0, 0, mk I L c t) := by
      refine lp_a (F := fun n k => fX6_says_9 n 198 (10 + i) (n2 k) (mk I L c t)) (by omega) _ _ _ (fun n k hk => ?_) (fun n => ?_)
      · have hle : ¬ tx.length ≤ k := by omega
        obtain ⟨b1, b2⟩ := h.2.2 k hk
        obtain ⟨c1, c2, c3⟩ := j0_chr i hi k (by omega)
        simp (disch := first | assumption | omega) only [fX6_says_9, l_0, l_1, l_2, l_3, l_4, l_5, l_6, l_7, l_8, l_9, l_10, l_11, l_12, l_15, l_16, l_21, l_24, l_31, l_32, l_40, l_64, l_76, l_80, l_84, l_85, l_99, l_255, l_256, l_680, l_688, l_696, l_704, l_712, l_720, l_728, l_736, l_744, l_752, l_753, l_754, l_755, l_1000, l_2000, l_3000, l_7550, l_1000000, l_41, l_42, l_43, l_45, l_47, l_48, l_56, l_57, l_60, l_61, l_62, l_63, l_73, l_83, l_88, l_97, l_98, l_100, l_101, l_102, l_103, l_104, l_105, l_108, l_111, l_113, l_117, l_118, l_119, l_120, l_65536, n2_31, n2_add, n2_mul, n2_sub, n2_eq, n2_le, n2_lt, n2_div, n2_qz0, n2_qz1, n2_qzb, bn_0, bn_1, bn_t, bn_f, n2_eqm, n2_meq, n2_ltm, n2_mlt, n2_lem, n2_mle, if_true, if_false, qbnd_s, ite_true, ite_false, if_pos, reduceIte, z_n, z_10, g198_0, g198_1, h1, hle, ld199, b1, j0_charAt hi (show k < (strN i).length by omega), decide_eq_true_eq]
      · simp (disch := first | assumption | omega) only [fX6_says_9, l_0, l_1, l_2, l_3, l_4, l_5, l_6, l_7, l_8, l_9, l_10, l_11, l_12, l_15, l_16, l_21, l_24, l_31, l_32, l_40, l_64, l_76, l_80, l_84, l_85, l_99, l_255, l_256, l_680, l_688, l_696, l_704, l_712, l_720, l_728, l_736, l_744, l_752, l_753, l_754, l_755, l_1000, l_2000, l_3000, l_7550, l_1000000, l_41, l_42, l_43, l_45, l_47, l_48, l_56, l_57, l_60, l_61, l_62, l_63, l_73, l_83, l_88, l_97, l_98, l_100, l_101, l_102, l_103, l_104, l_105, l_108, l_111, l_113, l_117, l_118, l_119, l_120, l_65536, n2_31, n2_add, n2_mul, n2_sub, n2_eq, n2_le, n2_lt, n2_div, n2_qz0, n2_qz1, n2_qzb, bn_0, bn_1, bn_t, bn_f, n2_eqm, n2_meq, n2_ltm, n2_mlt, n2_lem, n2_mle, if_true, if_false, qbnd_s, ite_true, ite_false, if_pos, reduceIte, z_n, z_10, g198_1, h1, Nat.le_refl]
    have hb : ((List.range tx.length).all fun k => decide (tx.getD k 0 = (strN i).getD k 0)) = decide (tx = strN i) := by
      by_cases e2 : tx = strN i
      · rw [e2]; simp
      · rw [decide_eq_false e2, List.all_eq_false]
        have : ∃ k, k < tx.length ∧ tx.getD k 0 ≠ (strN i).getD k 0 := by
          apply Classical.byContradiction
          intro hn
          apply e2
          apply List.ext_getElem e.symm
          intro k k1 k2
          apply Classical.byContradiction
          intro hne
          apply hn
          refine ⟨k, k1, ?_⟩
          rw [List.getD_eq_getElem?_getD, List.getD_eq_getElem?_getD, List.getElem?_eq_getElem k1, List.getElem?_eq_getElem k2]
          exact hne
        obtain ⟨k, k1, k2⟩ := this
        exact ⟨k, List.mem_range.mpr k1, by simp only [decide_eq_true_eq]; exact k2⟩
    rw [hb] at key
    simp (disch := first | assumption | omega) only [fX6_says, gX6_says, l_0, l_1, l_2, l_3, l_4, l_5, l_6, l_7, l_8, l_9, l_10, l_11, l_12, l_15, l_16, l_21, l_24, l_31, l_32, l_40, l_64, l_76, l_80, l_84, l_85, l_99, l_255, l_256, l_680, l_688, l_696, l_704, l_712, l_720, l_728, l_736, l_744, l_752, l_753, l_754, l_755, l_1000, l_2000, l_3000, l_7550, l_1000000, l_41, l_42, l_43, l_45, l_47, l_48, l_56, l_57, l_60, l_61, l_62, l_63, l_73, l_83, l_88, l_97, l_98, l_100, l_101, l_102, l_103, l_104, l_105, l_108, l_111, l_113, l_117, l_118, l_119, l_120, l_65536, n2_31, n2_add, n2_mul, n2_sub, n2_eq, n2_le, n2_lt, n2_div, n2_qz0, n2_qz1, n2_qzb, bn_0, bn_1, bn_t, bn_f, n2_eqm, n2_meq, n2_ltm, n2_mlt, n2_lem, n2_mle, if_true, if_false, qbnd_s, ite_true, ite_false, if_pos, reduceIte, z_n, z_10, q_198, g198_1, j0_length hi, h1, e, key]
    by_cases e2 : tx = strN i <;> simp [e2, bn]
  · have e2 : ¬ tx = strN i := fun z => e (by rw [z])
    simp (disch := first | assumption | omega) only [fX6_says, gX6_says, l_0, l_1, l_2, l_3, l_4, l_5, l_6, l_7, l_8, l_9, l_10, l_11, l_12, l_15, l_16, l_21, l_24, l_31, l_32, l_40, l_64, l_76, l_80, l_84, l_85, l_99, l_255, l_256, l_680, l_688, l_696, l_704, l_712, l_720, l_728, l_736, l_744, l_752, l_753, l_754, l_755, l_1000, l_2000, l_3000, l_7550, l_1000000, l_41, l_42, l_43, l_45, l_47, l_48, l_56, l_57, l_60, l_61, l_62, l_63, l_73, l_83, l_88, l_97, l_98, l_100, l_101, l_102, l_103, l_104, l_105, l_108, l_111, l_113, l_117, l_118, l_119, l_120, l_65536, n2_31, n2_add, n2_mul, n2_sub, n2_eq, n2_le, n2_lt, n2_div, n2_qz0, n2_qz1, n2_qzb, bn_0, bn_1, bn_t, bn_f, n2_eqm, n2_meq, n2_ltm, n2_mlt, n2_lem, n2_mle, if_true, if_false, qbnd_s, ite_true, ite_false, if_pos, reduceIte, z_n, z_10, q_198, g198_1, j0_length hi, h1, e, e2, decide_false]
def nameS (tx : List Nat) : Option Nat := if tx = [] then some 0 else if tx = [73, 83] then some 1 else if tx = [73, 88] then some 2 else if tx = [83] then some 3 else if tx = [83, 73, 88] then some 4 else if tx = [85] then some 5 else if tx = [88] then some 6 else none
theorem x6_modeName (h : TeW I tx) : fX6_modeName 198 (mk I L c t) = some (oi (nameS tx), 0, mk I L c t) := by
  have h1 := h.1
  have h2 := h.2.1
  have s0 := x6_says (L := L) (c := c) (t := t) h (show 0 < 6 by omega)
  have s1 := x6_says (L := L) (c := c) (t := t) h (show 1 < 6 by omega)
  have s2 := x6_says (L := L) (c := c) (t := t) h (show 2 < 6 by omega)
  have s3 := x6_says (L := L) (c := c) (t := t) h (show 3 < 6 by omega)
  have s4 := x6_says (L := L) (c := c) (t := t) h (show 4 < 6 by omega)
  have s5 := x6_says (L := L) (c := c) (t := t) h (show 5 < 6 by omega)
  simp only [Nat.reduceAdd] at s0 s1 s2 s3 s4 s5
  have n0 : strN 0 = [73, 83] := rfl
  have n1 : strN 1 = [73, 88] := rfl
  have n2' : strN 2 = [83] := rfl
  have n3 : strN 3 = [83, 73, 88] := rfl
  have n4 : strN 4 = [85] := rfl
  have n5 : strN 5 = [88] := rfl
  rw [n0] at s0; rw [n1] at s1; rw [n2'] at s2; rw [n3] at s3; rw [n4] at s4; rw [n5] at s5
  unfold nameS
  by_cases e : tx = []
  · rw [if_pos e]
    rw [e] at h1
    simp (disch := first | assumption | omega) only [fX6_modeName, gX6_modeName, l_0, l_1, l_2, l_3, l_4, l_5, l_6, l_7, l_8, l_9, l_10, l_11, l_12, l_15, l_16, l_21, l_24, l_31, l_32, l_40, l_64, l_76, l_80, l_84, l_85, l_99, l_255, l_256, l_680, l_688, l_696, l_704, l_712, l_720, l_728, l_736, l_744, l_752, l_753, l_754, l_755, l_1000, l_2000, l_3000, l_7550, l_1000000, l_41, l_42, l_43, l_45, l_47, l_48, l_56, l_57, l_60, l_61, l_62, l_63, l_73, l_83, l_88, l_97, l_98, l_100, l_101, l_102, l_103, l_104, l_105, l_108, l_111, l_113, l_117, l_118, l_119, l_120, l_65536, n2_31, n2_add, n2_mul, n2_sub, n2_eq, n2_le, n2_lt, n2_div, n2_qz0, n2_qz1, n2_qzb, bn_0, bn_1, bn_t, bn_f, n2_eqm, n2_meq, n2_ltm, n2_mlt, n2_lem, n2_mle, if_true, if_false, qbnd_s, ite_true, ite_false, if_pos, reduceIte, z_n, z_10, q_198, g198_1, h1, List.length_nil, oi]
  have hl : ¬ tx.length = 0 := fun z => e (List.length_eq_zero_iff.mp z)
  rw [if_neg e]
  simp (disch := first | assumption | omega) only [fX6_modeName, gX6_modeName, l_0, l_1, l_2, l_3, l_4, l_5, l_6, l_7, l_8, l_9, l_10, l_11, l_12, l_15, l_16, l_21, l_24, l_31, l_32, l_40, l_64, l_76, l_80, l_84, l_85, l_99, l_255, l_256, l_680, l_688, l_696, l_704, l_712, l_720, l_728, l_736, l_744, l_752, l_753, l_754, l_755, l_1000, l_2000, l_3000, l_7550, l_1000000, l_41, l_42, l_43, l_45, l_47, l_48, l_56, l_57, l_60, l_61, l_62, l_63, l_73, l_83, l_88, l_97, l_98, l_100, l_101, l_102, l_103, l_104, l_105, l_108, l_111, l_113, l_117, l_118, l_119, l_120, l_65536, n2_31, n2_add, n2_mul, n2_sub, n2_eq, n2_le, n2_lt, n2_div, n2_qz0, n2_qz1, n2_qzb, bn_0, bn_1, bn_t, bn_f, n2_eqm, n2_meq, n2_ltm, n2_mlt, n2_lem, n2_mle, if_true, if_false, qbnd_s, ite_true, ite_false, if_pos, reduceIte, z_n, z_10, q_198, g198_1, h1, hl, s0, s1, s2, s3, s4, s5, decide_eq_false_iff_not]
  by_cases e0 : tx = [73, 83]
  · simp [e0, oi]
  by_cases e1 : tx = [73, 88]
  · simp [e1, oi]
  by_cases e2 : tx = [83]
  · simp [e2, oi]
  by_cases e3 : tx = [83, 73, 88]
  · simp [e3, oi]
  by_cases e4 : tx = [85]
  · simp [e4, oi]
  by_cases e5 : tx = [88]
  · simp [e5, oi]
  simp [e0, e1, e2, e3, e4, e5, oi]
/-- how many digits an act has, by its sign -/
def digsS (g : Nat) : Option Nat := if g = 98 then some 1 else if g = 101 then some 1 else if g = 102 then some 0 else if g = 103 then some 3 else if g = 108 then some 4 else if g = 117 then some 3 else if g = 118 then some 1 else if g = 119 then some 2 else none
theorem x6_digitsOf {g : Nat} (hg : g < 2147483648) : fX6_digitsOf (n2 g) μ = some (oi (digsS g), 0, μ) := by
  unfold digsS
  simp (disch := first | assumption | omega) only [fX6_digitsOf, l_0, l_1, l_2, l_3, l_4, l_5, l_6, l_7, l_8, l_9, l_10, l_11, l_12, l_15, l_16, l_21, l_24, l_31, l_32, l_40, l_64, l_76, l_80, l_84, l_85, l_99, l_255, l_256, l_680, l_688, l_696, l_704, l_712, l_720, l_728, l_736, l_744, l_752, l_753, l_754, l_755, l_1000, l_2000, l_3000, l_7550, l_1000000, l_41, l_42, l_43, l_45, l_47, l_48, l_56, l_57, l_60, l_61, l_62, l_63, l_73, l_83, l_88, l_97, l_98, l_100, l_101, l_102, l_103, l_104, l_105, l_108, l_111, l_113, l_117, l_118, l_119, l_120, l_65536, n2_31, n2_add, n2_mul, n2_sub, n2_eq, n2_le, n2_lt, n2_div, n2_qz0, n2_qz1, n2_qzb, bn_0, bn_1, bn_t, bn_f, n2_eqm, n2_meq, n2_ltm, n2_mlt, n2_lem, n2_mle, if_true, if_false, qbnd_s, ite_true, ite_false, if_pos, reduceIte, z_n, z_10]
  repeat' split
  all_goals first | rfl | contradiction
theorem digsS_le {g k : Nat} (h : digsS g = some k) : k ≤ 4 := by
  unfold digsS at h
  repeat' split at h
  all_goals first | (cases h; omega) | cases h
/-- where a day's text goes wrong -/
def widS (tx : List Nat) : Nat → Nat → Nat → Option Nat
  | 0, dg, p => if dg = 0 then none else some p
  | n + 1, dg, p => if dg = 0 then (match digsS (tx.getD p 0) with
      | none => some p
      | some k => widS tx n k (p + 1)) else if isd (tx.getD p 0) = true then widS tx n (dg - 1) (p + 1) else some p
theorem x6_wrongInDay (h : TeW I tx) : fX6_wrongInDay 198 (mk I L c t) = some (oi (widS tx tx.length 0 0), 0, mk I L c t) := by
  have h1 := h.1
  have h2 := h.2.1
  have e0 : fX6_wrongInDay 198 (mk I L c t) = fX6_wrongInDay_4 qfu 198 (n2 0) (n2 0) (mk I L c t) := by
    simp (disch := first | assumption | omega) only [fX6_wrongInDay, gX6_wrongInDay, l_0, l_1, l_2, l_3, l_4, l_5, l_6, l_7, l_8, l_9, l_10, l_11, l_12, l_15, l_16, l_21, l_24, l_31, l_32, l_40, l_64, l_76, l_80, l_84, l_85, l_99, l_255, l_256, l_680, l_688, l_696, l_704, l_712, l_720, l_728, l_736, l_744, l_752, l_753, l_754, l_755, l_1000, l_2000, l_3000, l_7550, l_1000000, l_41, l_42, l_43, l_45, l_47, l_48, l_56, l_57, l_60, l_61, l_62, l_63, l_73, l_83, l_88, l_97, l_98, l_100, l_101, l_102, l_103, l_104, l_105, l_108, l_111, l_113, l_117, l_118, l_119, l_120, l_65536, n2_31, n2_add, n2_mul, n2_sub, n2_eq, n2_le, n2_lt, n2_div, n2_qz0, n2_qz1, n2_qzb, bn_0, bn_1, bn_t, bn_f, n2_eqm, n2_meq, n2_ltm, n2_mlt, n2_lem, n2_mle, if_true, if_false, qbnd_s, ite_true, ite_false, if_pos, reduceIte, z_n, z_10, q_198]
  rw [e0]
  refine lp_rk (α := Nat) (fun m k dg => fX6_wrongInDay_4 m 198 (n2 dg) (n2 k) (mk I L c t)) tx.length (fun k dg => dg ≤ 4 ∧ widS tx (tx.length - k) dg k = widS tx tx.length 0 0) (fun r => r = some (oi (widS tx tx.length 0 0), 0, mk I L c t)) (k0 := 0) (Nat.zero_le _) (by omega) 0 ⟨by omega, rfl⟩ (fun m k dg _ hk hi => ?_) (fun m dg hi => ?_)
  · obtain ⟨i1, i2⟩ := hi
    obtain ⟨b1, b2⟩ := h.2.2 k hk
    have hle : ¬ tx.length ≤ k := by omega
    rw [show tx.length - k = (tx.length - (k + 1)) + 1 by omega] at i2
    simp only [widS] at i2
    by_cases e : dg = 0
    · rw [if_pos e] at i2
      have hle2 : dg ≤ 0 := by omega
      cases hd : digsS (tx.getD k 0) with
      | none =>
        left
        rw [hd] at i2
        rw [← i2]
        simp (disch := first | assumption | omega) only [fX6_wrongInDay_4, l_0, l_1, l_2, l_3, l_4, l_5, l_6, l_7, l_8, l_9, l_10, l_11, l_12, l_15, l_16, l_21, l_24, l_31, l_32, l_40, l_64, l_76, l_80, l_84, l_85, l_99, l_255, l_256, l_680, l_688, l_696, l_704, l_712, l_720, l_728, l_736, l_744, l_752, l_753, l_754, l_755, l_1000, l_2000, l_3000, l_7550, l_1000000, l_41, l_42, l_43, l_45, l_47, l_48, l_56, l_57, l_60, l_61, l_62, l_63, l_73, l_83, l_88, l_97, l_98, l_100, l_101, l_102, l_103, l_104, l_105, l_108, l_111, l_113, l_117, l_118, l_119, l_120, l_65536, n2_31, n2_add, n2_mul, n2_sub, n2_eq, n2_le, n2_lt, n2_div, n2_qz0, n2_qz1, n2_qzb, bn_0, bn_1, bn_t, bn_f, n2_eqm, n2_meq, n2_ltm, n2_mlt, n2_lem, n2_mle, if_true, if_false, qbnd_s, ite_true, ite_false, if_pos, reduceIte, z_n, z_10, g198_0, g198_1, h1, hle, ld199, b1, hle2, x6_digitsOf, hd, oi]
      | some k' =>
        right
        rw [hd] at i2
        have := digsS_le hd
        refine ⟨k', ?_, by omega, i2⟩
        simp (disch := first | assumption | omega) only [fX6_wrongInDay_4, l_0, l_1, l_2, l_3, l_4, l_5, l_6, l_7, l_8, l_9, l_10, l_11, l_12, l_15, l_16, l_21, l_24, l_31, l_32, l_40, l_64, l_76, l_80, l_84, l_85, l_99, l_255, l_256, l_680, l_688, l_696, l_704, l_712, l_720, l_728, l_736, l_744, l_752, l_753, l_754, l_755, l_1000, l_2000, l_3000, l_7550, l_1000000, l_41, l_42, l_43, l_45, l_47, l_48, l_56, l_57, l_60, l_61, l_62, l_63, l_73, l_83, l_88, l_97, l_98, l_100, l_101, l_102, l_103, l_104, l_105, l_108, l_111, l_113, l_117, l_118, l_119, l_120, l_65536, n2_31, n2_add, n2_mul, n2_sub, n2_eq, n2_le, n2_lt, n2_div, n2_qz0, n2_qz1, n2_qzb, bn_0, bn_1, bn_t, bn_f, n2_eqm, n2_meq, n2_ltm, n2_mlt, n2_lem, n2_mle, if_true, if_false, qbnd_s, ite_true, ite_false, if_pos, reduceIte, z_n, z_10, g198_0, g198_1, h1, hle, ld199, b1, hle2, x6_digitsOf, hd, oi]
    · rw [if_neg e] at i2
      have hle2 : ¬ dg ≤ 0 := by omega
      rcases bcs (isd (tx.getD k 0)) with hd | hd
      · left
        rw [if_neg (by rw [hd]; simp)] at i2
        rw [← i2]
        simp (disch := first | assumption | omega) only [fX6_wrongInDay_4, l_0, l_1, l_2, l_3, l_4, l_5, l_6, l_7, l_8, l_9, l_10, l_11, l_12, l_15, l_16, l_21, l_24, l_31, l_32, l_40, l_64, l_76, l_80, l_84, l_85, l_99, l_255, l_256, l_680, l_688, l_696, l_704, l_712, l_720, l_728, l_736, l_744, l_752, l_753, l_754, l_755, l_1000, l_2000, l_3000, l_7550, l_1000000, l_41, l_42, l_43, l_45, l_47, l_48, l_56, l_57, l_60, l_61, l_62, l_63, l_73, l_83, l_88, l_97, l_98, l_100, l_101, l_102, l_103, l_104, l_105, l_108, l_111, l_113, l_117, l_118, l_119, l_120, l_65536, n2_31, n2_add, n2_mul, n2_sub, n2_eq, n2_le, n2_lt, n2_div, n2_qz0, n2_qz1, n2_qzb, bn_0, bn_1, bn_t, bn_f, n2_eqm, n2_meq, n2_ltm, n2_mlt, n2_lem, n2_mle, if_true, if_false, qbnd_s, ite_true, ite_false, if_pos, reduceIte, z_n, z_10, g198_0, g198_1, h1, hle, ld199, b1, hle2, x7_isDigit, hd, oi]
      · right
        rw [if_pos hd] at i2
        refine ⟨dg - 1, ?_, by omega, i2⟩
        simp (disch := first | assumption | omega) only [fX6_wrongInDay_4, l_0, l_1, l_2, l_3, l_4, l_5, l_6, l_7, l_8, l_9, l_10, l_11, l_12, l_15, l_16, l_21, l_24, l_31, l_32, l_40, l_64, l_76, l_80, l_84, l_85, l_99, l_255, l_256, l_680, l_688, l_696, l_704, l_712, l_720, l_728, l_736, l_744, l_752, l_753, l_754, l_755, l_1000, l_2000, l_3000, l_7550, l_1000000, l_41, l_42, l_43, l_45, l_47, l_48, l_56, l_57, l_60, l_61, l_62, l_63, l_73, l_83, l_88, l_97, l_98, l_100, l_101, l_102, l_103, l_104, l_105, l_108, l_111, l_113, l_117, l_118, l_119, l_120, l_65536, n2_31, n2_add, n2_mul, n2_sub, n2_eq, n2_le, n2_lt, n2_div, n2_qz0, n2_qz1, n2_qzb, bn_0, bn_1, bn_t, bn_f, n2_eqm, n2_meq, n2_ltm, n2_mlt, n2_lem, n2_mle, if_true, if_false, qbnd_s, ite_true, ite_false, if_pos, reduceIte, z_n, z_10, g198_0, g198_1, h1, hle, ld199, b1, hle2, x7_isDigit, hd, n2_dec, Bool.true_eq_false]
  · obtain ⟨i1, i2⟩ := hi
    rw [Nat.sub_self] at i2
    simp only [widS] at i2
    by_cases e : dg = 0
    · rw [if_pos e] at i2
      rw [← i2]
      have hle2 : dg ≤ 0 := by omega
      simp (disch := first | assumption | omega) only [fX6_wrongInDay_4, l_0, l_1, l_2, l_3, l_4, l_5, l_6, l_7, l_8, l_9, l_10, l_11, l_12, l_15, l_16, l_21, l_24, l_31, l_32, l_40, l_64, l_76, l_80, l_84, l_85, l_99, l_255, l_256, l_680, l_688, l_696, l_704, l_712, l_720, l_728, l_736, l_744, l_752, l_753, l_754, l_755, l_1000, l_2000, l_3000, l_7550, l_1000000, l_41, l_42, l_43, l_45, l_47, l_48, l_56, l_57, l_60, l_61, l_62, l_63, l_73, l_83, l_88, l_97, l_98, l_100, l_101, l_102, l_103, l_104, l_105, l_108, l_111, l_113, l_117, l_118, l_119, l_120, l_65536, n2_31, n2_add, n2_mul, n2_sub, n2_eq, n2_le, n2_lt, n2_div, n2_qz0, n2_qz1, n2_qzb, bn_0, bn_1, bn_t, bn_f, n2_eqm, n2_meq, n2_ltm, n2_mlt, n2_lem, n2_mle, if_true, if_false, qbnd_s, ite_true, ite_false, if_pos, reduceIte, z_n, z_10, g198_1, h1, Nat.le_refl, hle2, oi]
    · rw [if_neg e] at i2
      rw [← i2]
      have hle2 : ¬ dg ≤ 0 := by omega
      simp (disch := first | assumption | omega) only [fX6_wrongInDay_4, l_0, l_1, l_2, l_3, l_4, l_5, l_6, l_7, l_8, l_9, l_10, l_11, l_12, l_15, l_16, l_21, l_24, l_31, l_32, l_40, l_64, l_76, l_80, l_84, l_85, l_99, l_255, l_256, l_680, l_688, l_696, l_704, l_712, l_720, l_728, l_736, l_744, l_752, l_753, l_754, l_755, l_1000, l_2000, l_3000, l_7550, l_1000000, l_41, l_42, l_43, l_45, l_47, l_48, l_56, l_57, l_60, l_61, l_62, l_63, l_73, l_83, l_88, l_97, l_98, l_100, l_101, l_102, l_103, l_104, l_105, l_108, l_111, l_113, l_117, l_118, l_119, l_120, l_65536, n2_31, n2_add, n2_mul, n2_sub, n2_eq, n2_le, n2_lt, n2_div, n2_qz0, n2_qz1, n2_qzb, bn_0, bn_1, bn_t, bn_f, n2_eqm, n2_meq, n2_ltm, n2_mlt, n2_lem, n2_mle, if_true, if_false, qbnd_s, ite_true, ite_false, if_pos, reduceIte, z_n, z_10, g198_1, h1, Nat.le_refl, hle2, oi]
end S7U
/-! what can be undone: object 40, slots 42, 53, .. -/
def hsl (f k : Nat) : Nat := 42 + 11 * ((f + k) % 11)
def HiW (I : Nat → Nat → Int32) (h : List St) : Prop := ∃ f, f < 11 ∧ h.length ≤ 10 ∧ I 40 1 = n2 f ∧ I 40 2 = n2 h.length ∧ ∀ k, k < h.length → R7 I (hsl f k) (h.getD k fun _ _ => 0)
/-- and the next slot is marked -/
def HiM (I : Nat → Nat → Int32) (h : List St) (s : St) : Prop := ∃ f, f < 11 ∧ h.length ≤ 10 ∧ I 40 1 = n2 f ∧ I 40 2 = n2 h.length ∧ (∀ k, k < h.length → R7 I (hsl f k) (h.getD k fun _ _ => 0)) ∧ R7 I (hsl f h.length) s
theorem HiM.w {I : Nat → Nat → Int32} {h : List St} {s : St} (z : HiM I h s) : HiW I h := by
  obtain ⟨f, z1, z2, z3, z4, z5, z6⟩ := z
  exact ⟨f, z1, z2, z3, z4, z5⟩
def pushH (h : List St) (s : St) : List St := if h.length < 10 then h ++ [s] else h.tail ++ [s]
theorem hsl_in : ∀ x, x < 11 → 42 + 11 * x ∈ stl := by decide +kernel
theorem hsl_stl (f k : Nat) : hsl f k ∈ stl := hsl_in _ (Nat.mod_lt _ (by omega))
theorem hsl_ne {f k j : Nat} (hk : k < j) (hj : j ≤ 10) : hsl f k + 11 ≤ hsl f j ∨ hsl f j + 11 ≤ hsl f k := by
  unfold hsl
  omega
theorem hsl_rng (f k : Nat) : 42 ≤ hsl f k ∧ hsl f k + 11 ≤ 163 := by
  unfold hsl
  omega
theorem HiW.fr {I I' : Nat → Nat → Int32} {h : List St} (z : HiW I h) (hf : ∀ b i, 40 ≤ b → b < 163 → I' b i = I b i) : HiW I' h := by
  obtain ⟨f, z1, z2, z3, z4, z5⟩ := z
  refine ⟨f, z1, z2, by rw [hf _ _ (by omega) (by omega)]; exact z3, by rw [hf _ _ (by omega) (by omega)]; exact z4, fun k hk => ?_⟩
  have := hsl_rng f k
  obtain ⟨a1, a2, a3, a4, a5⟩ := z5 k hk
  refine ⟨fun p o hp ho => ?_, fun j o hj ho => ?_, ?_, ?_, ?_⟩
  · rw [hf _ _ (by omega) (by omega)]; exact a1 p o hp ho
  · rw [hf _ _ (by omega) (by omega)]; exact a2 j o hj ho
  · rw [hf _ _ (by omega) (by omega)]; exact a3
  · rw [hf _ _ (by omega) (by omega)]; exact a4
  · rw [hf _ _ (by omega) (by omega)]; exact a5
theorem HiM.fr {I I' : Nat → Nat → Int32} {h : List St} {s : St} (z : HiM I h s) (hf : ∀ b i, 40 ≤ b → b < 163 → I' b i = I b i) : HiM I' h s := by
  obtain ⟨f, z1, z2, z3, z4, z5, z6⟩ := z
  have r : ∀ k s', R7 I (hsl f k) s' → R7 I' (hsl f k) s' := fun k s' q => by
    have := hsl_rng f k
    obtain ⟨a1, a2, a3, a4, a5⟩ := q
    refine ⟨fun p o hp ho => ?_, fun j o hj ho => ?_, ?_, ?_, ?_⟩
    · rw [hf _ _ (by omega) (by omega)]; exact a1 p o hp ho
    · rw [hf _ _ (by omega) (by omega)]; exact a2 j o hj ho
    · rw [hf _ _ (by omega) (by omega)]; exact a3
    · rw [hf _ _ (by omega) (by omega)]; exact a4
    · rw [hf _ _ (by omega) (by omega)]; exact a5
  exact ⟨f, z1, z2, by rw [hf _ _ (by omega) (by omega)]; exact z3, by rw [hf _ _ (by omega) (by omega)]; exact z4, fun k hk => r k _ (z5 k hk), r _ _ z6⟩
section S7V
variable {I : Nat → Nat → Int32} {L : Nat → Nat → Int64} {c t : Nat} {h : List St} {s : St}
theorem rem11 {x : Nat} (hx : x < 1000) : n2 x - n2 x / n2 11 * n2 11 = n2 (x % 11) := by
  rw [n2_div (by omega) (by omega), n2_mul, n2_sub (by omega)]
  congr 1
  omega
theorem x1_mark (hH : HiW I h) (hR : R7 I 3 s) : ∃ I', fX1_mark 40 3 (mk I L c t) = some (n2 0, 0, mk I' L c t) ∧ HiM I' h s ∧ Fr I I' 42 163 := by
  obtain ⟨f, z1, z2, z3, z4, z5⟩ := hH
  have hr := hsl_rng f h.length
  obtain ⟨I', r1, r2, r3⟩ := x5_copy (L := L) (c := c) (t := t) (hsl_stl f h.length) (show 3 ∈ stl by decide) (by omega) hR
  have hf : Fr I I' 42 163 := r3.mono hr.1 hr.2
  refine ⟨I', ?_, ⟨f, z1, z2, by rw [hf _ _ (by omega)]; exact z3, by rw [hf _ _ (by omega)]; exact z4, fun k hk => (z5 k hk).fr r3 ?_, r2⟩, hf⟩
  · have e : 42 + 11 * ((f + h.length) % 11) = hsl f h.length := rfl
    have hm : (f + h.length) % 11 < 11 := Nat.mod_lt _ (by omega)
    have e3 : f + h.length - (f + h.length) / 11 * 11 = (f + h.length) % 11 := by omega
    simp (disch := first | assumption | omega) only [fX1_mark, gX1_mark, l_0, l_1, l_2, l_3, l_4, l_5, l_6, l_7, l_8, l_9, l_10, l_11, l_12, l_15, l_16, l_21, l_24, l_31, l_32, l_40, l_64, l_76, l_80, l_84, l_85, l_99, l_255, l_256, l_680, l_688, l_696, l_704, l_712, l_720, l_728, l_736, l_744, l_752, l_753, l_754, l_755, l_1000, l_2000, l_3000, l_7550, l_1000000, l_41, l_42, l_43, l_45, l_47, l_48, l_56, l_57, l_60, l_61, l_62, l_63, l_73, l_83, l_88, l_97, l_98, l_100, l_101, l_102, l_103, l_104, l_105, l_108, l_111, l_113, l_117, l_118, l_119, l_120, l_65536, n2_31, n2_add, n2_mul, n2_sub, n2_eq, n2_le, n2_lt, n2_div, n2_qz0, n2_qz1, n2_qzb, bn_0, bn_1, bn_t, bn_f, n2_eqm, n2_meq, n2_ltm, n2_mlt, n2_lem, n2_mle, if_true, if_false, qbnd_s, ite_true, ite_false, if_pos, reduceIte, z_n, z_10, q_40, g40_0, g40_1, g40_2, z3, z4, e3, ld41, e, r1, show ¬ ((11 : Nat) = 0) by omega]
  · have := hsl_ne (f := f) hk (by omega)
    omega
theorem x1_commit (hH : HiM I h s) : ∃ I', fX1_commit 40 (mk I L c t) = some (n2 0, 0, mk I' L c t) ∧ HiW I' (pushH h s) ∧ Fr I I' 40 41 := by
  obtain ⟨f, z1, z2, z3, z4, z5, z6⟩ := hH
  unfold pushH
  by_cases hc : h.length < 10
  · have hn : ¬ 10 ≤ h.length := by omega
    have hF : Fr I (upI I 40 2 (n2 (h.length + 1))) 40 41 := .up (by omega) (by omega)
    refine ⟨upI I 40 2 (n2 (h.length + 1)), ?_, ?_, hF⟩
    · simp (disch := first | assumption | omega) only [fX1_commit, gX1_commit, l_0, l_1, l_2, l_3, l_4, l_5, l_6, l_7, l_8, l_9, l_10, l_11, l_12, l_15, l_16, l_21, l_24, l_31, l_32, l_40, l_64, l_76, l_80, l_84, l_85, l_99, l_255, l_256, l_680, l_688, l_696, l_704, l_712, l_720, l_728, l_736, l_744, l_752, l_753, l_754, l_755, l_1000, l_2000, l_3000, l_7550, l_1000000, l_41, l_42, l_43, l_45, l_47, l_48, l_56, l_57, l_60, l_61, l_62, l_63, l_73, l_83, l_88, l_97, l_98, l_100, l_101, l_102, l_103, l_104, l_105, l_108, l_111, l_113, l_117, l_118, l_119, l_120, l_65536, n2_31, n2_add, n2_mul, n2_sub, n2_eq, n2_le, n2_lt, n2_div, n2_qz0, n2_qz1, n2_qzb, bn_0, bn_1, bn_t, bn_f, n2_eqm, n2_meq, n2_ltm, n2_mlt, n2_lem, n2_mle, if_true, if_false, qbnd_s, ite_true, ite_false, if_pos, reduceIte, z_n, z_10, q_40, g40_1, g40_2, z3, z4, u40_2, hn]
    · rw [if_pos hc]
      refine ⟨f, z1, by simp; omega, by rw [upI_ni (by omega)]; exact z3, by rw [upI_eq]; simp, fun k hk => ?_⟩
      have hr := hsl_rng f k
      refine R7.fr ?_ hF (by omega)
      simp only [List.length_append, List.length_cons, List.length_nil] at hk
      by_cases e : k = h.length
      · subst e
        rw [List.getD_eq_getElem?_getD, List.getElem?_append_right (Nat.le_refl _), Nat.sub_self]
        exact z6
      · have hk' : k < h.length := by omega
        rw [List.getD_eq_getElem?_getD, List.getElem?_append_left hk', ← List.getD_eq_getElem?_getD]
        exact z5 k hk'
  · have hn : 10 ≤ h.length := by omega
    have hl : h.length = 10 := by omega
    have hF : Fr I (upI I 40 1 (n2 ((f + 1) % 11))) 40 41 := .up (by omega) (by omega)
    have e3 : f + 1 - (f + 1) / 11 * 11 = (f + 1) % 11 := by omega
    refine ⟨upI I 40 1 (n2 ((f + 1) % 11)), ?_, ?_, hF⟩
    · simp (disch := first | assumption | omega) only [fX1_commit, gX1_commit, l_0, l_1, l_2, l_3, l_4, l_5, l_6, l_7, l_8, l_9, l_10, l_11, l_12, l_15, l_16, l_21, l_24, l_31, l_32, l_40, l_64, l_76, l_80, l_84, l_85, l_99, l_255, l_256, l_680, l_688, l_696, l_704, l_712, l_720, l_728, l_736, l_744, l_752, l_753, l_754, l_755, l_1000, l_2000, l_3000, l_7550, l_1000000, l_41, l_42, l_43, l_45, l_47, l_48, l_56, l_57, l_60, l_61, l_62, l_63, l_73, l_83, l_88, l_97, l_98, l_100, l_101, l_102, l_103, l_104, l_105, l_108, l_111, l_113, l_117, l_118, l_119, l_120, l_65536, n2_31, n2_add, n2_mul, n2_sub, n2_eq, n2_le, n2_lt, n2_div, n2_qz0, n2_qz1, n2_qzb, bn_0, bn_1, bn_t, bn_f, n2_eqm, n2_meq, n2_ltm, n2_mlt, n2_lem, n2_mle, if_true, if_false, qbnd_s, ite_true, ite_false, if_pos, reduceIte, z_n, z_10, q_40, g40_1, g40_2, z3, z4, u40_1, hn, e3, show ¬ ((11 : Nat) = 0) by omega]
    · rw [if_neg hc]
      have ht : (h.tail ++ [s]).length = 10 := by simp; omega
      refine ⟨(f + 1) % 11, Nat.mod_lt _ (by omega), by omega, by rw [upI_eq], by rw [upI_ni (by omega), z4, hl, ht], fun k hk => ?_⟩
      rw [ht] at hk
      have es : hsl ((f + 1) % 11) k = hsl f (k + 1) := by
        unfold hsl
        omega
      rw [es]
      have hr := hsl_rng f (k + 1)
      refine R7.fr ?_ hF (by omega)
      have htl : h.tail.length = 9 := by simp; omega
      by_cases e : k = 9
      · subst e
        rw [List.getD_eq_getElem?_getD, List.getElem?_append_right (by omega), htl, Nat.sub_self]
        rw [show 9 + 1 = h.length by omega]
        exact z6
      · have hk' : k < h.tail.length := by omega
        rw [List.getD_eq_getElem?_getD, List.getElem?_append_left hk', List.getElem?_tail, ← List.getD_eq_getElem?_getD]
        exact z5 (k + 1) (by omega)
theorem x1_back0 (hH : HiW I []) : fX1_back 40 3 (mk I L c t) = some (n2 0, 0, mk I L c t) := by
  obtain ⟨f, z1, z2, z3, z4, z5⟩ := hH
  have hz : n2 ([] : List St).length ≤ (0 : Int32) := by rw [l_0, n2_pos (by simp)]; rfl
  unfold fX1_back
  rw [if_pos (by rw [kk_40])]
  unfold gX1_back
  rw [g40_2, z4, qbnd_s, if_pos hz, l_0]
theorem x1_back (hH : HiW I h) (hn : h ≠ []) {s0 : St} (hR : R7 I 3 s0) : ∃ I', fX1_back 40 3 (mk I L c t) = some (n2 0, 0, mk I' L c t) ∧ HiW I' h.dropLast ∧ R7 I' 3 (h.getD (h.length - 1) fun _ _ => 0) ∧ (∀ b i, b < 3 ∨ 14 ≤ b → b ≠ 40 → I' b i = I b i) := by
  obtain ⟨f, z1, z2, z3, z4, z5⟩ := hH
  have hp : 0 < h.length := List.length_pos_iff.mpr hn
  have hle : ¬ h.length ≤ 0 := by omega
  have hF : Fr I (upI I 40 2 (n2 (h.length - 1))) 40 41 := .up (by omega) (by omega)
  have hr := hsl_rng f (h.length - 1)
  have hq := (z5 (h.length - 1) (by omega)).fr hF (by omega)
  obtain ⟨I', r1, r2, r3⟩ := x5_copy (L := L) (c := c) (t := t) (show 3 ∈ stl by decide) (hsl_stl f (h.length - 1)) (by omega) hq
  refine ⟨I', ?_, ?_, r2, fun b i hb h4 => ?_⟩
  · have e : 42 + 11 * ((f + (h.length - 1)) % 11) = hsl f (h.length - 1) := rfl
    have hm : (f + (h.length - 1)) % 11 < 11 := Nat.mod_lt _ (by omega)
    have e3 : f + (h.length - 1) - (f + (h.length - 1)) / 11 * 11 = (f + (h.length - 1)) % 11 := by omega
    have w1 : upI I 40 2 (n2 (h.length - 1)) 40 1 = n2 f := by rw [upI_ni (by omega)]; exact z3
    have w2 : upI I 40 2 (n2 (h.length - 1)) 40 2 = n2 (h.length - 1) := upI_eq
    have hz : ¬ n2 h.length ≤ (0 : Int32) := by rw [l_0, n2_pos (by omega)]; omega
    unfold fX1_back
    rw [if_pos (by rw [kk_40])]
    unfold gX1_back
    rw [g40_2, z4, qbnd_s, if_neg hz, qbnd_s, l_1, n2_sub (by omega), u40_2, qbnd_s, g40_0, qbnd_s, g40_1, qbnd_s, g40_2, qbnd_s, w1, w2]
    rw [if_neg (by decide +kernel), l_11, n2_add, rem11 (by omega)]
    simp (disch := first | assumption | omega) only [l_0, l_1, l_2, l_3, l_4, l_5, l_6, l_7, l_8, l_9, l_10, l_11, l_12, l_15, l_16, l_21, l_24, l_31, l_32, l_40, l_64, l_76, l_80, l_84, l_85, l_99, l_255, l_256, l_680, l_688, l_696, l_704, l_712, l_720, l_728, l_736, l_744, l_752, l_753, l_754, l_755, l_1000, l_2000, l_3000, l_7550, l_1000000, l_41, l_42, l_43, l_45, l_47, l_48, l_56, l_57, l_60, l_61, l_62, l_63, l_73, l_83, l_88, l_97, l_98, l_100, l_101, l_102, l_103, l_104, l_105, l_108, l_111, l_113, l_117, l_118, l_119, l_120, l_65536, n2_31, n2_add, n2_mul, n2_sub, n2_eq, n2_le, n2_lt, n2_div, n2_qz0, n2_qz1, n2_qzb, bn_0, bn_1, bn_t, bn_f, n2_eqm, n2_meq, n2_ltm, n2_mlt, n2_lem, n2_mle, if_true, if_false, qbnd_s, ite_true, ite_false, if_pos, reduceIte, z_n, z_10, ld41, e, r1]
  · refine ⟨f, z1, by simp; omega, by rw [r3 _ _ (by omega), upI_ni (by omega)]; exact z3, by rw [r3 _ _ (by omega), upI_eq]; simp, fun k hk => ?_⟩
    simp only [List.length_dropLast] at hk
    have hr2 := hsl_rng f k
    have := ((z5 k (by omega)).fr hF (by omega)).fr r3 (by omega)
    rw [List.getD_eq_getElem?_getD, List.getElem?_dropLast, if_pos hk, ← List.getD_eq_getElem?_getD]
    exact this
  · rw [r3 _ _ (by omega), upI_ne h4]
end S7V

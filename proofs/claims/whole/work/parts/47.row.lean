/-! PURE SIDE, THE CLASS: its row, its text -/
def FL (L L' : Nat → Nat → Int64) (a : Nat) : Prop := ∀ b i, b ≠ a → L' b i = L b i
theorem FL.rf (L : Nat → Nat → Int64) (a : Nat) : FL L L a := fun _ _ _ => rfl
theorem FL.trans {L L1 L2 : Nat → Nat → Int64} {a : Nat} (h1 : FL L L1 a) (h2 : FL L1 L2 a) : FL L L2 a := fun b i h => (h2 b i h).trans (h1 b i h)
theorem upL_ne {L : Nat → Nat → Int64} {a i : Nat} {x : Int64} {b j : Nat} (h : b ≠ a) : upL L a i x b j = L b j := by unfold upL; rw [if_neg (fun z => h z.1)]
theorem upL_ni {L : Nat → Nat → Int64} {a i : Nat} {x : Int64} {b j : Nat} (h : j ≠ i) : upL L a i x b j = L b j := by unfold upL; rw [if_neg (fun z => h z.2)]
theorem upL_eq {L : Nat → Nat → Int64} {a i : Nat} {x : Int64} : upL L a i x a i = x := by unfold upL; rw [if_pos ⟨rfl, rfl⟩]
theorem getD_lt {α : Type} {l : List α} {i : Nat} {x d : α} (h : i < l.length) : (l ++ [x]).getD i d = l.getD i d := by
  rw [List.getD_eq_getElem?_getD, List.getD_eq_getElem?_getD, List.getElem?_append_left h]
theorem getD_at {α : Type} {l : List α} {x d : α} : (l ++ [x]).getD l.length d = x := by
  rw [List.getD_eq_getElem?_getD, List.getElem?_append_right (Nat.le_refl _), Nat.sub_self]
  rfl
/-- the row: object 200, numbers in 201 -/
def RoW (I : Nat → Nat → Int32) (L : Nat → Nat → Int64) (l : List Int64) : Prop := I 200 1 = n2 l.length ∧ l.length ≤ 13 ∧ ∀ i, i < l.length → L 201 i = l.getD i 0
section S7N
variable {I : Nat → Nat → Int32} {L : Nat → Nat → Int64} {c t : Nat} {l : List Int64}
theorem x3_add (h : RoW I L l) (hl : l.length < 13) (v : Int64) : ∃ I' L', fX3_add 200 v (mk I L c t) = some (n2 0, 0, mk I' L' c t) ∧ RoW I' L' (l ++ [v]) ∧ Fr I I' 200 201 ∧ FL L L' 201 := by
  obtain ⟨h1, h2, h3⟩ := h
  have h4 : ¬ 13 ≤ l.length := by omega
  refine ⟨upI I 200 1 (n2 (l.length + 1)), upL L 201 l.length v, ?_, ⟨?_, ?_, fun i hi => ?_⟩, Fr.up (by omega) (by omega), fun b i hb => upL_ne hb⟩
  · simp (disch := first | assumption | omega) only [fX3_add, gX3_add, l_0, l_1, l_2, l_3, l_4, l_5, l_6, l_7, l_8, l_9, l_10, l_11, l_12, l_15, l_16, l_21, l_24, l_31, l_32, l_40, l_64, l_76, l_80, l_84, l_85, l_99, l_255, l_256, l_680, l_688, l_696, l_704, l_712, l_720, l_728, l_736, l_744, l_752, l_753, l_754, l_755, l_1000, l_2000, l_3000, l_7550, l_1000000, l_41, l_42, l_43, l_45, l_47, l_48, l_56, l_57, l_60, l_61, l_62, l_63, l_73, l_83, l_88, l_97, l_98, l_100, l_101, l_102, l_103, l_104, l_105, l_108, l_111, l_113, l_117, l_118, l_119, l_120, l_65536, n2_31, n2_add, n2_mul, n2_sub, n2_eq, n2_le, n2_lt, n2_div, n2_qz0, n2_qz1, n2_qzb, bn_0, bn_1, bn_t, bn_f, n2_eqm, n2_meq, n2_ltm, n2_mlt, n2_lem, n2_mle, if_true, if_false, qbnd_s, ite_true, ite_false, if_pos, reduceIte, z_n, z_10, q_200, g200_0, g200_1, u200_1, ln201, sd201, h1, h4]
  · rw [upI_eq, List.length_append]; rfl
  · rw [List.length_append]; show l.length + 1 ≤ 13; omega
  · rw [List.length_append] at hi
    have hi : i < l.length + 1 := hi
    by_cases e : i = l.length
    · rw [e, upL_eq, getD_at]
    · rw [upL_ni e, getD_lt (by omega)]
      exact h3 i (by omega)
theorem row_clr : RoW (upI I 200 1 (n2 0)) L [] := ⟨upI_eq, by simp, fun i hi => absurd hi (Nat.not_lt_zero i)⟩
theorem x3_one (v : Int64) : ∃ I' L', fX3_one 200 v (mk I L c t) = some (n2 0, 0, mk I' L' c t) ∧ RoW I' L' [v] ∧ Fr I I' 200 201 ∧ FL L L' 201 := by
  obtain ⟨I1, L1, r1, r2, r3, r4⟩ := x3_add (c := c) (t := t) (row_clr (I := I) (L := L)) (by simp) v
  refine ⟨I1, L1, ?_, r2, (Fr.up (by omega) (by omega)).trans r3, r4⟩
  simp (disch := first | assumption | omega) only [fX3_one, gX3_one, l_0, l_1, l_2, l_3, l_4, l_5, l_6, l_7, l_8, l_9, l_10, l_11, l_12, l_15, l_16, l_21, l_24, l_31, l_32, l_40, l_64, l_76, l_80, l_84, l_85, l_99, l_255, l_256, l_680, l_688, l_696, l_704, l_712, l_720, l_728, l_736, l_744, l_752, l_753, l_754, l_755, l_1000, l_2000, l_3000, l_7550, l_1000000, l_41, l_42, l_43, l_45, l_47, l_48, l_56, l_57, l_60, l_61, l_62, l_63, l_73, l_83, l_88, l_97, l_98, l_100, l_101, l_102, l_103, l_104, l_105, l_108, l_111, l_113, l_117, l_118, l_119, l_120, l_65536, n2_31, n2_add, n2_mul, n2_sub, n2_eq, n2_le, n2_lt, n2_div, n2_qz0, n2_qz1, n2_qzb, bn_0, bn_1, bn_t, bn_f, n2_eqm, n2_meq, n2_ltm, n2_mlt, n2_lem, n2_mle, if_true, if_false, qbnd_s, ite_true, ite_false, if_pos, reduceIte, z_n, z_10, q_200, u200_1, r1]
theorem x3_two (v w : Int64) : ∃ I' L', fX3_two 200 v w (mk I L c t) = some (n2 0, 0, mk I' L' c t) ∧ RoW I' L' [v, w] ∧ Fr I I' 200 201 ∧ FL L L' 201 := by
  obtain ⟨I1, L1, r1, r2, r3, r4⟩ := x3_add (c := c) (t := t) (row_clr (I := I) (L := L)) (by simp) v
  obtain ⟨I2, L2, q1, q2, q3, q4⟩ := x3_add (c := c) (t := t) r2 (by simp) w
  refine ⟨I2, L2, ?_, q2, ((Fr.up (by omega) (by omega)).trans r3).trans q3, r4.trans q4⟩
  simp (disch := first | assumption | omega) only [fX3_two, gX3_two, l_0, l_1, l_2, l_3, l_4, l_5, l_6, l_7, l_8, l_9, l_10, l_11, l_12, l_15, l_16, l_21, l_24, l_31, l_32, l_40, l_64, l_76, l_80, l_84, l_85, l_99, l_255, l_256, l_680, l_688, l_696, l_704, l_712, l_720, l_728, l_736, l_744, l_752, l_753, l_754, l_755, l_1000, l_2000, l_3000, l_7550, l_1000000, l_41, l_42, l_43, l_45, l_47, l_48, l_56, l_57, l_60, l_61, l_62, l_63, l_73, l_83, l_88, l_97, l_98, l_100, l_101, l_102, l_103, l_104, l_105, l_108, l_111, l_113, l_117, l_118, l_119, l_120, l_65536, n2_31, n2_add, n2_mul, n2_sub, n2_eq, n2_le, n2_lt, n2_div, n2_qz0, n2_qz1, n2_qzb, bn_0, bn_1, bn_t, bn_f, n2_eqm, n2_meq, n2_ltm, n2_mlt, n2_lem, n2_mle, if_true, if_false, qbnd_s, ite_true, ite_false, if_pos, reduceIte, z_n, z_10, q_200, u200_1, r1, q1]
/-- rows of owners -/
def rowO (l : List Nat) : List Int64 := l.map fun o => (n2 o).toInt64
theorem x3_list {a : Nat} {lo : List Nat} (hk : qk (mk I L c t) a = (20, 8)) (ha : a ≠ 200) (hlen : lo.length ≤ 8) (hlo : ∀ i, i < lo.length → I a i = n2 (lo.getD i 0)) : ∃ I' L', fX3_list 200 a (n2 lo.length) (mk I L c t) = some (n2 0, 0, mk I' L' c t) ∧ RoW I' L' (rowO lo) ∧ Fr I I' 200 201 ∧ FL L L' 201 := by
  have hk2 : ∀ (J : Nat → Nat → Int32) (M : Nat → Nat → Int64), qk (mk J M c t) a = (20, 8) := fun J M => hk
  have e0 : fX3_list 200 a (n2 lo.length) (mk I L c t) = fX3_list_5 qfu 200 a (n2 lo.length) (n2 0) (mk (upI I 200 1 (n2 0)) L c t) := by
    simp (disch := first | assumption | omega) only [fX3_list, gX3_list, l_0, l_1, l_2, l_3, l_4, l_5, l_6, l_7, l_8, l_9, l_10, l_11, l_12, l_15, l_16, l_21, l_24, l_31, l_32, l_40, l_64, l_76, l_80, l_84, l_85, l_99, l_255, l_256, l_680, l_688, l_696, l_704, l_712, l_720, l_728, l_736, l_744, l_752, l_753, l_754, l_755, l_1000, l_2000, l_3000, l_7550, l_1000000, l_41, l_42, l_43, l_45, l_47, l_48, l_56, l_57, l_60, l_61, l_62, l_63, l_73, l_83, l_88, l_97, l_98, l_100, l_101, l_102, l_103, l_104, l_105, l_108, l_111, l_113, l_117, l_118, l_119, l_120, l_65536, n2_31, n2_add, n2_mul, n2_sub, n2_eq, n2_le, n2_lt, n2_div, n2_qz0, n2_qz1, n2_qzb, bn_0, bn_1, bn_t, bn_f, n2_eqm, n2_meq, n2_ltm, n2_mlt, n2_lem, n2_mle, if_true, if_false, qbnd_s, ite_true, ite_false, if_pos, reduceIte, z_n, z_10, q_200, u200_1]
  rw [e0]
  refine lp_rk (α := (Nat → Nat → Int32) × (Nat → Nat → Int64)) (fun m k z => fX3_list_5 m 200 a (n2 lo.length) (n2 k) (mk z.1 z.2 c t)) lo.length (fun k z => RoW z.1 z.2 (rowO (lo.take k)) ∧ Fr I z.1 200 201 ∧ FL L z.2 201) (fun r => ∃ I' L', r = some (n2 0, 0, mk I' L' c t) ∧ RoW I' L' (rowO lo) ∧ Fr I I' 200 201 ∧ FL L L' 201) (k0 := 0) (Nat.zero_le _) (by omega) (upI I 200 1 (n2 0), L) ⟨row_clr, Fr.up (by omega) (by omega), FL.rf _ _⟩ (fun m k z _ hkk hi => Or.inr ?_) (fun m z hi => ?_)
  · obtain ⟨J, M⟩ := z
    obtain ⟨i1, i2, i3⟩ := hi
    dsimp only at i1 i2 i3
    have hln : (rowO (lo.take k)).length = k := by simp [rowO]; omega
    obtain ⟨J2, M2, r1, r2, r3, r4⟩ := x3_add (c := c) (t := t) i1 (by omega) (n2 (lo.getD k 0)).toInt64
    have hr : rowO (lo.take k) ++ [(n2 (lo.getD k 0)).toInt64] = rowO (lo.take (k + 1)) := by
      unfold rowO
      rw [List.take_add_one, List.map_append, List.getElem?_eq_getElem hkk, List.getD_eq_getElem?_getD, List.getElem?_eq_getElem hkk]
      rfl
    rw [hr] at r2
    have h5 : ¬ lo.length ≤ k := by omega
    have h6 : ¬ 8 ≤ k := by omega
    have hv : J a k = n2 (lo.getD k 0) := by rw [i2 _ _ (by omega)]; exact hlo k hkk
    refine ⟨(J2, M2), ?_, r2, i2.trans r3, i3.trans r4⟩
    simp (disch := first | assumption | omega) only [fX3_list_5, l_0, l_1, l_2, l_3, l_4, l_5, l_6, l_7, l_8, l_9, l_10, l_11, l_12, l_15, l_16, l_21, l_24, l_31, l_32, l_40, l_64, l_76, l_80, l_84, l_85, l_99, l_255, l_256, l_680, l_688, l_696, l_704, l_712, l_720, l_728, l_736, l_744, l_752, l_753, l_754, l_755, l_1000, l_2000, l_3000, l_7550, l_1000000, l_41, l_42, l_43, l_45, l_47, l_48, l_56, l_57, l_60, l_61, l_62, l_63, l_73, l_83, l_88, l_97, l_98, l_100, l_101, l_102, l_103, l_104, l_105, l_108, l_111, l_113, l_117, l_118, l_119, l_120, l_65536, n2_31, n2_add, n2_mul, n2_sub, n2_eq, n2_le, n2_lt, n2_div, n2_qz0, n2_qz1, n2_qzb, bn_0, bn_1, bn_t, bn_f, n2_eqm, n2_meq, n2_ltm, n2_mlt, n2_lem, n2_mle, if_true, if_false, qbnd_s, ite_true, ite_false, if_pos, reduceIte, z_n, z_10, h5, oLen_mk (hk2 J M) (by omega), h6, oLdI_mk (hk2 J M) (by omega) (show k < 8 by omega), hv, r1]
  · obtain ⟨J, M⟩ := z
    obtain ⟨i1, i2, i3⟩ := hi
    dsimp only at i1 i2 i3
    rw [List.take_length] at i1
    refine ⟨J, M, ?_, i1, i2, i3⟩
    simp (disch := first | assumption | omega) only [fX3_list_5, l_0, l_1, l_2, l_3, l_4, l_5, l_6, l_7, l_8, l_9, l_10, l_11, l_12, l_15, l_16, l_21, l_24, l_31, l_32, l_40, l_64, l_76, l_80, l_84, l_85, l_99, l_255, l_256, l_680, l_688, l_696, l_704, l_712, l_720, l_728, l_736, l_744, l_752, l_753, l_754, l_755, l_1000, l_2000, l_3000, l_7550, l_1000000, l_41, l_42, l_43, l_45, l_47, l_48, l_56, l_57, l_60, l_61, l_62, l_63, l_73, l_83, l_88, l_97, l_98, l_100, l_101, l_102, l_103, l_104, l_105, l_108, l_111, l_113, l_117, l_118, l_119, l_120, l_65536, n2_31, n2_add, n2_mul, n2_sub, n2_eq, n2_le, n2_lt, n2_div, n2_qz0, n2_qz1, n2_qzb, bn_0, bn_1, bn_t, bn_f, n2_eqm, n2_meq, n2_ltm, n2_mlt, n2_lem, n2_mle, if_true, if_false, qbnd_s, ite_true, ite_false, if_pos, reduceIte, z_n, z_10, Nat.le_refl]
end S7N
/-! the text: object 198, signs in 199 -/
def TeW (I : Nat → Nat → Int32) (tx : List Nat) : Prop := I 198 1 = n2 tx.length ∧ tx.length ≤ 80 ∧ ∀ i, i < tx.length → I 199 i = n2 (tx.getD i 0) ∧ tx.getD i 0 < 256
def sgv (v : Int32) (k : Nat) : Nat := (qush v (n2 (24 - 8 * k)) &&& n2 255).toNatClampNeg
theorem and255 (x : Int32) : ∃ k, k < 256 ∧ x &&& n2 255 = n2 k := by
  refine ⟨(x.toBitVec &&& 255#32).toNat, ?_, ?_⟩
  · rw [BitVec.toNat_and]
    exact Nat.lt_of_le_of_lt Nat.and_le_right (by decide)
  · apply Int32.toBitVec_inj.1
    rw [Int32.toBitVec_and, n2_bv, n2_bv, BitVec.ofNat_toNat, BitVec.setWidth_eq]
theorem sgv_ok (v : Int32) (k : Nat) : sgv v k < 256 ∧ qush v (n2 (24 - 8 * k)) &&& n2 255 = n2 (sgv v k) := by
  obtain ⟨j, h1, h2⟩ := and255 (qush v (n2 (24 - 8 * k)))
  unfold sgv
  rw [h2, n2_cl (by omega)]
  exact ⟨h1, rfl⟩
theorem chr_ok : ∀ k, k < 256 → qnc ((n2 k).toUInt32 % 65536).toInt32 = n2 k := by decide +kernel
theorem n2_decb {a b : Nat} (h : b ≤ a) : n2 a + -n2 b = n2 (a - b) := by
  rw [← n2_sub h, Int32.sub_eq_add_neg]
theorem m8_neg : (-n2 8 < n2 0) = True := eq_true (by decide +kernel)
theorem m8_add : n2 0 + -n2 8 = -n2 8 := by decide +kernel
section S7T
variable {I : Nat → Nat → Int32} {L : Nat → Nat → Int64} {c t : Nat} {tx : List Nat}
theorem text_add (h : TeW I tx) (hl : tx.length < 80) {k : Nat} (hk : k < 256) : TeW (upI (upI I 199 tx.length (n2 k)) 198 1 (n2 (tx.length + 1))) (tx ++ [k]) := by
  obtain ⟨h1, h2, h3⟩ := h
  refine ⟨by rw [upI_eq, List.length_append]; rfl, by rw [List.length_append]; show tx.length + 1 ≤ 80; omega, fun i hi => ?_⟩
  rw [List.length_append] at hi
  have hi : i < tx.length + 1 := hi
  rw [upI_ne (by omega)]
  by_cases e : i = tx.length
  · rw [e, upI_eq, getD_at]
    exact ⟨rfl, hk⟩
  · rw [upI_ni e, getD_lt (by omega)]
    exact h3 i (by omega)
theorem x6_addFour (h : TeW I tx) (v : Int32) : ∃ I', fX6_addFour 198 v (mk I L c t) = some (if tx.length ≤ 76 then n2 (tx.length + 4) else -n2 1, 0, mk I' L c t) ∧ TeW I' (if tx.length ≤ 76 then tx ++ [sgv v 0, sgv v 1, sgv v 2, sgv v 3] else tx) ∧ Fr I I' 198 200 := by
  have h1 := h.1
  have h2 := h.2.1
  by_cases e : tx.length ≤ 76
  · rw [if_pos e, if_pos e]
    have s0 := sgv_ok v 0
    have s1 := sgv_ok v 1
    have s2 := sgv_ok v 2
    have s3 := sgv_ok v 3
    have t0 := text_add h (by omega) s0.1
    have t1 := text_add t0 (by simp; omega) s1.1
    have t2 := text_add t1 (by simp; omega) s2.1
    have t3 := text_add t2 (by simp; omega) s3.1
    obtain ⟨m, hm⟩ : ∃ m, qfu = m + 1 + 1 + 1 + 1 + 1 := ⟨9995, by rw [qfu_eq]⟩
    simp only [List.append_assoc, List.length_append, List.length_cons, List.length_nil, List.cons_append, List.nil_append, Nat.zero_add, Nat.add_assoc, Nat.reduceAdd] at t3
    refine ⟨_, ?_, t3, ?_⟩
    · simp only [Nat.reduceMul, Nat.reduceSub, Nat.mul_zero, Nat.sub_zero, Nat.mul_one] at s0 s1 s2 s3
      simp (disch := first | assumption | omega) only [fX6_addFour, gX6_addFour, hm, fX6_addFour_8, l_0, l_1, l_2, l_3, l_4, l_5, l_6, l_7, l_8, l_9, l_10, l_11, l_12, l_15, l_16, l_21, l_24, l_31, l_32, l_40, l_64, l_76, l_80, l_84, l_85, l_99, l_255, l_256, l_680, l_688, l_696, l_704, l_712, l_720, l_728, l_736, l_744, l_752, l_753, l_754, l_755, l_1000, l_2000, l_3000, l_7550, l_1000000, l_41, l_42, l_43, l_45, l_47, l_48, l_56, l_57, l_60, l_61, l_62, l_63, l_73, l_83, l_88, l_97, l_98, l_100, l_101, l_102, l_103, l_104, l_105, l_108, l_111, l_113, l_117, l_118, l_119, l_120, l_65536, n2_31, n2_add, n2_mul, n2_sub, n2_eq, n2_le, n2_lt, n2_div, n2_qz0, n2_qz1, n2_qzb, bn_0, bn_1, bn_t, bn_f, n2_eqm, n2_meq, n2_ltm, n2_mlt, n2_lem, n2_mle, if_true, if_false, qbnd_s, ite_true, ite_false, if_pos, reduceIte, z_n, z_10, l_76, l_24, l_255, q_198, g198_0, g198_1, u198_1, sd199, h1, e, upI_ne, upI_eq, s0.2, s1.2, s2.2, s3.2, chr_ok _ s0.1, chr_ok _ s1.1, chr_ok _ s2.1, chr_ok _ s3.1, n2_decb, Nat.reduceSub, n2_nn, m8_add, m8_neg, Nat.add_assoc, Nat.reduceAdd]
    · exact ((((((((Fr.up (by omega) (by omega)).trans (Fr.up (by omega) (by omega))).trans (Fr.up (by omega) (by omega))).trans (Fr.up (by omega) (by omega))).trans (Fr.up (by omega) (by omega))).trans (Fr.up (by omega) (by omega))).trans (Fr.up (by omega) (by omega))).trans (Fr.up (by omega) (by omega)))
  · rw [if_neg e, if_neg e]
    refine ⟨I, ?_, h, Fr.rf _ _ _⟩
    simp (disch := first | assumption | omega) only [fX6_addFour, gX6_addFour, l_0, l_1, l_2, l_3, l_4, l_5, l_6, l_7, l_8, l_9, l_10, l_11, l_12, l_15, l_16, l_21, l_24, l_31, l_32, l_40, l_64, l_76, l_80, l_84, l_85, l_99, l_255, l_256, l_680, l_688, l_696, l_704, l_712, l_720, l_728, l_736, l_744, l_752, l_753, l_754, l_755, l_1000, l_2000, l_3000, l_7550, l_1000000, l_41, l_42, l_43, l_45, l_47, l_48, l_56, l_57, l_60, l_61, l_62, l_63, l_73, l_83, l_88, l_97, l_98, l_100, l_101, l_102, l_103, l_104, l_105, l_108, l_111, l_113, l_117, l_118, l_119, l_120, l_65536, n2_31, n2_add, n2_mul, n2_sub, n2_eq, n2_le, n2_lt, n2_div, n2_qz0, n2_qz1, n2_qzb, bn_0, bn_1, bn_t, bn_f, n2_eqm, n2_meq, n2_ltm, n2_mlt, n2_lem, n2_mle, if_true, if_false, qbnd_s, ite_true, ite_false, if_pos, reduceIte, z_n, z_10, q_198, g198_1, h1, e]
theorem x6_at (h : TeW I tx) {p : Nat} (hp : p < 2147483648) : fX6_at 198 (n2 p) (mk I L c t) = some (n2 (tx.getD p 0), 0, mk I L c t) := by
  have h1 := h.1
  have h2 := h.2.1
  by_cases e : tx.length ≤ p
  · have : tx.getD p 0 = 0 := by rw [List.getD_eq_getElem?_getD, List.getElem?_eq_none e]; rfl
    rw [this]
    simp (disch := first | assumption | omega) only [fX6_at, gX6_at, l_0, l_1, l_2, l_3, l_4, l_5, l_6, l_7, l_8, l_9, l_10, l_11, l_12, l_15, l_16, l_21, l_24, l_31, l_32, l_40, l_64, l_76, l_80, l_84, l_85, l_99, l_255, l_256, l_680, l_688, l_696, l_704, l_712, l_720, l_728, l_736, l_744, l_752, l_753, l_754, l_755, l_1000, l_2000, l_3000, l_7550, l_1000000, l_41, l_42, l_43, l_45, l_47, l_48, l_56, l_57, l_60, l_61, l_62, l_63, l_73, l_83, l_88, l_97, l_98, l_100, l_101, l_102, l_103, l_104, l_105, l_108, l_111, l_113, l_117, l_118, l_119, l_120, l_65536, n2_31, n2_add, n2_mul, n2_sub, n2_eq, n2_le, n2_lt, n2_div, n2_qz0, n2_qz1, n2_qzb, bn_0, bn_1, bn_t, bn_f, n2_eqm, n2_meq, n2_ltm, n2_mlt, n2_lem, n2_mle, if_true, if_false, qbnd_s, ite_true, ite_false, if_pos, reduceIte, z_n, z_10, q_198, g198_1, h1, e, n2_nn]
  · simp (disch := first | assumption | omega) only [fX6_at, gX6_at, l_0, l_1, l_2, l_3, l_4, l_5, l_6, l_7, l_8, l_9, l_10, l_11, l_12, l_15, l_16, l_21, l_24, l_31, l_32, l_40, l_64, l_76, l_80, l_84, l_85, l_99, l_255, l_256, l_680, l_688, l_696, l_704, l_712, l_720, l_728, l_736, l_744, l_752, l_753, l_754, l_755, l_1000, l_2000, l_3000, l_7550, l_1000000, l_41, l_42, l_43, l_45, l_47, l_48, l_56, l_57, l_60, l_61, l_62, l_63, l_73, l_83, l_88, l_97, l_98, l_100, l_101, l_102, l_103, l_104, l_105, l_108, l_111, l_113, l_117, l_118, l_119, l_120, l_65536, n2_31, n2_add, n2_mul, n2_sub, n2_eq, n2_le, n2_lt, n2_div, n2_qz0, n2_qz1, n2_qzb, bn_0, bn_1, bn_t, bn_f, n2_eqm, n2_meq, n2_ltm, n2_mlt, n2_lem, n2_mle, if_true, if_false, qbnd_s, ite_true, ite_false, if_pos, reduceIte, z_n, z_10, q_198, g198_0, g198_1, h1, e, n2_nn, ld199, (h.2.2 p (by omega)).1]
def isd (g : Nat) : Bool := decide (48 ≤ g) && decide (g ≤ 57)
def digN (tx : List Nat) (p : Nat) : Nat := if isd (tx.getD p 0) = true then tx.getD p 0 - 48 else 0
theorem x7_isDigit {μ : qM} {g : Nat} (hg : g < 2147483648) : fX7_isDigit (n2 g) μ = some (n2 (bn (isd g)), 0, μ) := by
  unfold isd
  by_cases e1 : g < 48
  · have : ¬ 48 ≤ g := by omega
    simp (disch := first | assumption | omega) only [fX7_isDigit, l_0, l_1, l_2, l_3, l_4, l_5, l_6, l_7, l_8, l_9, l_10, l_11, l_12, l_15, l_16, l_21, l_24, l_31, l_32, l_40, l_64, l_76, l_80, l_84, l_85, l_99, l_255, l_256, l_680, l_688, l_696, l_704, l_712, l_720, l_728, l_736, l_744, l_752, l_753, l_754, l_755, l_1000, l_2000, l_3000, l_7550, l_1000000, l_41, l_42, l_43, l_45, l_47, l_48, l_56, l_57, l_60, l_61, l_62, l_63, l_73, l_83, l_88, l_97, l_98, l_100, l_101, l_102, l_103, l_104, l_105, l_108, l_111, l_113, l_117, l_118, l_119, l_120, l_65536, n2_31, n2_add, n2_mul, n2_sub, n2_eq, n2_le, n2_lt, n2_div, n2_qz0, n2_qz1, n2_qzb, bn_0, bn_1, bn_t, bn_f, n2_eqm, n2_meq, n2_ltm, n2_mlt, n2_lem, n2_mle, if_true, if_false, qbnd_s, ite_true, ite_false, if_pos, reduceIte, z_n, z_10, e1, this, decide_false, Bool.false_and]
  · by_cases e2 : 57 < g
    · have h1 : 48 ≤ g := by omega
      have h2 : ¬ g ≤ 57 := by omega
      simp (disch := first | assumption | omega) only [fX7_isDigit, l_0, l_1, l_2, l_3, l_4, l_5, l_6, l_7, l_8, l_9, l_10, l_11, l_12, l_15, l_16, l_21, l_24, l_31, l_32, l_40, l_64, l_76, l_80, l_84, l_85, l_99, l_255, l_256, l_680, l_688, l_696, l_704, l_712, l_720, l_728, l_736, l_744, l_752, l_753, l_754, l_755, l_1000, l_2000, l_3000, l_7550, l_1000000, l_41, l_42, l_43, l_45, l_47, l_48, l_56, l_57, l_60, l_61, l_62, l_63, l_73, l_83, l_88, l_97, l_98, l_100, l_101, l_102, l_103, l_104, l_105, l_108, l_111, l_113, l_117, l_118, l_119, l_120, l_65536, n2_31, n2_add, n2_mul, n2_sub, n2_eq, n2_le, n2_lt, n2_div, n2_qz0, n2_qz1, n2_qzb, bn_0, bn_1, bn_t, bn_f, n2_eqm, n2_meq, n2_ltm, n2_mlt, n2_lem, n2_mle, if_true, if_false, qbnd_s, ite_true, ite_false, if_pos, reduceIte, z_n, z_10, e1, e2, h1, h2, decide_false, decide_true, Bool.and_false]
    · have h1 : 48 ≤ g := by omega
      have h2 : g ≤ 57 := by omega
      simp (disch := first | assumption | omega) only [fX7_isDigit, l_0, l_1, l_2, l_3, l_4, l_5, l_6, l_7, l_8, l_9, l_10, l_11, l_12, l_15, l_16, l_21, l_24, l_31, l_32, l_40, l_64, l_76, l_80, l_84, l_85, l_99, l_255, l_256, l_680, l_688, l_696, l_704, l_712, l_720, l_728, l_736, l_744, l_752, l_753, l_754, l_755, l_1000, l_2000, l_3000, l_7550, l_1000000, l_41, l_42, l_43, l_45, l_47, l_48, l_56, l_57, l_60, l_61, l_62, l_63, l_73, l_83, l_88, l_97, l_98, l_100, l_101, l_102, l_103, l_104, l_105, l_108, l_111, l_113, l_117, l_118, l_119, l_120, l_65536, n2_31, n2_add, n2_mul, n2_sub, n2_eq, n2_le, n2_lt, n2_div, n2_qz0, n2_qz1, n2_qzb, bn_0, bn_1, bn_t, bn_f, n2_eqm, n2_meq, n2_ltm, n2_mlt, n2_lem, n2_mle, if_true, if_false, qbnd_s, ite_true, ite_false, if_pos, reduceIte, z_n, z_10, e1, e2, h1, h2, decide_true, Bool.and_true]
theorem tx_lt (h : TeW I tx) (p : Nat) : tx.getD p 0 < 256 := by
  by_cases e : p < tx.length
  · exact (h.2.2 p e).2
  · have : tx.getD p 0 = 0 := by rw [List.getD_eq_getElem?_getD, List.getElem?_eq_none (by omega)]; rfl
    omega
theorem x6_digit (h : TeW I tx) {p : Nat} (hp : p < 2147483648) : fX6_digit 198 (n2 p) (mk I L c t) = some (n2 (digN tx p), 0, mk I L c t) := by
  have h2 := tx_lt h p
  unfold digN
  rcases bcs (isd (tx.getD p 0)) with e | e
  · simp (disch := first | assumption | omega) only [fX6_digit, gX6_digit, l_0, l_1, l_2, l_3, l_4, l_5, l_6, l_7, l_8, l_9, l_10, l_11, l_12, l_15, l_16, l_21, l_24, l_31, l_32, l_40, l_64, l_76, l_80, l_84, l_85, l_99, l_255, l_256, l_680, l_688, l_696, l_704, l_712, l_720, l_728, l_736, l_744, l_752, l_753, l_754, l_755, l_1000, l_2000, l_3000, l_7550, l_1000000, l_41, l_42, l_43, l_45, l_47, l_48, l_56, l_57, l_60, l_61, l_62, l_63, l_73, l_83, l_88, l_97, l_98, l_100, l_101, l_102, l_103, l_104, l_105, l_108, l_111, l_113, l_117, l_118, l_119, l_120, l_65536, n2_31, n2_add, n2_mul, n2_sub, n2_eq, n2_le, n2_lt, n2_div, n2_qz0, n2_qz1, n2_qzb, bn_0, bn_1, bn_t, bn_f, n2_eqm, n2_meq, n2_ltm, n2_mlt, n2_lem, n2_mle, if_true, if_false, qbnd_s, ite_true, ite_false, if_pos, reduceIte, z_n, z_10, q_198, x6_at h hp, x7_isDigit, e, Bool.false_eq_true]
  · have h4 : 48 ≤ tx.getD p 0 := by
      unfold isd at e
      simp at e
      exact e.1
    simp (disch := first | assumption | omega) only [fX6_digit, gX6_digit, l_0, l_1, l_2, l_3, l_4, l_5, l_6, l_7, l_8, l_9, l_10, l_11, l_12, l_15, l_16, l_21, l_24, l_31, l_32, l_40, l_64, l_76, l_80, l_84, l_85, l_99, l_255, l_256, l_680, l_688, l_696, l_704, l_712, l_720, l_728, l_736, l_744, l_752, l_753, l_754, l_755, l_1000, l_2000, l_3000, l_7550, l_1000000, l_41, l_42, l_43, l_45, l_47, l_48, l_56, l_57, l_60, l_61, l_62, l_63, l_73, l_83, l_88, l_97, l_98, l_100, l_101, l_102, l_103, l_104, l_105, l_108, l_111, l_113, l_117, l_118, l_119, l_120, l_65536, n2_31, n2_add, n2_mul, n2_sub, n2_eq, n2_le, n2_lt, n2_div, n2_qz0, n2_qz1, n2_qzb, bn_0, bn_1, bn_t, bn_f, n2_eqm, n2_meq, n2_ltm, n2_mlt, n2_lem, n2_mle, if_true, if_false, qbnd_s, ite_true, ite_false, if_pos, reduceIte, z_n, z_10, q_198, x6_at h hp, x7_isDigit, e, Bool.true_eq_false]
end S7T

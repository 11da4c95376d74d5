/-! PURE SIDE: who waits for whom, and rings -/
theorem z_10 : ((1 : Nat) = 0) = False := by simp
theorem bits8_tb (P : Nat → Bool) (i : Nat) : (bits8 P).testBit i = (decide (i < 8) && P i) := by
  by_cases h : i < 8
  · have h1 := bits8_bit P h
    rw [Nat.testBit, Nat.and_comm, h1]
    cases P i <;> simp [h, bn]
  · have h1 := bits8_lt P
    have h2 : (bits8 P).testBit i = false := Nat.testBit_lt_two_pow (Nat.lt_of_lt_of_le h1 (Nat.pow_le_pow_right (n := 2) (i := 8) (by omega) (by omega)))
    simp [h, h2]
theorem bits8_or (P Q : Nat → Bool) : bits8 P ||| bits8 Q = bits8 fun j => P j || Q j := by
  apply Nat.eq_of_testBit_eq
  intro i
  rw [Nat.testBit_or, bits8_tb, bits8_tb, bits8_tb]
  cases decide (i < 8) <;> simp
theorem bits8_and1 (P : Nat → Bool) {k : Nat} (hk : k < 8) : bits8 P &&& (1 <<< k) = if P k = true then 1 <<< k else 0 := by
  apply Nat.eq_of_testBit_eq
  intro i
  rw [Nat.testBit_and, bits8_tb, Nat.one_shiftLeft, Nat.testBit_two_pow]
  by_cases e : k = i
  · subst e
    rcases bcs (P k) with h | h
    · simp [h]
    · rw [if_pos h, Nat.testBit_two_pow]
      simp [h, hk]
  · rcases bcs (P k) with h | h
    · simp [h, e]
    · rw [if_pos h, Nat.testBit_two_pow]
      simp [e]
/-- the closure, by the owners that stand between -/
def wsh (s : St) : Nat → Nat → Nat → Bool
  | 0, o, j => wfr s o j
  | k + 1, o, j => wsh s k o j || (wsh s k o k && wsh s k k j)
def rch (s : St) (o j : Nat) : Bool := wsh s 8 o j
theorem wsh_self (s : St) (k j : Nat) : wsh s (k + 1) k j = wsh s k k j := by
  simp only [wsh]
  cases wsh s k k k <;> cases wsh s k k j <;> rfl
def wtr (s : St) (i : Nat) : Nat := (List.range 8).foldl (fun n o => n + bn (wfr s o i)) 0
theorem wtr_le (s : St) (i : Nat) : wtr s i ≤ 8 := by
  unfold wtr
  rw [cnt_fold (List.range 8) (fun o => wfr s o i), Nat.zero_add]
  exact List.countP_le_length
def LW (I : Nat → Nat → Int32) (d : Nat) (s : St) : Prop := (∀ o, o < 8 → I (d + 13) o = n2 (bits8 (wfr s o))) ∧ ∀ o, o < 8 → I (d + 14) o = n2 (bits8 (rch s o))
section S7L
variable {I : Nat → Nat → Int32} {L : Nat → Nat → Int64} {c t d : Nat} {s : St}
theorem x2_read (hd : d ∈ dkl) (hR : R7 I (d + 1) s) (hB : Bd s) : ∃ I', fX2_read (d + 12) (d + 1) (mk I L c t) = some (n2 0, 0, mk I' L c t) ∧ LW I' d s ∧ Fr I I' (d + 12) (d + 17) := by
  have ha := dk_st hd
  simp (disch := first | assumption | omega) only [fX2_read, gX2_read, l_0, l_1, l_2, l_3, l_4, l_5, l_6, l_7, l_8, l_9, l_10, l_11, l_12, l_15, l_16, l_21, l_24, l_31, l_32, l_40, l_64, l_76, l_80, l_84, l_85, l_99, l_255, l_256, l_680, l_688, l_696, l_704, l_712, l_720, l_728, l_736, l_744, l_752, l_753, l_754, l_755, l_1000, l_2000, l_3000, l_7550, l_1000000, l_41, l_42, l_43, l_45, l_47, l_48, l_56, l_57, l_60, l_61, l_62, l_63, l_73, l_83, l_88, l_97, l_98, l_100, l_101, l_102, l_103, l_104, l_105, l_108, l_111, l_113, l_117, l_118, l_119, l_120, l_65536, n2_31, n2_add, n2_mul, n2_sub, n2_eq, n2_le, n2_lt, n2_div, n2_qz0, n2_qz1, n2_qzb, bn_0, bn_1, bn_t, bn_f, n2_eqm, n2_meq, n2_ltm, n2_mlt, n2_lem, n2_mle, if_true, if_false, qbnd_s, ite_true, ite_false, if_pos, reduceIte, dk_q, lk_q, dk_P0, dk_P1, dk_P2, dk_P3, dk_I4, dk_U4, dk_gL, dk_gS, dk_dL, dk_dS, lk_P0, lk_L0, lk_S0, lk_P1, lk_L1, lk_S1, lk_P2, lk_L2, lk_S2, lk_P3, lk_L3, lk_S3]
  refine lp_rk (α := Nat → Nat → Int32) (fun m k J => fX2_read_2 m (d + 12) (d + 1) (n2 k) (mk J L c t)) 8 (fun k J => (∀ o, o < k → J (d + 13) o = n2 (bits8 (wfr s o)) ∧ J (d + 14) o = n2 (bits8 (wfr s o))) ∧ Fr I J (d + 12) (d + 17)) (fun r => ∃ I', r = some (n2 0, 0, mk I' L c t) ∧ LW I' d s ∧ Fr I I' (d + 12) (d + 17)) (k0 := 0) (by omega) (by omega) I ⟨fun o ho => by omega, Fr.rf _ _ _⟩ (fun m k J _ hk hi => Or.inr ?_) (fun m J hi => ?_)
  · obtain ⟨i1, i2⟩ := hi
    have hRJ := hR.fr i2 (by omega)
    refine ⟨upI (upI J (d + 13) k (n2 (bits8 (wfr s k)))) (d + 14) k (n2 (bits8 (wfr s k))), ?_, fun o ho => ?_, (i2.trans (Fr.up (by omega) (by omega))).trans (Fr.up (by omega) (by omega))⟩
    · simp (disch := first | assumption | omega) only [fX2_read_2, l_0, l_1, l_2, l_3, l_4, l_5, l_6, l_7, l_8, l_9, l_10, l_11, l_12, l_15, l_16, l_21, l_24, l_31, l_32, l_40, l_64, l_76, l_80, l_84, l_85, l_99, l_255, l_256, l_680, l_688, l_696, l_704, l_712, l_720, l_728, l_736, l_744, l_752, l_753, l_754, l_755, l_1000, l_2000, l_3000, l_7550, l_1000000, l_41, l_42, l_43, l_45, l_47, l_48, l_56, l_57, l_60, l_61, l_62, l_63, l_73, l_83, l_88, l_97, l_98, l_100, l_101, l_102, l_103, l_104, l_105, l_108, l_111, l_113, l_117, l_118, l_119, l_120, l_65536, n2_31, n2_add, n2_mul, n2_sub, n2_eq, n2_le, n2_lt, n2_div, n2_qz0, n2_qz1, n2_qzb, bn_0, bn_1, bn_t, bn_f, n2_eqm, n2_meq, n2_ltm, n2_mlt, n2_lem, n2_mle, if_true, if_false, qbnd_s, ite_true, ite_false, if_pos, reduceIte, dk_q, lk_q, dk_P0, dk_P1, dk_P2, dk_P3, dk_I4, dk_U4, dk_gL, dk_gS, dk_dL, dk_dS, lk_P0, lk_L0, lk_S0, lk_P1, lk_L1, lk_S1, lk_P2, lk_L2, lk_S2, lk_P3, lk_L3, lk_S3, z_8 hk, x5_forWhom ha hRJ hB hk, upI_eq]
    · by_cases e : o = k
      · subst e
        rw [upI_ne (by omega), upI_eq, upI_eq]
        exact ⟨rfl, rfl⟩
      · rw [upI_ne (by omega), upI_ni e, upI_ni e, upI_ne (by omega)]
        exact i1 o (by omega)
  · obtain ⟨i1, i2⟩ := hi
    simp (disch := first | assumption | omega) only [fX2_read_2, l_0, l_1, l_2, l_3, l_4, l_5, l_6, l_7, l_8, l_9, l_10, l_11, l_12, l_15, l_16, l_21, l_24, l_31, l_32, l_40, l_64, l_76, l_80, l_84, l_85, l_99, l_255, l_256, l_680, l_688, l_696, l_704, l_712, l_720, l_728, l_736, l_744, l_752, l_753, l_754, l_755, l_1000, l_2000, l_3000, l_7550, l_1000000, l_41, l_42, l_43, l_45, l_47, l_48, l_56, l_57, l_60, l_61, l_62, l_63, l_73, l_83, l_88, l_97, l_98, l_100, l_101, l_102, l_103, l_104, l_105, l_108, l_111, l_113, l_117, l_118, l_119, l_120, l_65536, n2_31, n2_add, n2_mul, n2_sub, n2_eq, n2_le, n2_lt, n2_div, n2_qz0, n2_qz1, n2_qzb, bn_0, bn_1, bn_t, bn_f, n2_eqm, n2_meq, n2_ltm, n2_mlt, n2_lem, n2_mle, if_true, if_false, qbnd_s, ite_true, ite_false, if_pos, reduceIte, dk_q, lk_q, dk_P0, dk_P1, dk_P2, dk_P3, dk_I4, dk_U4, dk_gL, dk_gS, dk_dL, dk_dS, lk_P0, lk_L0, lk_S0, lk_P1, lk_L1, lk_S1, lk_P2, lk_L2, lk_S2, lk_P3, lk_L3, lk_S3, Nat.le_refl]
    refine lp_rk (α := Nat → Nat → Int32) (fun m k J => fX2_read_24 m (d + 12) (n2 k) (mk J L c t)) 8 (fun k J => (∀ o, o < 8 → J (d + 13) o = n2 (bits8 (wfr s o)) ∧ J (d + 14) o = n2 (bits8 (wsh s k o))) ∧ Fr I J (d + 12) (d + 17)) (fun r => ∃ I', r = some (n2 0, 0, mk I' L c t) ∧ LW I' d s ∧ Fr I I' (d + 12) (d + 17)) (k0 := 0) (by omega) (by omega) J ⟨i1, i2⟩ (fun m k J _ hk hi => Or.inr ?_) (fun m J hi => ?_)
    · obtain ⟨j1, j2⟩ := hi
      have key := lp_rk (α := Nat → Nat → Int32) (fun y q J => fX2_read_29 (fX2_read_24 m) y (d + 12) (n2 k) (n2 q) (mk J L c t)) 8 (fun q J => (∀ o, o < 8 → J (d + 13) o = n2 (bits8 (wfr s o)) ∧ J (d + 14) o = n2 (bits8 (if o < q then wsh s (k + 1) o else wsh s k o))) ∧ Fr I J (d + 12) (d + 17)) (fun r => ∃ J, r = fX2_read_24 m (d + 12) (n2 (k + 1)) (mk J L c t) ∧ (∀ o, o < 8 → J (d + 13) o = n2 (bits8 (wfr s o)) ∧ J (d + 14) o = n2 (bits8 (wsh s (k + 1) o))) ∧ Fr I J (d + 12) (d + 17)) (k0 := 0) (by omega) (by omega) J ⟨fun o ho => by rw [if_neg (by omega)]; exact j1 o ho, j2⟩ (fun y q J _ hq hi => Or.inr ?_) (fun y J hi => ⟨J, ?_, fun o ho => by have := hi.1 o ho; rw [if_pos ho] at this; exact this, hi.2⟩)
      · obtain ⟨J', k1, k2, k3⟩ := key
        refine ⟨J', ?_, k2, k3⟩
        simp (disch := first | assumption | omega) only [fX2_read_24, l_0, l_1, l_2, l_3, l_4, l_5, l_6, l_7, l_8, l_9, l_10, l_11, l_12, l_15, l_16, l_21, l_24, l_31, l_32, l_40, l_64, l_76, l_80, l_84, l_85, l_99, l_255, l_256, l_680, l_688, l_696, l_704, l_712, l_720, l_728, l_736, l_744, l_752, l_753, l_754, l_755, l_1000, l_2000, l_3000, l_7550, l_1000000, l_41, l_42, l_43, l_45, l_47, l_48, l_56, l_57, l_60, l_61, l_62, l_63, l_73, l_83, l_88, l_97, l_98, l_100, l_101, l_102, l_103, l_104, l_105, l_108, l_111, l_113, l_117, l_118, l_119, l_120, l_65536, n2_31, n2_add, n2_mul, n2_sub, n2_eq, n2_le, n2_lt, n2_div, n2_qz0, n2_qz1, n2_qzb, bn_0, bn_1, bn_t, bn_f, n2_eqm, n2_meq, n2_ltm, n2_mlt, n2_lem, n2_mle, if_true, if_false, qbnd_s, ite_true, ite_false, if_pos, reduceIte, dk_q, lk_q, dk_P0, dk_P1, dk_P2, dk_P3, dk_I4, dk_U4, dk_gL, dk_gS, dk_dL, dk_dS, lk_P0, lk_L0, lk_S0, lk_P1, lk_L1, lk_S1, lk_P2, lk_L2, lk_S2, lk_P3, lk_L3, lk_S3, z_8 hk]
        exact k1
      · obtain ⟨m1, m2⟩ := hi
        have hq1 := (m1 q hq).2
        rw [if_neg (by omega)] at hq1
        have hk1 := (m1 k hk).2
        have hkk : (if k < q then wsh s (k + 1) k else wsh s k k) = wsh s k k := by
          split
          · funext j; exact wsh_self s k j
          · rfl
        rw [hkk] at hk1
        rcases bcs (wsh s k q k) with e | e
        · refine ⟨J, ?_, fun o ho => ⟨(m1 o ho).1, ?_⟩, m2⟩
          · simp (disch := first | assumption | omega) only [fX2_read_29, l_0, l_1, l_2, l_3, l_4, l_5, l_6, l_7, l_8, l_9, l_10, l_11, l_12, l_15, l_16, l_21, l_24, l_31, l_32, l_40, l_64, l_76, l_80, l_84, l_85, l_99, l_255, l_256, l_680, l_688, l_696, l_704, l_712, l_720, l_728, l_736, l_744, l_752, l_753, l_754, l_755, l_1000, l_2000, l_3000, l_7550, l_1000000, l_41, l_42, l_43, l_45, l_47, l_48, l_56, l_57, l_60, l_61, l_62, l_63, l_73, l_83, l_88, l_97, l_98, l_100, l_101, l_102, l_103, l_104, l_105, l_108, l_111, l_113, l_117, l_118, l_119, l_120, l_65536, n2_31, n2_add, n2_mul, n2_sub, n2_eq, n2_le, n2_lt, n2_div, n2_qz0, n2_qz1, n2_qzb, bn_0, bn_1, bn_t, bn_f, n2_eqm, n2_meq, n2_ltm, n2_mlt, n2_lem, n2_mle, if_true, if_false, qbnd_s, ite_true, ite_false, if_pos, reduceIte, dk_q, lk_q, dk_P0, dk_P1, dk_P2, dk_P3, dk_I4, dk_U4, dk_gL, dk_gS, dk_dL, dk_dS, lk_P0, lk_L0, lk_S0, lk_P1, lk_L1, lk_S1, lk_P2, lk_L2, lk_S2, lk_P3, lk_L3, lk_S3, z_8 hq, hq1, bits8_q _ hk, e]
          · rw [(m1 o ho).2]
            refine congrArg n2 (bits8_congr fun j hj => ?_)
            by_cases e2 : o = q
            · subst e2
              rw [if_neg (by omega), if_pos (by omega)]
              simp only [wsh, e]
              simp
            · by_cases e3 : o < q
              · rw [if_pos e3, if_pos (by omega)]
              · rw [if_neg e3, if_neg (by omega)]
        · refine ⟨upI J (d + 14) q (n2 (bits8 fun j => wsh s k q j || wsh s k k j)), ?_, fun o ho => ⟨?_, ?_⟩, m2.trans (Fr.up (by omega) (by omega))⟩
          · simp (disch := first | assumption | omega) only [fX2_read_29, l_0, l_1, l_2, l_3, l_4, l_5, l_6, l_7, l_8, l_9, l_10, l_11, l_12, l_15, l_16, l_21, l_24, l_31, l_32, l_40, l_64, l_76, l_80, l_84, l_85, l_99, l_255, l_256, l_680, l_688, l_696, l_704, l_712, l_720, l_728, l_736, l_744, l_752, l_753, l_754, l_755, l_1000, l_2000, l_3000, l_7550, l_1000000, l_41, l_42, l_43, l_45, l_47, l_48, l_56, l_57, l_60, l_61, l_62, l_63, l_73, l_83, l_88, l_97, l_98, l_100, l_101, l_102, l_103, l_104, l_105, l_108, l_111, l_113, l_117, l_118, l_119, l_120, l_65536, n2_31, n2_add, n2_mul, n2_sub, n2_eq, n2_le, n2_lt, n2_div, n2_qz0, n2_qz1, n2_qzb, bn_0, bn_1, bn_t, bn_f, n2_eqm, n2_meq, n2_ltm, n2_mlt, n2_lem, n2_mle, if_true, if_false, qbnd_s, ite_true, ite_false, if_pos, reduceIte, dk_q, lk_q, dk_P0, dk_P1, dk_P2, dk_P3, dk_I4, dk_U4, dk_gL, dk_gS, dk_dL, dk_dS, lk_P0, lk_L0, lk_S0, lk_P1, lk_L1, lk_S1, lk_P2, lk_L2, lk_S2, lk_P3, lk_L3, lk_S3, z_8 hq, hq1, hk1, bits8_q _ hk, e, n2_or, bits8_or]
            try simp
          · rw [upI_ne (by omega)]; exact (m1 o ho).1
          · by_cases e2 : o = q
            · subst e2
              rw [upI_eq, if_pos (by omega)]
              refine congrArg n2 (bits8_congr fun j hj => ?_)
              simp only [wsh, e]
              simp
            · rw [upI_ni e2, (m1 o ho).2]
              refine congrArg n2 (bits8_congr fun j hj => ?_)
              by_cases e3 : o < q
              · rw [if_pos e3, if_pos (by omega)]
              · rw [if_neg e3, if_neg (by omega)]
      · simp (disch := first | assumption | omega) only [fX2_read_29, l_0, l_1, l_2, l_3, l_4, l_5, l_6, l_7, l_8, l_9, l_10, l_11, l_12, l_15, l_16, l_21, l_24, l_31, l_32, l_40, l_64, l_76, l_80, l_84, l_85, l_99, l_255, l_256, l_680, l_688, l_696, l_704, l_712, l_720, l_728, l_736, l_744, l_752, l_753, l_754, l_755, l_1000, l_2000, l_3000, l_7550, l_1000000, l_41, l_42, l_43, l_45, l_47, l_48, l_56, l_57, l_60, l_61, l_62, l_63, l_73, l_83, l_88, l_97, l_98, l_100, l_101, l_102, l_103, l_104, l_105, l_108, l_111, l_113, l_117, l_118, l_119, l_120, l_65536, n2_31, n2_add, n2_mul, n2_sub, n2_eq, n2_le, n2_lt, n2_div, n2_qz0, n2_qz1, n2_qzb, bn_0, bn_1, bn_t, bn_f, n2_eqm, n2_meq, n2_ltm, n2_mlt, n2_lem, n2_mle, if_true, if_false, qbnd_s, ite_true, ite_false, if_pos, reduceIte, dk_q, lk_q, dk_P0, dk_P1, dk_P2, dk_P3, dk_I4, dk_U4, dk_gL, dk_gS, dk_dL, dk_dS, lk_P0, lk_L0, lk_S0, lk_P1, lk_L1, lk_S1, lk_P2, lk_L2, lk_S2, lk_P3, lk_L3, lk_S3, Nat.le_refl]
    · obtain ⟨j1, j2⟩ := hi
      refine ⟨J, ?_, ⟨fun o ho => (j1 o ho).1, fun o ho => (j1 o ho).2⟩, j2⟩
      simp (disch := first | assumption | omega) only [fX2_read_24, l_0, l_1, l_2, l_3, l_4, l_5, l_6, l_7, l_8, l_9, l_10, l_11, l_12, l_15, l_16, l_21, l_24, l_31, l_32, l_40, l_64, l_76, l_80, l_84, l_85, l_99, l_255, l_256, l_680, l_688, l_696, l_704, l_712, l_720, l_728, l_736, l_744, l_752, l_753, l_754, l_755, l_1000, l_2000, l_3000, l_7550, l_1000000, l_41, l_42, l_43, l_45, l_47, l_48, l_56, l_57, l_60, l_61, l_62, l_63, l_73, l_83, l_88, l_97, l_98, l_100, l_101, l_102, l_103, l_104, l_105, l_108, l_111, l_113, l_117, l_118, l_119, l_120, l_65536, n2_31, n2_add, n2_mul, n2_sub, n2_eq, n2_le, n2_lt, n2_div, n2_qz0, n2_qz1, n2_qzb, bn_0, bn_1, bn_t, bn_f, n2_eqm, n2_meq, n2_ltm, n2_mlt, n2_lem, n2_mle, if_true, if_false, qbnd_s, ite_true, ite_false, if_pos, reduceIte, dk_q, lk_q, dk_P0, dk_P1, dk_P2, dk_P3, dk_I4, dk_U4, dk_gL, dk_gS, dk_dL, dk_dS, lk_P0, lk_L0, lk_S0, lk_P1, lk_L1, lk_S1, lk_P2, lk_L2, lk_S2, lk_P3, lk_L3, lk_S3, Nat.le_refl]
theorem x2_waiters (hd : d ∈ dkl) (hL : LW I d s) {o : Nat} (ho : o < 8) : fX2_waiters (d + 12) (n2 o) (mk I L c t) = some (n2 (wtr s o), 0, mk I L c t) := by
  simp (disch := first | assumption | omega) only [fX2_waiters, gX2_waiters, l_0, l_1, l_2, l_3, l_4, l_5, l_6, l_7, l_8, l_9, l_10, l_11, l_12, l_15, l_16, l_21, l_24, l_31, l_32, l_40, l_64, l_76, l_80, l_84, l_85, l_99, l_255, l_256, l_680, l_688, l_696, l_704, l_712, l_720, l_728, l_736, l_744, l_752, l_753, l_754, l_755, l_1000, l_2000, l_3000, l_7550, l_1000000, l_41, l_42, l_43, l_45, l_47, l_48, l_56, l_57, l_60, l_61, l_62, l_63, l_73, l_83, l_88, l_97, l_98, l_100, l_101, l_102, l_103, l_104, l_105, l_108, l_111, l_113, l_117, l_118, l_119, l_120, l_65536, n2_31, n2_add, n2_mul, n2_sub, n2_eq, n2_le, n2_lt, n2_div, n2_qz0, n2_qz1, n2_qzb, bn_0, bn_1, bn_t, bn_f, n2_eqm, n2_meq, n2_ltm, n2_mlt, n2_lem, n2_mle, if_true, if_false, qbnd_s, ite_true, ite_false, if_pos, reduceIte, dk_q, lk_q, dk_P0, dk_P1, dk_P2, dk_P3, dk_I4, dk_U4, dk_gL, dk_gS, dk_dL, dk_dS, lk_P0, lk_L0, lk_S0, lk_P1, lk_L1, lk_S1, lk_P2, lk_L2, lk_S2, lk_P3, lk_L3, lk_S3]
  refine lp_f0 (fun n k b => fX2_waiters_4 n (d + 12) (n2 o) (n2 b) (n2 k) (mk I L c t)) 8 (by omega) _ (fun b => some (n2 b, 0, mk I L c t)) 0 (fun n k b hk => ?_) (fun n b => ?_)
  · simp (disch := first | assumption | omega) only [fX2_waiters_4, l_0, l_1, l_2, l_3, l_4, l_5, l_6, l_7, l_8, l_9, l_10, l_11, l_12, l_15, l_16, l_21, l_24, l_31, l_32, l_40, l_64, l_76, l_80, l_84, l_85, l_99, l_255, l_256, l_680, l_688, l_696, l_704, l_712, l_720, l_728, l_736, l_744, l_752, l_753, l_754, l_755, l_1000, l_2000, l_3000, l_7550, l_1000000, l_41, l_42, l_43, l_45, l_47, l_48, l_56, l_57, l_60, l_61, l_62, l_63, l_73, l_83, l_88, l_97, l_98, l_100, l_101, l_102, l_103, l_104, l_105, l_108, l_111, l_113, l_117, l_118, l_119, l_120, l_65536, n2_31, n2_add, n2_mul, n2_sub, n2_eq, n2_le, n2_lt, n2_div, n2_qz0, n2_qz1, n2_qzb, bn_0, bn_1, bn_t, bn_f, n2_eqm, n2_meq, n2_ltm, n2_mlt, n2_lem, n2_mle, if_true, if_false, qbnd_s, ite_true, ite_false, if_pos, reduceIte, dk_q, lk_q, dk_P0, dk_P1, dk_P2, dk_P3, dk_I4, dk_U4, dk_gL, dk_gS, dk_dL, dk_dS, lk_P0, lk_L0, lk_S0, lk_P1, lk_L1, lk_S1, lk_P2, lk_L2, lk_S2, lk_P3, lk_L3, lk_S3, z_8 hk, hL.1 k hk, bits8_q _ ho]
  · simp (disch := first | assumption | omega) only [fX2_waiters_4, l_0, l_1, l_2, l_3, l_4, l_5, l_6, l_7, l_8, l_9, l_10, l_11, l_12, l_15, l_16, l_21, l_24, l_31, l_32, l_40, l_64, l_76, l_80, l_84, l_85, l_99, l_255, l_256, l_680, l_688, l_696, l_704, l_712, l_720, l_728, l_736, l_744, l_752, l_753, l_754, l_755, l_1000, l_2000, l_3000, l_7550, l_1000000, l_41, l_42, l_43, l_45, l_47, l_48, l_56, l_57, l_60, l_61, l_62, l_63, l_73, l_83, l_88, l_97, l_98, l_100, l_101, l_102, l_103, l_104, l_105, l_108, l_111, l_113, l_117, l_118, l_119, l_120, l_65536, n2_31, n2_add, n2_mul, n2_sub, n2_eq, n2_le, n2_lt, n2_div, n2_qz0, n2_qz1, n2_qzb, bn_0, bn_1, bn_t, bn_f, n2_eqm, n2_meq, n2_ltm, n2_mlt, n2_lem, n2_mle, if_true, if_false, qbnd_s, ite_true, ite_false, if_pos, reduceIte, dk_q, lk_q, dk_P0, dk_P1, dk_P2, dk_P3, dk_I4, dk_U4, dk_gL, dk_gS, dk_dL, dk_dS, lk_P0, lk_L0, lk_S0, lk_P1, lk_L1, lk_S1, lk_P2, lk_L2, lk_S2, lk_P3, lk_L3, lk_S3, Nat.le_refl]
theorem x2_reachers (hd : d ∈ dkl) (hL : LW I d s) {o : Nat} (ho : o < 8) : fX2_reachers (d + 12) (n2 o) (mk I L c t) = some (n2 (bits8 fun j => rch s j o), 0, mk I L c t) := by
  simp (disch := first | assumption | omega) only [fX2_reachers, gX2_reachers, l_0, l_1, l_2, l_3, l_4, l_5, l_6, l_7, l_8, l_9, l_10, l_11, l_12, l_15, l_16, l_21, l_24, l_31, l_32, l_40, l_64, l_76, l_80, l_84, l_85, l_99, l_255, l_256, l_680, l_688, l_696, l_704, l_712, l_720, l_728, l_736, l_744, l_752, l_753, l_754, l_755, l_1000, l_2000, l_3000, l_7550, l_1000000, l_41, l_42, l_43, l_45, l_47, l_48, l_56, l_57, l_60, l_61, l_62, l_63, l_73, l_83, l_88, l_97, l_98, l_100, l_101, l_102, l_103, l_104, l_105, l_108, l_111, l_113, l_117, l_118, l_119, l_120, l_65536, n2_31, n2_add, n2_mul, n2_sub, n2_eq, n2_le, n2_lt, n2_div, n2_qz0, n2_qz1, n2_qzb, bn_0, bn_1, bn_t, bn_f, n2_eqm, n2_meq, n2_ltm, n2_mlt, n2_lem, n2_mle, if_true, if_false, qbnd_s, ite_true, ite_false, if_pos, reduceIte, dk_q, lk_q, dk_P0, dk_P1, dk_P2, dk_P3, dk_I4, dk_U4, dk_gL, dk_gS, dk_dL, dk_dS, lk_P0, lk_L0, lk_S0, lk_P1, lk_L1, lk_S1, lk_P2, lk_L2, lk_S2, lk_P3, lk_L3, lk_S3]
  refine lp_f0 (fun n k b => fX2_reachers_4 n (d + 12) (n2 o) (n2 b) (n2 k) (mk I L c t)) 8 (by omega) _ (fun b => some (n2 b, 0, mk I L c t)) 0 (fun n k b hk => ?_) (fun n b => ?_)
  · simp (disch := first | assumption | omega) only [fX2_reachers_4, l_0, l_1, l_2, l_3, l_4, l_5, l_6, l_7, l_8, l_9, l_10, l_11, l_12, l_15, l_16, l_21, l_24, l_31, l_32, l_40, l_64, l_76, l_80, l_84, l_85, l_99, l_255, l_256, l_680, l_688, l_696, l_704, l_712, l_720, l_728, l_736, l_744, l_752, l_753, l_754, l_755, l_1000, l_2000, l_3000, l_7550, l_1000000, l_41, l_42, l_43, l_45, l_47, l_48, l_56, l_57, l_60, l_61, l_62, l_63, l_73, l_83, l_88, l_97, l_98, l_100, l_101, l_102, l_103, l_104, l_105, l_108, l_111, l_113, l_117, l_118, l_119, l_120, l_65536, n2_31, n2_add, n2_mul, n2_sub, n2_eq, n2_le, n2_lt, n2_div, n2_qz0, n2_qz1, n2_qzb, bn_0, bn_1, bn_t, bn_f, n2_eqm, n2_meq, n2_ltm, n2_mlt, n2_lem, n2_mle, if_true, if_false, qbnd_s, ite_true, ite_false, if_pos, reduceIte, dk_q, lk_q, dk_P0, dk_P1, dk_P2, dk_P3, dk_I4, dk_U4, dk_gL, dk_gS, dk_dL, dk_dS, lk_P0, lk_L0, lk_S0, lk_P1, lk_L1, lk_S1, lk_P2, lk_L2, lk_S2, lk_P3, lk_L3, lk_S3, z_8 hk, hL.2 k hk, bits8_q _ ho, n2_shl, n2_or]
    rcases bcs (rch s k o) with e | e <;> simp [e, bn]
  · simp (disch := first | assumption | omega) only [fX2_reachers_4, l_0, l_1, l_2, l_3, l_4, l_5, l_6, l_7, l_8, l_9, l_10, l_11, l_12, l_15, l_16, l_21, l_24, l_31, l_32, l_40, l_64, l_76, l_80, l_84, l_85, l_99, l_255, l_256, l_680, l_688, l_696, l_704, l_712, l_720, l_728, l_736, l_744, l_752, l_753, l_754, l_755, l_1000, l_2000, l_3000, l_7550, l_1000000, l_41, l_42, l_43, l_45, l_47, l_48, l_56, l_57, l_60, l_61, l_62, l_63, l_73, l_83, l_88, l_97, l_98, l_100, l_101, l_102, l_103, l_104, l_105, l_108, l_111, l_113, l_117, l_118, l_119, l_120, l_65536, n2_31, n2_add, n2_mul, n2_sub, n2_eq, n2_le, n2_lt, n2_div, n2_qz0, n2_qz1, n2_qzb, bn_0, bn_1, bn_t, bn_f, n2_eqm, n2_meq, n2_ltm, n2_mlt, n2_lem, n2_mle, if_true, if_false, qbnd_s, ite_true, ite_false, if_pos, reduceIte, dk_q, lk_q, dk_P0, dk_P1, dk_P2, dk_P3, dk_I4, dk_U4, dk_gL, dk_gS, dk_dL, dk_dS, lk_P0, lk_L0, lk_S0, lk_P1, lk_L1, lk_S1, lk_P2, lk_L2, lk_S2, lk_P3, lk_L3, lk_S3, Nat.le_refl]
theorem x2_inRings (hd : d ∈ dkl) (hL : LW I d s) : fX2_inRings (d + 12) (mk I L c t) = some (n2 (bits8 fun j => rch s j j), 0, mk I L c t) := by
  simp (disch := first | assumption | omega) only [fX2_inRings, gX2_inRings, l_0, l_1, l_2, l_3, l_4, l_5, l_6, l_7, l_8, l_9, l_10, l_11, l_12, l_15, l_16, l_21, l_24, l_31, l_32, l_40, l_64, l_76, l_80, l_84, l_85, l_99, l_255, l_256, l_680, l_688, l_696, l_704, l_712, l_720, l_728, l_736, l_744, l_752, l_753, l_754, l_755, l_1000, l_2000, l_3000, l_7550, l_1000000, l_41, l_42, l_43, l_45, l_47, l_48, l_56, l_57, l_60, l_61, l_62, l_63, l_73, l_83, l_88, l_97, l_98, l_100, l_101, l_102, l_103, l_104, l_105, l_108, l_111, l_113, l_117, l_118, l_119, l_120, l_65536, n2_31, n2_add, n2_mul, n2_sub, n2_eq, n2_le, n2_lt, n2_div, n2_qz0, n2_qz1, n2_qzb, bn_0, bn_1, bn_t, bn_f, n2_eqm, n2_meq, n2_ltm, n2_mlt, n2_lem, n2_mle, if_true, if_false, qbnd_s, ite_true, ite_false, if_pos, reduceIte, dk_q, lk_q, dk_P0, dk_P1, dk_P2, dk_P3, dk_I4, dk_U4, dk_gL, dk_gS, dk_dL, dk_dS, lk_P0, lk_L0, lk_S0, lk_P1, lk_L1, lk_S1, lk_P2, lk_L2, lk_S2, lk_P3, lk_L3, lk_S3]
  refine lp_f0 (fun n k b => fX2_inRings_4 n (d + 12) (n2 b) (n2 k) (mk I L c t)) 8 (by omega) _ (fun b => some (n2 b, 0, mk I L c t)) 0 (fun n k b hk => ?_) (fun n b => ?_)
  · simp (disch := first | assumption | omega) only [fX2_inRings_4, l_0, l_1, l_2, l_3, l_4, l_5, l_6, l_7, l_8, l_9, l_10, l_11, l_12, l_15, l_16, l_21, l_24, l_31, l_32, l_40, l_64, l_76, l_80, l_84, l_85, l_99, l_255, l_256, l_680, l_688, l_696, l_704, l_712, l_720, l_728, l_736, l_744, l_752, l_753, l_754, l_755, l_1000, l_2000, l_3000, l_7550, l_1000000, l_41, l_42, l_43, l_45, l_47, l_48, l_56, l_57, l_60, l_61, l_62, l_63, l_73, l_83, l_88, l_97, l_98, l_100, l_101, l_102, l_103, l_104, l_105, l_108, l_111, l_113, l_117, l_118, l_119, l_120, l_65536, n2_31, n2_add, n2_mul, n2_sub, n2_eq, n2_le, n2_lt, n2_div, n2_qz0, n2_qz1, n2_qzb, bn_0, bn_1, bn_t, bn_f, n2_eqm, n2_meq, n2_ltm, n2_mlt, n2_lem, n2_mle, if_true, if_false, qbnd_s, ite_true, ite_false, if_pos, reduceIte, dk_q, lk_q, dk_P0, dk_P1, dk_P2, dk_P3, dk_I4, dk_U4, dk_gL, dk_gS, dk_dL, dk_dS, lk_P0, lk_L0, lk_S0, lk_P1, lk_L1, lk_S1, lk_P2, lk_L2, lk_S2, lk_P3, lk_L3, lk_S3, z_8 hk, hL.2 k hk, n2_shl]
    simp only [n2_and, bits8_and1 _ hk, n2_or]
    rcases bcs (rch s k k) with e | e <;> simp [e]
  · simp (disch := first | assumption | omega) only [fX2_inRings_4, l_0, l_1, l_2, l_3, l_4, l_5, l_6, l_7, l_8, l_9, l_10, l_11, l_12, l_15, l_16, l_21, l_24, l_31, l_32, l_40, l_64, l_76, l_80, l_84, l_85, l_99, l_255, l_256, l_680, l_688, l_696, l_704, l_712, l_720, l_728, l_736, l_744, l_752, l_753, l_754, l_755, l_1000, l_2000, l_3000, l_7550, l_1000000, l_41, l_42, l_43, l_45, l_47, l_48, l_56, l_57, l_60, l_61, l_62, l_63, l_73, l_83, l_88, l_97, l_98, l_100, l_101, l_102, l_103, l_104, l_105, l_108, l_111, l_113, l_117, l_118, l_119, l_120, l_65536, n2_31, n2_add, n2_mul, n2_sub, n2_eq, n2_le, n2_lt, n2_div, n2_qz0, n2_qz1, n2_qzb, bn_0, bn_1, bn_t, bn_f, n2_eqm, n2_meq, n2_ltm, n2_mlt, n2_lem, n2_mle, if_true, if_false, qbnd_s, ite_true, ite_false, if_pos, reduceIte, dk_q, lk_q, dk_P0, dk_P1, dk_P2, dk_P3, dk_I4, dk_U4, dk_gL, dk_gS, dk_dL, dk_dS, lk_P0, lk_L0, lk_S0, lk_P1, lk_L1, lk_S1, lk_P2, lk_L2, lk_S2, lk_P3, lk_L3, lk_S3, Nat.le_refl]
end S7L

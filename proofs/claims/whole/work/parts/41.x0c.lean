/-! PURE SIDE, THE CLASS' DESK: an owner leaves; the acts -/
def D0 : Nat → Nat → Bool := fun _ _ => false
section S7F
variable {I : Nat → Nat → Int32} {L : Nat → Nat → Int64} {c t d : Nat} {s : St}
theorem x0_l60 (hd : d ∈ dkl) {T o k0 : Nat} {U : List Nat} {P : Nat → Bool} {fin : St} (hT : T < 1000000000) (ho : o < 8) (hk0 : k0 ≤ 85) (h : DueInv d 17 o T U P D0 I fin k0 (I, s)) :
    ∃ I', fX0_leave_60 qfu d (n2 o) (n2 k0) (mk I L c t) = some (n2 0, 0, mk I' L c t) ∧ DW I' d fin D0 ∧ Fdk I I' d (d + 19) := by
  refine lp_rk (α := (Nat → Nat → Int32) × St) (fun m k z => fX0_leave_60 m d (n2 o) (n2 k) (mk z.1 L c t)) 85 (DueInv d 17 o T U P D0 I fin) (fun r => ∃ I', r = some (n2 0, 0, mk I' L c t) ∧ DW I' d fin D0 ∧ Fdk I I' d (d + 19)) (k0 := k0) hk0 (by omega) (I, s) h (fun m k z hk1 hk hi => Or.inr ?_) (fun m z hi => ?_)
  · obtain ⟨I1, s1⟩ := z
    have hi0 := hi
    obtain ⟨h1, h2, h3, h4, h5, h6, h7, h8⟩ := hi
    dsimp only at h1 h2 h3 h4 h5 h6 h7 h8
    have hdu := h1.2 k hk
    have hlt := bits8_lt (Dk D0 P o k k)
    have hDk : Dk D0 P o k k o = P k := by
      unfold Dk
      rcases bcs (P k) with e | e
      · rw [if_neg (by simp [e])]; exact e.symm
      · rw [if_pos ⟨rfl, Nat.le_refl _, e⟩, e]
    by_cases e : bits8 (Dk D0 P o k k) = 0
    · have hPk : P k = false := by rw [← hDk]; exact (bits8_zero _).mp e o ho
      refine ⟨(I1, s1), ?_, due_skip hk hPk hi0 (by rw [← Dk_no hPk]; exact h1) h2⟩
      simp (disch := first | assumption | omega) only [fX0_leave_60, l_0, l_1, l_2, l_3, l_4, l_5, l_6, l_7, l_8, l_9, l_10, l_11, l_12, l_15, l_16, l_21, l_24, l_31, l_32, l_40, l_64, l_76, l_80, l_84, l_85, l_99, l_255, l_256, l_680, l_688, l_696, l_704, l_712, l_720, l_728, l_736, l_744, l_752, l_753, l_754, l_755, l_1000, l_2000, l_3000, l_7550, l_1000000, l_41, l_42, l_43, l_45, l_47, l_48, l_56, l_57, l_60, l_61, l_62, l_63, l_73, l_83, l_88, l_97, l_98, l_100, l_101, l_102, l_103, l_104, l_105, l_108, l_111, l_113, l_117, l_118, l_119, l_120, l_65536, n2_31, n2_add, n2_mul, n2_sub, n2_eq, n2_le, n2_lt, n2_div, n2_qz0, n2_qz1, n2_qzb, bn_0, bn_1, bn_t, bn_f, n2_eqm, n2_meq, n2_ltm, n2_mlt, n2_lem, n2_mle, if_true, if_false, qbnd_s, ite_true, ite_false, if_pos, reduceIte, dk_q, lk_q, dk_P0, dk_P1, dk_P2, dk_P3, dk_I4, dk_U4, dk_gL, dk_gS, dk_dL, dk_dS, lk_P0, lk_L0, lk_S0, lk_P1, lk_L1, lk_S1, lk_P2, lk_L2, lk_S2, lk_P3, lk_L3, lk_S3, z_85 hk, hdu, e]
    · obtain ⟨I2, t1, t2, t3⟩ := x0_takeDue (L := L) (c := c) (t := t) hd h1 ho hk
      rw [Dk_take rfl] at t2
      rw [hDk] at t1
      rcases bcs (P k) with hPk | hPk
      · refine ⟨(I2, s1), ?_, due_skip hk hPk hi0 t2 (h2.trans t3)⟩
        rw [hPk] at t1
        simp (disch := first | assumption | omega) only [fX0_leave_60, l_0, l_1, l_2, l_3, l_4, l_5, l_6, l_7, l_8, l_9, l_10, l_11, l_12, l_15, l_16, l_21, l_24, l_31, l_32, l_40, l_64, l_76, l_80, l_84, l_85, l_99, l_255, l_256, l_680, l_688, l_696, l_704, l_712, l_720, l_728, l_736, l_744, l_752, l_753, l_754, l_755, l_1000, l_2000, l_3000, l_7550, l_1000000, l_41, l_42, l_43, l_45, l_47, l_48, l_56, l_57, l_60, l_61, l_62, l_63, l_73, l_83, l_88, l_97, l_98, l_100, l_101, l_102, l_103, l_104, l_105, l_108, l_111, l_113, l_117, l_118, l_119, l_120, l_65536, n2_31, n2_add, n2_mul, n2_sub, n2_eq, n2_le, n2_lt, n2_div, n2_qz0, n2_qz1, n2_qzb, bn_0, bn_1, bn_t, bn_f, n2_eqm, n2_meq, n2_ltm, n2_mlt, n2_lem, n2_mle, if_true, if_false, qbnd_s, ite_true, ite_false, if_pos, reduceIte, dk_q, lk_q, dk_P0, dk_P1, dk_P2, dk_P3, dk_I4, dk_U4, dk_gL, dk_gS, dk_dL, dk_dS, lk_P0, lk_L0, lk_S0, lk_P1, lk_L1, lk_S1, lk_P2, lk_L2, lk_S2, lk_P3, lk_L3, lk_S3, z_85 hk, hdu, e, t1]
      · have hr : rk P k = k :: rk P (k + 1) := by rw [rk_step P hk, if_pos hPk]
        rw [hr] at h4 h5
        obtain ⟨I3, r1, r2, r3⟩ := x0_serve (L := L) (c := c) (t := t) (n := 16) (dep := 0) hd (svR_ok hd 16 1 qdp (by omega) (by rw [qdp_eq]; omega)) (by omega) hT hk t2 h3 h4 (fuel_need h5) (Dk_w h6 h7)
        refine ⟨(I3, srvS 17 s1 k), ?_, due_next hk ho hPk hi0 r2 ((h2.trans t3).trans r3)⟩
        rw [hPk] at t1
        simp (disch := first | assumption | omega) only [fX0_leave_60, l_0, l_1, l_2, l_3, l_4, l_5, l_6, l_7, l_8, l_9, l_10, l_11, l_12, l_15, l_16, l_21, l_24, l_31, l_32, l_40, l_64, l_76, l_80, l_84, l_85, l_99, l_255, l_256, l_680, l_688, l_696, l_704, l_712, l_720, l_728, l_736, l_744, l_752, l_753, l_754, l_755, l_1000, l_2000, l_3000, l_7550, l_1000000, l_41, l_42, l_43, l_45, l_47, l_48, l_56, l_57, l_60, l_61, l_62, l_63, l_73, l_83, l_88, l_97, l_98, l_100, l_101, l_102, l_103, l_104, l_105, l_108, l_111, l_113, l_117, l_118, l_119, l_120, l_65536, n2_31, n2_add, n2_mul, n2_sub, n2_eq, n2_le, n2_lt, n2_div, n2_qz0, n2_qz1, n2_qzb, bn_0, bn_1, bn_t, bn_f, n2_eqm, n2_meq, n2_ltm, n2_mlt, n2_lem, n2_mle, if_true, if_false, qbnd_s, ite_true, ite_false, if_pos, reduceIte, dk_q, lk_q, dk_P0, dk_P1, dk_P2, dk_P3, dk_I4, dk_U4, dk_gL, dk_gS, dk_dL, dk_dS, lk_P0, lk_L0, lk_S0, lk_P1, lk_L1, lk_S1, lk_P2, lk_L2, lk_S2, lk_P3, lk_L3, lk_S3, z_85 hk, hdu, e, t1, r1]
        simp
  · obtain ⟨I1, s1⟩ := z
    obtain ⟨h1, h2, h3, h4, h5, h6, h7, h8⟩ := hi
    dsimp only at h1 h2 h3 h4 h5 h6 h7 h8
    rw [rk_85, List.foldl_nil] at h8
    refine ⟨I1, ?_, ⟨?_, fun p hp => ?_⟩, h2⟩
    · simp (disch := first | assumption | omega) only [fX0_leave_60, l_0, l_1, l_2, l_3, l_4, l_5, l_6, l_7, l_8, l_9, l_10, l_11, l_12, l_15, l_16, l_21, l_24, l_31, l_32, l_40, l_64, l_76, l_80, l_84, l_85, l_99, l_255, l_256, l_680, l_688, l_696, l_704, l_712, l_720, l_728, l_736, l_744, l_752, l_753, l_754, l_755, l_1000, l_2000, l_3000, l_7550, l_1000000, l_41, l_42, l_43, l_45, l_47, l_48, l_56, l_57, l_60, l_61, l_62, l_63, l_73, l_83, l_88, l_97, l_98, l_100, l_101, l_102, l_103, l_104, l_105, l_108, l_111, l_113, l_117, l_118, l_119, l_120, l_65536, n2_31, n2_add, n2_mul, n2_sub, n2_eq, n2_le, n2_lt, n2_div, n2_qz0, n2_qz1, n2_qzb, bn_0, bn_1, bn_t, bn_f, n2_eqm, n2_meq, n2_ltm, n2_mlt, n2_lem, n2_mle, if_true, if_false, qbnd_s, ite_true, ite_false, if_pos, reduceIte, dk_q, lk_q, dk_P0, dk_P1, dk_P2, dk_P3, dk_I4, dk_U4, dk_gL, dk_gS, dk_dL, dk_dS, lk_P0, lk_L0, lk_S0, lk_P1, lk_L1, lk_S1, lk_P2, lk_L2, lk_S2, lk_P3, lk_L3, lk_S3, Nat.le_refl]
    · rw [← h8]; exact h1.1
    · rw [h1.2 p hp, Dk_85 hp]
def lV (s : St) (o k : Nat) : Nat → Nat → Bool := fun q j => if j = o ∧ q < k ∧ lP s o q = true then true else false
theorem x0_leave (hd : d ∈ dkl) {T o : Nat} (hT : T < 1000000000) (ho : o < 8) (hW : DW I d s D0) (h : Iv T s) (hB : Blk s []) :
    ∃ I', fX0_leave d (n2 o) (mk I L c t) = some (n2 0, 0, mk I' L c t) ∧ DW I' d (leaveS s o) D0 ∧ Fdk I I' d (d + 19) := by
  have ha := dk_st hd
  have hBd := h.bd hT
  have how := hBd.ow ho
  have e0 : fX0_leave d (n2 o) (mk I L c t) = fX0_leave_14 qfu d (n2 o) (n2 15 <<< n2 (4 * o)) (n2 (s 89 o)) (n2 0) (mk I L c t) := by
    simp (disch := first | assumption | omega) only [fX0_leave, gX0_leave, l_0, l_1, l_2, l_3, l_4, l_5, l_6, l_7, l_8, l_9, l_10, l_11, l_12, l_15, l_16, l_21, l_24, l_31, l_32, l_40, l_64, l_76, l_80, l_84, l_85, l_99, l_255, l_256, l_680, l_688, l_696, l_704, l_712, l_720, l_728, l_736, l_744, l_752, l_753, l_754, l_755, l_1000, l_2000, l_3000, l_7550, l_1000000, l_41, l_42, l_43, l_45, l_47, l_48, l_56, l_57, l_60, l_61, l_62, l_63, l_73, l_83, l_88, l_97, l_98, l_100, l_101, l_102, l_103, l_104, l_105, l_108, l_111, l_113, l_117, l_118, l_119, l_120, l_65536, n2_31, n2_add, n2_mul, n2_sub, n2_eq, n2_le, n2_lt, n2_div, n2_qz0, n2_qz1, n2_qzb, bn_0, bn_1, bn_t, bn_f, n2_eqm, n2_meq, n2_ltm, n2_mlt, n2_lem, n2_mle, if_true, if_false, qbnd_s, ite_true, ite_false, if_pos, reduceIte, dk_q, lk_q, dk_P0, dk_P1, dk_P2, dk_P3, dk_I4, dk_U4, dk_gL, dk_gS, dk_dL, dk_dS, lk_P0, lk_L0, lk_S0, lk_P1, lk_L1, lk_S1, lk_P2, lk_L2, lk_S2, lk_P3, lk_L3, lk_S3, st_q, st_P0, st_P1, st_P2, st_P3, st_P4, st_P5, st_P6, st_P7, st_P8, st_P9, st_L0, st_S0, st_L1, st_S1, st_L2, st_S2, st_L3, st_S3, st_L4, st_S4, st_L5, st_S5, st_L6, st_S6, st_L7, st_S7, st_L8, st_S8, st_L9, st_S9, st_I10, st_U10, st_I11, st_U11, st_I12, st_U12, hW.1.at]
  rw [e0]
  refine lp_rk (α := Nat → Nat → Int32) (fun m k J => fX0_leave_14 m d (n2 o) (n2 15 <<< n2 (4 * o)) (n2 (s 89 o)) (n2 k) (mk J L c t)) 85 (fun k J => DW J d (svV s o fun q => decide (q < k)) (lV s o k) ∧ Fdk I J d (d + 19)) (fun r => ∃ I', r = some (n2 0, 0, mk I' L c t) ∧ DW I' d (leaveS s o) D0 ∧ Fdk I I' d (d + 19)) (k0 := 0) (by omega) (by omega) I ⟨?_, Fdk.rf _ _ _⟩ (fun m k J hk0 hk hi => Or.inr ?_) (fun m J hi => ?_)
  · have e1 : (svV s o fun q => decide (q < 0)) = s := by
      funext a b; unfold svV; rw [if_neg (by simp)]
    have e2 : lV s o 0 = D0 := by
      funext a b; unfold lV; rw [if_neg (by omega)]; rfl
    rw [e1, e2]
    exact hW
  · obtain ⟨i1, i2⟩ := hi
    have hv : svV s o (fun q => decide (q < k)) k o = s k o := by
      unfold svV
      rw [if_neg (by simp)]
    have hn : nib (J (d + 1 + 1) k) o = n2 (s k o) := by rw [i1.1.1 k o hk ho, hv]
    have hm := hBd.md hk ho
    have hz : (J (d + 1 + 1) k &&& (n2 15 <<< n2 (4 * o)) = n2 0) = (s k o = 0) := by
      rw [nib_zero _ ho, hn, n2_eq (by omega) (by omega)]
    have rel : lP s o k = true → DW J d (svV s o fun q => decide (q < k)) (lV s o k) → ∃ J2, fX0_release d (n2 o) (n2 k) (mk J L c t) = some (n2 0, 0, mk J2 L c t) ∧ DW J2 d (svV s o fun q => decide (q < k + 1)) (lV s o (k + 1)) ∧ Fdk J J2 d (d + 19) := by
      intro hl hw
      obtain ⟨J2, r1, r2, r3⟩ := x0_release (L := L) (c := c) (t := t) hd hw ho hk
      refine ⟨J2, r1, ?_, r3⟩
      have e1 : (svV s o fun q => decide (q < k + 1)) = su (svV s o fun q => decide (q < k)) k o 0 := by
        funext a b
        rw [su_at]
        by_cases e : a = k ∧ b = o
        · rw [if_pos e]
          unfold svV
          rw [if_pos ⟨e.2, by simp; omega⟩]
        · rw [if_neg e]
          unfold svV
          by_cases e2 : b = o
          · have : a ≠ k := fun z => e ⟨z, e2⟩
            have h7 : (a < k + 1) = (a < k) := propext (by omega)
            simp only [h7]
          · rw [if_neg (fun z => e2 z.1), if_neg (fun z => e2 z.1)]
      have e3 : lV s o (k + 1) = dset (lV s o k) k o true := by
        funext a b
        unfold dset
        by_cases e : a = k ∧ b = o
        · rw [if_pos e]
          unfold lV
          rw [if_pos ⟨e.2, by omega, by rw [e.1]; exact hl⟩]
        · rw [if_neg e]
          unfold lV
          by_cases e2 : b = o
          · have : a ≠ k := fun z => e ⟨z, e2⟩
            have h7 : (a < k + 1) = (a < k) := propext (by omega)
            simp only [h7]
          · rw [if_neg (fun z => e2 z.1), if_neg (fun z => e2 z.1)]
      rw [e1, e3]
      exact r2
    by_cases c1 : s k o = 0
    · by_cases c2 : k = s 89 o
      · obtain ⟨J2, r1, r2, r3⟩ := rel (by unfold lP; simp [c2]) i1
        refine ⟨J2, ?_, r2, i2.trans r3⟩
        simp (disch := first | assumption | omega) only [fX0_leave_14, l_0, l_1, l_2, l_3, l_4, l_5, l_6, l_7, l_8, l_9, l_10, l_11, l_12, l_15, l_16, l_21, l_24, l_31, l_32, l_40, l_64, l_76, l_80, l_84, l_85, l_99, l_255, l_256, l_680, l_688, l_696, l_704, l_712, l_720, l_728, l_736, l_744, l_752, l_753, l_754, l_755, l_1000, l_2000, l_3000, l_7550, l_1000000, l_41, l_42, l_43, l_45, l_47, l_48, l_56, l_57, l_60, l_61, l_62, l_63, l_73, l_83, l_88, l_97, l_98, l_100, l_101, l_102, l_103, l_104, l_105, l_108, l_111, l_113, l_117, l_118, l_119, l_120, l_65536, n2_31, n2_add, n2_mul, n2_sub, n2_eq, n2_le, n2_lt, n2_div, n2_qz0, n2_qz1, n2_qzb, bn_0, bn_1, bn_t, bn_f, n2_eqm, n2_meq, n2_ltm, n2_mlt, n2_lem, n2_mle, if_true, if_false, qbnd_s, ite_true, ite_false, if_pos, reduceIte, dk_q, lk_q, dk_P0, dk_P1, dk_P2, dk_P3, dk_I4, dk_U4, dk_gL, dk_gS, dk_dL, dk_dS, lk_P0, lk_L0, lk_S0, lk_P1, lk_L1, lk_S1, lk_P2, lk_L2, lk_S2, lk_P3, lk_L3, lk_S3, st_q, st_P0, st_P1, st_P2, st_P3, st_P4, st_P5, st_P6, st_P7, st_P8, st_P9, st_L0, st_S0, st_L1, st_S1, st_L2, st_S2, st_L3, st_S3, st_L4, st_S4, st_L5, st_S5, st_L6, st_S6, st_L7, st_S7, st_L8, st_S8, st_L9, st_S9, st_I10, st_U10, st_I11, st_U11, st_I12, st_U12, z_85 hk, hz, c1, ← c2, r1]
      · refine ⟨J, ?_, ?_, i2⟩
        · simp (disch := first | assumption | omega) only [fX0_leave_14, l_0, l_1, l_2, l_3, l_4, l_5, l_6, l_7, l_8, l_9, l_10, l_11, l_12, l_15, l_16, l_21, l_24, l_31, l_32, l_40, l_64, l_76, l_80, l_84, l_85, l_99, l_255, l_256, l_680, l_688, l_696, l_704, l_712, l_720, l_728, l_736, l_744, l_752, l_753, l_754, l_755, l_1000, l_2000, l_3000, l_7550, l_1000000, l_41, l_42, l_43, l_45, l_47, l_48, l_56, l_57, l_60, l_61, l_62, l_63, l_73, l_83, l_88, l_97, l_98, l_100, l_101, l_102, l_103, l_104, l_105, l_108, l_111, l_113, l_117, l_118, l_119, l_120, l_65536, n2_31, n2_add, n2_mul, n2_sub, n2_eq, n2_le, n2_lt, n2_div, n2_qz0, n2_qz1, n2_qzb, bn_0, bn_1, bn_t, bn_f, n2_eqm, n2_meq, n2_ltm, n2_mlt, n2_lem, n2_mle, if_true, if_false, qbnd_s, ite_true, ite_false, if_pos, reduceIte, dk_q, lk_q, dk_P0, dk_P1, dk_P2, dk_P3, dk_I4, dk_U4, dk_gL, dk_gS, dk_dL, dk_dS, lk_P0, lk_L0, lk_S0, lk_P1, lk_L1, lk_S1, lk_P2, lk_L2, lk_S2, lk_P3, lk_L3, lk_S3, st_q, st_P0, st_P1, st_P2, st_P3, st_P4, st_P5, st_P6, st_P7, st_P8, st_P9, st_L0, st_S0, st_L1, st_S1, st_L2, st_S2, st_L3, st_S3, st_L4, st_S4, st_L5, st_S5, st_L6, st_S6, st_L7, st_S7, st_L8, st_S8, st_L9, st_S9, st_I10, st_U10, st_I11, st_U11, st_I12, st_U12, z_85 hk, hz, c1, c2]
        · have hl : lP s o k = false := by
            unfold lP
            simp [c1, show ¬ s 89 o = k from fun z => c2 z.symm]
          have e1 : (svV s o fun q => decide (q < k + 1)) = svV s o fun q => decide (q < k) := by
            funext a b
            unfold svV
            by_cases e : a = k ∧ b = o
            · rw [if_pos ⟨e.2, by simp; omega⟩, if_neg (by simp; omega), e.1, e.2, c1]
            · by_cases e2 : b = o
              · have : a ≠ k := fun z => e ⟨z, e2⟩
                have h7 : (a < k + 1) = (a < k) := propext (by omega)
                simp only [h7]
              · rw [if_neg (fun z => e2 z.1), if_neg (fun z => e2 z.1)]
          have e3 : lV s o (k + 1) = lV s o k := by
            funext a b
            unfold lV
            by_cases e : a = k
            · rw [if_neg (by rw [e, hl]; simp), if_neg (by rw [e, hl]; simp)]
            · have h7 : (a < k + 1) = (a < k) := propext (by omega)
              simp only [h7]
          rw [e1, e3]
          exact i1
    · obtain ⟨J2, r1, r2, r3⟩ := rel (by unfold lP; simp [c1]) i1
      refine ⟨J2, ?_, r2, i2.trans r3⟩
      simp (disch := first | assumption | omega) only [fX0_leave_14, l_0, l_1, l_2, l_3, l_4, l_5, l_6, l_7, l_8, l_9, l_10, l_11, l_12, l_15, l_16, l_21, l_24, l_31, l_32, l_40, l_64, l_76, l_80, l_84, l_85, l_99, l_255, l_256, l_680, l_688, l_696, l_704, l_712, l_720, l_728, l_736, l_744, l_752, l_753, l_754, l_755, l_1000, l_2000, l_3000, l_7550, l_1000000, l_41, l_42, l_43, l_45, l_47, l_48, l_56, l_57, l_60, l_61, l_62, l_63, l_73, l_83, l_88, l_97, l_98, l_100, l_101, l_102, l_103, l_104, l_105, l_108, l_111, l_113, l_117, l_118, l_119, l_120, l_65536, n2_31, n2_add, n2_mul, n2_sub, n2_eq, n2_le, n2_lt, n2_div, n2_qz0, n2_qz1, n2_qzb, bn_0, bn_1, bn_t, bn_f, n2_eqm, n2_meq, n2_ltm, n2_mlt, n2_lem, n2_mle, if_true, if_false, qbnd_s, ite_true, ite_false, if_pos, reduceIte, dk_q, lk_q, dk_P0, dk_P1, dk_P2, dk_P3, dk_I4, dk_U4, dk_gL, dk_gS, dk_dL, dk_dS, lk_P0, lk_L0, lk_S0, lk_P1, lk_L1, lk_S1, lk_P2, lk_L2, lk_S2, lk_P3, lk_L3, lk_S3, st_q, st_P0, st_P1, st_P2, st_P3, st_P4, st_P5, st_P6, st_P7, st_P8, st_P9, st_L0, st_S0, st_L1, st_S1, st_L2, st_S2, st_L3, st_S3, st_L4, st_S4, st_L5, st_S5, st_L6, st_S6, st_L7, st_S7, st_L8, st_S8, st_L9, st_S9, st_I10, st_U10, st_I11, st_U11, st_I12, st_U12, z_85 hk, hz, c1, r1]
  · obtain ⟨i1, i2⟩ := hi
    have w1 := R7.seta (v := 0) 0 i1.1 (by omega) ho rfl rfl
    have w2 := R7.seta (v := 85) 4 w1 (by omega) ho rfl rfl
    have w3 := R7.seta (v := 0) 1 w2 (by omega) ho rfl rfl
    have w4 := R7.seta (v := 0) 2 w3 (by omega) ho rfl rfl
    have es : su (su (su (su (svV s o fun q => decide (q < 85)) (85 + 0) o 0) (85 + 4) o 85) (85 + 1) o 0) (85 + 2) o 0 = awy s o := by
      funext a b
      simp only [su_at, awy, svV, decide_eq_true_eq]
      by_cases e2 : b = o
      · by_cases e3 : a < 85
        · rw [if_neg (by omega), if_neg (by omega), if_neg (by omega), if_neg (by omega), if_pos ⟨e2, e3⟩, if_pos ⟨e2, by omega⟩]
        · by_cases e4 : a = 87
          · rw [if_pos ⟨e4, e2⟩, if_pos ⟨e2, by omega⟩]
          · rw [if_neg (by omega)]
            by_cases e5 : a = 86
            · rw [if_pos ⟨e5, e2⟩, if_pos ⟨e2, by omega⟩]
            · rw [if_neg (by omega)]
              by_cases e6 : a = 89
              · rw [if_pos ⟨e6, e2⟩, if_neg (by omega), if_pos ⟨e2, e6⟩]
              · rw [if_neg (by omega)]
                by_cases e7 : a = 85
                · rw [if_pos ⟨e7, e2⟩, if_pos ⟨e2, by omega⟩]
                · rw [if_neg (by omega), if_neg (by omega), if_neg (by omega), if_neg (by omega)]
      · rw [if_neg (fun z => e2 z.2), if_neg (fun z => e2 z.2), if_neg (fun z => e2 z.2), if_neg (fun z => e2 z.2), if_neg (fun z => e2 z.1), if_neg (fun z => e2 z.1), if_neg (fun z => e2 z.1)]
    rw [es] at w4
    have hDW : DW (upI (upI (upI (upI J (d + 1 + 2) o (n2 0)) (d + 1 + 6) o (n2 85)) (d + 1 + 3) o (n2 0)) (d + 1 + 4) o (n2 0)) d (awy s o) (Dk D0 (lP s o) o 0) := by
      refine ⟨w4, fun p hp => ?_⟩
      rw [upI_ne (by omega), upI_ne (by omega), upI_ne (by omega), upI_ne (by omega), i1.2 p hp]
      refine congrArg n2 (bits8_congr fun j hj => ?_)
      unfold lV Dk D0
      by_cases e : j = o ∧ p < 85 ∧ lP s o p = true
      · rw [if_pos e, if_pos ⟨e.1, by omega, e.2.2⟩]
      · rw [if_neg e, if_neg (fun z => e ⟨z.1, hp, z.2.2⟩)]
    have hF2 : Fdk J (upI (upI (upI (upI J (d + 1 + 2) o (n2 0)) (d + 1 + 6) o (n2 85)) (d + 1 + 3) o (n2 0)) (d + 1 + 4) o (n2 0)) d (d + 19) := (((Fdk.up (by omega) (by omega)).trans (Fdk.up (by omega) (by omega))).trans (Fdk.up (by omega) (by omega))).trans (Fdk.up (by omega) (by omega))
    obtain ⟨I3, r1, r2, r3⟩ := x0_l60 (L := L) (c := c) (t := t) (T := T) (o := o) (k0 := 0) (U := []) (P := lP s o) (fin := leaveS s o) hd hT ho (by omega) ⟨hDW, Fdk.rf _ _ _, iv_awy h ho, by rw [lP_lL, List.append_nil]; exact blk_awy h hB, Or.inr (by omega), (by show awy s o 85 o ≠ 2; rw [awy_lo (by omega)]; omega), fun q j _ _ => rfl, by rw [lP_lL]; rfl⟩
    refine ⟨I3, ?_, r2, (i2.trans hF2).trans r3⟩
    simp (disch := first | assumption | omega) only [fX0_leave_14, l_0, l_1, l_2, l_3, l_4, l_5, l_6, l_7, l_8, l_9, l_10, l_11, l_12, l_15, l_16, l_21, l_24, l_31, l_32, l_40, l_64, l_76, l_80, l_84, l_85, l_99, l_255, l_256, l_680, l_688, l_696, l_704, l_712, l_720, l_728, l_736, l_744, l_752, l_753, l_754, l_755, l_1000, l_2000, l_3000, l_7550, l_1000000, l_41, l_42, l_43, l_45, l_47, l_48, l_56, l_57, l_60, l_61, l_62, l_63, l_73, l_83, l_88, l_97, l_98, l_100, l_101, l_102, l_103, l_104, l_105, l_108, l_111, l_113, l_117, l_118, l_119, l_120, l_65536, n2_31, n2_add, n2_mul, n2_sub, n2_eq, n2_le, n2_lt, n2_div, n2_qz0, n2_qz1, n2_qzb, bn_0, bn_1, bn_t, bn_f, n2_eqm, n2_meq, n2_ltm, n2_mlt, n2_lem, n2_mle, if_true, if_false, qbnd_s, ite_true, ite_false, if_pos, reduceIte, dk_q, lk_q, dk_P0, dk_P1, dk_P2, dk_P3, dk_I4, dk_U4, dk_gL, dk_gS, dk_dL, dk_dS, lk_P0, lk_L0, lk_S0, lk_P1, lk_L1, lk_S1, lk_P2, lk_L2, lk_S2, lk_P3, lk_L3, lk_S3, st_q, st_P0, st_P1, st_P2, st_P3, st_P4, st_P5, st_P6, st_P7, st_P8, st_P9, st_L0, st_S0, st_L1, st_S1, st_L2, st_S2, st_L3, st_S3, st_L4, st_S4, st_L5, st_S5, st_L6, st_S6, st_L7, st_S7, st_L8, st_S8, st_L9, st_S9, st_I10, st_U10, st_I11, st_U11, st_I12, st_U12, Nat.le_refl]
    exact r1
end S7F

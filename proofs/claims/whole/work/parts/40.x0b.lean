/-! PURE SIDE, THE CLASS' DESK: going on, serving, leaving -/
theorem qfu_s : ∃ m, qfu = m + 1 := ⟨9999, by rw [qfu_eq]⟩
theorem goOnS_false {srv : St → Nat → St} {s : St} {o l : Nat} {z : St × Bool} (h : stepsS (lev (s 92 o) + 1 - l) s o (s 92 o) (s 93 o) l = z) (hz : z.2 = false) : goOnS srv s o l = (z.1, 0) := by
  unfold goOnS
  rw [h, if_pos hz]
theorem goOnS_true {srv : St → Nat → St} {s : St} {o l : Nat} {z : St × Bool} (h : stepsS (lev (s 92 o) + 1 - l) s o (s 92 o) (s 93 o) l = z) (hz : z.2 = true) : goOnS srv s o l = bulkS srv z.1 o (s 92 o) := by
  unfold goOnS
  rw [h, if_neg (by rw [hz]; simp)]
theorem hbel_lt (s : St) (o g : Nat) : hbel s o g ≤ 85 := by
  rw [hbel_cnt]
  have h1 := List.countP_le_length (p := fun q => decide (s q o ≠ 0)) (l := bel g)
  have h2 := List.length_filter_le (fun q => blw q g) (List.range 85)
  rw [List.length_range] at h2
  unfold bel at h1 ⊢
  omega
section S7E
variable {I : Nat → Nat → Int32} {L : Nat → Nat → Int64} {c t d : Nat} {s : St} {D : Nat → Nat → Bool} {R : qF}
theorem x0_bulk (hd : d ∈ dkl) {n dep T o g : Nat} {U : List Nat} (hS : SvR R d n (dep + 1)) (hT : T < 1000000000) (ho : o < 8) (hg : g < 85) (hW : DW I d s D) (h : Iv T s) (hB : Blk s U) (hr : s 85 o = 1) (hf : Wt s + 1 ≤ n) (hD0 : ∀ q, D q o = false) (hDw : ∀ q j, j < 8 → s 85 j = 2 → D q j = false) (m k : Nat) (hk : k = lev g + 1) :
    ∃ I', fX0_goOn_11 R (m + 1) d (n2 o) (n2 dep) (n2 g) (n2 (lev g)) (n2 k) (mk I L c t) = some (n2 (bulkS (srvS n) s o g).2, 0, mk I' L c t) ∧ DW I' d (bulkS (srvS n) s o g).1 D ∧ Fdk I I' d (d + 19) := by
  have ha := dk_st hd
  have hBd := h.bd hT
  have hnu := hBd.nu
  have hlv := lev_le g
  have h1 : lev g < k := by omega
  by_cases h3 : lev g = 3
  · obtain ⟨p1, p2, p3⟩ := page_rows (s := s) (o := o) hg h3
    have hb := hbel_lt s o (up g 2)
    by_cases h4 : s 94 2 ≤ hbel s o (up g 2)
    · obtain ⟨I', g1, g2, g3⟩ := x0_gatherAt (L := L) (c := c) (t := t) hd hS hT ho p1 hW h hB hr (Or.inl ⟨p3, hf⟩) hD0 hDw
      have e : bulkS (srvS n) s o g = if canG s o (up g 2) = true then ((gathS (srvS n) s o (up g 2)).1, 2) else ((gathS (srvS n) s o (up g 2)).1, 1) := by
        unfold bulkS
        rw [if_neg (by omega), if_pos h4]
        unfold gathS
        rcases bcs (canG s o (up g 2)) with e | e <;> simp [e]
      have h5 : ¬ hbel s o (up g 2) < s 94 2 := by omega
      have h6 : lev g - 1 = 2 := by omega
      refine ⟨I', ?_, ?_, g3⟩
      · rw [e]
        simp (disch := first | assumption | omega) only [fX0_goOn_11, fX0_goOn_89, l_0, l_1, l_2, l_3, l_4, l_5, l_6, l_7, l_8, l_9, l_10, l_11, l_12, l_15, l_16, l_21, l_24, l_31, l_32, l_40, l_64, l_76, l_80, l_84, l_85, l_99, l_255, l_256, l_680, l_688, l_696, l_704, l_712, l_720, l_728, l_736, l_744, l_752, l_753, l_754, l_755, l_1000, l_2000, l_3000, l_7550, l_1000000, l_41, l_42, l_43, l_45, l_47, l_48, l_56, l_57, l_60, l_61, l_62, l_63, l_73, l_83, l_88, l_97, l_98, l_100, l_101, l_102, l_103, l_104, l_105, l_108, l_111, l_113, l_117, l_118, l_119, l_120, l_65536, n2_31, n2_add, n2_mul, n2_sub, n2_eq, n2_le, n2_lt, n2_div, n2_qz0, n2_qz1, n2_qzb, bn_0, bn_1, bn_t, bn_f, n2_eqm, n2_meq, n2_ltm, n2_mlt, n2_lem, n2_mle, if_true, if_false, qbnd_s, ite_true, ite_false, if_pos, reduceIte, dk_q, lk_q, dk_P0, dk_P1, dk_P2, dk_P3, dk_I4, dk_U4, dk_gL, dk_gS, dk_dL, dk_dS, lk_P0, lk_L0, lk_S0, lk_P1, lk_L1, lk_S1, lk_P2, lk_L2, lk_S2, lk_P3, lk_L3, lk_S3, st_q, st_P0, st_P1, st_P2, st_P3, st_P4, st_P5, st_P6, st_P7, st_P8, st_P9, st_L0, st_S0, st_L1, st_S1, st_L2, st_S2, st_L3, st_S3, st_L4, st_S4, st_L5, st_S5, st_L6, st_S6, st_L7, st_S7, st_L8, st_S8, st_L9, st_S9, st_I10, st_U10, st_I11, st_U11, st_I12, st_U12, h1, h3, h6, x7_onPath hg (show 2 ≤ lev g by omega), x5_holdingsBelow ha hW.1 hBd ho p1, hW.1.gf, h5, g1, Nat.reduceSub]
        rcases bcs (canG s o (up g 2)) with e | e <;> simp [e]
      · rw [e]
        rcases bcs (canG s o (up g 2)) with e | e <;> simp only [e, if_true, Bool.false_eq_true, if_false] <;> exact g2
    · have e : bulkS (srvS n) s o g = (s, 1) := by
        unfold bulkS
        rw [if_neg (by omega), if_neg h4]
      have h5 : hbel s o (up g 2) < s 94 2 := by omega
      refine ⟨I, ?_, by rw [e]; exact hW, Fdk.rf _ _ _⟩
      rw [e]
      simp (disch := first | assumption | omega) only [fX0_goOn_11, fX0_goOn_89, l_0, l_1, l_2, l_3, l_4, l_5, l_6, l_7, l_8, l_9, l_10, l_11, l_12, l_15, l_16, l_21, l_24, l_31, l_32, l_40, l_64, l_76, l_80, l_84, l_85, l_99, l_255, l_256, l_680, l_688, l_696, l_704, l_712, l_720, l_728, l_736, l_744, l_752, l_753, l_754, l_755, l_1000, l_2000, l_3000, l_7550, l_1000000, l_41, l_42, l_43, l_45, l_47, l_48, l_56, l_57, l_60, l_61, l_62, l_63, l_73, l_83, l_88, l_97, l_98, l_100, l_101, l_102, l_103, l_104, l_105, l_108, l_111, l_113, l_117, l_118, l_119, l_120, l_65536, n2_31, n2_add, n2_mul, n2_sub, n2_eq, n2_le, n2_lt, n2_div, n2_qz0, n2_qz1, n2_qzb, bn_0, bn_1, bn_t, bn_f, n2_eqm, n2_meq, n2_ltm, n2_mlt, n2_lem, n2_mle, if_true, if_false, qbnd_s, ite_true, ite_false, if_pos, reduceIte, dk_q, lk_q, dk_P0, dk_P1, dk_P2, dk_P3, dk_I4, dk_U4, dk_gL, dk_gS, dk_dL, dk_dS, lk_P0, lk_L0, lk_S0, lk_P1, lk_L1, lk_S1, lk_P2, lk_L2, lk_S2, lk_P3, lk_L3, lk_S3, st_q, st_P0, st_P1, st_P2, st_P3, st_P4, st_P5, st_P6, st_P7, st_P8, st_P9, st_L0, st_S0, st_L1, st_S1, st_L2, st_S2, st_L3, st_S3, st_L4, st_S4, st_L5, st_S5, st_L6, st_S6, st_L7, st_S7, st_L8, st_S8, st_L9, st_S9, st_I10, st_U10, st_I11, st_U11, st_I12, st_U12, h1, h3, x7_onPath hg (show 2 ≤ lev g by omega), x5_holdingsBelow ha hW.1 hBd ho p1, hW.1.gf, h5, Nat.reduceSub]
  · have e : bulkS (srvS n) s o g = (s, 1) := by
      unfold bulkS
      rw [if_pos h3]
    refine ⟨I, ?_, by rw [e]; exact hW, Fdk.rf _ _ _⟩
    rw [e]
    simp (disch := first | assumption | omega) only [fX0_goOn_11, l_0, l_1, l_2, l_3, l_4, l_5, l_6, l_7, l_8, l_9, l_10, l_11, l_12, l_15, l_16, l_21, l_24, l_31, l_32, l_40, l_64, l_76, l_80, l_84, l_85, l_99, l_255, l_256, l_680, l_688, l_696, l_704, l_712, l_720, l_728, l_736, l_744, l_752, l_753, l_754, l_755, l_1000, l_2000, l_3000, l_7550, l_1000000, l_41, l_42, l_43, l_45, l_47, l_48, l_56, l_57, l_60, l_61, l_62, l_63, l_73, l_83, l_88, l_97, l_98, l_100, l_101, l_102, l_103, l_104, l_105, l_108, l_111, l_113, l_117, l_118, l_119, l_120, l_65536, n2_31, n2_add, n2_mul, n2_sub, n2_eq, n2_le, n2_lt, n2_div, n2_qz0, n2_qz1, n2_qzb, bn_0, bn_1, bn_t, bn_f, n2_eqm, n2_meq, n2_ltm, n2_mlt, n2_lem, n2_mle, if_true, if_false, qbnd_s, ite_true, ite_false, if_pos, reduceIte, dk_q, lk_q, dk_P0, dk_P1, dk_P2, dk_P3, dk_I4, dk_U4, dk_gL, dk_gS, dk_dL, dk_dS, lk_P0, lk_L0, lk_S0, lk_P1, lk_L1, lk_S1, lk_P2, lk_L2, lk_S2, lk_P3, lk_L3, lk_S3, st_q, st_P0, st_P1, st_P2, st_P3, st_P4, st_P5, st_P6, st_P7, st_P8, st_P9, st_L0, st_S0, st_L1, st_S1, st_L2, st_S2, st_L3, st_S3, st_L4, st_S4, st_L5, st_S5, st_L6, st_S6, st_L7, st_S7, st_L8, st_S8, st_L9, st_S9, st_I10, st_U10, st_I11, st_U11, st_I12, st_U12, h1, h3]
theorem x0_goOn (hd : d ∈ dkl) {n dep T o l : Nat} {U : List Nat} (hS : SvR R d n (dep + 1)) (hT : T < 1000000000) (ho : o < 8) (hW : DW I d s D) (h : Iv T s) (hB : Blk s U) (hr : s 85 o = 1) (hm : 1 ≤ s 93 o) (hl : l ≤ lev (s 92 o) + 1) (hp : 1 ≤ l → s (up (s 92 o) (l - 1)) o ≠ 0) (hf : Wt s + 1 ≤ n) (hD0 : ∀ q, D q o = false) (hDw : ∀ q j, j < 8 → s 85 j = 2 → D q j = false) :
    ∃ I', fX0_goOn R d (n2 o) (n2 l) (n2 dep) (mk I L c t) = some (n2 (goOnS (srvS n) s o l).2, 0, mk I' L c t) ∧ DW I' d (goOnS (srvS n) s o l).1 D ∧ Fdk I I' d (d + 19) := by
  have ha := dk_st hd
  have hg : s 92 o < 85 := by have := (h.2.1 o ho).2.2.2.2.2.1; omega
  have hm6 : s 93 o ≤ 6 := (h.2.1 o ho).2.2.2.2.2.2
  have hlv := lev_le (s 92 o)
  have e0 : fX0_goOn R d (n2 o) (n2 l) (n2 dep) (mk I L c t) = fX0_goOn_11 R qfu d (n2 o) (n2 dep) (n2 (s 92 o)) (n2 (lev (s 92 o))) (n2 l) (mk I L c t) := by
    simp (disch := first | assumption | omega) only [fX0_goOn, gX0_goOn, l_0, l_1, l_2, l_3, l_4, l_5, l_6, l_7, l_8, l_9, l_10, l_11, l_12, l_15, l_16, l_21, l_24, l_31, l_32, l_40, l_64, l_76, l_80, l_84, l_85, l_99, l_255, l_256, l_680, l_688, l_696, l_704, l_712, l_720, l_728, l_736, l_744, l_752, l_753, l_754, l_755, l_1000, l_2000, l_3000, l_7550, l_1000000, l_41, l_42, l_43, l_45, l_47, l_48, l_56, l_57, l_60, l_61, l_62, l_63, l_73, l_83, l_88, l_97, l_98, l_100, l_101, l_102, l_103, l_104, l_105, l_108, l_111, l_113, l_117, l_118, l_119, l_120, l_65536, n2_31, n2_add, n2_mul, n2_sub, n2_eq, n2_le, n2_lt, n2_div, n2_qz0, n2_qz1, n2_qzb, bn_0, bn_1, bn_t, bn_f, n2_eqm, n2_meq, n2_ltm, n2_mlt, n2_lem, n2_mle, if_true, if_false, qbnd_s, ite_true, ite_false, if_pos, reduceIte, dk_q, lk_q, dk_P0, dk_P1, dk_P2, dk_P3, dk_I4, dk_U4, dk_gL, dk_gS, dk_dL, dk_dS, lk_P0, lk_L0, lk_S0, lk_P1, lk_L1, lk_S1, lk_P2, lk_L2, lk_S2, lk_P3, lk_L3, lk_S3, st_q, st_P0, st_P1, st_P2, st_P3, st_P4, st_P5, st_P6, st_P7, st_P8, st_P9, st_L0, st_S0, st_L1, st_S1, st_L2, st_S2, st_L3, st_S3, st_L4, st_S4, st_L5, st_S5, st_L6, st_S6, st_L7, st_S7, st_L8, st_S8, st_L9, st_S9, st_I10, st_U10, st_I11, st_U11, st_I12, st_U12, hW.1.go, x7_levelOf hg]
  rw [e0]
  obtain ⟨g, eg⟩ : ∃ g, s 92 o = g := ⟨_, rfl⟩
  obtain ⟨m, em⟩ : ∃ m, s 93 o = m := ⟨_, rfl⟩
  obtain ⟨z, ez⟩ : ∃ z, stepsS (lev (s 92 o) + 1 - l) s o (s 92 o) (s 93 o) l = z := ⟨_, rfl⟩
  have hz0 := ez
  rw [eg] at hg hl hp hlv ⊢
  rw [em] at hm hm6
  rw [eg, em] at hz0
  refine lp_rk (α := (Nat → Nat → Int32) × St) (fun y k w => fX0_goOn_11 R y d (n2 o) (n2 dep) (n2 g) (n2 (lev g)) (n2 k) (mk w.1 L c t)) (lev g + 1)
    (fun k w => DW w.1 d w.2 D ∧ Fdk I w.1 d (d + 19) ∧ Iv T w.2 ∧ Blk w.2 U ∧ w.2 85 o = 1 ∧ w.2 92 o = g ∧ w.2 93 o = m ∧ (1 ≤ k → w.2 (up g (k - 1)) o ≠ 0) ∧ (∀ j, w.2 85 j = s 85 j) ∧ stepsS (lev g + 1 - k) w.2 o g m k = z)
    (fun r => ∃ I', r = some (n2 (goOnS (srvS n) s o l).2, 0, mk I' L c t) ∧ DW I' d (goOnS (srvS n) s o l).1 D ∧ Fdk I I' d (d + 19)) (k0 := l) hl (by omega) (I, s) ⟨hW, Fdk.rf _ _ _, h, hB, hr, eg, em, hp, fun _ => rfl, hz0⟩ (fun y k w hk0 hk hi => ?_) (fun y w hi => ?_)
  · obtain ⟨I1, s1⟩ := w
    obtain ⟨h1, h2, h3, h4, h5, h6, h7, h8, h9, h10⟩ := hi
    dsimp only at h1 h2 h3 h4 h5 h6 h7 h8 h9 h10
    have hBd := h3.bd hT
    have hq := up_lt hg k
    have hpu := par_up _ hg k (by omega)
    have hmd := hBd.md hq ho
    have hst := stepm_le (g := g) (l := k) hm6
    have hsp := stepm_pos (g := g) (l := k) hm
    have hw6 := both_le hmd hst
    have hw1 := both_pos7 (s1 (up g k) o) (by omega) (stepm g k m) (by omega) hsp
    have hws := (stg_both7 (s1 (up g k) o) (by omega) (stepm g k m) (by omega)).1
    have h11 : ¬ lev g < k := by omega
    have hstep : lev g + 1 - k = (lev g - k) + 1 := by omega
    have hmo : I1 (d + 1 + 10) o = n2 m := by rw [h1.1.mo ho, h7]
    rw [hstep] at h10
    simp only [stepsS] at h10
    by_cases e1 : wnt s1 o g m k = s1 (up g k) o
    · right
      rw [if_pos e1] at h10
      refine ⟨(I1, s1), ?_, h1, h2, h3, h4, h5, h6, h7, fun _ => ?_, h9, by rw [show lev g + 1 - (k + 1) = lev g - k by omega]; exact h10⟩
      · unfold wnt at e1
        simp (disch := first | assumption | omega) only [fX0_goOn_11, l_0, l_1, l_2, l_3, l_4, l_5, l_6, l_7, l_8, l_9, l_10, l_11, l_12, l_15, l_16, l_21, l_24, l_31, l_32, l_40, l_64, l_76, l_80, l_84, l_85, l_99, l_255, l_256, l_680, l_688, l_696, l_704, l_712, l_720, l_728, l_736, l_744, l_752, l_753, l_754, l_755, l_1000, l_2000, l_3000, l_7550, l_1000000, l_41, l_42, l_43, l_45, l_47, l_48, l_56, l_57, l_60, l_61, l_62, l_63, l_73, l_83, l_88, l_97, l_98, l_100, l_101, l_102, l_103, l_104, l_105, l_108, l_111, l_113, l_117, l_118, l_119, l_120, l_65536, n2_31, n2_add, n2_mul, n2_sub, n2_eq, n2_le, n2_lt, n2_div, n2_qz0, n2_qz1, n2_qzb, bn_0, bn_1, bn_t, bn_f, n2_eqm, n2_meq, n2_ltm, n2_mlt, n2_lem, n2_mle, if_true, if_false, qbnd_s, ite_true, ite_false, if_pos, reduceIte, dk_q, lk_q, dk_P0, dk_P1, dk_P2, dk_P3, dk_I4, dk_U4, dk_gL, dk_gS, dk_dL, dk_dS, lk_P0, lk_L0, lk_S0, lk_P1, lk_L1, lk_S1, lk_P2, lk_L2, lk_S2, lk_P3, lk_L3, lk_S3, st_q, st_P0, st_P1, st_P2, st_P3, st_P4, st_P5, st_P6, st_P7, st_P8, st_P9, st_L0, st_S0, st_L1, st_S1, st_L2, st_S2, st_L3, st_S3, st_L4, st_S4, st_L5, st_S5, st_L6, st_S6, st_L7, st_S7, st_L8, st_S8, st_L9, st_S9, st_I10, st_U10, st_I11, st_U11, st_I12, st_U12, h11, x7_onPath hg (show k ≤ lev g by omega), x5_modeAt ha h1.1 ho hq, hmo, x7_stepMode hg (show k ≤ lev g by omega) hm6, tb2 hmd hst, e1]
      · show s1 (up g (k + 1 - 1)) o ≠ 0
        rw [Nat.add_sub_cancel]
        unfold wnt at e1
        omega
    · rw [if_neg e1] at h10
      rcases bcs (opn s1 o (up g k) (wnt s1 o g m k)) with e2 | e2
      · left
        rw [if_neg (by rw [e2]; simp)] at h10
        obtain ⟨I2, r1, r2, r3⟩ := x5_enqueue (L := L) (c := c) (t := t) (p := up g k) (m := wnt s1 o g m k) ha h1.1 ho
        have hgo := goOnS_false (srv := srvS n) ez (by rw [← h10])
        refine ⟨I2, ?_, ?_, h2.trans (r3.dd)⟩
        · rw [hgo]
          unfold wnt at e1 e2 r1
          simp (disch := first | assumption | omega) only [fX0_goOn_11, l_0, l_1, l_2, l_3, l_4, l_5, l_6, l_7, l_8, l_9, l_10, l_11, l_12, l_15, l_16, l_21, l_24, l_31, l_32, l_40, l_64, l_76, l_80, l_84, l_85, l_99, l_255, l_256, l_680, l_688, l_696, l_704, l_712, l_720, l_728, l_736, l_744, l_752, l_753, l_754, l_755, l_1000, l_2000, l_3000, l_7550, l_1000000, l_41, l_42, l_43, l_45, l_47, l_48, l_56, l_57, l_60, l_61, l_62, l_63, l_73, l_83, l_88, l_97, l_98, l_100, l_101, l_102, l_103, l_104, l_105, l_108, l_111, l_113, l_117, l_118, l_119, l_120, l_65536, n2_31, n2_add, n2_mul, n2_sub, n2_eq, n2_le, n2_lt, n2_div, n2_qz0, n2_qz1, n2_qzb, bn_0, bn_1, bn_t, bn_f, n2_eqm, n2_meq, n2_ltm, n2_mlt, n2_lem, n2_mle, if_true, if_false, qbnd_s, ite_true, ite_false, if_pos, reduceIte, dk_q, lk_q, dk_P0, dk_P1, dk_P2, dk_P3, dk_I4, dk_U4, dk_gL, dk_gS, dk_dL, dk_dS, lk_P0, lk_L0, lk_S0, lk_P1, lk_L1, lk_S1, lk_P2, lk_L2, lk_S2, lk_P3, lk_L3, lk_S3, st_q, st_P0, st_P1, st_P2, st_P3, st_P4, st_P5, st_P6, st_P7, st_P8, st_P9, st_L0, st_S0, st_L1, st_S1, st_L2, st_S2, st_L3, st_S3, st_L4, st_S4, st_L5, st_S5, st_L6, st_S6, st_L7, st_S7, st_L8, st_S8, st_L9, st_S9, st_I10, st_U10, st_I11, st_U11, st_I12, st_U12, h11, x7_onPath hg (show k ≤ lev g by omega), x5_modeAt ha h1.1 ho hq, hmo, x7_stepMode hg (show k ≤ lev g by omega) hm6, tb2 hmd hst, e1, x5_isOpen ha h1.1 hBd ho hq hw6, e2, r1]
        · rw [hgo, ← h10]
          exact ⟨r2, fun p hp => by rw [r3 _ _ (by omega)]; exact h1.2 p hp⟩
      · right
        rw [if_pos e2] at h10
        have i1 := iv_raise (q := up g k) (w := wnt s1 o g m k) h3 ho h5 hq hw1 hw6 (fun z => by
          rw [hpu.2 (hpu.1.mpr z)]
          exact h8 (hpu.1.mpr z))
        have i2 := blk_raise (q := up g k) (w := wnt s1 o g m k) h3 ho (by omega) hq hws hw6 h4
        have e : ∀ k' j, 85 ≤ k' → su s1 (up g k) o (wnt s1 o g m k) k' j = s1 k' j := fun k' j hk => su_ne (by omega)
        refine ⟨(upI I1 (d + 1 + 1) (up g k) (nst (I1 (d + 1 + 1) (up g k)) o (wnt s1 o g m k)), su s1 (up g k) o (wnt s1 o g m k)), ?_, ⟨R7.mode h1.1 ho hq hw6, fun p hp => (by dsimp only; rw [upI_ne (by omega)]; exact h1.2 p hp)⟩, h2.trans (Fdk.up (by omega) (by omega)), i1, i2, (e 85 o (by omega)).trans h5, (e 92 o (by omega)).trans h6, (e 93 o (by omega)).trans h7, fun _ => ?_, fun j => (e 85 j (by omega)).trans (h9 j), by rw [show lev g + 1 - (k + 1) = lev g - k by omega]; exact h10⟩
        · unfold wnt at e1 e2 ⊢
          simp (disch := first | assumption | omega) only [fX0_goOn_11, l_0, l_1, l_2, l_3, l_4, l_5, l_6, l_7, l_8, l_9, l_10, l_11, l_12, l_15, l_16, l_21, l_24, l_31, l_32, l_40, l_64, l_76, l_80, l_84, l_85, l_99, l_255, l_256, l_680, l_688, l_696, l_704, l_712, l_720, l_728, l_736, l_744, l_752, l_753, l_754, l_755, l_1000, l_2000, l_3000, l_7550, l_1000000, l_41, l_42, l_43, l_45, l_47, l_48, l_56, l_57, l_60, l_61, l_62, l_63, l_73, l_83, l_88, l_97, l_98, l_100, l_101, l_102, l_103, l_104, l_105, l_108, l_111, l_113, l_117, l_118, l_119, l_120, l_65536, n2_31, n2_add, n2_mul, n2_sub, n2_eq, n2_le, n2_lt, n2_div, n2_qz0, n2_qz1, n2_qzb, bn_0, bn_1, bn_t, bn_f, n2_eqm, n2_meq, n2_ltm, n2_mlt, n2_lem, n2_mle, if_true, if_false, qbnd_s, ite_true, ite_false, if_pos, reduceIte, dk_q, lk_q, dk_P0, dk_P1, dk_P2, dk_P3, dk_I4, dk_U4, dk_gL, dk_gS, dk_dL, dk_dS, lk_P0, lk_L0, lk_S0, lk_P1, lk_L1, lk_S1, lk_P2, lk_L2, lk_S2, lk_P3, lk_L3, lk_S3, st_q, st_P0, st_P1, st_P2, st_P3, st_P4, st_P5, st_P6, st_P7, st_P8, st_P9, st_L0, st_S0, st_L1, st_S1, st_L2, st_S2, st_L3, st_S3, st_L4, st_S4, st_L5, st_S5, st_L6, st_S6, st_L7, st_S7, st_L8, st_S8, st_L9, st_S9, st_I10, st_U10, st_I11, st_U11, st_I12, st_U12, h11, x7_onPath hg (show k ≤ lev g by omega), x5_modeAt ha h1.1 ho hq, hmo, x7_stepMode hg (show k ≤ lev g by omega) hm6, tb2 hmd hst, e1, x5_isOpen ha h1.1 hBd ho hq hw6, e2, x5_setMode ha ho hq]
          simp
        · show su s1 (up g k) o (wnt s1 o g m k) (up g (k + 1 - 1)) o ≠ 0
          rw [Nat.add_sub_cancel, su_eq]
          unfold wnt
          omega
  · obtain ⟨I1, s1⟩ := w
    obtain ⟨h1, h2, h3, h4, h5, h6, h7, h8, h9, h10⟩ := hi
    dsimp only at h1 h2 h3 h4 h5 h6 h7 h8 h9 h10
    rw [Nat.sub_self] at h10
    have hgo := goOnS_true (srv := srvS n) ez (by rw [← h10]; rfl)
    have hz1 : z.1 = s1 := by rw [← h10]; rfl
    obtain ⟨I2, r1, r2, r3⟩ := x0_bulk (L := L) (c := c) (t := t) hd hS hT ho hg h1 h3 h4 h5 (by rw [Wt_row h9]; exact hf) hD0 (fun q j hj hw => hDw q j hj (by rw [← h9 j]; exact hw)) y (lev g + 1) rfl
    refine ⟨I2, ?_, ?_, h2.trans r3⟩
    · rw [hgo, hz1, eg]; exact r1
    · rw [hgo, hz1, eg]; exact r2
/-! serving -/
theorem nib_or (w : Int32) {c i m : Nat} (hc : c < 8) (hi : i < 8) (hm : m < 16) : nib (w ||| (n2 m <<< n2 (4 * c))) i = if i = c then nib w c ||| n2 m else nib w i := by
  apply i32_ext
  intro j _
  rw [nib_bit _ hi, n2_shl (by omega), Int32.toBitVec_or, BitVec.getLsbD_or, n2_bv, BitVec.getLsbD_ofNat, Nat.testBit_shiftLeft]
  by_cases e : i = c
  · subst e
    rw [if_pos rfl, Int32.toBitVec_or, BitVec.getLsbD_or, nib_bit _ hi, n2_bit hm]
    by_cases h : j < 4
    · have h1 : 4 * i + j < 32 := by omega
      simp [h, h1]
    · simp [h]
  · rw [if_neg e, nib_bit _ hi]
    by_cases h : j < 4
    · by_cases h1 : 4 * c ≤ 4 * i + j
      · have h3 : m.testBit (4 * i + j - 4 * c) = false := Nat.testBit_lt_two_pow (Nat.lt_of_lt_of_le hm (Nat.pow_le_pow_right (n := 2) (i := 4) (by omega) (by omega)))
        simp [h, h3]
      · simp [h, h1]
    · simp [h]
theorem nib_7 {w : Int32} {i o : Nat} (h : nib w i = n2 o) (ho : o < 8) : qush w (n2 (4 * i)) &&& n2 7 = n2 o := by
  have e : n2 7 = n2 15 &&& n2 7 := by decide +kernel
  rw [e, ← Int32.and_assoc]
  have : qush w (n2 (4 * i)) &&& n2 15 = n2 o := h
  rw [this, n2_and, show o &&& 7 = o from by
    have h1 : o % 2 ^ 3 = o := Nat.mod_eq_of_lt (by omega)
    rw [← Nat.and_two_pow_sub_one_eq_mod] at h1
    exact h1]
theorem x0_s53 (hd : d ∈ dkl) {n dep T0 T p : Nat} {U : List Nat} {gl : List Nat} {w : Int32} (hS : SvR R d n (dep + 1)) (hT : T < 1000000000) (hp : p < 85) (hW : DW I d s D) (h : Iv T0 s) (hB : Blk s U) (hnd : gl.Nodup) (hpd : ∀ o ∈ gl, Pd s p o) (hT0 : T0 + gl.length * (3 - lev p) ≤ T) (hf : 21 ≤ p ∧ Wt s + 1 ≤ n ∨ 9 ≤ n) (hw : ∀ i, i < gl.length → nib w i = n2 (gl.getD i 0)) (hlen : gl.length ≤ 8)
    (hDg : ∀ o ∈ gl, ∀ q, D q o = false) (hDw : ∀ q j, j < 8 → s 85 j = 2 → D q j = false) :
    ∃ I', fX0_serve_53 R qfu d (n2 dep) w (n2 gl.length) (n2 (lev p)) (n2 0) (mk I L c t) = some (n2 0, 0, mk I' L c t) ∧ DW I' d (gl.foldl (fun s o => (goOnS (srvS n) s o (lev p + 1)).1) s) D ∧ Fdk I I' d (d + 19) := by
  have hlv := lev_le p
  refine lp_rk (α := (Nat → Nat → Int32) × St × Nat) (fun y k z => fX0_serve_53 R y d (n2 dep) w (n2 gl.length) (n2 (lev p)) (n2 k) (mk z.1 L c t)) gl.length
    (fun k z => DW z.1 d z.2.1 D ∧ Fdk I z.1 d (d + 19) ∧ Iv z.2.2 z.2.1 ∧ Blk z.2.1 U ∧ (∀ o ∈ gl.drop k, Pd z.2.1 p o) ∧ z.2.2 + (gl.length - k) * (3 - lev p) ≤ T ∧ (21 ≤ p ∧ Wt z.2.1 + 1 ≤ n ∨ 9 ≤ n) ∧ (∀ q j, j < 8 → z.2.1 85 j = 2 → D q j = false) ∧ (gl.drop k).foldl (fun s o => (goOnS (srvS n) s o (lev p + 1)).1) z.2.1 = gl.foldl (fun s o => (goOnS (srvS n) s o (lev p + 1)).1) s)
    (fun r => ∃ I', r = some (n2 0, 0, mk I' L c t) ∧ DW I' d (gl.foldl (fun s o => (goOnS (srvS n) s o (lev p + 1)).1) s) D ∧ Fdk I I' d (d + 19)) (k0 := 0) (Nat.zero_le _) (by omega) (I, s, T0) ⟨hW, Fdk.rf _ _ _, h, hB, by rw [List.drop_zero]; exact hpd, by simpa using hT0, hf, hDw, by rw [List.drop_zero]⟩ (fun y k z hk0 hk hi => Or.inr ?_) (fun y z hi => ?_)
  · obtain ⟨I1, s1, T1⟩ := z
    obtain ⟨h1, h2, h3, h4, h5, h6, h7, h8, h9⟩ := hi
    dsimp only at h1 h2 h3 h4 h5 h6 h7 h8 h9
    have hdr : gl.drop k = gl.getD k 0 :: gl.drop (k + 1) := by
      rw [List.drop_eq_getElem_cons hk]
      congr 1
      rw [List.getD_eq_getElem?_getD, List.getElem?_eq_getElem hk]
      rfl
    rw [hdr] at h5 h9
    have hnd2 : (gl.drop k).Nodup := hnd.sublist (List.drop_sublist _ _)
    rw [hdr, List.nodup_cons] at hnd2
    obtain ⟨o, eo⟩ : ∃ o, gl.getD k 0 = o := ⟨_, rfl⟩
    rw [eo] at h5 h9 hnd2
    have hogl : o ∈ gl := List.mem_of_mem_drop (i := k) (by rw [hdr, eo]; exact List.mem_cons_self)
    obtain ⟨p1, p2, p3, p4, p5, p6⟩ := h5 o List.mem_cons_self
    have hf1 : Wt s1 + 1 ≤ n := by
      have := Wt_le s1
      omega
    have hT1 : T1 < 1000000000 := by omega
    have hpl : 1 ≤ lev p + 1 → s1 (up (s1 92 o) (lev p + 1 - 1)) o ≠ 0 := fun _ => by
      rw [Nat.add_sub_cancel, ← p5]; exact p6
    obtain ⟨a1, a2, a3, a4, a5, a6⟩ := goOn_ok (srv_ok n) (l := lev p + 1) h3 h4 p1 p2 p3 (by omega) hpl hf1
    obtain ⟨I2, r1, r2, r3⟩ := x0_goOn (L := L) (c := c) (t := t) hd (l := lev p + 1) hS hT1 p1 h1 h3 h4 p2 p3 (by omega) hpl hf1 (hDg o hogl) h8
    have hnk : gl.length - k = (gl.length - (k + 1)) + 1 := by omega
    rw [hnk, Nat.succ_mul] at h6
    refine ⟨(I2, (goOnS (srvS n) s1 o (lev p + 1)).1, T1 + (4 - (lev p + 1))), ?_, r2, h2.trans r3, a1, a2, fun x hx => ?_, ?_, ?_, fun q j hj hwj => ?_, ?_⟩
    · have hwk := hw k hk
      rw [eo] at hwk
      have hle : ¬ gl.length ≤ k := by omega
      simp (disch := first | assumption | omega) only [fX0_serve_53, l_0, l_1, l_2, l_3, l_4, l_5, l_6, l_7, l_8, l_9, l_10, l_11, l_12, l_15, l_16, l_21, l_24, l_31, l_32, l_40, l_64, l_76, l_80, l_84, l_85, l_99, l_255, l_256, l_680, l_688, l_696, l_704, l_712, l_720, l_728, l_736, l_744, l_752, l_753, l_754, l_755, l_1000, l_2000, l_3000, l_7550, l_1000000, l_41, l_42, l_43, l_45, l_47, l_48, l_56, l_57, l_60, l_61, l_62, l_63, l_73, l_83, l_88, l_97, l_98, l_100, l_101, l_102, l_103, l_104, l_105, l_108, l_111, l_113, l_117, l_118, l_119, l_120, l_65536, n2_31, n2_add, n2_mul, n2_sub, n2_eq, n2_le, n2_lt, n2_div, n2_qz0, n2_qz1, n2_qzb, bn_0, bn_1, bn_t, bn_f, n2_eqm, n2_meq, n2_ltm, n2_mlt, n2_lem, n2_mle, if_true, if_false, qbnd_s, ite_true, ite_false, if_pos, reduceIte, hle, nib_7 hwk p1, r1]
    · have hx2 := h5 x (List.mem_cons_of_mem _ hx)
      exact hx2.cf hp (a3 x hx2.1 (fun z => hnd2.1 (z ▸ hx)) (by rw [hx2.2.1]; omega))
    · show T1 + (4 - (lev p + 1)) + (gl.length - (k + 1)) * (3 - lev p) ≤ T
      omega
    · rcases h7 with ⟨f1, f2⟩ | f
      · left
        have := Wt_mono (a5 (by have := (lev_3 p hp).mpr f1; omega))
        exact ⟨f1, Nat.le_trans (Nat.succ_le_succ this) f2⟩
      · exact Or.inr f
    · by_cases e : j = o
      · rw [e]; exact hDg o hogl q
      · by_cases e2 : s1 85 j = 2
        · exact h8 q j hj e2
        · exact absurd hwj (by
            show ¬ (goOnS (srvS n) s1 o (lev p + 1)).1 85 j = 2
            rw [a3 j hj e e2 85 (by omega)]; exact e2)
    · rw [List.foldl_cons] at h9
      exact h9
  · obtain ⟨I1, s1, T1⟩ := z
    obtain ⟨h1, h2, h3, h4, h5, h6, h7, h8, h9⟩ := hi
    dsimp only at h1 h2 h3 h4 h5 h6 h7 h8 h9
    rw [List.drop_length, List.foldl_nil] at h9
    refine ⟨I1, ?_, by rw [← h9]; exact h1, h2⟩
    simp (disch := first | assumption | omega) only [fX0_serve_53, l_0, l_1, l_2, l_3, l_4, l_5, l_6, l_7, l_8, l_9, l_10, l_11, l_12, l_15, l_16, l_21, l_24, l_31, l_32, l_40, l_64, l_76, l_80, l_84, l_85, l_99, l_255, l_256, l_680, l_688, l_696, l_704, l_712, l_720, l_728, l_736, l_744, l_752, l_753, l_754, l_755, l_1000, l_2000, l_3000, l_7550, l_1000000, l_41, l_42, l_43, l_45, l_47, l_48, l_56, l_57, l_60, l_61, l_62, l_63, l_73, l_83, l_88, l_97, l_98, l_100, l_101, l_102, l_103, l_104, l_105, l_108, l_111, l_113, l_117, l_118, l_119, l_120, l_65536, n2_31, n2_add, n2_mul, n2_sub, n2_eq, n2_le, n2_lt, n2_div, n2_qz0, n2_qz1, n2_qzb, bn_0, bn_1, bn_t, bn_f, n2_eqm, n2_meq, n2_ltm, n2_mlt, n2_lem, n2_mle, if_true, if_false, qbnd_s, ite_true, ite_false, if_pos, reduceIte, Nat.le_refl]
theorem x0_serve (hd : d ∈ dkl) {n dep T p : Nat} {U : List Nat} (hS : SvR R d n (dep + 1)) (hdep : dep ≤ 16) (hT : T < 1000000000) (hp : p < 85) (hW : DW I d s D) (h : Iv T s) (hB : Blk s (p :: U)) (hn : need s p ≤ n + 1) (hDw : ∀ q j, j < 8 → s 85 j = 2 → D q j = false) :
    ∃ I', fX0_serve R d (n2 p) (n2 dep) (mk I L c t) = some (n2 0, 0, mk I' L c t) ∧ DW I' d (srvS (n + 1) s p) D ∧ Fdk I I' d (d + 19) := by
  have ha := dk_st hd
  have hz := grants_ok hp 8 T (s 94 0 + pot s) s h hB (Wt_le s) (Nat.le_refl _) h.2.2.2.2.2.2.2.1
  have hpd := pend_of h hp hz
  obtain ⟨g1, g2, g3, g4, g5, g6, g7, g8⟩ := hz
  have hT2 := h.2.2.2.2.2.2.2.1
  have hsv : srvS (n + 1) s p = (grantsS 8 s p).2.foldl (fun s o => (goOnS (srvS n) s o (lev p + 1)).1) (grantsS 8 s p).1 := rfl
  generalize hzf : grantsS 8 s p = zf at *
  have e0 : fX0_serve R d (n2 p) (n2 dep) (mk I L c t) = fX0_serve_10 R qfu d (n2 p) (n2 dep) (n2 0) (n2 0) (n2 0) (mk I L c t) := by
    simp (disch := first | assumption | omega) only [fX0_serve, gX0_serve, l_0, l_1, l_2, l_3, l_4, l_5, l_6, l_7, l_8, l_9, l_10, l_11, l_12, l_15, l_16, l_21, l_24, l_31, l_32, l_40, l_64, l_76, l_80, l_84, l_85, l_99, l_255, l_256, l_680, l_688, l_696, l_704, l_712, l_720, l_728, l_736, l_744, l_752, l_753, l_754, l_755, l_1000, l_2000, l_3000, l_7550, l_1000000, l_41, l_42, l_43, l_45, l_47, l_48, l_56, l_57, l_60, l_61, l_62, l_63, l_73, l_83, l_88, l_97, l_98, l_100, l_101, l_102, l_103, l_104, l_105, l_108, l_111, l_113, l_117, l_118, l_119, l_120, l_65536, n2_31, n2_add, n2_mul, n2_sub, n2_eq, n2_le, n2_lt, n2_div, n2_qz0, n2_qz1, n2_qzb, bn_0, bn_1, bn_t, bn_f, n2_eqm, n2_meq, n2_ltm, n2_mlt, n2_lem, n2_mle, if_true, if_false, qbnd_s, ite_true, ite_false, if_pos, reduceIte, dk_q, lk_q, dk_P0, dk_P1, dk_P2, dk_P3, dk_I4, dk_U4, dk_gL, dk_gS, dk_dL, dk_dS, lk_P0, lk_L0, lk_S0, lk_P1, lk_L1, lk_S1, lk_P2, lk_L2, lk_S2, lk_P3, lk_L3, lk_S3, hdep]
  rw [e0]
  -- once all are granted
  have fin : ∀ (I1 : Nat → Nat → Int32) (w : Int32), DW I1 d zf.1 D → Fdk I I1 d (d + 19) → (∀ i, i < zf.2.length → nib w i = n2 (zf.2.getD i 0)) → ∃ I', fX0_serve_53 R qfu d (n2 dep) w (n2 zf.2.length) (n2 (lev p)) (n2 0) (mk I1 L c t) = some (n2 0, 0, mk I' L c t) ∧ DW I' d (srvS (n + 1) s p) D ∧ Fdk I I' d (d + 19) := by
    intro I1 w hW1 hF1 hw
    have h0 : Iv (T - zf.2.length * (3 - lev p)) zf.1 := by
      obtain ⟨i1, i2, i3, i4, i5, i6, i7, i8, i9, i10, i11⟩ := g1
      exact ⟨i1, i2, i3, i4, i5, i6, i7, by omega, i9, i10, i11⟩
    have hWt := Wt_le s
    by_cases hgl : zf.2 = []
    · have hs : srvS (n + 1) s p = zf.1 := by
        rw [hsv, hgl, List.foldl_nil]
      rw [hgl, hs]
      refine ⟨I1, ?_, hW1, hF1⟩
      obtain ⟨m, hm⟩ := qfu_s
      rw [hm]
      simp (disch := first | assumption | omega) only [fX0_serve_53, l_0, l_1, l_2, l_3, l_4, l_5, l_6, l_7, l_8, l_9, l_10, l_11, l_12, l_15, l_16, l_21, l_24, l_31, l_32, l_40, l_64, l_76, l_80, l_84, l_85, l_99, l_255, l_256, l_680, l_688, l_696, l_704, l_712, l_720, l_728, l_736, l_744, l_752, l_753, l_754, l_755, l_1000, l_2000, l_3000, l_7550, l_1000000, l_41, l_42, l_43, l_45, l_47, l_48, l_56, l_57, l_60, l_61, l_62, l_63, l_73, l_83, l_88, l_97, l_98, l_100, l_101, l_102, l_103, l_104, l_105, l_108, l_111, l_113, l_117, l_118, l_119, l_120, l_65536, n2_31, n2_add, n2_mul, n2_sub, n2_eq, n2_le, n2_lt, n2_div, n2_qz0, n2_qz1, n2_qzb, bn_0, bn_1, bn_t, bn_f, n2_eqm, n2_meq, n2_ltm, n2_mlt, n2_lem, n2_mle, if_true, if_false, qbnd_s, ite_true, ite_false, if_pos, reduceIte, List.length_nil, Nat.le_refl]
    · have hlen : 1 ≤ zf.2.length := List.length_pos_iff.mpr hgl
      obtain ⟨I2, r1, r2, r3⟩ := x0_s53 (L := L) (c := c) (t := t) (T := T) hd hS hT hp hW1 h0 g2 g7 (fun o ho => (hpd o ho).1) (by omega) (by
        unfold need at hn
        split at hn
        · right; omega
        · left; exact ⟨by omega, by omega⟩) hw (by omega) (fun o ho q => hDw q o (hpd o ho).1.1 (hpd o ho).2) (fun q j hj hwj => by
        by_cases hjn : j ∈ zf.2
        · exact hDw q j hj (hpd j hjn).2
        · refine hDw q j hj ?_
          rw [← g6 j hjn 85 (by omega)]; exact hwj)
      exact ⟨I2, r1, by rw [hsv]; exact r2, hF1.trans r3⟩
  refine lp_rk (α := (Nat → Nat → Int32) × St × List Nat × Int32) (fun y k z => fX0_serve_10 R y d (n2 p) (n2 dep) z.2.2.2 (n2 z.2.2.1.length) (n2 k) (mk z.1 L c t)) 8
    (fun k z => DW z.1 d z.2.1 D ∧ Fdk I z.1 d (d + 19) ∧ Iv T z.2.1 ∧ z.2.2.1.length = k ∧ (∀ i, i < k → nib z.2.2.2 i = n2 (z.2.2.1.getD i 0)) ∧ (∀ i, k ≤ i → i < 8 → nib z.2.2.2 i = n2 0) ∧ (grantsS (8 - k) z.2.1 p).1 = zf.1 ∧ z.2.2.1 ++ (grantsS (8 - k) z.2.1 p).2 = zf.2)
    (fun r => ∃ I', r = some (n2 0, 0, mk I' L c t) ∧ DW I' d (srvS (n + 1) s p) D ∧ Fdk I I' d (d + 19)) (k0 := 0) (by omega) (by omega) (I, s, [], n2 0) ⟨hW, Fdk.rf _ _ _, h, rfl, fun i hi => by omega, fun i _ hi => ?_, by rw [← hzf], by rw [← hzf]; rfl⟩ (fun y k z hk0 hk hi => ?_) (fun y z hi => ?_)
  · have : ∀ i, i < 8 → nib (n2 0) i = n2 0 := by decide +kernel
    exact this i hi
  · obtain ⟨I1, s1, gl, w⟩ := z
    obtain ⟨h1, h2, h3, h4, h5, h6, h7, h8⟩ := hi
    dsimp only at h1 h2 h3 h4 h5 h6 h7 h8
    have hBd := h3.bd hT
    obtain ⟨q1, q2⟩ := x5_firstInQueue (L := L) (c := c) (t := t) ha h1.1 hBd hp
    obtain ⟨f1, f2⟩ := fiq_hd h3 hp
    have h88 : 8 - k = (7 - k) + 1 := by omega
    rw [h88] at h7 h8
    simp only [grantsS] at h7 h8
    cases hfq : fiq s1 p with
    | none =>
      left
      rw [hfq] at h7 h8 q1
      rw [List.append_nil] at h8
      obtain ⟨I2, r1, r2, r3⟩ := fin I1 w (by rw [← h7]; exact h1) h2 (by rw [← h8, h4]; exact h5)
      rw [← h8] at r1
      refine ⟨I2, ?_, r2, r3⟩
      simp (disch := first | assumption | omega) only [fX0_serve_10, l_0, l_1, l_2, l_3, l_4, l_5, l_6, l_7, l_8, l_9, l_10, l_11, l_12, l_15, l_16, l_21, l_24, l_31, l_32, l_40, l_64, l_76, l_80, l_84, l_85, l_99, l_255, l_256, l_680, l_688, l_696, l_704, l_712, l_720, l_728, l_736, l_744, l_752, l_753, l_754, l_755, l_1000, l_2000, l_3000, l_7550, l_1000000, l_41, l_42, l_43, l_45, l_47, l_48, l_56, l_57, l_60, l_61, l_62, l_63, l_73, l_83, l_88, l_97, l_98, l_100, l_101, l_102, l_103, l_104, l_105, l_108, l_111, l_113, l_117, l_118, l_119, l_120, l_65536, n2_31, n2_add, n2_mul, n2_sub, n2_eq, n2_le, n2_lt, n2_div, n2_qz0, n2_qz1, n2_qzb, bn_0, bn_1, bn_t, bn_f, n2_eqm, n2_meq, n2_ltm, n2_mlt, n2_lem, n2_mle, if_true, if_false, qbnd_s, ite_true, ite_false, if_pos, reduceIte, dk_q, lk_q, dk_P0, dk_P1, dk_P2, dk_P3, dk_I4, dk_U4, dk_gL, dk_gS, dk_dL, dk_dS, lk_P0, lk_L0, lk_S0, lk_P1, lk_L1, lk_S1, lk_P2, lk_L2, lk_S2, lk_P3, lk_L3, lk_S3, st_q, st_P0, st_P1, st_P2, st_P3, st_P4, st_P5, st_P6, st_P7, st_P8, st_P9, st_L0, st_S0, st_L1, st_S1, st_L2, st_S2, st_L3, st_S3, st_L4, st_S4, st_L5, st_S5, st_L6, st_S6, st_L7, st_S7, st_L8, st_S8, st_L9, st_S9, st_I10, st_U10, st_I11, st_U11, st_I12, st_U12, z_8 hk, q1, oi, x7_levelOf hp]
      exact r1
    | some o =>
      have hd1 := f1 o hfq
      have ho := hd1.1
      have how := hBd.ow ho
      rw [hfq] at h7 h8 q1
      dsimp only at h7 h8
      rcases bcs (fitb s1 o p (s1 90 o)) with e | e
      · left
        rw [if_neg (by rw [e]; simp)] at h7 h8
        rw [List.append_nil] at h8
        obtain ⟨I2, r1, r2, r3⟩ := fin I1 w (by rw [← h7]; exact h1) h2 (by rw [← h8, h4]; exact h5)
        rw [← h8] at r1
        refine ⟨I2, ?_, r2, r3⟩
        simp (disch := first | assumption | omega) only [fX0_serve_10, l_0, l_1, l_2, l_3, l_4, l_5, l_6, l_7, l_8, l_9, l_10, l_11, l_12, l_15, l_16, l_21, l_24, l_31, l_32, l_40, l_64, l_76, l_80, l_84, l_85, l_99, l_255, l_256, l_680, l_688, l_696, l_704, l_712, l_720, l_728, l_736, l_744, l_752, l_753, l_754, l_755, l_1000, l_2000, l_3000, l_7550, l_1000000, l_41, l_42, l_43, l_45, l_47, l_48, l_56, l_57, l_60, l_61, l_62, l_63, l_73, l_83, l_88, l_97, l_98, l_100, l_101, l_102, l_103, l_104, l_105, l_108, l_111, l_113, l_117, l_118, l_119, l_120, l_65536, n2_31, n2_add, n2_mul, n2_sub, n2_eq, n2_le, n2_lt, n2_div, n2_qz0, n2_qz1, n2_qzb, bn_0, bn_1, bn_t, bn_f, n2_eqm, n2_meq, n2_ltm, n2_mlt, n2_lem, n2_mle, if_true, if_false, qbnd_s, ite_true, ite_false, if_pos, reduceIte, dk_q, lk_q, dk_P0, dk_P1, dk_P2, dk_P3, dk_I4, dk_U4, dk_gL, dk_gS, dk_dL, dk_dS, lk_P0, lk_L0, lk_S0, lk_P1, lk_L1, lk_S1, lk_P2, lk_L2, lk_S2, lk_P3, lk_L3, lk_S3, st_q, st_P0, st_P1, st_P2, st_P3, st_P4, st_P5, st_P6, st_P7, st_P8, st_P9, st_L0, st_S0, st_L1, st_S1, st_L2, st_S2, st_L3, st_S3, st_L4, st_S4, st_L5, st_S5, st_L6, st_S6, st_L7, st_S7, st_L8, st_S8, st_L9, st_S9, st_I10, st_U10, st_I11, st_U11, st_I12, st_U12, h1.1.md, h1.1.st, h1.1.ag, h1.1.wk, h1.1.fl, h1.1.at, h1.1.wa, h1.1.tu, h1.1.go, h1.1.mo, h1.1.tn, h1.1.bg, h1.1.gf, z_8 hk, q1, oi, x5_fits ha h1.1 hBd ho hp (show s1 90 o ≤ 6 by omega), e, x7_levelOf hp]
        exact r1
      · right
        rw [if_pos e] at h7 h8
        have hat := hd1.2.1
        obtain ⟨I2, r1, r2, r3⟩ := x5_grant (L := L) (c := c) (t := t) ha h1.1 hBd ho (by omega)
        have hgr := iv_grt (T := T) h3 ho hp hat (s1 94 0 + pot s1) (Nat.le_refl _) (by have := h3.2.2.2.2.2.2.2.1; omega)
        refine ⟨(I2, grt s1 o, gl ++ [o], w ||| (n2 o <<< n2 (4 * k))), ?_, ⟨r2, fun q hq => (r3 _ _ (by omega)).trans (h1.2 q hq)⟩, h2.trans (r3.dd), hgr.1, by simp [h4], fun i hi => ?_, fun i hi1 hi2 => ?_, by rw [show 8 - (k + 1) = 7 - k by omega]; exact h7, ?_⟩
        · have hl1 : (gl ++ [o]).length = gl.length + 1 := by simp
          rw [hl1]
          simp (disch := first | assumption | omega) only [fX0_serve_10, l_0, l_1, l_2, l_3, l_4, l_5, l_6, l_7, l_8, l_9, l_10, l_11, l_12, l_15, l_16, l_21, l_24, l_31, l_32, l_40, l_64, l_76, l_80, l_84, l_85, l_99, l_255, l_256, l_680, l_688, l_696, l_704, l_712, l_720, l_728, l_736, l_744, l_752, l_753, l_754, l_755, l_1000, l_2000, l_3000, l_7550, l_1000000, l_41, l_42, l_43, l_45, l_47, l_48, l_56, l_57, l_60, l_61, l_62, l_63, l_73, l_83, l_88, l_97, l_98, l_100, l_101, l_102, l_103, l_104, l_105, l_108, l_111, l_113, l_117, l_118, l_119, l_120, l_65536, n2_31, n2_add, n2_mul, n2_sub, n2_eq, n2_le, n2_lt, n2_div, n2_qz0, n2_qz1, n2_qzb, bn_0, bn_1, bn_t, bn_f, n2_eqm, n2_meq, n2_ltm, n2_mlt, n2_lem, n2_mle, if_true, if_false, qbnd_s, ite_true, ite_false, if_pos, reduceIte, dk_q, lk_q, dk_P0, dk_P1, dk_P2, dk_P3, dk_I4, dk_U4, dk_gL, dk_gS, dk_dL, dk_dS, lk_P0, lk_L0, lk_S0, lk_P1, lk_L1, lk_S1, lk_P2, lk_L2, lk_S2, lk_P3, lk_L3, lk_S3, st_q, st_P0, st_P1, st_P2, st_P3, st_P4, st_P5, st_P6, st_P7, st_P8, st_P9, st_L0, st_S0, st_L1, st_S1, st_L2, st_S2, st_L3, st_S3, st_L4, st_S4, st_L5, st_S5, st_L6, st_S6, st_L7, st_S7, st_L8, st_S8, st_L9, st_S9, st_I10, st_U10, st_I11, st_U11, st_I12, st_U12, h1.1.md, h1.1.st, h1.1.ag, h1.1.wk, h1.1.fl, h1.1.at, h1.1.wa, h1.1.tu, h1.1.go, h1.1.mo, h1.1.tn, h1.1.bg, h1.1.gf, z_8 hk, q1, oi, x5_fits ha h1.1 hBd ho hp (show s1 90 o ≤ 6 by omega), e, r1, h4]
          simp
        · show nib (w ||| (n2 o <<< n2 (4 * k))) i = n2 ((gl ++ [o]).getD i 0)
          rw [nib_or w hk (by omega) (by omega)]
          by_cases ei : i = k
          · rw [if_pos ei, h6 k (Nat.le_refl _) hk, n2_or, Nat.zero_or, ei, List.getD_eq_getElem?_getD, List.getElem?_append_right (by omega), h4, Nat.sub_self]
            rfl
          · rw [if_neg ei, h5 i (by omega), List.getD_eq_getElem?_getD, List.getD_eq_getElem?_getD, List.getElem?_append_left (by omega)]
        · show nib (w ||| (n2 o <<< n2 (4 * k))) i = n2 0
          rw [nib_or w hk (by omega) (by omega), if_neg (by omega), h6 i (by omega) hi2]
        · show gl ++ [o] ++ (grantsS (8 - (k + 1)) (grt s1 o) p).2 = _
          rw [show 8 - (k + 1) = 7 - k by omega, List.append_assoc]
          exact h8
  · obtain ⟨I1, s1, gl, w⟩ := z
    obtain ⟨h1, h2, h3, h4, h5, h6, h7, h8⟩ := hi
    dsimp only at h1 h2 h3 h4 h5 h6 h7 h8
    rw [Nat.sub_self] at h7 h8
    simp only [grantsS, List.append_nil] at h7 h8
    obtain ⟨I2, r1, r2, r3⟩ := fin I1 w (by rw [← h7]; exact h1) h2 (by rw [← h8, h4]; exact h5)
    rw [← h8] at r1
    refine ⟨I2, ?_, r2, r3⟩
    simp (disch := first | assumption | omega) only [fX0_serve_10, l_0, l_1, l_2, l_3, l_4, l_5, l_6, l_7, l_8, l_9, l_10, l_11, l_12, l_15, l_16, l_21, l_24, l_31, l_32, l_40, l_64, l_76, l_80, l_84, l_85, l_99, l_255, l_256, l_680, l_688, l_696, l_704, l_712, l_720, l_728, l_736, l_744, l_752, l_753, l_754, l_755, l_1000, l_2000, l_3000, l_7550, l_1000000, l_41, l_42, l_43, l_45, l_47, l_48, l_56, l_57, l_60, l_61, l_62, l_63, l_73, l_83, l_88, l_97, l_98, l_100, l_101, l_102, l_103, l_104, l_105, l_108, l_111, l_113, l_117, l_118, l_119, l_120, l_65536, n2_31, n2_add, n2_mul, n2_sub, n2_eq, n2_le, n2_lt, n2_div, n2_qz0, n2_qz1, n2_qzb, bn_0, bn_1, bn_t, bn_f, n2_eqm, n2_meq, n2_ltm, n2_mlt, n2_lem, n2_mle, if_true, if_false, qbnd_s, ite_true, ite_false, if_pos, reduceIte, dk_q, lk_q, dk_P0, dk_P1, dk_P2, dk_P3, dk_I4, dk_U4, dk_gL, dk_gS, dk_dL, dk_dS, lk_P0, lk_L0, lk_S0, lk_P1, lk_L1, lk_S1, lk_P2, lk_L2, lk_S2, lk_P3, lk_L3, lk_S3, st_q, st_P0, st_P1, st_P2, st_P3, st_P4, st_P5, st_P6, st_P7, st_P8, st_P9, st_L0, st_S0, st_L1, st_S1, st_L2, st_S2, st_L3, st_S3, st_L4, st_S4, st_L5, st_S5, st_L6, st_S6, st_L7, st_S7, st_L8, st_S8, st_L9, st_S9, st_I10, st_U10, st_I11, st_U11, st_I12, st_U12, Nat.le_refl, x7_levelOf hp]
    exact r1
end S7E
/-- the class' serving serves -/
theorem svR_ok {d : Nat} (hd : d ∈ dkl) : ∀ n dep m, n + dep ≤ 17 → n ≤ m → SvR (sX0_serve m) d n dep := by
  intro n
  induction n with
  | zero =>
    intro dep m _ _ L c t I s D p U T _ _ _ _ _ hn _
    unfold need at hn
    split at hn <;> omega
  | succ n ih =>
    intro dep m h1 h2 L c t I s D p U T hT hp hW h hB hn hDw
    obtain ⟨m, rfl⟩ : ∃ m', m = m' + 1 := ⟨m - 1, by omega⟩
    exact x0_serve hd (ih (dep + 1) m (by omega) (by omega)) (by omega) hT hp hW h hB hn hDw

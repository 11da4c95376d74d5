/-! PURE SIDE: whom it costs least to fell; all acts -/
def chStep (s : St) (cs : List Nat) (f : Option (Nat × Int32)) (o : Nat) : Option (Nat × Int32) := if rch s o o = true then (match f with
  | none => some (o, costS s cs o)
  | some z => if costS s cs o < z.2 ∨ (costS s cs o = z.2 ∧ ¬ n2 (s 86 o) ≤ n2 (s 86 z.1)) then some (o, costS s cs o) else some z) else f
def cheapS (s : St) (cs : List Nat) : Option (Nat × Int32) := (List.range 8).foldl (chStep s cs) none
def f99 (s : St) (o : Nat) : Nat := if s 88 o + 1 < 99 then s 88 o + 1 else 99
def fellS : Nat → St → List Nat → List Nat × St
  | 0, s, _ => ([], s)
  | n + 1, s, cs => match cheapS s cs with
    | none => ([], s)
    | some z => (z.1 :: (fellS n (leaveS (su s 88 z.1 (f99 s z.1)) z.1) cs).1, (fellS n (leaveS (su s 88 z.1 (f99 s z.1)) z.1) cs).2)
theorem cheapS_lt {s : St} {cs : List Nat} {z : Nat × Int32} (h : cheapS s cs = some z) : z.1 < 8 ∧ rch s z.1 z.1 = true ∧ z.2 = costS s cs z.1 := by
  have key : ∀ n, n ≤ 8 → ∀ z, (List.range n).foldl (chStep s cs) none = some z → z.1 < n ∧ rch s z.1 z.1 = true ∧ z.2 = costS s cs z.1 := by
    intro n
    induction n with
    | zero => intro _ z h; cases h
    | succ n ih =>
      intro hn z h
      rw [List.range_succ, List.foldl_append, List.foldl_cons, List.foldl_nil] at h
      have ih := ih (by omega)
      generalize (List.range n).foldl (chStep s cs) none = f at h ih
      unfold chStep at h
      rcases bcs (rch s n n) with e | e
      · rw [if_neg (by rw [e]; simp)] at h
        have := ih z h
        exact ⟨by omega, this.2⟩
      · rw [if_pos e] at h
        cases f with
        | none => cases h; exact ⟨by simp, e, rfl⟩
        | some y =>
          dsimp only at h
          split at h
          · cases h; exact ⟨by simp, e, rfl⟩
          · cases h
            have := ih z rfl
            exact ⟨by omega, this.2⟩
  exact key 8 (Nat.le_refl _) z h
theorem gd_fall {N : Nat} {s : St} {o : Nat} (h : Gd N s) : Gd N (su s 88 o (f99 s o)) := by
  refine gd_num (o := o) h (fun k j h1 h2 h3 => su_ne h3) (fun j hj => ?_)
  have := h.1.2.1 j hj
  rw [su_ne (by omega), su_at]
  refine ⟨by omega, ?_⟩
  split
  · unfold f99; split <;> omega
  · omega
theorem gd_fell {N : Nat} {cs : List Nat} : ∀ (n : Nat) (s : St), Gd N s → Gd N (fellS n s cs).2 ∧ (fellS n s cs).1.length ≤ n ∧ ∀ o ∈ (fellS n s cs).1, o < 8 := by
  intro n
  induction n with
  | zero => intro s h; exact ⟨h, Nat.le_refl _, fun o ho => by cases ho⟩
  | succ n ih =>
    intro s h
    simp only [fellS]
    cases hc : cheapS s cs with
    | none => exact ⟨h, Nat.zero_le _, fun o ho => by cases ho⟩
    | some z =>
      obtain ⟨h1, h2, h3⟩ := cheapS_lt hc
      obtain ⟨i1, i2, i3⟩ := ih _ (gd_leave (gd_fall (o := z.1) h) h1)
      refine ⟨i1, by simp only [List.length_cons]; omega, fun o ho => ?_⟩
      rcases List.mem_cons.mp ho with rfl | ho
      · exact h1
      · exact i3 o ho
def actS (s : St) (cs : List Nat) (g a b m : Nat) : Int32 × St := if g = 98 then startS s a else if g = 101 then finishS s a else if g = 102 then (n2 (fellS 8 s cs).1.length, (fellS 8 s cs).2) else if g = 103 then collectS s a b else if g = 108 then lockS s a b m else if g = 117 then unlockS s a b else if g = 118 then setbS s a else if g = 119 then labourS s a b else (-n2 1, s)
theorem gd_act {N : Nat} {s : St} {cs : List Nat} {g a b m : Nat} (h : Gd N s) (hN : N < 900000000) : Gd (N + 4) (actS s cs g a b m).2 := by
  unfold actS
  repeat' split
  · exact gd_start h hN
  · exact (gd_finish h).mono (by omega)
  · exact (gd_fell 8 s h).1.mono (by omega)
  · exact (gd_collect h).mono (by omega)
  · exact gd_lock h
  · exact (gd_unlock h).mono (by omega)
  · exact (gd_setb h).mono (by omega)
  · exact (gd_labour h).mono (by omega)
  · exact h.mono (by omega)
/-- nothing has changed but a desk and the rules' rows of values -/
def Fq (I I' : Nat → Nat → Int32) (d : Nat) : Prop := ∀ b i, (b ≤ d ∨ d + 19 ≤ b) → b ≠ 205 → b ≠ 209 → I' b i = I b i
theorem Fq.rf (I : Nat → Nat → Int32) (d : Nat) : Fq I I d := fun _ _ _ _ _ => rfl
theorem Fq.trans {I I1 I2 : Nat → Nat → Int32} {d : Nat} (h1 : Fq I I1 d) (h2 : Fq I1 I2 d) : Fq I I2 d := fun b i h h3 h4 => (h2 b i h h3 h4).trans (h1 b i h h3 h4)
theorem Fdk.q {I I' : Nat → Nat → Int32} {d e : Nat} (h : Fdk I I' d e) : Fq I I' d := fun b i hb _ _ => h b i (by omega) (by omega)
theorem Fr.q {I I' : Nat → Nat → Int32} {d lo hi : Nat} (h : Fr I I' lo hi) (h1 : d + 1 ≤ lo) (h2 : hi ≤ d + 19) : Fq I I' d := fun b i hb _ _ => h b i (by omega)
theorem rul_2 {a : Nat} (ha : a ∈ rul) : a = 202 ∨ a = 206 := by
  simpa [rul] using ha
theorem dkl_2 {d : Nat} (hd : d ∈ dkl) : d = 2 ∨ d = 21 := by
  simpa [dkl] using hd
theorem Fr.qv {I I' : Nat → Nat → Int32} {d a : Nat} (ha : a ∈ rul) (h : Fr I I' (a + 3) (a + 4)) : Fq I I' d := fun b i _ h5 h9 => h b i (by rcases rul_2 ha with rfl | rfl <;> omega)
theorem RuW.q {I I' : Nat → Nat → Int32} {d a : Nat} {cs : List Nat} (hd : d ∈ dkl) (ha : a ∈ rul) (h : RuW I a cs) (hf : Fq I I' d) : RuW I' a cs := by
  refine h.fr (fun i => hf _ _ ?_ ?_ ?_) (hf _ _ ?_ ?_ ?_) <;> rcases rul_2 ha with rfl | rfl <;> rcases dkl_2 hd with rfl | rfl <;> omega
theorem DW.v {I I' : Nat → Nat → Int32} {d a : Nat} {s : St} {D : Nat → Nat → Bool} (hd : d ∈ dkl) (ha : a ∈ rul) (h : DW I d s D) (hf : Fr I I' (a + 3) (a + 4)) : DW I' d s D :=
  h.fr hf (by rcases rul_2 ha with rfl | rfl <;> rcases dkl_2 hd with rfl | rfl <;> omega)
theorem DW.l {I I' : Nat → Nat → Int32} {d : Nat} {s : St} {D : Nat → Nat → Bool} (h : DW I d s D) (hf : Fr I I' (d + 12) (d + 17)) : DW I' d s D :=
  ⟨h.1.fr hf (by omega), fun p hp => by rw [hf _ _ (by omega)]; exact h.2 p hp⟩
section S7M
variable {I : Nat → Nat → Int32} {L : Nat → Nat → Int64} {c t d a N : Nat} {s : St} {cs : List Nat}
theorem x0_costOf (hd : d ∈ dkl) (ha : a ∈ rul) (hW : DW I d s D0) (h : Gd N s) (hN : N < 900000000) (hU : RuW I a cs) {o : Nat} (ho : o < 8) : ∃ I', fX0_costOf d (n2 o) a (mk I L c t) = some (costS s cs o, 0, mk I' L c t) ∧ DW I' d s D0 ∧ Fq I I' d := by
  have hB := h.1.bd (show N < 1000000000 by omega)
  obtain ⟨J, r1, r2, r3⟩ := x2_read (L := L) (c := c) (t := t) hd hW.1 hB
  have hW1 := hW.l r3
  have hq := r3.q (d := d) (by omega) (by omega)
  have hU1 := hU.q hd ha hq
  obtain ⟨J2, q1, q2⟩ := x4_cost (L := L) (c := c) (t := t) (w := wtr s o) ha (dk_st hd) hW1.1 hB hU1 (by rcases rul_2 ha with rfl | rfl <;> rcases dkl_2 hd with rfl | rfl <;> omega) ho
  refine ⟨J2, ?_, hW1.v hd ha q2, hq.trans (q2.qv ha)⟩
  simp (disch := first | assumption | omega) only [fX0_costOf, gX0_costOf, l_0, l_1, l_2, l_3, l_4, l_5, l_6, l_7, l_8, l_9, l_10, l_11, l_12, l_15, l_16, l_21, l_24, l_31, l_32, l_40, l_64, l_76, l_80, l_84, l_85, l_99, l_255, l_256, l_680, l_688, l_696, l_704, l_712, l_720, l_728, l_736, l_744, l_752, l_753, l_754, l_755, l_1000, l_2000, l_3000, l_7550, l_1000000, l_41, l_42, l_43, l_45, l_47, l_48, l_56, l_57, l_60, l_61, l_62, l_63, l_73, l_83, l_88, l_97, l_98, l_100, l_101, l_102, l_103, l_104, l_105, l_108, l_111, l_113, l_117, l_118, l_119, l_120, l_65536, n2_31, n2_add, n2_mul, n2_sub, n2_eq, n2_le, n2_lt, n2_div, n2_qz0, n2_qz1, n2_qzb, bn_0, bn_1, bn_t, bn_f, n2_eqm, n2_meq, n2_ltm, n2_mlt, n2_lem, n2_mle, if_true, if_false, qbnd_s, ite_true, ite_false, if_pos, reduceIte, z_n, z_10, dk_q, lk_q, dk_P0, dk_P1, dk_P2, dk_P3, dk_I4, dk_U4, dk_gL, dk_gS, dk_dL, dk_dS, lk_P0, lk_L0, lk_S0, lk_P1, lk_L1, lk_S1, lk_P2, lk_L2, lk_S2, lk_P3, lk_L3, lk_S3, r1, x2_waiters hd r2 ho, q1]
  unfold costS
  rfl
theorem oi_m1 (f : Option Nat) (h : ∀ o, f = some o → o < 8) : (oi f = -n2 1) = (f = none) := by
  cases f with
  | none => simp [oi]
  | some o => have := h o rfl; simp only [oi]; rw [n2_eqm (by omega)]; simp
theorem x0_cheapest (hd : d ∈ dkl) (ha : a ∈ rul) (hW : DW I d s D0) (h : Gd N s) (hN : N < 900000000) (hU : RuW I a cs) : ∃ I', fX0_cheapest d a (mk I L c t) = some (oi ((cheapS s cs).map (·.1)), 0, mk I' L c t) ∧ DW I' d s D0 ∧ Fq I I' d ∧ (∀ i, I' (d + 17) i = I (d + 17) i) := by
  have hB := h.1.bd (show N < 1000000000 by omega)
  obtain ⟨J, r1, r2, r3⟩ := x2_read (L := L) (c := c) (t := t) hd hW.1 hB
  have hW1 := hW.l r3
  have hq := r3.q (d := d) (by omega) (by omega)
  have hU1 := hU.q hd ha hq
  have hst := dk_st hd
  have hda : ∀ x, x < 19 → d + x ≠ a + 3 := fun x hx => by rcases rul_2 ha with rfl | rfl <;> rcases dkl_2 hd with rfl | rfl <;> omega
  have e0 : fX0_cheapest d a (mk I L c t) = fX0_cheapest_15 qfu d a (n2 (bits8 fun j => rch s j j)) (-n2 1) (n2 0) (n2 0) (mk J L c t) := by
    simp (disch := first | assumption | omega) only [fX0_cheapest, gX0_cheapest, l_0, l_1, l_2, l_3, l_4, l_5, l_6, l_7, l_8, l_9, l_10, l_11, l_12, l_15, l_16, l_21, l_24, l_31, l_32, l_40, l_64, l_76, l_80, l_84, l_85, l_99, l_255, l_256, l_680, l_688, l_696, l_704, l_712, l_720, l_728, l_736, l_744, l_752, l_753, l_754, l_755, l_1000, l_2000, l_3000, l_7550, l_1000000, l_41, l_42, l_43, l_45, l_47, l_48, l_56, l_57, l_60, l_61, l_62, l_63, l_73, l_83, l_88, l_97, l_98, l_100, l_101, l_102, l_103, l_104, l_105, l_108, l_111, l_113, l_117, l_118, l_119, l_120, l_65536, n2_31, n2_add, n2_mul, n2_sub, n2_eq, n2_le, n2_lt, n2_div, n2_qz0, n2_qz1, n2_qzb, bn_0, bn_1, bn_t, bn_f, n2_eqm, n2_meq, n2_ltm, n2_mlt, n2_lem, n2_mle, if_true, if_false, qbnd_s, ite_true, ite_false, if_pos, reduceIte, z_n, z_10, dk_q, lk_q, dk_P0, dk_P1, dk_P2, dk_P3, dk_I4, dk_U4, dk_gL, dk_gS, dk_dL, dk_dS, lk_P0, lk_L0, lk_S0, lk_P1, lk_L1, lk_S1, lk_P2, lk_L2, lk_S2, lk_P3, lk_L3, lk_S3, r1, x2_inRings hd r2]
  rw [e0]
  refine lp_rk (α := (Nat → Nat → Int32) × Option (Nat × Int32)) (fun m k z => fX0_cheapest_15 m d a (n2 (bits8 fun j => rch s j j)) (oi (z.2.map (·.1))) ((z.2.map (·.2)).getD (n2 0)) (n2 k) (mk z.1 L c t)) 8
    (fun k z => Fr J z.1 (a + 3) (a + 4) ∧ z.2 = (List.range k).foldl (chStep s cs) none ∧ (∀ y, z.2 = some y → y.1 < 8))
    (fun r => ∃ I', r = some (oi ((cheapS s cs).map (·.1)), 0, mk I' L c t) ∧ DW I' d s D0 ∧ Fq I I' d ∧ (∀ i, I' (d + 17) i = I (d + 17) i)) (k0 := 0) (by omega) (by omega) (J, none) ⟨Fr.rf _ _ _, rfl, fun y hy => by cases hy⟩ (fun m k z _ hk hi => Or.inr ?_) (fun m z hi => ?_)
  · obtain ⟨K, f⟩ := z
    obtain ⟨i1, i2, i3⟩ := hi
    dsimp only at i1 i2 i3
    have hWK := hW1.v hd ha i1
    have hLK : LW K d s := ⟨fun o ho => by rw [i1 _ _ (by have := hda 13 (by omega); omega)]; exact r2.1 o ho, fun o ho => by rw [i1 _ _ (by have := hda 14 (by omega); omega)]; exact r2.2 o ho⟩
    have hUK := hU1.q hd ha (i1.qv (d := d) ha)
    have hrs : (List.range (k + 1)).foldl (chStep s cs) none = chStep s cs f k := by
      rw [List.range_succ, List.foldl_append, List.foldl_cons, List.foldl_nil, i2]
    rcases bcs (rch s k k) with e | e
    · refine ⟨(K, f), ?_, i1, ?_, i3⟩
      · simp (disch := first | assumption | omega) only [fX0_cheapest_15, l_0, l_1, l_2, l_3, l_4, l_5, l_6, l_7, l_8, l_9, l_10, l_11, l_12, l_15, l_16, l_21, l_24, l_31, l_32, l_40, l_64, l_76, l_80, l_84, l_85, l_99, l_255, l_256, l_680, l_688, l_696, l_704, l_712, l_720, l_728, l_736, l_744, l_752, l_753, l_754, l_755, l_1000, l_2000, l_3000, l_7550, l_1000000, l_41, l_42, l_43, l_45, l_47, l_48, l_56, l_57, l_60, l_61, l_62, l_63, l_73, l_83, l_88, l_97, l_98, l_100, l_101, l_102, l_103, l_104, l_105, l_108, l_111, l_113, l_117, l_118, l_119, l_120, l_65536, n2_31, n2_add, n2_mul, n2_sub, n2_eq, n2_le, n2_lt, n2_div, n2_qz0, n2_qz1, n2_qzb, bn_0, bn_1, bn_t, bn_f, n2_eqm, n2_meq, n2_ltm, n2_mlt, n2_lem, n2_mle, if_true, if_false, qbnd_s, ite_true, ite_false, if_pos, reduceIte, z_n, z_10, dk_q, lk_q, dk_P0, dk_P1, dk_P2, dk_P3, dk_I4, dk_U4, dk_gL, dk_gS, dk_dL, dk_dS, lk_P0, lk_L0, lk_S0, lk_P1, lk_L1, lk_S1, lk_P2, lk_L2, lk_S2, lk_P3, lk_L3, lk_S3, z_8 hk, bits8_q _ hk, e]
      · show f = _
        rw [hrs]; unfold chStep; rw [if_neg (by rw [e]; simp)]
    · obtain ⟨K2, q1, q2⟩ := x4_cost (L := L) (c := c) (t := t) (w := wtr s k) ha (dk_st hd) hWK.1 hB hUK (by rcases rul_2 ha with rfl | rfl <;> rcases dkl_2 hd with rfl | rfl <;> omega) hk
      have hco : (if cs = [] then n2 (s 87 k + hol s k 0) else evl (askS s k (wtr s k)) cs) = costS s cs k := rfl
      rw [hco] at q1
      have hWK2 := hWK.v hd ha q2
      cases f with
      | none =>
        refine ⟨(K2, some (k, costS s cs k)), ?_, i1.trans q2, ?_, fun y hy => by cases hy; exact hk⟩
        · simp (disch := first | assumption | omega) only [fX0_cheapest_15, l_0, l_1, l_2, l_3, l_4, l_5, l_6, l_7, l_8, l_9, l_10, l_11, l_12, l_15, l_16, l_21, l_24, l_31, l_32, l_40, l_64, l_76, l_80, l_84, l_85, l_99, l_255, l_256, l_680, l_688, l_696, l_704, l_712, l_720, l_728, l_736, l_744, l_752, l_753, l_754, l_755, l_1000, l_2000, l_3000, l_7550, l_1000000, l_41, l_42, l_43, l_45, l_47, l_48, l_56, l_57, l_60, l_61, l_62, l_63, l_73, l_83, l_88, l_97, l_98, l_100, l_101, l_102, l_103, l_104, l_105, l_108, l_111, l_113, l_117, l_118, l_119, l_120, l_65536, n2_31, n2_add, n2_mul, n2_sub, n2_eq, n2_le, n2_lt, n2_div, n2_qz0, n2_qz1, n2_qzb, bn_0, bn_1, bn_t, bn_f, n2_eqm, n2_meq, n2_ltm, n2_mlt, n2_lem, n2_mle, if_true, if_false, qbnd_s, ite_true, ite_false, if_pos, reduceIte, z_n, z_10, dk_q, lk_q, dk_P0, dk_P1, dk_P2, dk_P3, dk_I4, dk_U4, dk_gL, dk_gS, dk_dL, dk_dS, lk_P0, lk_L0, lk_S0, lk_P1, lk_L1, lk_S1, lk_P2, lk_L2, lk_S2, lk_P3, lk_L3, lk_S3, z_8 hk, bits8_q _ hk, e, x2_waiters hd hLK hk, q1, Option.map_none, oi, Bool.true_eq_false]
          rfl
        · show some (k, costS s cs k) = _
          rw [hrs]; unfold chStep; rw [if_pos e]
      | some y =>
        have hy := i3 y rfl
        have hyb := hB.ow hy
        by_cases c1 : costS s cs k < y.2
        · refine ⟨(K2, some (k, costS s cs k)), ?_, i1.trans q2, ?_, fun z hz => by cases hz; exact hk⟩
          · simp (disch := first | assumption | omega) only [fX0_cheapest_15, l_0, l_1, l_2, l_3, l_4, l_5, l_6, l_7, l_8, l_9, l_10, l_11, l_12, l_15, l_16, l_21, l_24, l_31, l_32, l_40, l_64, l_76, l_80, l_84, l_85, l_99, l_255, l_256, l_680, l_688, l_696, l_704, l_712, l_720, l_728, l_736, l_744, l_752, l_753, l_754, l_755, l_1000, l_2000, l_3000, l_7550, l_1000000, l_41, l_42, l_43, l_45, l_47, l_48, l_56, l_57, l_60, l_61, l_62, l_63, l_73, l_83, l_88, l_97, l_98, l_100, l_101, l_102, l_103, l_104, l_105, l_108, l_111, l_113, l_117, l_118, l_119, l_120, l_65536, n2_31, n2_add, n2_mul, n2_sub, n2_eq, n2_le, n2_lt, n2_div, n2_qz0, n2_qz1, n2_qzb, bn_0, bn_1, bn_t, bn_f, n2_eqm, n2_meq, n2_ltm, n2_mlt, n2_lem, n2_mle, if_true, if_false, qbnd_s, ite_true, ite_false, if_pos, reduceIte, z_n, z_10, dk_q, lk_q, dk_P0, dk_P1, dk_P2, dk_P3, dk_I4, dk_U4, dk_gL, dk_gS, dk_dL, dk_dS, lk_P0, lk_L0, lk_S0, lk_P1, lk_L1, lk_S1, lk_P2, lk_L2, lk_S2, lk_P3, lk_L3, lk_S3, z_8 hk, bits8_q _ hk, e, x2_waiters hd hLK hk, q1, Option.map_some, oi, Bool.true_eq_false, Option.getD_some, c1]
          · show some (k, costS s cs k) = _
            rw [hrs]; unfold chStep; rw [if_pos e]; dsimp only; rw [if_pos (Or.inl c1)]
        · by_cases c2 : costS s cs k = y.2
          · by_cases c3 : n2 (s 86 k) ≤ n2 (s 86 y.1)
            · refine ⟨(K2, some y), ?_, i1.trans q2, ?_, i3⟩
              · have c3' : (n2 (s 86 k) ≤ n2 (s 86 y.1)) = True := eq_true c3
                have c1' : ¬ y.2 < y.2 := Int32.lt_irrefl
                simp (disch := first | assumption | omega) only [fX0_cheapest_15, z_10, l_0, l_1, l_2, l_3, l_4, l_5, l_6, l_7, l_8, l_9, l_10, l_11, l_12, l_15, l_16, l_21, l_24, l_31, l_32, l_40, l_64, l_76, l_80, l_84, l_85, l_99, l_255, l_256, l_680, l_688, l_696, l_704, l_712, l_720, l_728, l_736, l_744, l_752, l_753, l_754, l_755, l_1000, l_2000, l_3000, l_7550, l_1000000, l_41, l_42, l_43, l_45, l_47, l_48, l_56, l_57, l_60, l_61, l_62, l_63, l_73, l_83, l_88, l_97, l_98, l_100, l_101, l_102, l_103, l_104, l_105, l_108, l_111, l_113, l_117, l_118, l_119, l_120, l_65536, n2_add, n2_eq, n2_le, n2_eqm, bn_0, qbnd_s, if_true, if_false, dk_q, lk_q, dk_P0, dk_P1, dk_P2, dk_P3, dk_I4, dk_U4, dk_gL, dk_gS, dk_dL, dk_dS, lk_P0, lk_L0, lk_S0, lk_P1, lk_L1, lk_S1, lk_P2, lk_L2, lk_S2, lk_P3, lk_L3, lk_S3, st_q, st_P0, st_P1, st_P2, st_P3, st_P4, st_P5, st_P6, st_P7, st_P8, st_P9, st_L0, st_S0, st_L1, st_S1, st_L2, st_S2, st_L3, st_S3, st_L4, st_S4, st_L5, st_S5, st_L6, st_S6, st_L7, st_S7, st_L8, st_S8, st_L9, st_S9, st_I10, st_U10, st_I11, st_U11, st_I12, st_U12, hWK2.1.md, hWK2.1.st, hWK2.1.ag, hWK2.1.wk, hWK2.1.fl, hWK2.1.at, hWK2.1.wa, hWK2.1.tu, hWK2.1.go, hWK2.1.mo, hWK2.1.tn, hWK2.1.bg, hWK2.1.gf, z_8 hk, bits8_q _ hk, e, x2_waiters hd hLK hk, q1, Option.map_some, oi, Bool.true_eq_false, Option.getD_some, c1', c2, c3]
              · show some y = _
                rw [hrs]; unfold chStep; rw [if_pos e]; dsimp only; rw [if_neg (fun z => by rcases z with z | z; exact c1 z; exact z.2 c3)]
            · refine ⟨(K2, some (k, costS s cs k)), ?_, i1.trans q2, ?_, fun z hz => by cases hz; exact hk⟩
              · have c1' : ¬ y.2 < y.2 := Int32.lt_irrefl
                simp (disch := first | assumption | omega) only [fX0_cheapest_15, z_10, l_0, l_1, l_2, l_3, l_4, l_5, l_6, l_7, l_8, l_9, l_10, l_11, l_12, l_15, l_16, l_21, l_24, l_31, l_32, l_40, l_64, l_76, l_80, l_84, l_85, l_99, l_255, l_256, l_680, l_688, l_696, l_704, l_712, l_720, l_728, l_736, l_744, l_752, l_753, l_754, l_755, l_1000, l_2000, l_3000, l_7550, l_1000000, l_41, l_42, l_43, l_45, l_47, l_48, l_56, l_57, l_60, l_61, l_62, l_63, l_73, l_83, l_88, l_97, l_98, l_100, l_101, l_102, l_103, l_104, l_105, l_108, l_111, l_113, l_117, l_118, l_119, l_120, l_65536, n2_add, n2_eq, n2_le, n2_eqm, bn_0, qbnd_s, if_true, if_false, dk_q, lk_q, dk_P0, dk_P1, dk_P2, dk_P3, dk_I4, dk_U4, dk_gL, dk_gS, dk_dL, dk_dS, lk_P0, lk_L0, lk_S0, lk_P1, lk_L1, lk_S1, lk_P2, lk_L2, lk_S2, lk_P3, lk_L3, lk_S3, st_q, st_P0, st_P1, st_P2, st_P3, st_P4, st_P5, st_P6, st_P7, st_P8, st_P9, st_L0, st_S0, st_L1, st_S1, st_L2, st_S2, st_L3, st_S3, st_L4, st_S4, st_L5, st_S5, st_L6, st_S6, st_L7, st_S7, st_L8, st_S8, st_L9, st_S9, st_I10, st_U10, st_I11, st_U11, st_I12, st_U12, hWK2.1.md, hWK2.1.st, hWK2.1.ag, hWK2.1.wk, hWK2.1.fl, hWK2.1.at, hWK2.1.wa, hWK2.1.tu, hWK2.1.go, hWK2.1.mo, hWK2.1.tn, hWK2.1.bg, hWK2.1.gf, z_8 hk, bits8_q _ hk, e, x2_waiters hd hLK hk, q1, Option.map_some, oi, Bool.true_eq_false, Option.getD_some, c1', c2, c3]
              · show some (k, costS s cs k) = _
                rw [hrs]; unfold chStep; rw [if_pos e]; dsimp only; rw [if_pos (Or.inr ⟨c2, c3⟩)]
          · refine ⟨(K2, some y), ?_, i1.trans q2, ?_, i3⟩
            · simp (disch := first | assumption | omega) only [fX0_cheapest_15, l_0, l_1, l_2, l_3, l_4, l_5, l_6, l_7, l_8, l_9, l_10, l_11, l_12, l_15, l_16, l_21, l_24, l_31, l_32, l_40, l_64, l_76, l_80, l_84, l_85, l_99, l_255, l_256, l_680, l_688, l_696, l_704, l_712, l_720, l_728, l_736, l_744, l_752, l_753, l_754, l_755, l_1000, l_2000, l_3000, l_7550, l_1000000, l_41, l_42, l_43, l_45, l_47, l_48, l_56, l_57, l_60, l_61, l_62, l_63, l_73, l_83, l_88, l_97, l_98, l_100, l_101, l_102, l_103, l_104, l_105, l_108, l_111, l_113, l_117, l_118, l_119, l_120, l_65536, n2_31, n2_add, n2_mul, n2_sub, n2_eq, n2_le, n2_lt, n2_div, n2_qz0, n2_qz1, n2_qzb, bn_0, bn_1, bn_t, bn_f, n2_eqm, n2_meq, n2_ltm, n2_mlt, n2_lem, n2_mle, if_true, if_false, qbnd_s, ite_true, ite_false, if_pos, reduceIte, z_n, z_10, dk_q, lk_q, dk_P0, dk_P1, dk_P2, dk_P3, dk_I4, dk_U4, dk_gL, dk_gS, dk_dL, dk_dS, lk_P0, lk_L0, lk_S0, lk_P1, lk_L1, lk_S1, lk_P2, lk_L2, lk_S2, lk_P3, lk_L3, lk_S3, z_8 hk, bits8_q _ hk, e, x2_waiters hd hLK hk, q1, Option.map_some, oi, Bool.true_eq_false, Option.getD_some, c1, c2]
            · show some y = _
              rw [hrs]; unfold chStep; rw [if_pos e]; dsimp only; rw [if_neg (fun z => by rcases z with z | z; exact c1 z; exact c2 z.1)]
  · obtain ⟨K, f⟩ := z
    obtain ⟨i1, i2, i3⟩ := hi
    dsimp only at i1 i2 i3
    refine ⟨K, ?_, hW1.v hd ha i1, hq.trans (i1.qv ha), fun i => by rw [i1 _ _ (by have := hda 17 (by omega); omega), r3 _ _ (by omega)]⟩
    unfold cheapS
    rw [← i2]
    simp (disch := first | assumption | omega) only [fX0_cheapest_15, l_0, l_1, l_2, l_3, l_4, l_5, l_6, l_7, l_8, l_9, l_10, l_11, l_12, l_15, l_16, l_21, l_24, l_31, l_32, l_40, l_64, l_76, l_80, l_84, l_85, l_99, l_255, l_256, l_680, l_688, l_696, l_704, l_712, l_720, l_728, l_736, l_744, l_752, l_753, l_754, l_755, l_1000, l_2000, l_3000, l_7550, l_1000000, l_41, l_42, l_43, l_45, l_47, l_48, l_56, l_57, l_60, l_61, l_62, l_63, l_73, l_83, l_88, l_97, l_98, l_100, l_101, l_102, l_103, l_104, l_105, l_108, l_111, l_113, l_117, l_118, l_119, l_120, l_65536, n2_31, n2_add, n2_mul, n2_sub, n2_eq, n2_le, n2_lt, n2_div, n2_qz0, n2_qz1, n2_qzb, bn_0, bn_1, bn_t, bn_f, n2_eqm, n2_meq, n2_ltm, n2_mlt, n2_lem, n2_mle, if_true, if_false, qbnd_s, ite_true, ite_false, if_pos, reduceIte, z_n, z_10, dk_q, lk_q, dk_P0, dk_P1, dk_P2, dk_P3, dk_I4, dk_U4, dk_gL, dk_gS, dk_dL, dk_dS, lk_P0, lk_L0, lk_S0, lk_P1, lk_L1, lk_S1, lk_P2, lk_L2, lk_S2, lk_P3, lk_L3, lk_S3, Nat.le_refl]
theorem x0_fellAll (hd : d ∈ dkl) (ha : a ∈ rul) (hW : DW I d s D0) (h : Gd N s) (hN : N < 900000000) (hU : RuW I a cs) : ∃ I', fX0_fellAll d a (mk I L c t) = some (n2 (fellS 8 s cs).1.length, 0, mk I' L c t) ∧ DW I' d (fellS 8 s cs).2 D0 ∧ Fq I I' d ∧ (∀ i, i < (fellS 8 s cs).1.length → I' (d + 17) i = n2 ((fellS 8 s cs).1.getD i 0)) := by
  simp (disch := first | assumption | omega) only [fX0_fellAll, gX0_fellAll, l_0, l_1, l_2, l_3, l_4, l_5, l_6, l_7, l_8, l_9, l_10, l_11, l_12, l_15, l_16, l_21, l_24, l_31, l_32, l_40, l_64, l_76, l_80, l_84, l_85, l_99, l_255, l_256, l_680, l_688, l_696, l_704, l_712, l_720, l_728, l_736, l_744, l_752, l_753, l_754, l_755, l_1000, l_2000, l_3000, l_7550, l_1000000, l_41, l_42, l_43, l_45, l_47, l_48, l_56, l_57, l_60, l_61, l_62, l_63, l_73, l_83, l_88, l_97, l_98, l_100, l_101, l_102, l_103, l_104, l_105, l_108, l_111, l_113, l_117, l_118, l_119, l_120, l_65536, n2_31, n2_add, n2_mul, n2_sub, n2_eq, n2_le, n2_lt, n2_div, n2_qz0, n2_qz1, n2_qzb, bn_0, bn_1, bn_t, bn_f, n2_eqm, n2_meq, n2_ltm, n2_mlt, n2_lem, n2_mle, if_true, if_false, qbnd_s, ite_true, ite_false, if_pos, reduceIte, z_n, z_10, dk_q, lk_q, dk_P0, dk_P1, dk_P2, dk_P3, dk_I4, dk_U4, dk_gL, dk_gS, dk_dL, dk_dS, lk_P0, lk_L0, lk_S0, lk_P1, lk_L1, lk_S1, lk_P2, lk_L2, lk_S2, lk_P3, lk_L3, lk_S3]
  obtain ⟨fin, hfin⟩ : ∃ fin, fellS 8 s cs = fin := ⟨_, rfl⟩
  rw [hfin]
  refine lp_rk (α := (Nat → Nat → Int32) × St × List Nat) (fun m k z => fX0_fellAll_4 m d a (n2 z.2.2.length) (n2 k) (mk z.1 L c t)) 8
    (fun k z => DW z.1 d z.2.1 D0 ∧ Gd N z.2.1 ∧ Fq I z.1 d ∧ z.2.2.length = k ∧ z.2.2 ++ (fellS (8 - k) z.2.1 cs).1 = fin.1 ∧ (fellS (8 - k) z.2.1 cs).2 = fin.2 ∧ (∀ i, i < k → z.1 (d + 17) i = n2 (z.2.2.getD i 0)))
    (fun r => ∃ I', r = some (n2 fin.1.length, 0, mk I' L c t) ∧ DW I' d fin.2 D0 ∧ Fq I I' d ∧ (∀ i, i < fin.1.length → I' (d + 17) i = n2 (fin.1.getD i 0))) (k0 := 0) (by omega) (by omega) (I, s, []) ⟨hW, h, Fq.rf _ _, rfl, by rw [← hfin]; rfl, by rw [← hfin], fun i hi => absurd hi (Nat.not_lt_zero i)⟩ (fun m k z _ hk hi => ?_) (fun m z hi => ?_)
  · obtain ⟨K, s1, l⟩ := z
    obtain ⟨i1, i2, i3, i4, i5, i6, i7⟩ := hi
    dsimp only at i1 i2 i3 i4 i5 i6 i7
    have hUK := hU.q hd ha i3
    obtain ⟨K2, r1, r2, r3, r4⟩ := x0_cheapest (L := L) (c := c) (t := t) hd ha i1 i2 hN hUK
    rw [show 8 - k = (7 - k) + 1 by omega] at i5 i6
    simp only [fellS] at i5 i6
    cases hc : cheapS s1 cs with
    | none =>
      left
      rw [hc] at i5 i6 r1
      rw [List.append_nil] at i5
      refine ⟨K2, ?_, by rw [← i6]; exact r2, i3.trans r3, fun i hi => ?_⟩
      · rw [← i5]
        simp (disch := first | assumption | omega) only [fX0_fellAll_4, l_0, l_1, l_2, l_3, l_4, l_5, l_6, l_7, l_8, l_9, l_10, l_11, l_12, l_15, l_16, l_21, l_24, l_31, l_32, l_40, l_64, l_76, l_80, l_84, l_85, l_99, l_255, l_256, l_680, l_688, l_696, l_704, l_712, l_720, l_728, l_736, l_744, l_752, l_753, l_754, l_755, l_1000, l_2000, l_3000, l_7550, l_1000000, l_41, l_42, l_43, l_45, l_47, l_48, l_56, l_57, l_60, l_61, l_62, l_63, l_73, l_83, l_88, l_97, l_98, l_100, l_101, l_102, l_103, l_104, l_105, l_108, l_111, l_113, l_117, l_118, l_119, l_120, l_65536, n2_31, n2_add, n2_mul, n2_sub, n2_eq, n2_le, n2_lt, n2_div, n2_qz0, n2_qz1, n2_qzb, bn_0, bn_1, bn_t, bn_f, n2_eqm, n2_meq, n2_ltm, n2_mlt, n2_lem, n2_mle, if_true, if_false, qbnd_s, ite_true, ite_false, if_pos, reduceIte, z_n, z_10, dk_q, lk_q, dk_P0, dk_P1, dk_P2, dk_P3, dk_I4, dk_U4, dk_gL, dk_gS, dk_dL, dk_dS, lk_P0, lk_L0, lk_S0, lk_P1, lk_L1, lk_S1, lk_P2, lk_L2, lk_S2, lk_P3, lk_L3, lk_S3, z_8 hk, r1, Option.map_none, oi]
      · rw [← i5] at hi ⊢
        rw [r4, i7 i (by omega)]
    | some y =>
      right
      rw [hc] at i5 i6 r1
      dsimp only at i5 i6
      obtain ⟨y1, y2, y3⟩ := cheapS_lt hc
      have hB := (i2.1.bd (show N < 1000000000 by omega)).ow y1
      have hfl : (if s1 88 y.1 + 1 < 99 then n2 (s1 88 y.1 + 1) else n2 99) = n2 (f99 s1 y.1) := by
        unfold f99
        split <;> rfl
      have hDW : DW (upI (upI K2 (d + 1 + 5) y.1 (n2 (f99 s1 y.1))) (d + 17) k (n2 y.1)) d (su s1 88 y.1 (f99 s1 y.1)) D0 := ⟨(R7.seta 3 r2.1 (by omega) y1 rfl rfl).fr (lo := d + 17) (hi := d + 18) (Fr.up (by omega) (by omega)) (by omega), fun p hp => by rw [upI_ne (by omega), upI_ne (by omega)]; exact r2.2 p hp⟩
      have hg := gd_fall (o := y.1) i2
      obtain ⟨K3, q1, q2, q3⟩ := x0_leave (L := L) (c := c) (t := t) hd (show N < 1000000000 by omega) y1 hDW hg.1 hg.2.1
      have hgo : ∀ i, K3 (d + 17) i = upI (upI K2 (d + 1 + 5) y.1 (n2 (f99 s1 y.1))) (d + 17) k (n2 y.1) (d + 17) i := fun i => q3 _ _ (by omega) (by omega)
      have hst := dk_st hd
      refine ⟨(K3, leaveS (su s1 88 y.1 (f99 s1 y.1)) y.1, l ++ [y.1]), ?_, q2, gd_leave hg y1, (i3.trans r3).trans ((((Fr.up (lo := d + 1) (hi := d + 19) (by omega) (by omega)).trans (Fr.up (by omega) (by omega))).q (Nat.le_refl _) (Nat.le_refl _)).trans q3.q), by simp [i4], ?_, ?_, fun i hi => ?_⟩
      · have hl1 : (l ++ [y.1]).length = l.length + 1 := by simp
        rw [hl1]
        simp (disch := first | assumption | omega) only [fX0_fellAll_4, l_0, l_1, l_2, l_3, l_4, l_5, l_6, l_7, l_8, l_9, l_10, l_11, l_12, l_15, l_16, l_21, l_24, l_31, l_32, l_40, l_64, l_76, l_80, l_84, l_85, l_99, l_255, l_256, l_680, l_688, l_696, l_704, l_712, l_720, l_728, l_736, l_744, l_752, l_753, l_754, l_755, l_1000, l_2000, l_3000, l_7550, l_1000000, l_41, l_42, l_43, l_45, l_47, l_48, l_56, l_57, l_60, l_61, l_62, l_63, l_73, l_83, l_88, l_97, l_98, l_100, l_101, l_102, l_103, l_104, l_105, l_108, l_111, l_113, l_117, l_118, l_119, l_120, l_65536, n2_31, n2_add, n2_mul, n2_sub, n2_eq, n2_le, n2_lt, n2_div, n2_qz0, n2_qz1, n2_qzb, bn_0, bn_1, bn_t, bn_f, n2_eqm, n2_meq, n2_ltm, n2_mlt, n2_lem, n2_mle, if_true, if_false, qbnd_s, ite_true, ite_false, if_pos, reduceIte, z_n, z_10, dk_q, lk_q, dk_P0, dk_P1, dk_P2, dk_P3, dk_I4, dk_U4, dk_gL, dk_gS, dk_dL, dk_dS, lk_P0, lk_L0, lk_S0, lk_P1, lk_L1, lk_S1, lk_P2, lk_L2, lk_S2, lk_P3, lk_L3, lk_S3, st_q, st_P0, st_P1, st_P2, st_P3, st_P4, st_P5, st_P6, st_P7, st_P8, st_P9, st_L0, st_S0, st_L1, st_S1, st_L2, st_S2, st_L3, st_S3, st_L4, st_S4, st_L5, st_S5, st_L6, st_S6, st_L7, st_S7, st_L8, st_S8, st_L9, st_S9, st_I10, st_U10, st_I11, st_U11, st_I12, st_U12, r2.1.md, r2.1.st, r2.1.ag, r2.1.wk, r2.1.fl, r2.1.at, r2.1.wa, r2.1.tu, r2.1.go, r2.1.mo, r2.1.tn, r2.1.bg, r2.1.gf, z_8 hk, r1, Option.map_some, oi, hfl, q1]
      · show l ++ [y.1] ++ (fellS (8 - (k + 1)) _ cs).1 = fin.1
        rw [show 8 - (k + 1) = 7 - k by omega, List.append_assoc]
        exact i5
      · show (fellS (8 - (k + 1)) _ cs).2 = fin.2
        rw [show 8 - (k + 1) = 7 - k by omega]
        exact i6
      · show K3 (d + 17) i = n2 ((l ++ [y.1]).getD i 0)
        rw [hgo]
        by_cases ei : i = k
        · rw [ei, upI_eq, List.getD_eq_getElem?_getD, List.getElem?_append_right (by omega), i4, Nat.sub_self]
          rfl
        · rw [upI_ni ei, upI_ne (by omega), r4, i7 i (by omega), List.getD_eq_getElem?_getD, List.getD_eq_getElem?_getD, List.getElem?_append_left (by omega)]
  · obtain ⟨K, s1, l⟩ := z
    obtain ⟨i1, i2, i3, i4, i5, i6, i7⟩ := hi
    dsimp only at i1 i2 i3 i4 i5 i6 i7
    rw [Nat.sub_self] at i5 i6
    simp only [fellS, List.append_nil] at i5 i6
    refine ⟨K, ?_, by rw [← i6]; exact i1, i3, fun i hi => ?_⟩
    · rw [← i5]
      simp (disch := first | assumption | omega) only [fX0_fellAll_4, l_0, l_1, l_2, l_3, l_4, l_5, l_6, l_7, l_8, l_9, l_10, l_11, l_12, l_15, l_16, l_21, l_24, l_31, l_32, l_40, l_64, l_76, l_80, l_84, l_85, l_99, l_255, l_256, l_680, l_688, l_696, l_704, l_712, l_720, l_728, l_736, l_744, l_752, l_753, l_754, l_755, l_1000, l_2000, l_3000, l_7550, l_1000000, l_41, l_42, l_43, l_45, l_47, l_48, l_56, l_57, l_60, l_61, l_62, l_63, l_73, l_83, l_88, l_97, l_98, l_100, l_101, l_102, l_103, l_104, l_105, l_108, l_111, l_113, l_117, l_118, l_119, l_120, l_65536, n2_31, n2_add, n2_mul, n2_sub, n2_eq, n2_le, n2_lt, n2_div, n2_qz0, n2_qz1, n2_qzb, bn_0, bn_1, bn_t, bn_f, n2_eqm, n2_meq, n2_ltm, n2_mlt, n2_lem, n2_mle, if_true, if_false, qbnd_s, ite_true, ite_false, if_pos, reduceIte, z_n, z_10, dk_q, lk_q, dk_P0, dk_P1, dk_P2, dk_P3, dk_I4, dk_U4, dk_gL, dk_gS, dk_dL, dk_dS, lk_P0, lk_L0, lk_S0, lk_P1, lk_L1, lk_S1, lk_P2, lk_L2, lk_S2, lk_P3, lk_L3, lk_S3, Nat.le_refl]
    · rw [← i5] at hi ⊢
      exact i7 i (by omega)
end S7M

/-! PURE SIDE, THE CLASS' DESK: gathering, going on, serving, leaving as the numbers have it -/
def rk (P : Nat → Bool) (k : Nat) : List Nat := (List.range' k (85 - k)).filter P
theorem rk_step (P : Nat → Bool) {k : Nat} (hk : k < 85) : rk P k = if P k = true then k :: rk P (k + 1) else rk P (k + 1) := by
  unfold rk
  rw [show 85 - k = (85 - (k + 1)) + 1 by omega, List.range'_succ, List.filter_cons]
theorem rk_85 (P : Nat → Bool) : rk P 85 = [] := rfl
theorem rk_skip (P : Nat → Bool) : ∀ n k, k + n ≤ 85 → (∀ q, k ≤ q → q < k + n → P q = false) → rk P k = rk P (k + n)
  | 0, _, _, _ => rfl
  | n + 1, k, hk, h => by
    rw [rk_step P (by omega), h k (by omega) (by omega), if_neg (by simp), rk_skip P n (k + 1) (by omega) (fun q h1 h2 => h q (by omega) (by omega))]
    rw [show k + 1 + n = k + (n + 1) by omega]
theorem blw_gt : ∀ q, q < 85 → ∀ g, g < 85 → blw q g = true → g < q := by decide +kernel
def gP (s : St) (o g : Nat) : Nat → Bool := fun q => decide (q < 85) && (blw q g && decide (s q o ≠ 0))
theorem gP_gL {s : St} {o g : Nat} (hg : g < 85) : rk (gP s o g) (g + 1) = gL s o g := by
  have h1 : rk (gP s o g) 0 = gL s o g := by
    unfold rk gL bel
    rw [List.filter_filter, ← List.range_eq_range']
    refine List.filter_congr fun q hq => ?_
    rw [List.mem_range] at hq
    simp [gP, hq, Bool.and_comm]
  rw [← h1]
  have := rk_skip (gP s o g) (g + 1) 0 (by omega) (fun q _ h2 => by
    rcases bcs (blw q g) with e | e
    · simp [gP, e]
    · have := blw_gt q (by omega) g hg e
      omega)
  rw [this, Nat.zero_add]
def lP (s : St) (o : Nat) : Nat → Bool := fun p => decide (s p o ≠ 0) || decide (s 89 o = p)
theorem lP_lL (s : St) (o : Nat) : rk (lP s o) 0 = lL s o := by
  unfold rk lL
  rw [List.range_eq_range']
  rfl
/-- serving, called from inside -/
def SvR (R : qF) (d n dep : Nat) : Prop := ∀ (L : Nat → Nat → Int64) (c t : Nat) (I : Nat → Nat → Int32) (s : St) (D : Nat → Nat → Bool) (p : Nat) (U : List Nat) (T : Nat), T < 1000000000 → p < 85 → DW I d s D → Iv T s → Blk s (p :: U) → need s p ≤ n → (∀ q j, j < 8 → s 85 j = 2 → D q j = false) →
  ∃ I', R 17 [.ref d, .int (n2 p), .int (n2 dep)] (mk I L c t) = some (n2 0, 0, mk I' L c t) ∧ DW I' d (srvS n s p) D ∧ Fdk I I' d (d + 19)
def Dk (D : Nat → Nat → Bool) (P : Nat → Bool) (o k : Nat) : Nat → Nat → Bool := fun q j => if j = o ∧ k ≤ q ∧ P q = true then true else D q j
theorem Dk_no {D : Nat → Nat → Bool} {P : Nat → Bool} {o k : Nat} (h : P k = false) : Dk D P o k = Dk D P o (k + 1) := by
  funext q j
  unfold Dk
  by_cases e : q = k
  · subst e
    rw [if_neg (by simp [h]), if_neg (by simp [h])]
  · by_cases e2 : j = o ∧ k ≤ q ∧ P q = true
    · rw [if_pos e2, if_pos ⟨e2.1, by omega, e2.2.2⟩]
    · rw [if_neg e2, if_neg (fun z => e2 ⟨z.1, by omega, z.2.2⟩)]
theorem Dk_take {D : Nat → Nat → Bool} {P : Nat → Bool} {o k : Nat} (h : D k o = false) : dset (Dk D P o k) k o false = Dk D P o (k + 1) := by
  funext q j
  unfold dset Dk
  by_cases e : q = k ∧ j = o
  · rw [if_pos e, if_neg (fun z => by omega), e.1, e.2, h]
  · rw [if_neg e]
    by_cases e2 : j = o ∧ k ≤ q ∧ P q = true
    · rw [if_pos e2, if_pos ⟨e2.1, by omega, e2.2.2⟩]
    · rw [if_neg e2, if_neg (fun z => e2 ⟨z.1, by omega, z.2.2⟩)]
theorem Dk_85 {D : Nat → Nat → Bool} {P : Nat → Bool} {o p : Nat} (hp : p < 85) : Dk D P o 85 p = D p := by
  funext j
  unfold Dk
  rw [if_neg (by omega)]
/-- what holds while the places of a list are served, one behind another -/
def DueInv (d n o : Nat) (T : Nat) (U : List Nat) (P : Nat → Bool) (D : Nat → Nat → Bool) (I0 : Nat → Nat → Int32) (fin : St) (k : Nat) (z : (Nat → Nat → Int32) × St) : Prop :=
  DW z.1 d z.2 (Dk D P o k) ∧ Fdk I0 z.1 d (d + 19) ∧ Iv T z.2 ∧ Blk z.2 (rk P k ++ U) ∧ FuelOk n z.2 (rk P k) ∧ z.2 85 o ≠ 2 ∧ (∀ q j, j < 8 → z.2 85 j = 2 → D q j = false) ∧ (rk P k).foldl (srvS n) z.2 = fin
/-- a round of it, where the place is of the list -/
theorem due_next {d n o T : Nat} {U : List Nat} {P : Nat → Bool} {D : Nat → Nat → Bool} {I0 I1 I2 : Nat → Nat → Int32} {fin s : St} {k : Nat} (hk : k < 85) (ho : o < 8) (hP : P k = true) (h : DueInv d n o T U P D I0 fin k (I1, s)) (hW : DW I2 d (srvS n s k) (Dk D P o (k + 1))) (hF : Fdk I0 I2 d (d + 19)) : DueInv d n o T U P D I0 fin (k + 1) (I2, srvS n s k) := by
  obtain ⟨h1, h2, h3, h4, h5, h6, h7, h8⟩ := h
  have hr : rk P k = k :: rk P (k + 1) := by rw [rk_step P hk, if_pos hP]
  rw [hr] at h4 h5 h8
  have hs := srv_ok n s k _ T hk h3 h4 (fuel_need h5)
  have hc := hs.2.2.1
  refine ⟨hW, hF, hs.1, hs.2.1, h5.next hs, ?_, fun q j hj hw => ?_, h8⟩
  · show srvS n s k 85 o ≠ 2
    rw [hc o ho h6 85 (by omega)]
    exact h6
  · by_cases e : s 85 j = 2
    · exact h7 q j hj e
    · exact absurd hw (by
        show ¬ srvS n s k 85 j = 2
        rw [hc j hj e 85 (by omega)]; exact e)
theorem due_skip {d n o T : Nat} {U : List Nat} {P : Nat → Bool} {D : Nat → Nat → Bool} {I0 I1 I2 : Nat → Nat → Int32} {fin s : St} {k : Nat} (hk : k < 85) (hP : P k = false) (h : DueInv d n o T U P D I0 fin k (I1, s)) (hW : DW I2 d s (Dk D P o (k + 1))) (hF : Fdk I0 I2 d (d + 19)) : DueInv d n o T U P D I0 fin (k + 1) (I2, s) := by
  obtain ⟨h1, h2, h3, h4, h5, h6, h7, h8⟩ := h
  have hr : rk P k = rk P (k + 1) := by rw [rk_step P hk, if_neg (by rw [hP]; simp)]
  rw [hr] at h4 h5 h8
  exact ⟨hW, hF, h3, h4, h5, h6, h7, h8⟩
theorem Dk_w {D : Nat → Nat → Bool} {P : Nat → Bool} {o k : Nat} {s : St} (h6 : s 85 o ≠ 2) (h7 : ∀ q j, j < 8 → s 85 j = 2 → D q j = false) : ∀ q j, j < 8 → s 85 j = 2 → Dk D P o k q j = false := by
  intro q j hj hw
  unfold Dk
  rw [if_neg (fun z : j = o ∧ k ≤ q ∧ P q = true => h6 (by rw [← z.1]; exact hw))]
  exact h7 q j hj hw
section S7D
variable {I : Nat → Nat → Int32} {L : Nat → Nat → Int64} {c t d : Nat} {s : St} {D : Nat → Nat → Bool} {R : qF}
theorem x0_g79 (hd : d ∈ dkl) {n dep T o k0 : Nat} {U : List Nat} {P : Nat → Bool} {fin : St} (hS : SvR R d n (dep + 1)) (hT : T < 1000000000) (ho : o < 8) (hk0 : k0 ≤ 85) (hD0 : ∀ q, D q o = false) (h : DueInv d n o T U P D I fin k0 (I, s)) :
    ∃ I', fX0_gatherAt_79 R qfu d (n2 o) (n2 dep) (n2 k0) (mk I L c t) = some (n2 1, 0, mk I' L c t) ∧ DW I' d fin D ∧ Fdk I I' d (d + 19) := by
  refine lp_rk (α := (Nat → Nat → Int32) × St) (fun m k z => fX0_gatherAt_79 R m d (n2 o) (n2 dep) (n2 k) (mk z.1 L c t)) 85 (DueInv d n o T U P D I fin) (fun r => ∃ I', r = some (n2 1, 0, mk I' L c t) ∧ DW I' d fin D ∧ Fdk I I' d (d + 19)) (k0 := k0) hk0 (by omega) (I, s) h (fun m k z hk1 hk hi => Or.inr ?_) (fun m z hi => ?_)
  · obtain ⟨I1, s1⟩ := z
    have hi0 := hi
    obtain ⟨h1, h2, h3, h4, h5, h6, h7, h8⟩ := hi
    dsimp only at h1 h2 h3 h4 h5 h6 h7 h8
    have hdu := h1.2 k hk
    have hlt := bits8_lt (Dk D P o k k)
    have hDk : Dk D P o k k o = P k := by
      unfold Dk
      rcases bcs (P k) with e | e
      · rw [if_neg (by simp [e]), hD0, e]
      · rw [if_pos ⟨rfl, Nat.le_refl _, e⟩, e]
    by_cases e : bits8 (Dk D P o k k) = 0
    · have hPk : P k = false := by rw [← hDk]; exact (bits8_zero _).mp e o ho
      refine ⟨(I1, s1), ?_, due_skip hk hPk hi0 (by rw [← Dk_no hPk]; exact h1) h2⟩
      simp (disch := first | assumption | omega) only [fX0_gatherAt_79, l_0, l_1, l_2, l_3, l_4, l_5, l_6, l_7, l_8, l_9, l_10, l_11, l_12, l_15, l_16, l_21, l_24, l_31, l_32, l_40, l_64, l_76, l_80, l_84, l_85, l_99, l_255, l_256, l_680, l_688, l_696, l_704, l_712, l_720, l_728, l_736, l_744, l_752, l_753, l_754, l_755, l_1000, l_2000, l_3000, l_7550, l_1000000, l_41, l_42, l_43, l_45, l_47, l_48, l_56, l_57, l_60, l_61, l_62, l_63, l_73, l_83, l_88, l_97, l_98, l_100, l_101, l_102, l_103, l_104, l_105, l_108, l_111, l_113, l_117, l_118, l_119, l_120, l_65536, n2_31, n2_add, n2_mul, n2_sub, n2_eq, n2_le, n2_lt, n2_div, n2_qz0, n2_qz1, n2_qzb, bn_0, bn_1, bn_t, bn_f, n2_eqm, n2_meq, n2_ltm, n2_mlt, n2_lem, n2_mle, if_true, if_false, qbnd_s, ite_true, ite_false, if_pos, reduceIte, dk_q, lk_q, dk_P0, dk_P1, dk_P2, dk_P3, dk_I4, dk_U4, dk_gL, dk_gS, dk_dL, dk_dS, lk_P0, lk_L0, lk_S0, lk_P1, lk_L1, lk_S1, lk_P2, lk_L2, lk_S2, lk_P3, lk_L3, lk_S3, z_85 hk, hdu, e]
    · obtain ⟨I2, t1, t2, t3⟩ := x0_takeDue (L := L) (c := c) (t := t) hd h1 ho hk
      rw [Dk_take (hD0 k)] at t2
      rw [hDk] at t1
      rcases bcs (P k) with hPk | hPk
      · refine ⟨(I2, s1), ?_, due_skip hk hPk hi0 t2 (h2.trans t3)⟩
        rw [hPk] at t1
        simp (disch := first | assumption | omega) only [fX0_gatherAt_79, l_0, l_1, l_2, l_3, l_4, l_5, l_6, l_7, l_8, l_9, l_10, l_11, l_12, l_15, l_16, l_21, l_24, l_31, l_32, l_40, l_64, l_76, l_80, l_84, l_85, l_99, l_255, l_256, l_680, l_688, l_696, l_704, l_712, l_720, l_728, l_736, l_744, l_752, l_753, l_754, l_755, l_1000, l_2000, l_3000, l_7550, l_1000000, l_41, l_42, l_43, l_45, l_47, l_48, l_56, l_57, l_60, l_61, l_62, l_63, l_73, l_83, l_88, l_97, l_98, l_100, l_101, l_102, l_103, l_104, l_105, l_108, l_111, l_113, l_117, l_118, l_119, l_120, l_65536, n2_31, n2_add, n2_mul, n2_sub, n2_eq, n2_le, n2_lt, n2_div, n2_qz0, n2_qz1, n2_qzb, bn_0, bn_1, bn_t, bn_f, n2_eqm, n2_meq, n2_ltm, n2_mlt, n2_lem, n2_mle, if_true, if_false, qbnd_s, ite_true, ite_false, if_pos, reduceIte, dk_q, lk_q, dk_P0, dk_P1, dk_P2, dk_P3, dk_I4, dk_U4, dk_gL, dk_gS, dk_dL, dk_dS, lk_P0, lk_L0, lk_S0, lk_P1, lk_L1, lk_S1, lk_P2, lk_L2, lk_S2, lk_P3, lk_L3, lk_S3, z_85 hk, hdu, e, t1]
      · have hr : rk P k = k :: rk P (k + 1) := by rw [rk_step P hk, if_pos hPk]
        rw [hr] at h4 h5
        obtain ⟨I3, r1, r2, r3⟩ := hS L c t I2 s1 (Dk D P o (k + 1)) k _ T hT hk t2 h3 h4 (fuel_need h5) (Dk_w h6 h7)
        refine ⟨(I3, srvS n s1 k), ?_, due_next hk ho hPk hi0 r2 ((h2.trans t3).trans r3)⟩
        rw [hPk] at t1
        simp (disch := first | assumption | omega) only [fX0_gatherAt_79, l_0, l_1, l_2, l_3, l_4, l_5, l_6, l_7, l_8, l_9, l_10, l_11, l_12, l_15, l_16, l_21, l_24, l_31, l_32, l_40, l_64, l_76, l_80, l_84, l_85, l_99, l_255, l_256, l_680, l_688, l_696, l_704, l_712, l_720, l_728, l_736, l_744, l_752, l_753, l_754, l_755, l_1000, l_2000, l_3000, l_7550, l_1000000, l_41, l_42, l_43, l_45, l_47, l_48, l_56, l_57, l_60, l_61, l_62, l_63, l_73, l_83, l_88, l_97, l_98, l_100, l_101, l_102, l_103, l_104, l_105, l_108, l_111, l_113, l_117, l_118, l_119, l_120, l_65536, n2_31, n2_add, n2_mul, n2_sub, n2_eq, n2_le, n2_lt, n2_div, n2_qz0, n2_qz1, n2_qzb, bn_0, bn_1, bn_t, bn_f, n2_eqm, n2_meq, n2_ltm, n2_mlt, n2_lem, n2_mle, if_true, if_false, qbnd_s, ite_true, ite_false, if_pos, reduceIte, dk_q, lk_q, dk_P0, dk_P1, dk_P2, dk_P3, dk_I4, dk_U4, dk_gL, dk_gS, dk_dL, dk_dS, lk_P0, lk_L0, lk_S0, lk_P1, lk_L1, lk_S1, lk_P2, lk_L2, lk_S2, lk_P3, lk_L3, lk_S3, z_85 hk, hdu, e, t1, r1]
        simp
  · obtain ⟨I1, s1⟩ := z
    obtain ⟨h1, h2, h3, h4, h5, h6, h7, h8⟩ := hi
    dsimp only at h1 h2 h3 h4 h5 h6 h7 h8
    rw [rk_85, List.foldl_nil] at h8
    refine ⟨I1, ?_, ⟨?_, fun p hp => ?_⟩, h2⟩
    · simp (disch := first | assumption | omega) only [fX0_gatherAt_79, l_0, l_1, l_2, l_3, l_4, l_5, l_6, l_7, l_8, l_9, l_10, l_11, l_12, l_15, l_16, l_21, l_24, l_31, l_32, l_40, l_64, l_76, l_80, l_84, l_85, l_99, l_255, l_256, l_680, l_688, l_696, l_704, l_712, l_720, l_728, l_736, l_744, l_752, l_753, l_754, l_755, l_1000, l_2000, l_3000, l_7550, l_1000000, l_41, l_42, l_43, l_45, l_47, l_48, l_56, l_57, l_60, l_61, l_62, l_63, l_73, l_83, l_88, l_97, l_98, l_100, l_101, l_102, l_103, l_104, l_105, l_108, l_111, l_113, l_117, l_118, l_119, l_120, l_65536, n2_31, n2_add, n2_mul, n2_sub, n2_eq, n2_le, n2_lt, n2_div, n2_qz0, n2_qz1, n2_qzb, bn_0, bn_1, bn_t, bn_f, n2_eqm, n2_meq, n2_ltm, n2_mlt, n2_lem, n2_mle, if_true, if_false, qbnd_s, ite_true, ite_false, if_pos, reduceIte, dk_q, lk_q, dk_P0, dk_P1, dk_P2, dk_P3, dk_I4, dk_U4, dk_gL, dk_gS, dk_dL, dk_dS, lk_P0, lk_L0, lk_S0, lk_P1, lk_L1, lk_S1, lk_P2, lk_L2, lk_S2, lk_P3, lk_L3, lk_S3, Nat.le_refl]
    · rw [← h8]; exact h1.1
    · rw [h1.2 p hp, Dk_85 hp]
/-- all below is given up -/
def svV (s : St) (o : Nat) (V : Nat → Bool) : St := fun a b => if b = o ∧ V a = true then 0 else s a b
def DvV (D : Nat → Nat → Bool) (s : St) (o : Nat) (V : Nat → Bool) : Nat → Nat → Bool := fun q j => if j = o ∧ V q = true ∧ s q o ≠ 0 then true else D q j
theorem x0_g39 (hd : d ∈ dkl) {dep o g : Nat} (ho : o < 8) (hg : g < 85) (hW : DW I d s D) {Q : Option qR → Prop} (hm : ∀ p, p < 85 → s p o ≤ 6)
    (hQ : ∀ I', DW I' d (svV s o fun q => decide (q ∈ bel g)) (DvV D s o fun q => decide (q ∈ bel g)) → Fdk I I' d (d + 19) → Q (fX0_gatherAt_79 R qfu d (n2 o) (n2 dep) (n2 (g + 1)) (mk I' L c t))) :
    Q (fX0_gatherAt_39 R qfu d (n2 o) (n2 g) (n2 dep) (n2 (4 * g + 4)) (n2 (4 * g + 1)) (mk I L c t)) := by
  have ha := dk_st hd
  refine bl_r (α := Nat → Nat → Int32) hg (fun m J l f => fX0_gatherAt_39 R m d (n2 o) (n2 g) (n2 dep) (n2 l) (n2 f) (mk J L c t)) Q (fun vis J => DW J d (svV s o fun q => decide (q ∈ vis)) (DvV D s o fun q => decide (q ∈ vis)) ∧ Fdk I J d (d + 19)) I ⟨?_, Fdk.rf _ _ _⟩ (fun m J l f vis hl hf hfl hv hi => Or.inr ?_) (fun m J l f hf hf2 hi => ?_)
  · have e1 : (svV s o fun q => decide (q ∈ ([] : List Nat))) = s := by
      funext a b; unfold svV; rw [if_neg (by simp)]
    have e2 : (DvV D s o fun q => decide (q ∈ ([] : List Nat))) = D := by
      funext a b; unfold DvV; rw [if_neg (by simp)]
    rw [e1, e2]
    exact hW
  · have key := lp_rk (α := Nat → Nat → Int32) (fun y k J => fX0_gatherAt_44 R (fX0_gatherAt_39 R m) y d (n2 o) (n2 g) (n2 dep) (n2 l) (n2 f) (n2 k) (mk J L c t)) (min l 84 + 1)
      (fun k J => DW J d (svV s o fun q => decide (q ∈ vis) || (decide (f ≤ q) && decide (q < k))) (DvV D s o fun q => decide (q ∈ vis) || (decide (f ≤ q) && decide (q < k))) ∧ Fdk I J d (d + 19))
      (fun r => ∃ J, r = fX0_gatherAt_39 R m d (n2 o) (n2 g) (n2 dep) (n2 (4 * l + 4)) (n2 (4 * f + 1)) (mk J L c t) ∧ DW J d (svV s o fun q => decide (q ∈ vis) || (decide (f ≤ q) && decide (q < min l 84 + 1))) (DvV D s o fun q => decide (q ∈ vis) || (decide (f ≤ q) && decide (q < min l 84 + 1))) ∧ Fdk I J d (d + 19)) (k0 := f) (by omega) (by omega) J ?_ (fun y k J hk0 hk hi2 => Or.inr ?_) (fun y J hi2 => ⟨J, ?_, hi2⟩)
    · obtain ⟨J', k1, k2, k3⟩ := key
      refine ⟨J', ?_, ?_, k3⟩
      · simp (disch := first | assumption | omega) only [fX0_gatherAt_39, l_0, l_1, l_2, l_3, l_4, l_5, l_6, l_7, l_8, l_9, l_10, l_11, l_12, l_15, l_16, l_21, l_24, l_31, l_32, l_40, l_64, l_76, l_80, l_84, l_85, l_99, l_255, l_256, l_680, l_688, l_696, l_704, l_712, l_720, l_728, l_736, l_744, l_752, l_753, l_754, l_755, l_1000, l_2000, l_3000, l_7550, l_1000000, l_41, l_42, l_43, l_45, l_47, l_48, l_56, l_57, l_60, l_61, l_62, l_63, l_73, l_83, l_88, l_97, l_98, l_100, l_101, l_102, l_103, l_104, l_105, l_108, l_111, l_113, l_117, l_118, l_119, l_120, l_65536, n2_31, n2_add, n2_mul, n2_sub, n2_eq, n2_le, n2_lt, n2_div, n2_qz0, n2_qz1, n2_qzb, bn_0, bn_1, bn_t, bn_f, n2_eqm, n2_meq, n2_ltm, n2_mlt, n2_lem, n2_mle, if_true, if_false, qbnd_s, ite_true, ite_false, if_pos, reduceIte, dk_q, lk_q, dk_P0, dk_P1, dk_P2, dk_P3, dk_I4, dk_U4, dk_gL, dk_gS, dk_dL, dk_dS, lk_P0, lk_L0, lk_S0, lk_P1, lk_L1, lk_S1, lk_P2, lk_L2, lk_S2, lk_P3, lk_L3, lk_S3, z_85 hf]
        exact k1
      · have e : (fun q => decide (q ∈ vis ++ List.range' f (min l 84 + 1 - f))) = fun q => decide (q ∈ vis) || (decide (f ≤ q) && decide (q < min l 84 + 1)) := by
          funext q
          have : q ∈ vis ++ List.range' f (min l 84 + 1 - f) ↔ q ∈ vis ∨ (f ≤ q ∧ q < min l 84 + 1) := by
            rw [List.mem_append, List.mem_range'_1, show f + (min l 84 + 1 - f) = min l 84 + 1 by omega]
          simp [this]
        rw [e]
        exact k2
    · have e : (fun q => decide (q ∈ vis) || (decide (f ≤ q) && decide (q < f))) = fun q => decide (q ∈ vis) := by
        funext q
        by_cases e1 : f ≤ q
        · have : ¬ q < f := by omega
          simp [this]
        · simp [e1]
      rw [e]
      exact hi
    · obtain ⟨i1, i2⟩ := hi2
      have h1 : k < 85 := by omega
      have h3 : ¬ l < k := by omega
      have hmk := hm k h1
      by_cases hz : svV s o (fun q => decide (q ∈ vis) || (decide (f ≤ q) && decide (q < k))) k o = 0
      · refine ⟨J, ?_, ?_, i2⟩
        · simp (disch := first | assumption | omega) only [fX0_gatherAt_44, l_0, l_1, l_2, l_3, l_4, l_5, l_6, l_7, l_8, l_9, l_10, l_11, l_12, l_15, l_16, l_21, l_24, l_31, l_32, l_40, l_64, l_76, l_80, l_84, l_85, l_99, l_255, l_256, l_680, l_688, l_696, l_704, l_712, l_720, l_728, l_736, l_744, l_752, l_753, l_754, l_755, l_1000, l_2000, l_3000, l_7550, l_1000000, l_41, l_42, l_43, l_45, l_47, l_48, l_56, l_57, l_60, l_61, l_62, l_63, l_73, l_83, l_88, l_97, l_98, l_100, l_101, l_102, l_103, l_104, l_105, l_108, l_111, l_113, l_117, l_118, l_119, l_120, l_65536, n2_31, n2_add, n2_mul, n2_sub, n2_eq, n2_le, n2_lt, n2_div, n2_qz0, n2_qz1, n2_qzb, bn_0, bn_1, bn_t, bn_f, n2_eqm, n2_meq, n2_ltm, n2_mlt, n2_lem, n2_mle, if_true, if_false, qbnd_s, ite_true, ite_false, if_pos, reduceIte, dk_q, lk_q, dk_P0, dk_P1, dk_P2, dk_P3, dk_I4, dk_U4, dk_gL, dk_gS, dk_dL, dk_dS, lk_P0, lk_L0, lk_S0, lk_P1, lk_L1, lk_S1, lk_P2, lk_L2, lk_S2, lk_P3, lk_L3, lk_S3, z_85 h1, h3, if_false, x5_modeAt ha i1.1 ho h1, hz]
        · have e1 : (svV s o fun q => decide (q ∈ vis) || (decide (f ≤ q) && decide (q < k + 1))) = svV s o fun q => decide (q ∈ vis) || (decide (f ≤ q) && decide (q < k)) := by
            funext a b
            by_cases e : a = k ∧ b = o
            · obtain ⟨rfl, rfl⟩ := e
              rw [hz]
              unfold svV
              rw [if_pos ⟨rfl, by simp [hk0]⟩]
            · unfold svV
              by_cases e2 : b = o
              · have : a ≠ k := fun z => e ⟨z, e2⟩
                have h7 : (a < k + 1) = (a < k) := propext (by omega)
                simp only [h7]
              · rw [if_neg (fun z => e2 z.1), if_neg (fun z => e2 z.1)]
          have e3 : (DvV D s o fun q => decide (q ∈ vis) || (decide (f ≤ q) && decide (q < k + 1))) = DvV D s o fun q => decide (q ∈ vis) || (decide (f ≤ q) && decide (q < k)) := by
            funext a b
            unfold DvV
            by_cases e : a = k
            · subst e
              unfold svV at hz
              by_cases e4 : decide (a ∈ vis) = true
              · simp [e4]
              · have e5 : s a o = 0 := by
                  rw [if_neg (by simpa using e4)] at hz
                  exact hz
                rw [if_neg (fun z => z.2.2 e5), if_neg (fun z => z.2.2 e5)]
            · have h7 : (a < k + 1) = (a < k) := propext (by omega)
              simp only [h7]
          rw [e1, e3]
          exact i1
      · have hzv : ¬ (decide (k ∈ vis) || (decide (f ≤ k) && decide (k < k))) = true ∧ s k o ≠ 0 := by
          unfold svV at hz
          by_cases e4 : (decide (k ∈ vis) || (decide (f ≤ k) && decide (k < k))) = true
          · rw [if_pos ⟨rfl, e4⟩] at hz; exact absurd rfl hz
          · rw [if_neg (fun z => e4 z.2)] at hz
            exact ⟨e4, hz⟩
        have hzs : svV s o (fun q => decide (q ∈ vis) || (decide (f ≤ q) && decide (q < k))) k o = s k o := by
          unfold svV
          rw [if_neg (fun z => hzv.1 z.2)]
        obtain ⟨J2, r1, r2, r3⟩ := x0_release (L := L) (c := c) (t := t) hd i1 ho h1
        refine ⟨J2, ?_, ?_, i2.trans r3⟩
        · have hz2 := hzv.2
          simp (disch := first | assumption | omega) only [fX0_gatherAt_44, l_0, l_1, l_2, l_3, l_4, l_5, l_6, l_7, l_8, l_9, l_10, l_11, l_12, l_15, l_16, l_21, l_24, l_31, l_32, l_40, l_64, l_76, l_80, l_84, l_85, l_99, l_255, l_256, l_680, l_688, l_696, l_704, l_712, l_720, l_728, l_736, l_744, l_752, l_753, l_754, l_755, l_1000, l_2000, l_3000, l_7550, l_1000000, l_41, l_42, l_43, l_45, l_47, l_48, l_56, l_57, l_60, l_61, l_62, l_63, l_73, l_83, l_88, l_97, l_98, l_100, l_101, l_102, l_103, l_104, l_105, l_108, l_111, l_113, l_117, l_118, l_119, l_120, l_65536, n2_31, n2_add, n2_mul, n2_sub, n2_eq, n2_le, n2_lt, n2_div, n2_qz0, n2_qz1, n2_qzb, bn_0, bn_1, bn_t, bn_f, n2_eqm, n2_meq, n2_ltm, n2_mlt, n2_lem, n2_mle, if_true, if_false, qbnd_s, ite_true, ite_false, if_pos, reduceIte, dk_q, lk_q, dk_P0, dk_P1, dk_P2, dk_P3, dk_I4, dk_U4, dk_gL, dk_gS, dk_dL, dk_dS, lk_P0, lk_L0, lk_S0, lk_P1, lk_L1, lk_S1, lk_P2, lk_L2, lk_S2, lk_P3, lk_L3, lk_S3, z_85 h1, h3, if_false, x5_modeAt ha i1.1 ho h1, hzs, hz2, r1]
        · have e1 : (svV s o fun q => decide (q ∈ vis) || (decide (f ≤ q) && decide (q < k + 1))) = su (svV s o fun q => decide (q ∈ vis) || (decide (f ≤ q) && decide (q < k))) k o 0 := by
            funext a b
            rw [su_at]
            by_cases e : a = k ∧ b = o
            · rw [if_pos e]
              obtain ⟨rfl, rfl⟩ := e
              unfold svV
              rw [if_pos ⟨rfl, by simp [hk0]⟩]
            · rw [if_neg e]
              unfold svV
              by_cases e2 : b = o
              · have : a ≠ k := fun z => e ⟨z, e2⟩
                have h7 : (a < k + 1) = (a < k) := propext (by omega)
                simp only [h7]
              · rw [if_neg (fun z => e2 z.1), if_neg (fun z => e2 z.1)]
          have e3 : (DvV D s o fun q => decide (q ∈ vis) || (decide (f ≤ q) && decide (q < k + 1))) = dset (DvV D s o fun q => decide (q ∈ vis) || (decide (f ≤ q) && decide (q < k))) k o true := by
            funext a b
            unfold dset
            by_cases e : a = k ∧ b = o
            · rw [if_pos e]
              obtain ⟨rfl, rfl⟩ := e
              unfold DvV
              rw [if_pos ⟨rfl, by simp [hk0], hzv.2⟩]
            · rw [if_neg e]
              unfold DvV
              by_cases e2 : b = o
              · have : a ≠ k := fun z => e ⟨z, e2⟩
                have h7 : (a < k + 1) = (a < k) := propext (by omega)
                simp only [h7]
              · rw [if_neg (fun z => e2 z.1), if_neg (fun z => e2 z.1)]
          rw [e1, e3]
          exact r2
    · by_cases h1 : l < min l 84 + 1
      · simp (disch := first | assumption | omega) only [fX0_gatherAt_44, fX0_gatherAt_62, l_0, l_1, l_2, l_3, l_4, l_5, l_6, l_7, l_8, l_9, l_10, l_11, l_12, l_15, l_16, l_21, l_24, l_31, l_32, l_40, l_64, l_76, l_80, l_84, l_85, l_99, l_255, l_256, l_680, l_688, l_696, l_704, l_712, l_720, l_728, l_736, l_744, l_752, l_753, l_754, l_755, l_1000, l_2000, l_3000, l_7550, l_1000000, l_41, l_42, l_43, l_45, l_47, l_48, l_56, l_57, l_60, l_61, l_62, l_63, l_73, l_83, l_88, l_97, l_98, l_100, l_101, l_102, l_103, l_104, l_105, l_108, l_111, l_113, l_117, l_118, l_119, l_120, l_65536, n2_31, n2_add, n2_mul, n2_sub, n2_eq, n2_le, n2_lt, n2_div, n2_qz0, n2_qz1, n2_qzb, bn_0, bn_1, bn_t, bn_f, n2_eqm, n2_meq, n2_ltm, n2_mlt, n2_lem, n2_mle, if_true, if_false, qbnd_s, ite_true, ite_false, if_pos, reduceIte, dk_q, lk_q, dk_P0, dk_P1, dk_P2, dk_P3, dk_I4, dk_U4, dk_gL, dk_gS, dk_dL, dk_dS, lk_P0, lk_L0, lk_S0, lk_P1, lk_L1, lk_S1, lk_P2, lk_L2, lk_S2, lk_P3, lk_L3, lk_S3, h1, if_true]
      · have h2 : min l 84 + 1 = 85 := by omega
        rw [h2]
        have h3 : ¬ l < 85 := by omega
        simp (disch := first | assumption | omega) only [fX0_gatherAt_44, fX0_gatherAt_62, l_0, l_1, l_2, l_3, l_4, l_5, l_6, l_7, l_8, l_9, l_10, l_11, l_12, l_15, l_16, l_21, l_24, l_31, l_32, l_40, l_64, l_76, l_80, l_84, l_85, l_99, l_255, l_256, l_680, l_688, l_696, l_704, l_712, l_720, l_728, l_736, l_744, l_752, l_753, l_754, l_755, l_1000, l_2000, l_3000, l_7550, l_1000000, l_41, l_42, l_43, l_45, l_47, l_48, l_56, l_57, l_60, l_61, l_62, l_63, l_73, l_83, l_88, l_97, l_98, l_100, l_101, l_102, l_103, l_104, l_105, l_108, l_111, l_113, l_117, l_118, l_119, l_120, l_65536, n2_31, n2_add, n2_mul, n2_sub, n2_eq, n2_le, n2_lt, n2_div, n2_qz0, n2_qz1, n2_qzb, bn_0, bn_1, bn_t, bn_f, n2_eqm, n2_meq, n2_ltm, n2_mlt, n2_lem, n2_mle, if_true, if_false, qbnd_s, ite_true, ite_false, if_pos, reduceIte, dk_q, lk_q, dk_P0, dk_P1, dk_P2, dk_P3, dk_I4, dk_U4, dk_gL, dk_gS, dk_dL, dk_dS, lk_P0, lk_L0, lk_S0, lk_P1, lk_L1, lk_S1, lk_P2, lk_L2, lk_S2, lk_P3, lk_L3, lk_S3, h3, if_false, Nat.le_refl]
  · have := hQ J hi.1 hi.2
    simp (disch := first | assumption | omega) only [fX0_gatherAt_39, l_0, l_1, l_2, l_3, l_4, l_5, l_6, l_7, l_8, l_9, l_10, l_11, l_12, l_15, l_16, l_21, l_24, l_31, l_32, l_40, l_64, l_76, l_80, l_84, l_85, l_99, l_255, l_256, l_680, l_688, l_696, l_704, l_712, l_720, l_728, l_736, l_744, l_752, l_753, l_754, l_755, l_1000, l_2000, l_3000, l_7550, l_1000000, l_41, l_42, l_43, l_45, l_47, l_48, l_56, l_57, l_60, l_61, l_62, l_63, l_73, l_83, l_88, l_97, l_98, l_100, l_101, l_102, l_103, l_104, l_105, l_108, l_111, l_113, l_117, l_118, l_119, l_120, l_65536, n2_31, n2_add, n2_mul, n2_sub, n2_eq, n2_le, n2_lt, n2_div, n2_qz0, n2_qz1, n2_qzb, bn_0, bn_1, bn_t, bn_f, n2_eqm, n2_meq, n2_ltm, n2_mlt, n2_lem, n2_mle, if_true, if_false, qbnd_s, ite_true, ite_false, if_pos, reduceIte, dk_q, lk_q, dk_P0, dk_P1, dk_P2, dk_P3, dk_I4, dk_U4, dk_gL, dk_gS, dk_dL, dk_dS, lk_P0, lk_L0, lk_S0, lk_P1, lk_L1, lk_S1, lk_P2, lk_L2, lk_S2, lk_P3, lk_L3, lk_S3, hf, if_true]
    exact this
theorem x0_gatherAt (hd : d ∈ dkl) {n dep T o g : Nat} {U : List Nat} (hS : SvR R d n (dep + 1)) (hT : T < 1000000000) (ho : o < 8) (hg : g < 85) (hW : DW I d s D) (h : Iv T s) (hB : Blk s U) (hr : s 85 o = 1) (hf : FuelOk n s (gL s o g)) (hD0 : ∀ q, D q o = false) (hDw : ∀ q j, j < 8 → s 85 j = 2 → D q j = false) :
    ∃ I', fX0_gatherAt R d (n2 o) (n2 g) (n2 dep) (mk I L c t) = some (n2 (bn (canG s o g)), 0, mk I' L c t) ∧ DW I' d (gathS (srvS n) s o g).1 D ∧ Fdk I I' d (d + 19) := by
  have ha := dk_st hd
  have hBd := h.bd hT
  obtain ⟨w1, w2, w3⟩ := gmode_ok h ho hg
  have hbl : hbel s o g < 10000 := by
    rw [hbel_cnt]
    have h1 := List.countP_le_length (p := fun q => decide (s q o ≠ 0)) (l := bel g)
    have h2 := List.length_filter_le (fun q => blw q g) (List.range 85)
    rw [List.length_range] at h2
    unfold bel at h1 ⊢
    omega
  have e0 : fX0_gatherAt R d (n2 o) (n2 g) (n2 dep) (mk I L c t) = if hbel s o g = 0 then some (n2 0, 0, mk I L c t) else if opn s o g (gmode s o g) = false then some (n2 0, 0, mk I L c t) else fX0_gatherAt_39 R qfu d (n2 o) (n2 g) (n2 dep) (n2 (4 * g + 4)) (n2 (4 * g + 1)) (mk (upI I (d + 1 + 1) g (nst (I (d + 1 + 1) g) o (gmode s o g))) L c t) := by
    simp (disch := first | assumption | omega) only [fX0_gatherAt, gX0_gatherAt, l_0, l_1, l_2, l_3, l_4, l_5, l_6, l_7, l_8, l_9, l_10, l_11, l_12, l_15, l_16, l_21, l_24, l_31, l_32, l_40, l_64, l_76, l_80, l_84, l_85, l_99, l_255, l_256, l_680, l_688, l_696, l_704, l_712, l_720, l_728, l_736, l_744, l_752, l_753, l_754, l_755, l_1000, l_2000, l_3000, l_7550, l_1000000, l_41, l_42, l_43, l_45, l_47, l_48, l_56, l_57, l_60, l_61, l_62, l_63, l_73, l_83, l_88, l_97, l_98, l_100, l_101, l_102, l_103, l_104, l_105, l_108, l_111, l_113, l_117, l_118, l_119, l_120, l_65536, n2_31, n2_add, n2_mul, n2_sub, n2_eq, n2_le, n2_lt, n2_div, n2_qz0, n2_qz1, n2_qzb, bn_0, bn_1, bn_t, bn_f, n2_eqm, n2_meq, n2_ltm, n2_mlt, n2_lem, n2_mle, if_true, if_false, qbnd_s, ite_true, ite_false, if_pos, reduceIte, dk_q, lk_q, dk_P0, dk_P1, dk_P2, dk_P3, dk_I4, dk_U4, dk_gL, dk_gS, dk_dL, dk_dS, lk_P0, lk_L0, lk_S0, lk_P1, lk_L1, lk_S1, lk_P2, lk_L2, lk_S2, lk_P3, lk_L3, lk_S3, x5_gatherMode ha hW.1 hBd ho hg, x5_holdingsBelow ha hW.1 hBd ho hg, x5_isOpen ha hW.1 hBd ho hg w2, x5_setMode ha ho hg]
  rw [e0]
  by_cases c1 : hbel s o g = 0
  · have : canG s o g = false := by unfold canG; simp [c1]
    rw [if_pos c1, this]
    unfold gathS
    rw [this]
    exact ⟨I, rfl, hW, Fdk.rf _ _ _⟩
  rw [if_neg c1]
  rcases bcs (opn s o g (gmode s o g)) with c2 | c2
  · have : canG s o g = false := by unfold canG; simp [c2]
    rw [if_pos c2, this]
    unfold gathS
    rw [this]
    exact ⟨I, rfl, hW, Fdk.rf _ _ _⟩
  · have hcg : canG s o g = true := canG_iff.mpr ⟨c1, c2⟩
    rw [if_neg (by rw [c2]; simp), hcg]
    unfold gathS
    rw [if_pos hcg]
    have hW1 : DW (upI I (d + 1 + 1) g (nst (I (d + 1 + 1) g) o (gmode s o g))) d (su s g o (gmode s o g)) D := ⟨R7.mode hW.1 ho hg w2, fun p hp => by rw [upI_ne (by omega)]; exact hW.2 p hp⟩
    have hF1 : Fdk I (upI I (d + 1 + 1) g (nst (I (d + 1 + 1) g) o (gmode s o g))) d (d + 19) := Fdk.up (by omega) (by omega)
    refine x0_g39 (Q := fun r => ∃ I', r = some (n2 (bn true), 0, mk I' L c t) ∧ DW I' d ((gL s o g).foldl (srvS n) (clr s o g (gmode s o g))) D ∧ Fdk I I' d (d + 19)) hd ho hg hW1 (fun p hp => ?_) (fun I' hW2 hF2 => ?_)
    · by_cases e : p = g
      · rw [e, su_eq]; exact w2
      · rw [su_ne e]; exact h.1 p o hp ho
    · have e1 : (svV (su s g o (gmode s o g)) o fun q => decide (q ∈ bel g)) = clr s o g (gmode s o g) := by
        funext a b
        unfold svV clr
        rw [su_at]
        by_cases e2 : b = o
        · subst e2
          by_cases e3 : a = g
          · subst e3
            have : ¬ a ∈ bel a := fun z => by
              have := (bel_iff.mp z).2
              rw [blw_self a hg] at this
              cases this
            simp [this]
          · simp only [e3, true_and, false_and, and_false, and_true, decide_eq_true_eq, bel_iff, if_false]
        · simp [e2]
      have e2 : (DvV D (su s g o (gmode s o g)) o fun q => decide (q ∈ bel g)) = Dk D (gP s o g) o (g + 1) := by
        funext q j
        unfold DvV Dk
        have : (j = o ∧ decide (q ∈ bel g) = true ∧ su s g o (gmode s o g) q o ≠ 0) ↔ (j = o ∧ g + 1 ≤ q ∧ gP s o g q = true) := by
          rw [decide_eq_true_eq, bel_iff, su_at]
          unfold gP
          constructor
          · rintro ⟨z1, ⟨z2, z3⟩, z4⟩
            have := blw_gt q z2 g hg z3
            rw [if_neg (by omega)] at z4
            exact ⟨z1, by omega, by simp [z2, z3, z4]⟩
          · rintro ⟨z1, z2, z3⟩
            simp only [Bool.and_eq_true, decide_eq_true_eq] at z3
            refine ⟨z1, ⟨z3.1, z3.2.1⟩, ?_⟩
            rw [if_neg (by omega)]
            exact z3.2.2
        by_cases e5 : (j = o ∧ decide (q ∈ bel g) = true ∧ su s g o (gmode s o g) q o ≠ 0)
        · rw [if_pos e5, if_pos (this.mp e5)]
        · rw [if_neg e5, if_neg (fun z => e5 (this.mpr z))]
      rw [e1, e2] at hW2
      have hB2 := blk_clr h ho hr hg hB
      have hI2 := iv_clr h ho hr hg hcg
      have hf2 : FuelOk n (clr s o g (gmode s o g)) (gL s o g) := by
        rcases hf with ⟨f1, f2⟩ | f
        · exact Or.inl ⟨f1, by rw [Wt_row fun j => clr_hi hg (by omega)]; exact f2⟩
        · exact Or.inr f
      have e85 : ∀ j, clr s o g (gmode s o g) 85 j = s 85 j := fun j => clr_hi hg (by omega)
      obtain ⟨I3, z1, z2, z3⟩ := x0_g79 (L := L) (c := c) (t := t) (I := I') (s := clr s o g (gmode s o g)) (D := D) (P := gP s o g) (fin := (gL s o g).foldl (srvS n) (clr s o g (gmode s o g))) (U := U) hd hS hT ho (k0 := g + 1) (by omega) hD0 ⟨hW2, Fdk.rf _ _ _, hI2, by rw [gP_gL hg]; exact hB2, by rw [gP_gL hg]; exact hf2, by show clr s o g (gmode s o g) 85 o ≠ 2; rw [e85, hr]; omega, fun q j hj hw => hDw q j hj (by rw [← e85 j]; exact hw), by rw [gP_gL hg]⟩
      exact ⟨I3, z1, z2, (hF1.trans hF2).trans z3⟩
end S7D

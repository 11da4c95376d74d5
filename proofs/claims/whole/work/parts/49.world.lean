/-! PURE SIDE, THE CLASS: its world, and its acts -/
theorem R7.on {I I' : Nat → Nat → Int32} {a : Nat} {s : St} (h : R7 I a s) (hf : ∀ b i, a ≤ b → b < a + 11 → I' b i = I b i) : R7 I' a s := by
  obtain ⟨a1, a2, a3, a4, a5⟩ := h
  refine ⟨fun p o hp ho => ?_, fun j o hj ho => ?_, ?_, ?_, ?_⟩
  · rw [hf _ _ (by omega) (by omega)]; exact a1 p o hp ho
  · rw [hf _ _ (by omega) (by omega)]; exact a2 j o hj ho
  · rw [hf _ _ (by omega) (by omega)]; exact a3
  · rw [hf _ _ (by omega) (by omega)]; exact a4
  · rw [hf _ _ (by omega) (by omega)]; exact a5
theorem DW.on {I I' : Nat → Nat → Int32} {d : Nat} {s : St} {D : Nat → Nat → Bool} (h : DW I d s D) (hf : ∀ b i, d ≤ b → b < d + 19 → I' b i = I b i) : DW I' d s D :=
  ⟨h.1.on fun b i h1 h2 => hf b i (by omega) (by omega), fun p hp => by rw [hf _ _ (by omega) (by omega)]; exact h.2 p hp⟩
def KpW (I : Nat → Nat → Int32) (kp : Nat → Option St) : Prop := ∀ i, i < 3 → I 197 i = n2 (bn (kp i).isSome) ∧ ∀ s, kp i = some s → R7 I (164 + 11 * i) s
theorem KpW.on {I I' : Nat → Nat → Int32} {kp : Nat → Option St} (h : KpW I kp) (hf : ∀ b i, 163 ≤ b → b < 198 → I' b i = I b i) : KpW I' kp := fun i hi =>
  ⟨by rw [hf _ _ (by omega) (by omega)]; exact (h i hi).1, fun s hs => ((h i hi).2 s hs).on fun b j h1 h2 => hf b j (by omega) (by omega)⟩
theorem TeW.on {I I' : Nat → Nat → Int32} {tx : List Nat} (h : TeW I tx) (hf : ∀ b i, 198 ≤ b → b < 200 → I' b i = I b i) : TeW I' tx :=
  ⟨by rw [hf _ _ (by omega) (by omega)]; exact h.1, h.2.1, fun i hi => by rw [hf _ _ (by omega) (by omega)]; exact h.2.2 i hi⟩
theorem RoW.on {I I' : Nat → Nat → Int32} {L L' : Nat → Nat → Int64} {l : List Int64} (h : RoW I L l) (hf : ∀ i, I' 200 i = I 200 i) (hL : ∀ i, L' 201 i = L 201 i) : RoW I' L' l :=
  ⟨by rw [hf]; exact h.1, h.2.1, fun i hi => by rw [hL]; exact h.2.2 i hi⟩
/-- the longs as they were: of them the class writes its own row alone -/
abbrev FB := Inhabited (Nat → Nat → Int64)
def RoF [B : FB] (I : Nat → Nat → Int32) (L : Nat → Nat → Int64) (l : List Int64) : Prop := RoW I L l ∧ FL B.default L 201
theorem RoF.on [FB] {I I' : Nat → Nat → Int32} {L : Nat → Nat → Int64} {l : List Int64} (h : RoF I L l) (hf : ∀ i, I' 200 i = I 200 i) (_hL : ∀ i, L 201 i = L 201 i) : RoF I' L l := ⟨h.1.on hf fun _ => rfl, h.2⟩
theorem RoF.nx [FB] {I I' : Nat → Nat → Int32} {L L' : Nat → Nat → Int64} {l l' : List Int64} (h : RoF I L l) (hr : RoW I' L' l') (hl : FL L L' 201) : RoF I' L' l' := ⟨hr, h.2.trans hl⟩
/-- the class' world; the history may have its next slot marked -/
def W7 [FB] (I : Nat → Nat → Int32) (L : Nat → Nat → Int64) (s : St) (h : List St) (kp : Nat → Option St) (tx : List Nat) (row : List Int64) (cs : List Nat) : Prop := DW I 2 s D0 ∧ (∃ z, DW I 21 z D0) ∧ HiW I h ∧ KpW I kp ∧ TeW I tx ∧ RoF I L row ∧ RuW I 202 cs
section S7WA
variable {I : Nat → Nat → Int32} {L : Nat → Nat → Int64} {s : St} {h : List St} {kp : Nat → Option St} {tx : List Nat} {row : List Int64} {cs : List Nat}
theorem W7.dw [FB] (w : W7 I L s h kp tx row cs) : DW I 2 s D0 := w.1
theorem W7.sh [FB] (w : W7 I L s h kp tx row cs) : ∃ z, DW I 21 z D0 := w.2.1
theorem W7.hi [FB] (w : W7 I L s h kp tx row cs) : HiW I h := w.2.2.1
theorem W7.ke [FB] (w : W7 I L s h kp tx row cs) : KpW I kp := w.2.2.2.1
theorem W7.te [FB] (w : W7 I L s h kp tx row cs) : TeW I tx := w.2.2.2.2.1
theorem W7.ro [FB] (w : W7 I L s h kp tx row cs) : RoF I L row := w.2.2.2.2.2.1
theorem W7.ru [FB] (w : W7 I L s h kp tx row cs) : RuW I 202 cs := w.2.2.2.2.2.2
end S7WA
/-- what lies outside the class is as it was -/
def Fw (I I' : Nat → Nat → Int32) : Prop := ∀ b i, 210 ≤ b → I' b i = I b i
theorem Fw.rf (I : Nat → Nat → Int32) : Fw I I := fun _ _ _ => rfl
theorem Fw.trans {I I1 I2 : Nat → Nat → Int32} (h1 : Fw I I1) (h2 : Fw I1 I2) : Fw I I2 := fun b i h => (h2 b i h).trans (h1 b i h)
theorem Fr.w {I I' : Nat → Nat → Int32} {lo hi : Nat} (h : Fr I I' lo hi) (h2 : hi ≤ 210) : Fw I I' := fun b i hb => h b i (by omega)
theorem Fq.w {I I' : Nat → Nat → Int32} {d : Nat} (hd : d ∈ dkl) (h : Fq I I' d) : Fw I I' := fun b i hb => h b i (by rcases dkl_2 hd with rfl | rfl <;> omega) (by omega) (by omega)
section S7W
variable {I I' : Nat → Nat → Int32} {L : Nat → Nat → Int64} {c t N d a : Nat} {s s' s0 : St} {h : List St} {kp : Nat → Option St} {tx : List Nat} {row : List Int64} {cs : List Nat}
theorem W7.hist [FB] (hW : W7 I L s h kp tx row cs) (hf : Fr I I' 40 163) {h' : List St} (hh : HiW I' h') : W7 I' L s h' kp tx row cs := by
  obtain ⟨z, hz⟩ := hW.sh
  exact ⟨hW.dw.fr hf (by omega), ⟨z, hz.fr hf (by omega)⟩, hh, hW.ke.on fun b i h1 h2 => hf b i (by omega), hW.te.on fun b i h1 h2 => hf b i (by omega), hW.ro.on (fun i => hf _ i (by omega)) fun i => rfl, hW.ru.fr (fun i => hf _ i (by omega)) (hf _ _ (by omega))⟩
theorem W7.desk [FB] (hW : W7 I L s h kp tx row cs) (hf : Fq I I' 2) (hd : DW I' 2 s' D0) : W7 I' L s' h kp tx row cs := by
  obtain ⟨z, hz⟩ := hW.sh
  exact ⟨hd, ⟨z, hz.on fun b i h1 h2 => hf b i (by omega) (by omega) (by omega)⟩, hW.hi.fr fun b i h1 h2 => hf b i (by omega) (by omega) (by omega), hW.ke.on fun b i h1 h2 => hf b i (by omega) (by omega) (by omega), hW.te.on fun b i h1 h2 => hf b i (by omega) (by omega) (by omega), hW.ro.on (fun i => hf _ i (by omega) (by omega) (by omega)) fun i => rfl, hW.ru.q (by decide) (by decide) hf⟩
theorem W7.rowed {L' : Nat → Nat → Int64} {row' : List Int64} [FB] (hW : W7 I L s h kp tx row cs) (hf : Fr I I' 200 201) (hr : RoW I' L' row') (hl : FL L L' 201) : W7 I' L' s h kp tx row' cs := by
  obtain ⟨z, hz⟩ := hW.sh
  exact ⟨hW.dw.fr hf (by omega), ⟨z, hz.fr hf (by omega)⟩, hW.hi.fr fun b i h1 h2 => hf b i (by omega), hW.ke.on fun b i h1 h2 => hf b i (by omega), hW.te.on fun b i h1 h2 => hf b i (by omega), hW.ro.nx hr hl, hW.ru.fr (fun i => hf _ i (by omega)) (hf _ _ (by omega))⟩
theorem HiM.q (hM : HiM I h s0) (hf : Fq I I' 2) : HiM I' h s0 := hM.fr fun b i h1 h2 => hf b i (by omega) (by omega) (by omega)
theorem w7_mark [FB] (hW : W7 I L s h kp tx row cs) : ∃ I1, fX1_mark 40 3 (mk I L c t) = some (n2 0, 0, mk I1 L c t) ∧ W7 I1 L s h kp tx row cs ∧ HiM I1 h s ∧ Fw I I1 := by
  obtain ⟨I1, m1, m2, m3⟩ := x1_mark (L := L) (c := c) (t := t) hW.hi hW.dw.1
  exact ⟨I1, m1, hW.hist (m3.mono (by omega) (by omega)) m2.w, m2, m3.w (by omega)⟩
def noteH (h : List St) (s0 : St) (x : Int32) : List St := if x < n2 0 then h else pushH h s0
theorem x7_noted [FB] (hW : W7 I L s h kp tx row cs) (hM : HiM I h s0) (x : Int32) : ∃ I', fX7_noted 1 x (mk I L c t) = some (x, 0, mk I' L c t) ∧ W7 I' L s (noteH h s0 x) kp tx row cs ∧ Fw I I' := by
  unfold noteH
  by_cases e : x < n2 0
  · refine ⟨I, ?_, by rw [if_pos e]; exact hW, .rf I⟩
    unfold fX7_noted
    rw [if_pos (by rw [kk_1])]
    unfold gX7_noted
    rw [l_0, if_pos e]
  · obtain ⟨I1, m1, m2, m3⟩ := x1_commit (L := L) (c := c) (t := t) hM
    refine ⟨I1, ?_, by rw [if_neg e]; exact hW.hist (m3.mono (by omega) (by omega)) m2, m3.w (by omega)⟩
    unfold fX7_noted
    rw [if_pos (by rw [kk_1])]
    unfold gX7_noted
    rw [l_0, if_neg e, g1_3, qbnd_s, m1, qbnd_s]
theorem x0_act (hd : d ∈ dkl) (ha : a ∈ rul) (hW : DW I d s D0) (h : Gd N s) (hN : N < 900000000) (hU : RuW I a cs) {g x y m : Nat} (hg : g < 2147483648) (hx : x < 2147483648) (hy : y < 2147483648) (hm : m < 2147483648) : ∃ I', fX0_act d (n2 g) (n2 x) (n2 y) (n2 m) a (mk I L c t) = some ((actS s cs g x y m).1, 0, mk I' L c t) ∧ DW I' d (actS s cs g x y m).2 D0 ∧ Fq I I' d := by
  unfold actS
  by_cases e1 : g = 98
  · subst e1
    obtain ⟨I', r1, r2, r3⟩ := x0_start (L := L) (c := c) (t := t) hd hW h hN hx
    refine ⟨I', ?_, by simpa using r2, r3.q⟩
    simp (disch := first | assumption | omega) only [fX0_act, gX0_act, l_0, l_1, l_2, l_3, l_4, l_5, l_6, l_7, l_8, l_9, l_10, l_11, l_12, l_15, l_16, l_21, l_24, l_31, l_32, l_40, l_64, l_76, l_80, l_84, l_85, l_99, l_255, l_256, l_680, l_688, l_696, l_704, l_712, l_720, l_728, l_736, l_744, l_752, l_753, l_754, l_755, l_1000, l_2000, l_3000, l_7550, l_1000000, l_41, l_42, l_43, l_45, l_47, l_48, l_56, l_57, l_60, l_61, l_62, l_63, l_73, l_83, l_88, l_97, l_98, l_100, l_101, l_102, l_103, l_104, l_105, l_108, l_111, l_113, l_117, l_118, l_119, l_120, l_65536, n2_31, n2_add, n2_mul, n2_sub, n2_eq, n2_le, n2_lt, n2_div, n2_qz0, n2_qz1, n2_qzb, bn_0, bn_1, bn_t, bn_f, n2_eqm, n2_meq, n2_ltm, n2_mlt, n2_lem, n2_mle, if_true, if_false, qbnd_s, ite_true, ite_false, if_pos, reduceIte, z_n, z_10, dk_q, lk_q, dk_P0, dk_P1, dk_P2, dk_P3, dk_I4, dk_U4, dk_gL, dk_gS, dk_dL, dk_dS, lk_P0, lk_L0, lk_S0, lk_P1, lk_L1, lk_S1, lk_P2, lk_L2, lk_S2, lk_P3, lk_L3, lk_S3, r1]
  by_cases e2 : g = 101
  · subst e2
    obtain ⟨I', r1, r2, r3⟩ := x0_finish (L := L) (c := c) (t := t) hd hW h hN hx
    refine ⟨I', ?_, by simpa using r2, r3.q⟩
    simp (disch := first | assumption | omega) only [fX0_act, gX0_act, l_0, l_1, l_2, l_3, l_4, l_5, l_6, l_7, l_8, l_9, l_10, l_11, l_12, l_15, l_16, l_21, l_24, l_31, l_32, l_40, l_64, l_76, l_80, l_84, l_85, l_99, l_255, l_256, l_680, l_688, l_696, l_704, l_712, l_720, l_728, l_736, l_744, l_752, l_753, l_754, l_755, l_1000, l_2000, l_3000, l_7550, l_1000000, l_41, l_42, l_43, l_45, l_47, l_48, l_56, l_57, l_60, l_61, l_62, l_63, l_73, l_83, l_88, l_97, l_98, l_100, l_101, l_102, l_103, l_104, l_105, l_108, l_111, l_113, l_117, l_118, l_119, l_120, l_65536, n2_31, n2_add, n2_mul, n2_sub, n2_eq, n2_le, n2_lt, n2_div, n2_qz0, n2_qz1, n2_qzb, bn_0, bn_1, bn_t, bn_f, n2_eqm, n2_meq, n2_ltm, n2_mlt, n2_lem, n2_mle, if_true, if_false, qbnd_s, ite_true, ite_false, if_pos, reduceIte, z_n, z_10, dk_q, lk_q, dk_P0, dk_P1, dk_P2, dk_P3, dk_I4, dk_U4, dk_gL, dk_gS, dk_dL, dk_dS, lk_P0, lk_L0, lk_S0, lk_P1, lk_L1, lk_S1, lk_P2, lk_L2, lk_S2, lk_P3, lk_L3, lk_S3, r1, Nat.reduceEqDiff]
  by_cases e3 : g = 102
  · subst e3
    obtain ⟨I', r1, r2, r3, -⟩ := x0_fellAll (L := L) (c := c) (t := t) hd ha hW h hN hU
    refine ⟨I', ?_, by simpa using r2, r3⟩
    simp (disch := first | assumption | omega) only [fX0_act, gX0_act, l_0, l_1, l_2, l_3, l_4, l_5, l_6, l_7, l_8, l_9, l_10, l_11, l_12, l_15, l_16, l_21, l_24, l_31, l_32, l_40, l_64, l_76, l_80, l_84, l_85, l_99, l_255, l_256, l_680, l_688, l_696, l_704, l_712, l_720, l_728, l_736, l_744, l_752, l_753, l_754, l_755, l_1000, l_2000, l_3000, l_7550, l_1000000, l_41, l_42, l_43, l_45, l_47, l_48, l_56, l_57, l_60, l_61, l_62, l_63, l_73, l_83, l_88, l_97, l_98, l_100, l_101, l_102, l_103, l_104, l_105, l_108, l_111, l_113, l_117, l_118, l_119, l_120, l_65536, n2_31, n2_add, n2_mul, n2_sub, n2_eq, n2_le, n2_lt, n2_div, n2_qz0, n2_qz1, n2_qzb, bn_0, bn_1, bn_t, bn_f, n2_eqm, n2_meq, n2_ltm, n2_mlt, n2_lem, n2_mle, if_true, if_false, qbnd_s, ite_true, ite_false, if_pos, reduceIte, z_n, z_10, dk_q, lk_q, dk_P0, dk_P1, dk_P2, dk_P3, dk_I4, dk_U4, dk_gL, dk_gS, dk_dL, dk_dS, lk_P0, lk_L0, lk_S0, lk_P1, lk_L1, lk_S1, lk_P2, lk_L2, lk_S2, lk_P3, lk_L3, lk_S3, r1, Nat.reduceEqDiff]
  by_cases e4 : g = 103
  · subst e4
    obtain ⟨I', r1, r2, r3⟩ := x0_collect (L := L) (c := c) (t := t) hd hW h hN hx hy
    refine ⟨I', ?_, by simpa using r2, r3.q⟩
    simp (disch := first | assumption | omega) only [fX0_act, gX0_act, l_0, l_1, l_2, l_3, l_4, l_5, l_6, l_7, l_8, l_9, l_10, l_11, l_12, l_15, l_16, l_21, l_24, l_31, l_32, l_40, l_64, l_76, l_80, l_84, l_85, l_99, l_255, l_256, l_680, l_688, l_696, l_704, l_712, l_720, l_728, l_736, l_744, l_752, l_753, l_754, l_755, l_1000, l_2000, l_3000, l_7550, l_1000000, l_41, l_42, l_43, l_45, l_47, l_48, l_56, l_57, l_60, l_61, l_62, l_63, l_73, l_83, l_88, l_97, l_98, l_100, l_101, l_102, l_103, l_104, l_105, l_108, l_111, l_113, l_117, l_118, l_119, l_120, l_65536, n2_31, n2_add, n2_mul, n2_sub, n2_eq, n2_le, n2_lt, n2_div, n2_qz0, n2_qz1, n2_qzb, bn_0, bn_1, bn_t, bn_f, n2_eqm, n2_meq, n2_ltm, n2_mlt, n2_lem, n2_mle, if_true, if_false, qbnd_s, ite_true, ite_false, if_pos, reduceIte, z_n, z_10, dk_q, lk_q, dk_P0, dk_P1, dk_P2, dk_P3, dk_I4, dk_U4, dk_gL, dk_gS, dk_dL, dk_dS, lk_P0, lk_L0, lk_S0, lk_P1, lk_L1, lk_S1, lk_P2, lk_L2, lk_S2, lk_P3, lk_L3, lk_S3, r1, Nat.reduceEqDiff]
  by_cases e5 : g = 108
  · subst e5
    obtain ⟨I', r1, r2, r3⟩ := x0_lock (L := L) (c := c) (t := t) hd hW h hN hx hy hm
    refine ⟨I', ?_, by simpa using r2, r3.q⟩
    simp (disch := first | assumption | omega) only [fX0_act, gX0_act, l_0, l_1, l_2, l_3, l_4, l_5, l_6, l_7, l_8, l_9, l_10, l_11, l_12, l_15, l_16, l_21, l_24, l_31, l_32, l_40, l_64, l_76, l_80, l_84, l_85, l_99, l_255, l_256, l_680, l_688, l_696, l_704, l_712, l_720, l_728, l_736, l_744, l_752, l_753, l_754, l_755, l_1000, l_2000, l_3000, l_7550, l_1000000, l_41, l_42, l_43, l_45, l_47, l_48, l_56, l_57, l_60, l_61, l_62, l_63, l_73, l_83, l_88, l_97, l_98, l_100, l_101, l_102, l_103, l_104, l_105, l_108, l_111, l_113, l_117, l_118, l_119, l_120, l_65536, n2_31, n2_add, n2_mul, n2_sub, n2_eq, n2_le, n2_lt, n2_div, n2_qz0, n2_qz1, n2_qzb, bn_0, bn_1, bn_t, bn_f, n2_eqm, n2_meq, n2_ltm, n2_mlt, n2_lem, n2_mle, if_true, if_false, qbnd_s, ite_true, ite_false, if_pos, reduceIte, z_n, z_10, dk_q, lk_q, dk_P0, dk_P1, dk_P2, dk_P3, dk_I4, dk_U4, dk_gL, dk_gS, dk_dL, dk_dS, lk_P0, lk_L0, lk_S0, lk_P1, lk_L1, lk_S1, lk_P2, lk_L2, lk_S2, lk_P3, lk_L3, lk_S3, r1, Nat.reduceEqDiff]
  by_cases e6 : g = 117
  · subst e6
    obtain ⟨I', r1, r2, r3⟩ := x0_unlock (L := L) (c := c) (t := t) hd hW h hN hx hy
    refine ⟨I', ?_, by simpa using r2, r3.q⟩
    simp (disch := first | assumption | omega) only [fX0_act, gX0_act, l_0, l_1, l_2, l_3, l_4, l_5, l_6, l_7, l_8, l_9, l_10, l_11, l_12, l_15, l_16, l_21, l_24, l_31, l_32, l_40, l_64, l_76, l_80, l_84, l_85, l_99, l_255, l_256, l_680, l_688, l_696, l_704, l_712, l_720, l_728, l_736, l_744, l_752, l_753, l_754, l_755, l_1000, l_2000, l_3000, l_7550, l_1000000, l_41, l_42, l_43, l_45, l_47, l_48, l_56, l_57, l_60, l_61, l_62, l_63, l_73, l_83, l_88, l_97, l_98, l_100, l_101, l_102, l_103, l_104, l_105, l_108, l_111, l_113, l_117, l_118, l_119, l_120, l_65536, n2_31, n2_add, n2_mul, n2_sub, n2_eq, n2_le, n2_lt, n2_div, n2_qz0, n2_qz1, n2_qzb, bn_0, bn_1, bn_t, bn_f, n2_eqm, n2_meq, n2_ltm, n2_mlt, n2_lem, n2_mle, if_true, if_false, qbnd_s, ite_true, ite_false, if_pos, reduceIte, z_n, z_10, dk_q, lk_q, dk_P0, dk_P1, dk_P2, dk_P3, dk_I4, dk_U4, dk_gL, dk_gS, dk_dL, dk_dS, lk_P0, lk_L0, lk_S0, lk_P1, lk_L1, lk_S1, lk_P2, lk_L2, lk_S2, lk_P3, lk_L3, lk_S3, r1, Nat.reduceEqDiff]
  by_cases e7 : g = 118
  · subst e7
    obtain ⟨I', r1, r2, r3⟩ := x0_setBulk (L := L) (c := c) (t := t) hd hW h hN hx
    refine ⟨I', ?_, by simpa using r2, r3.q⟩
    simp (disch := first | assumption | omega) only [fX0_act, gX0_act, l_0, l_1, l_2, l_3, l_4, l_5, l_6, l_7, l_8, l_9, l_10, l_11, l_12, l_15, l_16, l_21, l_24, l_31, l_32, l_40, l_64, l_76, l_80, l_84, l_85, l_99, l_255, l_256, l_680, l_688, l_696, l_704, l_712, l_720, l_728, l_736, l_744, l_752, l_753, l_754, l_755, l_1000, l_2000, l_3000, l_7550, l_1000000, l_41, l_42, l_43, l_45, l_47, l_48, l_56, l_57, l_60, l_61, l_62, l_63, l_73, l_83, l_88, l_97, l_98, l_100, l_101, l_102, l_103, l_104, l_105, l_108, l_111, l_113, l_117, l_118, l_119, l_120, l_65536, n2_31, n2_add, n2_mul, n2_sub, n2_eq, n2_le, n2_lt, n2_div, n2_qz0, n2_qz1, n2_qzb, bn_0, bn_1, bn_t, bn_f, n2_eqm, n2_meq, n2_ltm, n2_mlt, n2_lem, n2_mle, if_true, if_false, qbnd_s, ite_true, ite_false, if_pos, reduceIte, z_n, z_10, dk_q, lk_q, dk_P0, dk_P1, dk_P2, dk_P3, dk_I4, dk_U4, dk_gL, dk_gS, dk_dL, dk_dS, lk_P0, lk_L0, lk_S0, lk_P1, lk_L1, lk_S1, lk_P2, lk_L2, lk_S2, lk_P3, lk_L3, lk_S3, r1, Nat.reduceEqDiff]
  by_cases e8 : g = 119
  · subst e8
    obtain ⟨I', r1, r2, r3⟩ := x0_labour (L := L) (c := c) (t := t) hd hW h hN hx hy
    refine ⟨I', ?_, by simpa using r2, r3.q⟩
    simp (disch := first | assumption | omega) only [fX0_act, gX0_act, l_0, l_1, l_2, l_3, l_4, l_5, l_6, l_7, l_8, l_9, l_10, l_11, l_12, l_15, l_16, l_21, l_24, l_31, l_32, l_40, l_64, l_76, l_80, l_84, l_85, l_99, l_255, l_256, l_680, l_688, l_696, l_704, l_712, l_720, l_728, l_736, l_744, l_752, l_753, l_754, l_755, l_1000, l_2000, l_3000, l_7550, l_1000000, l_41, l_42, l_43, l_45, l_47, l_48, l_56, l_57, l_60, l_61, l_62, l_63, l_73, l_83, l_88, l_97, l_98, l_100, l_101, l_102, l_103, l_104, l_105, l_108, l_111, l_113, l_117, l_118, l_119, l_120, l_65536, n2_31, n2_add, n2_mul, n2_sub, n2_eq, n2_le, n2_lt, n2_div, n2_qz0, n2_qz1, n2_qzb, bn_0, bn_1, bn_t, bn_f, n2_eqm, n2_meq, n2_ltm, n2_mlt, n2_lem, n2_mle, if_true, if_false, qbnd_s, ite_true, ite_false, if_pos, reduceIte, z_n, z_10, dk_q, lk_q, dk_P0, dk_P1, dk_P2, dk_P3, dk_I4, dk_U4, dk_gL, dk_gS, dk_dL, dk_dS, lk_P0, lk_L0, lk_S0, lk_P1, lk_L1, lk_S1, lk_P2, lk_L2, lk_S2, lk_P3, lk_L3, lk_S3, r1, Nat.reduceEqDiff]
  · refine ⟨I, ?_, by simpa [e1, e2, e3, e4, e5, e6, e7, e8] using hW, .rf I d⟩
    simp (disch := first | assumption | omega) only [fX0_act, gX0_act, l_0, l_1, l_2, l_3, l_4, l_5, l_6, l_7, l_8, l_9, l_10, l_11, l_12, l_15, l_16, l_21, l_24, l_31, l_32, l_40, l_64, l_76, l_80, l_84, l_85, l_99, l_255, l_256, l_680, l_688, l_696, l_704, l_712, l_720, l_728, l_736, l_744, l_752, l_753, l_754, l_755, l_1000, l_2000, l_3000, l_7550, l_1000000, l_41, l_42, l_43, l_45, l_47, l_48, l_56, l_57, l_60, l_61, l_62, l_63, l_73, l_83, l_88, l_97, l_98, l_100, l_101, l_102, l_103, l_104, l_105, l_108, l_111, l_113, l_117, l_118, l_119, l_120, l_65536, n2_31, n2_add, n2_mul, n2_sub, n2_eq, n2_le, n2_lt, n2_div, n2_qz0, n2_qz1, n2_qzb, bn_0, bn_1, bn_t, bn_f, n2_eqm, n2_meq, n2_ltm, n2_mlt, n2_lem, n2_mle, if_true, if_false, qbnd_s, ite_true, ite_false, if_pos, reduceIte, z_n, z_10, dk_q, lk_q, dk_P0, dk_P1, dk_P2, dk_P3, dk_I4, dk_U4, dk_gL, dk_gS, dk_dL, dk_dS, lk_P0, lk_L0, lk_S0, lk_P1, lk_L1, lk_S1, lk_P2, lk_L2, lk_S2, lk_P3, lk_L3, lk_S3, e1, e2, e3, e4, e5, e6, e7, e8]
end S7W
/-- a number as an argument: a negative one is as one that is too great -/
def nIx (x : Int32) : Nat := if x < n2 0 then 2147483647 else x.toNatClampNeg
theorem nIx_m {x : Int32} (h : x < n2 0) : nIx x = 2147483647 := if_pos h
theorem nIx_n {k : Nat} (h : k < 2147483648) : nIx (n2 k) = k := by
  unfold nIx
  rw [if_neg (by rw [n2_lt h (by omega)]; omega)]
  exact Int32.toNatClampNeg_ofNat_of_lt (by omega)
section S7X
variable {I : Nat → Nat → Int32} {L : Nat → Nat → Int64} {c t N d a : Nat} {s : St} {cs : List Nat}
theorem xi_start (hd : d ∈ dkl) (hW : DW I d s D0) (h : Gd N s) (hN : N < 900000000) (x : Int32) : ∃ I', fX0_start d x (mk I L c t) = some ((startS s (nIx x)).1, 0, mk I' L c t) ∧ DW I' d (startS s (nIx x)).2 D0 ∧ Fq I I' d := by
  rcases i32_cases x with e | ⟨k, hk, rfl⟩
  · rw [nIx_m e, x0_start_m hd e]
    exact ⟨I, rfl, hW, .rf I d⟩
  · rw [nIx_n hk]
    obtain ⟨I', r1, r2, r3⟩ := x0_start (L := L) (c := c) (t := t) hd hW h hN hk
    exact ⟨I', r1, r2, r3.q⟩
theorem xi_finish (hd : d ∈ dkl) (hW : DW I d s D0) (h : Gd N s) (hN : N < 900000000) (x : Int32) : ∃ I', fX0_finish d x (mk I L c t) = some ((finishS s (nIx x)).1, 0, mk I' L c t) ∧ DW I' d (finishS s (nIx x)).2 D0 ∧ Fq I I' d := by
  rcases i32_cases x with e | ⟨k, hk, rfl⟩
  · rw [nIx_m e, x0_finish_m hd e]
    exact ⟨I, rfl, hW, .rf I d⟩
  · rw [nIx_n hk]
    obtain ⟨I', r1, r2, r3⟩ := x0_finish (L := L) (c := c) (t := t) hd hW h hN hk
    exact ⟨I', r1, r2, r3.q⟩
theorem xi_setBulk (hd : d ∈ dkl) (hW : DW I d s D0) (h : Gd N s) (hN : N < 900000000) (x : Int32) : ∃ I', fX0_setBulk d x (mk I L c t) = some ((setbS s (nIx x)).1, 0, mk I' L c t) ∧ DW I' d (setbS s (nIx x)).2 D0 ∧ Fq I I' d := by
  rcases i32_cases x with e | ⟨k, hk, rfl⟩
  · rw [nIx_m e, x0_setBulk_m hd e]
    exact ⟨I, rfl, hW, .rf I d⟩
  · rw [nIx_n hk]
    obtain ⟨I', r1, r2, r3⟩ := x0_setBulk (L := L) (c := c) (t := t) hd hW h hN hk
    exact ⟨I', r1, r2, r3.q⟩
theorem xi_labour (hd : d ∈ dkl) (hW : DW I d s D0) (h : Gd N s) (hN : N < 900000000) (x y : Int32) : ∃ I', fX0_labour d x y (mk I L c t) = some ((labourS s (nIx x) (nIx y)).1, 0, mk I' L c t) ∧ DW I' d (labourS s (nIx x) (nIx y)).2 D0 ∧ Fq I I' d := by
  rcases i32_cases x with e | ⟨k, hk, rfl⟩
  · rw [nIx_m e, x0_labour_m hd (.inl e) (.inl e)]
    exact ⟨I, rfl, hW, .rf I d⟩
  rcases i32_cases y with e | ⟨j, hj, rfl⟩
  · rw [nIx_m e, x0_labour_m hd (.inr e) (.inr ⟨k, hk, rfl⟩)]
    have : labourS s (nIx (n2 k)) 2147483647 = (-n2 1, s) := by
      unfold labourS
      rw [if_pos (by omega)]
    rw [this]
    exact ⟨I, rfl, hW, .rf I d⟩
  · rw [nIx_n hk, nIx_n hj]
    obtain ⟨I', r1, r2, r3⟩ := x0_labour (L := L) (c := c) (t := t) hd hW h hN hk hj
    exact ⟨I', r1, r2, r3.q⟩
theorem xi_unlock (hd : d ∈ dkl) (hW : DW I d s D0) (h : Gd N s) (hN : N < 900000000) (x y : Int32) : ∃ I', fX0_unlock d x y (mk I L c t) = some ((unlockS s (nIx x) (nIx y)).1, 0, mk I' L c t) ∧ DW I' d (unlockS s (nIx x) (nIx y)).2 D0 ∧ Fq I I' d := by
  rcases i32_cases x with e | ⟨k, hk, rfl⟩
  · rw [nIx_m e, x0_unlock_m hd (.inl e)]
    exact ⟨I, rfl, hW, .rf I d⟩
  rcases i32_cases y with e | ⟨j, hj, rfl⟩
  · rw [nIx_m e, x0_unlock_m hd (.inr e)]
    have : unlockS s (nIx (n2 k)) 2147483647 = (-n2 1, s) := by
      unfold unlockS
      rw [if_pos (by omega)]
    rw [this]
    exact ⟨I, rfl, hW, .rf I d⟩
  · rw [nIx_n hk, nIx_n hj]
    obtain ⟨I', r1, r2, r3⟩ := x0_unlock (L := L) (c := c) (t := t) hd hW h hN hk hj
    exact ⟨I', r1, r2, r3.q⟩
theorem xi_collect (hd : d ∈ dkl) (hW : DW I d s D0) (h : Gd N s) (hN : N < 900000000) (x y : Int32) : ∃ I', fX0_collect d x y (mk I L c t) = some ((collectS s (nIx x) (nIx y)).1, 0, mk I' L c t) ∧ DW I' d (collectS s (nIx x) (nIx y)).2 D0 ∧ Fq I I' d := by
  rcases i32_cases x with e | ⟨k, hk, rfl⟩
  · rw [nIx_m e, x0_collect_m hd (.inl e)]
    exact ⟨I, rfl, hW, .rf I d⟩
  rcases i32_cases y with e | ⟨j, hj, rfl⟩
  · rw [nIx_m e, x0_collect_m hd (.inr e)]
    have : collectS s (nIx (n2 k)) 2147483647 = (-n2 1, s) := by
      unfold collectS
      rw [if_pos (by omega)]
    rw [this]
    exact ⟨I, rfl, hW, .rf I d⟩
  · rw [nIx_n hk, nIx_n hj]
    obtain ⟨I', r1, r2, r3⟩ := x0_collect (L := L) (c := c) (t := t) hd hW h hN hk hj
    exact ⟨I', r1, r2, r3.q⟩
theorem xi_lock (hd : d ∈ dkl) (hW : DW I d s D0) (h : Gd N s) (hN : N < 900000000) (x y z : Int32) : ∃ I', fX0_lock d x y z (mk I L c t) = some ((lockS s (nIx x) (nIx y) (nIx z)).1, 0, mk I' L c t) ∧ DW I' d (lockS s (nIx x) (nIx y) (nIx z)).2 D0 ∧ Fq I I' d := by
  by_cases e : x < n2 0 ∨ y < n2 0 ∨ z < n2 0
  · have : lockS s (nIx x) (nIx y) (nIx z) = (-n2 1, s) := by
      unfold lockS
      rw [if_pos]
      rcases e with e | e | e <;> rw [nIx_m e] <;> omega
    rw [this, x0_lock_m hd e]
    exact ⟨I, rfl, hW, .rf I d⟩
  · rcases i32_cases x with e1 | ⟨k, hk, rfl⟩
    · exact absurd (.inl e1) e
    rcases i32_cases y with e1 | ⟨j, hj, rfl⟩
    · exact absurd (.inr (.inl e1)) e
    rcases i32_cases z with e1 | ⟨i, hi, rfl⟩
    · exact absurd (.inr (.inr e1)) e
    rw [nIx_n hk, nIx_n hj, nIx_n hi]
    obtain ⟨I', r1, r2, r3⟩ := x0_lock (L := L) (c := c) (t := t) hd hW h hN hk hj hi
    exact ⟨I', r1, r2, r3.q⟩
end S7X
def bcx (a : Int32) : Int32 :=
  let w1 : Int32 := a - (qush a 1 &&& 1431655765)
  let w2 : Int32 := (w1 &&& 858993459) + (qush w1 2 &&& 858993459)
  let w3 : Int32 := (w2 + qush w2 4) &&& 252645135
  let w4 : Int32 := (w3 + qush w3 8) + qush (w3 + qush w3 8) 16
  w4 &&& 63
theorem bcx_ok : ∀ b0 b1 b2 b3 b4 b5 b6 b7 : Bool, bcx (n2 (b8 b0 b1 b2 b3 b4 b5 b6 b7)) = n2 (0 + bn b0 + bn b1 + bn b2 + bn b3 + bn b4 + bn b5 + bn b6 + bn b7) := by decide +kernel
def cnt8 (P : Nat → Bool) : Nat := (List.range 8).foldl (fun n o => n + bn (P o)) 0
theorem cnt8_le (P : Nat → Bool) : cnt8 P ≤ 8 := by
  have h : ∀ b, bn b ≤ 1 := by decide
  show 0 + bn (P 0) + bn (P 1) + bn (P 2) + bn (P 3) + bn (P 4) + bn (P 5) + bn (P 6) + bn (P 7) ≤ 8
  have := h (P 0); have := h (P 1); have := h (P 2); have := h (P 3); have := h (P 4); have := h (P 5); have := h (P 6); have := h (P 7)
  omega
theorem j6_cnt (P : Nat → Bool) (μ : qM) : fJ6_bitCount_0f7a4 (n2 (bits8 P)) μ = some (n2 (cnt8 P), 0, μ) := by
  show some (bcx (n2 (bits8 P)), 0, μ) = _
  rw [bits8_b8, bcx_ok]
  rfl
theorem bits8_and (P Q : Nat → Bool) : bits8 P &&& bits8 Q = bits8 fun j => P j && Q j := by
  apply Nat.eq_of_testBit_eq
  intro i
  rw [Nat.testBit_and, bits8_tb, bits8_tb, bits8_tb]
  cases decide (i < 8) <;> simp
/-- how many that waited run now -/
def woke (s s' : St) : Nat := cnt8 fun o => decide (s 85 o = 2) && decide (s' 85 o = 1)
theorem j6_woke (s s' : St) (μ : qM) : fJ6_bitCount_0f7a4 (n2 (bits8 fun o => decide (s 85 o = 2)) &&& n2 (bits8 fun o => decide (s' 85 o = 1))) μ = some (n2 (woke s s'), 0, μ) := by
  rw [n2_and, bits8_and, j6_cnt]
  rfl
theorem x3_oneW {I : Nat → Nat → Int32} {L : Nat → Nat → Int64} {c t : Nat} {s : St} {h : List St} {kp : Nat → Option St} {tx : List Nat} {row : List Int64} {cs : List Nat} [FB] (hW : W7 I L s h kp tx row cs) (v : Int64) : ∃ I' L', fX3_one 200 v (mk I L c t) = some (n2 0, 0, mk I' L' c t) ∧ W7 I' L' s h kp tx [v] cs ∧ Fw I I' := by
  obtain ⟨I', L', r1, r2, r3, r4⟩ := x3_one (I := I) (L := L) (c := c) (t := t) v
  exact ⟨I', L', r1, hW.rowed r3 r2 r4, r3.w (by omega)⟩
theorem x3_twoW {I : Nat → Nat → Int32} {L : Nat → Nat → Int64} {c t : Nat} {s : St} {h : List St} {kp : Nat → Option St} {tx : List Nat} {row : List Int64} {cs : List Nat} [FB] (hW : W7 I L s h kp tx row cs) (v w : Int64) : ∃ I' L', fX3_two 200 v w (mk I L c t) = some (n2 0, 0, mk I' L' c t) ∧ W7 I' L' s h kp tx [v, w] cs ∧ Fw I I' := by
  obtain ⟨I', L', r1, r2, r3, r4⟩ := x3_two (I := I) (L := L) (c := c) (t := t) v w
  exact ⟨I', L', r1, hW.rowed r3 r2 r4, r3.w (by omega)⟩
section S7Y
variable {I : Nat → Nat → Int32} {L : Nat → Nat → Int64} {c t N : Nat} {s : St} {h : List St} {kp : Nat → Option St} {tx : List Nat} {row : List Int64} {cs : List Nat}
theorem x7_begins [FB] (hW : W7 I L s h kp tx row cs) (hG : Gd N s) (hN : N < 900000000) (x : Int32) : ∃ I', fX7_begins 1 x (mk I L c t) = some ((startS s (nIx x)).1, 0, mk I' L c t) ∧ W7 I' L (startS s (nIx x)).2 (noteH h s (startS s (nIx x)).1) kp tx row cs ∧ Fw I I' := by
  obtain ⟨I1, m1, m2, m3, m4⟩ := w7_mark (c := c) (t := t) hW
  obtain ⟨I2, a1, a2, a3⟩ := xi_start (L := L) (c := c) (t := t) (show 2 ∈ dkl by decide) m2.dw hG hN x
  obtain ⟨I3, n1, n2', n3⟩ := x7_noted (c := c) (t := t) (m2.desk a3 a2) (m3.q a3) (startS s (nIx x)).1
  refine ⟨I3, ?_, n2', (m4.trans (a3.w (by decide))).trans n3⟩
  simp (disch := first | assumption | omega) only [fX7_begins, gX7_begins, l_0, l_1, l_2, l_3, l_4, l_5, l_6, l_7, l_8, l_9, l_10, l_11, l_12, l_15, l_16, l_21, l_24, l_31, l_32, l_40, l_64, l_76, l_80, l_84, l_85, l_99, l_255, l_256, l_680, l_688, l_696, l_704, l_712, l_720, l_728, l_736, l_744, l_752, l_753, l_754, l_755, l_1000, l_2000, l_3000, l_7550, l_1000000, l_41, l_42, l_43, l_45, l_47, l_48, l_56, l_57, l_60, l_61, l_62, l_63, l_73, l_83, l_88, l_97, l_98, l_100, l_101, l_102, l_103, l_104, l_105, l_108, l_111, l_113, l_117, l_118, l_119, l_120, l_65536, n2_31, n2_add, n2_mul, n2_sub, n2_eq, n2_le, n2_lt, n2_div, n2_qz0, n2_qz1, n2_qzb, bn_0, bn_1, bn_t, bn_f, n2_eqm, n2_meq, n2_ltm, n2_mlt, n2_lem, n2_mle, if_true, if_false, qbnd_s, ite_true, ite_false, if_pos, reduceIte, z_n, z_10, q_1, g1_0, g1_1, g1_2, g1_3, g1_4, g1_5, g1_6, g1_7, g1_8, g1_9, m1, a1, n1]
theorem x7_works [FB] (hW : W7 I L s h kp tx row cs) (hG : Gd N s) (hN : N < 900000000) (x y : Int32) : ∃ I', fX7_works 1 x y (mk I L c t) = some ((labourS s (nIx x) (nIx y)).1, 0, mk I' L c t) ∧ W7 I' L (labourS s (nIx x) (nIx y)).2 (noteH h s (labourS s (nIx x) (nIx y)).1) kp tx row cs ∧ Fw I I' := by
  obtain ⟨I1, m1, m2, m3, m4⟩ := w7_mark (c := c) (t := t) hW
  obtain ⟨I2, a1, a2, a3⟩ := xi_labour (L := L) (c := c) (t := t) (show 2 ∈ dkl by decide) m2.dw hG hN x y
  obtain ⟨I3, n1, n2', n3⟩ := x7_noted (c := c) (t := t) (m2.desk a3 a2) (m3.q a3) (labourS s (nIx x) (nIx y)).1
  refine ⟨I3, ?_, n2', (m4.trans (a3.w (by decide))).trans n3⟩
  simp (disch := first | assumption | omega) only [fX7_works, gX7_works, l_0, l_1, l_2, l_3, l_4, l_5, l_6, l_7, l_8, l_9, l_10, l_11, l_12, l_15, l_16, l_21, l_24, l_31, l_32, l_40, l_64, l_76, l_80, l_84, l_85, l_99, l_255, l_256, l_680, l_688, l_696, l_704, l_712, l_720, l_728, l_736, l_744, l_752, l_753, l_754, l_755, l_1000, l_2000, l_3000, l_7550, l_1000000, l_41, l_42, l_43, l_45, l_47, l_48, l_56, l_57, l_60, l_61, l_62, l_63, l_73, l_83, l_88, l_97, l_98, l_100, l_101, l_102, l_103, l_104, l_105, l_108, l_111, l_113, l_117, l_118, l_119, l_120, l_65536, n2_31, n2_add, n2_mul, n2_sub, n2_eq, n2_le, n2_lt, n2_div, n2_qz0, n2_qz1, n2_qzb, bn_0, bn_1, bn_t, bn_f, n2_eqm, n2_meq, n2_ltm, n2_mlt, n2_lem, n2_mle, if_true, if_false, qbnd_s, ite_true, ite_false, if_pos, reduceIte, z_n, z_10, q_1, g1_0, g1_1, g1_2, g1_3, g1_4, g1_5, g1_6, g1_7, g1_8, g1_9, m1, a1, n1]
theorem gd_bd (h : Gd N s) (hN : N < 1000000000) : Bd s := h.1.bd hN
theorem x7_unlocks [FB] (hW : W7 I L s h kp tx row cs) (hG : Gd N s) (hN : N < 900000000) (x y : Int32) : ∃ I', fX7_unlocks 1 x y (mk I L c t) = some (if (unlockS s (nIx x) (nIx y)).1 < n2 0 then (unlockS s (nIx x) (nIx y)).1 else n2 (woke s (unlockS s (nIx x) (nIx y)).2), 0, mk I' L c t) ∧ W7 I' L (unlockS s (nIx x) (nIx y)).2 (noteH h s (unlockS s (nIx x) (nIx y)).1) kp tx row cs ∧ Fw I I' := by
  have hG' : Gd N (unlockS s (nIx x) (nIx y)).2 := gd_unlock hG
  obtain ⟨I1, m1, m2, m3, m4⟩ := w7_mark (c := c) (t := t) hW
  have b1 := x5_standing (L := L) (c := c) (t := t) (show 3 ∈ stl by decide) m2.dw.1 (gd_bd hG (by omega)) (Nat.le_refl 2)
  obtain ⟨I2, a1, a2, a3⟩ := xi_unlock (L := L) (c := c) (t := t) (show 2 ∈ dkl by decide) m2.dw hG hN x y
  obtain ⟨I3, n1, n2', n3⟩ := x7_noted (c := c) (t := t) (m2.desk a3 a2) (m3.q a3) (unlockS s (nIx x) (nIx y)).1
  have b2 := x5_standing (L := L) (c := c) (t := t) (show 3 ∈ stl by decide) n2'.dw.1 (gd_bd hG' (by omega)) (show 1 ≤ 2 by omega)
  refine ⟨I3, ?_, n2', (m4.trans (a3.w (by decide))).trans n3⟩
  simp (disch := first | assumption | omega) only [fX7_unlocks, gX7_unlocks, l_0, l_1, l_2, l_3, l_4, l_5, l_6, l_7, l_8, l_9, l_10, l_11, l_12, l_15, l_16, l_21, l_24, l_31, l_32, l_40, l_64, l_76, l_80, l_84, l_85, l_99, l_255, l_256, l_680, l_688, l_696, l_704, l_712, l_720, l_728, l_736, l_744, l_752, l_753, l_754, l_755, l_1000, l_2000, l_3000, l_7550, l_1000000, l_41, l_42, l_43, l_45, l_47, l_48, l_56, l_57, l_60, l_61, l_62, l_63, l_73, l_83, l_88, l_97, l_98, l_100, l_101, l_102, l_103, l_104, l_105, l_108, l_111, l_113, l_117, l_118, l_119, l_120, l_65536, n2_31, n2_add, n2_mul, n2_sub, n2_eq, n2_le, n2_lt, n2_div, n2_qz0, n2_qz1, n2_qzb, bn_0, bn_1, bn_t, bn_f, n2_eqm, n2_meq, n2_ltm, n2_mlt, n2_lem, n2_mle, if_true, if_false, qbnd_s, ite_true, ite_false, if_pos, reduceIte, z_n, z_10, q_1, g1_0, g1_1, g1_2, g1_3, g1_4, g1_5, g1_6, g1_7, g1_8, g1_9, m1, a1, n1, b1, b2, n2_and, bits8_and, j6_cnt]
  by_cases e : (unlockS s (nIx x) (nIx y)).1 < n2 0
  · rw [if_pos e, if_neg (Int32.not_le.mpr e)]
  · rw [if_neg e, if_pos (Int32.not_lt.mp e)]
    rfl
theorem x7_ends [FB] (hW : W7 I L s h kp tx row cs) (hG : Gd N s) (hN : N < 900000000) (x : Int32) : ∃ I' L', fX7_ends 1 x (mk I L c t) = some ((finishS s (nIx x)).1, 0, mk I' L' c t) ∧ W7 I' L' (finishS s (nIx x)).2 (noteH h s (finishS s (nIx x)).1) kp tx (if (finishS s (nIx x)).1 < n2 0 then row else [(n2 (woke s (finishS s (nIx x)).2)).toInt64]) cs ∧ Fw I I' := by
  have hG' : Gd N (finishS s (nIx x)).2 := gd_finish hG
  obtain ⟨I1, m1, m2, m3, m4⟩ := w7_mark (c := c) (t := t) hW
  have b1 := x5_standing (L := L) (c := c) (t := t) (show 3 ∈ stl by decide) m2.dw.1 (gd_bd hG (by omega)) (Nat.le_refl 2)
  obtain ⟨I2, a1, a2, a3⟩ := xi_finish (L := L) (c := c) (t := t) (show 2 ∈ dkl by decide) m2.dw hG hN x
  obtain ⟨I3, n1, n2', n3⟩ := x7_noted (c := c) (t := t) (m2.desk a3 a2) (m3.q a3) (finishS s (nIx x)).1
  have b2 := x5_standing (L := L) (c := c) (t := t) (show 3 ∈ stl by decide) n2'.dw.1 (gd_bd hG' (by omega)) (show 1 ≤ 2 by omega)
  by_cases e : (finishS s (nIx x)).1 < n2 0
  · refine ⟨I3, L, ?_, by rw [if_pos e]; exact n2', (m4.trans (a3.w (by decide))).trans n3⟩
    simp (disch := first | assumption | omega) only [fX7_ends, gX7_ends, l_0, l_1, l_2, l_3, l_4, l_5, l_6, l_7, l_8, l_9, l_10, l_11, l_12, l_15, l_16, l_21, l_24, l_31, l_32, l_40, l_64, l_76, l_80, l_84, l_85, l_99, l_255, l_256, l_680, l_688, l_696, l_704, l_712, l_720, l_728, l_736, l_744, l_752, l_753, l_754, l_755, l_1000, l_2000, l_3000, l_7550, l_1000000, l_41, l_42, l_43, l_45, l_47, l_48, l_56, l_57, l_60, l_61, l_62, l_63, l_73, l_83, l_88, l_97, l_98, l_100, l_101, l_102, l_103, l_104, l_105, l_108, l_111, l_113, l_117, l_118, l_119, l_120, l_65536, n2_31, n2_add, n2_mul, n2_sub, n2_eq, n2_le, n2_lt, n2_div, n2_qz0, n2_qz1, n2_qzb, bn_0, bn_1, bn_t, bn_f, n2_eqm, n2_meq, n2_ltm, n2_mlt, n2_lem, n2_mle, if_true, if_false, qbnd_s, ite_true, ite_false, if_pos, reduceIte, z_n, z_10, q_1, g1_0, g1_1, g1_2, g1_3, g1_4, g1_5, g1_6, g1_7, g1_8, g1_9, m1, b1]
    simp (disch := first | assumption | omega) only [l_0, l_1, l_2, l_3, l_4, l_5, l_6, l_7, l_8, l_9, l_10, l_11, l_12, l_15, l_16, l_21, l_24, l_31, l_32, l_40, l_64, l_76, l_80, l_84, l_85, l_99, l_255, l_256, l_680, l_688, l_696, l_704, l_712, l_720, l_728, l_736, l_744, l_752, l_753, l_754, l_755, l_1000, l_2000, l_3000, l_7550, l_1000000, l_41, l_42, l_43, l_45, l_47, l_48, l_56, l_57, l_60, l_61, l_62, l_63, l_73, l_83, l_88, l_97, l_98, l_100, l_101, l_102, l_103, l_104, l_105, l_108, l_111, l_113, l_117, l_118, l_119, l_120, l_65536, n2_31, n2_add, n2_mul, n2_sub, n2_eq, n2_le, n2_lt, n2_div, n2_qz0, n2_qz1, n2_qzb, bn_0, bn_1, bn_t, bn_f, n2_eqm, n2_meq, n2_ltm, n2_mlt, n2_lem, n2_mle, if_true, if_false, qbnd_s, ite_true, ite_false, if_pos, reduceIte, z_n, z_10, q_1, g1_0, g1_1, g1_2, g1_3, g1_4, g1_5, g1_6, g1_7, g1_8, g1_9, a1, n1, e]
  · obtain ⟨I4, L4, o1, o2, o3⟩ := x3_oneW (c := c) (t := t) n2' (n2 (woke s (finishS s (nIx x)).2)).toInt64
    refine ⟨I4, L4, ?_, by rw [if_neg e]; exact o2, ((m4.trans (a3.w (by decide))).trans n3).trans o3⟩
    unfold fX7_ends
    rw [if_pos (by rw [kk_1])]
    unfold gX7_ends
    rw [g1_3, qbnd_s, g1_2, qbnd_s, m1, qbnd_s]
    dsimp only
    rw [g1_2, qbnd_s, l_2, b1, qbnd_s]
    dsimp only
    rw [g1_0, qbnd_s, a1, qbnd_s]
    dsimp only
    rw [n1, qbnd_s]
    dsimp only
    rw [l_0, if_neg e, g1_7, qbnd_s, g1_2, qbnd_s, l_1, b2, qbnd_s]
    dsimp only
    rw [j6_woke, qbnd_s]
    dsimp only
    rw [o1, qbnd_s]
theorem x7_gathers [FB] (hW : W7 I L s h kp tx row cs) (hG : Gd N s) (hN : N < 900000000) (x y : Int32) : ∃ I' L', fX7_gathers 1 x y (mk I L c t) = some ((collectS s (nIx x) (nIx y)).1, 0, mk I' L' c t) ∧ W7 I' L' (collectS s (nIx x) (nIx y)).2 (noteH h s (collectS s (nIx x) (nIx y)).1) kp tx (if (collectS s (nIx x) (nIx y)).1 < n2 0 then row else [(n2 ((collectS s (nIx x) (nIx y)).2 (nIx y) (nIx x))).toInt64]) cs ∧ Fw I I' := by
  obtain ⟨I1, m1, m2, m3, m4⟩ := w7_mark (c := c) (t := t) hW
  obtain ⟨I2, a1, a2, a3⟩ := xi_collect (L := L) (c := c) (t := t) (show 2 ∈ dkl by decide) m2.dw hG hN x y
  obtain ⟨I3, n1, n2', n3⟩ := x7_noted (c := c) (t := t) (m2.desk a3 a2) (m3.q a3) (collectS s (nIx x) (nIx y)).1
  by_cases e : (collectS s (nIx x) (nIx y)).1 < n2 0
  · refine ⟨I3, L, ?_, by rw [if_pos e]; exact n2', (m4.trans (a3.w (by decide))).trans n3⟩
    simp (disch := first | assumption | omega) only [fX7_gathers, gX7_gathers, l_0, l_1, l_2, l_3, l_4, l_5, l_6, l_7, l_8, l_9, l_10, l_11, l_12, l_15, l_16, l_21, l_24, l_31, l_32, l_40, l_64, l_76, l_80, l_84, l_85, l_99, l_255, l_256, l_680, l_688, l_696, l_704, l_712, l_720, l_728, l_736, l_744, l_752, l_753, l_754, l_755, l_1000, l_2000, l_3000, l_7550, l_1000000, l_41, l_42, l_43, l_45, l_47, l_48, l_56, l_57, l_60, l_61, l_62, l_63, l_73, l_83, l_88, l_97, l_98, l_100, l_101, l_102, l_103, l_104, l_105, l_108, l_111, l_113, l_117, l_118, l_119, l_120, l_65536, n2_31, n2_add, n2_mul, n2_sub, n2_eq, n2_le, n2_lt, n2_div, n2_qz0, n2_qz1, n2_qzb, bn_0, bn_1, bn_t, bn_f, n2_eqm, n2_meq, n2_ltm, n2_mlt, n2_lem, n2_mle, if_true, if_false, qbnd_s, ite_true, ite_false, if_pos, reduceIte, z_n, z_10, q_1, g1_0, g1_1, g1_2, g1_3, g1_4, g1_5, g1_6, g1_7, g1_8, g1_9, m1, a1, n1, e]
  · obtain ⟨I4, L4, o1, o2, o3⟩ := x3_oneW (c := c) (t := t) n2' (n2 ((collectS s (nIx x) (nIx y)).2 (nIx y) (nIx x))).toInt64
    refine ⟨I4, L4, ?_, by rw [if_neg e]; exact o2, ((m4.trans (a3.w (by decide))).trans n3).trans o3⟩
    have hb : nIx x < 8 ∧ nIx y < 21 := by
      apply Classical.byContradiction
      intro hc
      apply e
      unfold collectS
      rw [if_pos (by omega)]
      exact (by decide : -n2 1 < n2 0)
    have ex : x = n2 (nIx x) := by
      rcases i32_cases x with e1 | ⟨k, hk, rfl⟩
      · rw [nIx_m e1] at hb; omega
      · rw [nIx_n hk]
    have ey : y = n2 (nIx y) := by
      rcases i32_cases y with e1 | ⟨k, hk, rfl⟩
      · rw [nIx_m e1] at hb; omega
      · rw [nIx_n hk]
    have b2 := x5_modeAt (L := L) (c := c) (t := t) (show 3 ∈ stl by decide) n2'.dw.1 hb.1 (show nIx y < 85 by omega)
    rw [← ex, ← ey] at b2
    simp (disch := first | assumption | omega) only [fX7_gathers, gX7_gathers, l_0, l_1, l_2, l_3, l_4, l_5, l_6, l_7, l_8, l_9, l_10, l_11, l_12, l_15, l_16, l_21, l_24, l_31, l_32, l_40, l_64, l_76, l_80, l_84, l_85, l_99, l_255, l_256, l_680, l_688, l_696, l_704, l_712, l_720, l_728, l_736, l_744, l_752, l_753, l_754, l_755, l_1000, l_2000, l_3000, l_7550, l_1000000, l_41, l_42, l_43, l_45, l_47, l_48, l_56, l_57, l_60, l_61, l_62, l_63, l_73, l_83, l_88, l_97, l_98, l_100, l_101, l_102, l_103, l_104, l_105, l_108, l_111, l_113, l_117, l_118, l_119, l_120, l_65536, n2_31, n2_add, n2_mul, n2_sub, n2_eq, n2_le, n2_lt, n2_div, n2_qz0, n2_qz1, n2_qzb, bn_0, bn_1, bn_t, bn_f, n2_eqm, n2_meq, n2_ltm, n2_mlt, n2_lem, n2_mle, if_true, if_false, qbnd_s, ite_true, ite_false, if_pos, reduceIte, z_n, z_10, q_1, g1_0, g1_1, g1_2, g1_3, g1_4, g1_5, g1_6, g1_7, g1_8, g1_9, m1, a1, n1, e, b2, o1]
theorem x7_bulk [FB] (hW : W7 I L s h kp tx row cs) (hG : Gd N s) (hN : N < 900000000) (x : Int32) : ∃ I', fX7_bulk 1 x (mk I L c t) = some ((setbS s (nIx x)).1, 0, mk I' L c t) ∧ W7 I' L (setbS s (nIx x)).2 (noteH h s (setbS s (nIx x)).1) kp tx row cs ∧ Fw I I' := by
  obtain ⟨I1, m1, m2, m3, m4⟩ := w7_mark (c := c) (t := t) hW
  obtain ⟨I2, a1, a2, a3⟩ := xi_setBulk (L := L) (c := c) (t := t) (show 2 ∈ dkl by decide) m2.dw hG hN x
  obtain ⟨I3, n1, n2', n3⟩ := x7_noted (c := c) (t := t) (m2.desk a3 a2) (m3.q a3) (setbS s (nIx x)).1
  refine ⟨I3, ?_, n2', (m4.trans (a3.w (by decide))).trans n3⟩
  simp (disch := first | assumption | omega) only [fX7_bulk, gX7_bulk, l_0, l_1, l_2, l_3, l_4, l_5, l_6, l_7, l_8, l_9, l_10, l_11, l_12, l_15, l_16, l_21, l_24, l_31, l_32, l_40, l_64, l_76, l_80, l_84, l_85, l_99, l_255, l_256, l_680, l_688, l_696, l_704, l_712, l_720, l_728, l_736, l_744, l_752, l_753, l_754, l_755, l_1000, l_2000, l_3000, l_7550, l_1000000, l_41, l_42, l_43, l_45, l_47, l_48, l_56, l_57, l_60, l_61, l_62, l_63, l_73, l_83, l_88, l_97, l_98, l_100, l_101, l_102, l_103, l_104, l_105, l_108, l_111, l_113, l_117, l_118, l_119, l_120, l_65536, n2_31, n2_add, n2_mul, n2_sub, n2_eq, n2_le, n2_lt, n2_div, n2_qz0, n2_qz1, n2_qzb, bn_0, bn_1, bn_t, bn_f, n2_eqm, n2_meq, n2_ltm, n2_mlt, n2_lem, n2_mle, if_true, if_false, qbnd_s, ite_true, ite_false, if_pos, reduceIte, z_n, z_10, q_1, g1_0, g1_1, g1_2, g1_3, g1_4, g1_5, g1_6, g1_7, g1_8, g1_9, m1, a1, n1]
end S7Y

/-! PURE SIDE, THE CLASS: who holds a place; what a lock would meet -/
section S7H
variable {I : Nat → Nat → Int32} {L : Nat → Nat → Int64} {c t N : Nat} {s : St} {h : List St} {kp : Nat → Option St} {tx : List Nat} {row : List Int64} {cs : List Nat} {μ : qM}
def hldF (s : St) (p : Nat) (b o : Nat) : Nat := if s p o = 0 then b else both b (s p o)
def hldS (s : St) (p : Nat) : Nat := (List.range 8).foldl (hldF s p) 0
theorem x7_holders [FB] (hW : W7 I L s h kp tx row cs) (hG : Gd N s) (hN : N < 900000000) (x : Int32) : ∃ I' L', fX7_holders 1 x (mk I L c t) = some (if nIx x < 85 then n2 (bits8 fun o => !decide (s (nIx x) o = 0)) else -n2 1, 0, mk I' L' c t) ∧ W7 I' L' s h kp tx (if nIx x < 85 then [(n2 (hldS s (nIx x))).toInt64] else row) cs ∧ Fw I I' := by
  by_cases e : nIx x < 85
  · have ex := nIx_eq (show nIx x < 2147483647 by omega)
    have hB := gd_bd hG (show N < 1000000000 by omega)
    obtain ⟨p, hp⟩ : ∃ p, nIx x = p := ⟨_, rfl⟩
    rw [hp] at e ex ⊢
    obtain ⟨I4, L4, o1, o2, o3⟩ := x3_oneW (c := c) (t := t) hW (n2 (hldS s p)).toInt64
    refine ⟨I4, L4, ?_, by rw [if_pos e]; exact o2, o3⟩
    have m0 : bits8 (fun j => decide (j < 0) && !decide (s p j = 0)) = 0 := (bits8_zero _).mpr fun j _ => by simp
    have key := lp_r (α := Nat) (fun n k b => fX7_holders_11 n 1 (n2 p) (n2 (bits8 fun j => decide (j < k) && !decide (s p j = 0))) (n2 b) (n2 k) (mk I L c t)) 8 (fun k b => b = (List.range k).foldl (hldF s p) 0 ∧ b ≤ 6) (fun r => r = some (n2 (bits8 fun o => !decide (s p o = 0)), 0, mk I4 L4 c t)) (fun n k b hk hi => ?_) (fun n b hi => ?_) 8 0 qfu 0 rfl (by rw [qfu_eq]; omega) ⟨rfl, by omega⟩
    · simp only [m0] at key
      rw [if_pos e, ex]
      unfold fX7_holders
      rw [if_pos (by rw [kk_1])]
      unfold gX7_holders
      rw [x7_isPlace_y e, qbnd_s]
      dsimp only
      rw [l_0, if_neg (show ¬ n2 1 = n2 0 by decide +kernel)]
      exact key
    · have b1 := x5_modeAt (L := L) (c := c) (t := t) (show 3 ∈ stl by decide) hW.dw.1 hk e
      have hm := hB.md e hk
      obtain ⟨i1, i2⟩ := hi
      refine Or.inr ⟨hldF s p b k, ?_, ?_, ?_⟩
      · unfold hldF
        by_cases e0 : s p k = 0
        · have : (bits8 fun j => decide (j < k + 1) && !decide (s p j = 0)) = bits8 fun j => decide (j < k) && !decide (s p j = 0) := bits8_congr fun j _ => by
            by_cases ej : j = k
            · subst ej; simp [e0]
            · have : (j < k + 1) = (j < k) := propext ⟨fun h => by omega, fun h => by omega⟩
              simp only [this]
          rw [if_pos e0, this]
          simp (disch := first | assumption | omega) only [fX7_holders_11, l_0, l_1, l_2, l_3, l_4, l_5, l_6, l_7, l_8, l_9, l_10, l_11, l_12, l_15, l_16, l_21, l_24, l_31, l_32, l_40, l_64, l_76, l_80, l_84, l_85, l_99, l_255, l_256, l_680, l_688, l_696, l_704, l_712, l_720, l_728, l_736, l_744, l_752, l_753, l_754, l_755, l_1000, l_2000, l_3000, l_7550, l_1000000, l_41, l_42, l_43, l_45, l_47, l_48, l_56, l_57, l_60, l_61, l_62, l_63, l_73, l_83, l_88, l_97, l_98, l_100, l_101, l_102, l_103, l_104, l_105, l_108, l_111, l_113, l_117, l_118, l_119, l_120, l_65536, n2_31, n2_add, n2_mul, n2_sub, n2_eq, n2_le, n2_lt, n2_div, n2_qz0, n2_qz1, n2_qzb, bn_0, bn_1, bn_t, bn_f, n2_eqm, n2_meq, n2_ltm, n2_mlt, n2_lem, n2_mle, if_true, if_false, qbnd_s, ite_true, ite_false, if_pos, reduceIte, z_n, z_10, q_1, g1_0, g1_1, g1_2, g1_3, g1_4, g1_5, g1_6, g1_7, g1_8, g1_9, z_8 hk, b1, e0]
        · have : (bits8 fun j => decide (j < k + 1) && !decide (s p j = 0)) = bits8 fun j => decide (k = j) || (decide (j < k) && !decide (s p j = 0)) := bits8_congr fun j _ => by
            by_cases ej : j = k
            · subst ej; simp [e0]
            · have h1 : (j < k + 1) = (j < k) := propext ⟨fun h => by omega, fun h => by omega⟩
              have h2 : ¬ k = j := fun z => ej z.symm
              simp only [h1, decide_eq_false h2, Bool.false_or]
          rw [if_neg e0, this, ← bits8_set _ hk]
          simp (disch := first | assumption | omega) only [fX7_holders_11, l_0, l_1, l_2, l_3, l_4, l_5, l_6, l_7, l_8, l_9, l_10, l_11, l_12, l_15, l_16, l_21, l_24, l_31, l_32, l_40, l_64, l_76, l_80, l_84, l_85, l_99, l_255, l_256, l_680, l_688, l_696, l_704, l_712, l_720, l_728, l_736, l_744, l_752, l_753, l_754, l_755, l_1000, l_2000, l_3000, l_7550, l_1000000, l_41, l_42, l_43, l_45, l_47, l_48, l_56, l_57, l_60, l_61, l_62, l_63, l_73, l_83, l_88, l_97, l_98, l_100, l_101, l_102, l_103, l_104, l_105, l_108, l_111, l_113, l_117, l_118, l_119, l_120, l_65536, n2_31, n2_add, n2_mul, n2_sub, n2_eq, n2_le, n2_lt, n2_div, n2_qz0, n2_qz1, n2_qzb, bn_0, bn_1, bn_t, bn_f, n2_eqm, n2_meq, n2_ltm, n2_mlt, n2_lem, n2_mle, if_true, if_false, qbnd_s, ite_true, ite_false, if_pos, reduceIte, z_n, z_10, q_1, g1_0, g1_1, g1_2, g1_3, g1_4, g1_5, g1_6, g1_7, g1_8, g1_9, z_8 hk, b1, e0, tb2 i2 hm, n2_shl, n2_or]
      · rw [List.range_succ, List.foldl_append, ← i1]
        rfl
      · unfold hldF
        by_cases e0 : s p k = 0
        · rw [if_pos e0]; exact i2
        · rw [if_neg e0]; exact both_le i2 hm
    · obtain ⟨i1, i2⟩ := hi
      have i3 : b = hldS s p := i1
      have : (bits8 fun j => decide (j < 8) && !decide (s p j = 0)) = bits8 fun o => !decide (s p o = 0) := bits8_congr fun j hj => by simp [hj]
      rw [this, i3]
      simp (disch := first | assumption | omega) only [fX7_holders_11, l_0, l_1, l_2, l_3, l_4, l_5, l_6, l_7, l_8, l_9, l_10, l_11, l_12, l_15, l_16, l_21, l_24, l_31, l_32, l_40, l_64, l_76, l_80, l_84, l_85, l_99, l_255, l_256, l_680, l_688, l_696, l_704, l_712, l_720, l_728, l_736, l_744, l_752, l_753, l_754, l_755, l_1000, l_2000, l_3000, l_7550, l_1000000, l_41, l_42, l_43, l_45, l_47, l_48, l_56, l_57, l_60, l_61, l_62, l_63, l_73, l_83, l_88, l_97, l_98, l_100, l_101, l_102, l_103, l_104, l_105, l_108, l_111, l_113, l_117, l_118, l_119, l_120, l_65536, n2_31, n2_add, n2_mul, n2_sub, n2_eq, n2_le, n2_lt, n2_div, n2_qz0, n2_qz1, n2_qzb, bn_0, bn_1, bn_t, bn_f, n2_eqm, n2_meq, n2_ltm, n2_mlt, n2_lem, n2_mle, if_true, if_false, qbnd_s, ite_true, ite_false, if_pos, reduceIte, z_n, z_10, q_1, g1_0, g1_1, g1_2, g1_3, g1_4, g1_5, g1_6, g1_7, g1_8, g1_9, Nat.le_refl, o1]
  · refine ⟨I, L, ?_, by rw [if_neg e]; exact hW, .rf I⟩
    rw [if_neg e]
    unfold fX7_holders
    rw [if_pos (by rw [kk_1])]
    unfold gX7_holders
    rw [pl_nIx, decide_eq_false e, qbnd_s]
    dsimp only
    rw [l_0, if_pos no_zero, l_1]
theorem stopl_le1 (s : St) (o p m : Nat) : stopl s o p m ≤ lev p + 1 := by
  unfold stopl
  cases hf : (List.range (lev p + 1)).find? _ with
  | none => simp
  | some l =>
    have := List.mem_range.mp (List.mem_of_find?_eq_some hf)
    simp
    omega
def mayS (s : St) (o p m : Nat) : Int32 × List Int64 := if s 85 o = 1 then (if covd s o p m = true then (n2 1, [85, 0]) else if stopl s o p m ≤ lev p then (n2 0, [(n2 (up p (stopl s o p m))).toInt64, (n2 (nsteps s o p m (stopl s o p m))).toInt64]) else (n2 1, [85, (n2 (nsteps s o p m (stopl s o p m))).toInt64])) else (-n2 2, [])
theorem x7_may_y [FB] (hW : W7 I L s h kp tx row cs) (hG : Gd N s) (hN : N < 900000000) (x y z : Int32) (hx : nIx x < 8) (hy : nIx y < 85) (hz : 1 ≤ nIx z ∧ nIx z < 7) : ∃ I' L', fX7_may 1 x y z (mk I L c t) = some ((mayS s (nIx x) (nIx y) (nIx z)).1, 0, mk I' L' c t) ∧ W7 I' L' s h kp tx (if s 85 (nIx x) = 1 then (mayS s (nIx x) (nIx y) (nIx z)).2 else row) cs ∧ Fw I I' := by
  have ex := nIx_eq (show nIx x < 2147483647 by omega)
  have ey := nIx_eq (show nIx y < 2147483647 by omega)
  have ez := nIx_eq (show nIx z < 2147483647 by omega)
  have hB := gd_bd hG (show N < 1000000000 by omega)
  obtain ⟨o, ho⟩ : ∃ o, nIx x = o := ⟨_, rfl⟩
  obtain ⟨p, hp⟩ : ∃ p, nIx y = p := ⟨_, rfl⟩
  obtain ⟨m, hm⟩ : ∃ m, nIx z = m := ⟨_, rfl⟩
  rw [ho] at hx ex ⊢
  rw [hp] at hy ey ⊢
  rw [hm] at hz ez ⊢
  have hR := hW.dw.1
  have hs : 3 ∈ stl := by decide
  have q0 : oLdI 20 (mk I L c t) 5 (n2 o) = some (n2 (s 85 o)) := (st_L1 hs hx).trans (congrArg some (hR.st hx))
  have hst := (hB.ow hx).1
  have head : fX7_may 1 x y z (mk I L c t) = if n2 (s 85 o) = n2 1 then (qbnd (fX5_isCovered 3 (n2 o) (n2 p) (n2 m) (mk I L c t)) fun r8 =>
        if r8.1 = n2 0 then
          qbnd (oGetP r8.2.2 7 1 2) fun v9 =>
          qbnd (fX5_stopLevel v9 (n2 o) (n2 p) (n2 m) r8.2.2) fun r10 =>
          qbnd (fX7_levelOf (n2 p) r10.2.2) fun r11 =>
          if r10.1 ≤ r11.1 then fX7_may_48 1 (n2 o) (n2 p) (n2 m) r10.1 (n2 0) r11.2.2 else fX7_may_48 1 (n2 o) (n2 p) (n2 m) r10.1 (n2 1) r11.2.2
        else
          qbnd (oGetP r8.2.2 7 1 7) fun v12 =>
          qbnd (fX3_two v12 (85 : Int64) (0 : Int64) r8.2.2) fun r13 =>
          some (n2 1, 0, r13.2.2)) else some (-n2 2, 0, mk I L c t) := by
    rw [ex, ey, ez]
    unfold fX7_may
    rw [if_pos (by rw [kk_1])]
    unfold gX7_may
    rw [x7_isOwner_y hx, qbnd_s]
    dsimp only
    rw [l_0, l_1, l_2, if_neg (show ¬ n2 1 = n2 0 by decide +kernel), x7_isPlace_y hy, qbnd_s]
    dsimp only
    rw [if_neg (show ¬ n2 1 = n2 0 by decide +kernel), x7_isLockMode_y hz.1 hz.2, qbnd_s]
    dsimp only
    rw [if_neg (show ¬ n2 1 = n2 0 by decide +kernel), g1_2, qbnd_s, st_P1 hs, qbnd_s, q0, qbnd_s, qbnd_s]
  rw [head]
  unfold mayS
  by_cases e1 : s 85 o = 1
  · rw [if_pos (by rw [e1]), if_pos e1, if_pos e1, x5_isCovered hs hR hB hx hy (show m ≤ 6 by omega), qbnd_s]
    dsimp only
    by_cases e2 : covd s o p m = true
    · obtain ⟨I4, L4, o1, o2, o3⟩ := x3_twoW (c := c) (t := t) hW 85 0
      refine ⟨I4, L4, ?_, by rw [if_pos e2]; exact o2, o3⟩
      rw [e2, if_neg yes_zero, if_pos rfl, g1_7, qbnd_s, o1, qbnd_s]
    · have e3 : covd s o p m = false := by
        rcases bcs (covd s o p m) with q | q
        · exact q
        · exact absurd q e2
      have hsl := stopl_le1 s o p m
      have hlv := lev_le p
      have b9 := x5_newSteps (L := L) (c := c) (t := t) hs hR hB hx hy (show m ≤ 6 by omega) hsl
      rw [if_neg e2]
      by_cases e4 : stopl s o p m ≤ lev p
      · obtain ⟨I4, L4, o1, o2, o3⟩ := x3_twoW (c := c) (t := t) hW (n2 (up p (stopl s o p m))).toInt64 (n2 (nsteps s o p m (stopl s o p m))).toInt64
        refine ⟨I4, L4, ?_, by rw [if_pos e4]; exact o2, o3⟩
        rw [e3, if_pos no_zero, g1_2, qbnd_s, x5_stopLevel hs hR hB hx hy (show m ≤ 6 by omega), qbnd_s]
        dsimp only
        rw [x7_levelOf hy, qbnd_s]
        dsimp only
        rw [if_pos (by rw [n2_le (by omega) (by omega)]; exact e4), if_pos e4]
        unfold fX7_may_48
        rw [g1_7, qbnd_s, l_0, if_pos rfl, x7_onPath hy e4, qbnd_s]
        dsimp only
        unfold fX7_may_59
        rw [g1_2, qbnd_s, b9, qbnd_s]
        dsimp only
        rw [o1, qbnd_s, l_0, if_pos rfl]
      · obtain ⟨I4, L4, o1, o2, o3⟩ := x3_twoW (c := c) (t := t) hW 85 (n2 (nsteps s o p m (stopl s o p m))).toInt64
        refine ⟨I4, L4, ?_, by rw [if_neg e4]; exact o2, o3⟩
        rw [e3, if_pos no_zero, g1_2, qbnd_s, x5_stopLevel hs hR hB hx hy (show m ≤ 6 by omega), qbnd_s]
        dsimp only
        rw [x7_levelOf hy, qbnd_s]
        dsimp only
        rw [if_neg (by rw [n2_le (by omega) (by omega)]; exact e4), if_neg e4]
        unfold fX7_may_48
        rw [g1_7, qbnd_s, l_0, if_neg (show ¬ n2 1 = n2 0 by decide +kernel)]
        unfold fX7_may_59
        rw [g1_2, qbnd_s, b9, qbnd_s]
        dsimp only
        rw [o1, qbnd_s, l_0, if_neg (show ¬ n2 1 = n2 0 by decide +kernel), l_1]
  · refine ⟨I, L, ?_, by rw [if_neg e1]; exact hW, .rf I⟩
    rw [if_neg (by rw [n2_eq (by omega) (by omega)]; exact e1), if_neg e1]
end S7H

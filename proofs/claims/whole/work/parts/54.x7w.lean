/-! PURE SIDE, THE CLASS: who waits where -/
section S7J
variable {I : Nat → Nat → Int32} {L : Nat → Nat → Int64} {c t N : Nat} {s : St} {h : List St} {kp : Nat → Option St} {tx : List Nat} {row : List Int64} {cs : List Nat} {μ : qM}
theorem x7_may_n (x y z : Int32) (hn : ¬ (nIx x < 8 ∧ nIx y < 85 ∧ 1 ≤ nIx z ∧ nIx z < 7)) : fX7_may 1 x y z (mk I L c t) = some (-n2 1, 0, mk I L c t) := by
  unfold fX7_may
  rw [if_pos (by rw [kk_1])]
  unfold gX7_may
  rw [ow_nIx, qbnd_s]
  dsimp only
  by_cases e1 : nIx x < 8
  · rw [decide_eq_true e1, l_0, if_neg yes_zero, pl_nIx, qbnd_s]
    dsimp only
    by_cases e2 : nIx y < 85
    · have e3 : ¬ (1 ≤ nIx z ∧ nIx z < 7) := fun q => hn ⟨e1, e2, q⟩
      rw [decide_eq_true e2, if_neg yes_zero, lm_nIx, decide_eq_false e3, qbnd_s]
      dsimp only
      rw [if_pos no_zero, l_1]
    · rw [decide_eq_false e2, if_pos no_zero, l_1]
  · rw [decide_eq_false e1, l_0, if_pos no_zero, l_1]
theorem x3_addW [FB] (hW : W7 I L s h kp tx row cs) (hl : row.length < 13) (v : Int64) : ∃ I' L', fX3_add 200 v (mk I L c t) = some (n2 0, 0, mk I' L' c t) ∧ W7 I' L' s h kp tx (row ++ [v]) cs ∧ Fw I I' := by
  obtain ⟨I', L', r1, r2, r3, r4⟩ := x3_add (c := c) (t := t) hW.ro.1 hl v
  exact ⟨I', L', r1, hW.rowed r3 r2 r4, r3.w (by omega)⟩
theorem x7_waits_n (x : Int32) (hn : ¬ nIx x < 8) : fX7_waits 1 x (mk I L c t) = some (-n2 1, 0, mk I L c t) := by
  unfold fX7_waits
  rw [if_pos (by rw [kk_1])]
  unfold gX7_waits
  rw [ow_nIx, decide_eq_false hn, qbnd_s]
  dsimp only
  rw [l_0, if_pos no_zero, l_1]
theorem x7_waits_y [FB] (hW : W7 I L s h kp tx row cs) (hG : Gd N s) (hN : N < 900000000) (x : Int32) (hx : nIx x < 8) : ∃ I' L', fX7_waits 1 x (mk I L c t) = some (if s 85 (nIx x) = 2 then n2 (s 89 (nIx x)) else -n2 2, 0, mk I' L' c t) ∧ W7 I' L' s h kp tx (if s 85 (nIx x) = 2 then [(n2 (s 90 (nIx x))).toInt64, (n2 (posn s (nIx x))).toInt64, (n2 (s 92 (nIx x))).toInt64, (n2 (s 93 (nIx x))).toInt64] else row) cs ∧ Fw I I' := by
  have ex := nIx_eq (show nIx x < 2147483647 by omega)
  have hB := gd_bd hG (show N < 1000000000 by omega)
  obtain ⟨o, ho⟩ : ∃ o, nIx x = o := ⟨_, rfl⟩
  rw [ho] at hx ex ⊢
  have hs : 3 ∈ stl := by decide
  have hst := (hB.ow hx).1
  have q0 : oLdI 20 (mk I L c t) 5 (n2 o) = some (n2 (s 85 o)) := (st_L1 hs hx).trans (congrArg some (hW.dw.1.st hx))
  have qw : ∀ {J : Nat → Nat → Int32} {M : Nat → Nat → Int64}, R7 J 3 s → oLdI 20 (mk J M c t) 10 (n2 o) = some (n2 (s 90 o)) := fun r => (st_L6 hs hx).trans (congrArg some (r.wa hx))
  have qg : ∀ {J : Nat → Nat → Int32} {M : Nat → Nat → Int64}, R7 J 3 s → oLdI 20 (mk J M c t) 12 (n2 o) = some (n2 (s 92 o)) := fun r => (st_L8 hs hx).trans (congrArg some (r.go hx))
  have qm : ∀ {J : Nat → Nat → Int32} {M : Nat → Nat → Int64}, R7 J 3 s → oLdI 20 (mk J M c t) 13 (n2 o) = some (n2 (s 93 o)) := fun r => (st_L9 hs hx).trans (congrArg some (r.mo hx))
  have qa : ∀ {J : Nat → Nat → Int32} {M : Nat → Nat → Int64}, R7 J 3 s → oLdI 20 (mk J M c t) 9 (n2 o) = some (n2 (s 89 o)) := fun r => (st_L5 hs hx).trans (congrArg some (r.at hx))
  have qp := x5_position (L := L) (c := c) (t := t) hs hW.dw.1 hB hx
  by_cases e : s 85 o = 2
  · obtain ⟨I1, L1, o1, w1, f1⟩ := x3_twoW (c := c) (t := t) hW (n2 (s 90 o)).toInt64 (n2 (posn s o)).toInt64
    obtain ⟨I2, L2, o2, w2, f2⟩ := x3_addW (c := c) (t := t) w1 (by simp) (n2 (s 92 o)).toInt64
    obtain ⟨I3, L3, o3, w3, f3⟩ := x3_addW (c := c) (t := t) w2 (by simp) (n2 (s 93 o)).toInt64
    refine ⟨I3, L3, ?_, by rw [if_pos e]; exact w3, (f1.trans f2).trans f3⟩
    rw [if_pos e, ex]
    unfold fX7_waits
    rw [if_pos (by rw [kk_1])]
    unfold gX7_waits
    rw [x7_isOwner_y hx, qbnd_s]
    dsimp only
    rw [l_0, if_neg (show ¬ n2 1 = n2 0 by decide +kernel), g1_2, qbnd_s, st_P1 hs, qbnd_s, q0, qbnd_s, l_2, if_pos (by rw [e]), g1_7, qbnd_s, qbnd_s, st_P6 hs, qbnd_s, qw hW.dw.1, qbnd_s, qbnd_s, qp, qbnd_s]
    dsimp only
    rw [o1, qbnd_s]
    dsimp only
    rw [g1_7, qbnd_s, g1_2, qbnd_s, st_P8 hs, qbnd_s, qg w1.dw.1, qbnd_s, o2, qbnd_s]
    dsimp only
    rw [g1_7, qbnd_s, g1_2, qbnd_s, st_P9 hs, qbnd_s, qm w2.dw.1, qbnd_s, o3, qbnd_s]
    dsimp only
    rw [g1_2, qbnd_s, st_P5 hs, qbnd_s, qa w3.dw.1, qbnd_s]
  · refine ⟨I, L, ?_, by rw [if_neg e]; exact hW, .rf I⟩
    rw [if_neg e, ex]
    unfold fX7_waits
    rw [if_pos (by rw [kk_1])]
    unfold gX7_waits
    rw [x7_isOwner_y hx, qbnd_s]
    dsimp only
    rw [l_0, if_neg (show ¬ n2 1 = n2 0 by decide +kernel), g1_2, qbnd_s, st_P1 hs, qbnd_s, q0, qbnd_s, l_2, if_neg (by rw [n2_eq (by omega) (by omega)]; exact e)]
end S7J

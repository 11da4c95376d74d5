/-! PURE SIDE, THE CLASS: wrong arguments -/
section S7NN
variable {I : Nat → Nat → Int32} {L : Nat → Nat → Int64} {c t : Nat}
theorem x7_holds_n (x y : Int32) (hn : ¬ (nIx x < 8 ∧ nIx y < 85)) : fX7_holds 1 x y (mk I L c t) = some (-n2 1, 0, mk I L c t) := by
  unfold fX7_holds
  rw [if_pos (by rw [kk_1])]
  unfold gX7_holds
  rw [ow_nIx, qbnd_s]
  dsimp only
  by_cases e1 : nIx x < 8
  · have e2 : ¬ nIx y < 85 := fun q => hn ⟨e1, q⟩
    rw [decide_eq_true e1, l_0, if_neg yes_zero, pl_nIx, decide_eq_false e2, qbnd_s]
    dsimp only
    rw [if_pos no_zero, l_1]
  · rw [decide_eq_false e1, l_0, if_pos no_zero, l_1]
theorem x7_common_n (x y : Int32) (hn : ¬ (nIx x < 8 ∧ nIx y < 8 ∧ nIx x ≠ nIx y)) : fX7_common 1 x y (mk I L c t) = some (-n2 1, 0, mk I L c t) := by
  unfold fX7_common
  rw [if_pos (by rw [kk_1])]
  unfold gX7_common
  rw [ow_nIx, qbnd_s]
  dsimp only
  by_cases e1 : nIx x < 8
  · rw [decide_eq_true e1, l_0, if_neg yes_zero, ow_nIx, qbnd_s]
    dsimp only
    by_cases e2 : nIx y < 8
    · have e3 : nIx x = nIx y := Classical.byContradiction fun q => hn ⟨e1, e2, q⟩
      have e4 : x = y := by rw [nIx_eq (show nIx x < 2147483647 by omega), e3, ← nIx_eq (show nIx y < 2147483647 by omega)]
      rw [decide_eq_true e2, if_neg yes_zero, if_pos e4, l_1]
    · rw [decide_eq_false e2, if_pos no_zero, l_1]
  · rw [decide_eq_false e1, l_0, if_pos no_zero, l_1]
end S7NN

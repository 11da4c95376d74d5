/-! PURE SIDE, THE CLASS: what one greater lock would save -/
section S7SV
variable {I : Nat → Nat → Int32} {L : Nat → Nat → Int64} {c t N : Nat} {s : St} {h : List St} {kp : Nat → Option St} {tx : List Nat} {row : List Int64} {cs : List Nat} {μ : qM}
theorem hbel_le (s : St) {o p : Nat} : hbel s o p ≤ 85 := by
  unfold hbel
  rw [cnt_fold (bel p) (fun q => decide (s q o ≠ 0)), Nat.zero_add]
  refine Nat.le_trans List.countP_le_length ?_
  unfold bel
  refine Nat.le_trans (List.length_filter_le _ _) ?_
  rw [List.length_range]
  exact Nat.le_refl _
theorem gmode_le {s : St} (hB : Bd s) {o p : Nat} (ho : o < 8) (hp : p < 85) : gmode s o p ≤ 6 := by
  unfold gmode
  split
  · omega
  · exact both_le (hB.md hp ho) (by omega)
/-- what saves() answers, and its two rows -/
def savB (s : St) (o p : Nat) : Bool := decide (s 85 o = 1) && opn s o p (gmode s o p)
theorem x7_saves_n (x y : Int32) (hn : ¬ (nIx x < 8 ∧ nIx y < 21)) : fX7_saves 1 x y (mk I L c t) = some (-n2 1, 0, mk I L c t) := by
  unfold fX7_saves
  rw [if_pos (by rw [kk_1])]
  unfold gX7_saves
  rw [ow_nIx, qbnd_s]
  dsimp only
  by_cases e1 : nIx x < 8
  · rw [decide_eq_true e1, l_0, if_neg yes_zero]
    rcases i32_cases y with e | ⟨k, hk, rfl⟩
    · rw [if_pos e, l_1]
    · have e2 : ¬ k < 21 := fun q => hn ⟨e1, by rw [nIx_n hk]; exact q⟩
      rw [if_neg (by rw [n2_lt (by omega) (by omega)]; omega), l_21, if_neg (by rw [n2_lt (by omega) (by omega)]; exact e2), l_1]
  · rw [decide_eq_false e1, l_0, if_pos no_zero, l_1]
theorem x7_saves_y [FB] (hW : W7 I L s h kp tx row cs) (hG : Gd N s) (hN : N < 900000000) (x y : Int32) (hx : nIx x < 8) (hy : nIx y < 21) : ∃ I' L', fX7_saves 1 x y (mk I L c t) = some (if s 85 (nIx x) = 0 ∨ hbel s (nIx x) (nIx y) = 0 then -n2 2 else n2 (hbel s (nIx x) (nIx y)), 0, mk I' L' c t) ∧ W7 I' L' s h kp tx (if s 85 (nIx x) = 0 ∨ hbel s (nIx x) (nIx y) = 0 then row else [(n2 (gmode s (nIx x) (nIx y))).toInt64, (n2 (bn (savB s (nIx x) (nIx y)))).toInt64]) cs ∧ Fw I I' := by
  have ex := nIx_eq (show nIx x < 2147483647 by omega)
  have ey := nIx_eq (show nIx y < 2147483647 by omega)
  have hB := gd_bd hG (show N < 1000000000 by omega)
  obtain ⟨o, ho⟩ : ∃ o, nIx x = o := ⟨_, rfl⟩
  obtain ⟨p, hp⟩ : ∃ p, nIx y = p := ⟨_, rfl⟩
  rw [ho] at hx ex ⊢
  rw [hp] at hy ey ⊢
  have hR := hW.dw.1
  have hs : 3 ∈ stl := by decide
  have hp85 : p < 85 := by omega
  have q0 : oLdI 20 (mk I L c t) 5 (n2 o) = some (n2 (s 85 o)) := (st_L1 hs hx).trans (congrArg some (hR.st hx))
  have hst := (hB.ow hx).1
  have hb := hbel_le s (o := o) (p := p)
  have b1 := x5_holdingsBelow (L := L) (c := c) (t := t) hs hR hB hx hp85
  have b2 := x5_gatherMode (L := L) (c := c) (t := t) hs hR hB hx hp85
  have b3 := x5_isOpen (L := L) (c := c) (t := t) hs hR hB hx hp85 (gmode_le hB hx hp85)
  obtain ⟨I4, L4, o1, o2, o3⟩ := x3_twoW (c := c) (t := t) hW (n2 (gmode s o p)).toInt64 (n2 (bn (savB s o p))).toInt64
  have tail : ∀ b : Bool, savB s o p = b → fX7_saves_49 1 (n2 (hbel s o p)) (n2 (gmode s o p)) (n2 (bn b)) (mk I L c t) = some (n2 (hbel s o p), 0, mk I4 L4 c t) := by
    intro b hb
    rw [hb] at o1
    unfold fX7_saves_49
    rw [g1_7, qbnd_s]
    cases b with
    | false =>
      rw [l_0, if_pos no_zero]
      have o1' : fX3_two 200 (n2 (gmode s o p)).toInt64 0 (mk I L c t) = some (n2 0, 0, mk I4 L4 c t) := o1
      rw [o1', qbnd_s]
    | true =>
      rw [l_0, if_neg yes_zero]
      have o1' : fX3_two 200 (n2 (gmode s o p)).toInt64 1 (mk I L c t) = some (n2 0, 0, mk I4 L4 c t) := o1
      rw [o1', qbnd_s]
  have head : fX7_saves 1 x y (mk I L c t) = if n2 (s 85 o) = n2 0 then some (-n2 2, 0, mk I L c t) else if n2 (hbel s o p) = n2 0 then some (-n2 2, 0, mk I L c t) else if n2 (s 85 o) = n2 1 then (if n2 (bn (opn s o p (gmode s o p))) = n2 0 then fX7_saves_48 1 (n2 (hbel s o p)) (n2 (gmode s o p)) (mk I L c t) else fX7_saves_49 1 (n2 (hbel s o p)) (n2 (gmode s o p)) (n2 1) (mk I L c t)) else fX7_saves_48 1 (n2 (hbel s o p)) (n2 (gmode s o p)) (mk I L c t) := by
    rw [ex, ey]
    unfold fX7_saves
    rw [if_pos (by rw [kk_1])]
    unfold gX7_saves
    rw [x7_isOwner_y hx, qbnd_s]
    dsimp only
    rw [l_0, l_1, l_2, l_21, if_neg (show ¬ n2 1 = n2 0 by decide +kernel), if_neg (by rw [n2_lt (by omega) (by omega)]; omega), if_pos (by rw [n2_lt (by omega) (by omega)]; exact hy), g1_2, qbnd_s, b1, qbnd_s]
    dsimp only
    rw [g1_2, qbnd_s, st_P1 hs, qbnd_s, q0, qbnd_s, qbnd_s, b2, qbnd_s]
    dsimp only
    rw [g1_2, qbnd_s, st_P1 hs, qbnd_s, q0, qbnd_s, qbnd_s, b3, qbnd_s]
  rw [head]
  by_cases e1 : s 85 o = 0
  · refine ⟨I, L, ?_, by rw [if_pos (.inl e1)]; exact hW, .rf I⟩
    rw [if_pos (by rw [e1]), if_pos (.inl e1)]
  by_cases e2 : hbel s o p = 0
  · refine ⟨I, L, ?_, by rw [if_pos (.inr e2)]; exact hW, .rf I⟩
    rw [if_neg (by rw [n2_eq (by omega) (by omega)]; exact e1), if_pos (by rw [e2]), if_pos (.inr e2)]
  have e3 : ¬ (s 85 o = 0 ∨ hbel s o p = 0) := fun q => q.elim e1 e2
  refine ⟨I4, L4, ?_, by rw [if_neg e3]; exact o2, o3⟩
  rw [if_neg (by rw [n2_eq (by omega) (by omega)]; exact e1), if_neg (by rw [n2_eq (by omega) (by omega)]; exact e2), if_neg e3]
  by_cases e4 : s 85 o = 1
  · rw [if_pos (by rw [e4])]
    rcases bcs (opn s o p (gmode s o p)) with e5 | e5
    · rw [e5, if_pos no_zero]
      unfold fX7_saves_48
      rw [l_0]
      exact tail false (by unfold savB; rw [e5, Bool.and_false])
    · rw [e5, if_neg yes_zero]
      exact tail true (by unfold savB; rw [e5, decide_eq_true e4]; rfl)
  · rw [if_neg (by rw [n2_eq (by omega) (by omega)]; exact e4)]
    unfold fX7_saves_48
    rw [l_0]
    exact tail false (by unfold savB; rw [decide_eq_false e4, Bool.false_and])
end S7SV

/-! PURE SIDE, THE CLASS: the longest queue -/
section S7L
variable {I : Nat → Nat → Int32} {L : Nat → Nat → Int64} {c t N : Nat} {s : St} {h : List St} {kp : Nat → Option St} {tx : List Nat} {row : List Int64} {cs : List Nat} {μ : qM}
def quF (s : St) (z : Nat × Nat × Nat) (p : Nat) : Nat × Nat × Nat := (if reqs s p = 0 then z.1 else z.1 + 1, if reqs s p ≤ z.2.2 then z.2.1 else p, if reqs s p ≤ z.2.2 then z.2.2 else reqs s p)
def quS (s : St) : Nat × Nat × Nat := (List.range 85).foldl (quF s) (0, 85, 0)
def chgN (s : St) : Nat := (List.range 8).foldl (fun n o => n + bn (chg s o)) 0
theorem reqs_le (s : St) (p : Nat) : reqs s p ≤ 8 := cnt8_le fun j => decide (s 89 j = p)
theorem W7.cleared [FB] (hW : W7 I L s h kp tx row cs) : W7 (upI I 200 1 (n2 0)) L s h kp tx [] cs := hW.rowed (.up (by omega) (by omega)) row_clr (FL.rf _ _)
theorem x7_queues [FB] (hW : W7 I L s h kp tx row cs) (hG : Gd N s) (hN : N < 900000000) : ∃ I' L', fX7_queues 1 (mk I L c t) = some (n2 (quS s).1, 0, mk I' L' c t) ∧ W7 I' L' s h kp tx (if (quS s).1 = 0 then [] else [(n2 (quS s).2.1).toInt64, (n2 (chgN s)).toInt64]) cs ∧ Fw I I' := by
  have hB := gd_bd hG (show N < 1000000000 by omega)
  have hs : 3 ∈ stl := by decide
  have hc := hW.cleared
  have hcF : Fw I (upI I 200 1 (n2 0)) := Fr.w (lo := 200) (hi := 201) (.up (by omega) (by omega)) (by omega)
  have key := lp_r (α := Nat × Nat × Nat) (fun n k z => fX7_queues_8 n 1 (n2 z.1) (n2 z.2.1) (n2 z.2.2) (n2 k) (mk I L c t)) 85 (fun k z => z = (List.range k).foldl (quF s) (0, 85, 0) ∧ z.1 ≤ k ∧ z.2.2 ≤ 8) (fun r => ∃ I' L', r = some (n2 (quS s).1, 0, mk I' L' c t) ∧ W7 I' L' s h kp tx (if (quS s).1 = 0 then [] else [(n2 (quS s).2.1).toInt64, (n2 (chgN s)).toInt64]) cs ∧ Fw I I') (fun n k z hk hi => ?_) (fun n z hi => ?_) 85 0 qfu (0, 85, 0) rfl (by rw [qfu_eq]; omega) ⟨rfl, by omega, by simp⟩
  · unfold fX7_queues
    rw [if_pos (by rw [kk_1])]
    unfold gX7_queues
    rw [l_0, l_85]
    exact key
  · obtain ⟨i1, i2, i3⟩ := hi
    have b1 := x5_requests (L := L) (c := c) (t := t) hs hW.dw.1 hB hk
    have hr := reqs_le s k
    refine Or.inr ⟨quF s z k, ?_, ?_, ?_, ?_⟩
    · unfold quF
      have q1 : (n2 (reqs s k) ≤ n2 0) = (reqs s k = 0) := n2_pos (by omega)
      have q2 : (n2 (reqs s k) ≤ n2 z.2.2) = (reqs s k ≤ z.2.2) := n2_le (by omega) (by omega)
      have q3 : ¬ n2 85 ≤ n2 k := by rw [n2_le (by omega) (by omega)]; omega
      show fX7_queues_8 (n + 1) 1 (n2 z.1) (n2 z.2.1) (n2 z.2.2) (n2 k) (mk I L c t) = _
      rw [fX7_queues_8]
      dsimp only
      rw [l_85, if_neg q3, g1_2, qbnd_s, b1, qbnd_s]
      dsimp only
      rw [l_0, l_1, n2_add]
      unfold fX7_queues_19
      rw [l_1, n2_add]
      by_cases e1 : reqs s k = 0
      · rw [if_pos (by rw [q1]; exact e1)]
        by_cases e2 : reqs s k ≤ z.2.2
        · rw [if_pos (by rw [q2]; exact e2), if_pos e1, if_pos e2, if_pos e2]
        · omega
      · rw [if_neg (by rw [q1]; exact e1)]
        by_cases e2 : reqs s k ≤ z.2.2
        · rw [if_pos (by rw [q2]; exact e2), if_neg e1, if_pos e2, if_pos e2]
        · rw [if_neg (by rw [q2]; exact e2), if_neg e1, if_neg e2, if_neg e2]
    · rw [List.range_succ, List.foldl_append, ← i1]
      rfl
    · unfold quF
      dsimp only
      split <;> omega
    · unfold quF
      dsimp only
      split <;> omega
  · obtain ⟨i1, i2, i3⟩ := hi
    have i4 : z = quS s := i1
    rw [← i4]
    show ∃ I' L', fX7_queues_8 (n + 1) 1 (n2 z.1) (n2 z.2.1) (n2 z.2.2) (n2 85) (mk I L c t) = _ ∧ _
    rw [fX7_queues_8]
    dsimp only
    have q4 : n2 85 ≤ n2 85 := by rw [n2_le (by omega) (by omega)]; exact Nat.le_refl 85
    rw [l_85, if_pos q4, g1_7, qbnd_s, l_0, u200_1, qbnd_s]
    by_cases e : z.1 = 0
    · rw [if_pos (show n2 z.1 ≤ n2 0 by rw [n2_pos (by omega)]; exact e), if_pos e]
      exact ⟨_, _, rfl, hc, hcF⟩
    · obtain ⟨I4, L4, o1, o2, o3⟩ := x3_twoW (c := c) (t := t) hc (n2 z.2.1).toInt64 (n2 (chgN s)).toInt64
      rw [if_neg (show ¬ n2 z.1 ≤ n2 0 by rw [n2_pos (by omega)]; exact e), if_neg e]
      refine ⟨I4, L4, ?_, o2, hcF.trans o3⟩
      rw [g1_7, qbnd_s, g1_2, qbnd_s, x5_changes hs hc.dw.1 hB, qbnd_s]
      dsimp only
      unfold chgN at o1
      rw [o1, qbnd_s]
end S7L

/-! PURE SIDE, THE CLASS: what two owners hold both -/
section S7CC
variable {I : Nat → Nat → Int32} {L : Nat → Nat → Int64} {c t N : Nat} {s : St} {h : List St} {kp : Nat → Option St} {tx : List Nat} {row : List Int64} {cs : List Nat} {μ : qM}
def cmF (s : St) (o q : Nat) (z : Nat × Nat × Nat) (k : Nat) : Nat × Nat × Nat := if s (84 - k) o = 0 ∨ s (84 - k) q = 0 then z else (z.1 + 1, 84 - k, z.2.2 + (if s 89 o = 84 - k ∨ s 89 q = 84 - k then 1 else 0))
def cmS (s : St) (o q : Nat) : Nat × Nat × Nat := (List.range 85).foldl (cmF s o q) (0, 85, 0)
def dnx (k : Nat) : Int32 := if k < 85 then n2 (84 - k) else -n2 1
theorem dnx_s : ∀ k, k < 85 → dnx k + -n2 1 = dnx (k + 1) := by decide +kernel
theorem dnx_e : dnx 85 < n2 0 := by decide +kernel
theorem x7_common_y [FB] (hW : W7 I L s h kp tx row cs) (hG : Gd N s) (hN : N < 900000000) (x y : Int32) (hx : nIx x < 8) (hy : nIx y < 8) (hxy : nIx x ≠ nIx y) : ∃ I' L', fX7_common 1 x y (mk I L c t) = some (n2 (cmS s (nIx x) (nIx y)).1, 0, mk I' L' c t) ∧ W7 I' L' s h kp tx [(n2 (cmS s (nIx x) (nIx y)).2.1).toInt64, (n2 (cmS s (nIx x) (nIx y)).2.2).toInt64] cs ∧ Fw I I' := by
  have ex := nIx_eq (show nIx x < 2147483647 by omega)
  have ey := nIx_eq (show nIx y < 2147483647 by omega)
  obtain ⟨o, ho⟩ : ∃ o, nIx x = o := ⟨_, rfl⟩
  obtain ⟨q, hq⟩ : ∃ q, nIx y = q := ⟨_, rfl⟩
  rw [ho] at hx ex hxy ⊢
  rw [hq] at hy ey hxy ⊢
  have hs : 3 ∈ stl := by decide
  have hB := gd_bd hG (show N < 1000000000 by omega)
  obtain ⟨I4, L4, o1, o2, o3⟩ := x3_twoW (c := c) (t := t) hW (n2 (cmS s o q).2.1).toInt64 (n2 (cmS s o q).2.2).toInt64
  refine ⟨I4, L4, ?_, o2, o3⟩
  have qa : ∀ j, j < 8 → oLdI 20 (mk I L c t) 9 (n2 j) = some (n2 (s 89 j)) := fun j hj => (st_L5 hs hj).trans (congrArg some (hW.dw.1.at hj))
  have key := lp_r (α := Nat × Nat × Nat) (fun n k z => fX7_common_19 n 1 (n2 o) (n2 q) (n2 z.1) (n2 z.2.1) (n2 z.2.2) (dnx k) (mk I L c t)) 85 (fun k z => z = (List.range k).foldl (cmF s o q) (0, 85, 0)) (fun r => r = some (n2 (cmS s o q).1, 0, mk I4 L4 c t)) (fun n k z hk hi => ?_) (fun n z hi => ?_) 85 0 qfu (0, 85, 0) rfl (by rw [qfu_eq]; omega) rfl
  · rw [ex, ey]
    unfold fX7_common
    rw [if_pos (by rw [kk_1])]
    unfold gX7_common
    rw [x7_isOwner_y hx, qbnd_s]
    dsimp only
    rw [l_0, if_neg (show ¬ n2 1 = n2 0 by decide +kernel), x7_isOwner_y hy, qbnd_s]
    dsimp only
    rw [if_neg (show ¬ n2 1 = n2 0 by decide +kernel), if_neg (show ¬ n2 o = n2 q by rw [n2_eq (by omega) (by omega)]; exact hxy)]
    exact key
  · refine Or.inr ⟨cmF s o q z k, ?_, by rw [List.range_succ, List.foldl_append, ← hi]; rfl⟩
    have hd : dnx k = n2 (84 - k) := if_pos hk
    have hp : 84 - k < 85 := by omega
    have b1 := x5_modeAt (L := L) (c := c) (t := t) hs hW.dw.1 hx hp
    have b2 := x5_modeAt (L := L) (c := c) (t := t) hs hW.dw.1 hy hp
    have m1 := hB.md hp hx
    have m2 := hB.md hp hy
    have a1 := (hB.ow hx).2.2.2.1
    have a2 := (hB.ow hy).2.2.2.1
    have hn : ¬ n2 (84 - k) < n2 0 := by rw [n2_nn (by omega)]; exact not_false
    have hs2 := dnx_s k hk
    rw [hd] at hs2
    show fX7_common_19 (n + 1) 1 (n2 o) (n2 q) (n2 z.1) (n2 z.2.1) (n2 z.2.2) (dnx k) (mk I L c t) = _
    rw [hd, fX7_common_19]
    dsimp only
    rw [l_0, if_neg hn, g1_2, qbnd_s, b1, qbnd_s, l_1, hs2]
    dsimp only
    unfold cmF
    by_cases e1 : s (84 - k) o = 0
    · rw [if_pos (show n2 (s (84 - k) o) = n2 0 by rw [e1]), if_pos (Or.inl e1)]
    rw [if_neg (show ¬ n2 (s (84 - k) o) = n2 0 by rw [n2_eq (by omega) (by omega)]; exact e1), g1_2, qbnd_s, b2, qbnd_s]
    dsimp only
    by_cases e2 : s (84 - k) q = 0
    · rw [if_pos (show n2 (s (84 - k) q) = n2 0 by rw [e2]), if_pos (Or.inr e2)]
    rw [if_neg (show ¬ n2 (s (84 - k) q) = n2 0 by rw [n2_eq (by omega) (by omega)]; exact e2), if_neg (fun w => w.elim e1 e2), g1_2, qbnd_s, st_P5 hs, qbnd_s, qa o hx, qbnd_s, n2_add, n2_add, n2_add]
    by_cases e3 : s 89 o = 84 - k
    · rw [if_pos (show n2 (s 89 o) = n2 (84 - k) by rw [e3]), if_pos (Or.inl e3)]
    rw [if_neg (show ¬ n2 (s 89 o) = n2 (84 - k) by rw [n2_eq (by omega) (by omega)]; exact e3), qbnd_s, st_P5 hs, qbnd_s, qa q hy, qbnd_s]
    by_cases e4 : s 89 q = 84 - k
    · rw [if_pos (show n2 (s 89 q) = n2 (84 - k) by rw [e4]), if_pos (Or.inr e4)]
    rw [if_neg (show ¬ n2 (s 89 q) = n2 (84 - k) by rw [n2_eq (by omega) (by omega)]; exact e4), if_neg (fun w => w.elim e3 e4)]
  · have i4 : z = cmS s o q := hi
    rw [i4]
    rw [fX7_common_19]
    dsimp only
    rw [l_0, if_pos dnx_e, g1_7, qbnd_s, o1, qbnd_s]
end S7CC

/-! PURE SIDE, THE CLASS: the rows of a table that a lock would come to at once -/
section S7FR
variable {I : Nat → Nat → Int32} {L : Nat → Nat → Int64} {c t N : Nat} {s : St} {h : List St} {kp : Nat → Option St} {tx : List Nat} {row : List Int64} {cs : List Nat} {μ : qM}
def freeB (s : St) (o f m k : Nat) : Bool := covd s o (f + k) m || decide (3 < stopl s o (f + k) m)
def freeF (s : St) (o f m : Nat) (b k : Nat) : Nat := if freeB s o f m k = true then b ||| (1 <<< k) else b
def freeS (s : St) (o f m : Nat) : Nat := (List.range 16).foldl (freeF s o f m) 0
theorem x7_free_n (x y z : Int32) (hn : ¬ (nIx x < 8 ∧ 1 ≤ nIx y ∧ nIx y < 5 ∧ 1 ≤ nIx z ∧ nIx z < 7)) : fX7_free 1 x y z (mk I L c t) = some (-n2 1, 0, mk I L c t) := by
  unfold fX7_free
  rw [if_pos (by rw [kk_1])]
  unfold gX7_free
  rw [ow_nIx, qbnd_s]
  dsimp only
  by_cases e1 : nIx x < 8
  · rw [decide_eq_true e1, l_0, if_neg yes_zero, l_1]
    rcases i32_cases y with e | ⟨k, hk, rfl⟩
    · have e2 : y < n2 1 := Int32.lt_trans e (by decide +kernel)
      rw [if_pos e2]
    · rw [nIx_n hk] at hn
      by_cases e2 : k < 1
      · rw [if_pos (by rw [n2_lt (by omega) (by omega)]; exact e2)]
      · by_cases e3 : 4 < k
        · rw [if_neg (by rw [n2_lt (by omega) (by omega)]; exact e2), l_4, if_pos (by rw [n2_lt (by omega) (by omega)]; exact e3)]
        · have e4 : ¬ (1 ≤ nIx z ∧ nIx z < 7) := fun q => hn ⟨e1, by omega, by omega, q.1, q.2⟩
          rw [if_neg (by rw [n2_lt (by omega) (by omega)]; exact e2), l_4, if_neg (by rw [n2_lt (by omega) (by omega)]; exact e3), lm_nIx, decide_eq_false e4, qbnd_s]
          dsimp only
          rw [if_pos no_zero]
  · rw [decide_eq_false e1, l_0, if_pos no_zero, l_1]
theorem x7_free_y [FB] (hW : W7 I L s h kp tx row cs) (hG : Gd N s) (hN : N < 900000000) (x y z : Int32) (hx : nIx x < 8) (hy : 1 ≤ nIx y ∧ nIx y < 5) (hz : 1 ≤ nIx z ∧ nIx z < 7) : ∃ I' L', fX7_free 1 x y z (mk I L c t) = some (if s 85 (nIx x) = 1 then n2 (freeS s (nIx x) (21 + 16 * (nIx y - 1)) (nIx z)) else -n2 2, 0, mk I' L' c t) ∧ W7 I' L' s h kp tx (if s 85 (nIx x) = 1 then [(bcx (n2 (freeS s (nIx x) (21 + 16 * (nIx y - 1)) (nIx z)))).toInt64] else row) cs ∧ Fw I I' := by
  have ex := nIx_eq (show nIx x < 2147483647 by omega)
  have ey := nIx_eq (show nIx y < 2147483647 by omega)
  have ez := nIx_eq (show nIx z < 2147483647 by omega)
  have hB := gd_bd hG (show N < 1000000000 by omega)
  obtain ⟨o, ho⟩ : ∃ o, nIx x = o := ⟨_, rfl⟩
  obtain ⟨p, hp⟩ : ∃ p, nIx y = p := ⟨_, rfl⟩
  obtain ⟨m, hm⟩ : ∃ m, nIx z = m := ⟨_, rfl⟩
  rw [ho] at hx ex ⊢
  rw [hp] at hy ey ⊢
  rw [hm] at hz ez ⊢
  obtain ⟨f, hf⟩ : ∃ f, 21 + 16 * (p - 1) = f := ⟨_, rfl⟩
  rw [hf]
  have hR := hW.dw.1
  have hs : 3 ∈ stl := by decide
  have q0 : oLdI 20 (mk I L c t) 5 (n2 o) = some (n2 (s 85 o)) := (st_L1 hs hx).trans (congrArg some (hR.st hx))
  have hst := (hB.ow hx).1
  have hw : (n2 21 + n2 16 * (n2 p - n2 1)) = n2 f := by
    rw [n2_sub hy.1, n2_mul, n2_add, hf]
  have head : fX7_free 1 x y z (mk I L c t) = if n2 (s 85 o) = n2 1 then fX7_free_35 qfu 1 (n2 o) (n2 m) (n2 0) (n2 f) (n2 0) (mk I L c t) else some (-n2 2, 0, mk I L c t) := by
    rw [ex, ey, ez]
    unfold fX7_free
    rw [if_pos (by rw [kk_1])]
    unfold gX7_free
    rw [x7_isOwner_y hx, qbnd_s]
    dsimp only
    rw [l_0, l_1, l_2, l_4, l_21, l_16, if_neg (show ¬ n2 1 = n2 0 by decide +kernel), if_neg (by rw [n2_lt (by omega) (by omega)]; omega), if_neg (by rw [n2_lt (by omega) (by omega)]; omega), x7_isLockMode_y hz.1 hz.2, qbnd_s]
    dsimp only
    rw [if_neg (show ¬ n2 1 = n2 0 by decide +kernel), g1_2, qbnd_s, st_P1 hs, qbnd_s, q0, qbnd_s, hw]
  rw [head]
  by_cases e1 : s 85 o = 1
  · rw [if_pos (by rw [e1])]
    obtain ⟨I4, L4, o1, o2, o3⟩ := x3_oneW (c := c) (t := t) hW (bcx (n2 (freeS s o f m))).toInt64
    refine ⟨I4, L4, ?_, by rw [if_pos e1]; exact o2, o3⟩
    rw [if_pos e1]
    have key := lp_f0 (fun n k b => fX7_free_35 n 1 (n2 o) (n2 m) (n2 b) (n2 f) (n2 k) (mk I L c t)) 16 (by omega) (freeF s o f m) (fun b => qbnd (fX3_one 200 (bcx (n2 b)).toInt64 (mk I L c t)) fun r => some (n2 b, 0, r.2.2)) 0 (fun n k b hk => ?_) (fun n b => ?_)
    · refine key.trans ?_
      show (qbnd (fX3_one 200 (bcx (n2 (freeS s o f m))).toInt64 (mk I L c t)) fun r => some (n2 (freeS s o f m), 0, r.2.2)) = _
      rw [o1, qbnd_s]
    · have q3 : ¬ n2 16 ≤ n2 k := by rw [n2_le (by omega) (by omega)]; omega
      have b1 := x5_isCovered (L := L) (c := c) (t := t) hs hR hB hx (show f + k < 85 by omega) (show m ≤ 6 by omega)
      have b2 := x5_stopLevel (L := L) (c := c) (t := t) hs hR hB hx (show f + k < 85 by omega) (show m ≤ 6 by omega)
      have hsl := stopl_le1 s o (f + k) m
      have hlv := lev_le (f + k)
      show fX7_free_35 (n + 1) 1 (n2 o) (n2 m) (n2 b) (n2 f) (n2 k) (mk I L c t) = _
      rw [fX7_free_35]
      dsimp only
      rw [l_16, if_neg q3, g1_2, qbnd_s, n2_add, b1, qbnd_s]
      dsimp only
      rw [l_0, l_1, l_31, l_3]
      unfold freeF freeB
      rcases bcs (covd s o (f + k) m) with e2 | e2
      · rw [e2, if_pos no_zero, g1_2, qbnd_s, b2, qbnd_s]
        dsimp only
        by_cases e3 : stopl s o (f + k) m ≤ 3
        · rw [if_pos (by rw [n2_le (by omega) (by omega)]; exact e3), decide_eq_false (by omega), n2_add]
          rfl
        · rw [if_neg (by rw [n2_le (by omega) (by omega)]; exact e3), decide_eq_true (show 3 < stopl s o (f + k) m by omega)]
          simp (disch := first | assumption | omega) only [n2_31, n2_shl, n2_or, n2_add, Bool.or_true, if_true]
      · rw [e2, if_neg yes_zero]
        simp (disch := first | assumption | omega) only [n2_31, n2_shl, n2_or, n2_add, Bool.true_or, if_true]
    · have q4 : n2 16 ≤ n2 16 := by rw [n2_le (by omega) (by omega)]; exact Nat.le_refl _
      show fX7_free_35 (n + 1) 1 (n2 o) (n2 m) (n2 b) (n2 f) (n2 16) (mk I L c t) = _
      rw [fX7_free_35]
      dsimp only
      rw [l_16, if_pos q4, g1_7, qbnd_s]
      show (qbnd (some (bcx (n2 b), 0, mk I L c t)) fun r2 => qbnd (fX3_one 200 (r2.1).toInt64 r2.2.2) fun r3 => some (n2 b, 0, r3.2.2)) = _
      rw [qbnd_s]
  · refine ⟨I, L, ?_, by rw [if_neg e1]; exact hW, .rf I⟩
    rw [if_neg (by rw [n2_eq (by omega) (by omega)]; exact e1), if_neg e1]
end S7FR

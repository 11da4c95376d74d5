/-! PURE SIDE, THE CLASS: counts, owners, rows -/
section S7R
variable {I : Nat → Nat → Int32} {L : Nat → Nat → Int64} {c t N : Nat} {s : St} {h : List St} {kp : Nat → Option St} {tx : List Nat} {row : List Int64} {cs : List Nat} {μ : qM}
def countS (s : St) (h : List St) (tx : List Nat) (row : List Int64) (x : Int32) : Int32 :=
  if x = n2 0 then n2 (bits8 fun o => decide (s 85 o = 1)) else if x = n2 1 then n2 (bits8 fun o => decide (s 85 o = 2)) else if x = n2 2 then n2 (s 94 1) else if x = n2 3 then n2 (s 94 2) else if x = n2 4 then n2 (cnt8 fun o => decide (s 85 o = 2)) else if x = n2 5 then n2 (allhol s) else if x = n2 6 then n2 (allfal s) else if x = n2 7 then n2 h.length else if x = n2 8 then n2 row.length else if x = n2 9 then n2 tx.length else -n2 100
theorem x7_count [FB] (hW : W7 I L s h kp tx row cs) (hG : Gd N s) (hN : N < 900000000) (x : Int32) : fX7_count 1 x (mk I L c t) = some (countS s h tx row x, 0, mk I L c t) := by
  have hB := gd_bd hG (show N < 1000000000 by omega)
  have hR := hW.dw.1
  have hs : 3 ∈ stl := by decide
  have b1 := x5_standing (L := L) (c := c) (t := t) hs hR hB (show 1 ≤ 2 by omega)
  have b2 := x5_standing (L := L) (c := c) (t := t) hs hR hB (show 2 ≤ 2 by omega)
  have b3 : oGetI (mk I L c t) 5 3 11 = some (n2 (s 94 1)) := (st_I11 hs).trans (congrArg some hR.bg)
  have b4 : oGetI (mk I L c t) 5 3 12 = some (n2 (s 94 2)) := (st_I12 hs).trans (congrArg some hR.gf)
  have b5 := x5_allHoldings (L := L) (c := c) (t := t) hs hR hB
  have b6 := x5_allFalls (L := L) (c := c) (t := t) hs hR
  obtain ⟨f, z1, z2, z3, z4, z5⟩ := hW.hi
  have b8 := hW.ro.1.1
  have b9 := hW.te.1
  unfold fX7_count
  rw [if_pos (by rw [kk_1])]
  unfold gX7_count countS
  rw [l_0, l_1, l_2, l_3, l_4, l_5, l_6, l_7, l_8, l_9, l_100]
  by_cases e0 : x = n2 0
  · rw [if_pos e0, if_pos e0, g1_2, qbnd_s, b1, qbnd_s]
  rw [if_neg e0, if_neg e0]
  by_cases e1 : x = n2 1
  · rw [if_pos e1, if_pos e1, g1_2, qbnd_s, b2, qbnd_s]
  rw [if_neg e1, if_neg e1]
  by_cases e2 : x = n2 2
  · rw [if_pos e2, if_pos e2, g1_2, qbnd_s, b3, qbnd_s]
  rw [if_neg e2, if_neg e2]
  by_cases e3 : x = n2 3
  · rw [if_pos e3, if_pos e3, g1_2, qbnd_s, b4, qbnd_s]
  rw [if_neg e3, if_neg e3]
  by_cases e4 : x = n2 4
  · rw [if_pos e4, if_pos e4, g1_2, qbnd_s, b2, qbnd_s]
    dsimp only
    rw [j6_cnt, qbnd_s]
  rw [if_neg e4, if_neg e4]
  by_cases e5 : x = n2 5
  · rw [if_pos e5, if_pos e5, g1_2, qbnd_s, b5, qbnd_s]
  rw [if_neg e5, if_neg e5]
  by_cases e6 : x = n2 6
  · rw [if_pos e6, if_pos e6, g1_2, qbnd_s, b6, qbnd_s]
  rw [if_neg e6, if_neg e6]
  by_cases e7 : x = n2 7
  · rw [if_pos e7, if_pos e7, g1_3, qbnd_s, g40_2, qbnd_s, z4]
  rw [if_neg e7, if_neg e7]
  by_cases e8 : x = n2 8
  · rw [if_pos e8, if_pos e8, g1_7, qbnd_s, g200_1, qbnd_s, b8]
  rw [if_neg e8, if_neg e8]
  by_cases e9 : x = n2 9
  · rw [if_pos e9, if_pos e9, g1_6, qbnd_s, g198_1, qbnd_s, b9]
  rw [if_neg e9, if_neg e9]
theorem x7_row [FB] (hW : W7 I L s h kp tx row cs) (x : Int32) (hx : nIx x < row.length) : fX7_row 1 x (mk I L c t) = some (0, row.getD (nIx x) 0, mk I L c t) := by
  obtain ⟨r1, r2, r3⟩ := hW.ro.1
  have ex := nIx_eq (show nIx x < 2147483647 by omega)
  have e : ¬ x < n2 0 := by
    intro e
    rw [nIx_m e] at hx
    omega
  unfold fX7_row
  rw [if_pos (by rw [kk_1])]
  unfold gX7_row
  rw [l_0, if_neg e, g1_7, qbnd_s, g200_1, qbnd_s, r1]
  have e2 : x < n2 row.length := by
    rw [ex, n2_lt (nIx_lt x) (by omega)]
    exact hx
  have q := ld201 (I := I) (L := L) (c := c) (t := t) (show nIx x < 13 by omega)
  rw [← ex, r3 _ hx] at q
  rw [if_pos e2, qbnd_s, g200_0, qbnd_s, q, qbnd_s]
theorem x7_held [FB] (hW : W7 I L s h kp tx row cs) (x y : Int32) (hx : nIx x < 8) (hy : nIx y < 85) : fX7_held 1 x y (mk I L c t) = some (n2 (s (nIx y) (nIx x)), 0, mk I L c t) := by
  have ex := nIx_eq (show nIx x < 2147483647 by omega)
  have ey := nIx_eq (show nIx y < 2147483647 by omega)
  have b1 := x5_modeAt (L := L) (c := c) (t := t) (show 3 ∈ stl by decide) hW.dw.1 hx hy
  rw [← ex, ← ey] at b1
  unfold fX7_held
  rw [if_pos (by rw [kk_1])]
  unfold gX7_held
  rw [ow_nIx, decide_eq_true hx, qbnd_s]
  dsimp only
  rw [l_0, if_neg yes_zero, pl_nIx, decide_eq_true hy, qbnd_s]
  dsimp only
  rw [if_neg yes_zero, g1_2, qbnd_s, b1, qbnd_s]
def ownS (s : St) (cs : List Nat) (o k : Nat) : Int32 := if k = 0 then n2 (s 85 o) else if k = 1 then n2 (s 86 o) else if k = 2 then n2 (s 87 o) else if k = 3 then n2 (s 88 o) else if k = 4 then n2 (hol s o 0) else costS s cs o
theorem x7_owner [FB] (hW : W7 I L s h kp tx row cs) (hG : Gd N s) (hN : N < 900000000) (x y : Int32) (hx : nIx x < 8) (hy : nIx y < 6) : ∃ I', fX7_owner 1 x y (mk I L c t) = some (ownS s cs (nIx x) (nIx y), 0, mk I' L c t) ∧ W7 I' L s h kp tx row cs ∧ Fw I I' := by
  have ex := nIx_eq (show nIx x < 2147483647 by omega)
  have ey := nIx_eq (show nIx y < 2147483647 by omega)
  have hB := gd_bd hG (show N < 1000000000 by omega)
  have hR := hW.dw.1
  have hs : 3 ∈ stl := by decide
  obtain ⟨k, hk⟩ : ∃ k, nIx y = k := ⟨_, rfl⟩
  obtain ⟨o, ho⟩ : ∃ o, nIx x = o := ⟨_, rfl⟩
  rw [hk] at hy ey ⊢
  rw [ho] at hx ex ⊢
  have hdo : fX7_isOwner (n2 o) (mk I L c t) = some (n2 1, 0, mk I L c t) := x7_isOwner_y hx
  have c1 : ¬ n2 k < n2 0 := by rw [n2_nn (by omega)]; exact not_false
  have c2 : n2 k ≤ n2 5 := by rw [n2_le (by omega) (by omega)]; omega
  have q0 : oLdI 20 (mk I L c t) 5 (n2 o) = some (n2 (s 85 o)) := (st_L1 hs hx).trans (congrArg some (hR.st hx))
  have q1 : oLdI 20 (mk I L c t) 6 (n2 o) = some (n2 (s 86 o)) := (st_L2 hs hx).trans (congrArg some (hR.ag hx))
  have q2 : oLdI 20 (mk I L c t) 7 (n2 o) = some (n2 (s 87 o)) := (st_L3 hs hx).trans (congrArg some (hR.wk hx))
  have q3 : oLdI 20 (mk I L c t) 8 (n2 o) = some (n2 (s 88 o)) := (st_L4 hs hx).trans (congrArg some (hR.fl hx))
  have q4 := x5_holdings (L := L) (c := c) (t := t) hs hR hB hx (show 0 ≤ 6 by omega)
  obtain ⟨I2, a1, a2, a3⟩ := x0_costOf (L := L) (c := c) (t := t) (show 2 ∈ dkl by decide) (show 202 ∈ rul by decide) hW.dw hG hN hW.ru hx
  rw [ex, ey]
  unfold fX7_owner
  rw [if_pos (by rw [kk_1])]
  unfold gX7_owner ownS
  rw [hdo, qbnd_s]
  dsimp only
  rw [l_0, l_1, l_2, l_3, l_4, l_5, if_neg (show ¬ n2 1 = n2 0 by decide +kernel), if_neg c1, if_pos c2]
  by_cases e0 : k = 0
  · subst e0
    refine ⟨I, ?_, hW, .rf I⟩
    rw [if_pos rfl, if_pos rfl, g1_2, qbnd_s, st_P1 hs, qbnd_s, q0, qbnd_s]
  rw [if_neg (show ¬ n2 k = n2 0 by rw [n2_eq (by omega) (by omega)]; exact e0), if_neg e0]
  by_cases e1 : k = 1
  · subst e1
    refine ⟨I, ?_, hW, .rf I⟩
    rw [if_pos rfl, if_pos rfl, g1_2, qbnd_s, st_P2 hs, qbnd_s, q1, qbnd_s]
  rw [if_neg (show ¬ n2 k = n2 1 by rw [n2_eq (by omega) (by omega)]; exact e1), if_neg e1]
  by_cases e2 : k = 2
  · subst e2
    refine ⟨I, ?_, hW, .rf I⟩
    rw [if_pos rfl, if_pos rfl, g1_2, qbnd_s, st_P3 hs, qbnd_s, q2, qbnd_s]
  rw [if_neg (show ¬ n2 k = n2 2 by rw [n2_eq (by omega) (by omega)]; exact e2), if_neg e2]
  by_cases e3 : k = 3
  · subst e3
    refine ⟨I, ?_, hW, .rf I⟩
    rw [if_pos rfl, if_pos rfl, g1_2, qbnd_s, st_P4 hs, qbnd_s, q3, qbnd_s]
  rw [if_neg (show ¬ n2 k = n2 3 by rw [n2_eq (by omega) (by omega)]; exact e3), if_neg e3]
  by_cases e4 : k = 4
  · subst e4
    refine ⟨I, ?_, hW, .rf I⟩
    rw [if_pos rfl, if_pos rfl, g1_2, qbnd_s, q4, qbnd_s]
  rw [if_neg (show ¬ n2 k = n2 4 by rw [n2_eq (by omega) (by omega)]; exact e4), if_neg e4]
  refine ⟨I2, ?_, hW.desk a3 a2, a3.w (by decide)⟩
  rw [g1_0, qbnd_s, g1_8, qbnd_s, a1, qbnd_s]
end S7R

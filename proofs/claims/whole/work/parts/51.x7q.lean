/-! PURE SIDE, THE CLASS: its questions -/
section S7Q
variable {I : Nat → Nat → Int32} {L : Nat → Nat → Int64} {c t N : Nat} {s : St} {h : List St} {kp : Nat → Option St} {tx : List Nat} {row : List Int64} {cs : List Nat} {μ : qM}
theorem nIx_lt (x : Int32) : nIx x < 2147483648 := by
  rcases i32_cases x with e | ⟨k, hk, rfl⟩
  · rw [nIx_m e]; omega
  · rw [nIx_n hk]; exact hk
theorem nIx_eq {x : Int32} (h : nIx x < 2147483647) : x = n2 (nIx x) := by
  rcases i32_cases x with e | ⟨k, hk, rfl⟩
  · rw [nIx_m e] at h; omega
  · rw [nIx_n hk]
theorem ow_nIx (x : Int32) : fX7_isOwner x μ = some (n2 (bn (decide (nIx x < 8))), 0, μ) := by
  rcases i32_cases x with e | ⟨k, hk, rfl⟩
  · rw [nIx_m e, x7_isOwner_m e]; rfl
  · rw [nIx_n hk]
    by_cases e : k < 8
    · rw [x7_isOwner_y e, decide_eq_true e]; rfl
    · rw [x7_isOwner_n (by omega) hk, decide_eq_false e]; rfl
theorem pl_nIx (x : Int32) : fX7_isPlace x μ = some (n2 (bn (decide (nIx x < 85))), 0, μ) := by
  rcases i32_cases x with e | ⟨k, hk, rfl⟩
  · rw [nIx_m e, x7_isPlace_m e]; rfl
  · rw [nIx_n hk]
    by_cases e : k < 85
    · rw [x7_isPlace_y e, decide_eq_true e]; rfl
    · rw [x7_isPlace_n (by omega) hk, decide_eq_false e]; rfl
theorem lm_nIx (x : Int32) : fX7_isLockMode x μ = some (n2 (bn (decide (1 ≤ nIx x ∧ nIx x < 7))), 0, μ) := by
  rcases i32_cases x with e | ⟨k, hk, rfl⟩
  · rw [nIx_m e, x7_isLockMode_m e]; rfl
  · rw [nIx_n hk]
    by_cases e : 1 ≤ k ∧ k < 7
    · rw [x7_isLockMode_y e.1 e.2, decide_eq_true e]; rfl
    · rw [x7_isLockMode_n (by omega) hk, decide_eq_false e]; rfl
theorem no_zero : n2 (bn false) = n2 0 := rfl
theorem yes_zero : ¬ n2 (bn true) = n2 0 := by decide +kernel
theorem x7_behind [FB] (hW : W7 I L s h kp tx row cs) (hG : Gd N s) (hN : N < 900000000) (x : Int32) : ∃ I' L', fX7_behind 1 x (mk I L c t) = some (if nIx x < 8 then n2 (bits8 (wfr s (nIx x))) else -n2 1, 0, mk I' L' c t) ∧ W7 I' L' s h kp tx (if nIx x < 8 then [(n2 (cnt8 (wfr s (nIx x)))).toInt64] else row) cs ∧ Fw I I' := by
  by_cases e : nIx x < 8
  · have ex := nIx_eq (show nIx x < 2147483647 by omega)
    have b1 := x5_forWhom (L := L) (c := c) (t := t) (show 3 ∈ stl by decide) hW.dw.1 (gd_bd hG (by omega)) e
    rw [← ex] at b1
    obtain ⟨I4, L4, o1, o2, o3⟩ := x3_oneW (c := c) (t := t) hW (n2 (cnt8 (wfr s (nIx x)))).toInt64
    refine ⟨I4, L4, ?_, by rw [if_pos e]; exact o2, o3⟩
    rw [if_pos e]
    unfold fX7_behind
    rw [if_pos (by rw [kk_1])]
    unfold gX7_behind
    rw [ow_nIx, decide_eq_true e, qbnd_s]
    dsimp only
    rw [l_0, if_neg yes_zero, g1_2, qbnd_s, b1, qbnd_s]
    dsimp only
    rw [g1_7, qbnd_s, j6_cnt, qbnd_s]
    dsimp only
    rw [o1, qbnd_s]
  · refine ⟨I, L, ?_, by rw [if_neg e]; exact hW, .rf I⟩
    rw [if_neg e]
    unfold fX7_behind
    rw [if_pos (by rw [kk_1])]
    unfold gX7_behind
    rw [ow_nIx, decide_eq_false e, qbnd_s]
    dsimp only
    rw [l_0, if_pos no_zero, l_1]
theorem LW.fr {I' : Nat → Nat → Int32} {d lo hi : Nat} (hL : LW I d s) (hf : Fr I I' lo hi) (hd : d + 15 ≤ lo ∨ hi ≤ d + 13) : LW I' d s :=
  ⟨fun o ho => by rw [hf _ _ (by omega)]; exact hL.1 o ho, fun o ho => by rw [hf _ _ (by omega)]; exact hL.2 o ho⟩
theorem w7_read [FB] (hW : W7 I L s h kp tx row cs) (hG : Gd N s) (hN : N < 900000000) : ∃ I1, fX2_read 14 3 (mk I L c t) = some (n2 0, 0, mk I1 L c t) ∧ LW I1 2 s ∧ W7 I1 L s h kp tx row cs ∧ Fw I I1 := by
  obtain ⟨I1, r1, r2, r3⟩ := x2_read (L := L) (c := c) (t := t) (show 2 ∈ dkl by decide) hW.dw.1 (gd_bd hG (by omega))
  exact ⟨I1, r1, r2, hW.desk (r3.q (by omega) (by omega)) (hW.dw.l r3), r3.w (by omega)⟩
theorem x7_stops [FB] (hW : W7 I L s h kp tx row cs) (hG : Gd N s) (hN : N < 900000000) (x : Int32) : ∃ I' L', fX7_stops 1 x (mk I L c t) = some (if nIx x < 8 then n2 (bits8 fun j => rch s j (nIx x)) else -n2 1, 0, mk I' L' c t) ∧ W7 I' L' s h kp tx (if nIx x < 8 then [(n2 (wtr s (nIx x))).toInt64] else row) cs ∧ Fw I I' := by
  by_cases e : nIx x < 8
  · have ex := nIx_eq (show nIx x < 2147483647 by omega)
    obtain ⟨I1, r1, r2, r3, r4⟩ := w7_read (c := c) (t := t) hW hG hN
    have b1 := x2_waiters (L := L) (c := c) (t := t) (show 2 ∈ dkl by decide) r2 e
    obtain ⟨I4, L4, o1, o2, o5, o6⟩ := x3_one (I := I1) (L := L) (c := c) (t := t) (n2 (wtr s (nIx x))).toInt64
    have b2 := x2_reachers (L := L4) (c := c) (t := t) (show 2 ∈ dkl by decide) (r2.fr o5 (by omega)) e
    rw [← ex] at b1 b2
    refine ⟨I4, L4, ?_, by rw [if_pos e]; exact r3.rowed o5 o2 o6, r4.trans (o5.w (by omega))⟩
    rw [if_pos e]
    unfold fX7_stops
    rw [if_pos (by rw [kk_1])]
    unfold gX7_stops
    rw [ow_nIx, decide_eq_true e, qbnd_s]
    dsimp only
    rw [l_0, if_neg yes_zero, g1_0, qbnd_s, dk_P1 (by decide), qbnd_s, g1_2, qbnd_s, r1, qbnd_s]
    dsimp only
    rw [g1_7, qbnd_s, g1_0, qbnd_s, dk_P1 (by decide), qbnd_s, b1, qbnd_s]
    dsimp only
    rw [o1, qbnd_s]
    dsimp only
    rw [g1_0, qbnd_s, dk_P1 (by decide), qbnd_s, b2, qbnd_s]
  · refine ⟨I, L, ?_, by rw [if_neg e]; exact hW, .rf I⟩
    rw [if_neg e]
    unfold fX7_stops
    rw [if_pos (by rw [kk_1])]
    unfold gX7_stops
    rw [ow_nIx, decide_eq_false e, qbnd_s]
    dsimp only
    rw [l_0, if_pos no_zero, l_1]
theorem x7_rings [FB] (hW : W7 I L s h kp tx row cs) (hG : Gd N s) (hN : N < 900000000) : ∃ I' L', fX7_rings 1 (mk I L c t) = some (n2 (bits8 fun j => rch s j j), 0, mk I' L' c t) ∧ W7 I' L' s h kp tx [(n2 (cnt8 fun j => rch s j j)).toInt64] cs ∧ Fw I I' := by
  obtain ⟨I1, r1, r2, r3, r4⟩ := w7_read (c := c) (t := t) hW hG hN
  have b1 := x2_inRings (L := L) (c := c) (t := t) (show 2 ∈ dkl by decide) r2
  obtain ⟨I4, L4, o1, o2, o3⟩ := x3_oneW (c := c) (t := t) r3 (n2 (cnt8 fun j => rch s j j)).toInt64
  refine ⟨I4, L4, ?_, o2, r4.trans o3⟩
  unfold fX7_rings
  rw [if_pos (by rw [kk_1])]
  unfold gX7_rings
  rw [g1_0, qbnd_s, dk_P1 (by decide), qbnd_s, g1_2, qbnd_s, r1, qbnd_s]
  dsimp only
  rw [g1_0, qbnd_s, dk_P1 (by decide), qbnd_s, b1, qbnd_s]
  dsimp only
  rw [g1_7, qbnd_s, j6_cnt, qbnd_s]
  dsimp only
  rw [o1, qbnd_s]
theorem x7_victim [FB] (hW : W7 I L s h kp tx row cs) (hG : Gd N s) (hN : N < 900000000) : ∃ I' L', fX7_victim 1 (mk I L c t) = some (match cheapS s cs with
  | none => -n2 2
  | some z => n2 z.1, 0, mk I' L' c t) ∧ W7 I' L' s h kp tx (match cheapS s cs with
  | none => row
  | some z => [z.2.toInt64]) cs ∧ Fw I I' := by
  obtain ⟨I1, r1, r2, r3, -⟩ := x0_cheapest (L := L) (c := c) (t := t) (show 2 ∈ dkl by decide) (show 202 ∈ rul by decide) hW.dw hG hN hW.ru
  have w1 := hW.desk r3 r2
  cases hz : cheapS s cs with
  | none =>
    rw [hz] at r1
    have r1' : fX0_cheapest 2 202 (mk I L c t) = some (-n2 1, 0, mk I1 L c t) := r1
    refine ⟨I1, L, ?_, w1, r3.w (by decide)⟩
    unfold fX7_victim
    rw [if_pos (by rw [kk_1])]
    unfold gX7_victim
    rw [g1_0, qbnd_s, g1_8, qbnd_s, r1', qbnd_s]
    dsimp only
    rw [l_1, l_2, if_pos rfl]
  | some z =>
    obtain ⟨q1, q2, q3⟩ := cheapS_lt hz
    rw [hz] at r1
    have r1' : fX0_cheapest 2 202 (mk I L c t) = some (n2 z.1, 0, mk I1 L c t) := r1
    have hne : ¬ n2 z.1 = -n2 1 := by rw [n2_eqm (by omega)]; exact not_false
    obtain ⟨I2, a1, a2, a3⟩ := x0_costOf (L := L) (c := c) (t := t) (show 2 ∈ dkl by decide) (show 202 ∈ rul by decide) w1.dw hG hN w1.ru q1
    obtain ⟨I4, L4, o1, o2, o3⟩ := x3_oneW (c := c) (t := t) (w1.desk a3 a2) (costS s cs z.1).toInt64
    refine ⟨I4, L4, ?_, by dsimp only; rw [q3]; exact o2, ((r3.w (by decide)).trans (a3.w (by decide))).trans o3⟩
    unfold fX7_victim
    rw [if_pos (by rw [kk_1])]
    unfold gX7_victim
    rw [g1_0, qbnd_s, g1_8, qbnd_s, r1', qbnd_s]
    dsimp only
    rw [l_1, if_neg hne, g1_7, qbnd_s, g1_0, qbnd_s, g1_8, qbnd_s, a1, qbnd_s]
    dsimp only
    rw [o1, qbnd_s]
/-- what stands above a place, and what it comes to there -/
def covS (s : St) (o p : Nat) : Nat × Nat := if fab s o p 64 = 85 then (if fab s o p 56 = 85 then s p o else both (s p o) 3, fab s o p 56) else (6, fab s o p 64)
theorem x7_covers [FB] (hW : W7 I L s h kp tx row cs) (hG : Gd N s) (hN : N < 900000000) (x y : Int32) : ∃ I' L', fX7_covers 1 x y (mk I L c t) = some (if nIx x < 8 ∧ nIx y < 85 then n2 (covS s (nIx x) (nIx y)).1 else -n2 1, 0, mk I' L' c t) ∧ W7 I' L' s h kp tx (if nIx x < 8 ∧ nIx y < 85 then [(n2 (covS s (nIx x) (nIx y)).2).toInt64] else row) cs ∧ Fw I I' := by
  by_cases e : nIx x < 8
  · by_cases e2 : nIx y < 85
    · have ex := nIx_eq (show nIx x < 2147483647 by omega)
      have ey := nIx_eq (show nIx y < 2147483647 by omega)
      have hB := gd_bd hG (show N < 1000000000 by omega)
      have b1 := x5_modeAt (L := L) (c := c) (t := t) (show 3 ∈ stl by decide) hW.dw.1 e e2
      have b2 := x5_firstAbove (L := L) (c := c) (t := t) (show 3 ∈ stl by decide) hW.dw.1 hB e e2 (show 64 < 128 by omega)
      have b3 := x5_firstAbove (L := L) (c := c) (t := t) (show 3 ∈ stl by decide) hW.dw.1 hB e e2 (show 56 < 128 by omega)
      rw [← ex, ← ey] at b1 b2 b3
      have hm := hB.md e2 e
      have f1 := fab_lt s (o := nIx x) 64 e2
      have f2 := fab_lt s (o := nIx x) 56 e2
      obtain ⟨I4, L4, o1, o2, o3⟩ := x3_oneW (c := c) (t := t) hW (n2 (covS s (nIx x) (nIx y)).2).toInt64
      refine ⟨I4, L4, ?_, by rw [if_pos ⟨e, e2⟩]; exact o2, o3⟩
      rw [if_pos ⟨e, e2⟩]
      unfold fX7_covers
      rw [if_pos (by rw [kk_1])]
      unfold gX7_covers
      rw [ow_nIx, decide_eq_true e, qbnd_s]
      dsimp only
      rw [l_0, if_neg yes_zero, pl_nIx, decide_eq_true e2, qbnd_s]
      dsimp only
      rw [if_neg yes_zero, g1_2, qbnd_s, b1, qbnd_s]
      dsimp only
      rw [g1_2, qbnd_s, l_64, b2, qbnd_s]
      dsimp only
      unfold covS at o1 ⊢
      by_cases k1 : fab s (nIx x) (nIx y) 64 = 85
      · rw [if_pos k1] at o1 ⊢
        rw [l_85, if_pos (by rw [k1]), g1_2, qbnd_s, l_56, b3, qbnd_s]
        dsimp only at o1 ⊢
        rw [g1_7, qbnd_s, o1, qbnd_s]
        dsimp only
        by_cases k2 : fab s (nIx x) (nIx y) 56 = 85
        · rw [if_pos (by rw [k2]), if_pos k2]
        · rw [if_neg (by rw [n2_eq (by omega) (by omega)]; exact k2), if_neg k2, l_7, l_3, n2_mul, n2_add, tb2 hm (by omega), qbnd_s]
      · rw [if_neg k1] at o1 ⊢
        rw [l_85, if_neg (by rw [n2_eq (by omega) (by omega)]; exact k1), g1_7, qbnd_s]
        dsimp only at o1 ⊢
        rw [o1, qbnd_s, l_6]
    · refine ⟨I, L, ?_, by rw [if_neg (fun z => e2 z.2)]; exact hW, .rf I⟩
      rw [if_neg (fun z => e2 z.2)]
      unfold fX7_covers
      rw [if_pos (by rw [kk_1])]
      unfold gX7_covers
      rw [ow_nIx, decide_eq_true e, qbnd_s]
      dsimp only
      rw [l_0, if_neg yes_zero, pl_nIx, decide_eq_false e2, qbnd_s]
      dsimp only
      rw [if_pos no_zero, l_1]
  · refine ⟨I, L, ?_, by rw [if_neg (fun z => e z.1)]; exact hW, .rf I⟩
    rw [if_neg (fun z => e z.1)]
    unfold fX7_covers
    rw [if_pos (by rw [kk_1])]
    unfold gX7_covers
    rw [ow_nIx, decide_eq_false e, qbnd_s]
    dsimp only
    rw [l_0, if_pos no_zero, l_1]
end S7Q

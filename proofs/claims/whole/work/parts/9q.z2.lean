/-! THE LAW'S LOOP: the three calls that may throw -/
section Z2
variable {I I1 I' : Nat → Nat → Int32} {L L' : Nat → Nat → Int64} {c t N N' : Nat} {s s' : St} {h h' : List St} {kp kp' : Nat → Option St} {tx tx' : List Nat} {row row' : List Int64} {cs cs' : List Nat}
def Z7t (F7 F8 : qM → Option qR) (vf : qR → Int64) (I : Nat → Nat → Int32) (L : Nat → Nat → Int64) (c t N : Nat) : Prop := ∃ b v7 μ1 r8 I' L' c' t', F7 (mk I L c t) = some (b, v7, μ1) ∧ F8 μ1 = some r8 ∧ r8.2.2 = mk I' L' c' t' ∧ fX8_thrown 210 (mk I' L' c' t') = some (b, 0, mk I' L' c' t') ∧ (b = 0 → oLdL (mk I' L' c' t') 229 (0 : Int32) = some (vf r8)) ∧ c' ≤ c + 1 ∧ t' ≤ t + 6 ∧ Ws N I' L'
theorem th_ok {F7 F8 : qM → Option qR} {vf : qR → Int64} {x l8 : Int64} {a8 : Int32} (w : @W7 (Inhabited.mk L) I1 L s h kp tx row cs) (v : @W8 (Inhabited.mk L) I L s h kp tx row cs) (f : Fw I I1) (g : Gs N s h kp) (h7 : F7 (mk I L c t) = some (0, 0, mk I1 (upL L 229 0 x) c t))
    (h8 : ∀ [FB] (I1 : Nat → Nat → Int32) (L1 : Nat → Nat → Int64), W8 I1 L1 s h kp tx row cs → ∃ I', F8 (mk I1 L1 c t) = some (a8, l8, mk I' L1 c t) ∧ W8 I' L1 s h kp tx row cs ∧ Fy I1 I' ∧ I' 210 0 = n2 0) (hx : ∀ μ, vf (a8, l8, μ) = x) : Z7t F7 F8 vf I L c t N := by
  have v1 := w8_mv (L' := upL L 229 0 x) v f fun i => upL_ne (by omega)
  obtain ⟨I2, b1, b2, b3, b4⟩ := @h8 (Inhabited.mk (upL L 229 0 x)) I1 (upL L 229 0 x) v1
  refine ⟨0, 0, mk I1 (upL L 229 0 x) c t, _, I2, upL L 229 0 x, c, t, h7, b1, rfl, x8_thrown b4, fun _ => ?_, by omega, by omega, s, h, kp, tx, row, cs, w7_mv (L' := upL L 229 0 x) w b3 fun i => upL_ne (by omega), b2, g⟩
  rw [hx, l_0, ld229 (by omega), upL_eq]
theorem th_no {F7 F8 : qM → Option qR} {vf : qR → Int64} {l8 : Int64} {a8 : Int32} (w : @W7 (Inhabited.mk L) I L s h kp tx row cs) (v : @W8 (Inhabited.mk L) I L s h kp tx row cs) (g : Gs N s h kp) (h7 : F7 (mk I L c t) = some (1, 0, mk I L (c + 1) (t + 6)))
    (h8 : ∀ [FB] (I1 : Nat → Nat → Int32) (L1 : Nat → Nat → Int64), W8 I1 L1 s h kp tx row cs → ∃ I', F8 (mk I1 L1 (c + 1) (t + 6)) = some (a8, l8, mk I' L1 (c + 1) (t + 6)) ∧ W8 I' L1 s h kp tx row cs ∧ Fy I1 I' ∧ I' 210 0 = n2 1) : Z7t F7 F8 vf I L c t N := by
  obtain ⟨I2, b1, b2, b3, b4⟩ := @h8 (Inhabited.mk L) I L v
  refine ⟨1, 0, mk I L (c + 1) (t + 6), _, I2, L, c + 1, t + 6, h7, b1, rfl, x8_thrown b4, fun z => absurd z (by decide), by omega, by omega, s, h, kp, tx, row, cs, w7_mv (L' := L) w b3 fun i => rfl, b2, g⟩
theorem sp_owner (q : Ws N I L) (hN : N < 899000000) (x y : Int32) : Z7t (fun μ => lwf0 1 x y 229 μ) (fX8_owner 210 x y) (fun r => r.1.toInt64) I L c t N := by
  obtain ⟨s, h, kp, tx, row, cs, w, v, g⟩ := q
  have hN9 : N < 900000000 := by omega
  by_cases e : nIx x < 8 ∧ nIx y < 6
  · obtain ⟨I1, a1, a2, a3⟩ := @x7_owner I L c t N s h kp tx row cs (Inhabited.mk L) w g.1 hN9 x y e.1 e.2
    refine th_ok (a8 := ownS s cs (nIx x) (nIx y)) (l8 := 0) a2 v a3 g (x := (ownS s cs (nIx x) (nIx y)).toInt64) ?_ (fun J M v => ?_) fun μ => rfl
    · unfold lwf0 nwf0
      rw [a1, qbnd_s]
      dsimp only
      rw [l_0, sd229 (by omega), qbnd_s]
    · have z := y8_owner (c := c) (t := t) v g.1 hN9 x y
      rw [if_pos e, decide_eq_true e] at z
      exact z
  · refine th_no (a8 := n2 0) (l8 := 0) w v g ?_ (fun J M v => ?_)
    · have z1 : fX7_owner 1 x y (mk I L c t) = none ∧ tX7_owner 1 x y (mk I L c t) = some (1, 0, qthr (mk I L c t)) := by
        unfold fX7_owner tX7_owner
        rw [if_pos (by rw [kk_1]), if_pos (by rw [kk_1])]
        unfold gX7_owner
        rw [ow_nIx, qbnd_s, qbnd_s]
        dsimp only
        rw [l_0]
        by_cases e1 : nIx x < 8
        · rw [decide_eq_true e1, if_neg yes_zero, if_neg yes_zero]
          by_cases e2 : y < n2 0
          · rw [if_pos e2, if_pos e2]
            exact ⟨rfl, rfl⟩
          · rw [if_neg e2, if_neg e2]
            have e3 : ¬ y ≤ n2 5 := by
              intro z
              refine e ⟨e1, ?_⟩
              rcases i32_cases y with q | ⟨k, hk, rfl⟩
              · exact absurd q e2
              · rw [n2_le hk (by omega)] at z
                rw [nIx_n hk]
                omega
            rw [l_5, if_neg e3, if_neg e3]
            exact ⟨rfl, rfl⟩
        · rw [decide_eq_false e1, if_pos no_zero, if_pos no_zero]
          exact ⟨rfl, rfl⟩
      show lwf0 1 x y 229 (mk I L c t) = _
      unfold lwf0 nwf0
      rw [z1.1, z1.2]
      rfl
    · have z := y8_owner (c := c + 1) (t := t + 6) v g.1 hN9 x y
      rw [if_neg e, decide_eq_false e] at z
      exact z
theorem sp_held (q : Ws N I L) (x y : Int32) : Z7t (fun μ => lwf1 1 x y 229 μ) (fX8_held_ 210 x y) (fun r => r.1.toInt64) I L c t N := by
  obtain ⟨s, h, kp, tx, row, cs, w, v, g⟩ := q
  by_cases e : nIx x < 8 ∧ nIx y < 85
  · have a1 := @x7_held I L c t s h kp tx row cs (Inhabited.mk L) w x y e.1 e.2
    refine th_ok (a8 := n2 (s (nIx y) (nIx x))) (l8 := 0) w v (Fw.rfl I) g (x := (n2 (s (nIx y) (nIx x))).toInt64) ?_ (fun J M v => ?_) fun μ => rfl
    · unfold lwf1 nwf1
      rw [a1, qbnd_s]
      dsimp only
      rw [l_0, sd229 (by omega), qbnd_s]
    · have z := y8_held (c := c) (t := t) v x y
      rw [if_pos e, decide_eq_true e] at z
      exact z
  · refine th_no (a8 := n2 0) (l8 := 0) w v g ?_ (fun J M v => ?_)
    · have z1 : fX7_held 1 x y (mk I L c t) = none ∧ tX7_held 1 x y (mk I L c t) = some (1, 0, qthr (mk I L c t)) := by
        unfold fX7_held tX7_held
        rw [if_pos (by rw [kk_1]), if_pos (by rw [kk_1])]
        unfold gX7_held
        rw [ow_nIx, qbnd_s, qbnd_s]
        dsimp only
        rw [l_0]
        by_cases e1 : nIx x < 8
        · rw [decide_eq_true e1, if_neg yes_zero, if_neg yes_zero, pl_nIx, qbnd_s, qbnd_s]
          dsimp only
          rw [decide_eq_false (fun z => e ⟨e1, z⟩), if_pos no_zero, if_pos no_zero]
          exact ⟨rfl, rfl⟩
        · rw [decide_eq_false e1, if_pos no_zero, if_pos no_zero]
          exact ⟨rfl, rfl⟩
      show lwf1 1 x y 229 (mk I L c t) = _
      unfold lwf1 nwf1
      rw [z1.1, z1.2]
      rfl
    · have z := y8_held (c := c + 1) (t := t + 6) v x y
      rw [if_neg e, decide_eq_false e] at z
      exact z
theorem sp_row (q : Ws N I L) (x : Int32) : Z7t (fun μ => lwf2 1 x 229 μ) (fX8_row 210 x) (fun r => r.2.1) I L c t N := by
  obtain ⟨s, h, kp, tx, row, cs, w, v, g⟩ := q
  by_cases e : nIx x < row.length
  · have a1 := @x7_row I L c t s h kp tx row cs (Inhabited.mk L) w x e
    refine th_ok (a8 := 0) (l8 := row.getD (nIx x) 0) w v (Fw.rfl I) g (x := row.getD (nIx x) 0) ?_ (fun J M v => ?_) fun μ => rfl
    · unfold lwf2 nwf2
      rw [a1, qbnd_s]
      dsimp only
      rw [l_0, sd229 (by omega), qbnd_s]
    · have z := y8_row (c := c) (t := t) v x
      rw [if_pos e, decide_eq_true e] at z
      exact z
  · refine th_no (a8 := 0) (l8 := 0) w v g ?_ (fun J M v => ?_)
    · have z1 : fX7_row 1 x (mk I L c t) = none ∧ tX7_row 1 x (mk I L c t) = some (1, 0, qthr (mk I L c t)) := by
        unfold fX7_row tX7_row
        rw [if_pos (by rw [kk_1]), if_pos (by rw [kk_1])]
        unfold gX7_row
        rw [l_0]
        by_cases e2 : x < n2 0
        · rw [if_pos e2, if_pos e2]
          exact ⟨rfl, rfl⟩
        · rw [if_neg e2, if_neg e2, g1_7, qbnd_s]
          obtain ⟨r1, r2, r3⟩ := w.2.2.2.2.2.1.1
          have e3 : ¬ x < n2 row.length := by
            intro z
            rcases i32_cases x with q | ⟨k, hk, rfl⟩
            · exact e2 q
            · rw [n2_lt hk (by omega)] at z
              rw [nIx_n hk] at e
              exact e z
          rw [g200_1, qbnd_s, r1, if_neg e3, qbnd_s, g200_1, qbnd_s, r1, if_neg e3]
          exact ⟨rfl, rfl⟩
      show lwf2 1 x 229 (mk I L c t) = _
      unfold lwf2 nwf2
      rw [z1.1, z1.2]
      rfl
    · have z := y8_row (c := c + 1) (t := t + 6) v x
      rw [if_neg e, decide_eq_false e] at z
      exact z
end Z2

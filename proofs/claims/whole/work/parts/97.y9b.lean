/-! PURE SIDE, THE REFERENCE: single numbers, modes, signs -/
section S9B
variable {I I' : Nat → Nat → Int32} {L : Nat → Nat → Int64} {c t r N T n : Nat} {s s' s0 : St} {μ : qM} {h : List St} {kp : Nat → Option St} {tx : List Nat} {row : List Int64} {cs : List Nat}
/-- one number more -/
theorem x8_more [FB] (w : W8 I L s h kp tx row cs) (hl : row.length < 24) (v : Int64) : ∃ I' L', fX8_enters 210 v (mk I L c t) = some (n2 0, 0, mk I' L' c t) ∧ W8 I' L' s h kp tx (row ++ [v]) cs ∧ Fy I I' ∧ (∀ b i, ¬ (b = 210 ∧ i = 1) → I' b i = I b i) := by
  obtain ⟨I4, L4, o1, o2, o3⟩ := x8_enters (c := c) (t := t) w hl v
  exact ⟨I4, L4, o1, o2, ent_v o3, o3⟩
theorem x8_two [FB] (w : W8 I L s h kp tx row cs) (v u : Int64) : ∃ I1 L1 I' L', fX8_enters 210 v (mk (upI I 210 1 (n2 0)) L c t) = some (n2 0, 0, mk I1 L1 c t) ∧ fX8_enters 210 u (mk I1 L1 c t) = some (n2 0, 0, mk I' L' c t) ∧ W8 I1 L1 s h kp tx [v] cs ∧ W8 I' L' s h kp tx [v, u] cs ∧ Fy I I' ∧ (∀ b i, ¬ (b = 210 ∧ i = 1) → I1 b i = I b i) ∧ (∀ b i, ¬ (b = 210 ∧ i = 1) → I' b i = I b i) := by
  obtain ⟨I1, L1, o1, o2, o3, o4⟩ := x8_one (c := c) (t := t) w v
  obtain ⟨I2, L2, p1, p2, p3, p4⟩ := x8_more (c := c) (t := t) o2 (by show 1 < 24; omega) u
  exact ⟨I1, L1, I2, L2, o1, p1, o2, p2, o3.trans p3, o4, fun b i hb => (p4 b i hb).trans (o4 b i hb)⟩
theorem y8_modes [FB] (w : W8 I L s h kp tx row cs) (x y : Int32) : ∃ I' L', fX8_modes 210 x y (mk I L c t) = some (if nIx x < 7 ∧ nIx y < 7 then n2 (bn (tog (nIx x) (nIx y))) else -n2 1, 0, mk I' L' c t) ∧ W8 I' L' s h kp tx (if nIx x < 7 ∧ nIx y < 7 then [(n2 (both (nIx x) (nIx y))).toInt64, (n2 (bn (stg (nIx x) (nIx y)))).toInt64] else row) cs ∧ Fy I I' := by
  have w1 := w.sc (thr0 (I := I))
  unfold fX8_modes
  rw [if_pos (by rw [kk_210])]
  unfold gX8_modes
  rw [l_0, u210_0, qbnd_s, x8_in x (lo := 0) (hi := 6) (a := 0) (b := 6) (by omega) (by omega) rfl rfl, qbnd_s]
  dsimp only
  by_cases e : nIx x < 7
  · rw [decide_eq_true (show 0 ≤ nIx x ∧ nIx x ≤ 6 by omega), if_neg yes_zero, x8_in y (lo := 0) (hi := 6) (a := 0) (b := 6) (by omega) (by omega) rfl rfl, qbnd_s]
    dsimp only
    by_cases e1 : nIx y < 7
    · obtain ⟨a, ha, rfl⟩ := nIx_ex (by omega) e
      obtain ⟨b, hb, rfl⟩ := nIx_ex (x := y) (by omega) e1
      rw [nIx_n (show a < 2147483648 by omega)] at e ⊢
      rw [nIx_n (show b < 2147483648 by omega)] at e1 ⊢
      have hs1 := sgL_lt a (by omega)
      have hA : ∀ {μ : qM}, fX8_has (n2 (sgL.getD a 0)) (n2 b) μ = some (n2 (bn (stg a b)), 0, μ) := x8_has (by omega) (by omega)
      obtain ⟨I1, L1, I2, L2, o1, p1, o2, p2, p3, o4, p4⟩ := x8_two (c := c) (t := t) w1 (n2 (both a b)).toInt64 (n2 (bn (stg a b))).toInt64
      refine ⟨I2, L2, ?_, by rw [if_pos ⟨e, e1⟩]; exact p2, thr0.v.trans p3⟩
      rw [if_pos (show a < 7 ∧ b < 7 from ⟨e, e1⟩), decide_eq_true (show 0 ≤ b ∧ b ≤ 6 by omega), if_neg yes_zero, u210_1, qbnd_s, x8_both (by omega) (by omega), qbnd_s]
      dsimp only
      rw [o1, qbnd_s]
      dsimp only
      rw [tb4 (by omega), qbnd_s, hA, qbnd_s]
      dsimp only
      rw [x8_flag, qbnd_s]
      dsimp only
      rw [p1, qbnd_s]
      dsimp only
      rw [x8_together (by omega) (by omega), qbnd_s]
      dsimp only
      rw [x8_flag, qbnd_s]
    · refine ⟨_, L, ?_, by rw [if_neg (fun z => e1 z.2)]; exact w1, thr0.v⟩
      rw [decide_eq_false (show ¬ (0 ≤ nIx y ∧ nIx y ≤ 6) by omega), if_pos no_zero, if_neg (fun z => e1 z.2), l_1]
  · refine ⟨_, L, ?_, by rw [if_neg (fun z => e z.1)]; exact w1, thr0.v⟩
    rw [decide_eq_false (show ¬ (0 ≤ nIx x ∧ nIx x ≤ 6) by omega), if_pos no_zero, if_neg (fun z => e z.1), l_1]
theorem y8_victim [FB] (w : W8 I L s h kp tx row cs) (hG : Gd N s) (hN : N < 900000000) : ∃ I' L', fX8_victim 210 (mk I L c t) = some (match cheapS s cs with
  | none => -n2 2
  | some z => n2 z.1, 0, mk I' L' c t) ∧ W8 I' L' s h kp tx (match cheapS s cs with
  | none => row
  | some z => [z.2.toInt64]) cs ∧ Fy I I' := by
  have w1 := w.sc (thr0 (I := I))
  have hB := gd_bd hG (by omega)
  obtain ⟨J, q1, q2⟩ := x8_cheapest (L := L) (c := c) (t := t) (.inl rfl) w1.nw hB w1.cd
  have fs : Fs (upI I 210 0 (n2 0)) J := fun b i a1 a2 a3 a4 a5 a6 a7 a8 a9 b1 b2 b3 => q2 b i a2 a3
  have w2 := w1.sc fs
  unfold fX8_victim
  rw [if_pos (by rw [kk_210])]
  unfold gX8_victim
  rw [l_0, u210_0, qbnd_s, g210_14, qbnd_s, q1, qbnd_s]
  dsimp only
  cases hc : cheapS s cs with
  | none =>
    refine ⟨J, L, ?_, w2, thr0.v.trans fs.v⟩
    rw [if_neg (show ¬ n2 0 ≤ oi (Option.map (fun x => x.1) (none : Option (Nat × Int32))) by decide), l_2]
  | some z =>
    obtain ⟨y1, y2, y3⟩ := cheapS_lt hc
    have w3 := w2.t0
    obtain ⟨K, k1, k2⟩ := x8_cost (L := L) (c := c) (t := t) (.inl rfl) w3.nw hB w3.cd y1
    rw [← y3] at k1
    have fs2 : Fs (upI J 210 1 (n2 0)) K := fun b i a1 a2 a3 a4 a5 a6 a7 a8 a9 b1 b2 b3 => k2 b i a2 a3
    have w4 := w3.sc fs2
    obtain ⟨I4, L4, o1, o2, o3, -⟩ := x8_more (c := c) (t := t) w4 (by decide) z.2.toInt64
    refine ⟨I4, L4, ?_, o2, ((thr0.v.trans fs.v).trans ((Fy.up (by omega)).trans fs2.v)).trans o3⟩
    have oy : oi (Option.map (fun x => x.1) (some z)) = n2 z.1 := rfl
    rw [oy, if_pos (by rw [n2_le (by omega) (by omega)]; omega), u210_1, qbnd_s, g210_14, qbnd_s, k1, qbnd_s]
    dsimp only
    rw [o1, qbnd_s]
theorem y8_owner [FB] (w : W8 I L s h kp tx row cs) (hG : Gd N s) (hN : N < 900000000) (x y : Int32) : ∃ I', fX8_owner 210 x y (mk I L c t) = some (if nIx x < 8 ∧ nIx y < 6 then ownS s cs (nIx x) (nIx y) else n2 0, 0, mk I' L c t) ∧ W8 I' L s h kp tx row cs ∧ Fy I I' ∧ I' 210 0 = n2 (bn !decide (nIx x < 8 ∧ nIx y < 6)) := by
  have w1 := w.sc (thr0 (I := I))
  have hB := gd_bd hG (by omega)
  have f1 : Fs (upI I 210 0 (n2 0)) (upI (upI I 210 0 (n2 0)) 210 0 (n2 1)) := Fs.up2 (by omega)
  have ref : ∀ (J : Nat → Nat → Int32), fX8_refuse 210 (mk J L c t) = some (n2 0, 0, mk (upI J 210 0 (n2 1)) L c t) := fun J => by
    unfold fX8_refuse
    rw [if_pos (by rw [kk_210])]
    unfold gX8_refuse
    rw [l_0, l_1, u210_0, qbnd_s]
  have k0 : (upI I 210 0 (n2 0)) 210 0 = n2 0 := upI_eq
  by_cases e : nIx x < 8
  · by_cases e1 : nIx y < 6
    · obtain ⟨o, ho, rfl⟩ := nIx_ex (by omega) e
      obtain ⟨k, hk, rfl⟩ := nIx_ex (x := y) (by omega) e1
      rw [nIx_n (show o < 2147483648 by omega)] at e ⊢
      rw [nIx_n (show k < 2147483648 by omega)] at e1 ⊢
      obtain ⟨q85, q86, q87, q88, -⟩ := w1.nw.2.1 o ho
      have hh := x8_heldMany (L := L) (c := c) (t := t) (.inl rfl) w1.nw hB ho
      obtain ⟨K, k1, k2⟩ := x8_cost (L := L) (c := c) (t := t) (.inl rfl) w1.nw hB w1.cd ho
      have ne : ∀ a, a < 6 → k ≠ a → ¬ n2 k = n2 a := fun a ha hh => by rw [n2_eq (by omega) (by omega)]; exact hh
      have head : fX8_owner 210 (n2 o) (n2 k) (mk I L c t) = if k = 0 then some (n2 (s 85 o), 0, mk (upI I 210 0 (n2 0)) L c t) else if k = 1 then some (n2 (s 86 o), 0, mk (upI I 210 0 (n2 0)) L c t) else if k = 2 then some (n2 (s 87 o), 0, mk (upI I 210 0 (n2 0)) L c t) else if k = 3 then some (n2 (s 88 o), 0, mk (upI I 210 0 (n2 0)) L c t) else if k = 4 then some (n2 (hol s o 0), 0, mk (upI I 210 0 (n2 0)) L c t) else some (costS s cs o, 0, mk K L c t) := by
        unfold fX8_owner
        rw [if_pos (by rw [kk_210])]
        unfold gX8_owner
        rw [l_0, u210_0, qbnd_s, ow8, qbnd_s]
        dsimp only
        rw [nIx_n (by omega), decide_eq_true e, if_neg yes_zero, x8_in (n2 k) (lo := 0) (hi := 5) (a := 0) (b := 5) (by omega) (by omega) rfl rfl, qbnd_s]
        dsimp only
        rw [nIx_n (by omega), decide_eq_true (show 0 ≤ k ∧ k ≤ 5 by omega), if_neg yes_zero, g210_14, l_680, l_688, l_696, l_704, n2_add 680, n2_add 688, n2_add 696, n2_add 704]
        rw [qbnd_s, qbnd_s, qbnd_s, qbnd_s, qbnd_s, qbnd_s]
        rw [r8L (.inl rfl) (by omega) q85, r8L (.inl rfl) (by omega) q86, r8L (.inl rfl) (by omega) q87, r8L (.inl rfl) (by omega) q88, qbnd_s, qbnd_s, qbnd_s, qbnd_s, hh, qbnd_s, k1, qbnd_s, l_1, l_2, l_3, l_4]
        by_cases z0 : k = 0
        · rw [if_pos (by rw [z0]), if_pos z0]
        rw [if_neg (ne 0 (by omega) z0), if_neg z0]
        by_cases z1 : k = 1
        · rw [if_pos (by rw [z1]), if_pos z1]
        rw [if_neg (ne 1 (by omega) z1), if_neg z1]
        by_cases z2 : k = 2
        · rw [if_pos (by rw [z2]), if_pos z2]
        rw [if_neg (ne 2 (by omega) z2), if_neg z2]
        by_cases z3 : k = 3
        · rw [if_pos (by rw [z3]), if_pos z3]
        rw [if_neg (ne 3 (by omega) z3), if_neg z3]
        by_cases z4 : k = 4
        · rw [if_pos (by rw [z4]), if_pos z4]
        rw [if_neg (ne 4 (by omega) z4), if_neg z4]
      have hz : n2 (bn !decide (o < 8 ∧ k < 6)) = n2 0 := by rw [decide_eq_true ⟨e, e1⟩]; rfl
      rw [head, if_pos (show o < 8 ∧ k < 6 from ⟨e, e1⟩), hz]
      unfold ownS
      by_cases z0 : k = 0
      · rw [if_pos z0, if_pos z0]; exact ⟨_, rfl, w1, thr0.v, k0⟩
      rw [if_neg z0, if_neg z0]
      by_cases z1 : k = 1
      · rw [if_pos z1, if_pos z1]; exact ⟨_, rfl, w1, thr0.v, k0⟩
      rw [if_neg z1, if_neg z1]
      by_cases z2 : k = 2
      · rw [if_pos z2, if_pos z2]; exact ⟨_, rfl, w1, thr0.v, k0⟩
      rw [if_neg z2, if_neg z2]
      by_cases z3 : k = 3
      · rw [if_pos z3, if_pos z3]; exact ⟨_, rfl, w1, thr0.v, k0⟩
      rw [if_neg z3, if_neg z3]
      by_cases z4 : k = 4
      · rw [if_pos z4, if_pos z4]; exact ⟨_, rfl, w1, thr0.v, k0⟩
      rw [if_neg z4, if_neg z4]
      have fs2 : Fs (upI I 210 0 (n2 0)) K := fun b i a1 a2 a3 a4 a5 a6 a7 a8 a9 b1 b2 b3 => k2 b i a2 a3
      exact ⟨K, rfl, w1.sc fs2, thr0.v.trans fs2.v, (k2 _ _ (by omega) (by omega)).trans k0⟩
    · refine ⟨upI (upI I 210 0 (n2 0)) 210 0 (n2 1), ?_, w1.sc f1, thr0.v.trans f1.v, ?_⟩
      · unfold fX8_owner
        rw [if_pos (by rw [kk_210])]
        unfold gX8_owner
        rw [l_0, u210_0, qbnd_s, ow8, qbnd_s]
        dsimp only
        rw [decide_eq_true e, if_neg yes_zero, x8_in y (lo := 0) (hi := 5) (a := 0) (b := 5) (by omega) (by omega) rfl rfl, qbnd_s]
        dsimp only
        rw [decide_eq_false (show ¬ (0 ≤ nIx y ∧ nIx y ≤ 5) by omega), if_pos no_zero, ref, qbnd_s, if_neg (fun z => e1 z.2)]
      · rw [upI_eq, decide_eq_false (fun z => e1 z.2)]; rfl
  · refine ⟨upI (upI I 210 0 (n2 0)) 210 0 (n2 1), ?_, w1.sc f1, thr0.v.trans f1.v, ?_⟩
    · unfold fX8_owner
      rw [if_pos (by rw [kk_210])]
      unfold gX8_owner
      rw [l_0, u210_0, qbnd_s, ow8, qbnd_s]
      dsimp only
      rw [decide_eq_false e, if_pos no_zero, ref, qbnd_s, if_neg (fun z => e z.1)]
    · rw [upI_eq, decide_eq_false (fun z => e z.1)]; rfl
theorem y8_held [FB] (w : W8 I L s h kp tx row cs) (x y : Int32) : ∃ I', fX8_held_ 210 x y (mk I L c t) = some (if nIx x < 8 ∧ nIx y < 85 then n2 (s (nIx y) (nIx x)) else n2 0, 0, mk I' L c t) ∧ W8 I' L s h kp tx row cs ∧ Fy I I' ∧ I' 210 0 = n2 (bn !decide (nIx x < 8 ∧ nIx y < 85)) := by
  have w1 := w.sc (thr0 (I := I))
  have f1 : Fs (upI I 210 0 (n2 0)) (upI (upI I 210 0 (n2 0)) 210 0 (n2 1)) := Fs.up2 (by omega)
  have ref : ∀ (J : Nat → Nat → Int32), fX8_refuse 210 (mk J L c t) = some (n2 0, 0, mk (upI J 210 0 (n2 1)) L c t) := fun J => by
    unfold fX8_refuse
    rw [if_pos (by rw [kk_210])]
    unfold gX8_refuse
    rw [l_0, l_1, u210_0, qbnd_s]
  unfold fX8_held_
  rw [if_pos (by rw [kk_210])]
  unfold gX8_held_
  rw [l_0, u210_0, qbnd_s, ow8, qbnd_s]
  dsimp only
  by_cases e : nIx x < 8
  · rw [decide_eq_true e, if_neg yes_zero, pl8, qbnd_s]
    dsimp only
    by_cases e1 : nIx y < 85
    · obtain ⟨o, ho, rfl⟩ := nIx_ex (by omega) e
      obtain ⟨p, hp, rfl⟩ := nIx_ex (x := y) (by omega) e1
      rw [nIx_n (show o < 2147483648 by omega)] at e ⊢
      rw [nIx_n (show p < 2147483648 by omega)] at e1 ⊢
      refine ⟨_, ?_, w1, thr0.v, ?_⟩
      · rw [decide_eq_true e1, if_neg yes_zero, g210_14, qbnd_s, x8_held (.inl rfl) w1.nw ho hp, qbnd_s, if_pos (show o < 8 ∧ p < 85 from ⟨e, e1⟩)]
      · rw [upI_eq, decide_eq_true ⟨e, e1⟩]; rfl
    · refine ⟨upI (upI I 210 0 (n2 0)) 210 0 (n2 1), ?_, w1.sc f1, thr0.v.trans f1.v, ?_⟩
      · rw [decide_eq_false e1, if_pos no_zero, ref, qbnd_s, if_neg (fun z => e1 z.2)]
      · rw [upI_eq, decide_eq_false (fun z => e1 z.2)]; rfl
  · refine ⟨upI (upI I 210 0 (n2 0)) 210 0 (n2 1), ?_, w1.sc f1, thr0.v.trans f1.v, ?_⟩
    · rw [decide_eq_false e, if_pos no_zero, ref, qbnd_s, if_neg (fun z => e z.1)]
    · rw [upI_eq, decide_eq_false (fun z => e z.1)]; rfl
theorem y8_row [FB] (w : W8 I L s h kp tx row cs) (x : Int32) : ∃ I', fX8_row 210 x (mk I L c t) = some (0, if nIx x < row.length then row.getD (nIx x) 0 else 0, mk I' L c t) ∧ W8 I' L s h kp tx row cs ∧ Fy I I' ∧ I' 210 0 = n2 (bn !decide (nIx x < row.length)) := by
  have w1 := w.sc (thr0 (I := I))
  obtain ⟨r1, r2, r3, -⟩ := w1.ro
  have f1 : Fs (upI I 210 0 (n2 0)) (upI (upI I 210 0 (n2 0)) 210 0 (n2 1)) := Fs.up2 (by omega)
  have hin : ∀ {μ : qM}, fX8_in x.toInt64 0 ((n2 row.length - n2 1)).toInt64 μ = some (n2 (bn (decide (nIx x < row.length))), 0, μ) := by
    intro μ
    by_cases hz : row.length = 0
    · rw [hz, decide_eq_false (by omega)]
      have e0 : ((0 : Int64)) = (n2 0).toInt64 := rfl
      have e1 : (n2 0 - n2 1) = -n2 1 := by decide
      unfold fX8_in
      rcases i32_cases x with e | ⟨k, hk, rfl⟩
      · rw [if_pos (show lg_cmp x.toInt64 0 < 0 by rw [e0, lg_i]; exact e), l_0, if_pos no_qz]
        rfl
      · have e2 : -n2 1 < n2 k := by
          have h1 : -n2 1 < n2 0 := by decide
          have h2 : n2 0 ≤ n2 k := by rw [n2_le (by omega) (by omega)]; omega
          exact Int32.lt_of_lt_of_le h1 h2
        rw [if_neg (show ¬ lg_cmp (n2 k).toInt64 0 < 0 by rw [e0, lg_i, n2_nn hk]; exact not_false), if_pos (show 0 < lg_cmp (n2 k).toInt64 (n2 0 - n2 1).toInt64 by rw [e1, lg_g]; exact e2), l_0, if_pos no_qz]
        rfl
    · rw [n2_sub (by omega), x8_in x (lo := 0) (hi := row.length - 1) (a := 0) (by omega) (by omega) rfl rfl]
      congr 3
      by_cases f : nIx x < row.length
      · rw [decide_eq_true f, decide_eq_true (by omega)]
      · rw [decide_eq_false f, decide_eq_false (by omega)]
  unfold fX8_row
  rw [if_pos (by rw [kk_210])]
  unfold gX8_row
  rw [l_0, u210_0, qbnd_s, g210_1, qbnd_s, r1, l_1, hin, qbnd_s]
  dsimp only
  by_cases e : nIx x < row.length
  · obtain ⟨k, hk, rfl⟩ := nIx_ex (by omega) e
    rw [nIx_n (by omega)] at e ⊢
    refine ⟨_, ?_, w1, thr0.v, ?_⟩
    · rw [decide_eq_true e, if_neg yes_zero, g210_2, qbnd_s, ld211 (by omega), qbnd_s, r3 k e, if_pos e]
    · rw [upI_eq, decide_eq_true e]; rfl
  · refine ⟨upI (upI I 210 0 (n2 0)) 210 0 (n2 1), ?_, w1.sc f1, thr0.v.trans f1.v, ?_⟩
    · rw [decide_eq_false e, if_pos no_zero, u210_0, qbnd_s, if_neg e]
    · rw [upI_eq, decide_eq_false e]; rfl
theorem x8_thrown {v : Int32} (hv : I 210 0 = v) : fX8_thrown 210 (mk I L c t) = some (v, 0, mk I L c t) := by
  unfold fX8_thrown
  rw [if_pos (by rw [kk_210])]
  unfold gX8_thrown
  rw [g210_0, qbnd_s, hv]
end S9B

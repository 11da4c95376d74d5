/-! PURE SIDE, THE REFERENCE: the calls that ask -/
theorem both_z : ∀ b, b < 7 → both b 0 = b := by decide +kernel
section S9A
variable {I I' : Nat → Nat → Int32} {L : Nat → Nat → Int64} {c t r N T n : Nat} {s s' s0 : St} {μ : qM} {h : List St} {kp : Nat → Option St} {tx : List Nat} {row : List Int64} {cs : List Nat}
/-- one number told -/
theorem x8_one [FB] (w : W8 I L s h kp tx row cs) (v : Int64) : ∃ I' L', fX8_enters 210 v (mk (upI I 210 1 (n2 0)) L c t) = some (n2 0, 0, mk I' L' c t) ∧ W8 I' L' s h kp tx [v] cs ∧ Fy I I' ∧ (∀ b i, ¬ (b = 210 ∧ i = 1) → I' b i = I b i) := by
  obtain ⟨I4, L4, o1, o2, o3⟩ := x8_enters (c := c) (t := t) w.t0 (by decide) v
  refine ⟨I4, L4, o1, o2, (Fy.up (by omega)).trans (ent_v o3), fun b i hb => ?_⟩
  rw [o3 b i hb]
  by_cases e : b = 210
  · rw [e]; exact upI_ni (fun z => hb ⟨e, z⟩)
  · exact upI_ne e
theorem y8_behind [FB] (w : W8 I L s h kp tx row cs) (hG : Gd N s) (hN : N < 900000000) (x : Int32) : ∃ I' L', fX8_behind 210 x (mk I L c t) = some (if nIx x < 8 then n2 (bits8 (wfr s (nIx x))) else -n2 1, 0, mk I' L' c t) ∧ W8 I' L' s h kp tx (if nIx x < 8 then [(n2 (cnt8 (wfr s (nIx x)))).toInt64] else row) cs ∧ Fy I I' := by
  have w1 := w.sc (thr0 (I := I))
  unfold fX8_behind
  rw [if_pos (by rw [kk_210])]
  unfold gX8_behind
  rw [l_0, u210_0, qbnd_s, ow8, qbnd_s]
  dsimp only
  by_cases e : nIx x < 8
  · obtain ⟨o, ho, rfl⟩ := nIx_ex (by omega) e
    rw [nIx_n (by omega)]
    have b1 := x8_behindOf (L := L) (c := c) (t := t) (.inl rfl) w1.nw (gd_bd hG (by omega)) ho
    obtain ⟨I4, L4, o1, o2, o3, -⟩ := x8_one (c := c) (t := t) w1 (n2 (cnt8 (wfr s o))).toInt64
    refine ⟨I4, L4, ?_, by rw [if_pos ho]; exact o2, thr0.v.trans o3⟩
    rw [decide_eq_true ho, if_neg yes_zero, if_pos ho, g210_14, qbnd_s, b1, qbnd_s]
    dsimp only
    rw [u210_1, qbnd_s, j6_cnt, qbnd_s]
    dsimp only
    rw [o1, qbnd_s]
  · refine ⟨_, L, ?_, by rw [if_neg e]; exact w1, thr0.v⟩
    rw [decide_eq_false e, if_pos no_zero, if_neg e, l_1]
theorem y8_rings [FB] (w : W8 I L s h kp tx row cs) (hG : Gd N s) (hN : N < 900000000) : ∃ I' L', fX8_rings 210 (mk I L c t) = some (n2 (bits8 fun j => rch s j j), 0, mk I' L' c t) ∧ W8 I' L' s h kp tx [(n2 (cnt8 fun j => rch s j j)).toInt64] cs ∧ Fy I I' := by
  have w1 := w.sc (thr0 (I := I))
  have b1 := x8_ringed (L := L) (c := c) (t := t) (.inl rfl) w1.nw (gd_bd hG (by omega))
  obtain ⟨I4, L4, o1, o2, o3, -⟩ := x8_one (c := c) (t := t) w1 (n2 (cnt8 fun j => rch s j j)).toInt64
  refine ⟨I4, L4, ?_, o2, thr0.v.trans o3⟩
  unfold fX8_rings
  rw [if_pos (by rw [kk_210])]
  unfold gX8_rings
  rw [l_0, u210_0, qbnd_s, g210_14, qbnd_s, b1, qbnd_s]
  dsimp only
  rw [u210_1, qbnd_s, j6_cnt, qbnd_s]
  dsimp only
  rw [o1, qbnd_s]
theorem y8_stops [FB] (w : W8 I L s h kp tx row cs) (hG : Gd N s) (hN : N < 900000000) (x : Int32) : ∃ I' L', fX8_stops 210 x (mk I L c t) = some (if nIx x < 8 then n2 (bits8 fun j => rch s j (nIx x)) else -n2 1, 0, mk I' L' c t) ∧ W8 I' L' s h kp tx (if nIx x < 8 then [(n2 (wtr s (nIx x))).toInt64] else row) cs ∧ Fy I I' := by
  have w1 := w.sc (thr0 (I := I))
  have hB := gd_bd hG (by omega)
  unfold fX8_stops
  rw [if_pos (by rw [kk_210])]
  unfold gX8_stops
  rw [l_0, u210_0, qbnd_s, ow8, qbnd_s]
  dsimp only
  by_cases e : nIx x < 8
  · obtain ⟨o, ho, rfl⟩ := nIx_ex (by omega) e
    rw [nIx_n (by omega)]
    obtain ⟨I4, L4, o1, o2, o3, -⟩ := x8_one (c := c) (t := t) w1 (n2 (wtr s o)).toInt64
    refine ⟨I4, L4, ?_, by rw [if_pos ho]; exact o2, thr0.v.trans o3⟩
    rw [decide_eq_true ho, if_neg yes_zero, if_pos ho]
    have e0 : n2 0 = n2 ((List.range 0).foldl (fun b j => if rch s j o = true then b ||| (1 <<< j) else b) 0) := rfl
    refine lp_f0 (α := Nat) (fun f k b => fX8_stops_12 f 210 (n2 o) (n2 b) (n2 k) (mk (upI I 210 0 (n2 0)) L c t)) 8 (by omega) (fun b j => if rch s j o = true then b ||| (1 <<< j) else b) (fun b => some (n2 b, 0, mk I4 L4 c t)) 0 (fun f k b hk => ?_) (fun f b => ?_)
    · have b1 := x8_comesTo (L := L) (c := c) (t := t) (.inl rfl) w1.nw hB hk
      show fX8_stops_12 (f + 1) 210 (n2 o) (n2 b) (n2 k) (mk (upI I 210 0 (n2 0)) L c t) = _
      rw [fX8_stops_12]
      dsimp only
      rw [l_8, if_neg (by rw [n2_le (by omega) (by omega)]; omega), g210_14, qbnd_s, b1, qbnd_s]
      dsimp only
      rw [x8_hasB _ ho, qbnd_s]
      dsimp only
      rw [l_0, l_1, l_31, n2_31 (by omega), n2_shl (by omega), n2_or, n2_or, n2_add, Nat.or_zero]
      rcases bcs (rch s k o) with f | f
      · rw [f, if_pos no_zero, if_neg Bool.false_ne_true]
      · rw [f, if_neg yes_zero, if_pos rfl]
    · have b1 := x8_waitersOf (L := L) (c := c) (t := t) (.inl rfl) (w1.t0).nw hB ho
      show fX8_stops_12 (f + 1) 210 (n2 o) (n2 b) (n2 8) (mk (upI I 210 0 (n2 0)) L c t) = _
      rw [fX8_stops_12]
      dsimp only
      rw [l_8, if_pos (by rw [n2_le (by omega) (by omega)]; omega), l_0, u210_1, qbnd_s, g210_14, qbnd_s, b1, qbnd_s]
      dsimp only
      rw [o1, qbnd_s]
  · refine ⟨_, L, ?_, by rw [if_neg e]; exact w1, thr0.v⟩
    rw [decide_eq_false e, if_pos no_zero, if_neg e, l_1]
theorem x8_sumOf (hr : r = 217 ∨ r = 218) (hR : R8 (I r) s) : fX8_sumOf r (mk I L c t) = some (hsum s, 0, mk I L c t) := by
  unfold fX8_sumOf
  rw [l_0, l_7]
  refine lp_f0 (α := Int32) (fun f k x => fX8_sumOf_4 f r x (n2 k) (mk I L c t)) 85 (by omega) (fun x p => (List.range 8).foldl (fun y o => n2 31 * y + n2 (s p o)) x) (fun x => some (x, 0, mk I L c t)) (n2 7) (fun f k x hk => ?_) (fun f x => ?_)
  · show fX8_sumOf_4 (f + 1) r x (n2 k) (mk I L c t) = _
    rw [fX8_sumOf_4]
    dsimp only
    rw [l_85, if_neg (by rw [n2_le (by omega) (by omega)]; omega), l_0]
    refine lp_f0 (α := Int32) (fun m j y => fX8_sumOf_9 (fX8_sumOf_4 f) m r y (n2 k) (n2 j) (mk I L c t)) 8 (by omega) (fun y o => n2 31 * y + n2 (s k o)) (fun y => fX8_sumOf_4 f r y (n2 (k + 1)) (mk I L c t)) x (fun m j y hj => ?_) (fun m y => ?_)
    · show fX8_sumOf_9 (fX8_sumOf_4 f) (m + 1) r y (n2 k) (n2 j) (mk I L c t) = _
      rw [fX8_sumOf_9]
      dsimp only
      rw [l_8, if_neg (by rw [n2_le (by omega) (by omega)]; omega), x8_held hr hR hj hk, qbnd_s, l_31, l_1, n2_add]
    · show fX8_sumOf_9 (fX8_sumOf_4 f) (m + 1) r y (n2 k) (n2 8) (mk I L c t) = _
      rw [fX8_sumOf_9]
      dsimp only
      rw [l_8, if_pos (by rw [n2_le (by omega) (by omega)]; omega), l_1, n2_add]
  · show fX8_sumOf_4 (f + 1) r x (n2 85) (mk I L c t) = _
    rw [fX8_sumOf_4]
    dsimp only
    rw [l_85, if_pos (by rw [n2_le (by omega) (by omega)]; omega)]
theorem y8_sum [FB] (w : W8 I L s h kp tx row cs) : ∃ I' L', fX8_sum 210 (mk I L c t) = some (n2 0, 0, mk I' L' c t) ∧ W8 I' L' s h kp tx [(hsum s).toInt64] cs ∧ Fy I I' := by
  have w1 := w.sc (thr0 (I := I))
  have b1 := x8_sumOf (L := L) (c := c) (t := t) (.inl rfl) w1.t0.nw
  obtain ⟨I4, L4, o1, o2, o3, -⟩ := x8_one (c := c) (t := t) w1 (hsum s).toInt64
  refine ⟨I4, L4, ?_, o2, thr0.v.trans o3⟩
  unfold fX8_sum
  rw [if_pos (by rw [kk_210])]
  unfold gX8_sum
  rw [l_0, u210_0, qbnd_s, u210_1, qbnd_s, g210_14, qbnd_s, b1, qbnd_s]
  dsimp only
  rw [o1, qbnd_s]
theorem y8_holders [FB] (w : W8 I L s h kp tx row cs) (hG : Gd N s) (hN : N < 900000000) (x : Int32) : ∃ I' L', fX8_holders 210 x (mk I L c t) = some (if nIx x < 85 then n2 (bits8 fun o => !decide (s (nIx x) o = 0)) else -n2 1, 0, mk I' L' c t) ∧ W8 I' L' s h kp tx (if nIx x < 85 then [(n2 (hldS s (nIx x))).toInt64] else row) cs ∧ Fy I I' := by
  have w1 := w.sc (thr0 (I := I))
  have hB := gd_bd hG (by omega)
  unfold fX8_holders
  rw [if_pos (by rw [kk_210])]
  unfold gX8_holders
  rw [l_0, u210_0, qbnd_s, pl8, qbnd_s]
  dsimp only
  by_cases e : nIx x < 85
  · obtain ⟨p, hp, rfl⟩ := nIx_ex (by omega) e
    rw [nIx_n (by omega)]
    obtain ⟨I4, L4, o1, o2, o3, -⟩ := x8_one (c := c) (t := t) w1 (n2 (hldS s p)).toInt64
    refine ⟨I4, L4, ?_, by rw [if_pos hp]; exact o2, thr0.v.trans o3⟩
    rw [decide_eq_true hp, if_neg yes_zero, if_pos hp]
    have key := lp_fi (α := Nat × Nat) (fun f k z => fX8_holders_14 f 210 (n2 p) (n2 z.1) (n2 z.2) (n2 k) (mk (upI I 210 0 (n2 0)) L c t)) 8 (by omega) (fun z o => (if (!decide (s p o = 0)) = true then z.1 ||| (1 <<< o) else z.1, hldF s p z.2 o)) (fun z => z.2 ≤ 6) (fun z => qbnd (fX8_enters 210 (n2 z.2).toInt64 (mk (upI (upI I 210 0 (n2 0)) 210 1 (n2 0)) L c t)) fun r2 => some (n2 z.1, 0, r2.2.2)) (0, 0) (by decide) (fun f k z hk hz => ?_) (fun f z hz => ?_)
    · rw [key.1]
      have hsp : ∀ (l : List Nat) (a b : Nat), l.foldl (fun (z : Nat × Nat) o => (if (!decide (s p o = 0)) = true then z.1 ||| (1 <<< o) else z.1, hldF s p z.2 o)) (a, b) = (l.foldl (fun b o => if (!decide (s p o = 0)) = true then b ||| (1 <<< o) else b) a, l.foldl (hldF s p) b) := by
        intro l
        induction l with
        | nil => intro a b; rfl
        | cons o l ih => intro a b; rw [List.foldl_cons, ih]; rfl
      rw [hsp]
      dsimp only
      have hh : (List.range 8).foldl (hldF s p) 0 = hldS s p := rfl
      rw [hh, o1, qbnd_s]
      rfl
    · obtain ⟨a, b⟩ := z
      have hm := hB.md hp hk
      have hb : b ≤ 6 := hz
      have b1 := x8_held (L := L) (c := c) (t := t) (.inl rfl) w1.nw hk hp
      have hh : hldF s p b k = both b (s p k) := by
        unfold hldF
        by_cases f1 : s p k = 0
        · rw [if_pos f1, f1, both_z b (by omega)]
        · rw [if_neg f1]
      refine ⟨?_, ?_⟩
      · show fX8_holders_14 (f + 1) 210 (n2 p) (n2 a) (n2 b) (n2 k) (mk (upI I 210 0 (n2 0)) L c t) = _
        rw [fX8_holders_14]
        dsimp only
        rw [l_8, if_neg (by rw [n2_le (by omega) (by omega)]; omega), g210_14, qbnd_s, b1, qbnd_s]
        dsimp only
        unfold fX8_holders_29
        rw [g210_14, qbnd_s, b1, qbnd_s]
        dsimp only
        rw [x8_both hb hm, qbnd_s]
        dsimp only
        rw [l_0, l_1, l_31, n2_31 (by omega), n2_shl (by omega), n2_or, n2_or, n2_add, Nat.or_zero]
        by_cases f1 : s p k = 0
        · rw [if_pos (by rw [n2_le (by omega) (by omega)]; omega), decide_eq_true f1, Bool.not_true, if_neg Bool.false_ne_true]
          rw [hh]
        · rw [if_neg (by rw [n2_le (by omega) (by omega)]; omega), decide_eq_false f1, Bool.not_false, if_pos rfl, qbnd_s, b1, qbnd_s]
          dsimp only
          rw [x8_both hb hm, qbnd_s, hh]
      · show hldF s p b k ≤ 6
        rw [hh]
        exact both_le hb hm
    · obtain ⟨a, b⟩ := z
      show fX8_holders_14 (f + 1) 210 (n2 p) (n2 a) (n2 b) (n2 8) (mk (upI I 210 0 (n2 0)) L c t) = _
      rw [fX8_holders_14]
      dsimp only
      rw [l_8, if_pos (by rw [n2_le (by omega) (by omega)]; omega), l_0, u210_1, qbnd_s]
  · refine ⟨_, L, ?_, by rw [if_neg e]; exact w1, thr0.v⟩
    rw [decide_eq_false e, if_pos no_zero, if_neg e, l_1]
end S9A

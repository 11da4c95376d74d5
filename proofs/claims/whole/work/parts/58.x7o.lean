/-! PURE SIDE, THE CLASS: what an owner holds from a place on -/
section S7P
variable {I : Nat → Nat → Int32} {L : Nat → Nat → Int64} {c t N : Nat} {s : St} {h : List St} {kp : Nat → Option St} {tx : List Nat} {row : List Int64} {cs : List Nat} {μ : qM}
def heldL (s : St) (o p k : Nat) : List Nat := (List.range' p (k - p)).filter fun q => !decide (s q o = 0)
def i64s (l : List Nat) : List Int64 := (l.take 12).map fun q => (n2 q).toInt64
theorem heldL_succ {s : St} {o p k : Nat} (hp : p ≤ k) : heldL s o p (k + 1) = if s k o = 0 then heldL s o p k else heldL s o p k ++ [k] := by
  unfold heldL
  rw [show k + 1 - p = (k - p) + 1 by omega, List.range'_1_concat, List.filter_append, show p + (k - p) = k by omega]
  by_cases e : s k o = 0
  · rw [if_pos e]; simp [e]
  · rw [if_neg e]; simp [e]
theorem i64s_lt {l : List Nat} {k : Nat} (h : l.length < 12) : i64s (l ++ [k]) = i64s l ++ [(n2 k).toInt64] := by
  unfold i64s
  rw [List.take_of_length_le (by simp; omega), List.take_of_length_le (by omega), List.map_append]
  rfl
theorem i64s_ge {l : List Nat} {k : Nat} (h : 12 ≤ l.length) : i64s (l ++ [k]) = i64s l := by
  unfold i64s
  rw [List.take_append_of_le_length h]
theorem i64s_len (l : List Nat) : (i64s l).length ≤ 12 := by
  unfold i64s
  simp
  omega
theorem x7_holds_y [FB] (hW : W7 I L s h kp tx row cs) (hG : Gd N s) (hN : N < 900000000) (x y : Int32) (hx : nIx x < 8) (hy : nIx y < 85) : ∃ I' L', fX7_holds 1 x y (mk I L c t) = some (n2 (heldL s (nIx x) (nIx y) 85).length, 0, mk I' L' c t) ∧ W7 I' L' s h kp tx (i64s (heldL s (nIx x) (nIx y) 85)) cs ∧ Fw I I' := by
  have ex := nIx_eq (show nIx x < 2147483647 by omega)
  have ey := nIx_eq (show nIx y < 2147483647 by omega)
  obtain ⟨o, ho⟩ : ∃ o, nIx x = o := ⟨_, rfl⟩
  obtain ⟨p, hp⟩ : ∃ p, nIx y = p := ⟨_, rfl⟩
  rw [ho] at hx ex ⊢
  rw [hp] at hy ey ⊢
  have hs : 3 ∈ stl := by decide
  have hc := hW.cleared
  have hcF : Fw I (upI I 200 1 (n2 0)) := Fr.w (lo := 200) (hi := 201) (.up (by omega) (by omega)) (by omega)
  have h0 : heldL s o p p = [] := by
    unfold heldL
    rw [Nat.sub_self]
    rfl
  have key := lp_r (α := (Nat → Nat → Int32) × (Nat → Nat → Int64)) (fun n k z => fX7_holds_16 n 1 (n2 o) (n2 (heldL s o p k).length) (n2 k) (mk z.1 z.2 c t)) 85 (fun k z => p ≤ k ∧ (heldL s o p k).length ≤ k ∧ W7 z.1 z.2 s h kp tx (i64s (heldL s o p k)) cs ∧ Fw I z.1) (fun r => ∃ I' L', r = some (n2 (heldL s o p 85).length, 0, mk I' L' c t) ∧ W7 I' L' s h kp tx (i64s (heldL s o p 85)) cs ∧ Fw I I') (fun n k z hk hi => ?_) (fun n z hi => ?_) (85 - p) p qfu (upI I 200 1 (n2 0), L) (by omega) (by rw [qfu_eq]; omega) ⟨Nat.le_refl p, by rw [h0]; simp, by rw [h0]; exact hc, hcF⟩
  · rw [h0] at key
    rw [ex, ey]
    unfold fX7_holds
    rw [if_pos (by rw [kk_1])]
    unfold gX7_holds
    rw [x7_isOwner_y hx, qbnd_s]
    dsimp only
    rw [l_0, if_neg (show ¬ n2 1 = n2 0 by decide +kernel), x7_isPlace_y hy, qbnd_s]
    dsimp only
    rw [if_neg (show ¬ n2 1 = n2 0 by decide +kernel), g1_7, qbnd_s, u200_1, qbnd_s]
    exact key
  · obtain ⟨J, M⟩ := z
    obtain ⟨i1, i2, i3, i4⟩ := hi
    dsimp only at i3 i4 ⊢
    have b1 := x5_modeAt (L := M) (c := c) (t := t) hs i3.dw.1 hx hk
    have hm := (gd_bd hG (show N < 1000000000 by omega)).md hk hx
    have q3 : ¬ n2 85 ≤ n2 k := by rw [n2_le (by omega) (by omega)]; omega
    by_cases e : s k o = 0
    · refine Or.inr ⟨(J, M), ?_, by omega, ?_, ?_, i4⟩
      · rw [heldL_succ i1, if_pos e]
        rw [fX7_holds_16]
        dsimp only
        rw [l_85, if_neg q3, g1_2, qbnd_s, b1, qbnd_s]
        dsimp only
        rw [l_0, if_pos (by rw [e]), l_1, n2_add]
      · rw [heldL_succ i1, if_pos e]; omega
      · rw [heldL_succ i1, if_pos e]; exact i3
    · have e' : ¬ n2 (s k o) = n2 0 := by rw [n2_eq (by omega) (by omega)]; exact e
      by_cases e2 : 12 ≤ (heldL s o p k).length
      · refine Or.inr ⟨(J, M), ?_, by omega, ?_, ?_, i4⟩
        · rw [heldL_succ i1, if_neg e, List.length_append]
          rw [fX7_holds_16]
          dsimp only
          rw [l_85, if_neg q3, g1_2, qbnd_s, b1, qbnd_s]
          dsimp only
          rw [l_0, if_neg e', l_12, if_pos (by rw [n2_le (by omega) (by omega)]; exact e2), l_1, n2_add, n2_add]
          rfl
        · rw [heldL_succ i1, if_neg e, List.length_append]
          simp
          omega
        · rw [heldL_succ i1, if_neg e, i64s_ge e2]; exact i3
      · have hl := i64s_len (heldL s o p k)
        obtain ⟨J2, M2, o1, w1, f1⟩ := x3_addW (c := c) (t := t) i3 (by omega) (n2 k).toInt64
        refine Or.inr ⟨(J2, M2), ?_, by omega, ?_, ?_, i4.trans f1⟩
        · rw [heldL_succ i1, if_neg e, List.length_append]
          rw [fX7_holds_16]
          dsimp only
          rw [l_85, if_neg q3, g1_2, qbnd_s, b1, qbnd_s]
          dsimp only
          rw [l_0, if_neg e', l_12, if_neg (by rw [n2_le (by omega) (by omega)]; exact e2), g1_7, qbnd_s, o1, qbnd_s]
          dsimp only
          rw [l_1, n2_add, n2_add]
          rfl
        · rw [heldL_succ i1, if_neg e, List.length_append]
          simp
          omega
        · rw [heldL_succ i1, if_neg e, i64s_lt (by omega)]; exact w1
  · obtain ⟨i1, i2, i3, i4⟩ := hi
    have q4 : n2 85 ≤ n2 85 := by rw [n2_le (by omega) (by omega)]; exact Nat.le_refl 85
    refine ⟨z.1, z.2, ?_, i3, i4⟩
    rw [fX7_holds_16]
    dsimp only
    rw [l_85, if_pos q4]
end S7P

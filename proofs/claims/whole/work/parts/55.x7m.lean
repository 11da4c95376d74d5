/-! PURE SIDE, THE CLASS: modes and names -/
section S7K
variable {I : Nat → Nat → Int32} {L : Nat → Nat → Int64} {c t N : Nat} {s : St} {h : List St} {kp : Nat → Option St} {tx : List Nat} {row : List Int64} {cs : List Nat} {μ : qM}
theorem md_nIx (x : Int32) : fX7_isMode x μ = some (n2 (bn (decide (nIx x < 7))), 0, μ) := by
  rcases i32_cases x with e | ⟨k, hk, rfl⟩
  · rw [nIx_m e, x7_isMode_m e]; rfl
  · rw [nIx_n hk]
    by_cases e : k < 7
    · rw [x7_isMode_y e, decide_eq_true e]; rfl
    · rw [x7_isMode_n (by omega) hk, decide_eq_false e]; rfl
theorem x7_named [FB] (hW : W7 I L s h kp tx row cs) : ∃ I', fX7_named 1 (mk I L c t) = some (oi (nameS tx), 0, mk I' L c t) ∧ W7 I' L s h kp [] row cs ∧ Fw I I' := by
  have hF : Fr I (upI I 198 1 (n2 0)) 198 200 := .up (by omega) (by omega)
  have ht := te_take hW.te (Nat.zero_le _)
  rw [List.take_zero] at ht
  refine ⟨upI I 198 1 (n2 0), ?_, hW.texted hF ht, hF.w (by omega)⟩
  unfold fX7_named
  rw [if_pos (by rw [kk_1])]
  unfold gX7_named
  rw [g1_6, qbnd_s, x6_modeName hW.te, qbnd_s]
  dsimp only
  rw [g1_6, qbnd_s, l_0, u198_1, qbnd_s]
theorem x7_sum [FB] (hW : W7 I L s h kp tx row cs) : ∃ I' L', fX7_sum 1 (mk I L c t) = some (n2 0, 0, mk I' L' c t) ∧ W7 I' L' s h kp tx [(hsum s).toInt64] cs ∧ Fw I I' := by
  obtain ⟨I4, L4, o1, o2, o3⟩ := x3_oneW (c := c) (t := t) hW (hsum s).toInt64
  refine ⟨I4, L4, ?_, o2, o3⟩
  unfold fX7_sum
  rw [if_pos (by rw [kk_1])]
  unfold gX7_sum
  rw [g1_7, qbnd_s, g1_2, qbnd_s, x5_heldSum (by decide) hW.dw.1, qbnd_s]
  dsimp only
  rw [o1, qbnd_s, l_0]
theorem x7_modes [FB] (hW : W7 I L s h kp tx row cs) (x y : Int32) : ∃ I' L', fX7_modes 1 x y (mk I L c t) = some (if nIx x < 7 ∧ nIx y < 7 then n2 (bn (tog (nIx x) (nIx y))) else -n2 1, 0, mk I' L' c t) ∧ W7 I' L' s h kp tx (if nIx x < 7 ∧ nIx y < 7 then [(n2 (both (nIx x) (nIx y))).toInt64, (n2 (bn (stg (nIx x) (nIx y)))).toInt64] else row) cs ∧ Fw I I' := by
  by_cases e1 : nIx x < 7
  · by_cases e2 : nIx y < 7
    · have ex := nIx_eq (show nIx x < 2147483647 by omega)
      have ey := nIx_eq (show nIx y < 2147483647 by omega)
      obtain ⟨a, ha⟩ : ∃ a, nIx x = a := ⟨_, rfl⟩
      obtain ⟨b, hb⟩ : ∃ b, nIx y = b := ⟨_, rfl⟩
      rw [ha] at e1 ex ⊢
      rw [hb] at e2 ey ⊢
      obtain ⟨I4, L4, o1, o2, o3⟩ := x3_twoW (c := c) (t := t) hW (n2 (both a b)).toInt64 (n2 (bn (stg a b))).toInt64
      refine ⟨I4, L4, ?_, by rw [if_pos ⟨e1, e2⟩]; exact o2, o3⟩
      rw [if_pos ⟨e1, e2⟩, ex, ey]
      unfold fX7_modes
      rw [if_pos (by rw [kk_1])]
      unfold gX7_modes
      rw [x7_isMode_y e1, qbnd_s]
      dsimp only
      rw [l_0, l_1, l_7, if_neg (show ¬ n2 1 = n2 0 by decide +kernel), x7_isMode_y e2, qbnd_s]
      dsimp only
      rw [if_neg (show ¬ n2 1 = n2 0 by decide +kernel), g1_7, qbnd_s, n2_mul, n2_add, tb2 (by omega) (by omega), qbnd_s, tb1 (by omega), qbnd_s, tb_stg (by omega) (by omega), o1, qbnd_s]
      dsimp only
      rw [tb0 (by omega), qbnd_s, tb_tog (by omega) (by omega)]
    · refine ⟨I, L, ?_, by rw [if_neg (fun z => e2 z.2)]; exact hW, .rf I⟩
      rw [if_neg (fun z => e2 z.2)]
      unfold fX7_modes
      rw [if_pos (by rw [kk_1])]
      unfold gX7_modes
      rw [md_nIx, decide_eq_true e1, qbnd_s]
      dsimp only
      rw [l_0, if_neg yes_zero, md_nIx, decide_eq_false e2, qbnd_s]
      dsimp only
      rw [if_pos no_zero, l_1]
  · refine ⟨I, L, ?_, by rw [if_neg (fun z => e1 z.1)]; exact hW, .rf I⟩
    rw [if_neg (fun z => e1 z.1)]
    unfold fX7_modes
    rw [if_pos (by rw [kk_1])]
    unfold gX7_modes
    rw [md_nIx, decide_eq_false e1, qbnd_s]
    dsimp only
    rw [l_0, if_pos no_zero, l_1]
end S7K

/-! PURE SIDE, THE CLASS: all who run end, one behind another -/
section S7DR
variable {I : Nat → Nat → Int32} {L : Nat → Nat → Int64} {c t N : Nat} {s : St} {h : List St} {kp : Nat → Option St} {tx : List Nat} {row : List Int64} {cs : List Nat} {μ : qM}
def drS : Nat → St → List Nat × St
  | 0, z => ([], z)
  | n + 1, z => match frun z with
    | none => ([], z)
    | some o => (o :: (drS n (leaveS z o)).1, (drS n (leaveS z o)).2)
def i64a (l : List Nat) : List Int64 := l.map fun q => (n2 q).toInt64
theorem frun_lt {z : St} {o : Nat} (h : frun z = some o) : o < 8 := List.mem_range.mp (List.mem_of_find?_eq_some h)
theorem dr_end (hN : N < 900000000) {z : St} {k : Nat} [FB] (hw : W7 I L s h kp tx row cs) (hz : DW I 21 z D0) (hg : Gd N z) (hl : row.length < 13) : ∃ I' L', fX7_drains_38 1 (n2 k) (mk I L c t) = some (n2 k, 0, mk I' L' c t) ∧ W7 I' L' s h kp tx (row ++ [(n2 (bits8 fun o => decide (z 85 o = 2))).toInt64]) cs ∧ Fw I I' := by
  obtain ⟨I', L', o1, o2, o3⟩ := x3_addW (c := c) (t := t) hw hl (n2 (bits8 fun o => decide (z 85 o = 2))).toInt64
  refine ⟨I', L', ?_, o2, o3⟩
  unfold fX7_drains_38
  rw [g1_7, qbnd_s, g1_1, qbnd_s, dk_P0 (by decide), qbnd_s, l_2, x5_standing (show 22 ∈ stl by decide) hz.1 (gd_bd hg (by omega)) (Nat.le_refl 2), qbnd_s]
  dsimp only
  rw [o1, qbnd_s]
theorem dr_loop [FB] (hN : N < 900000000) : ∀ (n f k : Nat) (I : Nat → Nat → Int32) (L : Nat → Nat → Int64) (z : St) (row : List Int64), k + n = 8 → n < f → row.length = k → W7 I L s h kp tx row cs → DW I 21 z D0 → Gd N z → ∃ I' L', fX7_drains_14 f 1 (n2 k) (n2 k) (mk I L c t) = some (n2 (k + (drS n z).1.length), 0, mk I' L' c t) ∧ W7 I' L' s h kp tx (row ++ i64a (drS n z).1 ++ [(n2 (bits8 fun o => decide ((drS n z).2 85 o = 2))).toInt64]) cs ∧ Fw I I' := by
  intro n
  induction n with
  | zero =>
    intro f k I L z row hk hf hr hw hz hg
    obtain ⟨f', rfl⟩ : ∃ f', f = f' + 1 := ⟨f - 1, by omega⟩
    obtain ⟨I', L', o1, o2, o3⟩ := dr_end (c := c) (t := t) (k := k) hN hw hz hg (by omega)
    refine ⟨I', L', ?_, by rw [show row ++ i64a (drS 0 z).1 = row from List.append_nil row]; exact o2, o3⟩
    have q4 : n2 8 ≤ n2 k := by rw [n2_le (by omega) (by omega)]; omega
    rw [fX7_drains_14]
    dsimp only
    rw [l_8, if_pos q4, o1]
    rfl
  | succ n ih =>
    intro f k I L z row hk hf hr hw hz hg
    obtain ⟨f', rfl⟩ : ∃ f', f = f' + 1 := ⟨f - 1, by omega⟩
    have q3 : ¬ n2 8 ≤ n2 k := by rw [n2_le (by omega) (by omega)]; omega
    have b1 := x5_firstRunning (L := L) (c := c) (t := t) (show 22 ∈ stl by decide) hz.1 (gd_bd hg (by omega))
    cases hq : frun z with
    | none =>
      obtain ⟨I', L', o1, o2, o3⟩ := dr_end (c := c) (t := t) (k := k) hN hw hz hg (by omega)
      refine ⟨I', L', ?_, by simpa [drS, hq, i64a] using o2, o3⟩
      rw [hq] at b1
      have b2 : fX5_firstRunning 22 (mk I L c t) = some (-n2 1, 0, mk I L c t) := b1
      rw [fX7_drains_14]
      dsimp only
      rw [l_8, if_neg q3, g1_1, qbnd_s, dk_P0 (by decide), qbnd_s, b2, qbnd_s, l_1]
      dsimp only
      rw [if_pos rfl, o1]
      simp [drS, hq]
    | some o =>
      have ho := frun_lt hq
      rw [hq] at b1
      have b2 : fX5_firstRunning 22 (mk I L c t) = some (n2 o, 0, mk I L c t) := b1
      obtain ⟨J, a1, a2, a3⟩ := x0_leave (L := L) (c := c) (t := t) (show 21 ∈ dkl by decide) (show N < 1000000000 by omega) ho hz hg.1 hg.2.1
      have w1 := hw.trial (fun b i hb => a3 b i (by omega) (by omega)) a2
      obtain ⟨I2, L2, e1, e2, e3, e4⟩ := x3_add (c := c) (t := t) w1.ro.1 (by omega) (n2 o).toInt64
      have w2 := w1.rowed e3 e2 e4
      obtain ⟨I', L', o1, o2, o3⟩ := ih f' (k + 1) I2 L2 (leaveS z o) (row ++ [(n2 o).toInt64]) (by omega) (by omega) (by simp; omega) w2 (a2.fr e3 (by omega)) (gd_leave hg ho)
      refine ⟨I', L', ?_, by simpa [drS, hq, i64a] using o2, fun b i hb => by rw [o3 b i hb, e3 b i (by omega), a3 b i (by omega) (by omega)]⟩
      have hne : ¬ n2 o = -n2 1 := by rw [n2_eqm (by omega)]; exact not_false
      rw [fX7_drains_14]
      dsimp only
      rw [l_8, if_neg q3, g1_1, qbnd_s, dk_P0 (by decide), qbnd_s, b2, qbnd_s, l_1]
      dsimp only
      rw [if_neg hne, g1_1, qbnd_s, a1, qbnd_s]
      dsimp only
      rw [g1_7, qbnd_s, e1, qbnd_s]
      dsimp only
      rw [n2_add, o1]
      simp only [drS, hq, List.length_cons]
      rw [show k + 1 + (drS n (leaveS z o)).1.length = k + ((drS n (leaveS z o)).1.length + 1) by omega]
theorem x7_drains [FB] (hW : W7 I L s h kp tx row cs) (hG : Gd N s) (hN : N < 900000000) : ∃ I' L', fX7_drains 1 (mk I L c t) = some (n2 (drS 8 s).1.length, 0, mk I' L' c t) ∧ W7 I' L' s h kp tx (i64a (drS 8 s).1 ++ [(n2 (bits8 fun o => decide ((drS 8 s).2 85 o = 2))).toInt64]) cs ∧ Fw I I' := by
  obtain ⟨I1, r1, r2, r3⟩ := w7_copy (c := c) (t := t) hW
  have w1 := (hW.trial r3 r2).cleared
  have hF : Fr I1 (upI I1 200 1 (n2 0)) 200 201 := .up (by omega) (by omega)
  obtain ⟨I2, L2, o1, o2, o3⟩ := dr_loop (c := c) (t := t) hN 8 qfu 0 _ L s [] (by omega) (by rw [qfu_eq]; omega) rfl w1 (r2.fr hF (by omega)) hG
  refine ⟨I2, L2, ?_, o2, fun b i hb => by rw [o3 b i hb, hF b i (by omega), r3 b i (by omega)]⟩
  unfold fX7_drains
  rw [if_pos (by rw [kk_1])]
  unfold gX7_drains
  rw [g1_1, qbnd_s, dk_P0 (by decide), qbnd_s, g1_2, qbnd_s, r1, qbnd_s]
  dsimp only
  rw [g1_7, qbnd_s, l_0, u200_1, qbnd_s, o1, Nat.zero_add]
end S7DR

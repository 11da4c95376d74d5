/-! PURE SIDE, THE REFERENCE: how all can end -/
def ntz (a : Int32) : Int32 :=
  let w : Int32 := ((a ^^^ (-1 : Int32)) &&& (a - (1 : Int32)))
  let f40 := fun (x y : Int32) => if x ≤ (4 : Int32) then y + qush x (1 : Int32) else (y + (2 : Int32)) + qush (qush x (2 : Int32)) (1 : Int32)
  let f32 := fun (x y : Int32) => if x ≤ (16 : Int32) then f40 x y else f40 (qush x (4 : Int32)) (y + (4 : Int32))
  let f24 := fun (x y : Int32) => if x ≤ (256 : Int32) then f32 x y else f32 (qush x (8 : Int32)) (y + (8 : Int32))
  if 0 < w then (if w ≤ (65536 : Int32) then f24 w (1 : Int32) else f24 (qush w (16 : Int32)) ((1 : Int32) + (16 : Int32))) else w &&& (32 : Int32)
theorem ntz_40 (x y : Int32) (μ : qM) : fJ6_numberOfTrailingZeros_0f7a4_40 x y μ = some (if x ≤ (4 : Int32) then y + qush x (1 : Int32) else (y + (2 : Int32)) + qush (qush x (2 : Int32)) (1 : Int32), 0, μ) := by
  unfold fJ6_numberOfTrailingZeros_0f7a4_40
  split <;> rfl
theorem j6_ntz (a : Int32) (μ : qM) : fJ6_numberOfTrailingZeros_0f7a4 a μ = some (ntz a, 0, μ) := by
  unfold fJ6_numberOfTrailingZeros_0f7a4 ntz fJ6_numberOfTrailingZeros_0f7a4_8 fJ6_numberOfTrailingZeros_0f7a4_24 fJ6_numberOfTrailingZeros_0f7a4_32
  simp only [ntz_40]
  repeat' split
  all_goals rfl
theorem ntz_b8 : ∀ b0 b1 b2 b3 b4 b5 b6 b7 : Bool, (b0 || b1 || b2 || b3 || b4 || b5 || b6 || b7) = true → ntz (n2 (b8 b0 b1 b2 b3 b4 b5 b6 b7)) = n2 (if b0 then 0 else if b1 then 1 else if b2 then 2 else if b3 then 3 else if b4 then 4 else if b5 then 5 else if b6 then 6 else 7) := by decide +kernel
theorem ntz_find {P : Nat → Bool} {o : Nat} (h : (List.range 8).find? P = some o) : ntz (n2 (bits8 P)) = n2 o := by
  obtain ⟨h1, h2, h3⟩ := find_range.mp h
  rw [bits8_b8, ntz_b8]
  · congr 1
    have a := fun j hj => h3 j hj
    rcases lt8 h1 with rfl | rfl | rfl | rfl | rfl | rfl | rfl | rfl
    · simp [h2]
    · simp [h2, a 0 (by omega)]
    · simp [h2, a 0 (by omega), a 1 (by omega)]
    · simp [h2, a 0 (by omega), a 1 (by omega), a 2 (by omega)]
    · simp [h2, a 0 (by omega), a 1 (by omega), a 2 (by omega), a 3 (by omega)]
    · simp [h2, a 0 (by omega), a 1 (by omega), a 2 (by omega), a 3 (by omega), a 4 (by omega)]
    · simp [h2, a 0 (by omega), a 1 (by omega), a 2 (by omega), a 3 (by omega), a 4 (by omega), a 5 (by omega)]
    · simp [a 0 (by omega), a 1 (by omega), a 2 (by omega), a 3 (by omega), a 4 (by omega), a 5 (by omega), a 6 (by omega)]
  · rcases lt8 h1 with rfl | rfl | rfl | rfl | rfl | rfl | rfl | rfl <;> simp [h2]
theorem leave_0 {N : Nat} {s : St} {o : Nat} (h : Gd N s) (ho : o < 8) : leaveS s o 85 o = 0 ∧ (∀ j, j < 8 → s 85 j = 0 → leaveS s o 85 j = 0) ∧ (∀ j, j < 8 → j ≠ o → s 85 j ≠ 0 → leaveS s o 85 j ≠ 0) := by
  obtain ⟨-, -, hc3, hc4, -⟩ := leave_ok (o := o) h.1 h.2.1 ho
  have e0 : awy s o 85 o = 0 := awy_lo (by omega)
  have k0 : leaveS s o 85 o = 0 := by
    rw [hc3 o ho (by rw [e0]; omega) 85 (by omega), e0]
  refine ⟨k0, fun j hj hz => ?_, fun j hj hjo hz => hc4 j hj (by rw [awy_ne hjo]; exact hz)⟩
  by_cases e : j = o
  · rw [e]; exact k0
  · have e1 : awy s o 85 j = 0 := by rw [awy_ne e]; exact hz
    rw [hc3 j hj (by rw [e1]; omega) 85 (by omega), e1]
theorem nHr_leave {N : Nat} {s : St} {o : Nat} (h : Gd N s) (ho : o < 8) (hs : s 85 o ≠ 0) : nHr (leaveS s o) + 1 ≤ nHr s := by
  obtain ⟨k0, kj, -⟩ := leave_0 h ho
  have hm : sum8 (fun j => bn (decide (leaveS s o 85 j ≠ 0))) ≤ sum8 (fun j => if j = o then 0 else bn (decide (s 85 j ≠ 0))) := sum8_mono fun j hj => by
    by_cases e : j = o
    · rw [if_pos e, e, k0]; decide
    · rw [if_neg e]
      by_cases e2 : s 85 j = 0
      · rw [kj j hj e2]; simp [bn]
      · rw [decide_eq_true e2]; exact bn_le _
  have hu := sum8_upd (f := fun j => bn (decide (s 85 j ≠ 0))) (f' := fun j => if j = o then 0 else bn (decide (s 85 j ≠ 0))) ho (fun j hj hjo => by
    rw [if_neg hjo])
  rw [if_pos rfl, decide_eq_true hs] at hu
  have hb1 : bn true = 1 := rfl
  rw [hb1] at hu
  unfold nHr
  omega
section S9H
variable {I I' : Nat → Nat → Int32} {L : Nat → Nat → Int64} {c t r N T n : Nat} {s s' s0 : St} {μ : qM} {h : List St} {kp : Nat → Option St} {tx : List Nat} {row : List Int64} {cs : List Nat}
theorem frun_z {z : St} (h : frun z = none) : bits8 (fun o => decide (z 85 o = 1)) = 0 := by
  rw [bits8_zero]
  exact find_range_n.mp h
theorem frun_nz {z : St} {o : Nat} (h : frun z = some o) : bits8 (fun o => decide (z 85 o = 1)) ≠ 0 := by
  intro e
  obtain ⟨h1, h2, -⟩ := find_range.mp h
  rw [(bits8_zero _).mp e o h1] at h2
  exact absurd h2 (by decide)
theorem y8_drains [FB] (w : W8 I L s h kp tx row cs) (hG : Gd N s) (hN : N < 900000000) : ∃ I' L', fX8_drains 210 (mk I L c t) = some (n2 (drS 8 s).1.length, 0, mk I' L' c t) ∧ W8 I' L' s h kp tx (i64a (drS 8 s).1 ++ [(n2 (bits8 fun o => decide ((drS 8 s).2 85 o = 2))).toInt64]) cs ∧ Fy I I' := by
  have w1 := w.sc (thr0 (I := I))
  have hr : (218 : Nat) = 217 ∨ (218 : Nat) = 218 := .inr rfl
  obtain ⟨w2, r2, f2⟩ := w1.cp
  obtain ⟨J, hJ⟩ : ∃ J, cpI (upI I 210 0 (n2 0)) 217 0 218 0 755 = J := ⟨_, rfl⟩
  rw [hJ] at w2 r2 f2
  have w3 := w2.t0
  have r3 : R8 ((upI J 210 1 (n2 0)) 218) s := by rw [show (upI J 210 1 (n2 0)) 218 = J 218 from by funext i; exact upI_ne (by omega)]; exact r2
  have e0 : fX8_drains 210 (mk I L c t) = fX8_drains_15 qfu 210 (n2 0) (n2 (bits8 fun o => decide (s 85 o = 1))) (mk (upI J 210 1 (n2 0)) L c t) := by
    unfold fX8_drains
    rw [if_pos (by rw [kk_210])]
    unfold gX8_drains
    rw [l_0, u210_0, qbnd_s, x8_copies, qbnd_s, hJ]
    dsimp only
    rw [u210_1, qbnd_s, g210_15, qbnd_s, l_1, x8_so hr r3 (gd_bd hG (by omega)) (by omega), qbnd_s]
  rw [e0]
  obtain ⟨fin, hfin⟩ : ∃ fin, drS 8 s = fin := ⟨_, rfl⟩
  rw [hfin]
  refine lp_rk (α := (Nat → Nat → Int32) × (Nat → Nat → Int64) × St × List Nat) (fun f k z => fX8_drains_15 f 210 (n2 z.2.2.2.length) (n2 (bits8 fun o => decide (z.2.2.1 85 o = 1))) (mk z.1 z.2.1 c t)) 8 (fun k z => W8 z.1 z.2.1 s h kp tx (i64a z.2.2.2) cs ∧ R8 (z.1 218) z.2.2.1 ∧ Gd N z.2.2.1 ∧ Fy I z.1 ∧ z.2.2.2.length = k ∧ nHr z.2.2.1 + k ≤ 8 ∧ z.2.2.2 ++ (drS (8 - k) z.2.2.1).1 = fin.1 ∧ (drS (8 - k) z.2.2.1).2 = fin.2) (fun q => ∃ I' L', q = some (n2 fin.1.length, 0, mk I' L' c t) ∧ W8 I' L' s h kp tx (i64a fin.1 ++ [(n2 (bits8 fun o => decide (fin.2 85 o = 2))).toInt64]) cs ∧ Fy I I') (k0 := 0) (by omega) (by omega) (upI J 210 1 (n2 0), L, s, []) ⟨w3, r3, hG, (thr0.v.trans f2).trans (.up (by omega)), rfl, nHr_le s, by rw [← hfin]; rfl, by rw [← hfin]⟩ (fun f k z _ hk hi => ?_) (fun f z hi => ?_)
  · obtain ⟨K, M, z, l⟩ := z
    obtain ⟨i1, i2, i3, i4, i5, i6, i7, i8⟩ := hi
    dsimp only at i1 i2 i3 i4 i5 i6 i7 i8
    rw [show 8 - k = (7 - k) + 1 by omega] at i7 i8
    simp only [drS] at i7 i8
    have hB := gd_bd i3 (show N < 1000000000 by omega)
    have hlt := bits8_lt (fun o => decide (z 85 o = 1))
    show (∃ I' L', fX8_drains_15 (f + 1) 210 (n2 l.length) (n2 (bits8 fun o => decide (z 85 o = 1))) (mk K M c t) = _ ∧ _) ∨ ∃ a', fX8_drains_15 (f + 1) 210 (n2 l.length) (n2 (bits8 fun o => decide (z 85 o = 1))) (mk K M c t) = _ ∧ _
    rw [fX8_drains_15]
    dsimp only
    rw [l_0]
    cases hq : frun z with
    | none =>
      left
      rw [hq] at i7 i8
      rw [List.append_nil] at i7
      obtain ⟨I4, L4, o1, o2, o3, -⟩ := x8_more (c := c) (t := t) i1 (by unfold i64a; rw [List.length_map]; omega) (n2 (bits8 fun o => decide (z 85 o = 2))).toInt64
      refine ⟨I4, L4, ?_, by rw [← i7, ← i8]; exact o2, i4.trans o3⟩
      rw [frun_z hq, if_pos rfl, g210_15, qbnd_s, l_2, x8_so hr i2 hB (Nat.le_refl 2), qbnd_s]
      dsimp only
      rw [o1, qbnd_s, ← i7]
    | some o =>
      right
      rw [hq] at i7 i8
      dsimp only at i7 i8
      obtain ⟨ho, ho2, -⟩ := find_range.mp hq
      rw [decide_eq_true_eq] at ho2
      obtain ⟨G, hG1⟩ := i1.ga
      obtain ⟨K2, G2, a1, a2, a3, a4⟩ := x8_goes (L := M) (c := c) (t := t) hr (show N < 1000000000 by omega) ho i2 hG1 i3.1 i3.2.1
      have hgl := gd_leave i3 ho
      have wk2 := i1.then a4.f9 a3
      obtain ⟨K3, M3, o1, o2, o3, o4⟩ := x8_more (c := c) (t := t) wk2 (by unfold i64a; rw [List.length_map]; omega) (n2 o).toInt64
      have a2' : R8 (K3 218) (leaveS z o) := by rw [show K3 218 = K2 218 from by funext i; exact o4 _ _ (by omega)]; exact a2
      have hnl := nHr_leave i3 ho (by omega)
      refine ⟨(K3, M3, leaveS z o, l ++ [o]), ?_, ?_, a2', hgl, (i4.trans (a4.v hr)).trans o3, by simp [i5], by show nHr (leaveS z o) + (k + 1) ≤ 8; omega, ?_, ?_⟩
      · rw [if_neg (by rw [n2_eq (by omega) (by omega)]; exact frun_nz hq), j6_ntz, ntz_find hq, qbnd_s]
        dsimp only
        rw [g210_15, qbnd_s, a1, qbnd_s]
        dsimp only
        rw [o1, qbnd_s]
        dsimp only
        rw [g210_15, qbnd_s, l_1, x8_so hr a2' (gd_bd hgl (by omega)) (by omega), qbnd_s, n2_add]
        have hl1 : (l ++ [o]).length = l.length + 1 := by simp
        rw [hl1]
      · show W8 K3 M3 s h kp tx (i64a (l ++ [o])) cs
        unfold i64a at o2 ⊢
        rw [List.map_append]
        exact o2
      · show l ++ [o] ++ (drS (8 - (k + 1)) (leaveS z o)).1 = fin.1
        rw [show 8 - (k + 1) = 7 - k by omega, List.append_assoc]
        exact i7
      · show (drS (8 - (k + 1)) (leaveS z o)).2 = fin.2
        rw [show 8 - (k + 1) = 7 - k by omega]
        exact i8
  · obtain ⟨K, M, z, l⟩ := z
    obtain ⟨i1, i2, i3, i4, i5, i6, i7, i8⟩ := hi
    dsimp only at i1 i2 i3 i4 i5 i6 i7 i8
    rw [Nat.sub_self] at i7 i8
    simp only [drS, List.append_nil] at i7 i8
    have hB := gd_bd i3 (show N < 1000000000 by omega)
    have hq : frun z = none := by
      cases hq : frun z with
      | none => rfl
      | some o =>
        obtain ⟨ho, ho2, -⟩ := find_range.mp hq
        rw [decide_eq_true_eq] at ho2
        have hb : bn (decide (z 85 o ≠ 0)) ≤ nHr z := sum8_le (f := fun o => bn (decide (z 85 o ≠ 0))) ho
        rw [ho2] at hb
        have : bn (decide ((1 : Nat) ≠ 0)) = 1 := by decide
        omega
    obtain ⟨I4, L4, o1, o2, o3, -⟩ := x8_more (c := c) (t := t) i1 (by unfold i64a; rw [List.length_map]; omega) (n2 (bits8 fun o => decide (z 85 o = 2))).toInt64
    refine ⟨I4, L4, ?_, by rw [← i7, ← i8]; exact o2, i4.trans o3⟩
    show fX8_drains_15 (f + 1) 210 (n2 l.length) (n2 (bits8 fun o => decide (z 85 o = 1))) (mk K M c t) = _
    rw [fX8_drains_15]
    dsimp only
    rw [l_0, frun_z hq, if_pos rfl, g210_15, qbnd_s, l_2, x8_so hr i2 hB (Nat.le_refl 2), qbnd_s]
    dsimp only
    rw [o1, qbnd_s, ← i7]
end S9H

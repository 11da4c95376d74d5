/-! PURE SIDE, THE CLASS: who would run without others -/
section S7T
variable {I : Nat → Nat → Int32} {L : Nat → Nat → Int64} {c t N : Nat} {s : St} {h : List St} {kp : Nat → Option St} {tx : List Nat} {row : List Int64} {cs : List Nat} {μ : qM}
/-- the trial desk has changed alone -/
theorem W7.trial {I' : Nat → Nat → Int32} {z : St} [FB] (hW : W7 I L s h kp tx row cs) (hf : ∀ b i, b < 21 ∨ 40 ≤ b → I' b i = I b i) (hz : DW I' 21 z D0) : W7 I' L s h kp tx row cs :=
  ⟨hW.dw.on fun b i h1 h2 => hf b i (by omega), ⟨z, hz⟩, hW.hi.fr fun b i h1 h2 => hf b i (by omega), hW.ke.on fun b i h1 h2 => hf b i (by omega), hW.te.on fun b i h1 h2 => hf b i (by omega), hW.ro.on (fun i => hf _ i (by omega)) fun i => rfl, hW.ru.fr (fun i => hf _ i (by omega)) (hf _ _ (by omega))⟩
theorem w7_copy [FB] (hW : W7 I L s h kp tx row cs) : ∃ I1, fX5_copy 22 3 (mk I L c t) = some (n2 0, 0, mk I1 L c t) ∧ DW I1 21 s D0 ∧ ∀ b i, b < 21 ∨ 40 ≤ b → I1 b i = I b i := by
  obtain ⟨z, hz⟩ := hW.sh
  obtain ⟨I1, r1, r2, r3⟩ := x5_copy (L := L) (c := c) (t := t) (show 22 ∈ stl by decide) (show 3 ∈ stl by decide) (by omega) hW.dw.1
  exact ⟨I1, r1, ⟨r2, fun p hp => by rw [r3 _ _ (by omega)]; exact hz.2 p hp⟩, fun b i hb => r3 b i (by omega)⟩
def outS (P : Nat → Bool) (z : St) (o : Nat) : St := if P o = true then leaveS z o else z
def outAll (P : Nat → Bool) (z : St) : St := (List.range 8).foldl (outS P) z
theorem gd_out (P : Nat → Bool) (hG : Gd N s) : ∀ k, k ≤ 8 → Gd N ((List.range k).foldl (outS P) s) := by
  intro k
  induction k with
  | zero => intro _; exact hG
  | succ k ih =>
    intro hk
    rw [List.range_succ, List.foldl_append]
    show Gd N (outS P _ k)
    unfold outS
    split
    · exact gd_leave (ih (by omega)) (by omega)
    · exact ih (by omega)
theorem x7_runsWithout [FB] (hW : W7 I L s h kp tx row cs) (hG : Gd N s) (hN : N < 900000000) {o : Nat} (ho : o < 8) (P : Nat → Bool) : ∃ I', fX7_runsWithout 1 (n2 o) (n2 (bits8 P)) (mk I L c t) = some (n2 (bn (decide (outAll P s 85 o = 1))), 0, mk I' L c t) ∧ W7 I' L s h kp tx row cs ∧ Fw I I' := by
  obtain ⟨I1, r1, r2, r3⟩ := w7_copy (c := c) (t := t) hW
  have key := lp_r (α := Nat → Nat → Int32) (fun n k J => fX7_runsWithout_8 n 1 (n2 o) (n2 (bits8 P)) (n2 k) (mk J L c t)) 8 (fun k J => DW J 21 ((List.range k).foldl (outS P) s) D0 ∧ ∀ b i, b < 21 ∨ 40 ≤ b → J b i = I b i) (fun r => ∃ I', r = some (n2 (bn (decide (outAll P s 85 o = 1))), 0, mk I' L c t) ∧ W7 I' L s h kp tx row cs ∧ Fw I I') (fun n k J hk hi => ?_) (fun n J hi => ?_) 8 0 qfu I1 rfl (by rw [qfu_eq]; omega) ⟨r2, r3⟩
  · unfold fX7_runsWithout
    rw [if_pos (by rw [kk_1])]
    unfold gX7_runsWithout
    rw [g1_1, qbnd_s, dk_P0 (by decide), qbnd_s, g1_2, qbnd_s, r1, qbnd_s, l_0]
    exact key
  · obtain ⟨i1, i2⟩ := hi
    have hg := gd_out (N := N) P hG k (by omega)
    have q3 : ¬ n2 8 ≤ n2 k := by rw [n2_le (by omega) (by omega)]; omega
    have hb := bits8_q P hk
    by_cases e : P k = true
    · obtain ⟨J2, a1, a2, a3⟩ := x0_leave (L := L) (c := c) (t := t) (show 21 ∈ dkl by decide) (show N < 1000000000 by omega) hk i1 hg.1 hg.2.1
      refine Or.inr ⟨J2, ?_, ?_, fun b i hb => ?_⟩
      · show fX7_runsWithout_8 (n + 1) 1 (n2 o) (n2 (bits8 P)) (n2 k) (mk J L c t) = _
        rw [fX7_runsWithout_8]
        dsimp only
        rw [l_8, if_neg q3, l_1, hb, e, l_0, if_neg yes_zero, g1_1, qbnd_s, a1, qbnd_s]
        dsimp only
        rw [n2_add]
      · rw [List.range_succ, List.foldl_append]
        show DW J2 21 (outS P _ k) D0
        unfold outS
        rw [if_pos e]
        exact a2
      · rw [a3 b i (by omega) (by omega)]; exact i2 b i hb
    · have e' : P k = false := by
        rcases bcs (P k) with q | q
        · exact q
        · exact absurd q e
      refine Or.inr ⟨J, ?_, ?_, i2⟩
      · show fX7_runsWithout_8 (n + 1) 1 (n2 o) (n2 (bits8 P)) (n2 k) (mk J L c t) = _
        rw [fX7_runsWithout_8]
        dsimp only
        rw [l_8, if_neg q3, l_1, hb, e', l_0, if_pos no_zero, n2_add]
      · rw [List.range_succ, List.foldl_append]
        show DW J 21 (outS P _ k) D0
        unfold outS
        rw [if_neg e]
        exact i1
  · obtain ⟨i1, i2⟩ := hi
    have hg := gd_out (N := N) P hG 8 (Nat.le_refl 8)
    have hB := gd_bd hg (show N < 1000000000 by omega)
    have q4 : n2 8 ≤ n2 8 := by rw [n2_le (by omega) (by omega)]; exact Nat.le_refl 8
    have q0 : oLdI 20 (mk J L c t) 24 (n2 o) = some (n2 (outAll P s 85 o)) := (st_L1 (show 22 ∈ stl by decide) ho).trans (congrArg some (i1.1.st ho))
    have hst : outAll P s 85 o ≤ 2 := (hB.ow ho).1
    refine ⟨J, ?_, hW.trial i2 i1, fun b i hb => i2 b i (by omega)⟩
    show fX7_runsWithout_8 (n + 1) 1 (n2 o) (n2 (bits8 P)) (n2 8) (mk J L c t) = _
    rw [fX7_runsWithout_8]
    dsimp only
    rw [l_8, if_pos q4, g1_1, qbnd_s, dk_P0 (by decide), qbnd_s, st_P1 (by decide), qbnd_s, q0, qbnd_s, l_1, l_0]
    by_cases e : outAll P s 85 o = 1
    · rw [if_pos (by rw [e]), qnz_1, if_pos rfl, decide_eq_true e]
      rfl
    · rw [if_neg (by rw [n2_eq (by omega) (by omega)]; exact e), qnz_0, if_pos rfl, decide_eq_false e]
      rfl
end S7T

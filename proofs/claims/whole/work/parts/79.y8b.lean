/-! PURE SIDE, THE REFERENCE: readers of a row -/
section S8B
variable {I : Nat → Nat → Int32} {L : Nat → Nat → Int64} {c t r N : Nat} {s : St} {μ : qM}
theorem one_ne : ¬ n2 1 = n2 0 := by decide +kernel
theorem fl0 : fX8_flag (n2 0) μ = some (n2 0, 0, μ) := x8_flag false
theorem fl1 : fX8_flag (n2 1) μ = some (n2 1, 0, μ) := x8_flag true
theorem r8L {k : Nat} {v : Int32} (hr : r = 217 ∨ r = 218) (hk : k < 755) (h : I r k = v) : oLdI 20 (mk I L c t) r (n2 k) = some v := (rw_L hr hk).trans (congrArg some h)
theorem x8_held (hr : r = 217 ∨ r = 218) (hR : R8 (I r) s) {i p : Nat} (hi : i < 8) (hp : p < 85) : fX8_held r (n2 i) (n2 p) (mk I L c t) = some (n2 (s p i), 0, mk I L c t) := by
  unfold fX8_held
  rw [l_85, n2_mul, n2_add, r8L hr (by omega) (hR.1 p i hp hi), qbnd_s]
theorem x8_heldMany (hr : r = 217 ∨ r = 218) (hR : R8 (I r) s) (hB : Bd s) {i : Nat} (hi : i < 8) : fX8_heldMany r (n2 i) (mk I L c t) = some (n2 (hol s i 0), 0, mk I L c t) := by
  unfold fX8_heldMany
  rw [l_0]
  have key := lp_f0 (fun n k x => fX8_heldMany_4 n r (n2 i) (n2 x) (n2 k) (mk I L c t)) 85 (by omega) (fun n p => n + bn (decide (s p i ≠ 0) && (decide (0 = 0) || decide (s p i = 0)))) (fun x => some (n2 x, 0, mk I L c t)) 0 (fun n k x hk => ?_) (fun n x => ?_)
  · exact key
  · have hm := hB.md hk hi
    show fX8_heldMany_4 (n + 1) r (n2 i) (n2 x) (n2 k) (mk I L c t) = _
    rw [fX8_heldMany_4]
    dsimp only
    rw [l_85, if_neg (by rw [n2_le (by omega) (by omega)]; omega), x8_held hr hR hi hk, qbnd_s]
    dsimp only
    rw [x8_flag0, x8_flag1, qbnd_s, qbnd_s]
    dsimp only
    rw [l_0, l_1, n2_add, n2_add, n2_add]
    by_cases e : s k i = 0
    · rw [if_pos (by rw [n2_le (by omega) (by omega)]; omega)]
      simp [e, bn]
    · rw [if_neg (by rw [n2_le (by omega) (by omega)]; omega)]
      simp [e, bn]
  · show fX8_heldMany_4 (n + 1) r (n2 i) (n2 x) (n2 85) (mk I L c t) = _
    rw [fX8_heldMany_4]
    dsimp only
    rw [l_85, if_pos (by rw [n2_le (by omega) (by omega)]; omega)]
theorem x8_aloneMany (hr : r = 217 ∨ r = 218) (hR : R8 (I r) s) (hB : Bd s) {i : Nat} (hi : i < 8) : fX8_aloneMany r (n2 i) (mk I L c t) = some (n2 (hol s i 6), 0, mk I L c t) := by
  unfold fX8_aloneMany
  rw [l_0]
  have key := lp_f0 (fun n k x => fX8_aloneMany_4 n r (n2 i) (n2 x) (n2 k) (mk I L c t)) 85 (by omega) (fun n p => n + bn (decide (s p i ≠ 0) && (decide (6 = 0) || decide (s p i = 6)))) (fun x => some (n2 x, 0, mk I L c t)) 0 (fun n k x hk => ?_) (fun n x => ?_)
  · exact key
  · have hm := hB.md hk hi
    show fX8_aloneMany_4 (n + 1) r (n2 i) (n2 x) (n2 k) (mk I L c t) = _
    rw [fX8_aloneMany_4]
    dsimp only
    rw [l_85, if_neg (by rw [n2_le (by omega) (by omega)]; omega), x8_held hr hR hi hk, qbnd_s]
    dsimp only
    rw [x8_flag0, x8_flag1, qbnd_s, qbnd_s]
    dsimp only
    rw [l_6, l_1, n2_add, n2_add, n2_add]
    by_cases e : s k i = 6
    · rw [if_pos (by rw [e])]
      simp [e, bn]
    · rw [if_neg (by rw [n2_eq (by omega) (by omega)]; omega)]
      simp [e, bn]
  · show fX8_aloneMany_4 (n + 1) r (n2 i) (n2 x) (n2 85) (mk I L c t) = _
    rw [fX8_aloneMany_4]
    dsimp only
    rw [l_85, if_pos (by rw [n2_le (by omega) (by omega)]; omega)]
theorem bits8_step (P : Nat → Bool) (k : Nat) {b : Nat} : (if P k = true then b ||| (1 <<< k) else b) = b ||| (if P k = true then 1 <<< k else 0) := by
  split
  · rfl
  · rw [Nat.or_zero]
theorem x8_so (hr : r = 217 ∨ r = 218) (hR : R8 (I r) s) (hB : Bd s) {h : Nat} (hh : h ≤ 2) : fX8_so r (n2 h) (mk I L c t) = some (n2 (bits8 fun o => decide (s 85 o = h)), 0, mk I L c t) := by
  unfold fX8_so
  rw [l_0]
  have key := lp_f0 (fun n k x => fX8_so_4 n r (n2 h) (n2 x) (n2 k) (mk I L c t)) 8 (by omega) (fun b j => if decide (s 85 j = h) = true then b ||| (1 <<< j) else b) (fun x => some (n2 x, 0, mk I L c t)) 0 (fun n k x hk => ?_) (fun n x => ?_)
  · exact key
  · have hst := (hB.ow hk).1
    show fX8_so_4 (n + 1) r (n2 h) (n2 x) (n2 k) (mk I L c t) = _
    rw [fX8_so_4]
    dsimp only
    rw [l_8, if_neg (by rw [n2_le (by omega) (by omega)]; omega), l_680, n2_add, r8L hr (by omega) (hR.2.1 k hk).1, qbnd_s, l_0, l_1, l_31, n2_31 (by omega), n2_shl (by omega), n2_or, n2_or, n2_add]
    by_cases e : s 85 k = h
    · rw [if_pos (by rw [e]), if_pos (decide_eq_true e)]
    · rw [if_neg (by rw [n2_eq (by omega) (by omega)]; exact e), if_neg (by simp [e]), Nat.or_zero]
  · show fX8_so_4 (n + 1) r (n2 h) (n2 x) (n2 8) (mk I L c t) = _
    rw [fX8_so_4]
    dsimp only
    rw [l_8, if_pos (by rw [n2_le (by omega) (by omega)]; omega)]
theorem x8_isIn (hr : r = 217 ∨ r = 218) (hR : R8 (I r) s) (hB : Bd s) {i p : Nat} (hi : i < 8) (hp : p < 85) : fX8_isIn r (n2 i) (n2 p) (mk I L c t) = some (n2 (bn (decide (s 89 i = p))), 0, mk I L c t) := by
  have hb := hB.ow hi
  have h85 := hb.1
  have h89 : s 89 i ≤ 85 := hb.2.2.2.1
  have hw : s 85 i = 2 ↔ s 89 i < 85 := hb.2.2.2.2.2.2.2.2
  unfold fX8_isIn
  rw [l_680, n2_add, r8L hr (by omega) (hR.2.1 i hi).1, qbnd_s, l_2, l_712, n2_add, r8L hr (by omega) (hR.2.1 i hi).2.2.2.2.1, qbnd_s, l_0, l_1, if_pos no_qz, if_pos yes_qz]
  by_cases e : s 85 i = 2
  · rw [if_pos (by rw [e])]
    by_cases e2 : s 89 i = p
    · rw [if_pos (by rw [e2]), decide_eq_true e2]
      rfl
    · rw [if_neg (by rw [n2_eq (by omega) (by omega)]; exact e2), decide_eq_false e2]
      rfl
  · rw [if_neg (by rw [n2_eq (by omega) (by omega)]; exact e), decide_eq_false (by omega)]
    rfl
theorem x8_isChange (hr : r = 217 ∨ r = 218) (hR : R8 (I r) s) (hB : Bd s) {i : Nat} (hi : i < 8) (hw : s 89 i < 85) : fX8_isChange r (n2 i) (mk I L c t) = some (n2 (bn (chg s i)), 0, mk I L c t) := by
  have hm := hB.md hw hi
  unfold fX8_isChange
  rw [l_712, n2_add, r8L hr (by omega) (hR.2.1 i hi).2.2.2.2.1, qbnd_s, x8_held hr hR hi hw, qbnd_s]
  dsimp only
  rw [l_0, l_1, if_pos no_qz, if_pos yes_qz]
  unfold chg
  rw [decide_eq_true (show s 89 i ≠ 85 by omega), Bool.true_and]
  by_cases e : s (s 89 i) i = 0
  · rw [if_pos (by rw [n2_le (by omega) (by omega)]; omega)]
    simp [e, bn]
  · rw [if_neg (by rw [n2_le (by omega) (by omega)]; omega)]
    simp [e, bn]
theorem x8_isAhead (hr : r = 217 ∨ r = 218) (hR : R8 (I r) s) (hB : Bd s) {i j : Nat} (hi : i < 8) (hj : j < 8) (hwi : s 89 i < 85) (hwj : s 89 j < 85) : fX8_isAhead r (n2 i) (n2 j) (mk I L c t) = some (n2 (bn (ahd s i j)), 0, mk I L c t) := by
  have b1 := hB.ow hi
  have b2 := hB.ow hj
  have s1 : s 85 i = 2 := b1.2.2.2.2.2.2.2.2.mpr hwi
  have s2 : s 85 j = 2 := b2.2.2.2.2.2.2.2.2.mpr hwj
  have t1 : s 91 i ≤ s 94 0 := b1.2.2.2.2.2.1
  have t2 : s 91 j ≤ s 94 0 := b2.2.2.2.2.2.1
  have hn := hB.nu.1
  have c1 := (hR.2.1 i hi).2.2.2.2.2.2.2.2 s1
  have c2 := (hR.2.1 j hj).2.2.2.2.2.2.2.2 s2
  unfold fX8_isAhead
  rw [x8_isChange hr hR hB hj hwj, qbnd_s]
  dsimp only
  rw [x8_flag, qbnd_s]
  dsimp only
  rw [x8_isChange hr hR hB hi hwi, qbnd_s]
  dsimp only
  rw [x8_flag, qbnd_s]
  dsimp only
  rw [l_744, n2_add, n2_add, r8L hr (by omega) c1, qbnd_s, r8L hr (by omega) c2, qbnd_s, l_0, l_1, if_pos no_qz, if_pos yes_qz]
  unfold ahd
  have ht : (n2 (s 91 j + 1) ≤ n2 (s 91 i + 1)) = ¬ (s 91 i < s 91 j) := by
    rw [n2_le (by omega) (by omega)]
    exact propext ⟨fun h => by omega, fun h => by omega⟩
  rcases bcs (chg s i) with e1 | e1 <;> rcases bcs (chg s j) with e2 | e2 <;> rw [e1, e2]
  · rw [if_neg (show ¬ n2 (bn false) - n2 (bn false) < n2 0 by decide +kernel), if_pos (show n2 (bn false) - n2 (bn false) = n2 0 by decide +kernel), if_pos rfl]
    by_cases e : s 91 i < s 91 j
    · rw [if_neg (by rw [ht]; exact fun z => z e), decide_eq_true e]; rfl
    · rw [if_pos (by rw [ht]; exact e), decide_eq_false e]; rfl
  · rw [if_neg (show ¬ n2 (bn true) - n2 (bn false) < n2 0 by decide +kernel), if_neg (show ¬ n2 (bn true) - n2 (bn false) = n2 0 by decide +kernel)]
    rfl
  · rw [if_pos (show n2 (bn false) - n2 (bn true) < n2 0 by decide +kernel)]
    rfl
  · rw [if_neg (show ¬ n2 (bn true) - n2 (bn true) < n2 0 by decide +kernel), if_pos (show n2 (bn true) - n2 (bn true) = n2 0 by decide +kernel), if_pos rfl]
    by_cases e : s 91 i < s 91 j
    · rw [if_neg (by rw [ht]; exact fun z => z e), decide_eq_true e]; rfl
    · rw [if_pos (by rw [ht]; exact e), decide_eq_false e]; rfl
theorem x8_queued (hr : r = 217 ∨ r = 218) (hR : R8 (I r) s) (hB : Bd s) {p : Nat} (hp : p < 85) : fX8_queued r (n2 p) (mk I L c t) = some (n2 (reqs s p), 0, mk I L c t) := by
  unfold fX8_queued
  rw [l_0]
  have key := lp_f0 (fun n k x => fX8_queued_4 n r (n2 p) (n2 x) (n2 k) (mk I L c t)) 8 (by omega) (fun n j => n + bn (decide (s 89 j = p))) (fun x => some (n2 x, 0, mk I L c t)) 0 (fun n k x hk => ?_) (fun n x => ?_)
  · exact key
  · show fX8_queued_4 (n + 1) r (n2 p) (n2 x) (n2 k) (mk I L c t) = _
    rw [fX8_queued_4]
    dsimp only
    rw [l_8, if_neg (by rw [n2_le (by omega) (by omega)]; omega), x8_isIn hr hR hB hk hp, qbnd_s]
    dsimp only
    rw [x8_flag, qbnd_s]
    dsimp only
    rw [l_1, n2_add, n2_add]
  · show fX8_queued_4 (n + 1) r (n2 p) (n2 x) (n2 8) (mk I L c t) = _
    rw [fX8_queued_4]
    dsimp only
    rw [l_8, if_pos (by rw [n2_le (by omega) (by omega)]; omega)]
def hcg (s : St) (p : Nat) : Bool := (List.range 8).foldl (fun b j => b || decide (s 89 j = p) && chg s j) false
theorem x8_hasChange (hr : r = 217 ∨ r = 218) (hR : R8 (I r) s) (hB : Bd s) {p : Nat} (hp : p < 85) : fX8_hasChange r (n2 p) (mk I L c t) = some (n2 (bn (hcg s p)), 0, mk I L c t) := by
  unfold fX8_hasChange
  rw [l_0]
  have key := lp_f0 (fun n k b => fX8_hasChange_4 n r (n2 p) (n2 (bn b)) (n2 k) (mk I L c t)) 8 (by omega) (fun b j => b || decide (s 89 j = p) && chg s j) (fun b => some (n2 (bn b), 0, mk I L c t)) false (fun n k b hk => ?_) (fun n x => ?_)
  · exact key
  · show fX8_hasChange_4 (n + 1) r (n2 p) (n2 (bn b)) (n2 k) (mk I L c t) = _
    rw [fX8_hasChange_4]
    dsimp only
    rw [l_8, if_neg (by rw [n2_le (by omega) (by omega)]; omega), x8_isIn hr hR hB hk hp, qbnd_s]
    dsimp only
    rw [l_0, l_1, n2_add]
    cases b with
    | true =>
      rw [if_neg yes_zero]
      rfl
    | false =>
      rw [if_pos no_zero]
      by_cases e : s 89 k = p
      · rw [decide_eq_true e, if_neg yes_zero, x8_isChange hr hR hB hk (by omega), qbnd_s]
        dsimp only
        rcases bcs (chg s k) with e2 | e2
        · rw [e2, if_pos no_zero]
          rfl
        · rw [e2, if_neg yes_zero]
          rfl
      · rw [decide_eq_false e, if_pos no_zero]
        rfl
  · show fX8_hasChange_4 (n + 1) r (n2 p) (n2 (bn x)) (n2 8) (mk I L c t) = _
    rw [fX8_hasChange_4]
    dsimp only
    rw [l_8, if_pos (by rw [n2_le (by omega) (by omega)]; omega), if_pos (qz_b _)]
theorem x8_aheadOf (hr : r = 217 ∨ r = 218) (hR : R8 (I r) s) (hB : Bd s) {i : Nat} (hi : i < 8) (hw : s 89 i < 85) : fX8_aheadOf r (n2 i) (mk I L c t) = some (n2 (posn s i), 0, mk I L c t) := by
  unfold fX8_aheadOf
  rw [l_0]
  have key := lp_f0 (fun n k x => fX8_aheadOf_4 n r (n2 i) (n2 x) (n2 k) (mk I L c t)) 8 (by omega) (fun n j => n + bn (decide (j ≠ i) && decide (s 89 j = s 89 i) && ahd s j i)) (fun x => some (n2 x, 0, mk I L c t)) 0 (fun n k x hk => ?_) (fun n x => ?_)
  · exact key
  · show fX8_aheadOf_4 (n + 1) r (n2 i) (n2 x) (n2 k) (mk I L c t) = _
    rw [fX8_aheadOf_4]
    dsimp only
    rw [l_8, if_neg (by rw [n2_le (by omega) (by omega)]; omega), x8_flag0, qbnd_s]
    dsimp only
    rw [l_712, n2_add, n2_add, r8L hr (by omega) (hR.2.1 i hi).2.2.2.2.1, qbnd_s, x8_isIn hr hR hB hk hw, qbnd_s]
    dsimp only
    rw [l_0, l_1, n2_add]
    by_cases e1 : k = i
    · rw [if_pos (by rw [e1])]
      simp [e1, bn]
    · rw [if_neg (by rw [n2_eq (by omega) (by omega)]; exact e1)]
      by_cases e2 : s 89 k = s 89 i
      · rw [decide_eq_true e2, if_neg yes_zero, x8_isAhead hr hR hB hk hi (by omega) hw, qbnd_s]
        dsimp only
        rcases bcs (ahd s k i) with e3 | e3
        · rw [e3, if_pos no_zero, fl0, qbnd_s]
          dsimp only
          rw [n2_add]
          simp [bn]
        · rw [e3, if_neg yes_zero, fl1, qbnd_s]
          dsimp only
          rw [n2_add]
          simp [bn, e1]
      · rw [decide_eq_false e2, if_pos no_zero, fl0, qbnd_s]
        dsimp only
        rw [n2_add]
        simp [bn]
  · show fX8_aheadOf_4 (n + 1) r (n2 i) (n2 x) (n2 8) (mk I L c t) = _
    rw [fX8_aheadOf_4]
    dsimp only
    rw [l_8, if_pos (by rw [n2_le (by omega) (by omega)]; omega)]
end S8B

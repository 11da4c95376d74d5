/-! PURE SIDE, THE REFERENCE: what lies below, whether one can gather -/
section S8F
variable {I : Nat → Nat → Int32} {L : Nat → Nat → Int64} {c t r N T : Nat} {s : St} {μ : qM}
theorem bel_page : ∀ q, q < 21 → 5 ≤ q → bel q = (List.range 4).map fun k => 21 + 4 * (q - 5) + k := by decide +kernel
theorem x8_rowsHeld (hr : r = 217 ∨ r = 218) (hR : R8 (I r) s) (hB : Bd s) {i q : Nat} (hi : i < 8) (hq : q < 21) (hq5 : 5 ≤ q) : fX8_rowsHeld r (n2 i) (n2 q) (mk I L c t) = some (n2 (hbel s i q), 0, mk I L c t) := by
  have hh : hbel s i q = (List.range 4).foldl (fun n k => n + bn (decide (s (21 + 4 * (q - 5) + k) i ≠ 0))) 0 := by
    unfold hbel
    rw [bel_page q hq hq5, List.foldl_map]
  rw [hh]
  unfold fX8_rowsHeld
  rw [l_0]
  have key := lp_f0 (fun n k x => fX8_rowsHeld_4 n r (n2 i) (n2 q) (n2 x) (n2 k) (mk I L c t)) 4 (by omega) (fun n k => n + bn (decide (s (21 + 4 * (q - 5) + k) i ≠ 0))) (fun x => some (n2 x, 0, mk I L c t)) 0 (fun n k x hk => ?_) (fun n x => ?_)
  · exact key
  · have hp : 21 + 4 * (q - 5) + k < 85 := by omega
    have hm := hB.md hp hi
    show fX8_rowsHeld_4 (n + 1) r (n2 i) (n2 q) (n2 x) (n2 k) (mk I L c t) = _
    rw [fX8_rowsHeld_4]
    dsimp only
    rw [l_4, if_neg (by rw [n2_le (by omega) (by omega)]; omega), l_21, l_5, n2_sub hq5, n2_mul, n2_add, n2_add, x8_held hr hR hi hp, qbnd_s]
    dsimp only
    rw [l_0, fl0, l_1, fl1, qbnd_s, qbnd_s]
    dsimp only
    rw [n2_add, n2_add, n2_add]
    by_cases e : s (21 + 4 * (q - 5) + k) i = 0
    · rw [if_pos (by rw [n2_le (by omega) (by omega)]; omega)]
      simp [e, bn]
    · rw [if_neg (by rw [n2_le (by omega) (by omega)]; omega)]
      simp [e, bn]
  · show fX8_rowsHeld_4 (n + 1) r (n2 i) (n2 q) (n2 x) (n2 4) (mk I L c t) = _
    rw [fX8_rowsHeld_4]
    dsimp only
    rw [l_4, if_pos (by rw [n2_le (by omega) (by omega)]; omega)]
theorem hbel_gP {i g : Nat} (hg : g < 85) : (List.range' (g + 1) (85 - (g + 1))).foldl (fun n q => n + bn (gP s i g q)) 0 = hbel s i g := by
  rw [cnt_fold, Nat.zero_add, List.countP_eq_length_filter]
  have h1 := gP_gL (s := s) (o := i) hg
  unfold rk at h1
  rw [h1, hbel_cnt, List.countP_eq_length_filter]
  rfl
theorem x8_belowMany (hr : r = 217 ∨ r = 218) (hR : R8 (I r) s) (hB : Bd s) {i g : Nat} (hi : i < 8) (hg : g < 85) : fX8_belowMany r (n2 i) (n2 g) (mk I L c t) = some (n2 (hbel s i g), 0, mk I L c t) := by
  rw [← hbel_gP (s := s) (i := i) hg]
  unfold fX8_belowMany
  rw [l_0, l_1, n2_add]
  refine lp_f (fun n k x => fX8_belowMany_6 n r (n2 i) (n2 g) (n2 x) (n2 k) (mk I L c t)) 85 (fun n q => n + bn (gP s i g q)) (fun x => some (n2 x, 0, mk I L c t)) (fun n k x hk => ?_) (fun n x => ?_) (85 - (g + 1)) (g + 1) qfu 0 (by omega) (by rw [qfu_eq]; omega)
  · have hm := hB.md hk hi
    show fX8_belowMany_6 (n + 1) r (n2 i) (n2 g) (n2 x) (n2 k) (mk I L c t) = _
    rw [fX8_belowMany_6]
    dsimp only
    rw [l_85, if_neg (by rw [n2_le (by omega) (by omega)]; omega), x8_isBelow hk hg, qbnd_s]
    dsimp only
    rw [l_0, l_1, fl0, qbnd_s]
    dsimp only
    rw [x8_held hr hR hi hk, qbnd_s]
    dsimp only
    rw [fl0, fl1, qbnd_s, qbnd_s]
    dsimp only
    rw [n2_add, n2_add, n2_add]
    unfold gP
    rw [decide_eq_true hk, Bool.true_and]
    rcases bcs (blw k g) with e1 | e1
    · rw [e1, if_pos no_zero]
      rfl
    · rw [e1, if_neg yes_zero, Bool.true_and]
      by_cases e : s k i = 0
      · rw [if_pos (by rw [n2_le (by omega) (by omega)]; omega)]
        simp [e, bn]
      · rw [if_neg (by rw [n2_le (by omega) (by omega)]; omega)]
        simp [e, bn]
  · show fX8_belowMany_6 (n + 1) r (n2 i) (n2 g) (n2 x) (n2 85) (mk I L c t) = _
    rw [fX8_belowMany_6]
    dsimp only
    rw [l_85, if_pos (by rw [n2_le (by omega) (by omega)]; omega)]
def gmB (s : St) (i g q : Nat) : Bool := !(blw q g) || (decide (s q i = 0) || decide (s q i = 1 ∨ s q i = 3))
theorem gm_any (s : St) (i : Nat) {g : Nat} (hg : g < 85) : ((List.range' (g + 1) (85 - (g + 1))).foldl (fun b q => b && gmB s i g q) true) = !((bel g).any fun q => !(decide (s q i = 0) || decide (s q i = 1) || decide (s q i = 3))) := by
  have hf : ∀ l : List Nat, ∀ b, l.foldl (fun b q => b && gmB s i g q) b = (b && l.all (gmB s i g)) := by
    intro l
    induction l with
    | nil => intro b; simp
    | cons x l ih => intro b; rw [List.foldl_cons, ih, List.all_cons, Bool.and_assoc]
  rw [hf, Bool.true_and, Bool.eq_iff_iff, List.all_eq_true, Bool.not_eq_true', List.any_eq_false]
  constructor
  · intro h q hq
    obtain ⟨q1, q2⟩ := bel_iff.mp hq
    have hgt := blw_gt q q1 g hg q2
    have := h q (List.mem_range'_1.mpr ⟨by omega, by omega⟩)
    unfold gmB at this
    rw [q2] at this
    intro z
    by_cases e0 : s q i = 0
    · simp [e0] at z
    · by_cases e1 : s q i = 1
      · simp [e1] at z
      · by_cases e3 : s q i = 3
        · simp [e3] at z
        · simp [e0, e1, e3] at this
  · intro h q hq
    unfold gmB
    rcases bcs (blw q g) with e | e
    · rw [e]; rfl
    · have hq85 : q < 85 := by have := List.mem_range'_1.mp hq; omega
      have := h q (bel_iff.mpr ⟨hq85, e⟩)
      rw [e]
      by_cases e0 : s q i = 0
      · simp [e0]
      · by_cases e1 : s q i = 1
        · simp [e1]
        · by_cases e3 : s q i = 3
          · simp [e3]
          · exact absurd (by simp [e0, e1, e3]) this
theorem both_6 : ∀ x, x < 7 → both x 6 = 6 := by decide +kernel
theorem x8_gatheredMode (hr : r = 217 ∨ r = 218) (hR : R8 (I r) s) (hB : Bd s) {i g : Nat} (hi : i < 8) (hg : g < 85) : fX8_gatheredMode r (n2 i) (n2 g) (mk I L c t) = some (n2 (gmode s i g), 0, mk I L c t) := by
  have hmg := hB.md hg hi
  have hgm : gmode s i g = if ((List.range' (g + 1) (85 - (g + 1))).foldl (fun b q => b && gmB s i g q) true) = true then both (s g i) 3 else 6 := by
    rw [gm_any s i hg]
    unfold gmode
    rcases bcs ((bel g).any fun q => !(decide (s q i = 0) || decide (s q i = 1) || decide (s q i = 3))) with e | e
    · rw [e, if_neg Bool.false_ne_true]
      rfl
    · rw [e, if_pos rfl]
      rfl
  rw [hgm]
  unfold fX8_gatheredMode
  rw [l_1, n2_add]
  refine lp_f (fun n k b => fX8_gatheredMode_6 n r (n2 i) (n2 g) (n2 (bn b)) (n2 k) (mk I L c t)) 85 (fun b q => b && gmB s i g q) (fun b => some (n2 (if b = true then both (s g i) 3 else 6), 0, mk I L c t)) (fun n k b hk => ?_) (fun n b => ?_) (85 - (g + 1)) (g + 1) qfu true (by omega) (by rw [qfu_eq]; omega)
  · have hm := hB.md hk hi
    show fX8_gatheredMode_6 (n + 1) r (n2 i) (n2 g) (n2 (bn b)) (n2 k) (mk I L c t) = _
    rw [fX8_gatheredMode_6]
    dsimp only
    rw [l_85, if_neg (by rw [n2_le (by omega) (by omega)]; omega), x8_held hr hR hi hk, qbnd_s]
    dsimp only
    rw [l_0, l_1, n2_add, x8_isBelow hk hg, qbnd_s]
    dsimp only
    rw [x8_isShared hm, qbnd_s]
    dsimp only
    cases b with
    | false =>
      rw [if_pos no_zero]
      rfl
    | true =>
      rw [if_neg yes_zero, Bool.true_and]
      unfold gmB
      rcases bcs (blw k g) with e | e
      · rw [e, if_pos no_zero]
        rfl
      · rw [e, if_neg yes_zero]
        by_cases e0 : s k i = 0
        · rw [if_pos (by rw [e0]), decide_eq_true e0]
          rfl
        · rw [if_neg (by rw [n2_eq (by omega) (by omega)]; exact e0), decide_eq_false e0]
          by_cases e1 : s k i = 1 ∨ s k i = 3
          · rw [decide_eq_true e1, if_neg yes_zero]
            rfl
          · rw [decide_eq_false e1, if_pos no_zero]
            rfl
  · show fX8_gatheredMode_6 (n + 1) r (n2 i) (n2 g) (n2 (bn b)) (n2 85) (mk I L c t) = _
    rw [fX8_gatheredMode_6]
    dsimp only
    rw [l_85, if_pos (by rw [n2_le (by omega) (by omega)]; omega), x8_held hr hR hi hg, qbnd_s]
    dsimp only
    rw [l_0, l_6, l_3, x8_both hmg (by omega), qbnd_s]
    dsimp only
    rw [x8_both hmg (by omega), qbnd_s, both_6 _ (by omega)]
    cases b with
    | false => rw [if_pos no_zero, if_neg Bool.false_ne_true]
    | true => rw [if_neg yes_zero, if_pos rfl]
theorem x8_canGather (hr : r = 217 ∨ r = 218) (hR : R8 (I r) s) (h : Iv T s) (hT : T < 1000000000) {i g : Nat} (hi : i < 8) (hg : g < 85) : fX8_canGather r (n2 i) (n2 g) (mk I L c t) = some (n2 (bn (canG s i g)), 0, mk I L c t) := by
  have hB := h.bd hT
  have hb := hbel_lt s i g
  have hm := gmode_le hB hi hg
  unfold fX8_canGather
  rw [x8_belowMany hr hR hB hi hg, qbnd_s]
  dsimp only
  rw [l_0, l_1, if_pos no_qz]
  unfold canG
  by_cases e : hbel s i g = 0
  · rw [if_pos (by rw [n2_le (by omega) (by omega)]; omega)]
    simp [e, bn]
  · rw [if_neg (by rw [n2_le (by omega) (by omega)]; omega), decide_eq_true e, Bool.true_and, x8_hasChange hr hR hB hg, qbnd_s]
    dsimp only
    obtain ⟨q, q1, q2, q3⟩ := hbel_pos e
    have hne := tree_blw h hi q1 hg q2 q3
    rw [opn_8 hg, if_neg hne]
    rcases bcs (hcg s g) with e1 | e1
    · rw [e1, if_pos no_zero, x8_gatheredMode hr hR hB hi hg, qbnd_s]
      dsimp only
      rw [x8_goesWithOthers hr hR hB hi hg hm, qbnd_s]
      dsimp only
      rw [if_pos yes_qz, if_pos no_qz]
      rcases bcs (fitb s i g (gmode s i g)) with e2 | e2
      · rw [e2, if_pos no_zero]
        rfl
      · rw [e2, if_neg yes_zero]
        rfl
    · rw [e1, if_neg yes_zero]
      rfl
end S8F

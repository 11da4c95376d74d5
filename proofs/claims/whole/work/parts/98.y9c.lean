/-! PURE SIDE, THE REFERENCE: signs, counts, what is held in common -/
theorem shr_sgv (v : Int32) : ∀ k, k < 4 → (v >>> n2 (24 - 8 * k)) &&& n2 255 = n2 (sgv v k) := by
  intro k hk
  rw [← (sgv_ok v k).2]
  apply i32_ext
  intro i hi
  rw [Int32.toBitVec_and, Int32.toBitVec_and, BitVec.getLsbD_and, BitVec.getLsbD_and, qush_bv v (by omega), Int32.toBitVec_shiftRight, n2_bv, n2_bv, n2_smod _ (by omega)]
  rw [BitVec.sshiftRight_eq', BitVec.toNat_ofNat, Nat.mod_eq_of_lt (by omega), BitVec.getLsbD_sshiftRight, BitVec.getLsbD_ushiftRight, BitVec.getLsbD_ofNat]
  by_cases e : i < 8
  · have h1 : 24 - 8 * k + i < 32 := by omega
    simp [h1, show ¬ 32 ≤ i by omega]
  · have : (255 : Nat).testBit i = false := Nat.testBit_lt_two_pow (Nat.lt_of_lt_of_le (by decide : 255 < 2 ^ 8) (Nat.pow_le_pow_right (by omega) (by omega)))
    rw [this]
    simp
section S9C
variable {I I' : Nat → Nat → Int32} {L : Nat → Nat → Int64} {c t r N T n : Nat} {s s' s0 : St} {μ : qM} {h : List St} {kp : Nat → Option St} {tx : List Nat} {row : List Int64} {cs : List Nat}
/-- the tape is another -/
theorem W8.tape [FB] (w : W8 I L s h kp tx row cs) (f : ∀ b i, b ≠ 212 → ¬ (b = 210 ∧ i = 4) → I' b i = I b i) {tx' : List Nat} (ht : Tp8 I' tx') : W8 I' L s h kp tx' row cs := by
  obtain ⟨G, hG⟩ := w.ga
  have k : ∀ i, i ≠ 4 → I' 210 i = I 210 i := fun i hi => f _ _ (by omega) (by omega)
  have a : ∀ b i, b ≠ 212 → b ≠ 210 → I' b i = I b i := fun b i h1 h2 => f b i h1 (by omega)
  exact ⟨w.nw.on fun _ _ => a _ _ (by omega) (by omega), ⟨G, (k 16 (by omega)).trans hG⟩, w.un.on (k 18 (by omega)) fun i => a _ _ (by omega) (by omega), w.ke.on (fun i => a _ _ (by omega) (by omega)) fun i => a _ _ (by omega) (by omega), ht, w.ro.on (k 1 (by omega)), w.cd.on (k 10 (by omega)) fun i => a _ _ (by omega) (by omega)⟩
theorem y8_sign [FB] (w : W8 I L s h kp tx row cs) (v : Int32) : ∃ I', fX8_sign 210 v (mk I L c t) = some (if tx.length ≤ 76 then n2 (tx.length + 4) else -n2 1, 0, mk I' L c t) ∧ W8 I' L s h kp (if tx.length ≤ 76 then tx ++ [sgv v 0, sgv v 1, sgv v 2, sgv v 3] else tx) row cs ∧ Fy I I' := by
  have w1 := w.sc (thr0 (I := I))
  obtain ⟨t1, t2, t3⟩ := w1.te
  have head : fX8_sign 210 v (mk I L c t) = if tx.length ≤ 76 then fX8_sign_11 qfu 210 v (n2 0) (mk (upI I 210 0 (n2 0)) L c t) else some (-n2 1, 0, mk (upI I 210 0 (n2 0)) L c t) := by
    unfold fX8_sign
    rw [if_pos (by rw [kk_210])]
    unfold gX8_sign
    rw [l_0, u210_0, qbnd_s, g210_4, qbnd_s, t1, l_76, l_1]
    by_cases e : tx.length ≤ 76
    · rw [if_pos (by rw [n2_le (by omega) (by omega)]; exact e), if_pos e]
    · rw [if_neg (by rw [n2_le (by omega) (by omega)]; exact e), if_neg e]
  rw [head]
  by_cases e : tx.length ≤ 76
  · rw [if_pos e, if_pos e, if_pos e]
    obtain ⟨J, hJ⟩ : ∃ J, upI I 210 0 (n2 0) = J := ⟨_, rfl⟩
    rw [hJ] at w1 t1 t3 ⊢
    have hJv : Fy I J := by rw [← hJ]; exact thr0.v
    refine lp_rk (α := Nat → Nat → Int32) (fun f k K => fX8_sign_11 f 210 v (n2 k) (mk K L c t)) 4 (fun k K => (∀ b i, b ≠ 212 → K b i = J b i) ∧ (∀ i, i < tx.length → K 212 i = J 212 i) ∧ ∀ i, i < k → K 212 (tx.length + i) = n2 (sgv v i)) (fun q => ∃ I', q = some (n2 (tx.length + 4), 0, mk I' L c t) ∧ W8 I' L s h kp (tx ++ [sgv v 0, sgv v 1, sgv v 2, sgv v 3]) row cs ∧ Fy I I') (k0 := 0) (by omega) (by omega) J ⟨fun _ _ _ => rfl, fun _ _ => rfl, fun i hi => absurd hi (Nat.not_lt_zero i)⟩ (fun f k K _ hk hi => Or.inr ?_) (fun f K hi => ?_)
    · obtain ⟨i1, i2, i3⟩ := hi
      have h4 : K 210 4 = n2 tx.length := (i1 _ _ (by omega)).trans t1
      refine ⟨upI K 212 (tx.length + k) (n2 (sgv v k)), ?_, fun b i hb => by rw [upI_ne hb]; exact i1 b i hb, fun i hi => by rw [upI_ni (by omega)]; exact i2 i hi, fun i hi => ?_⟩
      · show fX8_sign_11 (f + 1) 210 v (n2 k) (mk K L c t) = _
        rw [fX8_sign_11]
        dsimp only
        rw [l_4, if_neg (by rw [n2_le (by omega) (by omega)]; omega), g210_3, qbnd_s, g210_4, qbnd_s, h4, l_24, l_8, n2_mul, n2_sub (by omega), l_31, n2_31 (by omega), l_255, shr_sgv v k hk, n2_add, sd212 (by omega), qbnd_s, l_1, n2_add]
      · by_cases e2 : i = k
        · rw [e2, upI_eq]
        · rw [upI_ni (by omega)]
          exact i3 i (by omega)
    · obtain ⟨i1, i2, i3⟩ := hi
      have h4 : K 210 4 = n2 tx.length := (i1 _ _ (by omega)).trans t1
      refine ⟨upI K 210 4 (n2 (tx.length + 4)), ?_, w1.tape (fun b i h1 h2 => ?_) ⟨by rw [upI_eq]; simp, by simp; omega, fun i hi => ?_⟩, hJv.trans fun b i hb => by rw [upI_ne (by omega)]; exact i1 b i (by omega)⟩
      · show fX8_sign_11 (f + 1) 210 v (n2 4) (mk K L c t) = _
        rw [fX8_sign_11]
        dsimp only
        rw [l_4, if_pos (by rw [n2_le (by omega) (by omega)]; omega), g210_4, qbnd_s, h4, n2_add, u210_4, qbnd_s, g210_4, qbnd_s, upI_eq]
      · have : (upI K 210 4 (n2 (tx.length + 4))) b i = K b i := by
          by_cases e : b = 210
          · rw [e]; exact upI_ni (fun z => h2 ⟨e, z⟩)
          · exact upI_ne e
        rw [this]
        exact i1 b i h1
      · rw [upI_ne (by omega)]
        simp only [List.length_append, List.length_cons, List.length_nil] at hi
        by_cases e2 : i < tx.length
        · rw [List.getD_eq_getElem?_getD, List.getElem?_append_left e2, ← List.getD_eq_getElem?_getD, i2 i e2]
          exact t3 i e2
        · obtain ⟨j, rfl⟩ : ∃ j, i = tx.length + j := ⟨i - tx.length, by omega⟩
          have hj : j < 4 := by omega
          rw [i3 j hj, List.getD_eq_getElem?_getD, List.getElem?_append_right (by omega), show tx.length + j - tx.length = j by omega]
          have hjc : j = 0 ∨ j = 1 ∨ j = 2 ∨ j = 3 := by omega
          rcases hjc with rfl | rfl | rfl | rfl
          · exact ⟨rfl, (sgv_ok v 0).1⟩
          · exact ⟨rfl, (sgv_ok v 1).1⟩
          · exact ⟨rfl, (sgv_ok v 2).1⟩
          · exact ⟨rfl, (sgv_ok v 3).1⟩
  · rw [if_neg e, if_neg e, if_neg e]
    exact ⟨_, rfl, w1, thr0.v⟩
theorem Tp8.take (hT : Tp8 I tx) {k : Nat} (hk : k ≤ tx.length) : Tp8 (upI I 210 4 (n2 k)) (tx.take k) := by
  obtain ⟨t1, t2, t3⟩ := hT
  have hm : (tx.take k).length = k := by rw [List.length_take]; omega
  refine ⟨by rw [upI_eq, hm], by omega, fun i hi => ?_⟩
  rw [hm] at hi
  rw [upI_ne (by omega), List.getD_eq_getElem?_getD, List.getElem?_take, if_pos hi, ← List.getD_eq_getElem?_getD]
  exact t3 i (by omega)
theorem W8.cut [FB] (w : W8 I L s h kp tx row cs) {k : Nat} (hk : k ≤ tx.length) : W8 (upI I 210 4 (n2 k)) L s h kp (tx.take k) row cs := by
  refine w.tape (fun b i h1 h2 => ?_) (w.te.take hk)
  by_cases e : b = 210
  · rw [e]; exact upI_ni (fun z => h2 ⟨e, z⟩)
  · exact upI_ne e
theorem y8_end [FB] (w : W8 I L s h kp tx row cs) (x : Int32) : ∃ I', fX8_end 210 x (mk I L c t) = some (n2 (bn (decide (¬ x < n2 0 ∧ nIx x ≤ tx.length))), 0, mk I' L c t) ∧ W8 I' L s h kp (if ¬ x < n2 0 ∧ nIx x ≤ tx.length then tx.take (nIx x) else tx) row cs ∧ Fy I I' := by
  have w1 := w.sc (thr0 (I := I))
  obtain ⟨t1, t2, t3⟩ := w1.te
  have hiff : (0 ≤ nIx x ∧ nIx x ≤ tx.length) ↔ (¬ x < n2 0 ∧ nIx x ≤ tx.length) := by
    constructor
    · intro z
      refine ⟨fun e => ?_, z.2⟩
      have := nIx_m e
      omega
    · intro z
      exact ⟨Nat.zero_le _, z.2⟩
  unfold fX8_end
  rw [if_pos (by rw [kk_210])]
  unfold gX8_end
  rw [l_0, u210_0, qbnd_s, g210_4, qbnd_s, t1, x8_in x (lo := 0) (hi := tx.length) (a := 0) (by omega) (by omega) rfl rfl, qbnd_s]
  dsimp only
  rw [decide_eq_decide.mpr hiff]
  by_cases e : ¬ x < n2 0 ∧ nIx x ≤ tx.length
  · rw [decide_eq_true e, if_neg yes_zero, if_pos e]
    obtain ⟨k, hk, rfl⟩ := nIx_ex (x := x) (B := 81) (by omega) (by omega)
    rw [nIx_n (by omega)] at e ⊢
    refine ⟨_, ?_, w1.cut e.2, thr0.v.trans (.up (by omega))⟩
    rw [u210_4, qbnd_s, l_1, if_pos yes_qz]
    rfl
  · rw [decide_eq_false e, if_pos no_zero, if_neg e, if_pos no_qz]
    exact ⟨_, rfl, w1, thr0.v⟩
theorem x8_fallsOf (hr : r = 217 ∨ r = 218) (hR : R8 (I r) s) : fX8_fallsOf r (mk I L c t) = some (n2 (allfal s), 0, mk I L c t) := by
  unfold fX8_fallsOf
  rw [l_0]
  refine lp_f0 (α := Nat) (fun f k x => fX8_fallsOf_4 f r (n2 x) (n2 k) (mk I L c t)) 8 (by omega) (fun n o => n + s 88 o) (fun x => some (n2 x, 0, mk I L c t)) 0 (fun f k x hk => ?_) (fun f x => ?_)
  · show fX8_fallsOf_4 (f + 1) r (n2 x) (n2 k) (mk I L c t) = _
    rw [fX8_fallsOf_4]
    dsimp only
    rw [l_8, if_neg (by rw [n2_le (by omega) (by omega)]; omega), l_704, n2_add, r8L hr (by omega) (hR.2.1 k hk).2.2.2.1, qbnd_s, n2_add, l_1, n2_add]
  · show fX8_fallsOf_4 (f + 1) r (n2 x) (n2 8) (mk I L c t) = _
    rw [fX8_fallsOf_4]
    dsimp only
    rw [l_8, if_pos (by rw [n2_le (by omega) (by omega)]; omega)]
theorem y8_count [FB] (w : W8 I L s h kp tx row cs) (hG : Gd N s) (hN : N < 900000000) (x : Int32) : ∃ I', fX8_count 210 x (mk I L c t) = some (countS s h tx row x, 0, mk I' L c t) ∧ W8 I' L s h kp tx row cs ∧ Fy I I' := by
  have w1 := w.sc (thr0 (I := I))
  have hB := gd_bd hG (show N < 1000000000 by omega)
  refine ⟨_, ?_, w1, thr0.v⟩
  have hr : (217 : Nat) = 217 ∨ (217 : Nat) = 218 := .inl rfl
  have b0 := x8_so (L := L) (c := c) (t := t) hr w1.nw hB (show 1 ≤ 2 by omega)
  have b1 := x8_so (L := L) (c := c) (t := t) hr w1.nw hB (Nat.le_refl 2)
  have b6 := x8_fallsOf (L := L) (c := c) (t := t) hr w1.nw
  have b7 := w1.un.1
  have b8 := w1.ro.1
  have b9 := w1.te.1
  unfold fX8_count
  rw [if_pos (by rw [kk_210])]
  unfold gX8_count
  rw [l_0, u210_0, qbnd_s]
  refine lp_f0 (α := Nat) (fun f k z => fX8_count_7 f 210 x (n2 z) (n2 k) (mk (upI I 210 0 (n2 0)) L c t)) 8 (by omega) (fun n o => n + hol s o 0) (fun z => if x = n2 0 then some (n2 (bits8 fun o => decide (s 85 o = 1)), 0, mk (upI I 210 0 (n2 0)) L c t) else if x = n2 1 then some (n2 (bits8 fun o => decide (s 85 o = 2)), 0, mk (upI I 210 0 (n2 0)) L c t) else if x = n2 2 then some (n2 (s 94 1), 0, mk (upI I 210 0 (n2 0)) L c t) else if x = n2 3 then some (n2 (s 94 2), 0, mk (upI I 210 0 (n2 0)) L c t) else if x = n2 4 then some (n2 (cnt8 fun o => decide (s 85 o = 2)), 0, mk (upI I 210 0 (n2 0)) L c t) else if x = n2 5 then some (n2 z, 0, mk (upI I 210 0 (n2 0)) L c t) else if x = n2 6 then some (n2 (allfal s), 0, mk (upI I 210 0 (n2 0)) L c t) else if x = n2 7 then some (n2 h.length, 0, mk (upI I 210 0 (n2 0)) L c t) else if x = n2 8 then some (n2 row.length, 0, mk (upI I 210 0 (n2 0)) L c t) else if x = n2 9 then some (n2 tx.length, 0, mk (upI I 210 0 (n2 0)) L c t) else some (-n2 100, 0, mk (upI I 210 0 (n2 0)) L c t)) 0 (fun f k z hk => ?_) (fun f z => ?_) |>.trans ?_
  · have bh := x8_heldMany (L := L) (c := c) (t := t) hr w1.nw hB hk
    show fX8_count_7 (f + 1) 210 x (n2 z) (n2 k) (mk (upI I 210 0 (n2 0)) L c t) = _
    rw [fX8_count_7]
    dsimp only
    rw [l_8, if_neg (by rw [n2_le (by omega) (by omega)]; omega), g210_14, qbnd_s, bh, qbnd_s]
    dsimp only
    rw [n2_add, l_1, n2_add]
  · show fX8_count_7 (f + 1) 210 x (n2 z) (n2 8) (mk (upI I 210 0 (n2 0)) L c t) = _
    rw [fX8_count_7]
    dsimp only
    rw [l_8, if_pos (by rw [n2_le (by omega) (by omega)]; omega), l_0, l_1, l_2, l_3, l_4, l_5, l_6, l_7, l_9, l_100, l_752, l_753, g210_14, g210_18, g210_1, g210_4, b7, b8, b9]
    repeat rw [qbnd_s]
    rw [b0, b1, b6, r8L hr (by omega) w1.nw.2.2.1, r8L hr (by omega) w1.nw.2.2.2.1]
    repeat rw [qbnd_s]
    dsimp only
    rw [j6_cnt, qbnd_s]
  · unfold countS
    by_cases e0 : x = n2 0
    · rw [if_pos e0, if_pos e0]
    rw [if_neg e0, if_neg e0]
    by_cases e0 : x = n2 1
    · rw [if_pos e0, if_pos e0]
    rw [if_neg e0, if_neg e0]
    by_cases e0 : x = n2 2
    · rw [if_pos e0, if_pos e0]
    rw [if_neg e0, if_neg e0]
    by_cases e0 : x = n2 3
    · rw [if_pos e0, if_pos e0]
    rw [if_neg e0, if_neg e0]
    by_cases e0 : x = n2 4
    · rw [if_pos e0, if_pos e0]
    rw [if_neg e0, if_neg e0]
    by_cases e0 : x = n2 5
    · rw [if_pos e0, if_pos e0]
      rfl
    rw [if_neg e0, if_neg e0]
    by_cases e0 : x = n2 6
    · rw [if_pos e0, if_pos e0]
    rw [if_neg e0, if_neg e0]
    by_cases e0 : x = n2 7
    · rw [if_pos e0, if_pos e0]
    rw [if_neg e0, if_neg e0]
    by_cases e0 : x = n2 8
    · rw [if_pos e0, if_pos e0]
    rw [if_neg e0, if_neg e0]
    by_cases e0 : x = n2 9
    · rw [if_pos e0, if_pos e0]
    rw [if_neg e0, if_neg e0]
theorem y8_saves [FB] (w : W8 I L s h kp tx row cs) (hG : Gd N s) (hN : N < 900000000) (x y : Int32) (hx : nIx x < 8) (hy : nIx y < 21) : ∃ I' L', fX8_saves 210 x y (mk I L c t) = some (if s 85 (nIx x) = 0 ∨ hbel s (nIx x) (nIx y) = 0 then -n2 2 else n2 (hbel s (nIx x) (nIx y)), 0, mk I' L' c t) ∧ W8 I' L' s h kp tx (if s 85 (nIx x) = 0 ∨ hbel s (nIx x) (nIx y) = 0 then row else [(n2 (gmode s (nIx x) (nIx y))).toInt64, (n2 (bn (savB s (nIx x) (nIx y)))).toInt64]) cs ∧ Fy I I' := by
  have w1 := w.sc (thr0 (I := I))
  have hB := gd_bd hG (show N < 1000000000 by omega)
  have hr : (217 : Nat) = 217 ∨ (217 : Nat) = 218 := .inl rfl
  obtain ⟨o, ho, rfl⟩ := nIx_ex (by omega) hx
  obtain ⟨p, hp, rfl⟩ := nIx_ex (x := y) (by omega) hy
  rw [nIx_n (show o < 2147483648 by omega)] at hx ⊢
  rw [nIx_n (show p < 2147483648 by omega)] at hy ⊢
  have hp85 : p < 85 := by omega
  have hst := (hB.ow ho).1
  have hb85 := hbel_lt s o p
  have q85 := (w1.nw.2.1 o ho).1
  unfold fX8_saves
  rw [if_pos (by rw [kk_210])]
  unfold gX8_saves
  rw [l_0, u210_0, qbnd_s, ow8, qbnd_s]
  dsimp only
  rw [nIx_n (by omega), decide_eq_true ho, if_neg yes_zero, x8_in (n2 p) (lo := 0) (hi := 20) (a := 0) (b := 20) (by omega) (by omega) rfl rfl, qbnd_s]
  dsimp only
  rw [nIx_n (by omega), decide_eq_true (show 0 ≤ p ∧ p ≤ 20 by omega), if_neg yes_zero, g210_14, qbnd_s, x8_belowMany hr w1.nw hB ho hp85, qbnd_s]
  dsimp only
  rw [g210_14, qbnd_s, l_680, n2_add 680, r8L hr (by omega) q85, qbnd_s]
  by_cases e1 : s 85 o = 0
  · refine ⟨_, L, ?_, by rw [if_pos (Or.inl e1)]; exact w1, thr0.v⟩
    rw [if_pos (by rw [e1]), if_pos (Or.inl e1), l_2]
  · by_cases e2 : hbel s o p = 0
    · refine ⟨_, L, ?_, by rw [if_pos (Or.inr e2)]; exact w1, thr0.v⟩
      rw [if_neg (by rw [n2_eq (by omega) (by omega)]; exact e1), if_pos (by rw [e2]), if_pos (Or.inr e2), l_2]
    · obtain ⟨I1, L1, I2, L2, o1, p1, o2, p2, p3, o4, p4⟩ := x8_two (c := c) (t := t) w1 (n2 (gmode s o p)).toInt64 (n2 (bn (savB s o p))).toInt64
      refine ⟨I2, L2, ?_, by rw [if_neg (fun z => z.elim e1 e2)]; exact p2, thr0.v.trans p3⟩
      have tail : ∀ b : Bool, b = savB s o p → fX8_saves_60 (n2 (hbel s o p)) (n2 (bn b)) 210 (mk I1 L1 c t) = some (n2 (hbel s o p), 0, mk I2 L2 c t) := by
        intro b hb
        subst hb
        unfold fX8_saves_60
        rw [x8_flag, qbnd_s]
        dsimp only
        rw [p1, qbnd_s]
      rw [if_neg (by rw [n2_eq (by omega) (by omega)]; exact e1), if_neg (by rw [n2_eq (by omega) (by omega)]; exact e2), if_neg (fun z => z.elim e1 e2), u210_1, qbnd_s, g210_14, qbnd_s, x8_gatheredMode hr w1.t0.nw hB ho hp85, qbnd_s]
      dsimp only
      rw [o1, qbnd_s]
      dsimp only
      rw [g210_14, qbnd_s, r8L hr (by omega) (o2.nw.2.1 o ho).1, qbnd_s, l_1]
      by_cases e3 : s 85 o = 1
      · have hcg := x8_canGather (L := L1) (c := c) (t := t) hr o2.nw hG.1 (by omega) ho hp85
        rw [if_pos (by rw [e3]), qbnd_s, hcg, qbnd_s]
        dsimp only
        have hc : canG s o p = savB s o p := by
          unfold canG savB
          rw [decide_eq_true e2, decide_eq_true e3]
        rcases bcs (canG s o p) with e4 | e4
        · rw [e4, if_pos no_zero]
          exact tail false (by rw [← hc, e4])
        · rw [e4, if_neg yes_zero]
          exact tail true (by rw [← hc, e4])
      · rw [if_neg (by rw [n2_eq (by omega) (by omega)]; exact e3)]
        refine tail false ?_
        unfold savB
        rw [decide_eq_false e3, Bool.false_and]
theorem y8_saves_n [FB] (w : W8 I L s h kp tx row cs) (x y : Int32) (hn : ¬ (nIx x < 8 ∧ nIx y < 21)) : ∃ I', fX8_saves 210 x y (mk I L c t) = some (-n2 1, 0, mk I' L c t) ∧ W8 I' L s h kp tx row cs ∧ Fy I I' := by
  have w1 := w.sc (thr0 (I := I))
  refine ⟨_, ?_, w1, thr0.v⟩
  unfold fX8_saves
  rw [if_pos (by rw [kk_210])]
  unfold gX8_saves
  rw [l_0, u210_0, qbnd_s, ow8, qbnd_s]
  dsimp only
  by_cases e : nIx x < 8
  · rw [decide_eq_true e, if_neg yes_zero, x8_in y (lo := 0) (hi := 20) (a := 0) (b := 20) (by omega) (by omega) rfl rfl, qbnd_s]
    dsimp only
    rw [decide_eq_false (show ¬ (0 ≤ nIx y ∧ nIx y ≤ 20) by omega), if_pos no_zero, l_1]
  · rw [decide_eq_false e, if_pos no_zero, l_1]
end S9C

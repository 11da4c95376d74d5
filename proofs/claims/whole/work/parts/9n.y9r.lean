/-! PURE SIDE, THE REFERENCE: years -/
section S9R
variable {I I' : Nat → Nat → Int32} {L : Nat → Nat → Int64} {c t r N T n : Nat} {s z s' s0 : St} {μ : qM} {h : List St} {kp : Nat → Option St} {tx : List Nat} {row : List Int64} {cs : List Nat} {m p : Nat}
theorem x8_draws {n : Nat} (h1 : 1 ≤ n) (h2 : n < 1000) : fX8_draws 210 (n2 n) (mk I L c t) = some (n2 (dr (nxr (I 210 28)) n), 0, mk (upI I 210 28 (nxr (I 210 28))) L c t) := by
  unfold fX8_draws
  rw [if_pos (by rw [kk_210])]
  unfold gX8_draws
  rw [nxr_eq, g210_28, qbnd_s, u210_28, qbnd_s, g210_28, qbnd_s, l_0, if_neg (by rw [n2_eq (by omega) (by omega)]; omega), upI_eq, l_16, ← nxr_eq, ← dr_ok _ h1 h2]
/-- the world while another desk is tried -/
def Y8 [FB] (I : Nat → Nat → Int32) (L : Nat → Nat → Int64) (s : St) (h : List St) (kp : Nat → Option St) (tx : List Nat) (row : List Int64) (cs : List Nat) (v : Int32) (z : St) : Prop := W8 I L s h kp tx row cs ∧ R8 (I 218) z ∧ I 210 28 = v
theorem Y8.dr [FB] {v : Int32} (y : Y8 I L s h kp tx row cs v z) {x : Int32} : Y8 (upI I 210 28 x) L s h kp tx row cs x z ∧ Fy I (upI I 210 28 x) := by
  obtain ⟨y1, y2, y3⟩ := y
  refine ⟨⟨y1.sc (Fs.up2 (by omega)), ?_, upI_eq⟩, .up (by omega)⟩
  rw [show (upI I 210 28 x) 218 = I 218 from by funext i; exact upI_ne (by omega)]
  exact y2
theorem Y8.st [FB] {v : Int32} (y : Y8 I L s h kp tx row cs v z) (f : F9 I I' 218) {z' : St} (hR : R8 (I' 218) z') {G : Nat → Bool} (hG : I' 210 16 = n2 (bits8 G)) : Y8 I' L s h kp tx row cs v z' := ⟨y.1.then f hG, hR, (f _ _ (by omega) (by omega) (by omega) (by omega) (by omega)).trans y.2.2⟩
theorem x8_drawn [FB] {v : Int32} (y : Y8 I L s h kp tx row cs v z) (hG : Gd N z) (hN : N < 900000000) : ∃ I1 I2 I', fX8_draws 210 (n2 6) (mk I L c t) = some (n2 (dr (nxr v) 6), 0, mk I1 L c t) ∧ fX8_draws 210 (n2 8) (mk I1 L c t) = some (n2 (dr (nxr (nxr v)) 8), 0, mk I2 L c t) ∧ fX8_drawnAct 210 (n2 (dr (nxr v) 6)) (n2 (dr (nxr (nxr v)) 8)) (mk I2 L c t) = some (n2 0, 0, mk I' L c t) ∧ Y8 I' L s h kp tx row cs (yrA cs (v, z)).1 (yrA cs (v, z)).2 ∧ Fy I I' := by
  have hr : (218 : Nat) = 217 ∨ (218 : Nat) = 218 := .inr rfl
  have hB := gd_bd hG (show N < 1000000000 by omega)
  have d1 := x8_draws (I := I) (L := L) (c := c) (t := t) (n := 6) (by omega) (by omega)
  rw [y.2.2] at d1
  obtain ⟨J1, hJ1⟩ : ∃ J, upI I 210 28 (nxr v) = J := ⟨_, rfl⟩
  obtain ⟨y1, f1⟩ := y.dr (x := nxr v)
  rw [hJ1] at d1 y1 f1
  have d2 := x8_draws (I := J1) (L := L) (c := c) (t := t) (n := 8) (by omega) (by omega)
  rw [y1.2.2] at d2
  obtain ⟨J2, hJ2⟩ : ∃ J, upI J1 210 28 (nxr (nxr v)) = J := ⟨_, rfl⟩
  obtain ⟨y2, f2⟩ := y1.dr (x := nxr (nxr v))
  rw [hJ2] at d2 y2 f2
  have fA := f1.trans f2
  have w6 := dr_lt (nxr v) (show 1 ≤ 6 by omega)
  have o8 := dr_lt (nxr (nxr v)) (show 1 ≤ 8 by omega)
  obtain ⟨wh, hwh⟩ : ∃ wh, dr (nxr v) 6 = wh := ⟨_, rfl⟩
  obtain ⟨o, ho⟩ : ∃ o, dr (nxr (nxr v)) 8 = o := ⟨_, rfl⟩
  rw [hwh] at d1 w6
  rw [ho] at d2 o8
  -- the third number, and the fourth
  have d3 : ∀ {n : Nat}, 1 ≤ n → n < 1000 → fX8_draws 210 (n2 n) (mk J2 L c t) = some (n2 (dr (nxr (nxr (nxr v))) n), 0, mk (upI J2 210 28 (nxr (nxr (nxr v)))) L c t) := fun {n} h1 h2 => by
    have := x8_draws (I := J2) (L := L) (c := c) (t := t) h1 h2
    rw [y2.2.2] at this
    exact this
  obtain ⟨J3, hJ3⟩ : ∃ J, upI J2 210 28 (nxr (nxr (nxr v))) = J := ⟨_, rfl⟩
  obtain ⟨y3, f3⟩ := y2.dr (x := nxr (nxr (nxr v)))
  rw [hJ3] at y3 f3
  have d4 : ∀ {n : Nat}, 1 ≤ n → n < 1000 → fX8_draws 210 (n2 n) (mk J3 L c t) = some (n2 (dr (nxr (nxr (nxr (nxr v)))) n), 0, mk (upI J3 210 28 (nxr (nxr (nxr (nxr v))))) L c t) := fun {n} h1 h2 => by
    have := x8_draws (I := J3) (L := L) (c := c) (t := t) h1 h2
    rw [y3.2.2] at this
    exact this
  obtain ⟨J4, hJ4⟩ : ∃ J, upI J3 210 28 (nxr (nxr (nxr (nxr v)))) = J := ⟨_, rfl⟩
  obtain ⟨y4, f4⟩ := y3.dr (x := nxr (nxr (nxr (nxr v))))
  rw [hJ4] at y4 f4
  refine ⟨J1, J2, ?_⟩
  rw [hwh, ho]
  have fin : ∀ (I' : Nat → Nat → Int32) (q : Int32 × St), fX8_drawnAct 210 (n2 wh) (n2 o) (mk J2 L c t) = some (n2 0, 0, mk I' L c t) → yrA cs (v, z) = q → Y8 I' L s h kp tx row cs q.1 q.2 → Fy J2 I' → ∃ I', fX8_draws 210 (n2 6) (mk I L c t) = some (n2 wh, 0, mk J1 L c t) ∧ fX8_draws 210 (n2 8) (mk J1 L c t) = some (n2 o, 0, mk J2 L c t) ∧ fX8_drawnAct 210 (n2 wh) (n2 o) (mk J2 L c t) = some (n2 0, 0, mk I' L c t) ∧ Y8 I' L s h kp tx row cs (yrA cs (v, z)).1 (yrA cs (v, z)).2 ∧ Fy I I' := fun I' q e1 e2 e3 e4 => by
    rw [e2]
    exact ⟨I', d1, d2, e1, e3, fA.trans e4⟩
  have w3 := dr_lt (nxr (nxr (nxr v))) (show 1 ≤ 3 by omega)
  have w85 := dr_lt (nxr (nxr (nxr v))) (show 1 ≤ 85 by omega)
  have w9 := dr_lt (nxr (nxr (nxr v))) (show 1 ≤ 9 by omega)
  have u6 := dr_lt (nxr (nxr (nxr (nxr v)))) (show 1 ≤ 6 by omega)
  have u21 := dr_lt (nxr (nxr (nxr (nxr v)))) (show 1 ≤ 21 by omega)
  have k85 := d3 (n := 85) (by omega) (by omega)
  have k9 := d3 (n := 9) (by omega) (by omega)
  have k3 := d3 (n := 3) (by omega) (by omega)
  have q6 := d4 (n := 6) (by omega) (by omega)
  have q21 := d4 (n := 21) (by omega) (by omega)
  rw [hJ3] at k85 k9 k3
  rw [hJ4] at q6 q21
  have e84 : ∀ x y m : Nat, actS z cs 98 x y m = startS z x := fun _ _ _ => rfl
  have eL : ∀ x y m : Nat, actS z cs 108 x y m = lockS z x y m := fun _ _ _ => rfl
  have eW : ∀ x y m : Nat, actS z cs 119 x y m = labourS z x y := fun _ _ _ => rfl
  have eE : ∀ x y m : Nat, actS z cs 101 x y m = finishS z x := fun _ _ _ => rfl
  have eF : ∀ x y m : Nat, actS z cs 102 x y m = (n2 (fellS 8 z cs).1.length, (fellS 8 z cs).2) := fun _ _ _ => rfl
  have eC : ∀ x y m : Nat, actS z cs 103 x y m = collectS z x y := fun _ _ _ => rfl
  obtain ⟨G2, hG2⟩ := y2.1.ga
  obtain ⟨G3, hG3⟩ := y3.1.ga
  obtain ⟨G4, hG4⟩ := y4.1.ga
  by_cases c0 : wh = 0
  · obtain ⟨I', a1, a2, a3⟩ := x8_beginsOne (L := L) (c := c) (t := t) hr y2.2.1 hB (n2 o)
    rw [nIx_n (by omega)] at a1 a2
    refine fin I' (nxr (nxr v), (startS z o).2) ?_ ?_ (y2.st a3.f8.f9 a2 (G := G2) (by rw [a3 _ _ (by omega)]; exact hG2)) (a3.v hr)
    · unfold fX8_drawnAct
      rw [if_pos (by rw [kk_210])]
      unfold gX8_drawnAct
      rw [l_0, if_pos (by rw [c0]), g210_15, qbnd_s, a1, qbnd_s]
    · unfold yrA
      dsimp only
      rw [hwh, if_pos c0, ho, e84]
  by_cases c4 : wh < 4
  · obtain ⟨q, hq⟩ : ∃ q, lockS z o (dr (nxr (nxr (nxr v))) 85) (dr (nxr (nxr (nxr (nxr v)))) 6 + 1) = q := ⟨_, rfl⟩
    obtain ⟨I', G', a1, a2, a2b, a2c, a3⟩ := x8_locksOne (L := L) (c := c) (t := t) hr y4.2.1 hG4 hG hN (n2 o) (n2 (dr (nxr (nxr (nxr v))) 85)) (n2 (dr (nxr (nxr (nxr (nxr v)))) 6 + 1)) (q := q) (by rw [nIx_n (by omega), nIx_n (by omega), nIx_n (by omega)]; exact hq)
    refine fin I' (nxr (nxr (nxr (nxr v))), q.2) ?_ ?_ (y4.st a3.f9 a2 a2b) ((f3.trans f4).trans (a3.v hr))
    · unfold fX8_drawnAct
      rw [if_pos (by rw [kk_210])]
      unfold gX8_drawnAct
      rw [l_0, l_4, if_neg (by rw [n2_eq (by omega) (by omega)]; exact c0), if_neg (by rw [n2_le (by omega) (by omega)]; omega), l_85, k85, qbnd_s]
      dsimp only
      rw [g210_15, qbnd_s, l_6, q6, qbnd_s]
      dsimp only
      rw [l_1, n2_add, Nat.add_comm 1, a1, qbnd_s]
    · unfold yrA
      dsimp only
      rw [hwh, if_neg c0, if_pos c4, ho, eL, hq]
  by_cases c5 : wh = 4
  · obtain ⟨I', a1, a2, a3⟩ := x8_worksOne (L := L) (c := c) (t := t) hr y3.2.1 hB (n2 o) (n2 (dr (nxr (nxr (nxr v))) 9 + 1))
    rw [nIx_n (show o < 2147483648 by omega), nIx_n (show dr (nxr (nxr (nxr v))) 9 + 1 < 2147483648 by omega)] at a1 a2
    refine fin I' (nxr (nxr (nxr v)), (labourS z o (dr (nxr (nxr (nxr v))) 9 + 1)).2) ?_ ?_ (y3.st a3.f8.f9 a2 (G := G3) (by rw [a3 _ _ (by omega)]; exact hG3)) (f3.trans (a3.v hr))
    · unfold fX8_drawnAct
      rw [if_pos (by rw [kk_210])]
      unfold gX8_drawnAct
      rw [l_0, l_4, if_neg (by rw [n2_eq (by omega) (by omega)]; exact c0), if_pos (by rw [n2_le (by omega) (by omega)]; omega), if_pos (by rw [c5]), g210_15, qbnd_s, l_9, k9, qbnd_s]
      dsimp only
      rw [l_1, n2_add, Nat.add_comm 1, a1, qbnd_s]
    · unfold yrA
      dsimp only
      rw [hwh, if_neg c0, if_neg c4, if_pos c5, ho, eW]
  have pre : fX8_drawnAct 210 (n2 wh) (n2 o) (mk J2 L c t) = if dr (nxr (nxr (nxr v))) 3 = 0 then (qbnd (fX8_endsOne 210 218 (n2 o) (mk J3 L c t)) fun r8 => some (n2 0, 0, r8.2.2)) else if dr (nxr (nxr (nxr v))) 3 = 1 then (qbnd (fX8_fellsAll 210 218 (mk J3 L c t)) fun r6 => some (n2 0, 0, r6.2.2)) else (qbnd (fX8_draws 210 (n2 21) (mk J3 L c t)) fun r3 => qbnd (fX8_gathersAt 210 218 (n2 o) r3.1 r3.2.2) fun r4 => some (n2 0, 0, r4.2.2)) := by
    unfold fX8_drawnAct
    rw [if_pos (by rw [kk_210])]
    unfold gX8_drawnAct
    rw [l_0, l_4, if_neg (by rw [n2_eq (by omega) (by omega)]; exact c0), if_pos (by rw [n2_le (by omega) (by omega)]; omega), if_neg (by rw [n2_eq (by omega) (by omega)]; exact c5), l_3, k3, qbnd_s]
    dsimp only
    rw [l_1, l_21]
    by_cases e6 : dr (nxr (nxr (nxr v))) 3 = 0
    · rw [if_pos (by rw [e6]), if_pos e6, g210_15, qbnd_s]
    rw [if_neg (by rw [n2_eq (by omega) (by omega)]; exact e6), if_neg e6]
    by_cases e7 : dr (nxr (nxr (nxr v))) 3 = 1
    · rw [if_pos (by rw [e7]), if_pos e7, g210_15, qbnd_s]
    rw [if_neg (by rw [n2_eq (by omega) (by omega)]; exact e7), if_neg e7, g210_15, qbnd_s]
  by_cases c6 : dr (nxr (nxr (nxr v))) 3 = 0
  · obtain ⟨I', G', a1, a2, a2b, a3⟩ := x8_endsOne (L := L) (c := c) (t := t) hr y3.2.1 hG3 hG hN (n2 o)
    rw [nIx_n (by omega)] at a1 a2
    refine fin I' (nxr (nxr (nxr v)), (finishS z o).2) ?_ ?_ (y3.st a3.f9 a2 a2b) (f3.trans (a3.v hr))
    · rw [pre, if_pos c6, a1, qbnd_s]
    · unfold yrA
      dsimp only
      rw [hwh, if_neg c0, if_neg c4, if_neg c5, if_pos c6, ho, eE]
  by_cases c7 : dr (nxr (nxr (nxr v))) 3 = 1
  · obtain ⟨I', G', a1, a2, a2b, a3, a4⟩ := x8_fellsAll (L := L) (c := c) (t := t) hr y3.2.1 hG3 hG hN y3.1.cd
    refine fin I' (nxr (nxr (nxr v)), (fellS 8 z cs).2) ?_ ?_ (y3.st a3 a2 a2b) (f3.trans (a3.v hr))
    · rw [pre, if_neg c6, if_pos c7, a1, qbnd_s]
    · unfold yrA
      dsimp only
      rw [hwh, if_neg c0, if_neg c4, if_neg c5, if_neg c6, if_pos c7, ho, eF]
  · obtain ⟨I', G', a1, a2, a2b, a3⟩ := x8_gathersAt (L := L) (c := c) (t := t) hr y4.2.1 hG4 hG hN (n2 o) (n2 (dr (nxr (nxr (nxr (nxr v)))) 21))
    rw [nIx_n (show o < 2147483648 by omega), nIx_n (show dr (nxr (nxr (nxr (nxr v)))) 21 < 2147483648 by omega)] at a1 a2
    refine fin I' (nxr (nxr (nxr (nxr v))), (collectS z o (dr (nxr (nxr (nxr (nxr v)))) 21)).2) ?_ ?_ (y4.st a3.f9 a2 a2b) ((f3.trans f4).trans (a3.v hr))
    · rw [pre, if_neg c6, if_neg c7, q21, qbnd_s]
      dsimp only
      rw [a1, qbnd_s]
    · unfold yrA
      dsimp only
      rw [hwh, if_neg c0, if_neg c4, if_neg c5, if_neg c6, if_neg c7, ho, eC]
theorem y8_years [FB] (w : W8 I L s h kp tx row cs) (hG : Gd N s) (hN : N < 899999000) (x y : Int32) (hy : 1 ≤ nIx y ∧ nIx y < 41) : ∃ I' L', fX8_years 210 x y (mk I L c t) = some (n2 (cnt8 fun o => decide ((yrS cs x s (nIx y)).2 85 o = 2)), 0, mk I' L' c t) ∧ W8 I' L' s h kp tx [(hsum (yrS cs x s (nIx y)).2).toInt64, (n2 (bits8 fun o => decide ((yrS cs x s (nIx y)).2 85 o = 1))).toInt64, (n2 (allfal (yrS cs x s (nIx y)).2)).toInt64] cs ∧ Fy I I' := by
  have w1 := w.sc (thr0 (I := I))
  have hr : (218 : Nat) = 217 ∨ (218 : Nat) = 218 := .inr rfl
  obtain ⟨n, hn, rfl⟩ := nIx_ex (x := y) (B := 41) (by omega) (by omega)
  rw [nIx_n (by omega)] at hy ⊢
  have wx := w1.sc (Fs.up2 (i := 28) (x := x) (by omega))
  obtain ⟨w2, r2, f2⟩ := wx.cp
  have h28 : (cpI (upI (upI I 210 0 (n2 0)) 210 28 x) 217 0 218 0 755) 210 28 = x := by rw [cqI_ne (by omega), upI_eq]
  obtain ⟨J, hJ⟩ : ∃ J, cpI (upI (upI I 210 0 (n2 0)) 210 28 x) 217 0 218 0 755 = J := ⟨_, rfl⟩
  rw [hJ] at w2 r2 f2 h28
  have hJF : Fy I J := (thr0.v.trans (.up (by omega))).trans f2
  have e0 : fX8_years 210 x (n2 n) (mk I L c t) = fX8_years_18 qfu 210 (n2 n) (n2 0) (mk J L c t) := by
    unfold fX8_years
    rw [if_pos (by rw [kk_210])]
    unfold gX8_years
    rw [l_0, u210_0, qbnd_s, x8_in (n2 n) (lo := 1) (hi := 40) (a := 1) (b := 40) (by omega) (by omega) rfl rfl, qbnd_s]
    dsimp only
    rw [nIx_n (by omega), decide_eq_true (show 1 ≤ n ∧ n ≤ 40 by omega), if_neg yes_zero, u210_28, qbnd_s, x8_copies, qbnd_s, hJ]
  rw [e0]
  refine lp_rk (α := Nat → Nat → Int32) (fun f k K => fX8_years_18 f 210 (n2 n) (n2 k) (mk K L c t)) n (fun k K => Y8 K L s h kp tx row cs (yrS cs x s k).1 (yrS cs x s k).2 ∧ Fy I K) (fun q => ∃ I' L', q = some (n2 (cnt8 fun o => decide ((yrS cs x s n).2 85 o = 2)), 0, mk I' L' c t) ∧ W8 I' L' s h kp tx [(hsum (yrS cs x s n).2).toInt64, (n2 (bits8 fun o => decide ((yrS cs x s n).2 85 o = 1))).toInt64, (n2 (allfal (yrS cs x s n).2)).toInt64] cs ∧ Fy I I') (k0 := 0) (Nat.zero_le _) (by omega) J ⟨⟨w2, r2, h28⟩, hJF⟩ (fun f k K _ hk hi => Or.inr ?_) (fun f K hi => ?_)
  · obtain ⟨i1, i2⟩ := hi
    have hg := gd_yrS (cs := cs) (v := x) hG k (by omega)
    obtain ⟨I1, I2, I3, b1, b2, b3, b4, b5⟩ := x8_drawn (c := c) (t := t) i1 hg (by omega)
    have h3 : yrS cs x s (k + 1) = yrA cs (yrS cs x s k) := by
      unfold yrS
      rw [List.range_succ, List.foldl_append]
      rfl
    refine ⟨I3, ?_, by rw [h3]; exact b4, i2.trans b5⟩
    show fX8_years_18 (f + 1) 210 (n2 n) (n2 k) (mk K L c t) = _
    rw [fX8_years_18]
    dsimp only
    rw [if_neg (by rw [n2_le (by omega) (by omega)]; omega), l_6, b1, qbnd_s]
    dsimp only
    rw [l_8, b2, qbnd_s]
    dsimp only
    rw [b3, qbnd_s]
    dsimp only
    rw [l_1, n2_add]
  · obtain ⟨i1, i2⟩ := hi
    have hg := gd_yrS (cs := cs) (v := x) hG n (by omega)
    have hB := gd_bd hg (by omega)
    generalize (yrS cs x s n).2 = z at *
    obtain ⟨j1, j2, -⟩ := i1
    have k218 : ∀ {M : Nat → Nat → Int32}, (∀ b i, ¬ (b = 210 ∧ i = 1) → M b i = K b i) → R8 (M 218) z := fun {M} hM => by
      rw [show M 218 = K 218 from by funext i; exact hM _ _ (by omega)]
      exact j2
    obtain ⟨I1, L1, o1, o2, o3, o4⟩ := x8_one (c := c) (t := t) j1 (hsum z).toInt64
    obtain ⟨I2, L2, p1, p2, p3, p4⟩ := x8_more (c := c) (t := t) o2 (by show 1 < 24; omega) (n2 (bits8 fun o => decide (z 85 o = 1))).toInt64
    obtain ⟨I3, L3, q1, q2, q3, q4⟩ := x8_more (c := c) (t := t) p2 (by show 2 < 24; omega) (n2 (allfal z)).toInt64
    have t0 : R8 ((upI K 210 1 (n2 0)) 218) z := k218 fun b i hb => by
      by_cases e : b = 210
      · rw [e]; exact upI_ni (fun y => hb ⟨e, y⟩)
      · exact upI_ne e
    have t1 : R8 (I1 218) z := k218 o4
    have t2 : R8 (I2 218) z := k218 fun b i hb => (p4 b i hb).trans (o4 b i hb)
    have t3 : R8 (I3 218) z := k218 fun b i hb => (q4 b i hb).trans ((p4 b i hb).trans (o4 b i hb))
    refine ⟨I3, L3, ?_, q2, ((i2.trans o3).trans p3).trans q3⟩
    show fX8_years_18 (f + 1) 210 (n2 n) (n2 n) (mk K L c t) = _
    rw [fX8_years_18]
    dsimp only
    rw [if_pos (by rw [n2_le (by omega) (by omega)]; exact Nat.le_refl _), l_0, u210_1, qbnd_s, g210_15, qbnd_s, x8_sumOf hr t0, qbnd_s]
    dsimp only
    rw [o1, qbnd_s]
    dsimp only
    rw [g210_15, qbnd_s, l_1, x8_so hr t1 hB (by omega), qbnd_s]
    dsimp only
    rw [p1, qbnd_s]
    dsimp only
    rw [g210_15, qbnd_s, x8_fallsOf hr t2, qbnd_s]
    dsimp only
    rw [q1, qbnd_s]
    dsimp only
    rw [g210_15, qbnd_s, l_2, x8_so hr t3 hB (Nat.le_refl 2), qbnd_s]
    dsimp only
    rw [j6_cnt, qbnd_s]
theorem y8_years_n [FB] (w : W8 I L s h kp tx row cs) (x y : Int32) (hn : ¬ (1 ≤ nIx y ∧ nIx y < 41)) : ∃ I', fX8_years 210 x y (mk I L c t) = some (-n2 1, 0, mk I' L c t) ∧ W8 I' L s h kp tx row cs ∧ Fy I I' := by
  refine ⟨_, ?_, w.sc (thr0 (I := I)), thr0.v⟩
  unfold fX8_years
  rw [if_pos (by rw [kk_210])]
  unfold gX8_years
  rw [l_0, u210_0, qbnd_s, x8_in y (lo := 1) (hi := 40) (a := 1) (b := 40) (by omega) (by omega) rfl rfl, qbnd_s]
  dsimp only
  rw [decide_eq_false (show ¬ (1 ≤ nIx y ∧ nIx y ≤ 40) by omega), if_pos no_zero, l_1]
end S9R

/-! PURE SIDE, THE REFERENCE: the calls that act -/
section S8Q
variable {I I' : Nat → Nat → Int32} {L : Nat → Nat → Int64} {c t r N T n : Nat} {s s' s0 : St} {μ : qM} {h : List St} {kp : Nat → Option St} {tx : List Nat} {row : List Int64} {cs : List Nat}
theorem Mk8.on (m : Mk8 I h s) (hf : ∀ i, I' 220 i = I 220 i) : Mk8 I' h s := R8.on m fun k _ => hf _
theorem F9.m8 (f : F9 I I' 217) (m : Mk8 I h s) : Mk8 I' h s := m.on fun i => f _ _ (by omega) (by omega) (by omega) (by omega) (by omega)
/-- thrown is none, and what is is put by -/
theorem y8_mark [FB] (w : W8 I L s h kp tx row cs) : ∃ I', fX8_putsBy 210 (mk (upI I 210 0 (n2 0)) L c t) = some (n2 0, 0, mk I' L c t) ∧ W8 I' L s h kp tx row cs ∧ Mk8 I' h s ∧ Fy I I' := by
  obtain ⟨I1, a1, a2, a3, a4⟩ := x8_putsBy (c := c) (t := t) (w.sc (thr0 (I := I)))
  exact ⟨I1, a1, a2, a3, thr0.v.trans fun b i hb => a4 b i (by omega)⟩
theorem y8_begins [FB] (w : W8 I L s h kp tx row cs) (hG : Gd N s) (hN : N < 900000000) (x : Int32) : ∃ I', fX8_begins 210 x (mk I L c t) = some ((startS s (nIx x)).1, 0, mk I' L c t) ∧ W8 I' L (startS s (nIx x)).2 (noteH h s (startS s (nIx x)).1) kp tx row cs ∧ Fy I I' := by
  obtain ⟨I1, m1, m2, m3, m4⟩ := y8_mark (c := c) (t := t) w
  obtain ⟨G, hG1⟩ := m2.ga
  obtain ⟨I2, a1, a2, a3⟩ := x8_beginsOne (L := L) (c := c) (t := t) (.inl rfl) m2.nw (gd_bd hG (by omega)) x
  have w2 := m2.now (s' := (startS s (nIx x)).2) a3.f8.f9 a2 (G := G) (by rw [a3 _ _ (by omega)]; exact hG1)
  obtain ⟨I3, n1, n2', n3⟩ := x8_counted (c := c) (t := t) w2 (a3.f8.f9.m8 m3) (startS s (nIx x)).1
  refine ⟨I3, ?_, n2', (m4.trans (a3.v (.inl rfl))).trans n3⟩
  unfold fX8_begins
  rw [if_pos (by rw [kk_210])]
  unfold gX8_begins
  rw [l_0, u210_0, qbnd_s, m1, qbnd_s]
  dsimp only
  rw [g210_14, qbnd_s, a1, qbnd_s]
  dsimp only
  rw [n1, qbnd_s]
theorem y8_works [FB] (w : W8 I L s h kp tx row cs) (hG : Gd N s) (hN : N < 900000000) (x y : Int32) : ∃ I', fX8_works 210 x y (mk I L c t) = some ((labourS s (nIx x) (nIx y)).1, 0, mk I' L c t) ∧ W8 I' L (labourS s (nIx x) (nIx y)).2 (noteH h s (labourS s (nIx x) (nIx y)).1) kp tx row cs ∧ Fy I I' := by
  obtain ⟨I1, m1, m2, m3, m4⟩ := y8_mark (c := c) (t := t) w
  obtain ⟨G, hG1⟩ := m2.ga
  obtain ⟨I2, a1, a2, a3⟩ := x8_worksOne (L := L) (c := c) (t := t) (.inl rfl) m2.nw (gd_bd hG (by omega)) x y
  have w2 := m2.now (s' := (labourS s (nIx x) (nIx y)).2) a3.f8.f9 a2 (G := G) (by rw [a3 _ _ (by omega)]; exact hG1)
  obtain ⟨I3, n1, n2', n3⟩ := x8_counted (c := c) (t := t) w2 (a3.f8.f9.m8 m3) (labourS s (nIx x) (nIx y)).1
  refine ⟨I3, ?_, n2', (m4.trans (a3.v (.inl rfl))).trans n3⟩
  unfold fX8_works
  rw [if_pos (by rw [kk_210])]
  unfold gX8_works
  rw [l_0, u210_0, qbnd_s, m1, qbnd_s]
  dsimp only
  rw [g210_14, qbnd_s, a1, qbnd_s]
  dsimp only
  rw [n1, qbnd_s]
theorem y8_bulk [FB] (w : W8 I L s h kp tx row cs) (hG : Gd N s) (hN : N < 900000000) (x : Int32) : ∃ I', fX8_bulk 210 x (mk I L c t) = some ((setbS s (nIx x)).1, 0, mk I' L c t) ∧ W8 I' L (setbS s (nIx x)).2 (noteH h s (setbS s (nIx x)).1) kp tx row cs ∧ Fy I I' := by
  obtain ⟨I1, m1, m2, m3, m4⟩ := y8_mark (c := c) (t := t) w
  obtain ⟨G, hG1⟩ := m2.ga
  obtain ⟨I2, a1, a2, a3⟩ := x8_bulksOne (L := L) (c := c) (t := t) (.inl rfl) m2.nw (gd_bd hG (by omega)) x
  have w2 := m2.now (s' := (setbS s (nIx x)).2) a3.f8.f9 a2 (G := G) (by rw [a3 _ _ (by omega)]; exact hG1)
  obtain ⟨I3, n1, n2', n3⟩ := x8_counted (c := c) (t := t) w2 (a3.f8.f9.m8 m3) (setbS s (nIx x)).1
  refine ⟨I3, ?_, n2', (m4.trans (a3.v (.inl rfl))).trans n3⟩
  unfold fX8_bulk
  rw [if_pos (by rw [kk_210])]
  unfold gX8_bulk
  rw [l_0, u210_0, qbnd_s, m1, qbnd_s]
  dsimp only
  rw [g210_14, qbnd_s, a1, qbnd_s]
  dsimp only
  rw [n1, qbnd_s]
theorem noteH_sg {h : List St} {s0 : St} {x y : Int32} (e : x < n2 0 ↔ y < n2 0) : noteH h s0 x = noteH h s0 y := by
  unfold noteH
  by_cases f : y < n2 0
  · rw [if_pos f, if_pos (e.mpr f)]
  · rw [if_neg f, if_neg (fun z => f (e.mp z))]
theorem woke_nn (s s' : St) : ¬ n2 (woke s s') < n2 0 := by
  have h1 := cnt8_le (fun o => decide (s 85 o = 2) && decide (s' 85 o = 1))
  have h2 : woke s s' ≤ 8 := h1
  rw [n2_lt (by omega) (by omega)]
  omega
theorem y8_unlocks [FB] (w : W8 I L s h kp tx row cs) (hG : Gd N s) (hN : N < 900000000) (x y : Int32) : ∃ I', fX8_unlocks 210 x y (mk I L c t) = some (if (unlockS s (nIx x) (nIx y)).1 < n2 0 then (unlockS s (nIx x) (nIx y)).1 else n2 (woke s (unlockS s (nIx x) (nIx y)).2), 0, mk I' L c t) ∧ W8 I' L (unlockS s (nIx x) (nIx y)).2 (noteH h s (unlockS s (nIx x) (nIx y)).1) kp tx row cs ∧ Fy I I' := by
  obtain ⟨I1, m1, m2, m3, m4⟩ := y8_mark (c := c) (t := t) w
  obtain ⟨G, hG1⟩ := m2.ga
  obtain ⟨I2, G2, a1, a2, a2b, a3⟩ := x8_unlocksOne (L := L) (c := c) (t := t) (.inl rfl) m2.nw hG1 hG hN x y
  have w2 := m2.now (s' := (unlockS s (nIx x) (nIx y)).2) a3.f9 a2 a2b
  obtain ⟨I3, n1, n2', n3⟩ := x8_counted (c := c) (t := t) w2 (a3.f9.m8 m3) (if (unlockS s (nIx x) (nIx y)).1 < n2 0 then (unlockS s (nIx x) (nIx y)).1 else n2 (woke s (unlockS s (nIx x) (nIx y)).2))
  rw [noteH_sg (y := (unlockS s (nIx x) (nIx y)).1) (by
    by_cases e : (unlockS s (nIx x) (nIx y)).1 < n2 0
    · rw [if_pos e]
    · rw [if_neg e]
      exact ⟨fun z => absurd z (woke_nn _ _), fun z => absurd z e⟩)] at n2'
  refine ⟨I3, ?_, n2', (m4.trans (a3.v (.inl rfl))).trans n3⟩
  unfold fX8_unlocks
  rw [if_pos (by rw [kk_210])]
  unfold gX8_unlocks
  rw [l_0, u210_0, qbnd_s, m1, qbnd_s]
  dsimp only
  rw [g210_14, qbnd_s, a1, qbnd_s]
  dsimp only
  rw [n1, qbnd_s]
theorem x8_told0 [FB] (w : W8 I L s h kp tx row cs) : oPutI (mk I L c t) 8 210 1 (n2 0) = some (mk (upI I 210 1 (n2 0)) L c t) ∧ W8 (upI I 210 1 (n2 0)) L s h kp tx [] cs ∧ Fy I (upI I 210 1 (n2 0)) := ⟨u210_1, w.t0, .up (by omega)⟩
theorem ent_v {I I' : Nat → Nat → Int32} (f : ∀ b i, ¬ (b = 210 ∧ i = 1) → I' b i = I b i) : Fy I I' := fun b i hb => f b i (by omega)
theorem y8_ends [FB] (w : W8 I L s h kp tx row cs) (hG : Gd N s) (hN : N < 900000000) (x : Int32) : ∃ I' L', fX8_ends 210 x (mk I L c t) = some ((finishS s (nIx x)).1, 0, mk I' L' c t) ∧ W8 I' L' (finishS s (nIx x)).2 (noteH h s (finishS s (nIx x)).1) kp tx (if (finishS s (nIx x)).1 < n2 0 then row else [(n2 (woke s (finishS s (nIx x)).2)).toInt64]) cs ∧ Fy I I' := by
  have hG' : Gd N (finishS s (nIx x)).2 := gd_finish hG
  obtain ⟨I1, m1, m2, m3, m4⟩ := y8_mark (c := c) (t := t) w
  obtain ⟨G, hG1⟩ := m2.ga
  have b1 := x8_so (L := L) (c := c) (t := t) (.inl rfl) m2.nw (gd_bd hG (by omega)) (Nat.le_refl 2)
  obtain ⟨I2, G2, a1, a2, a2b, a3⟩ := x8_endsOne (L := L) (c := c) (t := t) (.inl rfl) m2.nw hG1 hG hN x
  have w2 := m2.now (s' := (finishS s (nIx x)).2) a3.f9 a2 a2b
  have m5 := a3.f9.m8 m3
  obtain ⟨q, hq⟩ : ∃ q, finishS s (nIx x) = q := ⟨_, rfl⟩
  rw [hq] at hG' a1 a2 w2 ⊢
  by_cases e : q.1 < n2 0
  · obtain ⟨I3, n1, n2', n3⟩ := x8_counted (c := c) (t := t) w2 m5 q.1
    refine ⟨I3, L, ?_, by rw [if_pos e]; exact n2', (m4.trans (a3.v (.inl rfl))).trans n3⟩
    unfold fX8_ends
    rw [if_pos (by rw [kk_210])]
    unfold gX8_ends
    rw [l_0, u210_0, qbnd_s, m1, qbnd_s]
    dsimp only
    rw [g210_14, qbnd_s, l_2, b1, qbnd_s]
    dsimp only
    rw [g210_14, qbnd_s, a1, qbnd_s]
    dsimp only
    rw [if_pos e, n1, qbnd_s]
  · obtain ⟨t1, t2, t3⟩ := x8_told0 (c := c) (t := t) w2
    have b2 := x8_so (L := L) (c := c) (t := t) (.inl rfl) t2.nw (gd_bd hG' (by omega)) (show 1 ≤ 2 by omega)
    obtain ⟨I4, L4, o1, o2, o3⟩ := x8_enters (c := c) (t := t) t2 (by decide) (n2 (woke s q.2)).toInt64
    obtain ⟨I3, n1, n2', n3⟩ := x8_counted (c := c) (t := t) o2 ((m5.on fun i => by rw [upI_ne (by omega)]).on fun i => o3 _ _ (by omega)) q.1
    refine ⟨I3, L4, ?_, by rw [if_neg e]; exact n2', (((m4.trans (a3.v (.inl rfl))).trans t3).trans (ent_v o3)).trans n3⟩
    unfold fX8_ends
    rw [if_pos (by rw [kk_210])]
    unfold gX8_ends
    rw [l_0, u210_0, qbnd_s, m1, qbnd_s]
    dsimp only
    rw [g210_14, qbnd_s, l_2, b1, qbnd_s]
    dsimp only
    rw [g210_14, qbnd_s, a1, qbnd_s]
    dsimp only
    rw [if_neg e, t1, qbnd_s, g210_14, qbnd_s, l_1, b2, qbnd_s]
    dsimp only
    rw [j6_woke, qbnd_s]
    dsimp only
    rw [o1, qbnd_s]
    dsimp only
    rw [n1, qbnd_s]
theorem y8_gathers [FB] (w : W8 I L s h kp tx row cs) (hG : Gd N s) (hN : N < 900000000) (x y : Int32) : ∃ I' L', fX8_gathers 210 x y (mk I L c t) = some ((collectS s (nIx x) (nIx y)).1, 0, mk I' L' c t) ∧ W8 I' L' (collectS s (nIx x) (nIx y)).2 (noteH h s (collectS s (nIx x) (nIx y)).1) kp tx (if (collectS s (nIx x) (nIx y)).1 < n2 0 then row else [(n2 ((collectS s (nIx x) (nIx y)).2 (nIx y) (nIx x))).toInt64]) cs ∧ Fy I I' := by
  obtain ⟨I1, m1, m2, m3, m4⟩ := y8_mark (c := c) (t := t) w
  obtain ⟨G, hG1⟩ := m2.ga
  obtain ⟨I2, G2, a1, a2, a2b, a3⟩ := x8_gathersAt (L := L) (c := c) (t := t) (.inl rfl) m2.nw hG1 hG hN x y
  have w2 := m2.now (s' := (collectS s (nIx x) (nIx y)).2) a3.f9 a2 a2b
  have m5 := a3.f9.m8 m3
  by_cases e : (collectS s (nIx x) (nIx y)).1 < n2 0
  · obtain ⟨I3, n1, n2', n3⟩ := x8_counted (c := c) (t := t) w2 m5 (collectS s (nIx x) (nIx y)).1
    refine ⟨I3, L, ?_, by rw [if_pos e]; exact n2', (m4.trans (a3.v (.inl rfl))).trans n3⟩
    unfold fX8_gathers
    rw [if_pos (by rw [kk_210])]
    unfold gX8_gathers
    rw [l_0, u210_0, qbnd_s, m1, qbnd_s]
    dsimp only
    rw [g210_14, qbnd_s, a1, qbnd_s]
    dsimp only
    rw [if_pos e, n1, qbnd_s]
  · have hb : nIx x < 8 ∧ nIx y < 21 := by
      apply Classical.byContradiction
      intro hc
      apply e
      unfold collectS
      rw [if_pos (by omega)]
      exact (by decide : -n2 1 < n2 0)
    have ex : x = n2 (nIx x) := nIx_eq (by omega)
    have ey : y = n2 (nIx y) := nIx_eq (by omega)
    obtain ⟨t1, t2, t3⟩ := x8_told0 (c := c) (t := t) w2
    have b2 := x8_held (L := L) (c := c) (t := t) (.inl rfl) t2.nw hb.1 (show nIx y < 85 by omega)
    rw [← ex, ← ey] at b2
    obtain ⟨I4, L4, o1, o2, o3⟩ := x8_enters (c := c) (t := t) t2 (by decide) (n2 ((collectS s (nIx x) (nIx y)).2 (nIx y) (nIx x))).toInt64
    obtain ⟨I3, n1, n2', n3⟩ := x8_counted (c := c) (t := t) o2 ((m5.on fun i => by rw [upI_ne (by omega)]).on fun i => o3 _ _ (by omega)) (collectS s (nIx x) (nIx y)).1
    refine ⟨I3, L4, ?_, by rw [if_neg e]; exact n2', (((m4.trans (a3.v (.inl rfl))).trans t3).trans (ent_v o3)).trans n3⟩
    unfold fX8_gathers
    rw [if_pos (by rw [kk_210])]
    unfold gX8_gathers
    rw [l_0, u210_0, qbnd_s, m1, qbnd_s]
    dsimp only
    rw [g210_14, qbnd_s, a1, qbnd_s]
    dsimp only
    rw [if_neg e, t1, qbnd_s, g210_14, qbnd_s, b2, qbnd_s]
    dsimp only
    rw [o1, qbnd_s]
    dsimp only
    rw [n1, qbnd_s]
theorem y8_locks [FB] (w : W8 I L s h kp tx row cs) (hG : Gd N s) (hN : N < 900000000) (x y z : Int32) {q : Int32 × St} (hq : lockS s (nIx x) (nIx y) (nIx z) = q) : ∃ I' L', fX8_locks 210 x y z (mk I L c t) = some (if q.1 < n2 0 then q.1 else if q.1 = n2 0 then n2 0 else n2 1, 0, mk I' L' c t) ∧ W8 I' L' q.2 (noteH h s q.1) kp tx (if q.1 < n2 0 then row else [(n2 (q.2 89 (nIx x))).toInt64, if q.1 = n2 2 then 1 else 0]) cs ∧ Fy I I' := by
  obtain ⟨I1, m1, m2, m3, m4⟩ := y8_mark (c := c) (t := t) w
  obtain ⟨G, hG1⟩ := m2.ga
  obtain ⟨I2, G2, a1, a2, a2b, a2c, a3⟩ := x8_locksOne (L := L) (c := c) (t := t) (.inl rfl) m2.nw hG1 hG hN x y z hq
  have w2 := m2.now (s' := q.2) a3.f9 a2 a2b
  have m5 := a3.f9.m8 m3
  by_cases e : q.1 < n2 0
  · obtain ⟨I3, n1, n2', n3⟩ := x8_counted (c := c) (t := t) w2 m5 q.1
    rw [if_pos e] at a1
    refine ⟨I3, L, ?_, by rw [if_pos e]; exact n2', (m4.trans (a3.v (.inl rfl))).trans n3⟩
    rw [if_pos e]
    unfold fX8_locks
    rw [if_pos (by rw [kk_210])]
    unfold gX8_locks
    rw [l_0, u210_0, qbnd_s, m1, qbnd_s]
    dsimp only
    rw [g210_14, qbnd_s, a1, qbnd_s]
    dsimp only
    rw [if_pos e, n1, qbnd_s]
  · obtain ⟨c1, c2⟩ := a2c e
    obtain ⟨v, hv⟩ : ∃ v, (if q.1 = n2 0 then n2 0 else n2 1) = v := ⟨_, rfl⟩
    have hv0 : ¬ v < n2 0 := by
      rw [← hv]
      split <;> decide
    rw [if_neg e, hv] at a1
    have ex : x = n2 (nIx x) := nIx_eq (by omega)
    obtain ⟨t1, t2, t3⟩ := x8_told0 (c := c) (t := t) w2
    obtain ⟨I4, L4, o1, o2, o3⟩ := x8_enters (c := c) (t := t) t2 (by decide) (n2 (q.2 89 (nIx x))).toInt64
    obtain ⟨I5, L5, p1, p2, p3⟩ := x8_enters (c := c) (t := t) o2 (by simp) (if q.1 = n2 2 then 1 else 0)
    obtain ⟨I3, n1, n2', n3⟩ := x8_counted (c := c) (t := t) p2 (((m5.on fun i => by rw [upI_ne (by omega)]).on fun i => o3 _ _ (by omega)).on fun i => p3 _ _ (by omega)) v
    have hg16 : I4 210 16 = n2 (bits8 G2) := by rw [o3 _ _ (by omega), upI_ni (by omega)]; exact a2b
    have hb16 := x8_hasB (μ := mk I4 L4 c t) G2 c2
    rw [← ex, c1] at hb16
    have hbn : (n2 (bn (decide (q.1 = n2 2)))).toInt64 = if q.1 = n2 2 then 1 else 0 := by
      by_cases f : q.1 = n2 2
      · rw [decide_eq_true f, if_pos f]; rfl
      · rw [decide_eq_false f, if_neg f]; rfl
    have h89 : oLdI 20 (mk (upI I2 210 1 (n2 0)) L c t) 217 (n2 712 + x) = some (n2 (q.2 89 (nIx x))) := by
      have := r8L (L := L) (c := c) (t := t) (I := upI I2 210 1 (n2 0)) (.inl rfl) (by omega) (t2.nw.2.1 (nIx x) c2).2.2.2.2.1
      rw [← n2_add, ← ex] at this
      exact this
    rw [noteH_sg (y := q.1) ⟨fun z => absurd z hv0, fun z => absurd z e⟩] at n2'
    refine ⟨I3, L5, ?_, by rw [if_neg e]; exact n2', ((((m4.trans (a3.v (.inl rfl))).trans t3).trans (ent_v o3)).trans (ent_v p3)).trans n3⟩
    rw [if_neg e, hv]
    unfold fX8_locks
    rw [if_pos (by rw [kk_210])]
    unfold gX8_locks
    rw [l_0, u210_0, qbnd_s, m1, qbnd_s]
    dsimp only
    rw [g210_14, qbnd_s, a1, qbnd_s]
    dsimp only
    rw [if_neg hv0, t1, qbnd_s, g210_14, qbnd_s, l_712, h89, qbnd_s, o1, qbnd_s]
    dsimp only
    rw [g210_16, qbnd_s, hg16, hb16, qbnd_s]
    dsimp only
    rw [x8_flag, qbnd_s]
    dsimp only
    rw [hbn, p1, qbnd_s]
    dsimp only
    rw [n1, qbnd_s]
theorem getD_take {l : List Nat} {k : Nat} (hk : k < l.length) : l.take (k + 1) = l.take k ++ [l.getD k 0] := by
  rw [List.take_succ, List.getD_eq_getElem?_getD, List.getElem?_eq_getElem hk]
  rfl
theorem y8_fells [FB] (w : W8 I L s h kp tx row cs) (hG : Gd N s) (hN : N < 900000000) {l : List Nat} {s' : St} (hr : fellS 8 s cs = (l, s')) : ∃ I' L', fX8_fells 210 (mk I L c t) = some (n2 l.length, 0, mk I' L' c t) ∧ W8 I' L' s' (pushH h s) kp tx (rowO l) cs ∧ Fy I I' := by
  have hl : l.length ≤ 8 := by
    have := (gd_fell (N := N) (cs := cs) 8 s hG).2.1
    rw [hr] at this
    exact this
  obtain ⟨I1, m1, m2, m3, m4⟩ := y8_mark (c := c) (t := t) w
  obtain ⟨G, hG1⟩ := m2.ga
  obtain ⟨I2, G2, a1, a2, a2b, a3, a4⟩ := x8_fellsAll (L := L) (c := c) (t := t) (.inl rfl) m2.nw hG1 hG hN m2.cd
  rw [hr] at a1 a2 a4
  have w2 := m2.now (s' := s') a3 a2 a2b
  have m5 := a3.m8 m3
  obtain ⟨t1, t2, t3⟩ := x8_told0 (c := c) (t := t) w2
  have t5 : Mk8 (upI I2 210 1 (n2 0)) h s := m5.on fun i => by rw [upI_ne (by omega)]
  have t6 : ∀ i, (upI I2 210 1 (n2 0)) 219 i = I2 219 i := fun i => by rw [upI_ne (by omega)]
  have e0 : fX8_fells 210 (mk I L c t) = fX8_fells_15 qfu 210 (n2 l.length) (n2 0) (mk (upI I2 210 1 (n2 0)) L c t) := by
    unfold fX8_fells
    rw [if_pos (by rw [kk_210])]
    unfold gX8_fells
    rw [l_0, u210_0, qbnd_s, m1, qbnd_s]
    dsimp only
    rw [g210_14, qbnd_s, a1, qbnd_s]
    dsimp only
    rw [t1, qbnd_s]
  rw [e0]
  refine lp_rk (α := (Nat → Nat → Int32) × (Nat → Nat → Int64)) (fun f k z => fX8_fells_15 f 210 (n2 l.length) (n2 k) (mk z.1 z.2 c t)) l.length (fun k z => W8 z.1 z.2 s' h kp tx (rowO (l.take k)) cs ∧ Mk8 z.1 h s ∧ (∀ i, z.1 219 i = I2 219 i) ∧ Fy I z.1) (fun q => ∃ I' L', q = some (n2 l.length, 0, mk I' L' c t) ∧ W8 I' L' s' (pushH h s) kp tx (rowO l) cs ∧ Fy I I') (k0 := 0) (Nat.zero_le _) (by omega) (upI I2 210 1 (n2 0), L) ⟨t2, t5, t6, (m4.trans (a3.v (.inl rfl))).trans t3⟩ (fun f k z _ hk hi => Or.inr ?_) (fun f z hi => ?_)
  · obtain ⟨J, M⟩ := z
    obtain ⟨i1, i2, i3, i4⟩ := hi
    dsimp only at i1 i2 i3 i4
    have hlr : (rowO (l.take k)).length = k := by
      unfold rowO
      rw [List.length_map, List.length_take]
      omega
    obtain ⟨J2, M2, o1, o2, o3⟩ := x8_enters (c := c) (t := t) i1 (by omega) (n2 (l.getD k 0)).toInt64
    refine ⟨(J2, M2), ?_, ?_, i2.on fun i => o3 _ _ (by omega), fun i => (o3 _ _ (by omega)).trans (i3 i), i4.trans (ent_v o3)⟩
    · show fX8_fells_15 (f + 1) 210 (n2 l.length) (n2 k) (mk J M c t) = _
      rw [fX8_fells_15]
      dsimp only
      rw [if_neg (by rw [n2_le (by omega) (by omega)]; omega), g210_17, qbnd_s, ld219 (by omega), qbnd_s, i3, a4 k hk, o1, qbnd_s, l_1, n2_add]
    · have : rowO (l.take (k + 1)) = rowO (l.take k) ++ [(n2 (l.getD k 0)).toInt64] := by
        rw [getD_take hk]
        unfold rowO
        rw [List.map_append]
        rfl
      rw [this]
      exact o2
  · obtain ⟨J, M⟩ := z
    obtain ⟨i1, i2, i3, i4⟩ := hi
    dsimp only at i1 i2 i3 i4
    rw [List.take_length] at i1
    obtain ⟨J2, n1, n2', n3⟩ := x8_adds (c := c) (t := t) i1 i2 (n2 l.length)
    refine ⟨J2, M, ?_, n2', i4.trans fun b i hb => n3 b i (by omega) (by omega)⟩
    show fX8_fells_15 (f + 1) 210 (n2 l.length) (n2 l.length) (mk J M c t) = _
    rw [fX8_fells_15]
    dsimp only
    rw [if_pos (by rw [n2_le (by omega) (by omega)]; exact Nat.le_refl _), n1, qbnd_s]
end S8Q

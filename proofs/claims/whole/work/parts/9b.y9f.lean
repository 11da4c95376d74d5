/-! PURE SIDE, THE REFERENCE: may, free, a queue -/
theorem cnt8_eq {P Q : Nat → Bool} (h : ∀ i, i < 8 → P i = Q i) : cnt8 P = cnt8 Q := by
  show 0 + bn (P 0) + bn (P 1) + bn (P 2) + bn (P 3) + bn (P 4) + bn (P 5) + bn (P 6) + bn (P 7) = 0 + bn (Q 0) + bn (Q 1) + bn (Q 2) + bn (Q 3) + bn (Q 4) + bn (Q 5) + bn (Q 6) + bn (Q 7)
  rw [h 0 (by omega), h 1 (by omega), h 2 (by omega), h 3 (by omega), h 4 (by omega), h 5 (by omega), h 6 (by omega), h 7 (by omega)]
/-- of two that wait at a place the one ahead is ahead by its position -/
theorem posn_lt {T : Nat} {s : St} (h : Iv T s) {a b p : Nat} (ha : a < 8) (hb : b < 8) (hp : p < 85) (h1 : s 89 a = p) (h2 : s 89 b = p) (hab : ahd s a b = true) : posn s a < posn s b := by
  have hne : a ≠ b := by
    intro z
    subst z
    have := ahd_asym hab
    rw [hab] at this
    exact absurd this (by decide)
  have := cnt8_lt (P := fun j => decide (j ≠ a) && decide (s 89 j = s 89 a) && ahd s j a) (Q := fun j => decide (j ≠ b) && decide (s 89 j = s 89 b) && ahd s j b) (fun j hj hP => ?_) ha (by simp) (by simp [hne, h1, h2, hab])
  · exact this
  · rw [Bool.and_eq_true, Bool.and_eq_true, decide_eq_true_eq, decide_eq_true_eq] at hP
    have h3 := ahd_trans hP.2 hab
    have hjb : j ≠ b := by
      intro z
      subst z
      have := ahd_asym hab
      rw [hP.2] at this
      exact absurd this (by decide)
    rw [decide_eq_true hjb, decide_eq_true (show s 89 j = s 89 b by rw [hP.1.2, h1, h2]), h3]
    rfl
theorem posn_inj {T : Nat} {s : St} (h : Iv T s) {a b p : Nat} (ha : a < 8) (hb : b < 8) (hp : p < 85) (h1 : s 89 a = p) (h2 : s 89 b = p) (he : posn s a = posn s b) : a = b := by
  apply Classical.byContradiction
  intro hne
  have w1 := h.w ha hp h1
  have w2 := h.w hb hp h2
  have h91 : s 91 a ≠ s 91 b := fun z => hne (h.2.2.2.2.1 a b ha hb w1 w2 z)
  rcases bcs (ahd s a b) with e | e
  · have := posn_lt h hb ha hp h2 h1 (ahd_total h91 e)
    omega
  · have := posn_lt h ha hb hp h1 h2 e
    omega
theorem posn_req {s : St} {o p : Nat} (ho : o < 8) (h1 : s 89 o = p) : posn s o < reqs s p := by
  have := cnt8_lt (P := fun j => decide (j ≠ o) && decide (s 89 j = s 89 o) && ahd s j o) (Q := fun j => decide (s 89 j = p)) (fun j hj hP => ?_) ho (by simp) (by simp [h1])
  · exact this
  · rw [Bool.and_eq_true, Bool.and_eq_true, decide_eq_true_eq, decide_eq_true_eq] at hP
    rw [decide_eq_true (show s 89 j = p by rw [hP.1.2, h1])]
theorem filt_1 {P : Nat → Bool} : ∀ (l : List Nat), l.Nodup → (∀ a ∈ l, ∀ b ∈ l, P a = true → P b = true → a = b) → (l.filter P).length ≤ 1 ∧ ((l.filter P).length = 1 → ∃ o, l.find? P = some o ∧ l.filter P = [o])
  | [], _, _ => ⟨by simp, fun z => by simp at z⟩
  | x :: l, hn, h => by
    rw [List.nodup_cons] at hn
    have ih := filt_1 l hn.2 fun a ha b hb => h a (List.mem_cons_of_mem _ ha) b (List.mem_cons_of_mem _ hb)
    rcases bcs (P x) with e | e
    · rw [List.filter_cons_of_neg (by rw [e]; exact Bool.false_ne_true), List.find?_cons_of_neg (by rw [e]; exact Bool.false_ne_true)]
      exact ih
    · rw [List.filter_cons_of_pos e, List.find?_cons_of_pos e]
      have hz : l.filter P = [] := by
        rw [List.filter_eq_nil_iff]
        intro a ha hP
        have := h a (List.mem_cons_of_mem _ ha) x List.mem_cons_self hP e
        exact hn.1 (this ▸ ha)
      rw [hz]
      exact ⟨by simp, fun _ => ⟨x, rfl, rfl⟩⟩
theorem q_one {T : Nat} {s : St} (h : Iv T s) {p : Nat} (hp : p < 85) {k : Nat} (hk : k < reqs s p) : ∃ o, o < 8 ∧ iqS s p k = some o ∧ (List.range 8).filter (qAt s p k) = [o] := by
  have inj : ∀ k, ∀ a ∈ List.range 8, ∀ b ∈ List.range 8, qAt s p k a = true → qAt s p k b = true → a = b := by
    intro k a ha hb hmb h1 h2
    rw [List.mem_range] at ha hmb
    unfold qAt at h1 h2
    rw [Bool.and_eq_true, decide_eq_true_eq, decide_eq_true_eq] at h1 h2
    exact posn_inj h ha hmb hp h1.1 h2.1 (h1.2.trans h2.2.symm)
  have f1 : ∀ k, ((List.range 8).filter (qAt s p k)).length ≤ 1 := fun k => (filt_1 (List.range 8) List.nodup_range (inj k)).1
  have tot : ∀ n, (qRow s p n).length ≤ n := by
    intro n
    induction n with
    | zero => simp [qRow]
    | succ n ih =>
      have : qRow s p (n + 1) = qRow s p n ++ (List.range 8).filter (qAt s p n) := by
        unfold qRow
        rw [List.range_succ (n := n), List.flatMap_append]
        simp
      rw [this, List.length_append]
      have := f1 n
      omega
  have full : (qRow s p (reqs s p)).length = reqs s p := by
    rw [qRow_len]
    have hr : reqs s p = (List.range 8).countP fun o => decide (s 89 o = p) := by
      unfold reqs
      rw [cnt_fold, Nat.zero_add]
    rw [hr]
    apply List.countP_congr
    intro o ho
    rw [List.mem_range] at ho
    rw [← hr]
    by_cases e : s 89 o = p
    · rw [decide_eq_true e, decide_eq_true (posn_req ho e)]
      simp
    · rw [decide_eq_false e]
      simp
  have rest : ∀ d n, n + d = reqs s p → (qRow s p n).length = n := by
    intro d
    induction d with
    | zero =>
      intro n hn
      rw [show n = reqs s p by omega]
      exact full
    | succ d ih =>
      intro n hn
      have h1 := ih (n + 1) (by omega)
      have : qRow s p (n + 1) = qRow s p n ++ (List.range 8).filter (qAt s p n) := by
        unfold qRow
        rw [List.range_succ (n := n), List.flatMap_append]
        simp
      rw [this, List.length_append] at h1
      have := f1 n
      have := tot n
      omega
  have h1 := rest (reqs s p - k) k (by omega)
  have h2 := rest (reqs s p - (k + 1)) (k + 1) (by omega)
  have h3 : qRow s p (k + 1) = qRow s p k ++ (List.range 8).filter (qAt s p k) := by
    unfold qRow
    rw [List.range_succ (n := k), List.flatMap_append]
    simp
  rw [h3, List.length_append] at h2
  obtain ⟨o, o1, o2⟩ := (filt_1 (List.range 8) List.nodup_range (inj k)).2 (by omega)
  exact ⟨o, List.mem_range.mp (List.mem_of_find?_eq_some o1), o1, o2⟩
section S9F
variable {I I' : Nat → Nat → Int32} {L : Nat → Nat → Int64} {c t r N T n : Nat} {s s' s0 : St} {μ : qM} {h : List St} {kp : Nat → Option St} {tx : List Nat} {row : List Int64} {cs : List Nat}
theorem y8_queue [FB] (w : W8 I L s h kp tx row cs) (hG : Gd N s) (hN : N < 900000000) (x : Int32) (hx : nIx x < 85) : ∃ I' L', fX8_queue 210 x (mk I L c t) = some (n2 (reqs s (nIx x)), 0, mk I' L' c t) ∧ W8 I' L' s h kp tx (i64a (qRow s (nIx x) (reqs s (nIx x)))) cs ∧ Fy I I' := by
  have w1 := w.sc (thr0 (I := I))
  have hB := gd_bd hG (show N < 1000000000 by omega)
  have hr : (217 : Nat) = 217 ∨ (217 : Nat) = 218 := .inl rfl
  obtain ⟨p, hp, rfl⟩ := nIx_ex (by omega) hx
  rw [nIx_n (show p < 2147483648 by omega)] at hx ⊢
  have hq := reqs_le s p
  have e0 : fX8_queue 210 (n2 p) (mk I L c t) = fX8_queue_18 qfu 210 (n2 p) (n2 (reqs s p)) (n2 0) (mk (upI (upI I 210 0 (n2 0)) 210 1 (n2 0)) L c t) := by
    unfold fX8_queue
    rw [if_pos (by rw [kk_210])]
    unfold gX8_queue
    rw [l_0, u210_0, qbnd_s, pl8, qbnd_s]
    dsimp only
    rw [nIx_n (by omega), decide_eq_true hp, if_neg yes_zero, g210_14, qbnd_s, x8_queued hr w1.nw hB hp, qbnd_s]
    dsimp only
    rw [u210_1, qbnd_s]
  rw [e0]
  refine lp_rk (α := (Nat → Nat → Int32) × (Nat → Nat → Int64)) (fun n k z => fX8_queue_18 n 210 (n2 p) (n2 (reqs s p)) (n2 k) (mk z.1 z.2 c t)) (reqs s p) (fun k z => W8 z.1 z.2 s h kp tx (i64a (qRow s p k)) cs ∧ Fy I z.1) (fun r => ∃ I' L', r = some (n2 (reqs s p), 0, mk I' L' c t) ∧ W8 I' L' s h kp tx (i64a (qRow s p (reqs s p))) cs ∧ Fy I I') (k0 := 0) (Nat.zero_le _) (by omega) (upI (upI I 210 0 (n2 0)) 210 1 (n2 0), L) ⟨w1.t0, thr0.v.trans (.up (by omega))⟩ (fun n k z _ hk hi => Or.inr ?_) (fun n z hi => ?_)
  · obtain ⟨J, M⟩ := z
    obtain ⟨i1, i2⟩ := hi
    dsimp only at i1 i2
    obtain ⟨o, o1, o2, o3⟩ := q_one hG.1 hp hk
    have hrow : qRow s p (k + 1) = qRow s p k ++ [o] := by
      unfold qRow
      rw [List.range_succ (n := k), List.flatMap_append]
      simp [o3]
    have hlen := qRow_le s p k
    have b1 := x8_inQueue (L := M) (c := c) (t := t) hr i1.nw hB hp (show k < 100 by omega)
    rw [o2] at b1
    obtain ⟨J2, M2, p1, p2, p3, -⟩ := x8_more (c := c) (t := t) i1 (by unfold i64a; rw [List.length_map]; omega) (n2 o).toInt64
    refine ⟨(J2, M2), ?_, ?_, i2.trans p3⟩
    · show fX8_queue_18 (n + 1) 210 (n2 p) (n2 (reqs s p)) (n2 k) (mk J M c t) = _
      rw [fX8_queue_18]
      dsimp only
      rw [if_neg (by rw [n2_le (by omega) (by omega)]; omega), g210_14, qbnd_s, b1, qbnd_s]
      dsimp only
      rw [show oi (some o) = n2 o from rfl, p1, qbnd_s, l_1, n2_add]
    · show W8 J2 M2 s h kp tx (i64a (qRow s p (k + 1))) cs
      rw [hrow]
      unfold i64a at p2 ⊢
      rw [List.map_append]
      exact p2
  · obtain ⟨J, M⟩ := z
    obtain ⟨i1, i2⟩ := hi
    dsimp only at i1 i2
    refine ⟨J, M, ?_, i1, i2⟩
    show fX8_queue_18 (n + 1) 210 (n2 p) (n2 (reqs s p)) (n2 (reqs s p)) (mk J M c t) = _
    rw [fX8_queue_18]
    dsimp only
    rw [if_pos (by rw [n2_le (by omega) (by omega)]; exact Nat.le_refl _)]
theorem y8_queue_n [FB] (w : W8 I L s h kp tx row cs) (x : Int32) (hn : ¬ nIx x < 85) : ∃ I', fX8_queue 210 x (mk I L c t) = some (-n2 1, 0, mk I' L c t) ∧ W8 I' L s h kp tx row cs ∧ Fy I I' := by
  refine ⟨_, ?_, w.sc (thr0 (I := I)), thr0.v⟩
  unfold fX8_queue
  rw [if_pos (by rw [kk_210])]
  unfold gX8_queue
  rw [l_0, u210_0, qbnd_s, pl8, qbnd_s]
  dsimp only
  rw [decide_eq_false hn, if_pos no_zero, l_1]
theorem y8_may [FB] (w : W8 I L s h kp tx row cs) (hG : Gd N s) (hN : N < 900000000) (x y z : Int32) (hx : nIx x < 8) (hy : nIx y < 85) (hz : 1 ≤ nIx z ∧ nIx z < 7) : ∃ I' L', fX8_may 210 x y z (mk I L c t) = some ((mayS s (nIx x) (nIx y) (nIx z)).1, 0, mk I' L' c t) ∧ W8 I' L' s h kp tx (if s 85 (nIx x) = 1 then (mayS s (nIx x) (nIx y) (nIx z)).2 else row) cs ∧ Fy I I' := by
  have w1 := w.sc (thr0 (I := I))
  have hB := gd_bd hG (show N < 1000000000 by omega)
  have hr : (217 : Nat) = 217 ∨ (217 : Nat) = 218 := .inl rfl
  obtain ⟨o, ho, rfl⟩ := nIx_ex (by omega) hx
  obtain ⟨p, hp, rfl⟩ := nIx_ex (x := y) (by omega) hy
  obtain ⟨m, hm, rfl⟩ := nIx_ex (x := z) (B := 7) (by omega) (by omega)
  rw [nIx_n (show o < 2147483648 by omega)] at hx ⊢
  rw [nIx_n (show p < 2147483648 by omega)] at hy ⊢
  rw [nIx_n (show m < 2147483648 by omega)] at hz ⊢
  have hst := (hB.ow ho).1
  have q85 := (w1.nw.2.1 o ho).1
  have f0 : ∀ {μ : qM}, fX8_flag (n2 0) μ = some (n2 0, 0, μ) := fun {μ} => x8_flag0
  have f1 : ∀ {μ : qM}, fX8_flag (n2 1) μ = some (n2 1, 0, μ) := fun {μ} => x8_flag1
  obtain ⟨J, hJ⟩ : ∃ J, upI I 210 0 (n2 0) = J := ⟨_, rfl⟩
  have hJv : Fy I J := by rw [← hJ]; exact thr0.v
  rw [hJ] at w1 q85
  have head : fX8_may 210 (n2 o) (n2 p) (n2 m) (mk I L c t) = if s 85 o = 1 then (qbnd (fX8_wouldWait 210 (n2 o) (n2 p) (n2 m) (mk J L c t)) fun r7 =>
          qbnd (oPutI r7.2.2 8 210 1 (n2 0)) fun μ8 =>
          qbnd (fX8_enters 210 (r7.1).toInt64 μ8) fun r9 =>
          qbnd (oGetI r9.2.2 8 210 25) fun v10 =>
          qbnd (fX8_enters 210 (v10).toInt64 r9.2.2) fun r11 =>
          if r7.1 = n2 85 then
            qbnd (fX8_flag (n2 1) r11.2.2) fun r13 =>
            some (r13.1, 0, r13.2.2)
          else
            qbnd (fX8_flag (n2 0) r11.2.2) fun r12 =>
            some (r12.1, 0, r12.2.2)) else some (-n2 2, 0, mk J L c t) := by
    unfold fX8_may
    rw [if_pos (by rw [kk_210])]
    unfold gX8_may
    rw [l_0, u210_0, qbnd_s, ow8, qbnd_s]
    dsimp only
    rw [nIx_n (by omega), decide_eq_true ho, if_neg yes_zero, pl8, qbnd_s]
    dsimp only
    rw [nIx_n (by omega), decide_eq_true hp, if_neg yes_zero, lm8, qbnd_s]
    dsimp only
    rw [nIx_n (by omega), decide_eq_true hz, if_neg yes_zero, g210_14, qbnd_s, l_680, n2_add 680, hJ, r8L hr (by omega) q85, qbnd_s, l_1, l_2, l_85]
    by_cases e : s 85 o = 1
    · rw [if_pos (by rw [e]), if_pos e]
    · rw [if_neg (by rw [n2_eq (by omega) (by omega)]; exact e), if_neg e]
  rw [head]
  by_cases e : s 85 o = 1
  · obtain ⟨K, a1, a2, a3, a4⟩ := x8_ww (c := c) (t := t) w1 hB ho hp (show m ≤ 6 by omega)
    obtain ⟨I1, L1, I2, L2, o1, p1, o2, p2, p3, o4, p4⟩ := x8_two (c := c) (t := t) a2 (n2 (lastS s o p m)).toInt64 (n2 (newS s o p m)).toInt64
    have h25 : I1 210 25 = n2 (newS s o p m) := (o4 _ _ (by omega)).trans a3
    have hspec : mayS s o p m = (if lastS s o p m = 85 then n2 1 else n2 0, [(n2 (lastS s o p m)).toInt64, (n2 (newS s o p m)).toInt64]) := by
      unfold mayS lastS newS
      rw [if_pos e]
      rcases bcs (covd s o p m) with f | f
      · rw [f, if_neg Bool.false_ne_true, if_neg Bool.false_ne_true, if_neg Bool.false_ne_true]
        by_cases g : stopl s o p m ≤ lev p
        · have := up_lt hp (stopl s o p m)
          rw [if_pos g, if_pos g, if_neg (by omega)]
        · rw [if_neg g, if_neg g, if_pos rfl]
          rfl
      · rw [f, if_pos rfl, if_pos rfl, if_pos rfl, if_pos rfl]
        rfl
    have hl85 : lastS s o p m ≤ 85 := by
      unfold lastS
      split
      · exact Nat.le_refl _
      · split
        · exact Nat.le_of_lt (up_lt hp _)
        · exact Nat.le_refl _
    refine ⟨I2, L2, ?_, by rw [if_pos e, hspec]; exact p2, (hJv.trans a4).trans p3⟩
    rw [if_pos e, hspec, a1, qbnd_s]
    dsimp only
    rw [u210_1, qbnd_s, o1, qbnd_s]
    dsimp only
    rw [g210_25, qbnd_s, h25, p1, qbnd_s]
    dsimp only
    by_cases g : lastS s o p m = 85
    · rw [if_pos (by rw [g]), if_pos g, f1, qbnd_s]
    · rw [if_neg (by rw [n2_eq (by omega) (by omega)]; exact g), if_neg g, f0, qbnd_s]
  · refine ⟨J, L, ?_, by rw [if_neg e]; exact w1, hJv⟩
    rw [if_neg e]
    unfold mayS
    rw [if_neg e]
theorem y8_may_n [FB] (w : W8 I L s h kp tx row cs) (x y z : Int32) (hn : ¬ (nIx x < 8 ∧ nIx y < 85 ∧ 1 ≤ nIx z ∧ nIx z < 7)) : ∃ I', fX8_may 210 x y z (mk I L c t) = some (-n2 1, 0, mk I' L c t) ∧ W8 I' L s h kp tx row cs ∧ Fy I I' := by
  refine ⟨_, ?_, w.sc (thr0 (I := I)), thr0.v⟩
  unfold fX8_may
  rw [if_pos (by rw [kk_210])]
  unfold gX8_may
  rw [l_0, u210_0, qbnd_s, ow8, qbnd_s]
  dsimp only
  by_cases e : nIx x < 8
  · rw [decide_eq_true e, if_neg yes_zero, pl8, qbnd_s]
    dsimp only
    by_cases e2 : nIx y < 85
    · rw [decide_eq_true e2, if_neg yes_zero, lm8, qbnd_s]
      dsimp only
      rw [decide_eq_false (show ¬ (1 ≤ nIx z ∧ nIx z < 7) from fun q => hn ⟨e, e2, q.1, q.2⟩), if_pos no_zero, l_1]
    · rw [decide_eq_false e2, if_pos no_zero, l_1]
  · rw [decide_eq_false e, if_pos no_zero, l_1]
theorem lev_rows : ∀ f, f < 4 → ∀ k, k < 16 → lev (21 + 16 * f + k) = 3 := by decide +kernel
theorem y8_free [FB] (w : W8 I L s h kp tx row cs) (hG : Gd N s) (hN : N < 900000000) (x y z : Int32) (hx : nIx x < 8) (hy : 1 ≤ nIx y ∧ nIx y < 5) (hz : 1 ≤ nIx z ∧ nIx z < 7) : ∃ I' L', fX8_free 210 x y z (mk I L c t) = some (if s 85 (nIx x) = 1 then n2 (freeS s (nIx x) (21 + 16 * (nIx y - 1)) (nIx z)) else -n2 2, 0, mk I' L' c t) ∧ W8 I' L' s h kp tx (if s 85 (nIx x) = 1 then [(bcx (n2 (freeS s (nIx x) (21 + 16 * (nIx y - 1)) (nIx z)))).toInt64] else row) cs ∧ Fy I I' := by
  have w1 := w.sc (thr0 (I := I))
  have hB := gd_bd hG (show N < 1000000000 by omega)
  have hr : (217 : Nat) = 217 ∨ (217 : Nat) = 218 := .inl rfl
  obtain ⟨o, ho, rfl⟩ := nIx_ex (by omega) hx
  obtain ⟨p, hp, rfl⟩ := nIx_ex (x := y) (B := 5) (by omega) (by omega)
  obtain ⟨m, hm, rfl⟩ := nIx_ex (x := z) (B := 7) (by omega) (by omega)
  rw [nIx_n (show o < 2147483648 by omega)] at hx ⊢
  rw [nIx_n (show p < 2147483648 by omega)] at hy ⊢
  rw [nIx_n (show m < 2147483648 by omega)] at hz ⊢
  have hst := (hB.ow ho).1
  have q85 := (w1.nw.2.1 o ho).1
  obtain ⟨J, hJ⟩ : ∃ J, upI I 210 0 (n2 0) = J := ⟨_, rfl⟩
  have hJv : Fy I J := by rw [← hJ]; exact thr0.v
  rw [hJ] at w1 q85
  have head : fX8_free 210 (n2 o) (n2 p) (n2 m) (mk I L c t) = if s 85 o = 1 then fX8_free_31 qfu 210 (n2 o) (n2 p) (n2 m) (n2 0) (n2 0) (mk J L c t) else some (-n2 2, 0, mk J L c t) := by
    unfold fX8_free
    rw [if_pos (by rw [kk_210])]
    unfold gX8_free
    rw [l_0, u210_0, qbnd_s, ow8, qbnd_s]
    dsimp only
    rw [nIx_n (by omega), decide_eq_true ho, if_neg yes_zero, x8_in (n2 p) (lo := 1) (hi := 4) (a := 1) (b := 4) (by omega) (by omega) rfl rfl, qbnd_s]
    dsimp only
    rw [nIx_n (by omega), decide_eq_true (show 1 ≤ p ∧ p ≤ 4 by omega), if_neg yes_zero, lm8, qbnd_s]
    dsimp only
    rw [nIx_n (by omega), decide_eq_true hz, if_neg yes_zero, g210_14, qbnd_s, l_680, n2_add 680, hJ, r8L hr (by omega) q85, qbnd_s, l_1, l_2]
    by_cases e : s 85 o = 1
    · rw [if_pos (by rw [e]), if_pos e]
    · rw [if_neg (by rw [n2_eq (by omega) (by omega)]; exact e), if_neg e]
  rw [head]
  by_cases e : s 85 o = 1
  · rw [if_pos e, if_pos e, if_pos e]
    obtain ⟨F, hF⟩ : ∃ F, 21 + 16 * (p - 1) = F := ⟨_, rfl⟩
    have hF85 : F + 16 ≤ 85 := by omega
    have hlevF : ∀ k, k < 16 → lev (F + k) = 3 := fun k hk => by rw [← hF]; exact lev_rows (p - 1) (by omega) k hk
    have hw : ∀ k, ((n2 21 + n2 16 * (n2 p - n2 1)) + n2 k) = n2 (F + k) := fun k => by
      rw [n2_sub hy.1, n2_mul, n2_add, n2_add, hF]
    rw [hF]
    refine lp_rk (α := (Nat → Nat → Int32) × Nat) (fun f k q => fX8_free_31 f 210 (n2 o) (n2 p) (n2 m) (n2 q.2) (n2 k) (mk q.1 L c t)) 16 (fun k q => W8 q.1 L s h kp tx row cs ∧ Fy I q.1 ∧ q.2 = (List.range k).foldl (freeF s o F m) 0) (fun q => ∃ I' L', q = some (n2 (freeS s o F m), 0, mk I' L' c t) ∧ W8 I' L' s h kp tx [(bcx (n2 (freeS s o F m))).toInt64] cs ∧ Fy I I') (k0 := 0) (by omega) (by omega) (J, 0) ⟨w1, hJv, rfl⟩ (fun f k q _ hk hi => Or.inr ?_) (fun f q hi => ?_)
    · obtain ⟨K, v⟩ := q
      obtain ⟨i1, i2, i3⟩ := hi
      dsimp only at i1 i2 i3
      have hlv3 := hlevF k hk
      have hl85 : lastS s o (F + k) m ≤ 85 := by
        unfold lastS
        split
        · exact Nat.le_refl _
        · split
          · exact Nat.le_of_lt (up_lt (by omega) _)
          · exact Nat.le_refl _
      have hfb : freeB s o F m k = decide (lastS s o (F + k) m = 85) := by
        unfold freeB lastS
        rcases bcs (covd s o (F + k) m) with f2 | f2
        · rw [f2, Bool.false_or, if_neg Bool.false_ne_true, hlv3]
          by_cases g : stopl s o (F + k) m ≤ 3
          · have := up_lt (show F + k < 85 by omega) (stopl s o (F + k) m)
            rw [if_pos g, decide_eq_false (by omega), decide_eq_false (by omega)]
          · rw [if_neg g, decide_eq_true (by omega)]
            rfl
        · rw [f2, Bool.true_or, if_pos rfl]
          rfl
      obtain ⟨K2, a1, a2, a3, a4⟩ := x8_ww (c := c) (t := t) i1 hB ho (show F + k < 85 by omega) (show m ≤ 6 by omega)
      refine ⟨(K2, freeF s o F m v k), ?_, a2, i2.trans a4, by rw [List.range_succ, List.foldl_append, ← i3]; rfl⟩
      show fX8_free_31 (f + 1) 210 (n2 o) (n2 p) (n2 m) (n2 v) (n2 k) (mk K L c t) = fX8_free_31 f 210 (n2 o) (n2 p) (n2 m) (n2 (freeF s o F m v k)) (n2 (k + 1)) (mk K2 L c t)
      rw [fX8_free_31]
      dsimp only
      rw [l_16, if_neg (by rw [n2_le (by omega) (by omega)]; omega), l_21, l_1, hw, a1, qbnd_s]
      dsimp only
      rw [l_85, l_31, l_0, n2_31 (by omega), n2_shl (by omega), n2_or, n2_or, n2_add, Nat.or_zero]
      unfold freeF
      rw [hfb]
      by_cases g : lastS s o (F + k) m = 85
      · rw [if_pos (by rw [g]), decide_eq_true g, if_pos rfl]
      · rw [if_neg (by rw [n2_eq (by omega) (by omega)]; exact g), decide_eq_false g, if_neg Bool.false_ne_true]
    · obtain ⟨K, v⟩ := q
      obtain ⟨i1, i2, i3⟩ := hi
      dsimp only at i1 i2 i3
      have hv : v = freeS s o F m := i3
      subst hv
      obtain ⟨I4, L4, o1, o2, o3, -⟩ := x8_one (c := c) (t := t) i1 (bcx (n2 (freeS s o F m))).toInt64
      refine ⟨I4, L4, ?_, o2, i2.trans o3⟩
      show fX8_free_31 (f + 1) 210 (n2 o) (n2 p) (n2 m) (n2 (freeS s o F m)) (n2 16) (mk K L c t) = _
      have hbc : ∀ (a : Int32) (μ : qM), fJ6_bitCount_0f7a4 a μ = some (bcx a, 0, μ) := fun a μ => rfl
      rw [fX8_free_31]
      dsimp only
      rw [l_16, if_pos (by rw [n2_le (by omega) (by omega)]; omega), l_0, u210_1, qbnd_s, hbc, qbnd_s]
      dsimp only
      rw [o1, qbnd_s]
  · rw [if_neg e, if_neg e, if_neg e]
    exact ⟨J, L, rfl, w1, hJv⟩
theorem y8_free_n [FB] (w : W8 I L s h kp tx row cs) (x y z : Int32) (hn : ¬ (nIx x < 8 ∧ 1 ≤ nIx y ∧ nIx y < 5 ∧ 1 ≤ nIx z ∧ nIx z < 7)) : ∃ I', fX8_free 210 x y z (mk I L c t) = some (-n2 1, 0, mk I' L c t) ∧ W8 I' L s h kp tx row cs ∧ Fy I I' := by
  refine ⟨_, ?_, w.sc (thr0 (I := I)), thr0.v⟩
  unfold fX8_free
  rw [if_pos (by rw [kk_210])]
  unfold gX8_free
  rw [l_0, u210_0, qbnd_s, ow8, qbnd_s]
  dsimp only
  by_cases e : nIx x < 8
  · rw [decide_eq_true e, if_neg yes_zero, x8_in y (lo := 1) (hi := 4) (a := 1) (b := 4) (by omega) (by omega) rfl rfl, qbnd_s]
    dsimp only
    by_cases e2 : 1 ≤ nIx y ∧ nIx y ≤ 4
    · rw [decide_eq_true e2, if_neg yes_zero, lm8, qbnd_s]
      dsimp only
      rw [decide_eq_false (show ¬ (1 ≤ nIx z ∧ nIx z < 7) from fun q => hn ⟨e, e2.1, by omega, q.1, q.2⟩), if_pos no_zero, l_1]
    · rw [decide_eq_false e2, if_pos no_zero, l_1]
  · rw [decide_eq_false e, if_pos no_zero, l_1]
end S9F

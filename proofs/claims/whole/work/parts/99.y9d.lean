/-! PURE SIDE, THE REFERENCE: what is held, in common, who waits -/
def cmG (s : St) (o q : Nat) (p : Nat) (z : Nat × Nat × Nat) : Nat × Nat × Nat := if s p o = 0 ∨ s p q = 0 then z else (z.1 + 1, p, z.2.2 + (if s 89 o = p ∨ s 89 q = p then 1 else 0))
def cmU (s : St) (o q : Nat) (z : Nat × Nat × Nat) (p : Nat) : Nat × Nat × Nat := if s p o = 0 ∨ s p q = 0 then z else (z.1 + 1, if z.1 = 0 then p else z.2.1, z.2.2 + (if s 89 o = p ∨ s 89 q = p then 1 else 0))
theorem cmS_r (s : St) (o q : Nat) : cmS s o q = (List.range 85).foldr (cmG s o q) (0, 85, 0) := by
  unfold cmS
  have h : ∀ n, n ≤ 85 → (List.range n).foldl (cmF s o q) (0, 85, 0) = (List.range' (85 - n) n).foldr (cmG s o q) (0, 85, 0) := by
    intro n
    induction n with
    | zero => intro _; rfl
    | succ n ih =>
      intro hn
      rw [List.range_succ, List.foldl_append, ih (by omega), show 85 - (n + 1) = 84 - n by omega, List.range'_succ, List.foldr_cons, show 84 - n + 1 = 85 - n by omega]
      rfl
  rw [h 85 (Nat.le_refl _), List.range_eq_range']
theorem cmU_r (s : St) (o q : Nat) : ∀ (l : List Nat) (a b w : Nat), l.foldl (cmU s o q) (a, b, w) = (a + (l.foldr (cmG s o q) (0, 85, 0)).1, (if a = 0 then (if (l.foldr (cmG s o q) (0, 85, 0)).1 = 0 then b else (l.foldr (cmG s o q) (0, 85, 0)).2.1) else b), w + (l.foldr (cmG s o q) (0, 85, 0)).2.2)
  | [], a, b, w => by simp
  | p :: l, a, b, w => by
    rw [List.foldl_cons, List.foldr_cons]
    generalize hr : l.foldr (cmG s o q) (0, 85, 0) = r
    have ih := cmU_r s o q l
    rw [hr] at ih
    unfold cmU cmG
    by_cases e : s p o = 0 ∨ s p q = 0
    · rw [if_pos e, if_pos e]
      exact ih a b w
    · rw [if_neg e, if_neg e]
      have := ih (a + 1) (if a = 0 then p else b) (w + (if s 89 o = p ∨ s 89 q = p then 1 else 0))
      unfold cmU at this
      rw [this]
      dsimp only
      rw [if_neg (show ¬ a + 1 = 0 by omega), if_neg (show ¬ r.1 + 1 = 0 by omega)]
      refine Prod.ext (by show a + 1 + r.1 = a + (r.1 + 1); omega) (Prod.ext rfl ?_)
      show w + _ + r.2.2 = w + (r.2.2 + _)
      omega
theorem cmG_0 (s : St) (o q : Nat) : ∀ l : List Nat, (l.foldr (cmG s o q) (0, 85, 0)).1 = 0 → (l.foldr (cmG s o q) (0, 85, 0)).2.1 = 85
  | [], _ => rfl
  | p :: l, h => by
    rw [List.foldr_cons] at h ⊢
    have ih := cmG_0 s o q l
    generalize l.foldr (cmG s o q) (0, 85, 0) = r at *
    unfold cmG at h ⊢
    by_cases e : s p o = 0 ∨ s p q = 0
    · rw [if_pos e] at h ⊢
      exact ih h
    · rw [if_neg e] at h
      dsimp only at h
      omega
theorem cmU_S (s : St) (o q : Nat) : (List.range 85).foldl (cmU s o q) (0, 85, 0) = cmS s o q := by
  rw [cmU_r, cmS_r]
  have h := cmG_0 s o q (List.range 85)
  generalize (List.range 85).foldr (cmG s o q) (0, 85, 0) = r at *
  rw [if_pos rfl]
  refine Prod.ext (Nat.zero_add _) (Prod.ext ?_ (Nat.zero_add _))
  show (if r.1 = 0 then 85 else r.2.1) = r.2.1
  by_cases e : r.1 = 0
  · rw [if_pos e, h e]
  · rw [if_neg e]
theorem quS_0 (s : St) : ∀ (l : List Nat) (z : Nat × Nat × Nat) (b : Nat), (z.1 = 0 → z.2.2 = 0) → (z.1 ≠ 0 → b = z.2.1) → (l.foldl (fun (y : Nat × Nat × Nat) p => (if reqs s p = 0 then y.1 else y.1 + 1, if reqs s p ≤ y.2.2 then y.2.1 else p, if reqs s p ≤ y.2.2 then y.2.2 else reqs s p)) (z.1, b, z.2.2)).1 = (l.foldl (quF s) z).1 ∧ ((l.foldl (quF s) z).1 ≠ 0 → (l.foldl (fun (y : Nat × Nat × Nat) p => (if reqs s p = 0 then y.1 else y.1 + 1, if reqs s p ≤ y.2.2 then y.2.1 else p, if reqs s p ≤ y.2.2 then y.2.2 else reqs s p)) (z.1, b, z.2.2)).2.1 = (l.foldl (quF s) z).2.1)
  | [], z, b, _, h2 => ⟨rfl, h2⟩
  | p :: l, z, b, h1, h2 => by
    rw [List.foldl_cons, List.foldl_cons]
    have h := quS_0 s l (quF s z p) (if reqs s p ≤ z.2.2 then b else p) ?_ ?_
    · exact h
    · unfold quF
      dsimp only
      intro e
      by_cases f : reqs s p = 0
      · rw [if_pos f] at e
        rw [if_pos (by omega)]
        exact h1 e
      · rw [if_neg f] at e
        omega
    · unfold quF
      dsimp only
      intro e
      by_cases f : reqs s p = 0
      · rw [if_pos f] at e
        rw [if_pos (by omega), if_pos (by omega)]
        exact h2 e
      · by_cases g : reqs s p ≤ z.2.2
        · rw [if_pos g, if_pos g]
          refine h2 fun e0 => ?_
          have := h1 e0
          omega
        · rw [if_neg g, if_neg g]
section S9D
variable {I I' : Nat → Nat → Int32} {L : Nat → Nat → Int64} {c t r N T n : Nat} {s s' s0 : St} {μ : qM} {h : List St} {kp : Nat → Option St} {tx : List Nat} {row : List Int64} {cs : List Nat}
theorem y8_holds [FB] (w : W8 I L s h kp tx row cs) (hG : Gd N s) (hN : N < 900000000) (x y : Int32) (hx : nIx x < 8) (hy : nIx y < 85) : ∃ I' L', fX8_holds 210 x y (mk I L c t) = some (n2 (heldL s (nIx x) (nIx y) 85).length, 0, mk I' L' c t) ∧ W8 I' L' s h kp tx (i64s (heldL s (nIx x) (nIx y) 85)) cs ∧ Fy I I' := by
  have w1 := w.sc (thr0 (I := I))
  have hr : (217 : Nat) = 217 ∨ (217 : Nat) = 218 := .inl rfl
  obtain ⟨o, ho, rfl⟩ := nIx_ex (by omega) hx
  obtain ⟨p, hp, rfl⟩ := nIx_ex (x := y) (by omega) hy
  rw [nIx_n (show o < 2147483648 by omega)] at hx ⊢
  rw [nIx_n (show p < 2147483648 by omega)] at hy ⊢
  have h0 : heldL s o p p = [] := by
    unfold heldL
    rw [Nat.sub_self]
    rfl
  have w2 := w1.t0
  have hF : Fy I (upI (upI I 210 0 (n2 0)) 210 1 (n2 0)) := thr0.v.trans (.up (by omega))
  have f0 : ∀ {μ : qM}, fX8_flag (n2 0) μ = some (n2 0, 0, μ) := fun {μ} => x8_flag0
  have f1 : ∀ {μ : qM}, fX8_flag (n2 1) μ = some (n2 1, 0, μ) := fun {μ} => x8_flag1
  have key := lp_rk (α := (Nat → Nat → Int32) × (Nat → Nat → Int64)) (fun n k z => fX8_holds_18 n 210 (n2 o) (n2 (heldL s o p k).length) (n2 k) (mk z.1 z.2 c t)) 85 (fun k z => (heldL s o p k).length ≤ k ∧ W8 z.1 z.2 s h kp tx (i64s (heldL s o p k)) cs ∧ Fy I z.1) (fun r => ∃ I' L', r = some (n2 (heldL s o p 85).length, 0, mk I' L' c t) ∧ W8 I' L' s h kp tx (i64s (heldL s o p 85)) cs ∧ Fy I I') (k0 := p) (by omega) (by omega) (upI (upI I 210 0 (n2 0)) 210 1 (n2 0), L) ⟨by rw [h0]; exact Nat.zero_le _, by rw [h0]; exact w2, hF⟩ (fun n k z hpk hk hi => ?_) (fun n z hi => ?_)
  · rw [h0] at key
    unfold fX8_holds
    rw [if_pos (by rw [kk_210])]
    unfold gX8_holds
    rw [l_0, u210_0, qbnd_s, ow8, qbnd_s]
    dsimp only
    rw [nIx_n (by omega), decide_eq_true ho, if_neg yes_zero, pl8, qbnd_s]
    dsimp only
    rw [nIx_n (by omega), decide_eq_true hp, if_neg yes_zero, u210_1, qbnd_s]
    exact key
  · obtain ⟨J, M⟩ := z
    obtain ⟨i2, i3, i4⟩ := hi
    dsimp only at i2 i3 i4
    have b1 := x8_held (L := M) (c := c) (t := t) hr i3.nw ho hk
    have hm := (gd_bd hG (show N < 1000000000 by omega)).md hk ho
    have q3 : ¬ n2 85 ≤ n2 k := by rw [n2_le (by omega) (by omega)]; omega
    obtain ⟨v, hv⟩ : ∃ v, (heldL s o p k).length = v := ⟨_, rfl⟩
    have head : fX8_holds_18 (n + 1) 210 (n2 o) (n2 v) (n2 k) (mk J M c t) = if s k o = 0 then fX8_holds_18 n 210 (n2 o) (n2 v) (n2 (k + 1)) (mk J M c t) else if 12 ≤ v then fX8_holds_18 n 210 (n2 o) (n2 (v + 1)) (n2 (k + 1)) (mk J M c t) else qbnd (fX8_enters 210 (n2 k).toInt64 (mk J M c t)) fun r3 => fX8_holds_18 n 210 (n2 o) (n2 (v + 1)) (n2 (k + 1)) r3.2.2 := by
      rw [fX8_holds_18]
      dsimp only
      unfold fX8_holds_30
      rw [l_85, if_neg q3, g210_14, qbnd_s, b1, qbnd_s]
      dsimp only
      rw [l_0, l_1, l_12, f0, f1, qbnd_s, qbnd_s]
      dsimp only
      rw [n2_add, n2_add, n2_add]
      by_cases e : s k o = 0
      · rw [if_pos (by rw [n2_le (by omega) (by omega)]; omega), if_pos rfl, if_pos e]
        rfl
      · rw [if_neg (by rw [n2_le (by omega) (by omega)]; omega), if_neg one_ne, if_neg e]
        by_cases e2 : 12 ≤ v
        · rw [if_pos (by rw [n2_le (by omega) (by omega)]; exact e2), if_pos e2]
        · rw [if_neg (by rw [n2_le (by omega) (by omega)]; exact e2), if_neg e2]
          congr 1
          funext r3
          rw [f1, qbnd_s, n2_add]
    show (_ : Prop) ∨ ∃ a', fX8_holds_18 (n + 1) 210 (n2 o) (n2 (heldL s o p k).length) (n2 k) (mk J M c t) = _ ∧ _
    rw [hv, head]
    right
    by_cases e : s k o = 0
    · refine ⟨(J, M), ?_, ?_, ?_, i4⟩
      · rw [if_pos e]
        dsimp only
        rw [heldL_succ hpk, if_pos e, hv]
      · rw [heldL_succ hpk, if_pos e]; omega
      · rw [heldL_succ hpk, if_pos e]; exact i3
    · by_cases e2 : 12 ≤ v
      · refine ⟨(J, M), ?_, ?_, ?_, i4⟩
        · rw [if_neg e, if_pos e2]
          dsimp only
          rw [heldL_succ hpk, if_neg e, List.length_append, hv]
          rfl
        · rw [heldL_succ hpk, if_neg e, List.length_append]
          simp
          omega
        · rw [heldL_succ hpk, if_neg e, i64s_ge (by omega)]; exact i3
      · have hl := i64s_len (heldL s o p k)
        obtain ⟨J2, M2, o1, w3, p3, p4⟩ := x8_more (c := c) (t := t) i3 (by omega) (n2 k).toInt64
        refine ⟨(J2, M2), ?_, ?_, ?_, i4.trans p3⟩
        · rw [if_neg e, if_neg e2, o1, qbnd_s]
          dsimp only
          rw [heldL_succ hpk, if_neg e, List.length_append, hv]
          rfl
        · rw [heldL_succ hpk, if_neg e, List.length_append]
          simp
          omega
        · rw [heldL_succ hpk, if_neg e, i64s_lt (by omega)]; exact w3
  · obtain ⟨J, M⟩ := z
    obtain ⟨i2, i3, i4⟩ := hi
    dsimp only at i2 i3 i4
    refine ⟨J, M, ?_, i3, i4⟩
    show fX8_holds_18 (n + 1) 210 (n2 o) (n2 (heldL s o p 85).length) (n2 85) (mk J M c t) = _
    rw [fX8_holds_18]
    dsimp only
    rw [l_85, if_pos (by rw [n2_le (by omega) (by omega)]; exact Nat.le_refl 85)]
theorem y8_holds_n [FB] (w : W8 I L s h kp tx row cs) (x y : Int32) (hn : ¬ (nIx x < 8 ∧ nIx y < 85)) : ∃ I', fX8_holds 210 x y (mk I L c t) = some (-n2 1, 0, mk I' L c t) ∧ W8 I' L s h kp tx row cs ∧ Fy I I' := by
  refine ⟨_, ?_, w.sc (thr0 (I := I)), thr0.v⟩
  unfold fX8_holds
  rw [if_pos (by rw [kk_210])]
  unfold gX8_holds
  rw [l_0, u210_0, qbnd_s, ow8, qbnd_s]
  dsimp only
  by_cases e : nIx x < 8
  · rw [decide_eq_true e, if_neg yes_zero, pl8, qbnd_s]
    dsimp only
    rw [decide_eq_false (show ¬ nIx y < 85 by omega), if_pos no_zero, l_1]
  · rw [decide_eq_false e, if_pos no_zero, l_1]
theorem y8_common [FB] (w : W8 I L s h kp tx row cs) (hG : Gd N s) (hN : N < 900000000) (x y : Int32) (hx : nIx x < 8) (hy : nIx y < 8) (hxy : nIx x ≠ nIx y) : ∃ I' L', fX8_common 210 x y (mk I L c t) = some (n2 (cmS s (nIx x) (nIx y)).1, 0, mk I' L' c t) ∧ W8 I' L' s h kp tx [(n2 (cmS s (nIx x) (nIx y)).2.1).toInt64, (n2 (cmS s (nIx x) (nIx y)).2.2).toInt64] cs ∧ Fy I I' := by
  have w1 := w.sc (thr0 (I := I))
  have hB := gd_bd hG (show N < 1000000000 by omega)
  have hr : (217 : Nat) = 217 ∨ (217 : Nat) = 218 := .inl rfl
  obtain ⟨o, ho, rfl⟩ := nIx_ex (by omega) hx
  obtain ⟨q, hq, rfl⟩ := nIx_ex (x := y) (by omega) hy
  rw [nIx_n (show o < 2147483648 by omega)] at hx hxy ⊢
  rw [nIx_n (show q < 2147483648 by omega)] at hy hxy ⊢
  have f0 : ∀ {μ : qM}, fX8_flag (n2 0) μ = some (n2 0, 0, μ) := fun {μ} => x8_flag0
  have f1 : ∀ {μ : qM}, fX8_flag (n2 1) μ = some (n2 1, 0, μ) := fun {μ} => x8_flag1
  obtain ⟨I1, L1, I2, L2, o1, p1, o2, p2, p3, o4, p4⟩ := x8_two (c := c) (t := t) w1 (n2 (cmS s o q).2.1).toInt64 (n2 (cmS s o q).2.2).toInt64
  refine ⟨I2, L2, ?_, p2, thr0.v.trans p3⟩
  obtain ⟨J, hJ⟩ : ∃ J, upI I 210 0 (n2 0) = J := ⟨_, rfl⟩
  rw [hJ] at w1 o1
  have key := lp_rk (α := Nat × Nat × Nat) (fun f k z => fX8_common_22 f 210 (n2 o) (n2 q) (n2 z.1) (n2 z.2.1) (n2 z.2.2) (n2 k) (mk J L c t)) 85 (fun k z => z = (List.range k).foldl (cmU s o q) (0, 85, 0) ∧ z.1 ≤ k) (fun r => r = some (n2 (cmS s o q).1, 0, mk I2 L2 c t)) (k0 := 0) (by omega) (by omega) (0, 85, 0) ⟨rfl, Nat.le_refl 0⟩ (fun f k z _ hk hi => Or.inr ⟨cmU s o q z k, ?_, ?_, ?_⟩) (fun f z hi => ?_)
  · unfold fX8_common
    rw [if_pos (by rw [kk_210])]
    unfold gX8_common
    rw [l_0, u210_0, qbnd_s, ow8, qbnd_s]
    dsimp only
    rw [nIx_n (by omega), decide_eq_true ho, if_neg yes_zero, ow8, qbnd_s]
    dsimp only
    rw [nIx_n (by omega), decide_eq_true hq, if_neg yes_zero, if_neg (by rw [n2_eq (by omega) (by omega)]; exact hxy), l_85, hJ]
    exact key
  · obtain ⟨a, b, w⟩ := z
    obtain ⟨i1, i2⟩ := hi
    dsimp only at i2
    have b1 := x8_held (L := L) (c := c) (t := t) hr w1.nw ho hk
    have b2 := x8_held (L := L) (c := c) (t := t) hr w1.nw hq hk
    have c1 := x8_isIn (L := L) (c := c) (t := t) hr w1.nw hB ho hk
    have c2 := x8_isIn (L := L) (c := c) (t := t) hr w1.nw hB hq hk
    have m1 := hB.md hk ho
    have m2 := hB.md hk hq
    have no : fX8_common_39 (fX8_common_22 f) 210 (n2 o) (n2 q) (n2 a) (n2 b) (n2 w) (n2 k) (mk J L c t) = fX8_common_22 f 210 (n2 o) (n2 q) (n2 a) (n2 b) (n2 w) (n2 (k + 1)) (mk J L c t) := by
      unfold fX8_common_39 fX8_common_40
      rw [l_0, if_pos rfl]
      unfold fX8_common_47 fX8_common_48
      rw [f0, qbnd_s]
      dsimp only
      rw [l_0, if_pos rfl, f0, qbnd_s]
      dsimp only
      rw [l_1, n2_add, n2_add, n2_add]
      rfl
    have yes48 : ∀ g, fX8_common_48 (fX8_common_22 f) 210 (n2 o) (n2 q) (n2 a) (n2 w) (n2 k) (n2 1) g (mk J L c t) = fX8_common_22 f 210 (n2 o) (n2 q) (n2 (a + 1)) g (n2 (w + (if s 89 o = k ∨ s 89 q = k then 1 else 0))) (n2 (k + 1)) (mk J L c t) := by
      intro g
      unfold fX8_common_48
      rw [f1, qbnd_s]
      dsimp only
      rw [l_0, l_1, if_neg one_ne, g210_14, qbnd_s, c1, qbnd_s]
      dsimp only
      by_cases e3 : s 89 o = k
      · rw [decide_eq_true e3, if_neg yes_zero, if_pos (Or.inl e3), f1, qbnd_s]
        dsimp only
        rw [n2_add, n2_add, n2_add]
      · rw [decide_eq_false e3, if_pos no_zero, g210_14, qbnd_s, c2, qbnd_s]
        dsimp only
        by_cases e4 : s 89 q = k
        · rw [decide_eq_true e4, if_neg yes_zero, if_pos (Or.inr e4), f1, qbnd_s]
          dsimp only
          rw [n2_add, n2_add, n2_add]
        · rw [decide_eq_false e4, if_pos no_zero, if_neg (fun z => z.elim e3 e4), f0, qbnd_s]
          dsimp only
          rw [n2_add, n2_add, n2_add]
    show fX8_common_22 (f + 1) 210 (n2 o) (n2 q) (n2 a) (n2 b) (n2 w) (n2 k) (mk J L c t) = _
    rw [fX8_common_22]
    dsimp only
    rw [l_85, if_neg (by rw [n2_le (by omega) (by omega)]; omega), g210_14, qbnd_s, b1, qbnd_s]
    dsimp only
    rw [l_0, l_1, no, g210_14, qbnd_s, b2, qbnd_s]
    dsimp only
    unfold cmU
    by_cases e1 : s k o = 0
    · rw [if_pos (by rw [n2_le (by omega) (by omega)]; omega), if_pos (Or.inl e1)]
    rw [if_neg (by rw [n2_le (by omega) (by omega)]; omega)]
    by_cases e2 : s k q = 0
    · rw [if_pos (by rw [n2_le (by omega) (by omega)]; omega), if_pos (Or.inr e2)]
      exact no
    rw [if_neg (by rw [n2_le (by omega) (by omega)]; omega), if_neg (fun z => z.elim e1 e2)]
    unfold fX8_common_40
    rw [l_0, if_neg one_ne]
    unfold fX8_common_47
    rw [yes48, yes48]
    by_cases e5 : a = 0
    · rw [if_pos (by rw [e5]), if_pos e5]
    · rw [if_neg (by rw [n2_eq (by omega) (by omega)]; exact e5), if_neg e5]
  · rw [List.range_succ, List.foldl_append, ← hi.1]
    rfl
  · unfold cmU
    have := hi.2
    split
    · omega
    · show z.1 + 1 ≤ k + 1
      omega
  · obtain ⟨i1, i2⟩ := hi
    rw [cmU_S] at i1
    rw [i1]
    show fX8_common_22 (f + 1) 210 (n2 o) (n2 q) (n2 (cmS s o q).1) (n2 (cmS s o q).2.1) (n2 (cmS s o q).2.2) (n2 85) (mk J L c t) = _
    rw [fX8_common_22]
    dsimp only
    rw [l_85, if_pos (by rw [n2_le (by omega) (by omega)]; exact Nat.le_refl 85), l_0, u210_1, qbnd_s, o1, qbnd_s]
    dsimp only
    rw [p1, qbnd_s]
theorem y8_common_n [FB] (w : W8 I L s h kp tx row cs) (x y : Int32) (hn : ¬ (nIx x < 8 ∧ nIx y < 8 ∧ nIx x ≠ nIx y)) : ∃ I', fX8_common 210 x y (mk I L c t) = some (-n2 1, 0, mk I' L c t) ∧ W8 I' L s h kp tx row cs ∧ Fy I I' := by
  refine ⟨_, ?_, w.sc (thr0 (I := I)), thr0.v⟩
  unfold fX8_common
  rw [if_pos (by rw [kk_210])]
  unfold gX8_common
  rw [l_0, u210_0, qbnd_s, ow8, qbnd_s]
  dsimp only
  by_cases e : nIx x < 8
  · rw [decide_eq_true e, if_neg yes_zero, ow8, qbnd_s]
    dsimp only
    by_cases e2 : nIx y < 8
    · rw [decide_eq_true e2, if_neg yes_zero, if_pos (by rw [nIx_eq (x := x) (by omega), nIx_eq (x := y) (by omega), show nIx x = nIx y by omega]), l_1]
    · rw [decide_eq_false e2, if_pos no_zero, l_1]
  · rw [decide_eq_false e, if_pos no_zero, l_1]
theorem y8_queues [FB] (w : W8 I L s h kp tx row cs) (hG : Gd N s) (hN : N < 900000000) : ∃ I' L', fX8_queues 210 (mk I L c t) = some (n2 (quS s).1, 0, mk I' L' c t) ∧ W8 I' L' s h kp tx (if (quS s).1 = 0 then [] else [(n2 (quS s).2.1).toInt64, (n2 (chgN s)).toInt64]) cs ∧ Fy I I' := by
  have w1 := w.sc (thr0 (I := I))
  have hB := gd_bd hG (show N < 1000000000 by omega)
  have hr : (217 : Nat) = 217 ∨ (217 : Nat) = 218 := .inl rfl
  have f0 : ∀ {μ : qM}, fX8_flag (n2 0) μ = some (n2 0, 0, μ) := fun {μ} => x8_flag0
  have f1 : ∀ {μ : qM}, fX8_flag (n2 1) μ = some (n2 1, 0, μ) := fun {μ} => x8_flag1
  obtain ⟨J, hJ⟩ : ∃ J, upI I 210 0 (n2 0) = J := ⟨_, rfl⟩
  have hJv : Fy I J := by rw [← hJ]; exact thr0.v
  rw [hJ] at w1
  -- the changes are counted, then all is told
  have fin : ∀ a b : Nat, a < 2000 → ∃ I' L', fX8_queues_45 qfu 210 (n2 a) (n2 b) (n2 0) (n2 0) (mk J L c t) = some (n2 a, 0, mk I' L' c t) ∧ W8 I' L' s h kp tx (if a = 0 then [] else [(n2 b).toInt64, (n2 (chgN s)).toInt64]) cs ∧ Fy J I' := by
    intro a b ha
    have lp := lp_f0 (α := Nat) (fun f k z => fX8_queues_45 f 210 (n2 a) (n2 b) (n2 z) (n2 k) (mk J L c t)) 8 (by omega) (fun n o => n + bn (chg s o)) (fun z => qbnd (oPutI (mk J L c t) 8 210 1 (n2 0)) fun μ1 => if n2 a ≤ n2 0 then some (n2 a, 0, μ1) else qbnd (fX8_enters 210 (n2 b).toInt64 μ1) fun r2 => qbnd (fX8_enters 210 (n2 z).toInt64 r2.2.2) fun r3 => some (n2 a, 0, r3.2.2)) 0 (fun f k z hk => ?_) (fun f z => ?_)
    · have hch : (List.range 8).foldl (fun n o => n + bn (chg s o)) 0 = chgN s := rfl
      rw [hch, u210_1, qbnd_s] at lp
      by_cases e : a = 0
      · refine ⟨upI J 210 1 (n2 0), L, ?_, by rw [if_pos e]; exact w1.t0, .up (by omega)⟩
        refine lp.trans ?_
        rw [if_pos (by rw [e]; decide)]
      · obtain ⟨I1, L1, I2, L2, o1, p1, o2, p2, p3, o4, p4⟩ := x8_two (c := c) (t := t) w1 (n2 b).toInt64 (n2 (chgN s)).toInt64
        refine ⟨I2, L2, ?_, by rw [if_neg e]; exact p2, p3⟩
        refine lp.trans ?_
        rw [if_neg (by rw [n2_le (by omega) (by omega)]; omega), o1, qbnd_s]
        dsimp only
        rw [p1, qbnd_s]
    · have how := hB.ow hk
      show fX8_queues_45 (f + 1) 210 (n2 a) (n2 b) (n2 z) (n2 k) (mk J L c t) = _
      rw [fX8_queues_45]
      dsimp only
      rw [l_8, if_neg (by rw [n2_le (by omega) (by omega)]; omega), g210_14, qbnd_s, l_680, n2_add 680, r8L hr (by omega) (w1.nw.2.1 k hk).1, qbnd_s, l_0, l_1, l_2, f0]
      by_cases e1 : s 85 k = 2
      · have hat := (how.2.2.2.2.2.2.2.2).mp e1
        rw [if_pos (by rw [e1]), qbnd_s, x8_isChange hr w1.nw hB hk hat, qbnd_s]
        dsimp only
        rcases bcs (chg s k) with e2 | e2
        · rw [e2, if_pos no_zero, f0, qbnd_s]
          dsimp only
          rw [n2_add, n2_add]
          rfl
        · rw [e2, if_neg yes_zero, f1, qbnd_s]
          dsimp only
          rw [n2_add, n2_add]
          rfl
      · have hch : chg s k = false := by
          have hat : ¬ s 89 k < 85 := fun z => e1 ((how.2.2.2.2.2.2.2.2).mpr z)
          unfold chg
          rw [decide_eq_false (show ¬ s 89 k ≠ 85 by have := how.2.2.2.1; omega), Bool.false_and]
        rw [if_neg (by rw [n2_eq (by omega) (by omega)]; exact e1), hch, qbnd_s]
        dsimp only
        rw [n2_add, n2_add]
        rfl
    · show fX8_queues_45 (f + 1) 210 (n2 a) (n2 b) (n2 z) (n2 8) (mk J L c t) = _
      rw [fX8_queues_45]
      dsimp only
      rw [l_8, if_pos (by rw [n2_le (by omega) (by omega)]; omega), l_0]
  have e0 : fX8_queues 210 (mk I L c t) = fX8_queues_11 qfu 210 (n2 0) (n2 0) (n2 0) (n2 0) (mk J L c t) := by
    unfold fX8_queues
    rw [if_pos (by rw [kk_210])]
    unfold gX8_queues
    rw [l_0, u210_0, qbnd_s, hJ]
  rw [e0]
  refine lp_rk (α := Nat × Nat × Nat) (fun f k z => fX8_queues_11 f 210 (n2 z.1) (n2 z.2.1) (n2 z.2.2) (n2 k) (mk J L c t)) 85 (fun k z => z = (List.range k).foldl (fun (y : Nat × Nat × Nat) p => (if reqs s p = 0 then y.1 else y.1 + 1, if reqs s p ≤ y.2.2 then y.2.1 else p, if reqs s p ≤ y.2.2 then y.2.2 else reqs s p)) (0, 0, 0) ∧ z.1 ≤ k ∧ z.2.2 ≤ 8) (fun r => ∃ I' L', r = some (n2 (quS s).1, 0, mk I' L' c t) ∧ W8 I' L' s h kp tx (if (quS s).1 = 0 then [] else [(n2 (quS s).2.1).toInt64, (n2 (chgN s)).toInt64]) cs ∧ Fy I I') (k0 := 0) (by omega) (by omega) (0, 0, 0) ⟨rfl, Nat.le_refl 0, by show 0 ≤ 8; omega⟩ (fun f k z _ hk hi => Or.inr ⟨(if reqs s k = 0 then z.1 else z.1 + 1, if reqs s k ≤ z.2.2 then z.2.1 else k, if reqs s k ≤ z.2.2 then z.2.2 else reqs s k), ?_, ?_, ?_, ?_⟩) (fun f z hi => ?_)
  · obtain ⟨a, b, m⟩ := z
    obtain ⟨i1, i2, i3⟩ := hi
    dsimp only at i2 i3
    have hq := reqs_le s k
    have hmx : (if n2 m < n2 (reqs s k) then n2 (reqs s k) else n2 m) = n2 (if reqs s k ≤ m then m else reqs s k) := by
      by_cases e : reqs s k ≤ m
      · rw [if_neg (by rw [n2_lt (by omega) (by omega)]; omega), if_pos e]
      · rw [if_pos (by rw [n2_lt (by omega) (by omega)]; omega), if_neg e]
    have h25 : ∀ v : Nat, fX8_flag (n2 v) (mk J L c t) = some (n2 v, 0, mk J L c t) → fX8_queues_25 (fX8_queues_11 f) 210 (n2 b) (n2 m) (n2 k) (n2 (reqs s k)) (n2 v) (n2 a) (mk J L c t) = fX8_queues_11 f 210 (n2 (a + v)) (n2 (if reqs s k ≤ m then b else k)) (n2 (if reqs s k ≤ m then m else reqs s k)) (n2 (k + 1)) (mk J L c t) := by
      intro v hv
      unfold fX8_queues_25
      rw [hv, qbnd_s, hmx]
      dsimp only
      rw [l_1, n2_add, n2_add]
      by_cases e : reqs s k ≤ m
      · rw [if_pos (by rw [n2_le (by omega) (by omega)]; exact e), if_pos e, if_pos e]
      · rw [if_neg (by rw [n2_le (by omega) (by omega)]; exact e), if_neg e, if_neg e]
    show fX8_queues_11 (f + 1) 210 (n2 a) (n2 b) (n2 m) (n2 k) (mk J L c t) = fX8_queues_11 f 210 (n2 (if reqs s k = 0 then a else a + 1)) (n2 (if reqs s k ≤ m then b else k)) (n2 (if reqs s k ≤ m then m else reqs s k)) (n2 (k + 1)) (mk J L c t)
    rw [fX8_queues_11]
    dsimp only
    rw [l_85, if_neg (by rw [n2_le (by omega) (by omega)]; omega), g210_14, qbnd_s, x8_queued hr w1.nw hB hk, qbnd_s]
    dsimp only
    rw [l_0, l_1]
    by_cases e : reqs s k = 0
    · rw [if_pos (by rw [n2_le (by omega) (by omega)]; omega), h25 0 f0, if_pos e]
      rfl
    · rw [if_neg (by rw [n2_le (by omega) (by omega)]; omega), h25 1 f1, if_neg e]
  · rw [List.range_succ, List.foldl_append, ← hi.1]
    rfl
  · have := hi.2.1
    show (if reqs s k = 0 then z.1 else z.1 + 1) ≤ k + 1
    split <;> omega
  · have := hi.2.2
    have := reqs_le s k
    show (if reqs s k ≤ z.2.2 then z.2.2 else reqs s k) ≤ 8
    split <;> omega
  · obtain ⟨i1, i2, i3⟩ := hi
    obtain ⟨g1, g2⟩ := quS_0 s (List.range 85) (0, 85, 0) 0 (fun _ => rfl) (fun z => absurd rfl z)
    have i1' : z = (List.range 85).foldl (fun (y : Nat × Nat × Nat) p => (if reqs s p = 0 then y.1 else y.1 + 1, if reqs s p ≤ y.2.2 then y.2.1 else p, if reqs s p ≤ y.2.2 then y.2.2 else reqs s p)) (0, 0, 0) := i1
    dsimp only at g1 g2
    rw [← i1'] at g1 g2
    have hq : (List.range 85).foldl (quF s) (0, 85, 0) = quS s := rfl
    rw [hq] at g1 g2
    obtain ⟨I', L', a1, a2, a3⟩ := fin z.1 z.2.1 (by omega)
    refine ⟨I', L', ?_, ?_, hJv.trans a3⟩
    · show fX8_queues_11 (f + 1) 210 (n2 z.1) (n2 z.2.1) (n2 z.2.2) (n2 85) (mk J L c t) = _
      rw [fX8_queues_11]
      dsimp only
      rw [l_85, if_pos (by rw [n2_le (by omega) (by omega)]; exact Nat.le_refl 85), l_0, a1, g1]
    · rw [← g1]
      by_cases e : z.1 = 0
      · rw [if_pos e] at a2 ⊢
        exact a2
      · rw [if_neg e] at a2 ⊢
        rw [← g2 (by rw [← g1]; exact e)]
        exact a2
end S9D

/-! PURE SIDE, THE REFERENCE: its acts -/
theorem nIx_ex {x : Int32} {B : Nat} (hB : B ≤ 2147483647) (h : nIx x < B) : ∃ o, o < B ∧ x = n2 o := ⟨nIx x, h, nIx_eq (by omega)⟩
theorem n2_m {k : Nat} (h1 : 1 ≤ k) (h2 : k < 100) : (-n2 k < n2 0) = True := by
  have : ∀ k, k < 100 → 1 ≤ k → -n2 k < n2 0 := by decide +kernel
  exact eq_true (this k h2 h1)
section S8J
variable {I : Nat → Nat → Int32} {L : Nat → Nat → Int64} {c t r N T n : Nat} {s : St} {μ : qM} {R : qF}
theorem R8.nb (hR : R8 (I r) s) {v : Nat} : R8 ((upI I r 752 (n2 v)) r) (su s 94 1 v) := by
  obtain ⟨h1, h2, h3, h4, h5⟩ := hR
  refine ⟨fun q j hq hj => ?_, fun j hj => ?_, ?_, ?_, ?_⟩
  · rw [upI_r, if_neg (by omega), su_ne (by omega)]; exact h1 q j hq hj
  · obtain ⟨a1, a2, a3, a4, a5, a6, a7, a8, a9⟩ := h2 j hj
    refine ⟨?_, ?_, ?_, ?_, ?_, ?_, ?_, ?_, fun hz => ?_⟩
    · rw [upI_r, if_neg (by omega), su_ne (by omega)]; exact a1
    · rw [upI_r, if_neg (by omega), su_ne (by omega)]; exact a2
    · rw [upI_r, if_neg (by omega), su_ne (by omega)]; exact a3
    · rw [upI_r, if_neg (by omega), su_ne (by omega)]; exact a4
    · rw [upI_r, if_neg (by omega), su_ne (by omega)]; exact a5
    · rw [upI_r, if_neg (by omega), su_ne (by omega)]; exact a6
    · rw [upI_r, if_neg (by omega), su_ne (by omega)]; exact a7
    · rw [upI_r, if_neg (by omega), su_ne (by omega)]; exact a8
    · rw [su_ne (by omega)] at hz
      rw [upI_r, if_neg (by omega), su_ne (by omega)]; exact a9 hz
  · rw [upI_r, if_pos rfl, su_eq]
  · rw [upI_r, if_neg (by omega), su_at, if_neg (by omega)]; exact h4
  · rw [upI_r, if_neg (by omega), su_at, if_neg (by omega)]; exact h5
theorem R8.bk (hR : R8 (I r) s) {v : Nat} : R8 ((upI I r 753 (n2 v)) r) (su s 94 2 v) := by
  obtain ⟨h1, h2, h3, h4, h5⟩ := hR
  refine ⟨fun q j hq hj => ?_, fun j hj => ?_, ?_, ?_, ?_⟩
  · rw [upI_r, if_neg (by omega), su_ne (by omega)]; exact h1 q j hq hj
  · obtain ⟨a1, a2, a3, a4, a5, a6, a7, a8, a9⟩ := h2 j hj
    refine ⟨?_, ?_, ?_, ?_, ?_, ?_, ?_, ?_, fun hz => ?_⟩
    · rw [upI_r, if_neg (by omega), su_ne (by omega)]; exact a1
    · rw [upI_r, if_neg (by omega), su_ne (by omega)]; exact a2
    · rw [upI_r, if_neg (by omega), su_ne (by omega)]; exact a3
    · rw [upI_r, if_neg (by omega), su_ne (by omega)]; exact a4
    · rw [upI_r, if_neg (by omega), su_ne (by omega)]; exact a5
    · rw [upI_r, if_neg (by omega), su_ne (by omega)]; exact a6
    · rw [upI_r, if_neg (by omega), su_ne (by omega)]; exact a7
    · rw [upI_r, if_neg (by omega), su_ne (by omega)]; exact a8
    · rw [su_ne (by omega)] at hz
      rw [upI_r, if_neg (by omega), su_ne (by omega)]; exact a9 hz
  · rw [upI_r, if_neg (by omega), su_at, if_neg (by omega)]; exact h3
  · rw [upI_r, if_pos rfl, su_eq]
  · rw [upI_r, if_neg (by omega), su_at, if_neg (by omega)]; exact h5
theorem su_comm {s : St} {p o v q j w : Nat} (h : p ≠ q ∨ o ≠ j) : su (su s p o v) q j w = su (su s q j w) p o v := by
  funext a b
  rw [su_at, su_at, su_at, su_at]
  by_cases e1 : a = q ∧ b = j
  · rw [if_pos e1, if_neg (fun z => by rcases h with h | h <;> omega), if_pos e1]
  · rw [if_neg e1, if_neg e1]
theorem x8_beginsOne (hr : r = 217 ∨ r = 218) (hR : R8 (I r) s) (hB : Bd s) (x : Int32) : ∃ I', fX8_beginsOne 210 r x (mk I L c t) = some ((startS s (nIx x)).1, 0, mk I' L c t) ∧ R8 (I' r) (startS s (nIx x)).2 ∧ Fx I I' r := by
  unfold fX8_beginsOne
  rw [if_pos (by rw [kk_210])]
  unfold gX8_beginsOne
  rw [ow8, qbnd_s]
  dsimp only
  by_cases e : nIx x < 8
  · obtain ⟨o, ho, rfl⟩ := nIx_ex (by omega) e
    have hst := (hB.ow ho).1
    have q85 := (hR.2.1 o ho).1
    rw [nIx_n (by omega)]
    have hS : startS s o = if s 85 o = 0 then (n2 (s 94 1 + 1), su (su (su s 94 1 (s 94 1 + 1)) 85 o 1) 86 o (s 94 1 + 1)) else (-n2 2, s) := by
      unfold startS
      rw [if_neg (by omega)]
    rw [hS, decide_eq_true ho, l_0, if_neg yes_zero, l_680, n2_add, r8L hr (by omega) q85, qbnd_s]
    by_cases e2 : s 85 o = 0
    · rw [if_pos (by rw [e2]), if_pos e2]
      have w1 := R8.own (k := 0) (v := 1) hR ho (by omega) (fun _ => by omega)
      have w2 := w1.nb (v := s 94 1 + 1)
      have w3 := R8.own (k := 1) (v := s 94 1 + 1) w2 ho (by omega) (fun z => by omega)
      have q1 : (upI I r (680 + o) (n2 1)) r 752 = n2 (s 94 1) := by rw [upI_r, if_neg (by omega)]; exact hR.2.2.1
      have q2 : (upI (upI I r (680 + o) (n2 1)) r 752 (n2 (s 94 1 + 1))) r 752 = n2 (s 94 1 + 1) := upI_eq
      have q3 : (upI (upI (upI I r (680 + o) (n2 1)) r 752 (n2 (s 94 1 + 1))) r (688 + o) (n2 (s 94 1 + 1))) r 752 = n2 (s 94 1 + 1) := by rw [upI_r, if_neg (by omega)]; exact q2
      refine ⟨upI (upI (upI I r (680 + o) (n2 1)) r 752 (n2 (s 94 1 + 1))) r (688 + o) (n2 (s 94 1 + 1)), ?_, ?_, (Fx.up.trans .up).trans .up⟩
      · rw [l_1, rw_S hr (by omega), qbnd_s, l_752, r8L hr (by omega) q1, qbnd_s, n2_add, rw_S hr (by omega), qbnd_s, r8L hr (by omega) q2, qbnd_s, l_688, n2_add, rw_S hr (by omega), qbnd_s, r8L hr (by omega) q3, qbnd_s]
      · have : su (su (su s 94 1 (s 94 1 + 1)) 85 o 1) 86 o (s 94 1 + 1) = su (su (su s (rwK 0) o 1) 94 1 (s 94 1 + 1)) (rwK 1) o (s 94 1 + 1) := by
          rw [su_comm (s := s) (p := 94) (by omega)]
          rfl
        rw [this]
        exact w3
    · refine ⟨I, ?_, by rw [if_neg e2]; exact hR, .rf _ _⟩
      rw [if_neg (by rw [n2_eq (by omega) (by omega)]; exact e2), if_neg e2, l_2]
  · refine ⟨I, ?_, ?_, .rf _ _⟩
    · unfold startS
      rw [decide_eq_false e, l_0, if_pos no_zero, if_pos (by omega), l_1]
    · unfold startS
      rw [if_pos (by omega)]
      exact hR
theorem idl_8 {s : St} {o : Nat} (h : s 85 o ≤ 2) {μ : qM} : (if n2 (s 85 o) = n2 0 then some (-n2 2, (0 : Int64), μ) else some (-n2 3, 0, μ)) = some (idl s o, 0, μ) := by
  unfold idl
  by_cases e : s 85 o = 0
  · rw [if_pos (by rw [e]), if_pos e]
  · rw [if_neg (by rw [n2_eq (by omega) (by omega)]; exact e), if_neg e]
theorem x8_worksOne (hr : r = 217 ∨ r = 218) (hR : R8 (I r) s) (hB : Bd s) (x y : Int32) : ∃ I', fX8_worksOne r x y (mk I L c t) = some ((labourS s (nIx x) (nIx y)).1, 0, mk I' L c t) ∧ R8 (I' r) (labourS s (nIx x) (nIx y)).2 ∧ Fx I I' r := by
  unfold fX8_worksOne
  rw [ow8, qbnd_s]
  dsimp only
  by_cases e : nIx x < 8
  · rw [decide_eq_true e, l_0, if_neg yes_zero, x8_in y (lo := 1) (hi := 9) (a := 1) (b := 9) (by omega) (by omega) rfl rfl, qbnd_s]
    dsimp only
    by_cases e1 : 1 ≤ nIx y ∧ nIx y ≤ 9
    · obtain ⟨o, ho, rfl⟩ := nIx_ex (by omega) e
      obtain ⟨m, hm, rfl⟩ := nIx_ex (x := y) (B := 10) (by omega) (by omega)
      have how := hB.ow ho
      have hst := how.1
      obtain ⟨q85, -, q87, -⟩ := hR.2.1 o ho
      rw [nIx_n (by omega)] at e1
      rw [nIx_n (by omega), nIx_n (by omega)]
      have hS : labourS s o m = if s 85 o = 1 then (n2 (wk99 s o m), su s 87 o (wk99 s o m)) else (idl s o, s) := by
        unfold labourS
        rw [if_neg (by omega)]
      rw [hS, decide_eq_true e1, if_neg yes_zero, l_680, n2_add, r8L hr (by omega) q85, qbnd_s]
      by_cases e2 : s 85 o = 1
      · rw [if_pos (by rw [e2, l_1]), if_pos e2]
        have h87 := how.2.1
        have w1 := R8.own (k := 2) (v := wk99 s o m) hR ho (by omega) (fun z => by omega)
        refine ⟨upI I r (696 + o) (n2 (wk99 s o m)), ?_, w1, .up⟩
        have ew : (if n2 (s 87 o) + n2 m < n2 99 then n2 (s 87 o) + n2 m else n2 99) = n2 (wk99 s o m) := by
          unfold wk99
          rw [n2_add]
          by_cases e3 : s 87 o + m < 99
          · rw [if_pos (by rw [n2_lt (by omega) (by omega)]; exact e3), if_pos e3]
          · rw [if_neg (by rw [n2_lt (by omega) (by omega)]; exact e3), if_neg e3]
        rw [l_696, l_99, n2_add 696, r8L hr (by omega) q87, qbnd_s, ew, rw_S hr (by omega), qbnd_s, r8L hr (by omega) upI_eq, qbnd_s]
      · refine ⟨I, ?_, by rw [if_neg e2]; exact hR, .rf _ _⟩
        rw [if_neg (by rw [l_1, n2_eq (by omega) (by omega)]; exact e2), if_neg e2, qbnd_s, l_2, l_3]
        exact idl_8 hst
    · refine ⟨I, ?_, ?_, .rf _ _⟩
      · unfold labourS
        rw [decide_eq_false e1, if_pos no_zero, if_pos (by omega), l_1]
      · unfold labourS
        rw [if_pos (by omega)]
        exact hR
  · refine ⟨I, ?_, ?_, .rf _ _⟩
    · unfold labourS
      rw [decide_eq_false e, l_0, if_pos no_zero, if_pos (by omega), l_1]
    · unfold labourS
      rw [if_pos (by omega)]
      exact hR
/-- whether it waits, by what going on answers -/
theorem go_1 {U : List Nat} {o l : Nat} (h : Iv T s) (hB : Blk s U) (ho : o < 8) (hr : s 85 o = 1) (hm : 1 ≤ s 93 o) (hl : l ≤ lev (s 92 o) + 1) (hp : 1 ≤ l → s (up (s 92 o) (l - 1)) o ≠ 0) (hf : Wt s + 1 ≤ n) : (goOnS (srvS n) s o l).1 85 o = (if (goOnS (srvS n) s o l).2 = 0 then 2 else 1) ∧ (goOnS (srvS n) s o l).2 ≤ 2 := by
  have hg : s 92 o < 85 := by have := (h.2.1 o ho).2.2.2.2.2.1; omega
  obtain ⟨a1, a2, a3, a4, a5, a6, a7, a8⟩ := steps_ok (U := U) (g := s 92 o) (m := s 93 o) ho hm (lev (s 92 o) + 1 - l) l s h hB hr rfl rfl (by omega) hp
  unfold goOnS
  generalize stepsS (lev (s 92 o) + 1 - l) s o (s 92 o) (s 93 o) l = z at *
  rcases bcs z.2 with e | e
  · rw [if_pos e]
    obtain ⟨b1, b2⟩ := a8 e
    exact ⟨by rw [if_pos rfl]; exact b1, by show 0 ≤ 2; omega⟩
  · rw [if_neg (by rw [e]; simp)]
    obtain ⟨b1, b2, b3⟩ := a7 e
    have e85 : ∀ j, z.1 85 j = s 85 j := fun j => congrFun (b3 85 (by omega)) j
    obtain ⟨c1, c2, c3, c4, c5, c6⟩ := bulk_ok (srv_ok n) b1 a2 ho b2 hg (by rw [Wt_row e85]; exact hf)
    have hb : ∀ (z : St) (o g : Nat), 1 ≤ (bulkS (srvS n) z o g).2 ∧ (bulkS (srvS n) z o g).2 ≤ 2 := by
      intro z o g
      unfold bulkS
      split
      · exact ⟨by show 1 ≤ 1; omega, by show 1 ≤ 2; omega⟩
      · split
        · split
          · exact ⟨by show 1 ≤ 2; omega, by show 2 ≤ 2; omega⟩
          · exact ⟨by show 1 ≤ 1; omega, by show 1 ≤ 2; omega⟩
        · exact ⟨by show 1 ≤ 1; omega, by show 1 ≤ 2; omega⟩
    obtain ⟨d1, d2⟩ := hb z.1 o (s 92 o)
    refine ⟨?_, d2⟩
    rw [if_neg (by omega)]
    have f1 := c4 o ho (by rw [b2]; omega)
    have f2 := c5 o ho
    have f3 := (c1.2.1 o ho).1
    by_cases f4 : (bulkS (srvS n) z.1 o (s 92 o)).1 85 o = 2
    · have := f2 f4
      omega
    · omega
theorem x8_locksOne (hr : r = 217 ∨ r = 218) (hR : R8 (I r) s) {G : Nat → Bool} (hG : I 210 16 = n2 (bits8 G)) (hg : Gd N s) (hN : N < 900000000) (x y z : Int32) {q : Int32 × St} (hq : lockS s (nIx x) (nIx y) (nIx z) = q) : ∃ I' G', fX8_locksOne 210 r x y z (mk I L c t) = some (if q.1 < n2 0 then q.1 else if q.1 = n2 0 then n2 0 else n2 1, 0, mk I' L c t) ∧ R8 (I' r) q.2 ∧ I' 210 16 = n2 (bits8 G') ∧ (¬ q.1 < n2 0 → G' (nIx x) = decide (q.1 = n2 2) ∧ nIx x < 8) ∧ F8 I I' r := by
  have hB := gd_bd hg (by omega)
  have bad : (8 ≤ nIx x ∨ 85 ≤ nIx y ∨ nIx z < 1 ∨ 6 < nIx z) → fX8_locksOne 210 r x y z (mk I L c t) = some (-n2 1, 0, mk I L c t) → ∃ I' G', fX8_locksOne 210 r x y z (mk I L c t) = some (if q.1 < n2 0 then q.1 else if q.1 = n2 0 then n2 0 else n2 1, 0, mk I' L c t) ∧ R8 (I' r) q.2 ∧ I' 210 16 = n2 (bits8 G') ∧ (¬ q.1 < n2 0 → G' (nIx x) = decide (q.1 = n2 2) ∧ nIx x < 8) ∧ F8 I I' r := by
    intro hb hf
    unfold lockS at hq
    rw [if_pos hb] at hq
    subst hq
    refine ⟨I, G, ?_, hR, hG, fun z => absurd (by show -n2 1 < n2 0; decide) z, .rf _ _⟩
    rw [hf, if_pos (show (-n2 1, s).1 < n2 0 by show -n2 1 < n2 0; decide)]
  have hr210 : r ≠ 210 := by omega
  by_cases e : nIx x < 8
  · by_cases e1 : nIx y < 85
    · by_cases e2 : 1 ≤ nIx z ∧ nIx z < 7
      · clear bad
        obtain ⟨o, ho, rfl⟩ := nIx_ex (by omega) e
        obtain ⟨p, hp, rfl⟩ := nIx_ex (x := y) (by omega) e1
        obtain ⟨m, hm, rfl⟩ := nIx_ex (x := z) (B := 7) (by omega) (by omega)
        rw [nIx_n (show o < 2147483648 by omega)] at hq e ⊢
        rw [nIx_n (show p < 2147483648 by omega)] at hq e1
        rw [nIx_n (show m < 2147483648 by omega)] at hq e2
        have how := hB.ow ho
        have hst := how.1
        have q85 := (hR.2.1 o ho).1
        have head : fX8_locksOne 210 r (n2 o) (n2 p) (n2 m) (mk I L c t) = if s 85 o = 1 then (if covd s o p m = true then fX8_locksOne_54 r (n2 o) (mk (upI I 210 16 (n2 0)) L c t) else (qbnd (oStI 20 (mk (upI I 210 16 (n2 0)) L c t) r (n2 728 + n2 o) (n2 p)) fun μ7 => qbnd (oStI 20 μ7 r (n2 736 + n2 o) (n2 m)) fun μ8 => qbnd (fX8_goesOn (sX8_serves qdp) 210 r (n2 o) (-n2 1) μ8) fun r9 => fX8_locksOne_54 r (n2 o) r9.2.2)) else some (idl s o, 0, mk I L c t) := by
          unfold fX8_locksOne
          rw [if_pos (by rw [kk_210])]
          unfold gX8_locksOne
          rw [ow8, qbnd_s]
          dsimp only
          rw [nIx_n (by omega), decide_eq_true e, l_0, if_neg yes_zero, pl8, qbnd_s]
          dsimp only
          rw [nIx_n (by omega), decide_eq_true e1, if_neg yes_zero, lm8, qbnd_s]
          dsimp only
          rw [nIx_n (by omega), decide_eq_true e2, if_neg yes_zero, l_680, n2_add 680, r8L hr (by omega) q85, qbnd_s, u210_16, qbnd_s]
          have hR0 : R8 ((upI I 210 16 (n2 0)) r) s := by rw [show (upI I 210 16 (n2 0)) r = I r from by funext i; exact upI_ne hr210]; exact hR
          rw [x8_isCovered hr hR0 hB ho hp (by omega), qbnd_s]
          dsimp only
          by_cases f : s 85 o = 1
          · rw [if_pos (by rw [f, l_1]), if_pos f]
            rcases bcs (covd s o p m) with f2 | f2
            · rw [f2, if_pos no_zero, if_neg Bool.false_ne_true, l_728, l_736, l_1]
            · rw [f2, if_neg yes_zero, if_pos rfl]
          · rw [if_neg (by rw [l_1, n2_eq (by omega) (by omega)]; exact f), if_neg f, qbnd_s, l_2, l_3]
            exact idl_8 hst
        have tail : ∀ (J : Nat → Nat → Int32) (s1 : St), R8 (J r) s1 → s1 85 o ≤ 2 → fX8_locksOne_54 r (n2 o) (mk J L c t) = some (n2 (bn (decide (s1 85 o = 1))), 0, mk J L c t) := by
          intro J s1 hJ hs1
          unfold fX8_locksOne_54
          rw [l_680, n2_add, r8L hr (by omega) (hJ.2.1 o ho).1, qbnd_s, l_1]
          by_cases f : s1 85 o = 1
          · rw [if_pos (by rw [f]), decide_eq_true f, ← l_1, x8_flag1, qbnd_s]
            rfl
          · rw [if_neg (by rw [n2_eq (by omega) (by omega)]; exact f), decide_eq_false f, x8_flag0, qbnd_s]
            rfl
        have hR0 : R8 ((upI I 210 16 (n2 0)) r) s := by rw [show (upI I 210 16 (n2 0)) r = I r from by funext i; exact upI_ne hr210]; exact hR
        have hG0 : (upI I 210 16 (n2 0)) 210 16 = n2 (bits8 fun _ => false) := by rw [upI_eq]; rfl
        have hF0 : F8 I (upI I 210 16 (n2 0)) r := fun b i h1 h2 => by
          by_cases eb : b = 210
          · subst eb
            exact upI_ni fun z => h2 ⟨rfl, z⟩
          · exact upI_ne eb
        rw [head]
        unfold lockS at hq
        rw [if_neg (by omega)] at hq
        by_cases f : s 85 o = 1
        · rw [if_pos f] at hq ⊢
          rcases bcs (covd s o p m) with f2 | f2
          · rw [f2, if_neg Bool.false_ne_true] at hq ⊢
            obtain ⟨a1, a2, a3⟩ := gd_lockpre (m := m) hg ho f hp (by omega)
            have w1 := R8.own (k := 6) (v := p) hR0 ho (by omega) (fun z => by omega)
            have w2 : R8 ((upI (upI (upI I 210 16 (n2 0)) r (680 + 8 * 6 + o) (n2 p)) r (680 + 8 * 7 + o) (n2 m)) r) (su (su s 92 o p) 93 o m) := R8.own (k := 7) (v := m) w1 ho (by omega) (fun z => by omega)
            have g1 : (upI (upI (upI I 210 16 (n2 0)) r (680 + 8 * 6 + o) (n2 p)) r (680 + 8 * 7 + o) (n2 m)) 210 16 = n2 (bits8 fun _ => false) := by rw [upI_ne (by omega), upI_ne (by omega)]; exact hG0
            have k92 : su (su s 92 o p) 93 o m 92 o = p := by rw [su_ne (by omega), su_eq]
            have k93 : su (su s 92 o p) 93 o m 93 o = m := su_eq
            have k85 : su (su s 92 o p) 93 o m 85 o = 1 := by rw [su_ne (by omega), su_ne (by omega)]; exact f
            have hWt := Wt_le (su (su s 92 o p) 93 o m)
            obtain ⟨I2, G2, r1, r2, r3, r4, r5, r6⟩ := x8_goesOn (L := L) (c := c) (t := t) (l := 0) (n := 16) (R := sX8_serves qdp) hr (sv8_ok hr qdp 16 (by rw [qdp_eq]; omega)) (show N < 1000000000 by omega) ho w2 g1 a1 a2 k85 (by rw [k93]; omega) (by omega) (fun z => by omega) (by omega)
            obtain ⟨b1, b2⟩ := go_1 (n := 16) (l := 0) a1 a2 ho k85 (by rw [k93]; omega) (by omega) (fun z => by omega) (by omega)
            obtain ⟨z, hz⟩ : ∃ z, goOnS (srvS 16) (su (su s 92 o p) 93 o m) o 0 = z := ⟨_, rfl⟩
            have r2' : R8 (I2 r) (goOnS (srvS 16) (su (su s 92 o p) 93 o m) o 0).1 := r2
            rw [hz] at r2' r5 b1 b2 hq
            subst hq
            have hz1 : z.1 85 o ≤ 2 := by rw [b1]; split <;> omega
            have hpv : prv (su (su s 92 o p) 93 o m 92 o) 0 = -n2 1 := rfl
            rw [hpv] at r1
            refine ⟨I2, G2, ?_, r2', r3, fun _ => ⟨?_, ho⟩, (hF0.trans (Fx.up.trans Fx.up).f8).trans r6⟩
            · rw [n2_add, rw_S hr (by omega), qbnd_s, n2_add, rw_S hr (by omega), qbnd_s, show 728 + o = 680 + 8 * 6 + o by omega, show 736 + o = 680 + 8 * 7 + o by omega, r1, qbnd_s]
              dsimp only
              rw [tail I2 z.1 r2' hz1, b1]
              by_cases f3 : z.2 = 0
              · rw [if_pos f3, f3, if_neg (show ¬ n2 0 < n2 0 by decide), if_pos rfl]
                rfl
              · rw [if_neg f3, if_neg (by rw [n2_lt (by omega) (by omega)]; omega), if_neg (by rw [n2_eq (by omega) (by omega)]; exact f3)]
                rfl
            · rw [r5, Bool.false_or]
              exact decide_eq_decide.mpr (by rw [n2_eq (by omega) (by omega)])
          · rw [f2, if_pos rfl] at hq ⊢
            subst hq
            refine ⟨_, fun _ => false, ?_, hR0, hG0, fun _ => ⟨by show false = decide (n2 1 = n2 2); decide, ho⟩, hF0⟩
            rw [tail _ s hR0 hst, f]
            rfl
        · rw [if_neg f] at hq ⊢
          subst hq
          have hid : idl s o < n2 0 := by
            unfold idl
            split <;> decide
          refine ⟨I, G, ?_, hR, hG, fun z => absurd hid z, .rf _ _⟩
          rw [if_pos hid]
      · refine bad (by omega) ?_
        unfold fX8_locksOne
        rw [if_pos (by rw [kk_210])]
        unfold gX8_locksOne
        rw [ow8, qbnd_s]
        dsimp only
        rw [decide_eq_true e, l_0, if_neg yes_zero, pl8, qbnd_s]
        dsimp only
        rw [decide_eq_true e1, if_neg yes_zero, lm8, qbnd_s]
        dsimp only
        rw [decide_eq_false e2, if_pos no_zero, l_1]
    · refine bad (by omega) ?_
      unfold fX8_locksOne
      rw [if_pos (by rw [kk_210])]
      unfold gX8_locksOne
      rw [ow8, qbnd_s]
      dsimp only
      rw [decide_eq_true e, l_0, if_neg yes_zero, pl8, qbnd_s]
      dsimp only
      rw [decide_eq_false e1, if_pos no_zero, l_1]
  · refine bad (by omega) ?_
    unfold fX8_locksOne
    rw [if_pos (by rw [kk_210])]
    unfold gX8_locksOne
    rw [ow8, qbnd_s]
    dsimp only
    rw [decide_eq_false e, l_0, if_pos no_zero, l_1]
end S8J

/-! PURE SIDE, THE REFERENCE: unlocking, ending, gathering, what is bulk -/
section S8L
variable {I : Nat → Nat → Int32} {L : Nat → Nat → Int64} {c t r N T n : Nat} {s : St} {μ : qM} {R : qF}
theorem x8_unlocksOne (hr : r = 217 ∨ r = 218) (hR : R8 (I r) s) {G : Nat → Bool} (hG : I 210 16 = n2 (bits8 G)) (hg : Gd N s) (hN : N < 900000000) (x y : Int32) : ∃ I' G', fX8_unlocksOne 210 r x y (mk I L c t) = some (if (unlockS s (nIx x) (nIx y)).1 < n2 0 then (unlockS s (nIx x) (nIx y)).1 else n2 (woke s (unlockS s (nIx x) (nIx y)).2), 0, mk I' L c t) ∧ R8 (I' r) (unlockS s (nIx x) (nIx y)).2 ∧ I' 210 16 = n2 (bits8 G') ∧ F8 I I' r := by
  have hB := gd_bd hg (by omega)
  obtain ⟨q, hq⟩ : ∃ q, unlockS s (nIx x) (nIx y) = q := ⟨_, rfl⟩
  rw [hq]
  have neg : ∀ v : Int32, v < n2 0 → q = (v, s) → fX8_unlocksOne 210 r x y (mk I L c t) = some (v, 0, mk I L c t) → ∃ I' G', fX8_unlocksOne 210 r x y (mk I L c t) = some (if q.1 < n2 0 then q.1 else n2 (woke s q.2), 0, mk I' L c t) ∧ R8 (I' r) q.2 ∧ I' 210 16 = n2 (bits8 G') ∧ F8 I I' r := by
    intro v hv he hf
    subst he
    refine ⟨I, G, ?_, hR, hG, .rf _ _⟩
    rw [hf, if_pos (show (v, s).1 < n2 0 from hv)]
  have hr210 : r ≠ 210 := by omega
  have hid : ∀ o, idl s o < n2 0 := fun o => by
    unfold idl
    split <;> decide
  unfold unlockS at hq
  by_cases e : nIx x < 8
  · by_cases e1 : nIx y < 85
    · rw [if_neg (by omega)] at hq
      obtain ⟨o, ho, rfl⟩ := nIx_ex (by omega) e
      obtain ⟨p, hp, rfl⟩ := nIx_ex (x := y) (by omega) e1
      rw [nIx_n (show o < 2147483648 by omega)] at hq e
      rw [nIx_n (show p < 2147483648 by omega)] at hq e1
      have how := hB.ow ho
      have hst := how.1
      have hm := hB.md hp ho
      have q85 := (hR.2.1 o ho).1
      have hb85 := hbel_lt s o p
      have head : fX8_unlocksOne 210 r (n2 o) (n2 p) (mk I L c t) = if s 85 o = 1 then (if s p o = 0 then some (-n2 4, 0, mk I L c t) else if hbel s o p = 0 then (qbnd (fX8_serves (sX8_serves qdp) 210 r (n2 p) (mk (upI I r (85 * o + p) (n2 0)) L c t)) fun r8 => qbnd (fX8_so r (n2 1) r8.2.2) fun r9 => qbnd (fJ6_bitCount_0f7a4 (n2 (bits8 fun o => decide (s 85 o = 2)) &&& r9.1) r9.2.2) fun r10 => some (r10.1, 0, r10.2.2)) else some (-n2 5, 0, mk I L c t)) else some (idl s o, 0, mk I L c t) := by
        unfold fX8_unlocksOne
        rw [if_pos (by rw [kk_210])]
        unfold gX8_unlocksOne
        rw [ow8, qbnd_s]
        dsimp only
        rw [nIx_n (by omega), decide_eq_true e, l_0, if_neg yes_zero, pl8, qbnd_s]
        dsimp only
        rw [nIx_n (by omega), decide_eq_true e1, if_neg yes_zero, l_680, n2_add 680, r8L hr (by omega) q85, qbnd_s, x8_held hr hR ho hp, qbnd_s]
        dsimp only
        rw [x8_belowMany hr hR hB ho hp, qbnd_s]
        dsimp only
        rw [l_2, x8_so hr hR hB (by omega), qbnd_s]
        dsimp only
        rw [x8_holdsNow hr ho hp, qbnd_s]
        dsimp only
        by_cases f : s 85 o = 1
        · rw [if_pos (by rw [f, l_1]), if_pos f]
          by_cases f2 : s p o = 0
          · rw [if_pos (by rw [f2]), if_pos f2, l_4]
          · rw [if_neg (by rw [n2_eq (by omega) (by omega)]; exact f2), if_neg f2]
            by_cases f3 : hbel s o p = 0
            · rw [if_pos (by rw [n2_le (by omega) (by omega)]; omega), if_pos f3, l_1]
            · rw [if_neg (by rw [n2_le (by omega) (by omega)]; omega), if_neg f3, l_5]
        · rw [if_neg (by rw [l_1, n2_eq (by omega) (by omega)]; exact f), if_neg f, qbnd_s, l_3]
          exact idl_8 hst
      by_cases f : s 85 o = 1
      · rw [if_pos f] at hq head
        by_cases f2 : s p o = 0
        · rw [if_pos f2] at hq head
          exact neg (-n2 4) (by decide) hq.symm head
        · rw [if_neg f2] at hq head
          by_cases f3 : hbel s o p = 0
          · rw [if_pos f3] at hq head
            subst hq
            obtain ⟨a1, a2⟩ := gd_unl hg ho f hp f3
            have w1 := hR.h (v := 0) ho hp
            have g1 : (upI I r (85 * o + p) (n2 0)) 210 16 = n2 (bits8 G) := by rw [upI_ne (by omega)]; exact hG
            obtain ⟨I2, G2, r1, r2, r3, r4, r5⟩ := x8_serves (L := L) (c := c) (t := t) (n := 16) (U := []) (R := sX8_serves qdp) hr (sv8_ok hr qdp 16 (by rw [qdp_eq]; omega)) (show N < 1000000000 by omega) hp w1 g1 a1 a2 (need_17 (by omega))
            have hG2 : Gd N (srvS 17 (su s p o 0) p) := by
              have := gd_unlock (o := o) (p := p) hg
              unfold unlockS at this
              rw [if_neg (by omega), if_pos f, if_neg f2, if_pos f3] at this
              exact this
            have b1 := x8_so (L := L) (c := c) (t := t) hr r2 (gd_bd hG2 (by omega)) (show 1 ≤ 2 by omega)
            refine ⟨I2, G2, ?_, r2, r3, Fx.up.f8.trans r5⟩
            rw [head, r1, qbnd_s]
            dsimp only
            rw [b1, qbnd_s]
            dsimp only
            rw [j6_woke, qbnd_s, if_neg (show ¬ n2 0 < n2 0 by decide)]
          · rw [if_neg f3] at hq head
            exact neg (-n2 5) (by decide) hq.symm head
      · rw [if_neg f] at hq head
        exact neg _ (hid o) hq.symm head
    · rw [if_pos (by omega)] at hq
      refine neg (-n2 1) (by decide) hq.symm ?_
      unfold fX8_unlocksOne
      rw [if_pos (by rw [kk_210])]
      unfold gX8_unlocksOne
      rw [ow8, qbnd_s]
      dsimp only
      rw [decide_eq_true e, l_0, if_neg yes_zero, pl8, qbnd_s]
      dsimp only
      rw [decide_eq_false e1, if_pos no_zero, l_1]
  · rw [if_pos (by omega)] at hq
    refine neg (-n2 1) (by decide) hq.symm ?_
    unfold fX8_unlocksOne
    rw [if_pos (by rw [kk_210])]
    unfold gX8_unlocksOne
    rw [ow8, qbnd_s]
    dsimp only
    rw [decide_eq_false e, l_0, if_pos no_zero, l_1]
theorem x8_endsOne (hr : r = 217 ∨ r = 218) (hR : R8 (I r) s) {G : Nat → Bool} (hG : I 210 16 = n2 (bits8 G)) (hg : Gd N s) (hN : N < 900000000) (x : Int32) : ∃ I' G', fX8_endsOne 210 r x (mk I L c t) = some ((finishS s (nIx x)).1, 0, mk I' L c t) ∧ R8 (I' r) (finishS s (nIx x)).2 ∧ I' 210 16 = n2 (bits8 G') ∧ F8 I I' r := by
  have hB := gd_bd hg (by omega)
  unfold fX8_endsOne
  rw [if_pos (by rw [kk_210])]
  unfold gX8_endsOne
  rw [ow8, qbnd_s]
  dsimp only
  by_cases e : nIx x < 8
  · obtain ⟨o, ho, rfl⟩ := nIx_ex (by omega) e
    have hst := (hB.ow ho).1
    have q85 := (hR.2.1 o ho).1
    rw [nIx_n (by omega)]
    have hS : finishS s o = if s 85 o = 0 then (-n2 2, s) else (n2 (hol s o 0), leaveS s o) := by
      unfold finishS
      rw [if_neg (by omega)]
    rw [hS, decide_eq_true ho, l_0, if_neg yes_zero, l_680, n2_add 680, r8L hr (by omega) q85, qbnd_s]
    by_cases f : s 85 o = 0
    · refine ⟨I, G, ?_, by rw [if_pos f]; exact hR, hG, .rf _ _⟩
      rw [if_pos (by rw [f]), if_pos f, l_2]
    · obtain ⟨I', G', a1, a2, a3, a4⟩ := x8_goes (L := L) (c := c) (t := t) hr (show N < 1000000000 by omega) ho hR hG hg.1 hg.2.1
      refine ⟨I', G', ?_, by rw [if_neg f]; exact a2, a3, a4⟩
      rw [if_neg (by rw [n2_eq (by omega) (by omega)]; exact f), if_neg f, a1, qbnd_s]
  · have hS : finishS s (nIx x) = (-n2 1, s) := by
      unfold finishS
      rw [if_pos (by omega)]
    refine ⟨I, G, ?_, by rw [hS]; exact hR, hG, .rf _ _⟩
    rw [hS, decide_eq_false e, l_0, if_pos no_zero, l_1]
theorem x8_gathersAt (hr : r = 217 ∨ r = 218) (hR : R8 (I r) s) {G : Nat → Bool} (hG : I 210 16 = n2 (bits8 G)) (hg : Gd N s) (hN : N < 900000000) (x y : Int32) : ∃ I' G', fX8_gathersAt 210 r x y (mk I L c t) = some ((collectS s (nIx x) (nIx y)).1, 0, mk I' L c t) ∧ R8 (I' r) (collectS s (nIx x) (nIx y)).2 ∧ I' 210 16 = n2 (bits8 G') ∧ F8 I I' r := by
  have hB := gd_bd hg (by omega)
  unfold fX8_gathersAt
  rw [if_pos (by rw [kk_210])]
  unfold gX8_gathersAt
  rw [ow8, qbnd_s]
  dsimp only
  by_cases e : nIx x < 8
  · rw [decide_eq_true e, l_0, if_neg yes_zero, x8_in y (lo := 0) (hi := 20) (a := 0) (b := 20) (by omega) (by omega) rfl rfl, qbnd_s]
    dsimp only
    by_cases e1 : 0 ≤ nIx y ∧ nIx y ≤ 20
    · obtain ⟨o, ho, rfl⟩ := nIx_ex (by omega) e
      obtain ⟨p, hp, rfl⟩ := nIx_ex (x := y) (B := 21) (by omega) (by omega)
      have hst := (hB.ow ho).1
      have q85 := (hR.2.1 o ho).1
      have hcg := x8_canGather (L := L) (c := c) (t := t) hr hR hg.1 (by omega) ho (show p < 85 by omega)
      rw [nIx_n (by omega)] at e1
      rw [nIx_n (by omega), nIx_n (by omega)]
      have hS : collectS s o p = if s 85 o = 1 then (if canG s o p = true then (n2 (hbel s o p), (gathS (srvS 16) s o p).1) else (-n2 4, s)) else (idl s o, s) := by
        unfold collectS
        rw [if_neg (by omega)]
      rw [hS, decide_eq_true e1, if_neg yes_zero, l_680, n2_add 680, r8L hr (by omega) q85, qbnd_s]
      by_cases f : s 85 o = 1
      · rw [if_pos (by rw [f, l_1]), if_pos f, hcg, qbnd_s]
        dsimp only
        rcases bcs (canG s o p) with f2 | f2
        · refine ⟨I, G, ?_, by rw [f2, if_neg Bool.false_ne_true]; exact hR, hG, .rf _ _⟩
          rw [f2, if_pos no_zero, if_neg Bool.false_ne_true, l_4]
        · obtain ⟨I', G', a1, a2, a3, a4, a5, a6⟩ := x8_gathersOne (L := L) (c := c) (t := t) (n := 16) (U := []) (R := sX8_serves qdp) hr (sv8_ok hr qdp 16 (by rw [qdp_eq]; omega)) (show N < 1000000000 by omega) ho (show p < 85 by omega) hR hG hg.1 hg.2.1 f (Or.inr (by omega))
          refine ⟨I', G', ?_, by rw [if_pos f2]; exact a2, a3, a6⟩
          rw [f2, if_pos rfl] at a1
          rw [f2, if_neg yes_zero, if_pos rfl, a1, qbnd_s]
      · refine ⟨I, G, ?_, by rw [if_neg f]; exact hR, hG, .rf _ _⟩
        rw [if_neg (by rw [l_1, n2_eq (by omega) (by omega)]; exact f), if_neg f, qbnd_s, l_2, l_3]
        exact idl_8 hst
    · have hS : collectS s (nIx x) (nIx y) = (-n2 1, s) := by
        unfold collectS
        rw [if_pos (by omega)]
      refine ⟨I, G, ?_, by rw [hS]; exact hR, hG, .rf _ _⟩
      rw [hS, decide_eq_false e1, if_pos no_zero, l_1]
  · have hS : collectS s (nIx x) (nIx y) = (-n2 1, s) := by
      unfold collectS
      rw [if_pos (by omega)]
    refine ⟨I, G, ?_, by rw [hS]; exact hR, hG, .rf _ _⟩
    rw [hS, decide_eq_false e, l_0, if_pos no_zero, l_1]
theorem x8_bulksOne (hr : r = 217 ∨ r = 218) (hR : R8 (I r) s) (hB : Bd s) (x : Int32) : ∃ I', fX8_bulksOne r x (mk I L c t) = some ((setbS s (nIx x)).1, 0, mk I' L c t) ∧ R8 (I' r) (setbS s (nIx x)).2 ∧ Fx I I' r := by
  have hnu := hB.nu
  unfold fX8_bulksOne
  rw [x8_in x (lo := 2) (hi := 5) (a := 2) (b := 5) (by omega) (by omega) rfl rfl, qbnd_s]
  dsimp only
  by_cases e1 : 2 ≤ nIx x ∧ nIx x ≤ 5
  · obtain ⟨v, hv, rfl⟩ := nIx_ex (x := x) (B := 6) (by omega) (by omega)
    have w1 := hR.bk (v := v)
    rw [nIx_n (by omega)] at e1
    rw [nIx_n (by omega)]
    have hS : setbS s v = if v = s 94 2 then (-n2 2, s) else (n2 (10 + s 94 2), su s 94 2 v) := by
      unfold setbS
      rw [if_neg (by omega)]
    rw [hS]
    refine ⟨upI I r 753 (n2 v), ?_, ?_, .up⟩
    · rw [decide_eq_true e1, l_0, if_neg yes_zero, l_753, r8L hr (by omega) hR.2.2.2.1, qbnd_s, rw_S hr (by omega), qbnd_s]
      by_cases f : v = s 94 2
      · rw [if_pos (by rw [f]), if_pos f, l_2]
      · rw [if_neg (by rw [n2_eq (by omega) (by omega)]; exact fun z => f z.symm), if_neg f, l_10, n2_add]
    · by_cases f : v = s 94 2
      · rw [if_pos f]
        rw [f, su_self] at w1
        rw [f]
        exact w1
      · rw [if_neg f]
        exact w1
  · have hS : setbS s (nIx x) = (-n2 1, s) := by
      unfold setbS
      rw [if_pos (by omega)]
    refine ⟨I, ?_, by rw [hS]; exact hR, .rf _ _⟩
    rw [hS, decide_eq_false e1, l_0, if_pos no_zero, l_1]
end S8L

/-! PURE SIDE, THE REFERENCE: waiting, covering, what a lock would do -/
section S9E
variable {I I' : Nat → Nat → Int32} {L : Nat → Nat → Int64} {c t r N T n : Nat} {s s' s0 : St} {μ : qM} {h : List St} {kp : Nat → Option St} {tx : List Nat} {row : List Int64} {cs : List Nat}
theorem y8_waits [FB] (w : W8 I L s h kp tx row cs) (hG : Gd N s) (hN : N < 900000000) (x : Int32) (hx : nIx x < 8) : ∃ I' L', fX8_waits 210 x (mk I L c t) = some (if s 85 (nIx x) = 2 then n2 (s 89 (nIx x)) else -n2 2, 0, mk I' L' c t) ∧ W8 I' L' s h kp tx (if s 85 (nIx x) = 2 then [(n2 (s 90 (nIx x))).toInt64, (n2 (posn s (nIx x))).toInt64, (n2 (s 92 (nIx x))).toInt64, (n2 (s 93 (nIx x))).toInt64] else row) cs ∧ Fy I I' := by
  have w1 := w.sc (thr0 (I := I))
  have hB := gd_bd hG (show N < 1000000000 by omega)
  have hr : (217 : Nat) = 217 ∨ (217 : Nat) = 218 := .inl rfl
  obtain ⟨o, ho, rfl⟩ := nIx_ex (by omega) hx
  rw [nIx_n (show o < 2147483648 by omega)] at hx ⊢
  have how := hB.ow ho
  unfold fX8_waits
  rw [if_pos (by rw [kk_210])]
  unfold gX8_waits
  rw [l_0, u210_0, qbnd_s, ow8, qbnd_s]
  dsimp only
  rw [nIx_n (by omega), decide_eq_true ho, if_neg yes_zero, g210_14, qbnd_s, l_680, n2_add 680, r8L hr (by omega) (w1.nw.2.1 o ho).1, qbnd_s, l_2]
  by_cases e : s 85 o = 2
  · have hat := (how.2.2.2.2.2.2.2.2).mp e
    obtain ⟨I1, L1, o1, o2, o3, -⟩ := x8_one (c := c) (t := t) w1 (n2 (s 90 o)).toInt64
    obtain ⟨I2, L2, p1, p2, p3, -⟩ := x8_more (c := c) (t := t) o2 (by show 1 < 24; omega) (n2 (posn s o)).toInt64
    obtain ⟨I3, L3, q1, q2, q3, -⟩ := x8_more (c := c) (t := t) p2 (by show 2 < 24; omega) (n2 (s 92 o)).toInt64
    obtain ⟨I4, L4, u1, u2, u3, -⟩ := x8_more (c := c) (t := t) q2 (by show 3 < 24; omega) (n2 (s 93 o)).toInt64
    refine ⟨I4, L4, ?_, by rw [if_pos e]; exact u2, (((thr0.v.trans o3).trans p3).trans q3).trans u3⟩
    rw [if_pos (by rw [e]), if_pos e, u210_1, qbnd_s, g210_14, qbnd_s, l_720, n2_add 720, r8L hr (by omega) (w1.t0.nw.2.1 o ho).2.2.2.2.2.1, qbnd_s, o1, qbnd_s]
    dsimp only
    rw [g210_14, qbnd_s, x8_aheadOf hr o2.nw hB ho hat, qbnd_s]
    dsimp only
    rw [p1, qbnd_s]
    dsimp only
    rw [g210_14, qbnd_s, l_728, n2_add 728, r8L hr (by omega) (p2.nw.2.1 o ho).2.2.2.2.2.2.1, qbnd_s, q1, qbnd_s]
    dsimp only
    rw [g210_14, qbnd_s, l_736, n2_add 736, r8L hr (by omega) (q2.nw.2.1 o ho).2.2.2.2.2.2.2.1, qbnd_s, u1, qbnd_s]
    dsimp only
    rw [g210_14, qbnd_s, l_712, n2_add 712, r8L hr (by omega) (u2.nw.2.1 o ho).2.2.2.2.1, qbnd_s]
  · refine ⟨_, L, ?_, by rw [if_neg e]; exact w1, thr0.v⟩
    rw [if_neg (by rw [n2_eq (by omega) (by omega)]; exact e), if_neg e]
theorem y8_waits_n [FB] (w : W8 I L s h kp tx row cs) (x : Int32) (hn : ¬ nIx x < 8) : ∃ I', fX8_waits 210 x (mk I L c t) = some (-n2 1, 0, mk I' L c t) ∧ W8 I' L s h kp tx row cs ∧ Fy I I' := by
  refine ⟨_, ?_, w.sc (thr0 (I := I)), thr0.v⟩
  unfold fX8_waits
  rw [if_pos (by rw [kk_210])]
  unfold gX8_waits
  rw [l_0, u210_0, qbnd_s, ow8, qbnd_s]
  dsimp only
  rw [decide_eq_false hn, if_pos no_zero, l_1]
theorem x8_fa_l (hR : R8 (I 217) s) (hB : Bd s) {i p ms : Nat} (hi : i < 8) (hp : p < 85) (hms : ms < 128) : ∀ (l f b : Nat), l ≤ lev p → l < f → fX8_firstAbove_5 f 210 (n2 i) (n2 ms) (n2 b) (prv p l) (mk I L c t) = some (n2 (match (List.range l).find? (fun q => tst ms (s (up p q) i)) with
    | some q => up p q
    | none => b), 0, mk I L c t) := by
  intro l
  induction l with
  | zero =>
    intro f b _ hf
    obtain ⟨f', rfl⟩ : ∃ f', f = f' + 1 := ⟨f - 1, by omega⟩
    rw [fX8_firstAbove_5]
    dsimp only
    rw [prv_0, l_0, if_pos (show -n2 1 < n2 0 by decide)]
    rfl
  | succ l ih =>
    intro f b hl hf
    obtain ⟨f', rfl⟩ : ∃ f', f = f' + 1 := ⟨f - 1, by omega⟩
    have hu := up_lt hp l
    have hm := hB.md hu hi
    have hlv := lev_le p
    have i1 := ih f' b (by omega) (by omega)
    have i2 := ih f' (up p l) (by omega) (by omega)
    have hh : ∀ {μ : qM}, fX8_has (n2 ms) (n2 (s (up p l) i)) μ = some (n2 (bn (tst ms (s (up p l) i))), 0, μ) := x8_has (by omega) (by omega)
    rw [fX8_firstAbove_5]
    dsimp only
    rw [prv_s, l_0, if_neg (by rw [n2_nn (by omega)]; exact not_false), g210_14, qbnd_s, x8_held (.inl rfl) hR hi hu, qbnd_s]
    dsimp only
    rw [hh, qbnd_s]
    dsimp only
    rw [x8_parent_up hp (by omega), qbnd_s, qbnd_s, List.range_succ, List.find?_append]
    dsimp only
    rw [i1, i2]
    cases hf1 : (List.range l).find? (fun q => tst ms (s (up p q) i)) with
    | some q =>
      dsimp only [Option.some_or]
      rcases bcs (tst ms (s (up p l) i)) with e | e
      · rw [e, if_pos no_zero]
      · rw [e, if_neg yes_zero]
    | none =>
      dsimp only [Option.none_or]
      rcases bcs (tst ms (s (up p l) i)) with e | e
      · rw [e, if_pos no_zero, List.find?_cons_of_neg (by rw [e]; exact Bool.false_ne_true)]
        rfl
      · rw [e, if_neg yes_zero, List.find?_cons_of_pos (by rw [e])]
theorem x8_firstAbove (hR : R8 (I 217) s) (hB : Bd s) {i p ms : Nat} (hi : i < 8) (hp : p < 85) (hms : ms < 128) : fX8_firstAbove 210 (n2 i) (n2 p) (n2 ms) (mk I L c t) = some (n2 (fab s i p ms), 0, mk I L c t) := by
  have hlv := lev_le p
  have h1 := x8_parent_up (μ := mk I L c t) hp (Nat.le_refl (lev p))
  rw [up_lev p hp] at h1
  have h2 := x8_fa_l (L := L) (c := c) (t := t) hR hB hi hp hms (lev p) qfu 85 (Nat.le_refl _) (by rw [qfu_eq]; omega)
  unfold fX8_firstAbove
  rw [if_pos (by rw [kk_210])]
  unfold gX8_firstAbove
  rw [h1, qbnd_s, l_85, h2]
  rfl
theorem y8_covers [FB] (w : W8 I L s h kp tx row cs) (hG : Gd N s) (hN : N < 900000000) (x y : Int32) : ∃ I' L', fX8_covers 210 x y (mk I L c t) = some (if nIx x < 8 ∧ nIx y < 85 then n2 (covS s (nIx x) (nIx y)).1 else -n2 1, 0, mk I' L' c t) ∧ W8 I' L' s h kp tx (if nIx x < 8 ∧ nIx y < 85 then [(n2 (covS s (nIx x) (nIx y)).2).toInt64] else row) cs ∧ Fy I I' := by
  have w1 := w.sc (thr0 (I := I))
  have hB := gd_bd hG (show N < 1000000000 by omega)
  have hr : (217 : Nat) = 217 ∨ (217 : Nat) = 218 := .inl rfl
  unfold fX8_covers
  rw [if_pos (by rw [kk_210])]
  unfold gX8_covers
  rw [l_0, u210_0, qbnd_s, ow8, qbnd_s]
  dsimp only
  by_cases e : nIx x < 8
  · rw [decide_eq_true e, if_neg yes_zero, pl8, qbnd_s]
    dsimp only
    by_cases e1 : nIx y < 85
    · obtain ⟨o, ho, rfl⟩ := nIx_ex (by omega) e
      obtain ⟨p, hp, rfl⟩ := nIx_ex (x := y) (by omega) e1
      rw [nIx_n (show o < 2147483648 by omega)] at e ⊢
      rw [nIx_n (show p < 2147483648 by omega)] at e1 ⊢
      have hm := hB.md hp ho
      have a1 := fab_lt s (o := o) 64 hp
      have a2 := fab_lt s (o := o) 56 hp
      obtain ⟨I1, L1, o1, o2, o3, -⟩ := x8_one (c := c) (t := t) w1 (n2 (covS s o p).2).toInt64
      refine ⟨I1, L1, ?_, by rw [if_pos ⟨e, e1⟩]; exact o2, thr0.v.trans o3⟩
      have hl56 : (56 : Int32) = n2 56 := l_56
      rw [if_pos (show o < 8 ∧ p < 85 from ⟨e, e1⟩), decide_eq_true e1, if_neg yes_zero, g210_14, qbnd_s, x8_held hr w1.nw ho hp, qbnd_s]
      dsimp only
      rw [l_64, l_56, x8_firstAbove w1.nw hB ho hp (by omega), qbnd_s]
      dsimp only
      rw [x8_firstAbove w1.nw hB ho hp (by omega), qbnd_s]
      dsimp only
      rw [u210_1, qbnd_s, l_85]
      unfold fX8_covers_41
      rw [l_85, l_6, l_3]
      unfold covS at o1 ⊢
      by_cases f1 : fab s o p 64 = 85
      · rw [if_pos f1] at o1 ⊢
        have q1 : n2 85 ≤ n2 (fab s o p 64) := by rw [n2_le (by omega) (by omega)]; omega
        rw [if_pos q1, o1, qbnd_s]
        dsimp only
        rw [if_pos q1]
        by_cases f2 : fab s o p 56 = 85
        · rw [if_pos (by rw [n2_le (by omega) (by omega)]; omega), if_pos f2]
        · rw [if_neg (by rw [n2_le (by omega) (by omega)]; omega), if_neg f2, x8_both hm (by omega), qbnd_s]
      · rw [if_neg f1] at o1 ⊢
        have q1 : ¬ n2 85 ≤ n2 (fab s o p 64) := by rw [n2_le (by omega) (by omega)]; omega
        rw [if_neg q1, o1, qbnd_s]
        dsimp only
        rw [if_neg q1]
    · refine ⟨_, L, ?_, by rw [if_neg (fun z => e1 z.2)]; exact w1, thr0.v⟩
      rw [decide_eq_false e1, if_pos no_zero, if_neg (fun z => e1 z.2), l_1]
  · refine ⟨_, L, ?_, by rw [if_neg (fun z => e z.1)]; exact w1, thr0.v⟩
    rw [decide_eq_false e, if_pos no_zero, if_neg (fun z => e z.1), l_1]
def lastS (s : St) (o g m : Nat) : Nat := if covd s o g m = true then 85 else if stopl s o g m ≤ lev g then up g (stopl s o g m) else 85
def newS (s : St) (o g m : Nat) : Nat := if covd s o g m = true then 0 else nsteps s o g m (stopl s o g m)
theorem nsteps_s (s : St) (o g m k : Nat) : nsteps s o g m (k + 1) = nsteps s o g m k + bn (decide (wnt s o g m k ≠ s (up g k) o)) := by
  unfold nsteps
  rw [List.range_succ, List.foldl_append]
  rfl
theorem stopl_of {s : St} {o g m k : Nat} (hk : k ≤ lev g) (h1 : ∀ l, l < k → (decide (wnt s o g m l = s (up g l) o) || opn s o (up g l) (wnt s o g m l)) = true) (h2 : (decide (wnt s o g m k = s (up g k) o) || opn s o (up g k) (wnt s o g m k)) = false) : stopl s o g m = k := by
  unfold stopl
  have : (List.range (lev g + 1)).find? (fun l => !(decide (wnt s o g m l = s (up g l) o) || opn s o (up g l) (wnt s o g m l))) = some k := by
    rw [find_range]
    exact ⟨by omega, by rw [h2]; rfl, fun j hj => by rw [h1 j hj]; rfl⟩
  rw [this]
theorem stopl_end {s : St} {o g m : Nat} (h1 : ∀ l, l < lev g + 1 → (decide (wnt s o g m l = s (up g l) o) || opn s o (up g l) (wnt s o g m l)) = true) : stopl s o g m = lev g + 1 := by
  unfold stopl
  have : (List.range (lev g + 1)).find? (fun l => !(decide (wnt s o g m l = s (up g l) o) || opn s o (up g l) (wnt s o g m l))) = none := by
    rw [find_range_n]
    exact fun j hj => by rw [h1 j hj]; rfl
  rw [this]
theorem x8_wouldWait (hR : R8 (I 217) s) (hB : Bd s) {o g m : Nat} (ho : o < 8) (hg : g < 85) (hm : m ≤ 6) : ∃ I', fX8_wouldWait 210 (n2 o) (n2 g) (n2 m) (mk I L c t) = some (n2 (lastS s o g m), 0, mk I' L c t) ∧ I' 210 25 = n2 (newS s o g m) ∧ (∀ b i, ¬ (b = 210 ∧ i = 25) → I' b i = I b i) := by
  have hlv := lev_le g
  have hr : (217 : Nat) = 217 ∨ (217 : Nat) = 218 := .inl rfl
  have up25 : ∀ (J : Nat → Nat → Int32) (v : Int32) b i, ¬ (b = 210 ∧ i = 25) → (upI J 210 25 v) b i = J b i := fun J v b i hb => by
    by_cases e : b = 210
    · rw [e]; exact upI_ni (fun z => hb ⟨e, z⟩)
    · exact upI_ne e
  have r217 : ∀ (J : Nat → Nat → Int32), (∀ b i, ¬ (b = 210 ∧ i = 25) → J b i = I b i) → J 217 = I 217 := fun J hJ => by funext i; exact hJ _ _ (by omega)
  obtain ⟨J, hJ⟩ : ∃ J, upI I 210 25 (n2 0) = J := ⟨_, rfl⟩
  have hJF : ∀ b i, ¬ (b = 210 ∧ i = 25) → J b i = I b i := by rw [← hJ]; exact up25 I _
  have hRJ : R8 (J 217) s := by rw [r217 J hJF]; exact hR
  have hJ25 : J 210 25 = n2 0 := by rw [← hJ, upI_eq]
  have head : fX8_wouldWait 210 (n2 o) (n2 g) (n2 m) (mk I L c t) = if covd s o g m = true then some (n2 85, 0, mk J L c t) else fX8_wouldWait_14 qfu 210 (n2 o) (n2 g) (n2 m) (-n2 1) (mk J L c t) := by
    unfold fX8_wouldWait
    rw [if_pos (by rw [kk_210])]
    unfold gX8_wouldWait
    rw [l_0, u210_25, qbnd_s, hJ, g210_14, qbnd_s, x8_isCovered hr hRJ hB ho hg hm, qbnd_s]
    dsimp only
    rw [l_1, l_85]
    rcases bcs (covd s o g m) with e | e
    · rw [e, if_pos no_zero, if_neg Bool.false_ne_true]
    · rw [e, if_neg yes_zero, if_pos rfl]
  rw [head]
  unfold lastS newS
  rcases bcs (covd s o g m) with e | e
  · rw [e, if_neg Bool.false_ne_true, if_neg Bool.false_ne_true, if_neg Bool.false_ne_true]
    refine lp_rk (α := Nat → Nat → Int32) (fun f k K => fX8_wouldWait_14 f 210 (n2 o) (n2 g) (n2 m) (prv g k) (mk K L c t)) (lev g + 1) (fun k K => (∀ b i, ¬ (b = 210 ∧ i = 25) → K b i = I b i) ∧ K 210 25 = n2 (nsteps s o g m k) ∧ ∀ l, l < k → (decide (wnt s o g m l = s (up g l) o) || opn s o (up g l) (wnt s o g m l)) = true) (fun q => ∃ I', q = some (n2 (if stopl s o g m ≤ lev g then up g (stopl s o g m) else 85), 0, mk I' L c t) ∧ I' 210 25 = n2 (nsteps s o g m (stopl s o g m)) ∧ (∀ b i, ¬ (b = 210 ∧ i = 25) → I' b i = I b i)) (k0 := 0) (by omega) (by omega) J ⟨hJF, hJ25, fun l hl => absurd hl (Nat.not_lt_zero l)⟩ (fun f k K _ hk hi => ?_) (fun f K hi => ?_)
    · obtain ⟨i1, i2, i3⟩ := hi
      have hRK : R8 (K 217) s := by rw [r217 K i1]; exact hR
      have hu := up_lt hg k
      have hmd := hB.md hu ho
      have hst := stepm_le (g := g) (l := k) hm
      have hw6 := both_le hmd hst
      have hwn : both (s (up g k) o) (stepm g k m) = wnt s o g m k := rfl
      have f0 : ∀ {μ : qM}, fX8_flag (n2 0) μ = some (n2 0, 0, μ) := fun {μ} => x8_flag0
      have f1 : ∀ {μ : qM}, fX8_flag (n2 1) μ = some (n2 1, 0, μ) := fun {μ} => x8_flag1
      obtain ⟨ok, hok⟩ : ∃ ok, (decide (wnt s o g m k = s (up g k) o) || opn s o (up g k) (wnt s o g m k)) = ok := ⟨_, rfl⟩
      have head2 : fX8_wouldWait_14 (f + 1) 210 (n2 o) (n2 g) (n2 m) (prv g k) (mk K L c t) = if ok = true then fX8_wouldWait_14 f 210 (n2 o) (n2 g) (n2 m) (n2 (up g k)) (mk (upI K 210 25 (n2 (nsteps s o g m (k + 1)))) L c t) else some (n2 (up g k), 0, mk K L c t) := by
        rw [fX8_wouldWait_14]
        dsimp only
        rw [if_neg (prv_ne hg (by omega)), x8_nextOn hg (by omega), qbnd_s]
        dsimp only
        rw [x8_modeOn hg (by omega) hm, qbnd_s]
        dsimp only
        rw [g210_14, qbnd_s, x8_isGranted hr hRK hB ho hu hst, qbnd_s]
        dsimp only
        rw [hwn, hok]
        cases ok with
        | false => rw [l_0, if_pos no_zero, if_neg Bool.false_ne_true]
        | true =>
          rw [l_0, if_neg yes_zero, if_pos rfl, g210_25, qbnd_s, g210_14, qbnd_s, x8_held hr hRK ho hu, qbnd_s]
          dsimp only
          rw [g210_14, qbnd_s, x8_wanted hr hRK hB ho hu hst, qbnd_s]
          dsimp only
          rw [hwn, l_1, f0, f1, qbnd_s, qbnd_s]
          dsimp only
          rw [i2, n2_add, n2_add, nsteps_s]
          by_cases z : s (up g k) o = wnt s o g m k
          · rw [if_pos (by rw [z]), u210_25, qbnd_s, decide_eq_false (show ¬ (wnt s o g m k ≠ s (up g k) o) from fun y => y z.symm)]
            rfl
          · rw [if_neg (by rw [n2_eq (by omega) (by omega)]; exact z), u210_25, qbnd_s, decide_eq_true (show wnt s o g m k ≠ s (up g k) o from fun y => z y.symm)]
            rfl
      show (_ : Prop) ∨ ∃ a', fX8_wouldWait_14 (f + 1) 210 (n2 o) (n2 g) (n2 m) (prv g k) (mk K L c t) = _ ∧ _
      rw [head2]
      cases ok with
      | false =>
        left
        have hs := stopl_of (by omega) i3 hok
        rw [hs, if_pos (show k ≤ lev g by omega), if_neg Bool.false_ne_true]
        exact ⟨K, rfl, i2, i1⟩
      | true =>
        right
        refine ⟨upI K 210 25 (n2 (nsteps s o g m (k + 1))), ?_, fun b i hb => (up25 K _ b i hb).trans (i1 b i hb), upI_eq, fun l hl => ?_⟩
        · rw [if_pos rfl, prv_s]
        · by_cases z : l = k
          · rw [z]; exact hok
          · exact i3 l (by omega)
    · obtain ⟨i1, i2, i3⟩ := hi
      have hs := stopl_end i3
      rw [hs, if_neg (show ¬ lev g + 1 ≤ lev g by omega)]
      refine ⟨K, ?_, i2, i1⟩
      show fX8_wouldWait_14 (f + 1) 210 (n2 o) (n2 g) (n2 m) (prv g (lev g + 1)) (mk K L c t) = _
      rw [prv_s, up_lev g hg, fX8_wouldWait_14]
      dsimp only
      rw [if_pos rfl, l_85]
  · rw [e, if_pos rfl, if_pos rfl, if_pos rfl]
    exact ⟨J, rfl, hJ25, hJF⟩
theorem x8_ww [FB] (w : W8 I L s h kp tx row cs) (hB : Bd s) {o g m : Nat} (ho : o < 8) (hg : g < 85) (hm : m ≤ 6) : ∃ I', fX8_wouldWait 210 (n2 o) (n2 g) (n2 m) (mk I L c t) = some (n2 (lastS s o g m), 0, mk I' L c t) ∧ W8 I' L s h kp tx row cs ∧ I' 210 25 = n2 (newS s o g m) ∧ Fy I I' := by
  obtain ⟨I', a1, a2, a3⟩ := x8_wouldWait (L := L) (c := c) (t := t) w.nw hB ho hg hm
  exact ⟨I', a1, w.sc fun b i _ _ _ _ _ _ _ _ _ _ _ hb => a3 b i (by omega), a2, fun b i hb => a3 b i (by omega)⟩
end S9E

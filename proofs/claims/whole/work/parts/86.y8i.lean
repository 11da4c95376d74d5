/-! PURE SIDE, THE REFERENCE: going on, serving -/
theorem page_5 : ∀ g, g < 85 → 21 ≤ g → 5 ≤ up g 2 ∧ up g 2 < 21 ∧ lev g = 3 := by decide +kernel
theorem lev_21 : ∀ g, g < 85 → g < 21 → lev g ≠ 3 := by decide +kernel
section S8H
variable {I : Nat → Nat → Int32} {L : Nat → Nat → Int64} {c t r N T n : Nat} {s : St} {μ : qM} {R : qF}
theorem prv_ne {g k : Nat} (hg : g < 85) (hk : k ≤ lev g) : ¬ prv g k = n2 g := by
  unfold prv
  by_cases e : k = 0
  · rw [if_pos e]
    intro z
    have : (n2 g = -n2 1) = False := n2_eqm (by omega)
    exact absurd z.symm (by rw [this]; exact not_false)
  · have h1 := up_lt hg (k - 1)
    have h2 := lev_up g hg (k - 1) (by omega)
    rw [if_neg e, n2_eq (by omega) (by omega)]
    intro z
    rw [z] at h2
    omega
theorem stp_steps {s : St} {o g m k : Nat} (hmd : s (up g k) o ≤ 6) (hst : stepm g k m ≤ 6) : both (s (up g k) o) (stepm g k m) = wnt s o g m k := rfl
theorem x8_bulk (hr : r = 217 ∨ r = 218) (hS : Sv8 R r n) (hT : T < 1000000000) {U : List Nat} {G : Nat → Bool} {o g : Nat} (ho : o < 8) (hg : g < 85) (hR : R8 (I r) s) (hG : I 210 16 = n2 (bits8 G)) (h : Iv T s) (hB : Blk s U) (hst : s 85 o = 1) (hf : Wt s + 1 ≤ n) (f : Nat) :
    ∃ I' G', fX8_goesOn_8 R (f + 1) 210 r (n2 o) (n2 g) (n2 g) (mk I L c t) = some (n2 0, 0, mk I' L c t) ∧ R8 (I' r) (bulkS (srvS n) s o g).1 ∧ I' 210 16 = n2 (bits8 G') ∧ (∀ j, j < 8 → j ≠ o → s 85 j ≠ 2 → G' j = G j) ∧ G' o = (G o || decide ((bulkS (srvS n) s o g).2 = 2)) ∧ F8 I I' r := by
  have hBd := h.bd hT
  have hnu := hBd.nu
  rw [fX8_goesOn_8]
  dsimp only
  rw [if_pos rfl, l_21]
  by_cases e : g < 21
  · have hb : bulkS (srvS n) s o g = (s, 1) := by
      unfold bulkS
      rw [if_pos (lev_21 g hg e)]
    refine ⟨I, G, ?_, by rw [hb]; exact hR, hG, fun j _ _ _ => rfl, ?_, .rf _ _⟩
    · rw [if_pos (by rw [n2_lt (by omega) (by omega)]; exact e), l_0]
    · rw [hb]; simp
  · obtain ⟨g5, g21, h3⟩ := page_5 g hg (by omega)
    obtain ⟨p1, p2, p3⟩ := page_rows (s := s) (o := o) hg h3
    have hb := hbel_lt s o (up g 2)
    have hul := up_lev g hg
    rw [h3] at hul
    have hpar : ∀ {μ : qM}, fX8_parent (n2 g) μ = some (n2 (up g 2), 0, μ) := fun {μ} => by
      have := x8_parent_up (μ := μ) hg (show 3 ≤ lev g by omega)
      rw [hul] at this
      rw [this]
      rfl
    rw [if_neg (by rw [n2_lt (by omega) (by omega)]; exact e), hpar, qbnd_s]
    dsimp only
    rw [x8_rowsHeld hr hR hBd ho g21 g5, qbnd_s]
    dsimp only
    rw [l_753, r8L hr (by omega) hR.2.2.2.1, qbnd_s]
    by_cases h4 : s 94 2 ≤ hbel s o (up g 2)
    · obtain ⟨I', G', a1, a2, a3, a4, a5, a6⟩ := x8_gathersOne (L := L) (c := c) (t := t) hr hS hT ho p1 hR hG h hB hst (Or.inl ⟨p3, hf⟩)
      have hbk : bulkS (srvS n) s o g = if canG s o (up g 2) = true then ((gathS (srvS n) s o (up g 2)).1, 2) else ((gathS (srvS n) s o (up g 2)).1, 1) := by
        unfold bulkS
        rw [if_neg (by omega), if_pos h4]
        unfold gathS
        rcases bcs (canG s o (up g 2)) with e | e <;> simp [e]
      refine ⟨I', G', ?_, ?_, a3, a4, ?_, a6⟩
      · rw [if_neg (by rw [n2_lt (by omega) (by omega)]; omega), hpar, qbnd_s]
        dsimp only
        rw [a1, qbnd_s, l_0]
      · rw [hbk]
        rcases bcs (canG s o (up g 2)) with e | e <;> rw [e] <;> exact a2
      · rw [a5, hbk]
        rcases bcs (canG s o (up g 2)) with e | e <;> rw [e] <;> simp
    · have hbk : bulkS (srvS n) s o g = (s, 1) := by
        unfold bulkS
        rw [if_neg (by omega), if_neg h4]
      refine ⟨I, G, ?_, by rw [hbk]; exact hR, hG, fun j _ _ _ => rfl, by rw [hbk]; simp, .rf _ _⟩
      rw [if_pos (by rw [n2_lt (by omega) (by omega)]; omega), l_0]
theorem x8_goesOn (hr : r = 217 ∨ r = 218) (hS : Sv8 R r n) (hT : T < 1000000000) {U : List Nat} {G : Nat → Bool} {o l : Nat} (ho : o < 8) (hR : R8 (I r) s) (hG : I 210 16 = n2 (bits8 G)) (h : Iv T s) (hB : Blk s U) (hst : s 85 o = 1) (hm : 1 ≤ s 93 o) (hl : l ≤ lev (s 92 o) + 1) (hp : 1 ≤ l → s (up (s 92 o) (l - 1)) o ≠ 0) (hf : Wt s + 1 ≤ n) :
    ∃ I' G', fX8_goesOn R 210 r (n2 o) (prv (s 92 o) l) (mk I L c t) = some (n2 0, 0, mk I' L c t) ∧ R8 (I' r) (goOnS (srvS n) s o l).1 ∧ I' 210 16 = n2 (bits8 G') ∧ (∀ j, j < 8 → j ≠ o → s 85 j ≠ 2 → G' j = G j) ∧ G' o = (G o || decide ((goOnS (srvS n) s o l).2 = 2)) ∧ F8 I I' r := by
  have hg : s 92 o < 85 := by have := (h.2.1 o ho).2.2.2.2.2.1; omega
  have hm6 : s 93 o ≤ 6 := (h.2.1 o ho).2.2.2.2.2.2
  have hlv := lev_le (s 92 o)
  have e0 : fX8_goesOn R 210 r (n2 o) (prv (s 92 o) l) (mk I L c t) = fX8_goesOn_8 R qfu 210 r (n2 o) (n2 (s 92 o)) (prv (s 92 o) l) (mk I L c t) := by
    unfold fX8_goesOn
    rw [if_pos (by rw [kk_210])]
    unfold gX8_goesOn
    rw [l_728, n2_add, r8L hr (by omega) (hR.2.1 o ho).2.2.2.2.2.2.1, qbnd_s]
  rw [e0]
  obtain ⟨g, eg⟩ : ∃ g, s 92 o = g := ⟨_, rfl⟩
  obtain ⟨m, em⟩ : ∃ m, s 93 o = m := ⟨_, rfl⟩
  obtain ⟨z, ez⟩ : ∃ z, stepsS (lev (s 92 o) + 1 - l) s o (s 92 o) (s 93 o) l = z := ⟨_, rfl⟩
  have hz0 := ez
  rw [eg] at hg hl hp hlv ⊢
  rw [em] at hm hm6
  rw [eg, em] at hz0
  refine lp_rk (α := (Nat → Nat → Int32) × St) (fun y k w => fX8_goesOn_8 R y 210 r (n2 o) (n2 g) (prv g k) (mk w.1 L c t)) (lev g + 1)
    (fun k w => R8 (w.1 r) w.2 ∧ Fx I w.1 r ∧ Iv T w.2 ∧ Blk w.2 U ∧ w.2 85 o = 1 ∧ w.2 92 o = g ∧ w.2 93 o = m ∧ (1 ≤ k → w.2 (up g (k - 1)) o ≠ 0) ∧ (∀ j, w.2 85 j = s 85 j) ∧ stepsS (lev g + 1 - k) w.2 o g m k = z)
    (fun q => ∃ I' G', q = some (n2 0, 0, mk I' L c t) ∧ R8 (I' r) (goOnS (srvS n) s o l).1 ∧ I' 210 16 = n2 (bits8 G') ∧ (∀ j, j < 8 → j ≠ o → s 85 j ≠ 2 → G' j = G j) ∧ G' o = (G o || decide ((goOnS (srvS n) s o l).2 = 2)) ∧ F8 I I' r) (k0 := l) hl (by omega) (I, s) ⟨hR, Fx.rf _ _, h, hB, hst, eg, em, hp, fun _ => rfl, hz0⟩ (fun y k w hk0 hk hi => ?_) (fun y w hi => ?_)
  · obtain ⟨I1, s1⟩ := w
    obtain ⟨h1, h2, h3, h4, h5, h6, h7, h8, h9, h10⟩ := hi
    dsimp only at h1 h2 h3 h4 h5 h6 h7 h8 h9 h10
    have hBd := h3.bd hT
    have hq := up_lt hg k
    have hpu := par_up _ hg k (by omega)
    have hmd := hBd.md hq ho
    have hst := stepm_le (g := g) (l := k) hm6
    have hsp := stepm_pos (g := g) (l := k) hm
    have hw6 := both_le hmd hst
    have hw1 := both_pos7 (s1 (up g k) o) (by omega) (stepm g k m) (by omega) hsp
    have hws := (stg_both7 (s1 (up g k) o) (by omega) (stepm g k m) (by omega)).1
    have hstep : lev g + 1 - k = (lev g - k) + 1 := by omega
    have hmo : I1 r (736 + o) = n2 m := by rw [(h1.2.1 o ho).2.2.2.2.2.2.2.1, h7]
    rw [hstep] at h10
    simp only [stepsS] at h10
    obtain ⟨I2, t1, t2, t3⟩ := x8_steps (L := L) (c := c) (t := t) hr h1 hBd ho hq hst
    have head : fX8_goesOn_8 R (y + 1) 210 r (n2 o) (n2 g) (prv g k) (mk I1 L c t) = if n2 (bn (stpS s1 o (up g k) (stepm g k m)).2) = n2 0 then some (n2 0, 0, mk I2 L c t) else fX8_goesOn_8 R y 210 r (n2 o) (n2 g) (n2 (up g k)) (mk I2 L c t) := by
      rw [fX8_goesOn_8]
      dsimp only
      rw [if_neg (prv_ne hg (by omega)), x8_nextOn hg (by omega), qbnd_s]
      dsimp only
      rw [l_736, n2_add, r8L hr (by omega) hmo, qbnd_s, x8_modeOn hg (by omega) hm6, qbnd_s]
      dsimp only
      rw [t1, qbnd_s, l_0]
    show (_ : Prop) ∨ ∃ a', fX8_goesOn_8 R (y + 1) 210 r (n2 o) (n2 g) (prv g k) (mk I1 L c t) = _ ∧ _
    rw [head]
    unfold stpS at t2 ⊢
    have hwn : both (s1 (up g k) o) (stepm g k m) = wnt s1 o g m k := rfl
    rw [hwn] at t2 ⊢
    by_cases e1 : wnt s1 o g m k = s1 (up g k) o
    · right
      rw [if_pos e1] at h10 t2
      rw [if_pos e1]
      refine ⟨(I2, s1), ?_, t2, h2.trans t3, h3, h4, h5, h6, h7, fun _ => ?_, h9, by rw [show lev g + 1 - (k + 1) = lev g - k by omega]; exact h10⟩
      · rw [if_neg yes_zero, prv_s]
      · show s1 (up g (k + 1 - 1)) o ≠ 0
        rw [Nat.add_sub_cancel]
        unfold wnt at e1
        omega
    · rw [if_neg e1] at h10 t2
      rw [if_neg e1]
      rcases bcs (opn s1 o (up g k) (wnt s1 o g m k)) with e2 | e2
      · left
        have e2n : ¬ opn s1 o (up g k) (wnt s1 o g m k) = true := by rw [e2]; decide
        rw [if_neg e2n] at h10 t2
        rw [if_neg e2n]
        have hgo := goOnS_false (srv := srvS n) ez (by rw [← h10])
        refine ⟨I2, G, ?_, ?_, ?_, fun j _ _ _ => rfl, ?_, (h2.trans t3).f8⟩
        · rw [if_pos no_zero]
        · rw [hgo, ← h10]
          exact t2
        · rw [t3 _ _ (by omega), h2 _ _ (by omega)]
          exact hG
        · rw [hgo]
          simp
      · right
        rw [if_pos e2] at h10 t2
        rw [if_pos e2]
        have i1 := iv_raise (q := up g k) (w := wnt s1 o g m k) h3 ho h5 hq hw1 hw6 (fun z => by
          rw [hpu.2 (hpu.1.mpr z)]
          exact h8 (hpu.1.mpr z))
        have i2 := blk_raise (q := up g k) (w := wnt s1 o g m k) h3 ho (by omega) hq hws hw6 h4
        have e : ∀ k' j, 85 ≤ k' → su s1 (up g k) o (wnt s1 o g m k) k' j = s1 k' j := fun k' j hk => su_ne (by omega)
        refine ⟨(I2, su s1 (up g k) o (wnt s1 o g m k)), ?_, t2, h2.trans t3, i1, i2, (e 85 o (by omega)).trans h5, (e 92 o (by omega)).trans h6, (e 93 o (by omega)).trans h7, fun _ => ?_, fun j => (e 85 j (by omega)).trans (h9 j), by rw [show lev g + 1 - (k + 1) = lev g - k by omega]; exact h10⟩
        · rw [if_neg yes_zero, prv_s]
        · show su s1 (up g k) o (wnt s1 o g m k) (up g (k + 1 - 1)) o ≠ 0
          rw [Nat.add_sub_cancel, su_eq]
          unfold wnt
          omega
  · obtain ⟨I1, s1⟩ := w
    obtain ⟨h1, h2, h3, h4, h5, h6, h7, h8, h9, h10⟩ := hi
    dsimp only at h1 h2 h3 h4 h5 h6 h7 h8 h9 h10
    rw [Nat.sub_self] at h10
    have hgo := goOnS_true (srv := srvS n) ez (by rw [← h10]; rfl)
    have hz1 : z.1 = s1 := by rw [← h10]; rfl
    have hG1 : I1 210 16 = n2 (bits8 G) := by rw [h2 _ _ (by omega)]; exact hG
    obtain ⟨I2, G', a1, a2, a3, a4, a5, a6⟩ := x8_bulk (L := L) (c := c) (t := t) hr hS hT ho hg h1 hG1 h3 h4 h5 (by rw [Wt_row h9]; exact hf) y
    refine ⟨I2, G', ?_, ?_, a3, fun j hj hjo hz => a4 j hj hjo (by rw [h9 j]; exact hz), ?_, h2.f8.trans a6⟩
    · show fX8_goesOn_8 R (y + 1) 210 r (n2 o) (n2 g) (prv g (lev g + 1)) (mk I1 L c t) = _
      rw [prv_s, up_lev g hg]
      exact a1
    · rw [hgo, hz1, eg]; exact a2
    · rw [hgo, hz1, eg]; exact a5
end S8H

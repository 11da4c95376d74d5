/-! PURE SIDE, THE CLASS: ring, its answer -/
section S7RI
variable {I : Nat → Nat → Int32} {L : Nat → Nat → Int64} {c t d : Nat} {s : St}
theorem DsW.fr {I' : Nat → Nat → Int32} {D : Nat → Nat} {lo hi : Nat} (h : DsW I d D) (hf : Fr I I' lo hi) (hd : d + 15 < lo ∨ hi ≤ d + 15) : DsW I' d D := fun j hj => by rw [hf _ _ (by omega)]; exact h j hj
theorem x2_path (hd : d ∈ dkl) {g n : Nat} (hn : n ≤ 8) : ∀ (w f k i : Nat) (I : Nat → Nat → Int32) (pre : List Nat), k + w = n → w < f → pre.length = k → 1 ≤ k → (∀ j, j < k → I (d + 16) j = n2 (pre.getD j 0)) → pre.getD (k - 1) 0 = i → i < 8 → (w = 0 ∨ ∃ j, nrS s (dst s g 8) i w = some j ∧ j < 8 ∧ dst s g 8 j = w) → LW I d s → DsW I d (dst s g 8) → ∃ I', fX2_shortest_41 f (d + 12) (n2 n) (n2 k) (mk I L c t) = some (n2 n, 0, mk I' L c t) ∧ (∀ j, j < n → I' (d + 16) j = n2 ((pre ++ pthS s (dst s g 8) w i).getD j 0)) ∧ Fr I I' (d + 16) (d + 17) := by
  intro w
  induction w with
  | zero =>
    intro f k i I pre hk hf hp h1 hpre hi hi8 hC hL hD
    obtain ⟨f', rfl⟩ : ∃ f', f = f' + 1 := ⟨f - 1, by omega⟩
    refine ⟨I, ?_, fun j hj => ?_, .rf _ _ _⟩
    · have q4 : n2 n ≤ n2 k := by rw [n2_le (by omega) (by omega)]; omega
      rw [fX2_shortest_41]
      dsimp only
      rw [if_pos q4]
    · rw [show pre ++ pthS s (dst s g 8) 0 i = pre from List.append_nil pre]
      exact hpre j (by omega)
  | succ w ih =>
    intro f k i I pre hk hf hp h1 hpre hi hi8 hC hL hD
    obtain ⟨f', rfl⟩ : ∃ f', f = f' + 1 := ⟨f - 1, by omega⟩
    rcases hC with hC | ⟨j, j1, j2, j3⟩
    · omega
    have q3 : ¬ n2 n ≤ n2 k := by rw [n2_le (by omega) (by omega)]; omega
    have hv : I (d + 16) (k - 1) = n2 i := by rw [hpre (k - 1) (by omega), hi]
    have hnr := x2_nearer (L := L) (c := c) (t := t) hd hL hD (fun j hj => dst_le s g j (Nat.le_refl 8)) hi8 (show w + 1 < 100 by omega)
    rw [j1] at hnr
    have hnr2 : fX2_nearer (d + 12) (n2 i) (n2 (w + 1)) (mk I L c t) = some (n2 j, 0, mk I L c t) := hnr
    have hF : Fr I (upI I (d + 16) k (n2 j)) (d + 16) (d + 17) := .up (by omega) (by omega)
    obtain ⟨I', r1, r2, r3⟩ := ih f' (k + 1) j (upI I (d + 16) k (n2 j)) (pre ++ [j]) (by omega) (by omega) (by simp [hp]) (by omega) (fun q hq => by
      by_cases e : q = k
      · subst e
        rw [upI_eq, ← hp, getD_at]
      · rw [upI_ni e, getD_lt (by omega)]
        exact hpre q (by omega)) (by rw [show k + 1 - 1 = k by omega, ← hp, getD_at]) j2 (by
      by_cases e : w = 0
      · exact .inl e
      · obtain ⟨w', rfl⟩ : ∃ w', w = w' + 1 := ⟨w - 1, by omega⟩
        obtain ⟨q, z1, z2, z3⟩ := nr_dst (s := s) (g := g) (i := j) (w := w' + 1) (by omega) j3
        exact .inr ⟨q, z1, z2, z3⟩) (hL.fr hF (by omega)) (hD.fr hF (by omega))
    refine ⟨I', ?_, fun q hq => ?_, hF.trans r3⟩
    · rw [fX2_shortest_41]
      dsimp only
      rw [if_neg q3, lk_P3 hd, qbnd_s, qbnd_s, l_1, n2_sub h1, lk_L3 hd (by omega), qbnd_s, hv, n2_sub (by omega), show n - k = w + 1 by omega, hnr2, qbnd_s]
      dsimp only
      rw [lk_S3 hd (by omega), qbnd_s, n2_add]
      exact r1
    · have e1 : pre ++ [j] ++ pthS s (dst s g 8) w j = pre ++ pthS s (dst s g 8) (w + 1) i := by
        rw [pthS, j1, List.append_assoc]
        rfl
      rw [← e1]
      exact r2 q hq
theorem x2_shortest (hd : d ∈ dkl) (hL : LW I d s) {g : Nat} (hg : g < 8) (hr : rch s g g = true) : ∃ I', fX2_shortest (d + 12) (n2 g) (mk I L c t) = some (n2 (rgS s g), 0, mk I' L c t) ∧ (∀ j, j < rgS s g → I' (d + 16) j = n2 ((g :: pthS s (dst s g 8) (rgS s g - 1) g).getD j 0)) ∧ Fr I I' (d + 15) (d + 17) := by
  obtain ⟨I1, m1, m2, m3⟩ := x2_measure (L := L) (c := c) (t := t) hd hL hg
  have hL1 := hL.fr m3 (by omega)
  obtain ⟨h1, h8, -, -, q, q1, q2, q3⟩ := rg_ring hg hr
  have hF : Fr I1 (upI I1 (d + 16) 0 (n2 g)) (d + 16) (d + 17) := .up (by omega) (by omega)
  have hC : rgS s g - 1 = 0 ∨ ∃ j, nrS s (dst s g 8) g (rgS s g - 1) = some j ∧ j < 8 ∧ dst s g 8 j = rgS s g - 1 := by
    refine .inr ?_
    cases hn : nrS s (dst s g 8) g (rgS s g - 1) with
    | none =>
      have := find_range_n.mp hn q q1
      rw [q2, show dst s g 8 q = rgS s g - 1 by omega] at this
      simp at this
    | some j =>
      have h6 := find_range.mp hn
      have h7 := h6.2.1
      simp at h7
      exact ⟨j, rfl, h6.1, h7.2⟩
  obtain ⟨I', r1, r2, r3⟩ := x2_path (L := L) (c := c) (t := t) hd h8 (rgS s g - 1) qfu 1 g (upI I1 (d + 16) 0 (n2 g)) [g] (by omega) (by rw [qfu_eq]; omega) rfl (by omega) (fun j hj => by
    obtain rfl : j = 0 := by omega
    exact upI_eq) rfl hg hC (hL1.fr hF (by omega)) (m2.fr hF (by omega))
  refine ⟨I', ?_, r2, (m3.mono (by omega) (by omega)).trans ((hF.trans r3).mono (by omega) (by omega))⟩
  unfold fX2_shortest
  rw [if_pos (of_eq_true (lk_q hd))]
  unfold gX2_shortest
  rw [m1, qbnd_s]
  dsimp only
  rw [l_8, l_0]
  have key := lp_fi (fun n k b => fX2_shortest_7 n (d + 12) (n2 g) (n2 b) (n2 k) (mk I1 L c t)) 8 (by omega) (rgF s g) (fun b => b ≤ 8) (fun b => fX2_shortest_41 qfu (d + 12) (n2 b) (n2 1) (mk (upI I1 (d + 16) 0 (n2 g)) L c t)) 8 (Nat.le_refl 8) (fun n k b hk hb => ⟨?_, ?_⟩) (fun n b hb => ?_)
  · exact key.1.trans r1
  · have q5 : ¬ n2 8 ≤ n2 k := by rw [n2_le (by omega) (by omega)]; omega
    have hdk := dst_le s g k (Nat.le_refl 8)
    show fX2_shortest_7 (n + 1) (d + 12) (n2 g) (n2 b) (n2 k) (mk I1 L c t) = fX2_shortest_7 n (d + 12) (n2 g) (n2 (rgF s g b k)) (n2 (k + 1)) (mk I1 L c t)
    rw [fX2_shortest_7]
    dsimp only
    rw [l_8, if_neg q5, lk_P0 hd, qbnd_s, lk_L0 hd hg, qbnd_s, hL1.1 g hg, l_1, bits8_q _ hk, l_0]
    unfold rgF
    rcases bcs (wfr s g k) with e | e
    · rw [e, if_pos no_zero, n2_add, if_neg (fun z => absurd z.1 (by decide))]
    · rw [e, if_neg yes_zero, lk_P2 hd, qbnd_s, lk_L2 hd hk, qbnd_s, m2 k hk]
      by_cases e2 : dst s g 8 k < b
      · rw [if_neg (by rw [n2_le (by omega) (by omega)]; omega), qbnd_s, lk_L2 hd hk, qbnd_s, m2 k hk, n2_add, n2_add, if_pos ⟨rfl, e2⟩]
      · rw [if_pos (by rw [n2_le (by omega) (by omega)]; omega), n2_add, if_neg (fun z => e2 z.2)]
  · unfold rgF
    split <;> omega
  · have q4 : n2 8 ≤ n2 8 := by rw [n2_le (by omega) (by omega)]; exact Nat.le_refl _
    show fX2_shortest_7 (n + 1) (d + 12) (n2 g) (n2 b) (n2 8) (mk I1 L c t) = _
    rw [fX2_shortest_7]
    dsimp only
    rw [l_8, if_pos q4, lk_P3 hd, qbnd_s, l_0, lk_S3 hd (by omega), qbnd_s, l_1]
theorem x7_ring_n {μ : qM} (x : Int32) (hn : ¬ nIx x < 8) : fX7_ring 1 x (mk I L c t) = some (-n2 1, 0, mk I L c t) := by
  unfold fX7_ring
  rw [if_pos (by rw [kk_1])]
  unfold gX7_ring
  rw [ow_nIx, decide_eq_false hn, qbnd_s]
  dsimp only
  rw [l_0, if_pos no_zero, l_1]
theorem x7_ring_y {N : Nat} {h : List St} {kp : Nat → Option St} {tx : List Nat} {row : List Int64} {cs : List Nat} [FB] (hW : W7 I L s h kp tx row cs) (hG : Gd N s) (hN : N < 900000000) (x : Int32) (hx : nIx x < 8) : ∃ I' L', fX7_ring 1 x (mk I L c t) = some (if rch s (nIx x) (nIx x) = true then n2 (rgS s (nIx x)) else -n2 2, 0, mk I' L' c t) ∧ W7 I' L' s h kp tx (if rch s (nIx x) (nIx x) = true then rowO (nIx x :: pthS s (dst s (nIx x) 8) (rgS s (nIx x) - 1) (nIx x)) else row) cs ∧ Fw I I' := by
  have ex := nIx_eq (show nIx x < 2147483647 by omega)
  obtain ⟨g, hg⟩ : ∃ g, nIx x = g := ⟨_, rfl⟩
  rw [hg] at hx ex ⊢
  have hd : 2 ∈ dkl := by decide
  obtain ⟨I1, r1, r2, r3, r4⟩ := w7_read (c := c) (t := t) hW hG hN
  have b1 := x2_inRings (L := L) (c := c) (t := t) hd r2
  have head : fX7_ring 1 x (mk I L c t) = if n2 (bn (rch s g g)) = n2 0 then some (-n2 2, 0, mk I1 L c t) else (qbnd (fX2_shortest 14 (n2 g) (mk I1 L c t)) fun r11 =>
      qbnd (oGetP r11.2.2 7 1 7) fun v12 =>
      qbnd (oGetP r11.2.2 7 1 0) fun v13 =>
      qbnd (oGetP r11.2.2 0 v13 1) fun v14 =>
      qbnd (oGetP r11.2.2 2 v14 3) fun v15 =>
      qbnd (fX3_list v12 v15 r11.1 r11.2.2) fun r16 =>
      some (r11.1, 0, r16.2.2)) := by
    rw [ex]
    unfold fX7_ring
    rw [if_pos (by rw [kk_1])]
    unfold gX7_ring
    rw [x7_isOwner_y hx, qbnd_s]
    dsimp only
    rw [l_0, l_1, l_2, if_neg (show ¬ n2 1 = n2 0 by decide +kernel), g1_0, qbnd_s, dk_P1 hd, qbnd_s, g1_2, qbnd_s, r1, qbnd_s]
    dsimp only
    rw [g1_0, qbnd_s, dk_P1 hd, qbnd_s, b1, qbnd_s]
    dsimp only
    rw [bits8_q _ hx, g1_0, qbnd_s, dk_P1 hd, qbnd_s]
  rw [head]
  rcases bcs (rch s g g) with e | e
  · refine ⟨I1, L, ?_, by rw [if_neg (by rw [e]; decide)]; exact r3, r4⟩
    rw [e, if_pos no_zero, if_neg (by decide)]
  · obtain ⟨I2, s1, s2, s3⟩ := x2_shortest (L := L) (c := c) (t := t) hd r2 hx e
    obtain ⟨h1, h8, -⟩ := rg_ring hx e
    have w2 := r3.desk (s3.q (by omega) (by omega)) (r3.dw.l (s3.mono (by omega) (by omega)))
    have hlen : (g :: pthS s (dst s g 8) (rgS s g - 1) g).length = rgS s g := by
      rw [List.length_cons, pth_len]
      omega
    obtain ⟨I3, L3, t1, t2, t3, t4⟩ := x3_list (I := I2) (L := L) (c := c) (t := t) (a := 18) (lo := g :: pthS s (dst s g 8) (rgS s g - 1) g) (dk_ka (d := 2) (j := 3) hd (by omega)) (by omega) (by omega) (fun j hj => s2 j (by omega))
    rw [hlen] at t1
    refine ⟨I3, L3, ?_, by rw [if_pos e]; exact w2.rowed t3 t2 t4, (r4.trans (s3.w (by omega))).trans (t3.w (by omega))⟩
    rw [e, if_neg yes_zero, if_pos rfl, s1, qbnd_s]
    dsimp only
    rw [g1_7, qbnd_s, g1_0, qbnd_s, dk_P1 hd, qbnd_s, lk_P3 hd, qbnd_s, t1, qbnd_s]
end S7RI

/-! PURE SIDE, THE CLASS: locking, felling, signs, what is undone -/
section S7Z
variable {I : Nat → Nat → Int32} {L : Nat → Nat → Int64} {c t N : Nat} {s : St} {h : List St} {kp : Nat → Option St} {tx : List Nat} {row : List Int64} {cs : List Nat}
theorem x7_locks [FB] (hW : W7 I L s h kp tx row cs) (hG : Gd N s) (hN : N < 900000000) (x y z : Int32) {r : Int32 × St} (hr : lockS s (nIx x) (nIx y) (nIx z) = r) : ∃ I' L', fX7_locks 1 x y z (mk I L c t) = some (if r.1 < n2 0 then r.1 else if r.1 = n2 0 then n2 0 else n2 1, 0, mk I' L' c t) ∧ W7 I' L' r.2 (noteH h s r.1) kp tx (if r.1 < n2 0 then row else [(n2 (r.2 89 (nIx x))).toInt64, if r.1 = n2 2 then 1 else 0]) cs ∧ Fw I I' := by
  obtain ⟨I1, m1, m2, m3, m4⟩ := w7_mark (c := c) (t := t) hW
  obtain ⟨I2, a1, a2, a3⟩ := xi_lock (L := L) (c := c) (t := t) (show 2 ∈ dkl by decide) m2.dw hG hN x y z
  have hb : ¬ r.1 < n2 0 → nIx x < 8 := by
    intro e
    apply Classical.byContradiction
    intro hc
    apply e
    rw [← hr]
    unfold lockS
    rw [if_pos (by omega)]
    exact (by decide : -n2 1 < n2 0)
  rw [hr] at a1 a2
  obtain ⟨I3, n1, n2', n3⟩ := x7_noted (c := c) (t := t) (m2.desk a3 a2) (m3.q a3) r.1
  by_cases e : r.1 < n2 0
  · refine ⟨I3, L, ?_, by rw [if_pos e]; exact n2', (m4.trans (a3.w (by decide))).trans n3⟩
    rw [if_pos e]
    unfold fX7_locks
    rw [if_pos (by rw [kk_1])]
    unfold gX7_locks
    rw [g1_3, qbnd_s, g1_2, qbnd_s, m1, qbnd_s]
    dsimp only
    rw [g1_0, qbnd_s, a1, qbnd_s]
    dsimp only
    rw [n1, qbnd_s]
    dsimp only
    rw [l_0, if_neg (Int32.not_le.mpr e)]
  · obtain ⟨I4, L4, o1, o2, o3⟩ := x3_twoW (c := c) (t := t) n2' (n2 (r.2 89 (nIx x))).toInt64 (if r.1 = n2 2 then 1 else 0)
    refine ⟨I4, L4, ?_, by rw [if_neg e]; exact o2, ((m4.trans (a3.w (by decide))).trans n3).trans o3⟩
    have h8 := hb e
    have ex : x = n2 (nIx x) := by
      rcases i32_cases x with e1 | ⟨k, hk, rfl⟩
      · rw [nIx_m e1] at h8; omega
      · rw [nIx_n hk]
    have b2 : oLdI 20 (mk I3 L c t) 9 x = some (n2 (r.2 89 (nIx x))) := by
      have q1 := n2'.dw.1.at h8
      have q2 := st_L5 (I := I3) (L := L) (c := c) (t := t) (show 3 ∈ stl by decide) h8
      rw [← ex] at q2
      exact q2.trans (congrArg some q1)
    rw [if_neg e]
    unfold fX7_locks
    rw [if_pos (by rw [kk_1])]
    unfold gX7_locks
    rw [g1_3, qbnd_s, g1_2, qbnd_s, m1, qbnd_s]
    dsimp only
    rw [g1_0, qbnd_s, a1, qbnd_s]
    dsimp only
    rw [n1, qbnd_s]
    dsimp only
    rw [l_0, if_pos (Int32.not_lt.mp e), g1_7, qbnd_s, g1_2, qbnd_s, st_P5 (by decide), qbnd_s, b2, qbnd_s, l_2]
    by_cases e2 : r.1 = n2 2
    · rw [if_pos e2] at o1 ⊢
      unfold fX7_locks_32
      rw [o1, qbnd_s, l_0, l_1]
      by_cases e0 : r.1 = n2 0
      · rw [if_pos e0, if_pos e0]
      · rw [if_neg e0, if_neg e0]
    · rw [if_neg e2] at o1 ⊢
      unfold fX7_locks_32
      rw [o1, qbnd_s, l_0, l_1]
      by_cases e0 : r.1 = n2 0
      · rw [if_pos e0, if_pos e0]
      · rw [if_neg e0, if_neg e0]
theorem x7_fells [FB] (hW : W7 I L s h kp tx row cs) (hG : Gd N s) (hN : N < 900000000) {l : List Nat} {s' : St} (hr : fellS 8 s cs = (l, s')) : ∃ I' L', fX7_fells 1 (mk I L c t) = some (n2 l.length, 0, mk I' L' c t) ∧ W7 I' L' s' (pushH h s) kp tx (rowO l) cs ∧ Fw I I' := by
  have hl : l.length ≤ 8 := by
    have := (gd_fell (N := N) (cs := cs) 8 s hG).2.1
    rw [hr] at this
    exact this
  obtain ⟨I1, m1, m2, m3, m4⟩ := w7_mark (c := c) (t := t) hW
  obtain ⟨I2, a1, a2, a3, a4⟩ := x0_fellAll (L := L) (c := c) (t := t) (show 2 ∈ dkl by decide) (show 202 ∈ rul by decide) m2.dw hG hN m2.ru
  rw [hr] at a1 a2 a4
  obtain ⟨I3, n1, n2', n3⟩ := x1_commit (L := L) (c := c) (t := t) (m3.q a3)
  have w3 : W7 I3 L s' (pushH h s) kp tx row cs := (m2.desk a3 a2).hist (n3.mono (by omega) (by omega)) n2'
  obtain ⟨I4, L4, o1, o2, o3, o4⟩ := x3_list (I := I3) (L := L) (c := c) (t := t) (a := 19) (lo := l) (mk_k (b := 18) rfl (by decide +kernel)) (by omega) hl (fun i hi => by rw [n3 _ _ (by omega)]; exact a4 i hi)
  refine ⟨I4, L4, ?_, w3.rowed o3 o2 o4, ((m4.trans (a3.w (by decide))).trans (n3.w (by omega))).trans (o3.w (by omega))⟩
  have hn : fX7_noted 1 (n2 l.length) (mk I2 L c t) = some (n2 l.length, 0, mk I3 L c t) := by
    unfold fX7_noted
    rw [if_pos (by rw [kk_1])]
    unfold gX7_noted
    rw [l_0, if_neg (by rw [n2_nn (by omega)]; exact not_false), g1_3, qbnd_s, n1, qbnd_s]
  unfold fX7_fells
  rw [if_pos (by rw [kk_1])]
  unfold gX7_fells
  rw [g1_3, qbnd_s, g1_2, qbnd_s, m1, qbnd_s]
  dsimp only
  rw [g1_0, qbnd_s, g1_8, qbnd_s, a1, qbnd_s]
  dsimp only
  rw [hn, qbnd_s]
  dsimp only
  rw [g1_7, qbnd_s, g1_0, qbnd_s, dk_P2 (by decide), qbnd_s, o1, qbnd_s]
theorem W7.texted {I' : Nat → Nat → Int32} {tx' : List Nat} [FB] (hW : W7 I L s h kp tx row cs) (hf : Fr I I' 198 200) (ht : TeW I' tx') : W7 I' L s h kp tx' row cs := by
  obtain ⟨z, hz⟩ := hW.sh
  exact ⟨hW.dw.fr hf (by omega), ⟨z, hz.fr hf (by omega)⟩, hW.hi.fr fun b i h1 h2 => hf b i (by omega), hW.ke.on fun b i h1 h2 => hf b i (by omega), ht, hW.ro.on (fun i => hf _ i (by omega)) fun i => rfl, hW.ru.fr (fun i => hf _ i (by omega)) (hf _ _ (by omega))⟩
theorem x7_sign [FB] (hW : W7 I L s h kp tx row cs) (v : Int32) : ∃ I', fX7_sign 1 v (mk I L c t) = some (if tx.length ≤ 76 then n2 (tx.length + 4) else -n2 1, 0, mk I' L c t) ∧ W7 I' L s h kp (if tx.length ≤ 76 then tx ++ [sgv v 0, sgv v 1, sgv v 2, sgv v 3] else tx) row cs ∧ Fw I I' := by
  obtain ⟨I1, m1, m2, m3⟩ := x6_addFour (L := L) (c := c) (t := t) hW.te v
  refine ⟨I1, ?_, hW.texted m3 m2, m3.w (by omega)⟩
  unfold fX7_sign
  rw [if_pos (by rw [kk_1])]
  unfold gX7_sign
  rw [g1_6, qbnd_s, m1, qbnd_s]
theorem x7_undo0 [FB] (hW : W7 I L s [] kp tx row cs) : fX7_undo 1 (mk I L c t) = some (-n2 1, 0, mk I L c t) := by
  obtain ⟨f, z1, z2, z3, z4, z5⟩ := hW.hi
  unfold fX7_undo
  rw [if_pos (by rw [kk_1])]
  unfold gX7_undo
  rw [g1_3, qbnd_s, g40_2, qbnd_s, z4, l_0, if_pos (show n2 ([] : List St).length = n2 0 from rfl), l_1]
theorem x7_undo [FB] (hW : W7 I L s h kp tx row cs) (hn : h ≠ []) : ∃ I', fX7_undo 1 (mk I L c t) = some (n2 (h.length - 1), 0, mk I' L c t) ∧ W7 I' L (h.getD (h.length - 1) fun _ _ => 0) h.dropLast kp tx row cs ∧ Fw I I' := by
  obtain ⟨I1, m1, m2, m3, m4⟩ := x1_back (L := L) (c := c) (t := t) hW.hi hn hW.dw.1
  obtain ⟨f, z1, z2, z3, z4, z5⟩ := hW.hi
  have hp : 0 < h.length := List.length_pos_iff.mpr hn
  have k2 : I1 40 2 = n2 (h.length - 1) := by
    obtain ⟨f', y1, y2, y3, y4, y5⟩ := m2
    rw [y4, List.length_dropLast]
  refine ⟨I1, ?_, ⟨⟨m3, fun p hp => ?_⟩, ?_, m2, ?_, ?_, ?_, ?_⟩, fun b i hb => m4 b i (by omega) (by omega)⟩
  · unfold fX7_undo
    rw [if_pos (by rw [kk_1])]
    unfold gX7_undo
    rw [g1_3, qbnd_s, g40_2, qbnd_s, z4, l_0, if_neg (by rw [n2_eq (by omega) (by omega)]; omega), qbnd_s, g1_2, qbnd_s, m1, qbnd_s]
    dsimp only
    rw [g1_3, qbnd_s, g40_2, qbnd_s, k2]
  · rw [m4 _ _ (by omega) (by omega)]; exact hW.dw.2 p hp
  · obtain ⟨z, hz⟩ := hW.sh
    exact ⟨z, hz.on fun b i h1 h2 => m4 b i (by omega) (by omega)⟩
  · exact hW.ke.on fun b i h1 h2 => m4 b i (by omega) (by omega)
  · exact hW.te.on fun b i h1 h2 => m4 b i (by omega) (by omega)
  · exact hW.ro.on (fun i => m4 _ i (by omega) (by omega)) fun i => rfl
  · exact hW.ru.fr (fun i => m4 _ i (by omega) (by omega)) (m4 _ _ (by omega) (by omega))
theorem kp_stl : ∀ k, k < 3 → 164 + 11 * k ∈ stl := by decide
theorem qnz_0 : qnz (n2 0) = n2 0 := by decide +kernel
theorem qnz_1 : qnz (n2 1) = n2 1 := by decide +kernel
theorem te_take (hT : TeW I tx) {k : Nat} (hk : k ≤ tx.length) : TeW (upI I 198 1 (n2 k)) (tx.take k) := by
  have hl := hT.2.1
  have hm : (tx.take k).length = k := by rw [List.length_take]; omega
  refine ⟨by rw [upI_eq, hm], by omega, fun i hi => ?_⟩
  rw [hm] at hi
  rw [upI_ne (by omega), List.getD_eq_getElem?_getD, List.getElem?_take, if_pos hi, ← List.getD_eq_getElem?_getD]
  exact hT.2.2 i (by omega)
theorem x7_end [FB] (hW : W7 I L s h kp tx row cs) (x : Int32) : ∃ I', fX7_end 1 x (mk I L c t) = some (n2 (bn (decide (¬ x < n2 0 ∧ nIx x ≤ tx.length))), 0, mk I' L c t) ∧ W7 I' L s h kp (if ¬ x < n2 0 ∧ nIx x ≤ tx.length then tx.take (nIx x) else tx) row cs ∧ Fw I I' := by
  have hl := hW.te.2.1
  have h1 := hW.te.1
  rcases i32_cases x with e | ⟨k, hk, rfl⟩
  · refine ⟨I, ?_, by rw [if_neg (fun z => z.1 e)]; exact hW, .rf I⟩
    rw [decide_eq_false (fun z => z.1 e)]
    unfold fX7_end
    rw [if_pos (by rw [kk_1])]
    unfold gX7_end
    rw [l_0, if_pos e, qnz_0, if_pos rfl]
    rfl
  · have e : ¬ n2 k < n2 0 := by rw [n2_nn hk]; exact not_false
    rw [nIx_n hk]
    by_cases e2 : k ≤ tx.length
    · have hF : Fr I (upI I 198 1 (n2 k)) 198 200 := .up (by omega) (by omega)
      refine ⟨upI I 198 1 (n2 k), ?_, by rw [if_pos ⟨e, e2⟩]; exact hW.texted hF (te_take hW.te e2), hF.w (by omega)⟩
      rw [decide_eq_true (show ¬ n2 k < n2 0 ∧ k ≤ tx.length from ⟨e, e2⟩)]
      unfold fX7_end
      rw [if_pos (by rw [kk_1])]
      unfold gX7_end
      rw [l_0, if_neg e, g1_6, qbnd_s, g198_1, qbnd_s, h1, if_pos (by rw [n2_le hk (by omega)]; exact e2), qbnd_s, u198_1, qbnd_s, l_1, qnz_1, if_pos rfl]
      rfl
    · refine ⟨I, ?_, by rw [if_neg (fun z => e2 z.2)]; exact hW, .rf I⟩
      rw [decide_eq_false (fun z => e2 z.2)]
      unfold fX7_end
      rw [if_pos (by rw [kk_1])]
      unfold gX7_end
      rw [l_0, if_neg e, g1_6, qbnd_s, g198_1, qbnd_s, h1, if_neg (by rw [n2_le hk (by omega)]; exact e2), qnz_0, if_pos rfl]
      rfl
def kpS (kp : Nat → Option St) (i : Nat) (s : St) : Nat → Option St := fun j => if j = i then some s else kp j
theorem x7_keep [FB] (hW : W7 I L s h kp tx row cs) (x : Int32) : ∃ I', fX7_keep 1 x (mk I L c t) = some (n2 (bn (decide (nIx x < 3))), 0, mk I' L c t) ∧ W7 I' L s h (if nIx x < 3 then kpS kp (nIx x) s else kp) tx row cs ∧ Fw I I' := by
  rcases i32_cases x with e | ⟨k, hk, rfl⟩
  · rw [nIx_m e]
    refine ⟨I, ?_, by rw [if_neg (by omega)]; exact hW, .rf I⟩
    rw [decide_eq_false (by omega)]
    unfold fX7_keep
    rw [if_pos (by rw [kk_1])]
    unfold gX7_keep
    rw [l_0, if_pos e, qnz_0, if_pos rfl]
    rfl
  · have e : ¬ n2 k < n2 0 := by rw [n2_nn hk]; exact not_false
    rw [nIx_n hk]
    by_cases e2 : k < 3
    · obtain ⟨I1, r1, r2, r3⟩ := x5_copy (L := L) (c := c) (t := t) (kp_stl k e2) (show 3 ∈ stl by decide) (by omega) hW.dw.1
      have hF2 : Fr I1 (upI I1 197 k (n2 1)) 197 198 := .up (by omega) (by omega)
      have hF : Fr I (upI I1 197 k (n2 1)) 164 198 := (r3.mono (by omega) (by omega)).trans (hF2.mono (by omega) (by omega))
      refine ⟨upI I1 197 k (n2 1), ?_, ?_, hF.w (by omega)⟩
      · rw [decide_eq_true e2]
        unfold fX7_keep
        rw [if_pos (by rw [kk_1])]
        unfold gX7_keep
        rw [l_0, if_neg e, l_3, if_pos (by rw [n2_lt hk (by omega)]; exact e2), g1_4, qbnd_s, ld163 e2, qbnd_s, g1_2, qbnd_s, r1, qbnd_s]
        dsimp only
        rw [g1_5, qbnd_s, l_1, qnz_1, sd197 e2, qbnd_s, if_pos rfl]
        rfl
      · rw [if_pos e2]
        obtain ⟨z, hz⟩ := hW.sh
        refine ⟨hW.dw.fr hF (by omega), ⟨z, hz.fr hF (by omega)⟩, hW.hi.fr fun b i h1 h2 => hF b i (by omega), fun i hi => ?_, hW.te.on fun b i h1 h2 => hF b i (by omega), hW.ro.on (fun i => hF _ i (by omega)) fun i => rfl, hW.ru.fr (fun i => hF _ i (by omega)) (hF _ _ (by omega))⟩
        unfold kpS
        by_cases e3 : i = k
        · subst e3
          rw [if_pos rfl, upI_eq]
          refine ⟨rfl, fun s2 h2 => ?_⟩
          cases h2
          exact r2.fr hF2 (by omega)
        · rw [if_neg e3, upI_ni e3]
          obtain ⟨k1, k2⟩ := hW.ke i hi
          refine ⟨by rw [r3 _ _ (by omega)]; exact k1, fun s2 h2 => ?_⟩
          exact ((k2 s2 h2).fr r3 (by omega)).fr hF2 (by omega)
    · refine ⟨I, ?_, by rw [if_neg e2]; exact hW, .rf I⟩
      rw [decide_eq_false e2]
      unfold fX7_keep
      rw [if_pos (by rw [kk_1])]
      unfold gX7_keep
      rw [l_0, if_neg e, l_3, if_neg (by rw [n2_lt hk (by omega)]; exact e2), qnz_0, if_pos rfl]
      rfl
theorem x7_again_n [FB] (hW : W7 I L s h kp tx row cs) (x : Int32) (hx : nIx x < 3 → kp (nIx x) = none) : fX7_again 1 x (mk I L c t) = some (n2 0, 0, mk I L c t) := by
  unfold fX7_again
  rw [if_pos (by rw [kk_1])]
  unfold gX7_again
  rcases i32_cases x with e | ⟨k, hk, rfl⟩
  · rw [l_0, if_pos e, qnz_0, if_pos rfl]
  · have e : ¬ n2 k < n2 0 := by rw [n2_nn hk]; exact not_false
    rw [nIx_n hk] at hx
    by_cases e2 : k < 3
    · have e3 := (hW.ke k e2).1
      rw [hx e2] at e3
      rw [l_0, if_neg e, l_3, if_neg (by rw [n2_le (by omega) hk]; omega), g1_5, qbnd_s, ld197 e2, qbnd_s, e3, if_pos (show n2 (bn (none : Option St).isSome) = n2 0 from rfl), qnz_0, if_pos rfl]
    · rw [l_0, if_neg e, l_3, if_pos (by rw [n2_le (by omega) hk]; omega), qnz_0, if_pos rfl]
theorem x7_again_y [FB] (hW : W7 I L s h kp tx row cs) (x : Int32) (hx : nIx x < 3) {s1 : St} (hs : kp (nIx x) = some s1) : ∃ I', fX7_again 1 x (mk I L c t) = some (n2 1, 0, mk I' L c t) ∧ W7 I' L s1 [] kp tx row cs ∧ Fw I I' := by
  rcases i32_cases x with e | ⟨k, hk, rfl⟩
  · rw [nIx_m e] at hx; omega
  rw [nIx_n hk] at hx hs
  have e : ¬ n2 k < n2 0 := by rw [n2_nn hk]; exact not_false
  obtain ⟨k1, k2⟩ := hW.ke k hx
  rw [hs] at k1
  obtain ⟨I1, r1, r2, r3⟩ := x5_copy (L := L) (c := c) (t := t) (show 3 ∈ stl by decide) (kp_stl k hx) (by omega) (k2 s1 hs)
  have hF2 : Fr I1 (upI I1 40 2 (n2 0)) 40 41 := .up (by omega) (by omega)
  have hf : ∀ b i, (b < 3 ∨ 14 ≤ b) → b ≠ 40 → upI I1 40 2 (n2 0) b i = I b i := fun b i h1 h2 => by rw [upI_ne h2, r3 _ _ (by omega)]
  refine ⟨upI I1 40 2 (n2 0), ?_, ?_, fun b i hb => hf b i (by omega) (by omega)⟩
  · unfold fX7_again
    rw [if_pos (by rw [kk_1])]
    unfold gX7_again
    rw [l_0, if_neg e, l_3, if_neg (by rw [n2_le (by omega) hk]; omega), g1_5, qbnd_s, ld197 hx, qbnd_s, k1, if_neg (show ¬ n2 (bn (some s1).isSome) = n2 0 from (by decide +kernel : ¬ n2 1 = n2 0)), g1_2, qbnd_s, g1_4, qbnd_s, ld163 hx, qbnd_s, r1, qbnd_s]
    dsimp only
    rw [g1_3, qbnd_s, u40_2, qbnd_s, l_1, qnz_1, if_pos rfl]
  · obtain ⟨z, hz⟩ := hW.sh
    obtain ⟨f, z1, z2, z3, z4, z5⟩ := hW.hi
    refine ⟨⟨r2.fr hF2 (by omega), fun p hp => ?_⟩, ⟨z, hz.on fun b i h1 h2 => hf b i (by omega) (by omega)⟩, ⟨f, z1, by simp, by rw [upI_ni (by omega), r3 _ _ (by omega)]; exact z3, by rw [upI_eq]; rfl, fun k hk => absurd hk (Nat.not_lt_zero k)⟩, hW.ke.on fun b i h1 h2 => hf b i (by omega) (by omega), hW.te.on fun b i h1 h2 => hf b i (by omega) (by omega), hW.ro.on (fun i => hf _ i (by omega) (by omega)) fun i => rfl, hW.ru.fr (fun i => hf _ i (by omega) (by omega)) (hf _ _ (by omega) (by omega))⟩
    rw [hf _ _ (by omega) (by omega)]
    exact hW.dw.2 p hp
end S7Z

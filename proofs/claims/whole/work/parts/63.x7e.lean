/-! PURE SIDE, THE CLASS: a queue, in order -/
section S7QE
variable {I : Nat → Nat → Int32} {L : Nat → Nat → Int64} {c t N : Nat} {s : St} {h : List St} {kp : Nat → Option St} {tx : List Nat} {row : List Int64} {cs : List Nat} {μ : qM}
def qAt (s : St) (p i o : Nat) : Bool := decide (s 89 o = p) && decide (posn s o = i)
def qRow (s : St) (p n : Nat) : List Nat := (List.range n).flatMap fun i => (List.range 8).filter (qAt s p i)
theorem cntP_or {P Q R : Nat → Bool} (h : ∀ x, R x = (P x || Q x)) (hd : ∀ x, P x = true → Q x = false) : ∀ l : List Nat, l.countP R = l.countP P + l.countP Q
  | [] => rfl
  | x :: l => by
    rw [List.countP_cons, List.countP_cons, List.countP_cons, cntP_or h hd l, h x]
    rcases bcs (P x) with e | e
    · rw [e]
      simp only [Bool.false_or]
      simp
      omega
    · rw [e, hd x e]
      simp
      omega
theorem qRow_len (s : St) (p : Nat) : ∀ n, (qRow s p n).length = (List.range 8).countP fun o => decide (s 89 o = p) && decide (posn s o < n)
  | 0 => by
    simp [qRow]
  | n + 1 => by
    unfold qRow
    rw [List.range_succ (n := n), List.flatMap_append, List.length_append]
    have := qRow_len s p n
    unfold qRow at this
    rw [this]
    simp only [List.flatMap_cons, List.flatMap_nil, List.append_nil]
    rw [← List.countP_eq_length_filter]
    refine (cntP_or (fun o => ?_) (fun o ho => ?_) _).symm
    · unfold qAt
      by_cases e1 : s 89 o = p
      · by_cases e2 : posn s o < n
        · simp [e1, e2, show posn s o < n + 1 by omega]
        · by_cases e3 : posn s o = n
          · simp [e1, e3]
          · simp [e1, e2, e3, show ¬ posn s o < n + 1 by omega]
      · simp [e1]
    · unfold qAt
      simp at ho
      simp
      intro _
      omega
theorem qRow_le (s : St) (p n : Nat) : (qRow s p n).length ≤ 8 := by
  rw [qRow_len]
  have := List.countP_le_length (p := fun o => decide (s 89 o = p) && decide (posn s o < n)) (l := List.range 8)
  rwa [List.length_range] at this
theorem qRow_part (s : St) (p n k : Nat) : (qRow s p n ++ (List.range k).filter (qAt s p n)).length ≤ 8 + k := by
  rw [List.length_append]
  have := qRow_le s p n
  have h2 := List.length_filter_le (qAt s p n) (List.range k)
  rw [List.length_range] at h2
  omega
theorem qRow_part8 (s : St) (p n k : Nat) (hk : k ≤ 8) : (qRow s p n ++ (List.range k).filter (qAt s p n)).length ≤ 8 := by
  have h1 := qRow_le s p (n + 1)
  unfold qRow at h1
  rw [List.range_succ (n := n), List.flatMap_append, List.length_append] at h1
  simp only [List.flatMap_cons, List.flatMap_nil, List.append_nil] at h1
  have h2 : ((List.range k).filter (qAt s p n)).length ≤ ((List.range 8).filter (qAt s p n)).length := by
    rw [show (8 : Nat) = k + (8 - k) by omega, List.range_add, List.filter_append, List.length_append]
    omega
  rw [List.length_append]
  unfold qRow
  omega
theorem posn_le8 (s : St) (o : Nat) : posn s o ≤ 8 := cnt8_le fun j => decide (j ≠ o) && decide (s 89 j = s 89 o) && ahd s j o
theorem x7_queue_n (x : Int32) (hn : ¬ nIx x < 85) : fX7_queue 1 x (mk I L c t) = some (-n2 1, 0, mk I L c t) := by
  unfold fX7_queue
  rw [if_pos (by rw [kk_1])]
  unfold gX7_queue
  rw [pl_nIx, decide_eq_false hn, qbnd_s]
  dsimp only
  rw [l_0, if_pos no_zero, l_1]
theorem x7_queue_y [FB] (hW : W7 I L s h kp tx row cs) (hG : Gd N s) (hN : N < 900000000) (x : Int32) (hx : nIx x < 85) : ∃ I' L', fX7_queue 1 x (mk I L c t) = some (n2 (reqs s (nIx x)), 0, mk I' L' c t) ∧ W7 I' L' s h kp tx (i64a (qRow s (nIx x) (reqs s (nIx x)))) cs ∧ Fw I I' := by
  have ex := nIx_eq (show nIx x < 2147483647 by omega)
  have hB := gd_bd hG (show N < 1000000000 by omega)
  obtain ⟨p, hp⟩ : ∃ p, nIx x = p := ⟨_, rfl⟩
  rw [hp] at hx ex ⊢
  have hs : 3 ∈ stl := by decide
  have hr := reqs_le s p
  have b0 := x5_requests (L := L) (c := c) (t := t) hs hW.dw.1 hB hx
  have key := lp_r (α := (Nat → Nat → Int32) × (Nat → Nat → Int64)) (fun n k z => fX7_queue_16 n 1 (n2 p) (n2 (reqs s p)) (n2 k) (mk z.1 z.2 c t)) (reqs s p) (fun k z => W7 z.1 z.2 s h kp tx (i64a (qRow s p k)) cs ∧ Fw I z.1) (fun r => ∃ I' L', r = some (n2 (reqs s p), 0, mk I' L' c t) ∧ W7 I' L' s h kp tx (i64a (qRow s p (reqs s p))) cs ∧ Fw I I') (fun n k z hk hi => ?_) (fun n z hi => ?_) (reqs s p) 0 qfu (upI I 200 1 (n2 0), L) (by omega) (by rw [qfu_eq]; omega) ⟨hW.cleared, Fr.w (lo := 200) (hi := 201) (.up (by omega) (by omega)) (by omega)⟩
  · rw [ex]
    unfold fX7_queue
    rw [if_pos (by rw [kk_1])]
    unfold gX7_queue
    rw [x7_isPlace_y hx, qbnd_s]
    dsimp only
    rw [l_0, if_neg (show ¬ n2 1 = n2 0 by decide +kernel), g1_2, qbnd_s, b0, qbnd_s]
    dsimp only
    rw [g1_7, qbnd_s, u200_1, qbnd_s]
    exact key
  · obtain ⟨J, M⟩ := z
    obtain ⟨i1, i2⟩ := hi
    dsimp only at i1 i2
    refine Or.inr ?_
    have q3 : ¬ n2 (reqs s p) ≤ n2 k := by rw [n2_le (by omega) (by omega)]; omega
    have key2 := lp_r (α := (Nat → Nat → Int32) × (Nat → Nat → Int64)) (fun m q z => fX7_queue_21 (fX7_queue_16 n) m 1 (n2 p) (n2 (reqs s p)) (n2 k) (n2 q) (mk z.1 z.2 c t)) 8 (fun q z => W7 z.1 z.2 s h kp tx (i64a (qRow s p k ++ (List.range q).filter (qAt s p k))) cs ∧ Fw I z.1) (fun r => ∃ z : (Nat → Nat → Int32) × (Nat → Nat → Int64), r = fX7_queue_16 n 1 (n2 p) (n2 (reqs s p)) (n2 (k + 1)) (mk z.1 z.2 c t) ∧ W7 z.1 z.2 s h kp tx (i64a (qRow s p (k + 1))) cs ∧ Fw I z.1) (fun m q z hq hj => ?_) (fun m z hj => ?_) 8 0 qfu (J, M) (by omega) (by rw [qfu_eq]; omega) ⟨by simpa using i1, i2⟩
    · obtain ⟨z, z1, z2, z3⟩ := key2
      refine ⟨z, ?_, z2, z3⟩
      show fX7_queue_16 (n + 1) 1 (n2 p) (n2 (reqs s p)) (n2 k) (mk J M c t) = _
      rw [fX7_queue_16]
      dsimp only
      rw [if_neg q3, l_0]
      exact z1
    · obtain ⟨K, R⟩ := z
      obtain ⟨j1, j2⟩ := hj
      dsimp only at j1 j2
      have q8 : ¬ n2 8 ≤ n2 q := by rw [n2_le (by omega) (by omega)]; omega
      have ha := (hB.ow hq)
      have q0 : oLdI 20 (mk K R c t) 9 (n2 q) = some (n2 (s 89 q)) := (st_L5 hs hq).trans (congrArg some (j1.dw.1.at hq))
      have b1 := x5_position (L := R) (c := c) (t := t) hs j1.dw.1 hB hq
      have hps := posn_le8 s q
      refine Or.inr ?_
      rcases bcs (qAt s p k q) with e | e
      · refine ⟨(K, R), ?_, ?_, j2⟩
        · show fX7_queue_21 (fX7_queue_16 n) (m + 1) 1 (n2 p) (n2 (reqs s p)) (n2 k) (n2 q) (mk K R c t) = _
          rw [fX7_queue_21]
          dsimp only
          rw [l_8, if_neg q8, g1_2, qbnd_s, st_P5 hs, qbnd_s, q0, qbnd_s, l_1]
          unfold qAt at e
          by_cases e1 : s 89 q = p
          · have e2 : ¬ posn s q = k := by simpa [e1] using e
            rw [if_pos (by rw [e1]), qbnd_s, b1, qbnd_s]
            dsimp only
            rw [if_neg (by rw [n2_eq (by omega) (by omega)]; exact e2), n2_add]
          · rw [if_neg (by rw [n2_eq (by omega) (by omega)]; exact e1), n2_add]
        · rw [List.range_succ, List.filter_append]
          simp only [List.filter_cons, e, List.filter_nil]
          simpa using j1
      · have hlen := qRow_part8 s p k q (by omega)
        obtain ⟨I4, L4, o1, o2, o3⟩ := x3_addW (c := c) (t := t) j1 (by unfold i64a; rw [List.length_map]; omega) (n2 q).toInt64
        refine ⟨(I4, L4), ?_, ?_, j2.trans o3⟩
        · show fX7_queue_21 (fX7_queue_16 n) (m + 1) 1 (n2 p) (n2 (reqs s p)) (n2 k) (n2 q) (mk K R c t) = _
          rw [fX7_queue_21]
          dsimp only
          rw [l_8, if_neg q8, g1_2, qbnd_s, st_P5 hs, qbnd_s, q0, qbnd_s, l_1]
          unfold qAt at e
          have e1 : s 89 q = p := by simp at e; exact e.1
          have e2 : posn s q = k := by simp at e; exact e.2
          rw [if_pos (by rw [e1]), qbnd_s, b1, qbnd_s]
          dsimp only
          rw [if_pos (by rw [e2]), g1_7, qbnd_s, o1, qbnd_s]
          dsimp only
          rw [n2_add]
        · rw [List.range_succ, List.filter_append]
          simp only [List.filter_cons, e, List.filter_nil, if_true]
          rw [← List.append_assoc]
          unfold i64a at o2 ⊢
          rw [List.map_append]
          exact o2
    · obtain ⟨K, R⟩ := z
      obtain ⟨j1, j2⟩ := hj
      dsimp only at j1 j2
      refine ⟨(K, R), ?_, ?_, j2⟩
      · show fX7_queue_21 (fX7_queue_16 n) (m + 1) 1 (n2 p) (n2 (reqs s p)) (n2 k) (n2 8) (mk K R c t) = _
        have q8 : n2 8 ≤ n2 8 := by rw [n2_le (by omega) (by omega)]; exact Nat.le_refl 8
        rw [fX7_queue_21]
        dsimp only
        rw [l_8, if_pos q8, l_1, n2_add]
      · have : qRow s p (k + 1) = qRow s p k ++ (List.range 8).filter (qAt s p k) := by
          unfold qRow
          rw [List.range_succ (n := k), List.flatMap_append]
          simp
        rw [this]
        exact j1
  · obtain ⟨J, M⟩ := z
    obtain ⟨i1, i2⟩ := hi
    dsimp only at i1 i2
    refine ⟨J, M, ?_, i1, i2⟩
    have q3 : n2 (reqs s p) ≤ n2 (reqs s p) := by rw [n2_le (by omega) (by omega)]; exact Nat.le_refl _
    show fX7_queue_16 (n + 1) 1 (n2 p) (n2 (reqs s p)) (n2 (reqs s p)) (mk J M c t) = _
    rw [fX7_queue_16]
    dsimp only
    rw [if_pos q3]
end S7QE

/-! PURE SIDE, THE REFERENCE: queues, who waits for whom -/
section S8C
variable {I : Nat → Nat → Int32} {L : Nat → Nat → Int64} {c t r N T : Nat} {s : St} {μ : qM}
def iqS (s : St) (p k : Nat) : Option Nat := (List.range 8).find? fun i => decide (s 89 i = p) && decide (posn s i = k)
theorem x8_inQueue (hr : r = 217 ∨ r = 218) (hR : R8 (I r) s) (hB : Bd s) {p k : Nat} (hp : p < 85) (hk : k < 100) : fX8_inQueue r (n2 p) (n2 k) (mk I L c t) = some (oi (iqS s p k), 0, mk I L c t) := by
  unfold fX8_inQueue
  rw [l_0, lp_x0 (α := Nat) (fun n j => fX8_inQueue_2 n r (n2 p) (n2 k) (n2 j) (mk I L c t)) 8 (by omega) (fun i => decide (s 89 i = p) && decide (posn s i = k)) (fun k => some (n2 k, 0, mk I L c t)) (some (-n2 1, 0, mk I L c t)) (fun n j hj => ?_) (fun n => ?_)]
  · rw [iqS]
    cases (List.range 8).find? fun i => decide (s 89 i = p) && decide (posn s i = k) <;> rfl
  · have hps := posn_le8 s j
    show fX8_inQueue_2 (n + 1) r (n2 p) (n2 k) (n2 j) (mk I L c t) = _
    rw [fX8_inQueue_2]
    dsimp only
    rw [l_8, if_neg (by rw [n2_le (by omega) (by omega)]; omega), x8_isIn hr hR hB hj hp, qbnd_s]
    dsimp only
    rw [l_0, l_1, n2_add]
    by_cases e : s 89 j = p
    · rw [decide_eq_true e, if_neg yes_zero, x8_aheadOf hr hR hB hj (by omega), qbnd_s]
      dsimp only
      by_cases e2 : posn s j = k
      · rw [if_pos (by rw [e2]), decide_eq_true e2]
        rfl
      · rw [if_neg (by rw [n2_eq (by omega) (by omega)]; exact e2), decide_eq_false e2]
        rfl
    · rw [decide_eq_false e, if_pos no_zero]
      rfl
  · show fX8_inQueue_2 (n + 1) r (n2 p) (n2 k) (n2 8) (mk I L c t) = _
    rw [fX8_inQueue_2]
    dsimp only
    rw [l_8, if_pos (by rw [n2_le (by omega) (by omega)]; omega), l_1]
theorem cnt8_0 {P : Nat → Bool} (h : cnt8 P = 0) {i : Nat} (hi : i < 8) : P i = false := by
  rcases bcs (P i) with e | e
  · exact e
  · have := cnt8_pos hi e
    omega
theorem cnt8_z {P : Nat → Bool} (h : ∀ i, i < 8 → P i = false) : cnt8 P = 0 := by
  show 0 + bn (P 0) + bn (P 1) + bn (P 2) + bn (P 3) + bn (P 4) + bn (P 5) + bn (P 6) + bn (P 7) = 0
  rw [h 0 (by omega), h 1 (by omega), h 2 (by omega), h 3 (by omega), h 4 (by omega), h 5 (by omega), h 6 (by omega), h 7 (by omega)]
  rfl
theorem posn_0 {s : St} {o : Nat} : posn s o = 0 ↔ ∀ j, j < 8 → j ≠ o → s 89 j = s 89 o → ahd s j o = false := by
  have hp : posn s o = cnt8 fun j => decide (j ≠ o) && decide (s 89 j = s 89 o) && ahd s j o := rfl
  rw [hp]
  constructor
  · intro h j hj h1 h2
    have := cnt8_0 h hj
    rw [decide_eq_true h1, decide_eq_true h2] at this
    exact this
  · intro h
    refine cnt8_z fun j hj => ?_
    by_cases e1 : j = o
    · simp [e1]
    · by_cases e2 : s 89 j = s 89 o
      · rw [h j hj e1 e2, Bool.and_false]
      · simp [e2]
theorem hd_posn {s : St} {p o : Nat} (h : Hd s p o) : posn s o = 0 := by
  rw [posn_0]
  intro j hj h1 h2
  exact ahd_asym (h.2.2 j hj h1 (by rw [h2, h.2.1]))
theorem iq_0 (h : Iv T s) {p : Nat} (hp : p < 85) : iqS s p 0 = fiq s p := by
  obtain ⟨f1, f2⟩ := fiq_hd h hp
  cases hf : fiq s p with
  | none =>
    have h2 := f2 hf
    unfold iqS
    rw [find_range_n]
    intro j hj
    rw [decide_eq_false (h2 j hj), Bool.false_and]
  | some o =>
    have ho := f1 o hf
    have hz := hd_posn ho
    unfold iqS
    rw [find_range]
    refine ⟨ho.1, by rw [decide_eq_true ho.2.1, decide_eq_true hz]; rfl, fun j hj => ?_⟩
    have hj8 : j < 8 := by have := ho.1; omega
    by_cases e1 : s 89 j = p
    · have ha := ho.2.2 j hj8 (by omega) e1
      have hne : ¬ posn s j = 0 := by
        intro z
        rw [posn_0] at z
        have := z o ho.1 (by omega) (by rw [ho.2.1, e1])
        rw [ha] at this
        exact absurd this (by decide)
      rw [decide_eq_false hne, Bool.and_false]
    · rw [decide_eq_false e1, Bool.false_and]
theorem x8_goesWithOthers (hr : r = 217 ∨ r = 218) (hR : R8 (I r) s) (hB : Bd s) {i p m : Nat} (hi : i < 8) (hp : p < 85) (hm : m ≤ 6) : fX8_goesWithOthers r (n2 i) (n2 p) (n2 m) (mk I L c t) = some (n2 (bn (fitb s i p m)), 0, mk I L c t) := by
  have hf : ∀ l : List Nat, ∀ b, l.foldl (fun b j => b && (decide (j = i) || tog m (s p j))) b = (b && l.all fun j => decide (j = i) || tog m (s p j)) := by
    intro l
    induction l with
    | nil => intro b; simp
    | cons x l ih => intro b; rw [List.foldl_cons, ih, List.all_cons, Bool.and_assoc]
  unfold fX8_goesWithOthers
  rw [l_0, l_1]
  have key := lp_f0 (fun n k b => fX8_goesWithOthers_4 n r (n2 i) (n2 p) (n2 m) (n2 (bn b)) (n2 k) (mk I L c t)) 8 (by omega) (fun b j => b && (decide (j = i) || tog m (s p j))) (fun b => some (n2 (bn b), 0, mk I L c t)) true (fun n k b hk => ?_) (fun n x => ?_)
  · rw [hf, Bool.true_and] at key
    exact key
  · have hmk := hB.md hp hk
    show fX8_goesWithOthers_4 (n + 1) r (n2 i) (n2 p) (n2 m) (n2 (bn b)) (n2 k) (mk I L c t) = _
    rw [fX8_goesWithOthers_4]
    dsimp only
    rw [l_8, if_neg (by rw [n2_le (by omega) (by omega)]; omega), l_0, l_1, n2_add, x8_held hr hR hk hp, qbnd_s]
    dsimp only
    rw [x8_together hm hmk, qbnd_s]
    dsimp only
    cases b with
    | false =>
      rw [if_pos no_zero]
      rfl
    | true =>
      rw [if_neg yes_zero, Bool.true_and]
      by_cases e : k = i
      · rw [if_pos (by rw [e]), decide_eq_true e]
        rfl
      · rw [if_neg (by rw [n2_eq (by omega) (by omega)]; exact e), decide_eq_false e, Bool.false_or]
        rcases bcs (tog m (s p k)) with e2 | e2
        · rw [e2, if_pos no_zero]
          rfl
        · rw [e2, if_neg yes_zero]
          rfl
  · show fX8_goesWithOthers_4 (n + 1) r (n2 i) (n2 p) (n2 m) (n2 (bn x)) (n2 8) (mk I L c t) = _
    rw [fX8_goesWithOthers_4]
    dsimp only
    rw [l_8, if_pos (by rw [n2_le (by omega) (by omega)]; omega), if_pos (qz_b _)]
theorem x8_waitsFor (hr : r = 217 ∨ r = 218) (hR : R8 (I r) s) (hB : Bd s) {i j : Nat} (hi : i < 8) (hj : j < 8) : fX8_waitsFor r (n2 i) (n2 j) (mk I L c t) = some (n2 (bn (wfr s i j)), 0, mk I L c t) := by
  have hb := hB.ow hi
  have h85 := hb.1
  have h90 : s 90 i ≤ 6 := hb.2.2.2.2.1
  have hw : s 85 i = 2 ↔ s 89 i < 85 := hb.2.2.2.2.2.2.2.2
  unfold fX8_waitsFor wfr
  rw [l_0, l_1, if_pos no_qz]
  by_cases e1 : i = j
  · rw [if_pos (by rw [e1])]
    simp [e1, bn]
  rw [if_neg (by rw [n2_eq (by omega) (by omega)]; exact e1), l_680, n2_add, r8L hr (by omega) (hR.2.1 i hi).1, qbnd_s, l_2]
  by_cases e2 : s 85 i = 2
  · have hlt := hw.mp e2
    have hm := hB.md hlt hj
    rw [if_pos (by rw [e2]), l_712, n2_add, r8L hr (by omega) (hR.2.1 i hi).2.2.2.2.1, qbnd_s, l_720, n2_add, r8L hr (by omega) (hR.2.1 i hi).2.2.2.2.2.1, qbnd_s, x8_held hr hR hj hlt, qbnd_s]
    dsimp only
    rw [x8_together h90 hm, qbnd_s]
    dsimp only
    rw [decide_eq_true e2, decide_eq_true (show j ≠ i from fun z => e1 z.symm), Bool.true_and, Bool.true_and]
    rcases bcs (tog (s 90 i) (s (s 89 i) j)) with e3 | e3
    · rw [e3, if_pos no_zero, if_pos yes_qz]
      rfl
    · rw [e3, if_neg yes_zero, x8_isIn hr hR hB hj hlt, qbnd_s]
      dsimp only
      by_cases e4 : s 89 j = s 89 i
      · rw [decide_eq_true e4, if_neg yes_zero, x8_isAhead hr hR hB hj hi (by omega) hlt, qbnd_s]
        dsimp only
        rcases bcs (ahd s j i) with e5 | e5
        · rw [e5, if_pos no_zero, if_pos no_qz]
          rfl
        · rw [e5, if_neg yes_zero, if_pos yes_qz]
          rfl
      · rw [decide_eq_false e4, if_pos no_zero, if_pos no_qz]
        rfl
  · rw [if_neg (by rw [n2_eq (by omega) (by omega)]; exact e2), decide_eq_false e2, Bool.false_and, Bool.false_and]
    rfl
theorem x8_behindOf (hr : r = 217 ∨ r = 218) (hR : R8 (I r) s) (hB : Bd s) {i : Nat} (hi : i < 8) : fX8_behindOf r (n2 i) (mk I L c t) = some (n2 (bits8 (wfr s i)), 0, mk I L c t) := by
  unfold fX8_behindOf
  rw [l_0]
  have key := lp_f0 (fun n k x => fX8_behindOf_4 n r (n2 i) (n2 x) (n2 k) (mk I L c t)) 8 (by omega) (fun b j => if wfr s i j = true then b ||| (1 <<< j) else b) (fun x => some (n2 x, 0, mk I L c t)) 0 (fun n k x hk => ?_) (fun n x => ?_)
  · exact key
  · show fX8_behindOf_4 (n + 1) r (n2 i) (n2 x) (n2 k) (mk I L c t) = _
    rw [fX8_behindOf_4]
    dsimp only
    rw [l_8, if_neg (by rw [n2_le (by omega) (by omega)]; omega), x8_waitsFor hr hR hB hi hk, qbnd_s]
    dsimp only
    rw [l_0, l_1, l_31, n2_31 (by omega), n2_shl (by omega), n2_or, n2_or, n2_add]
    rcases bcs (wfr s i k) with e | e
    · rw [e, if_pos no_zero, if_neg Bool.false_ne_true, Nat.or_zero]
    · rw [e, if_neg yes_zero, if_pos rfl]
  · show fX8_behindOf_4 (n + 1) r (n2 i) (n2 x) (n2 8) (mk I L c t) = _
    rw [fX8_behindOf_4]
    dsimp only
    rw [l_8, if_pos (by rw [n2_le (by omega) (by omega)]; omega)]
theorem x8_waitersOf (hr : r = 217 ∨ r = 218) (hR : R8 (I r) s) (hB : Bd s) {i : Nat} (hi : i < 8) : fX8_waitersOf r (n2 i) (mk I L c t) = some (n2 (wtr s i), 0, mk I L c t) := by
  unfold fX8_waitersOf
  rw [l_0]
  have key := lp_f0 (fun n k x => fX8_waitersOf_4 n r (n2 i) (n2 x) (n2 k) (mk I L c t)) 8 (by omega) (fun n o => n + bn (wfr s o i)) (fun x => some (n2 x, 0, mk I L c t)) 0 (fun n k x hk => ?_) (fun n x => ?_)
  · exact key
  · show fX8_waitersOf_4 (n + 1) r (n2 i) (n2 x) (n2 k) (mk I L c t) = _
    rw [fX8_waitersOf_4]
    dsimp only
    rw [l_8, if_neg (by rw [n2_le (by omega) (by omega)]; omega), x8_waitsFor hr hR hB hk hi, qbnd_s]
    dsimp only
    rw [x8_flag, qbnd_s]
    dsimp only
    rw [l_1, n2_add, n2_add]
  · show fX8_waitersOf_4 (n + 1) r (n2 i) (n2 x) (n2 8) (mk I L c t) = _
    rw [fX8_waitersOf_4]
    dsimp only
    rw [l_8, if_pos (by rw [n2_le (by omega) (by omega)]; omega)]
/-! the closure, round by round -/
def cmoF (s : St) (B : Nat → Bool) (j : Nat) : Nat → Bool := if B j = true then fun k => B k || wfr s j k else B
def cmR (s : St) (B : Nat → Bool) : Nat → Bool := (List.range 8).foldl (cmoF s) B
def cmI (s : St) (i : Nat) : Nat → Nat → Bool
  | 0 => wfr s i
  | n + 1 => cmR s (cmI s i n)
theorem cmoF_up (s : St) (B : Nat → Bool) (j k : Nat) (h : B k = true) : cmoF s B j k = true := by
  unfold cmoF
  split
  · show (B k || wfr s j k) = true
    rw [h]
    rfl
  · exact h
theorem cm_fold_up (s : St) (k : Nat) : ∀ (l : List Nat) (B : Nat → Bool), B k = true → l.foldl (cmoF s) B k = true
  | [], B, h => h
  | j :: l, B, h => cm_fold_up s k l (cmoF s B j) (cmoF_up s B j k h)
theorem cm_fold_in (s : St) {j k : Nat} : ∀ (l : List Nat) (B : Nat → Bool), j ∈ l → B j = true → wfr s j k = true → l.foldl (cmoF s) B k = true
  | [], B, h, _, _ => absurd h (by simp)
  | q :: l, B, h, h1, h2 => by
    rw [List.foldl_cons]
    rcases List.mem_cons.mp h with rfl | h
    · refine cm_fold_up s k l _ ?_
      unfold cmoF
      rw [if_pos h1]
      simp only [h2, Bool.or_true]
    · exact cm_fold_in s l (cmoF s B q) h (cmoF_up s B q j h1) h2
theorem cm_fold_ok (s : St) {i : Nat} (hi : i < 8) : ∀ (l : List Nat) (B : Nat → Bool), (∀ j ∈ l, j < 8) → (∀ k, k < 8 → B k = true → rch s i k = true) → ∀ k, k < 8 → l.foldl (cmoF s) B k = true → rch s i k = true
  | [], B, _, h => h
  | q :: l, B, hl, h => by
    rw [List.foldl_cons]
    refine cm_fold_ok s hi l (cmoF s B q) (fun j hj => hl j (List.mem_cons_of_mem q hj)) fun k hk h1 => ?_
    unfold cmoF at h1
    split at h1
    · rename_i hq
      have hq8 := hl q (List.mem_cons_self ..)
      rw [Bool.or_eq_true] at h1
      rcases h1 with h1 | h1
      · exact h k hk h1
      · exact wsh_tr 8 q i k hq8 (h q hq8 hq) (wsh_mono (k := 0) (by omega) h1)
    · exact h k hk h1
theorem cmI_ok (s : St) {i : Nat} (hi : i < 8) : ∀ n k, k < 8 → cmI s i n k = true → rch s i k = true
  | 0, k, _, h => wsh_mono (k := 0) (by omega) h
  | n + 1, k, hk, h => cm_fold_ok s hi (List.range 8) (cmI s i n) (fun j hj => List.mem_range.mp hj) (cmI_ok s hi n) k hk h
theorem cmoF_congr {s : St} {B B' : Nat → Bool} (h : ∀ k, k < 8 → B k = B' k) {j : Nat} (hj : j < 8) : ∀ k, k < 8 → cmoF s B j k = cmoF s B' j k := by
  intro k hk
  unfold cmoF
  rw [h j hj]
  split
  · show (B k || wfr s j k) = (B' k || wfr s j k)
    rw [h k hk]
  · exact h k hk
theorem cmf_congr {s : St} : ∀ (l : List Nat) (B B' : Nat → Bool), (∀ j ∈ l, j < 8) → (∀ k, k < 8 → B k = B' k) → ∀ k, k < 8 → l.foldl (cmoF s) B k = l.foldl (cmoF s) B' k
  | [], B, B', _, h => h
  | q :: l, B, B', hl, h => by
    rw [List.foldl_cons, List.foldl_cons]
    exact cmf_congr l _ _ (fun j hj => hl j (List.mem_cons_of_mem q hj)) (cmoF_congr h (hl q (List.mem_cons_self ..)))
def cmC (s : St) (B : Nat → Bool) : Prop := ∀ k, k < 8 → cmR s B k = true → B k = true
theorem cmC_eq {s : St} {B : Nat → Bool} (h : cmC s B) : ∀ k, k < 8 → cmR s B k = B k := fun k hk => by
  rcases bcs (B k) with e | e
  · rcases bcs (cmR s B k) with e2 | e2
    · rw [e, e2]
    · rw [h k hk e2] at e
      exact absurd e (by decide)
  · rw [e]
    exact cm_fold_up s k (List.range 8) B e
theorem cmC_next {s : St} {B : Nat → Bool} (h : cmC s B) : cmC s (cmR s B) := fun k hk h1 => by
  have h2 := cmf_congr (s := s) (List.range 8) (cmR s B) B (fun j hj => List.mem_range.mp hj) (cmC_eq h) k hk
  have h3 : cmR s (cmR s B) k = cmR s B k := h2
  rw [h3] at h1
  exact h1
theorem cm_8 (s : St) {i : Nat} (hi : i < 8) : cmC s (cmI s i 8) := by
  have key : ∀ n, n ≤ 8 → cmC s (cmI s i n) ∨ n + 1 ≤ cnt8 (cmI s i n) := by
    intro n
    induction n with
    | zero =>
      intro _
      by_cases e : ∃ k, k < 8 ∧ wfr s i k = true
      · obtain ⟨k, k1, k2⟩ := e
        exact .inr (cnt8_pos k1 k2)
      · refine .inl fun k hk h1 => ?_
        exfalso
        have hz : ∀ k, k < 8 → wfr s i k = (fun _ => false) k := fun k hk => by
          rcases bcs (wfr s i k) with q | q
          · exact q
          · exact absurd ⟨k, hk, q⟩ e
        have h2 := cmf_congr (s := s) (List.range 8) (wfr s i) (fun _ => false) (fun j hj => List.mem_range.mp hj) hz k hk
        have h3 : ∀ l : List Nat, l.foldl (cmoF s) (fun _ => false) = fun _ => false := by
          intro l
          induction l with
          | nil => rfl
          | cons q l ih =>
            rw [List.foldl_cons]
            have : cmoF s (fun _ => false) q = fun _ => false := if_neg (by simp)
            rw [this]
            exact ih
        rw [h3] at h2
        have h4 : cmR s (wfr s i) k = true := h1
        unfold cmR at h4
        rw [h2] at h4
        exact absurd (show false = true from h4) (by decide)
    | succ n ih =>
      intro hn
      rcases ih (by omega) with h1 | h1
      · exact .inl (cmC_next h1)
      · by_cases e : cmC s (cmI s i n)
        · exact .inl (cmC_next e)
        · obtain ⟨k, e⟩ := Classical.not_forall.mp e
          obtain ⟨e1, e⟩ := Classical.not_imp.mp e
          obtain ⟨e2, e3⟩ := Classical.not_imp.mp e
          have e4 : cmI s i n k = false := by
            rcases bcs (cmI s i n k) with q | q
            · exact q
            · exact absurd q e3
          have := cnt8_lt (P := cmI s i n) (Q := cmI s i (n + 1)) (fun k hk h => cm_fold_up s k (List.range 8) _ h) e1 e4 e2
          exact .inr (by omega)
  rcases key 8 (Nat.le_refl 8) with h | h
  · exact h
  · have := cnt8_le (cmI s i 8)
    omega
theorem cmI_up (s : St) (i k : Nat) (h : wfr s i k = true) : ∀ n, cmI s i n k = true
  | 0 => h
  | n + 1 => cm_fold_up s k (List.range 8) _ (cmI_up s i k h n)
theorem cm_rch (s : St) {i k : Nat} (hi : i < 8) (hk : k < 8) : cmI s i 8 k = rch s i k := by
  rcases bcs (rch s i k) with e | e
  · rw [e]
    rcases bcs (cmI s i 8 k) with e2 | e2
    · exact e2
    · rw [cmI_ok s hi 8 k hk e2] at e
      exact absurd e (by decide)
  · rw [e]
    have hcl := cm_8 s hi
    have walk : ∀ n j, j < 8 → cmI s i 8 j = true → wlk s k n j = true → cmI s i 8 k = true := by
      intro n
      induction n with
      | zero =>
        intro j hj h1 h2
        simp [wlk] at h2
        subst h2
        exact h1
      | succ n ih =>
        intro j hj h1 h2
        simp only [wlk] at h2
        rw [List.any_eq_true] at h2
        obtain ⟨q, q1, q2⟩ := h2
        rw [Bool.and_eq_true] at q2
        have hq := List.mem_range.mp q1
        exact ih q hq (hcl q hq (cm_fold_in s (List.range 8) _ (List.mem_range.mpr hj) h1 q2.1)) q2.2
    obtain ⟨n, hn⟩ := (rch_wlk hi hk).mp e
    simp only [wlk] at hn
    rw [List.any_eq_true] at hn
    obtain ⟨q, q1, q2⟩ := hn
    rw [Bool.and_eq_true] at q2
    exact walk n q (List.mem_range.mp q1) (cmI_up s i q q2.1 8) q2.2
theorem x8_comesTo (hr : r = 217 ∨ r = 218) (hR : R8 (I r) s) (hB : Bd s) {i : Nat} (hi : i < 8) : fX8_comesTo r (n2 i) (mk I L c t) = some (n2 (bits8 (rch s i)), 0, mk I L c t) := by
  have h8 : bits8 (cmI s i 8) = bits8 (rch s i) := bits8_congr fun k hk => cm_rch s hi hk
  rw [← h8]
  unfold fX8_comesTo
  rw [x8_behindOf hr hR hB hi, qbnd_s]
  dsimp only
  rw [l_0]
  refine lp_r (α := Unit) (fun n k _ => fX8_comesTo_6 n r (n2 (bits8 (cmI s i k))) (n2 k) (mk I L c t)) 8 (fun k _ => True) (fun q => q = some (n2 (bits8 (cmI s i 8)), 0, mk I L c t)) (fun n k _ hk _ => Or.inr ⟨(), ?_, trivial⟩) (fun n _ _ => ?_) 8 0 qfu () (by omega) (by rw [qfu_eq]; omega) trivial
  · show fX8_comesTo_6 (n + 1) r (n2 (bits8 (cmI s i k))) (n2 k) (mk I L c t) = _
    rw [fX8_comesTo_6]
    dsimp only
    rw [l_8, if_neg (by rw [n2_le (by omega) (by omega)]; omega), l_0]
    have key := lp_f0 (fun m j B => fX8_comesTo_11 (fX8_comesTo_6 n) m r (n2 (bits8 B)) (n2 k) (n2 j) (mk I L c t)) 8 (by omega) (cmoF s) (fun B => fX8_comesTo_6 n r (n2 (bits8 B)) (n2 (k + 1)) (mk I L c t)) (cmI s i k) (fun m j B hj => ?_) (fun m B => ?_)
    · exact key
    · show fX8_comesTo_11 (fX8_comesTo_6 n) (m + 1) r (n2 (bits8 B)) (n2 k) (n2 j) (mk I L c t) = _
      rw [fX8_comesTo_11]
      dsimp only
      rw [l_8, if_neg (by rw [n2_le (by omega) (by omega)]; omega), x8_hasB B hj, qbnd_s]
      dsimp only
      rw [x8_behindOf hr hR hB hj, qbnd_s]
      dsimp only
      rw [l_0, l_1, n2_or, n2_or, n2_add]
      unfold cmoF
      rcases bcs (B j) with e | e
      · rw [e, if_pos no_zero, if_neg Bool.false_ne_true, Nat.or_zero]
      · rw [e, if_neg yes_zero, if_pos rfl, bits8_or]
    · show fX8_comesTo_11 (fX8_comesTo_6 n) (m + 1) r (n2 (bits8 B)) (n2 k) (n2 8) (mk I L c t) = _
      rw [fX8_comesTo_11]
      dsimp only
      rw [l_8, if_pos (by rw [n2_le (by omega) (by omega)]; omega), l_1, n2_add]
  · show fX8_comesTo_6 (n + 1) r (n2 (bits8 (cmI s i 8))) (n2 8) (mk I L c t) = _
    rw [fX8_comesTo_6]
    dsimp only
    rw [l_8, if_pos (by rw [n2_le (by omega) (by omega)]; omega)]
theorem x8_ringed (hr : r = 217 ∨ r = 218) (hR : R8 (I r) s) (hB : Bd s) : fX8_ringed r (mk I L c t) = some (n2 (bits8 fun j => rch s j j), 0, mk I L c t) := by
  unfold fX8_ringed
  rw [l_0]
  have key := lp_f0 (fun n k x => fX8_ringed_4 n r (n2 x) (n2 k) (mk I L c t)) 8 (by omega) (fun b j => if rch s j j = true then b ||| (1 <<< j) else b) (fun x => some (n2 x, 0, mk I L c t)) 0 (fun n k x hk => ?_) (fun n x => ?_)
  · exact key
  · show fX8_ringed_4 (n + 1) r (n2 x) (n2 k) (mk I L c t) = _
    rw [fX8_ringed_4]
    dsimp only
    rw [l_8, if_neg (by rw [n2_le (by omega) (by omega)]; omega), x8_comesTo hr hR hB hk, qbnd_s]
    dsimp only
    rw [x8_hasB _ hk, qbnd_s]
    dsimp only
    rw [l_0, l_1, l_31, n2_31 (by omega), n2_shl (by omega), n2_or, n2_or, n2_add]
    rcases bcs (rch s k k) with e | e
    · rw [e, if_pos no_zero, if_neg Bool.false_ne_true, Nat.or_zero]
    · rw [e, if_neg yes_zero, if_pos rfl]
  · show fX8_ringed_4 (n + 1) r (n2 x) (n2 8) (mk I L c t) = _
    rw [fX8_ringed_4]
    dsimp only
    rw [l_8, if_pos (by rw [n2_le (by omega) (by omega)]; omega)]
end S8C

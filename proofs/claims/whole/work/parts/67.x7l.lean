/-! PURE SIDE, THE CLASS: ring -/
def DsW (I : Nat → Nat → Int32) (d : Nat) (D : Nat → Nat) : Prop := ∀ j, j < 8 → I (d + 15) j = n2 (D j)
section S7RG
variable {I : Nat → Nat → Int32} {L : Nat → Nat → Int64} {c t d : Nat} {s : St}
theorem x2_nearer (hd : d ∈ dkl) (hL : LW I d s) {D : Nat → Nat} (hD : DsW I d D) (hD8 : ∀ j, j < 8 → D j ≤ 8) {i w : Nat} (hi : i < 8) (hw : w < 100) : fX2_nearer (d + 12) (n2 i) (n2 w) (mk I L c t) = some (oi (nrS s D i w), 0, mk I L c t) := by
  have hne : ¬ n2 i = -n2 1 := by rw [n2_eqm (by omega)]; exact not_false
  unfold fX2_nearer
  rw [if_pos (of_eq_true (lk_q hd))]
  unfold gX2_nearer
  rw [l_0, lp_x0 (α := Nat) (fun n k => fX2_nearer_2 n (d + 12) (n2 i) (n2 w) (n2 k) (mk I L c t)) 8 (by omega) (fun j => wfr s i j && decide (D j = w)) (fun k => some (n2 k, 0, mk I L c t)) (some (-n2 1, 0, mk I L c t)) (fun n k hk => ?_) (fun n => ?_)]
  · rw [nrS]
    cases (List.range 8).find? fun j => wfr s i j && decide (D j = w) <;> rfl
  · have q3 : ¬ n2 8 ≤ n2 k := by rw [n2_le (by omega) (by omega)]; omega
    have hk8 := hD8 k hk
    show fX2_nearer_2 (n + 1) (d + 12) (n2 i) (n2 w) (n2 k) (mk I L c t) = _
    rw [fX2_nearer_2]
    dsimp only
    rw [l_8, if_neg q3, l_1, if_neg hne, lk_P0 hd, qbnd_s, lk_L0 hd hi, qbnd_s, hL.1 i hi, bits8_q _ hk, l_0]
    rcases bcs (wfr s i k) with e | e
    · rw [e, if_pos no_zero, n2_add]
      rfl
    · rw [e, if_neg yes_zero, lk_P2 hd, qbnd_s, lk_L2 hd hk, qbnd_s, hD k hk]
      by_cases e2 : D k = w
      · rw [if_pos (by rw [e2]), e2]
        simp
      · rw [if_neg (by rw [n2_eq (by omega) (by omega)]; exact e2), n2_add]
        simp [e2]
  · have q4 : n2 8 ≤ n2 8 := by rw [n2_le (by omega) (by omega)]; exact Nat.le_refl _
    show fX2_nearer_2 (n + 1) (d + 12) (n2 i) (n2 w) (n2 8) (mk I L c t) = _
    rw [fX2_nearer_2]
    dsimp only
    rw [l_8, if_pos q4, l_1]
theorem dst_1 (s : St) (g i : Nat) : dst s g 1 i = if i = g then 0 else 8 := by
  by_cases e : i = g
  · rw [if_pos e, dst_k (by omega)]
    exact ⟨by omega, by simp [wlk, e], fun j hj => by omega⟩
  · rw [if_neg e, dst_8 (by omega)]
    intro k hk
    obtain rfl : k = 0 := by omega
    simp [wlk, e]
def mixD (s : St) (g k q j : Nat) : Nat := if j < q then dst s g (k + 1) j else dst s g k j
theorem mix_lt {s : St} {g k q j : Nat} (h : j < q) : mixD s g k q j = dst s g (k + 1) j := if_pos h
theorem mix_ge {s : St} {g k q j : Nat} (h : ¬ j < q) : mixD s g k q j = dst s g k j := if_neg h
theorem mix_le (s : St) (g q j : Nat) {k : Nat} (hk : k < 8) : mixD s g k q j ≤ 8 := by
  unfold mixD
  split <;> exact dst_le s g j (by omega)
theorem oi_none (f : Option Nat) (h : ∀ o, f = some o → o < 8) : (oi f = -n2 1) = (f = none) := oi_m1 f h
theorem nr_lt {D : Nat → Nat} {i w o : Nat} (h : nrS s D i w = some o) : o < 8 := (find_range.mp h).1
theorem x2_measure (hd : d ∈ dkl) (hL : LW I d s) {g : Nat} (hg : g < 8) : ∃ I', fX2_measure (d + 12) (n2 g) (mk I L c t) = some (n2 0, 0, mk I' L c t) ∧ DsW I' d (dst s g 8) ∧ Fr I I' (d + 15) (d + 16) := by
  have last : ∀ J, DsW J d (dst s g 1) → Fr I J (d + 15) (d + 16) → ∃ I', fX2_measure_19 qfu (d + 12) (n2 1) (mk J L c t) = some (n2 0, 0, mk I' L c t) ∧ DsW I' d (dst s g 8) ∧ Fr I I' (d + 15) (d + 16) := by
    intro J hJ hF
    refine lp_rk (α := Nat → Nat → Int32) (fun n k J => fX2_measure_19 n (d + 12) (n2 k) (mk J L c t)) 8 (fun k J => DsW J d (dst s g k) ∧ Fr I J (d + 15) (d + 16)) (fun r => ∃ I', r = some (n2 0, 0, mk I' L c t) ∧ DsW I' d (dst s g 8) ∧ Fr I I' (d + 15) (d + 16)) (k0 := 1) (by omega) (by omega) J ⟨hJ, hF⟩ (fun n k J h1 hk hi => Or.inr ?_) (fun n J hi => ?_)
    · obtain ⟨i1, i2⟩ := hi
      have q3 : ¬ n2 8 ≤ n2 k := by rw [n2_le (by omega) (by omega)]; omega
      have key := lp_r (α := Nat → Nat → Int32) (fun m q J => fX2_measure_24 (fX2_measure_19 n) m (d + 12) (n2 k) (n2 q) (mk J L c t)) 8 (fun q J => DsW J d (mixD s g k q) ∧ Fr I J (d + 15) (d + 16)) (fun r => ∃ J2, r = fX2_measure_19 n (d + 12) (n2 (k + 1)) (mk J2 L c t) ∧ DsW J2 d (dst s g (k + 1)) ∧ Fr I J2 (d + 15) (d + 16)) (fun m q K hq hj => Or.inr ?_) (fun m K hj => ?_) 8 0 qfu J (by omega) (by rw [qfu_eq]; omega) ⟨fun j hj => by rw [mix_ge (by omega)]; exact i1 j hj, i2⟩
      · obtain ⟨J2, z1, z2, z3⟩ := key
        refine ⟨J2, ?_, z2, z3⟩
        show fX2_measure_19 (n + 1) (d + 12) (n2 k) (mk J L c t) = _
        rw [fX2_measure_19]
        dsimp only
        rw [l_8, if_neg q3, l_0]
        exact z1
      · obtain ⟨j1, j2⟩ := hj
        have q5 : ¬ n2 8 ≤ n2 q := by rw [n2_le (by omega) (by omega)]; omega
        have hl := dst_le s g q (show k ≤ 8 by omega)
        have hv : K (d + 15) q = n2 (dst s g k q) := by rw [j1 q hq, mix_ge (by omega)]
        have hLK := hL.fr j2 (by omega)
        have hstep := dst_s (s := s) (g := g) (i := q) hk
        have head : fX2_measure_24 (fX2_measure_19 n) (m + 1) (d + 12) (n2 k) (n2 q) (mk K L c t) = if n2 (dst s g k q) = n2 8 then (if oi (nrS s (mixD s g k q) q (k - 1)) = -n2 1 then fX2_measure_24 (fX2_measure_19 n) m (d + 12) (n2 k) (n2 (q + 1)) (mk K L c t) else fX2_measure_24 (fX2_measure_19 n) m (d + 12) (n2 k) (n2 (q + 1)) (mk (upI K (d + 15) q (n2 k)) L c t)) else fX2_measure_24 (fX2_measure_19 n) m (d + 12) (n2 k) (n2 (q + 1)) (mk K L c t) := by
          rw [fX2_measure_24]
          dsimp only
          rw [l_8, if_neg q5, lk_P2 hd, qbnd_s, lk_L2 hd hq, qbnd_s, hv, l_1, n2_sub h1, n2_add, x2_nearer hd hLK j1 (fun j hj => mix_le s g q j hk) hq (by omega), qbnd_s]
          dsimp only
          rw [lk_P2 hd, qbnd_s, lk_S2 hd hq, qbnd_s]
        by_cases e8 : dst s g k q = 8
        · have hw := nr_walk (s := s) (g := g) (n := k - 1) (i := q) (by omega) (by rw [show k - 1 + 1 = k by omega]; exact e8) (mixD s g k q) (fun j hj => by
            rw [show k - 1 + 1 = k by omega]
            by_cases e : j < q
            · rw [mix_lt e, dst_s hk]
              by_cases e2 : dst s g k j = 8 ∧ wlk s g k j = true
              · rw [if_pos e2]
                constructor <;> intro z <;> omega
              · rw [if_neg e2]
            · rw [mix_ge e])
          rw [show k - 1 + 1 = k by omega] at hw
          rw [if_pos (by rw [e8])] at head
          cases hn : nrS s (mixD s g k q) q (k - 1) with
          | none =>
            rw [hn] at hw head
            have hw2 : wlk s g k q = false := hw.symm
            have hs : dst s g (k + 1) q = dst s g k q := by rw [hstep, if_neg (fun z => by rw [hw2] at z; exact absurd z.2 (by decide))]
            rw [if_pos (show oi none = -n2 1 from rfl)] at head
            refine ⟨K, head, fun j hj => ?_, j2⟩
            rw [j1 j hj]
            by_cases e : j < q
            · rw [mix_lt e, mix_lt (by omega)]
            · rw [mix_ge e]
              by_cases e2 : j = q
              · subst e2
                rw [mix_lt (by omega), hs]
              · rw [mix_ge (by omega)]
          | some o =>
            rw [hn] at hw head
            have hw2 : wlk s g k q = true := hw.symm
            have hs : dst s g (k + 1) q = k := by rw [hstep, if_pos ⟨e8, hw2⟩]
            have ho := nr_lt hn
            have hne : ¬ oi (some o) = -n2 1 := by
              show ¬ n2 o = -n2 1
              rw [n2_eqm (by omega)]
              exact not_false
            rw [if_neg hne] at head
            refine ⟨upI K (d + 15) q (n2 k), head, fun j hj => ?_, j2.trans (.up (by omega) (by omega))⟩
            by_cases e2 : j = q
            · subst e2
              rw [upI_eq, mix_lt (by omega), hs]
            · rw [upI_ni e2, j1 j hj]
              by_cases e : j < q
              · rw [mix_lt e, mix_lt (by omega)]
              · rw [mix_ge e, mix_ge (by omega)]
        · rw [if_neg (by rw [n2_eq (by omega) (by omega)]; exact e8)] at head
          have hs : dst s g (k + 1) q = dst s g k q := by rw [hstep, if_neg (fun z => e8 z.1)]
          refine ⟨K, head, fun j hj => ?_, j2⟩
          rw [j1 j hj]
          by_cases e : j < q
          · rw [mix_lt e, mix_lt (by omega)]
          · rw [mix_ge e]
            by_cases e2 : j = q
            · subst e2
              rw [mix_lt (by omega), hs]
            · rw [mix_ge (by omega)]
      · obtain ⟨j1, j2⟩ := hj
        have q4 : n2 8 ≤ n2 8 := by rw [n2_le (by omega) (by omega)]; exact Nat.le_refl _
        refine ⟨K, ?_, fun j hj => by rw [j1 j hj, mix_lt hj], j2⟩
        show fX2_measure_24 (fX2_measure_19 n) (m + 1) (d + 12) (n2 k) (n2 8) (mk K L c t) = _
        rw [fX2_measure_24]
        dsimp only
        rw [l_8, if_pos q4, l_1, n2_add]
    · obtain ⟨i1, i2⟩ := hi
      refine ⟨J, ?_, i1, i2⟩
      have q4 : n2 8 ≤ n2 8 := by rw [n2_le (by omega) (by omega)]; exact Nat.le_refl _
      show fX2_measure_19 (n + 1) (d + 12) (n2 8) (mk J L c t) = _
      rw [fX2_measure_19]
      dsimp only
      rw [l_8, if_pos q4, l_0]
  unfold fX2_measure
  rw [if_pos (of_eq_true (lk_q hd))]
  unfold gX2_measure
  rw [l_0]
  refine lp_r (α := Nat → Nat → Int32) (fun n k J => fX2_measure_2 n (d + 12) (n2 g) (n2 k) (mk J L c t)) 8 (fun k J => (∀ j, j < k → J (d + 15) j = n2 (dst s g 1 j)) ∧ Fr I J (d + 15) (d + 16)) (fun r => ∃ I', r = some (n2 0, 0, mk I' L c t) ∧ DsW I' d (dst s g 8) ∧ Fr I I' (d + 15) (d + 16)) (fun n k J hk hi => Or.inr ?_) (fun n J hi => ?_) 8 0 qfu I (by omega) (by rw [qfu_eq]; omega) ⟨fun j hj => by omega, .rf _ _ _⟩
  · obtain ⟨i1, i2⟩ := hi
    have q3 : ¬ n2 8 ≤ n2 k := by rw [n2_le (by omega) (by omega)]; omega
    refine ⟨upI J (d + 15) k (n2 (dst s g 1 k)), ?_, fun j hj => ?_, i2.trans (.up (by omega) (by omega))⟩
    · show fX2_measure_2 (n + 1) (d + 12) (n2 g) (n2 k) (mk J L c t) = _
      rw [fX2_measure_2]
      dsimp only
      rw [l_8, if_neg q3, lk_P2 hd, qbnd_s, dst_1, l_0, l_1]
      by_cases e : k = g
      · rw [if_pos (by rw [e]), if_pos e, lk_S2 hd hk, qbnd_s, n2_add]
      · rw [if_neg (by rw [n2_eq (by omega) (by omega)]; exact e), if_neg e, lk_S2 hd hk, qbnd_s, n2_add]
    · by_cases e : j = k
      · subst e
        exact upI_eq
      · rw [upI_ni e]
        exact i1 j (by omega)
  · obtain ⟨i1, i2⟩ := hi
    have q4 : n2 8 ≤ n2 8 := by rw [n2_le (by omega) (by omega)]; exact Nat.le_refl _
    obtain ⟨I', r1, r2, r3⟩ := last J i1 i2
    refine ⟨I', ?_, r2, r3⟩
    show fX2_measure_2 (n + 1) (d + 12) (n2 g) (n2 8) (mk J L c t) = _
    rw [fX2_measure_2]
    dsimp only
    rw [l_8, if_pos q4, l_1]
    exact r1
end S7RG

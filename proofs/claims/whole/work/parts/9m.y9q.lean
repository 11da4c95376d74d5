/-! PURE SIDE, THE REFERENCE: a day -/
/-- where the acts of a day begin -/
def qps (tx : List Nat) : Nat → Nat
  | 0 => 0
  | k + 1 => qps tx k + (1 + (digsS (tx.getD (qps tx k) 0)).getD 0)
theorem qps_le (tx : List Nat) : ∀ k, k ≤ qps tx k
  | 0 => Nat.le_refl 0
  | k + 1 => by
    have := qps_le tx k
    show k + 1 ≤ qps tx k + (1 + (digsS (tx.getD (qps tx k) 0)).getD 0)
    omega
section S9Q
variable {I I' : Nat → Nat → Int32} {L : Nat → Nat → Int64} {c t r N T n : Nat} {s z s' s0 : St} {μ : qM} {h : List St} {kp : Nat → Option St} {tx tx' : List Nat} {row : List Int64} {cs : List Nat} {m p : Nat}
theorem x8_does [FB] (w : W8 I L z h kp tx' row cs) (hG : Gd N z) (hN : N < 900000000) {k q : Nat} (hk : k < 80) (hA : AE I tx k q) : ∃ I' a, fX8_does 210 (n2 k) (mk I L c t) = some (a, 0, mk I' L c t) ∧ (a < n2 0 ↔ (actT tx cs z q).1 < n2 0) ∧ W8 I' L (actT tx cs z q).2 h kp tx' row cs ∧ F9 I I' 217 := by
  obtain ⟨G, hG1⟩ := w.ga
  obtain ⟨sg, h1, h2, h3, h4, h5, h6, h7⟩ := hA
  have hB := gd_bd hG (show N < 1000000000 by omega)
  have d1 := digN_le tx (q + 1)
  have d2 := digN_le tx (q + 2)
  have d3 := digN_le tx (q + 3)
  have d4 := digN_le tx (q + 4)
  have hr : (217 : Nat) = 217 ∨ (217 : Nat) = 218 := .inl rfl
  have ne : ∀ a b, a < 8 → b < 8 → a ≠ b → ¬ n2 a = n2 b := fun a b ha hb hh => by rw [n2_eq (by omega) (by omega)]; exact hh
  have e : sg = 0 ∨ sg = 1 ∨ sg = 2 ∨ sg = 3 ∨ sg = 4 ∨ sg = 5 ∨ sg = 6 ∨ sg = 7 := by omega
  unfold fX8_does
  rw [if_pos (by rw [kk_210])]
  unfold gX8_does
  rw [g210_21, qbnd_s, ld222 hk, qbnd_s, g210_20, qbnd_s, ld221 hk, qbnd_s, h3, l_0, l_1, l_2, l_3, l_4, l_5, l_6]
  rcases e with rfl | rfl | rfl | rfl | rfl | rfl | rfl | rfl
  · have hch : tx.getD q 0 = 102 := h2.symm
    have hs : actT tx cs z q = (n2 (fellS 8 z cs).1.length, (fellS 8 z cs).2) := by unfold actT; rw [hch]; rfl
    obtain ⟨I2, G2, a1, a2, a2b, a3, a4⟩ := x8_fellsAll (L := L) (c := c) (t := t) hr w.nw hG1 hG hN w.cd
    rw [hs]
    refine ⟨I2, _, ?_, Iff.rfl, w.now a3 a2 a2b, a3⟩
    rw [if_pos rfl, g210_14, qbnd_s, a1, qbnd_s]
  · have hch : tx.getD q 0 = 98 := h2.symm
    have hs : actT tx cs z q = startS z (digN tx (q + 1)) := by unfold actT; rw [hch]; rfl
    obtain ⟨I2, a1, a2, a3⟩ := x8_beginsOne (L := L) (c := c) (t := t) hr w.nw hB (n2 (digN tx (q + 1)))
    rw [nIx_n (by omega)] at a1 a2
    rw [hs]
    refine ⟨I2, _, ?_, Iff.rfl, w.now a3.f8.f9 a2 (G := G) (by rw [a3 _ _ (by omega)]; exact hG1), a3.f8.f9⟩
    rw [if_neg (ne 1 0 (by omega) (by omega) (by omega)), if_pos rfl, g210_14, qbnd_s, h4 (by omega), a1, qbnd_s]
  · have hch : tx.getD q 0 = 101 := h2.symm
    have hs : actT tx cs z q = finishS z (digN tx (q + 1)) := by unfold actT; rw [hch]; rfl
    obtain ⟨I2, G2, a1, a2, a2b, a3⟩ := x8_endsOne (L := L) (c := c) (t := t) hr w.nw hG1 hG hN (n2 (digN tx (q + 1)))
    rw [nIx_n (by omega)] at a1 a2
    rw [hs]
    refine ⟨I2, _, ?_, Iff.rfl, w.now a3.f9 a2 a2b, a3.f9⟩
    rw [if_neg (ne 2 0 (by omega) (by omega) (by omega)), if_neg (ne 2 1 (by omega) (by omega) (by omega)), if_pos rfl, g210_14, qbnd_s, h4 (by omega), a1, qbnd_s]
  · have hch : tx.getD q 0 = 118 := h2.symm
    have hs : actT tx cs z q = setbS z (digN tx (q + 1)) := by unfold actT; rw [hch]; rfl
    obtain ⟨I2, a1, a2, a3⟩ := x8_bulksOne (L := L) (c := c) (t := t) hr w.nw hB (n2 (digN tx (q + 1)))
    rw [nIx_n (by omega)] at a1 a2
    rw [hs]
    refine ⟨I2, _, ?_, Iff.rfl, w.now a3.f8.f9 a2 (G := G) (by rw [a3 _ _ (by omega)]; exact hG1), a3.f8.f9⟩
    rw [if_neg (ne 3 0 (by omega) (by omega) (by omega)), if_neg (ne 3 1 (by omega) (by omega) (by omega)), if_neg (ne 3 2 (by omega) (by omega) (by omega)), if_pos rfl, g210_14, qbnd_s, h4 (by omega), a1, qbnd_s]
  · have hch : tx.getD q 0 = 119 := h2.symm
    have hs : actT tx cs z q = labourS z (digN tx (q + 1)) (digN tx (q + 2)) := by unfold actT; rw [hch]; rfl
    obtain ⟨I2, a1, a2, a3⟩ := x8_worksOne (L := L) (c := c) (t := t) hr w.nw hB (n2 (digN tx (q + 1))) (n2 (digN tx (q + 2)))
    rw [nIx_n (show digN tx (q + 1) < 2147483648 by omega), nIx_n (show digN tx (q + 2) < 2147483648 by omega)] at a1 a2
    rw [hs]
    refine ⟨I2, _, ?_, Iff.rfl, w.now a3.f8.f9 a2 (G := G) (by rw [a3 _ _ (by omega)]; exact hG1), a3.f8.f9⟩
    rw [if_neg (ne 4 0 (by omega) (by omega) (by omega)), if_neg (ne 4 1 (by omega) (by omega) (by omega)), if_neg (ne 4 2 (by omega) (by omega) (by omega)), if_neg (ne 4 3 (by omega) (by omega) (by omega)), if_pos rfl, g210_14, qbnd_s, g210_22, qbnd_s, ld223 hk, qbnd_s, h4 (by omega), h5 rfl, a1, qbnd_s]
  · have hch : tx.getD q 0 = 117 := h2.symm
    have hs : actT tx cs z q = unlockS z (digN tx (q + 1)) (10 * digN tx (q + 2) + digN tx (q + 3)) := by unfold actT; rw [hch]; rfl
    obtain ⟨I2, G2, a1, a2, a2b, a3⟩ := x8_unlocksOne (L := L) (c := c) (t := t) hr w.nw hG1 hG hN (n2 (digN tx (q + 1))) (n2 (10 * digN tx (q + 2) + digN tx (q + 3)))
    rw [nIx_n (show digN tx (q + 1) < 2147483648 by omega), nIx_n (show 10 * digN tx (q + 2) + digN tx (q + 3) < 2147483648 by omega)] at a1 a2
    rw [hs]
    refine ⟨I2, if (unlockS z (digN tx (q + 1)) (10 * digN tx (q + 2) + digN tx (q + 3))).1 < n2 0 then (unlockS z (digN tx (q + 1)) (10 * digN tx (q + 2) + digN tx (q + 3))).1 else n2 (woke z (unlockS z (digN tx (q + 1)) (10 * digN tx (q + 2) + digN tx (q + 3))).2), ?_, ?_, w.now a3.f9 a2 a2b, a3.f9⟩
    · rw [if_neg (ne 5 0 (by omega) (by omega) (by omega)), if_neg (ne 5 1 (by omega) (by omega) (by omega)), if_neg (ne 5 2 (by omega) (by omega) (by omega)), if_neg (ne 5 3 (by omega) (by omega) (by omega)), if_neg (ne 5 4 (by omega) (by omega) (by omega)), if_pos rfl, g210_14, qbnd_s, g210_22, qbnd_s, ld223 hk, qbnd_s, h4 (by omega), h6 (by omega), a1, qbnd_s]
    · by_cases f : (unlockS z (digN tx (q + 1)) (10 * digN tx (q + 2) + digN tx (q + 3))).1 < n2 0
      · rw [if_pos f]
      · rw [if_neg f]
        exact ⟨fun y => absurd y (woke_nn _ _), fun y => absurd y f⟩
  · have hch : tx.getD q 0 = 103 := h2.symm
    have hs : actT tx cs z q = collectS z (digN tx (q + 1)) (10 * digN tx (q + 2) + digN tx (q + 3)) := by unfold actT; rw [hch]; rfl
    obtain ⟨I2, G2, a1, a2, a2b, a3⟩ := x8_gathersAt (L := L) (c := c) (t := t) hr w.nw hG1 hG hN (n2 (digN tx (q + 1))) (n2 (10 * digN tx (q + 2) + digN tx (q + 3)))
    rw [nIx_n (show digN tx (q + 1) < 2147483648 by omega), nIx_n (show 10 * digN tx (q + 2) + digN tx (q + 3) < 2147483648 by omega)] at a1 a2
    rw [hs]
    refine ⟨I2, _, ?_, Iff.rfl, w.now a3.f9 a2 a2b, a3.f9⟩
    rw [if_neg (ne 6 0 (by omega) (by omega) (by omega)), if_neg (ne 6 1 (by omega) (by omega) (by omega)), if_neg (ne 6 2 (by omega) (by omega) (by omega)), if_neg (ne 6 3 (by omega) (by omega) (by omega)), if_neg (ne 6 4 (by omega) (by omega) (by omega)), if_neg (ne 6 5 (by omega) (by omega) (by omega)), if_pos rfl, g210_14, qbnd_s, g210_22, qbnd_s, ld223 hk, qbnd_s, h4 (by omega), h6 (by omega), a1, qbnd_s]
  · have hch : tx.getD q 0 = 108 := h2.symm
    have hs : actT tx cs z q = lockS z (digN tx (q + 1)) (10 * digN tx (q + 2) + digN tx (q + 3)) (digN tx (q + 4)) := by unfold actT; rw [hch]; rfl
    obtain ⟨y, hy⟩ : ∃ y, lockS z (digN tx (q + 1)) (10 * digN tx (q + 2) + digN tx (q + 3)) (digN tx (q + 4)) = y := ⟨_, rfl⟩
    obtain ⟨I2, G2, a1, a2, a2b, a2c, a3⟩ := x8_locksOne (L := L) (c := c) (t := t) hr w.nw hG1 hG hN (n2 (digN tx (q + 1))) (n2 (10 * digN tx (q + 2) + digN tx (q + 3))) (n2 (digN tx (q + 4))) (q := y) (by rw [nIx_n (by omega), nIx_n (by omega), nIx_n (by omega)]; exact hy)
    rw [hs, hy]
    refine ⟨I2, if y.1 < n2 0 then y.1 else if y.1 = n2 0 then n2 0 else n2 1, ?_, ?_, w.now a3.f9 a2 a2b, a3.f9⟩
    · rw [if_neg (ne 7 0 (by omega) (by omega) (by omega)), if_neg (ne 7 1 (by omega) (by omega) (by omega)), if_neg (ne 7 2 (by omega) (by omega) (by omega)), if_neg (ne 7 3 (by omega) (by omega) (by omega)), if_neg (ne 7 4 (by omega) (by omega) (by omega)), if_neg (ne 7 5 (by omega) (by omega) (by omega)), if_neg (ne 7 6 (by omega) (by omega) (by omega)), g210_14, qbnd_s, g210_22, qbnd_s, ld223 hk, qbnd_s, g210_23, qbnd_s, ld224 hk, qbnd_s, h4 (by omega), h6 (by omega), h7 rfl, a1, qbnd_s]
    · by_cases f : y.1 < n2 0
      · rw [if_pos f]
      · rw [if_neg f]
        refine ⟨fun g => ?_, fun g => absurd g f⟩
        exfalso
        revert g
        split <;> decide
/-- what a day tells -/
theorem day_end [FB] (w : W8 I L z h kp tx' row cs) (mk8 : Mk8 I h s) (hG : Gd N z) (hN : N < 900000000) {dn A : Nat} (hd : dn ≤ A) (hA : A < 100) (h24 : I 210 24 = n2 A) : ∃ I' L', fX8_day_37 210 (n2 dn) (mk I L c t) = some (n2 dn, 0, mk I' L' c t) ∧ W8 I' L' z (if dn = 0 then h else pushH h s) kp tx' [(n2 (bn (decide (dn < A)))).toInt64, (n2 (bits8 fun o => decide (z 85 o = 2))).toInt64] cs ∧ Fy I I' := by
  have hr : (217 : Nat) = 217 ∨ (217 : Nat) = 218 := .inl rfl
  have hB := gd_bd hG (show N < 1000000000 by omega)
  obtain ⟨I1, L1, I2, L2, o1, p1, o2, p2, p3, o4, p4⟩ := x8_two (c := c) (t := t) w (n2 (bn (decide (dn < A)))).toInt64 (n2 (bits8 fun o => decide (z 85 o = 2))).toInt64
  have e48 : ∀ b : Bool, b = decide (dn < A) → fX8_day_48 210 (n2 dn) (n2 (bn b)) 210 (mk (upI I 210 1 (n2 0)) L c t) = if n2 dn ≤ n2 0 then some (n2 0, 0, mk I2 L2 c t) else qbnd (fX8_adds 210 (n2 dn) (mk I2 L2 c t)) fun r6 => some (r6.1, 0, r6.2.2) := by
    intro b hb
    subst hb
    unfold fX8_day_48
    rw [x8_flag, qbnd_s]
    dsimp only
    rw [o1, qbnd_s]
    dsimp only
    rw [g210_14, qbnd_s, l_2, x8_so hr o2.nw hB (Nat.le_refl 2), qbnd_s]
    dsimp only
    rw [p1, qbnd_s, l_0]
  have e37 : fX8_day_37 210 (n2 dn) (mk I L c t) = if n2 dn ≤ n2 0 then some (n2 0, 0, mk I2 L2 c t) else qbnd (fX8_adds 210 (n2 dn) (mk I2 L2 c t)) fun r6 => some (r6.1, 0, r6.2.2) := by
    unfold fX8_day_37
    rw [l_0, u210_1, qbnd_s, g210_24, qbnd_s, show (upI I 210 1 (n2 0)) 210 24 = n2 A from (upI_ni (by omega)).trans h24, l_1]
    by_cases e : A ≤ dn
    · rw [if_pos (by rw [n2_le (by omega) (by omega)]; exact e)]
      exact e48 false (decide_eq_false (by omega)).symm
    · rw [if_neg (by rw [n2_le (by omega) (by omega)]; exact e)]
      exact e48 true (decide_eq_true (by omega)).symm
  rw [e37]
  by_cases e : dn = 0
  · rw [if_pos (by rw [e]; decide)]
    exact ⟨I2, L2, by rw [e], by rw [if_pos e]; exact p2, p3⟩
  · have m2 : Mk8 I2 h s := mk8.on fun i => p4 _ _ (by omega)
    obtain ⟨I3, a1, a2, a3⟩ := x8_adds (L := L2) (c := c) (t := t) p2 m2 (n2 dn)
    refine ⟨I3, L2, ?_, by rw [if_neg e]; exact a2, p3.trans fun b i hb => a3 b i (by omega) (by omega)⟩
    rw [if_neg (by rw [n2_le (by omega) (by omega)]; omega), a1, qbnd_s]
theorem day_acts [FB] {J : Nat → Nat → Int32} (w : W8 J L s h kp tx' row cs) (mk8 : Mk8 J h s) (hG : Gd N s) (hN : N < 899999000) {A : Nat} (hA : A ≤ 80) (h24 : J 210 24 = n2 A) (hAE : ∀ i, i < A → AE J tx i (qps tx i)) (hq : qps tx A = tx.length) (hlt : ∀ i, i < A → qps tx i < tx.length) : ∃ I' L', fX8_day_27 qfu 210 (n2 0) (mk J L c t) = some (n2 (dayS tx cs 81 0 s).1, 0, mk I' L' c t) ∧ W8 I' L' (dayS tx cs 81 0 s).2.2 (if (dayS tx cs 81 0 s).1 = 0 then h else pushH h s) kp tx' [(n2 (bn (dayS tx cs 81 0 s).2.1)).toInt64, (n2 (bits8 fun o => decide ((dayS tx cs 81 0 s).2.2 85 o = 2))).toInt64] cs ∧ Fy J I' := by
  obtain ⟨fin, hfin⟩ : ∃ fin, dayS tx cs 81 0 s = fin := ⟨_, rfl⟩
  rw [hfin]
  refine lp_rk (α := (Nat → Nat → Int32) × St) (fun f k y => fX8_day_27 f 210 (n2 k) (mk y.1 L c t)) A (fun k y => W8 y.1 L y.2 h kp tx' row cs ∧ Mk8 y.1 h s ∧ Gd (N + 4 * k) y.2 ∧ Fy J y.1 ∧ y.1 210 24 = n2 A ∧ (∀ i, i < A → AE y.1 tx i (qps tx i)) ∧ fin = (k + (dayS tx cs (81 - k) (qps tx k) y.2).1, (dayS tx cs (81 - k) (qps tx k) y.2).2)) (fun q => ∃ I' L', q = some (n2 fin.1, 0, mk I' L' c t) ∧ W8 I' L' fin.2.2 (if fin.1 = 0 then h else pushH h s) kp tx' [(n2 (bn fin.2.1)).toInt64, (n2 (bits8 fun o => decide (fin.2.2 85 o = 2))).toInt64] cs ∧ Fy J I') (k0 := 0) (Nat.zero_le _) (by omega) (J, s) ⟨w, mk8, hG, .rf _, h24, hAE, by rw [← hfin, Nat.zero_add]; rfl⟩ (fun f k y _ hk hi => ?_) (fun f y hi => ?_)
  · obtain ⟨K, z⟩ := y
    obtain ⟨i1, i2, i3, i4, i5, i6, i7⟩ := hi
    dsimp only at i1 i2 i3 i4 i5 i6 i7
    obtain ⟨K2, a, b1, b2, b3, b4⟩ := x8_does (c := c) (t := t) i1 i3 (by omega) (show k < 80 by omega) (i6 k hk)
    have hgd : Gd (N + 4 * (k + 1)) (actT tx cs z (qps tx k)).2 := by
      have := gd_act (cs := cs) (g := tx.getD (qps tx k) 0) (a := digN tx (qps tx k + 1)) (b := if tx.getD (qps tx k) 0 = 119 then digN tx (qps tx k + 2) else 10 * digN tx (qps tx k + 2) + digN tx (qps tx k + 3)) (m := digN tx (qps tx k + 4)) i3 (by omega)
      exact this.mono (by omega)
    have hq1 := hlt k hk
    rw [show 81 - k = (80 - k) + 1 by omega] at i7
    rw [dayS, if_neg (by omega)] at i7
    have k24 : K2 210 24 = n2 A := (b4 _ _ (by omega) (by omega) (by omega) (by omega) (by omega)).trans i5
    have kAE : ∀ i, i < A → AE K2 tx i (qps tx i) := fun i hi => (i6 i hi).on fun b hb => b4 _ _ (by omega) (by omega) (by omega) (by omega) (by omega)
    have kF : Fy J K2 := i4.trans (b4.v (.inl rfl))
    have km := b4.m8 i2
    have head : fX8_day_27 (f + 1) 210 (n2 k) (mk K L c t) = if a < n2 0 then fX8_day_37 210 (n2 k) (mk K2 L c t) else fX8_day_27 f 210 (n2 (k + 1)) (mk K2 L c t) := by
      rw [fX8_day_27]
      dsimp only
      rw [g210_24, qbnd_s, i5, if_neg (by rw [n2_le (by omega) (by omega)]; omega), b1, qbnd_s, l_0, l_1, n2_add]
    show (∃ I' L', fX8_day_27 (f + 1) 210 (n2 k) (mk K L c t) = _ ∧ _) ∨ ∃ a', fX8_day_27 (f + 1) 210 (n2 k) (mk K L c t) = _ ∧ _
    rw [head]
    by_cases e : a < n2 0
    · left
      rw [if_pos (b2.mp e)] at i7
      obtain ⟨I3, L3, c1, c2, c3⟩ := day_end (c := c) (t := t) b3 km hgd (by omega) (show k ≤ A by omega) (by omega) k24
      rw [decide_eq_true hk] at c2
      refine ⟨I3, L3, ?_, ?_, kF.trans c3⟩
      · rw [if_pos e, c1, i7]
        rfl
      · rw [i7]
        exact c2
    · right
      rw [if_neg (fun y => e (b2.mpr y))] at i7
      refine ⟨(K2, (actT tx cs z (qps tx k)).2), ?_, b3, km, hgd, kF, k24, kAE, ?_⟩
      · rw [if_neg e]
      · rw [i7]
        have hq : qps tx (k + 1) = qps tx k + (1 + (digsS (tx.getD (qps tx k) 0)).getD 0) := rfl
        rw [hq, show 81 - (k + 1) = 80 - k by omega]
        exact Prod.ext (by dsimp only; omega) rfl
  · obtain ⟨K, z⟩ := y
    obtain ⟨i1, i2, i3, i4, i5, i6, i7⟩ := hi
    dsimp only at i1 i2 i3 i4 i5 i6 i7
    rw [show 81 - A = (80 - A) + 1 by omega, dayS, if_pos (by omega)] at i7
    obtain ⟨I3, L3, c1, c2, c3⟩ := day_end (c := c) (t := t) i1 i2 i3 (by omega) (Nat.le_refl A) (by omega) i5
    rw [decide_eq_false (Nat.lt_irrefl A)] at c2
    refine ⟨I3, L3, ?_, ?_, i4.trans c3⟩
    · show fX8_day_27 (f + 1) 210 (n2 A) (mk K L c t) = _
      rw [fX8_day_27]
      dsimp only
      rw [g210_24, qbnd_s, i5, if_pos (by rw [n2_le (by omega) (by omega)]; exact Nat.le_refl _), c1, i7]
      rfl
    · rw [i7]
      exact c2
theorem y8_day [FB] (w : W8 I L s h kp tx row cs) (hG : Gd N s) (hN : N < 899999000) : ∃ I' L', fX8_day 210 (mk I L c t) = some (match widS tx tx.length 0 0 with
  | some p => -n2 1 - n2 p
  | none => n2 (dayS tx cs 81 0 s).1, 0, mk I' L' c t) ∧ W8 I' L' (match widS tx tx.length 0 0 with
  | some _ => s
  | none => (dayS tx cs 81 0 s).2.2) (match widS tx tx.length 0 0 with
  | some _ => h
  | none => if (dayS tx cs 81 0 s).1 = 0 then h else pushH h s) kp [] (match widS tx tx.length 0 0 with
  | some _ => row
  | none => [(n2 (bn (dayS tx cs 81 0 s).2.1)).toInt64, (n2 (bits8 fun o => decide ((dayS tx cs 81 0 s).2.2 85 o = 2))).toInt64]) cs ∧ Fy I I' := by
  have w1 := w.sc (thr0 (I := I))
  have h80 := w1.te.2.1
  obtain ⟨I1, a1, a2, a3, a4, a5, a6⟩ := x8_reads (c := c) (t := t) w1 (M := 80) (by omega)
  rw [if_neg (by omega)] at a3
  obtain ⟨J, hJ⟩ : ∃ J, upI I1 210 24 (n2 0) = J := ⟨_, rfl⟩
  have fJ : Fs I1 J := by rw [← hJ]; exact Fs.up2 (by omega)
  have wJ := a2.sc fJ
  have hRJ : Rg J tx tx.length 0 := by rw [← hJ]; exact a3.on (fun i => upI_ne (by omega)) (upI_ni (by omega)) (upI_ni (by omega))
  have hJ24 : J 210 24 = n2 0 := by rw [← hJ, upI_eq]
  have hFJ : Fy I J := (thr0.v.trans a5).trans fJ.v
  have e0 : fX8_day 210 (mk I L c t) = fX8_day_10 qfu 210 (mk J L c t) := by
    unfold fX8_day
    rw [if_pos (by rw [kk_210])]
    unfold gX8_day
    rw [l_0, u210_0, qbnd_s, l_80, a1, qbnd_s]
    dsimp only
    rw [u210_24, qbnd_s, hJ]
  rw [e0]
  refine lp_rk (α := Nat → Nat → Int32) (fun f k K => fX8_day_10 f 210 (mk K L c t)) 81 (fun k K => W8 K L s h kp [] row cs ∧ Rg K tx tx.length (qps tx k) ∧ K 210 24 = n2 k ∧ (∀ i, i < k → AE K tx i (qps tx i)) ∧ (∀ i, i < k → qps tx i < tx.length) ∧ widS tx (tx.length - qps tx k) 0 (qps tx k) = widS tx tx.length 0 0 ∧ Fy I K) (fun q => ∃ I' L', q = some (match widS tx tx.length 0 0 with
  | some p => -n2 1 - n2 p
  | none => n2 (dayS tx cs 81 0 s).1, 0, mk I' L' c t) ∧ W8 I' L' (match widS tx tx.length 0 0 with
  | some _ => s
  | none => (dayS tx cs 81 0 s).2.2) (match widS tx tx.length 0 0 with
  | some _ => h
  | none => if (dayS tx cs 81 0 s).1 = 0 then h else pushH h s) kp [] (match widS tx tx.length 0 0 with
  | some _ => row
  | none => [(n2 (bn (dayS tx cs 81 0 s).2.1)).toInt64, (n2 (bits8 fun o => decide ((dayS tx cs 81 0 s).2.2 85 o = 2))).toInt64]) cs ∧ Fy I I') (k0 := 0) (by omega) (by omega) J ⟨wJ, hRJ, hJ24, fun i hi => absurd hi (Nat.not_lt_zero i), fun i hi => absurd hi (Nat.not_lt_zero i), by show widS tx (tx.length - 0) 0 0 = _; rw [Nat.sub_zero], hFJ⟩ (fun f k K _ hk hi => ?_) (fun f K hi => ?_)
  · obtain ⟨i1, i2, i3, i4, i5, i6, i7⟩ := hi
    have hpm := i2.2.2.2.1
    have hkq := qps_le tx k
    have head : fX8_day_10 (f + 1) 210 (mk K L c t) = if tx.length ≤ qps tx k then (qbnd (fX8_putsBy 210 (mk K L c t)) fun r3 => fX8_day_27 qfu 210 (n2 0) r3.2.2) else (qbnd (fX8_readsAct 210 (mk K L c t)) fun r4 => if r4.1 = n2 0 then qbnd (oGetI r4.2.2 8 210 5) fun v5 => some ((-n2 1 - v5), 0, r4.2.2) else fX8_day_10 f 210 r4.2.2) := by
      rw [fX8_day_10]
      dsimp only
      rw [g210_5, qbnd_s, g210_6, qbnd_s, i2.2.2.2.2.1, i2.2.2.2.2.2, l_0, l_1]
      by_cases e : tx.length ≤ qps tx k
      · rw [if_pos (by rw [n2_le (by omega) (by omega)]; exact e), if_pos e]
      · rw [if_neg (by rw [n2_le (by omega) (by omega)]; exact e), if_neg e]
    show (_ : Prop) ∨ ∃ a', fX8_day_10 (f + 1) 210 (mk K L c t) = _ ∧ _
    rw [head]
    by_cases e : tx.length ≤ qps tx k
    · left
      have hq : qps tx k = tx.length := by omega
      have hw : widS tx tx.length 0 0 = none := by
        rw [← i6, hq, Nat.sub_self]
        rfl
      obtain ⟨I2, b1, b2, b3, b4⟩ := x8_putsBy (c := c) (t := t) i1
      obtain ⟨I3, L3, c1, c2, c3⟩ := day_acts (c := c) (t := t) b2 b3 hG hN (show k ≤ 80 by omega) ((b4 _ _ (by omega)).trans i3) (fun i hi => (i4 i hi).on fun b hb => b4 _ _ (by omega)) hq i5
      rw [hw]
      refine ⟨I3, L3, ?_, c2, (i7.trans fun b i hb => b4 b i (by omega)).trans c3⟩
      rw [if_pos e, b1, qbnd_s]
      exact c1
    · obtain ⟨I2, p', ok, b1, b2, b3, b4, b5, b6⟩ := x8_readsAct (L := L) (c := c) (t := t) rfl i2 (by omega) (show k < 80 by omega) i3
      rw [if_neg e, b1, qbnd_s]
      dsimp only
      cases ok with
      | false =>
        left
        have hw : widS tx tx.length 0 0 = some p' := by rw [← i6]; exact b6 rfl
        rw [hw]
        refine ⟨I2, L, ?_, i1.sc b3.s, i7.trans b3.s.v⟩
        rw [if_pos no_zero, g210_5, qbnd_s, b2.2.2.2.2.2]
      | true =>
        right
        obtain ⟨y1, y2, y3⟩ := b5 rfl
        have hps : qps tx (k + 1) = p' := y1.symm
        refine ⟨I2, ?_, i1.sc b3.s, by rw [hps]; exact b2, b4, fun i hi => ?_, fun i hi => ?_, by rw [hps, ← y2]; exact i6, i7.trans b3.s.v⟩
        · rw [if_neg yes_zero]
        · by_cases z : i = k
          · rw [z]; exact y3
          · exact (i4 i (by omega)).on fun b hb => b3 _ _ (by omega) (by omega)
        · by_cases z : i = k
          · rw [z]; omega
          · exact i5 i (by omega)
  · obtain ⟨i1, i2, -⟩ := hi
    have hpm := i2.2.2.2.1
    have hkq := qps_le tx 81
    omega
end S9Q

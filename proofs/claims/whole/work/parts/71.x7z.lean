/-! PURE SIDE, THE CLASS: a day -/
theorem digN_le (tx : List Nat) (p : Nat) : digN tx p ≤ 9 := by
  unfold digN
  split
  · rename_i h
    unfold isd at h
    rw [Bool.and_eq_true, decide_eq_true_eq, decide_eq_true_eq] at h
    omega
  · omega
def actT (tx : List Nat) (cs : List Nat) (z : St) (p : Nat) : Int32 × St := actS z cs (tx.getD p 0) (digN tx (p + 1)) (if tx.getD p 0 = 119 then digN tx (p + 2) else 10 * digN tx (p + 2) + digN tx (p + 3)) (digN tx (p + 4))
/-- how many acts are done, whether one was refused, and what is then -/
def dayS (tx : List Nat) (cs : List Nat) : Nat → Nat → St → Nat × Bool × St
  | 0, _, z => (0, false, z)
  | n + 1, p, z => if tx.length ≤ p then (0, false, z) else if (actT tx cs z p).1 < n2 0 then (0, true, (actT tx cs z p).2) else
    ((dayS tx cs n (p + (1 + (digsS (tx.getD p 0)).getD 0)) (actT tx cs z p).2).1 + 1, (dayS tx cs n (p + (1 + (digsS (tx.getD p 0)).getD 0)) (actT tx cs z p).2).2)
theorem day_le (tx : List Nat) (cs : List Nat) : ∀ n p z, (dayS tx cs n p z).1 ≤ n := by
  intro n
  induction n with
  | zero => intro p z; exact Nat.le_refl 0
  | succ n ih =>
    intro p z
    unfold dayS
    split
    · exact Nat.zero_le _
    split
    · exact Nat.zero_le _
    · exact Nat.succ_le_succ (ih _ _)
theorem gd_day {N : Nat} {tx cs : List Nat} : ∀ (n p : Nat) (z : St), Gd N z → N + 4 * n < 900000000 → Gd (N + 4 * n) (dayS tx cs n p z).2.2 := by
  intro n
  induction n generalizing N with
  | zero => intro p z h _; exact h
  | succ n ih =>
    intro p z h hN
    have hN0 : N < 900000000 := by omega
    have ha : Gd (N + 4) (actT tx cs z p).2 := by
      unfold actT
      exact gd_act h hN0
    unfold dayS
    split
    · exact h.mono (by omega)
    split
    · exact ha.mono (by omega)
    · have := ih (N := N + 4) (p + (1 + (digsS (tx.getD p 0)).getD 0)) _ ha (by omega)
      rw [show N + 4 * (n + 1) = N + 4 + 4 * n by omega]
      exact this
section S7DY
variable {I : Nat → Nat → Int32} {L : Nat → Nat → Int64} {c t N : Nat} {s z s0 : St} {h : List St} {kp : Nat → Option St} {tx : List Nat} {row : List Int64} {cs : List Nat} {μ : qM}
theorem digs_max (g : Nat) : (if n2 0 < oi (digsS g) then oi (digsS g) else n2 0) = n2 ((digsS g).getD 0) := by
  cases hd : digsS g with
  | none => exact if_neg (by decide +kernel)
  | some k =>
    have := digsS_le hd
    show (if n2 0 < n2 k then n2 k else n2 0) = n2 k
    by_cases e : k = 0
    · subst e
      rw [if_neg (by decide +kernel)]
    · rw [if_pos (by rw [n2_lt (by omega) (by omega)]; omega)]
theorem dy_88 {k26 : Nat → Int32 → Int32 → Int32 → qM → Option qR} (hT : TeW I tx) {p : Nat} (hp : p < 1000) (x y : Int32) : fX7_day_88 k26 1 x y (n2 p) (mk I L c t) = k26 1 x y (n2 (p + (1 + (digsS (tx.getD p 0)).getD 0))) (mk I L c t) := by
  have hlt := tx_lt hT p
  unfold fX7_day_88
  rw [g1_6, qbnd_s, x6_at hT (by omega), qbnd_s]
  dsimp only
  rw [x6_digitsOf (by omega), qbnd_s]
  dsimp only
  rw [l_0, digs_max, l_1, n2_add, n2_add]
theorem dy_act {k26 : Nat → Int32 → Int32 → Int32 → qM → Option qR} [FB] (hW : W7 I L z h kp tx row cs) (hM : HiM I h s0) (hG : Gd N z) (hN : N < 900000000) {p dn : Nat} (hp : p < 1000) : ∃ I', fX7_day_63 k26 1 (n2 dn) (n2 0) (n2 p) (n2 (tx.getD p 0)) (n2 (if tx.getD p 0 = 119 then digN tx (p + 2) else 10 * digN tx (p + 2) + digN tx (p + 3))) (mk I L c t) = (if (actT tx cs z p).1 < n2 0 then k26 1 (n2 dn) (n2 1) (n2 (p + (1 + (digsS (tx.getD p 0)).getD 0))) (mk I' L c t) else k26 1 (n2 (dn + 1)) (n2 0) (n2 (p + (1 + (digsS (tx.getD p 0)).getD 0))) (mk I' L c t)) ∧ W7 I' L (actT tx cs z p).2 h kp tx row cs ∧ HiM I' h s0 ∧ Fw I I' := by
  have hlt := tx_lt hW.te p
  have d1 := digN_le tx (p + 1)
  have d2 := digN_le tx (p + 2)
  have d3 := digN_le tx (p + 3)
  have d4 := digN_le tx (p + 4)
  obtain ⟨y, hy⟩ : ∃ y, (if tx.getD p 0 = 119 then digN tx (p + 2) else 10 * digN tx (p + 2) + digN tx (p + 3)) = y := ⟨_, rfl⟩
  have hyl : y < 1000 := by
    rw [← hy]
    split <;> omega
  have ha : actT tx cs z p = actS z cs (tx.getD p 0) (digN tx (p + 1)) y (digN tx (p + 4)) := by rw [← hy]; rfl
  rw [hy, ha]
  obtain ⟨I1, r1, r2, r3⟩ := x0_act (L := L) (c := c) (t := t) (show 2 ∈ dkl by decide) (show 202 ∈ rul by decide) hW.dw hG hN hW.ru (show tx.getD p 0 < 2147483648 by omega) (show digN tx (p + 1) < 2147483648 by omega) (show y < 2147483648 by omega) (show digN tx (p + 4) < 2147483648 by omega)
  have w1 := hW.desk r3 r2
  refine ⟨I1, ?_, w1, hM.q r3, r3.w (by decide)⟩
  unfold fX7_day_63
  rw [g1_0, qbnd_s, g1_6, qbnd_s, l_1, n2_add, x6_digit hW.te (by omega), qbnd_s]
  dsimp only
  rw [g1_6, qbnd_s, l_4, n2_add, x6_digit hW.te (by omega), qbnd_s]
  dsimp only
  rw [g1_8, qbnd_s, r1, qbnd_s]
  dsimp only
  rw [dy_88 w1.te hp, dy_88 w1.te hp, n2_add, l_0]
  by_cases e : (actS z cs (tx.getD p 0) (digN tx (p + 1)) y (digN tx (p + 4))).1 < n2 0
  · rw [if_pos e, if_neg (Int32.not_le.mpr e)]
  · rw [if_neg e, if_pos (Int32.not_lt.mp e)]
theorem dy_loop [FB] : ∀ (n f p dn N : Nat) (I : Nat → Nat → Int32) (z : St), tx.length < p + n → n < f → p < 900 → N + 4 * n < 900000000 → W7 I L z h kp tx row cs → HiM I h s0 → Gd N z → ∃ I', fX7_day_26 f 1 (n2 dn) (n2 0) (n2 p) (mk I L c t) = fX7_day_101 1 (n2 (dn + (dayS tx cs n p z).1)) (n2 (bn (dayS tx cs n p z).2.1)) (mk I' L c t) ∧ W7 I' L (dayS tx cs n p z).2.2 h kp tx row cs ∧ HiM I' h s0 ∧ Fw I I' := by
  intro n
  induction n with
  | zero =>
    intro f p dn N I z hp hf hp9 hN hW hM hG
    obtain ⟨f', rfl⟩ : ∃ f', f = f' + 1 := ⟨f - 1, by omega⟩
    have hl := hW.te.2.1
    refine ⟨I, ?_, hW, hM, .rf I⟩
    rw [fX7_day_26]
    dsimp only
    rw [g1_6, qbnd_s, g198_1, qbnd_s, hW.te.1, if_pos (by rw [n2_le (by omega) (by omega)]; omega)]
    rfl
  | succ n ih =>
    intro f p dn N I z hp hf hp9 hN hW hM hG
    obtain ⟨f', rfl⟩ : ∃ f', f = f' + 1 := ⟨f - 1, by omega⟩
    have hl := hW.te.2.1
    by_cases e : tx.length ≤ p
    · have hd : dayS tx cs (n + 1) p z = (0, false, z) := by
        unfold dayS
        rw [if_pos e]
      rw [hd]
      refine ⟨I, ?_, hW, hM, .rf I⟩
      rw [fX7_day_26]
      dsimp only
      rw [g1_6, qbnd_s, g198_1, qbnd_s, hW.te.1, if_pos (by rw [n2_le (by omega) (by omega)]; omega)]
      rfl
    · have hlt := tx_lt hW.te p
      obtain ⟨I1, r1, r2, r3, r4⟩ := dy_act (k26 := fX7_day_26 f') (dn := dn) (L := L) (c := c) (t := t) hW hM hG (by omega) (show p < 1000 by omega)
      have head : fX7_day_26 (f' + 1) 1 (n2 dn) (n2 0) (n2 p) (mk I L c t) = fX7_day_63 (fX7_day_26 f') 1 (n2 dn) (n2 0) (n2 p) (n2 (tx.getD p 0)) (n2 (if tx.getD p 0 = 119 then digN tx (p + 2) else 10 * digN tx (p + 2) + digN tx (p + 3))) (mk I L c t) := by
        rw [fX7_day_26]
        dsimp only
        rw [g1_6, qbnd_s, g198_1, qbnd_s, hW.te.1, if_neg (by rw [n2_le (by omega) (by omega)]; exact e), l_0, if_pos rfl, qbnd_s, x6_at hW.te (by omega), qbnd_s]
        dsimp only
        rw [l_119, l_2, l_3, l_10, n2_add, n2_add]
        by_cases e2 : tx.getD p 0 = 119
        · rw [if_pos (by rw [e2]), if_pos e2, g1_6, qbnd_s, x6_digit hW.te (by omega), qbnd_s]
        · rw [if_neg (by rw [n2_eq (by omega) (by omega)]; exact e2), if_neg e2, g1_6, qbnd_s, x6_digit hW.te (by omega), qbnd_s]
          dsimp only
          rw [g1_6, qbnd_s, x6_digit hW.te (by omega), qbnd_s]
          dsimp only
          rw [n2_mul, n2_add]
      rw [head, r1]
      have hdg : (digsS (tx.getD p 0)).getD 0 ≤ 4 := by
        cases hd : digsS (tx.getD p 0) with
        | none => exact Nat.zero_le _
        | some k => exact digsS_le hd
      generalize hq : p + (1 + (digsS (tx.getD p 0)).getD 0) = q at *
      by_cases e3 : (actT tx cs z p).1 < n2 0
      · have hd : dayS tx cs (n + 1) p z = (0, true, (actT tx cs z p).2) := by
          unfold dayS
          rw [if_neg e, if_pos e3]
        rw [hd, if_pos e3]
        refine ⟨I1, ?_, r2, r3, r4⟩
        obtain ⟨f'', rfl⟩ : ∃ f'', f' = f'' + 1 := ⟨f' - 1, by omega⟩
        rw [fX7_day_26]
        dsimp only
        rw [g1_6, qbnd_s, g198_1, qbnd_s, r2.te.1]
        by_cases e4 : tx.length ≤ q
        · rw [if_pos (by rw [n2_le (by omega) (by omega)]; exact e4)]
          rfl
        · rw [if_neg (by rw [n2_le (by omega) (by omega)]; exact e4), l_0, if_neg (by decide +kernel)]
          rfl
      · have hd : dayS tx cs (n + 1) p z = ((dayS tx cs n q (actT tx cs z p).2).1 + 1, (dayS tx cs n q (actT tx cs z p).2).2) := by
          rw [← hq]
          conv => lhs; unfold dayS
          rw [if_neg e, if_neg e3]
        rw [hd, if_neg e3]
        obtain ⟨I2, a1, a2, a3, a4⟩ := ih f' q (dn + 1) (N + 4) I1 (actT tx cs z p).2 (by omega) (by omega) (by omega) (by omega) r2 r3 (gd_act hG (by omega))
        refine ⟨I2, ?_, a2, a3, r4.trans a4⟩
        rw [a1]
        dsimp only
        rw [show dn + 1 + (dayS tx cs n q (actT tx cs z p).2).1 = dn + ((dayS tx cs n q (actT tx cs z p).2).1 + 1) by omega]
theorem x7_day [FB] (hW : W7 I L s h kp tx row cs) (hG : Gd N s) (hN : N < 899999000) : ∃ I' L', fX7_day 1 (mk I L c t) = some (match widS tx tx.length 0 0 with
  | some p => -n2 1 - n2 p
  | none => n2 (dayS tx cs 81 0 s).1, 0, mk I' L' c t) ∧ W7 I' L' (match widS tx tx.length 0 0 with
  | some _ => s
  | none => (dayS tx cs 81 0 s).2.2) (match widS tx tx.length 0 0 with
  | some _ => h
  | none => if (dayS tx cs 81 0 s).1 = 0 then h else pushH h s) kp [] (match widS tx tx.length 0 0 with
  | some _ => row
  | none => [(n2 (bn (dayS tx cs 81 0 s).2.1)).toInt64, (n2 (bits8 fun o => decide ((dayS tx cs 81 0 s).2.2 85 o = 2))).toInt64]) cs ∧ Fw I I' := by
  have hl := hW.te.2.1
  have b0 := x6_wrongInDay (L := L) (c := c) (t := t) hW.te
  have hw : ∀ (n dg p : Nat), p + n ≤ tx.length → ∀ q, widS tx n dg p = some q → q ≤ tx.length := by
    intro n
    induction n with
    | zero =>
      intro dg p hp q hq
      unfold widS at hq
      split at hq
      · cases hq
      · cases hq; omega
    | succ n ih =>
      intro dg p hp q hq
      unfold widS at hq
      split at hq
      · split at hq
        · cases hq; omega
        · exact ih _ _ (by omega) q hq
      · split at hq
        · exact ih _ _ (by omega) q hq
        · cases hq; omega
  have tclr : ∀ {I1 : Nat → Nat → Int32} {L1 : Nat → Nat → Int64} {z : St} {h1 : List St} {row1 : List Int64}, W7 I1 L1 z h1 kp tx row1 cs → W7 (upI I1 198 1 (n2 0)) L1 z h1 kp [] row1 cs ∧ Fr I1 (upI I1 198 1 (n2 0)) 198 200 := fun {I1 L1 z h1 row1} w => by
    have hF : Fr I1 (upI I1 198 1 (n2 0)) 198 200 := .up (by omega) (by omega)
    exact ⟨w.texted hF (te_take w.te (Nat.zero_le _)), hF⟩
  cases hd : widS tx tx.length 0 0 with
  | some p =>
    have hp := hw tx.length 0 0 (by omega) p hd
    rw [hd] at b0
    have b1 : fX6_wrongInDay 198 (mk I L c t) = some (n2 p, 0, mk I L c t) := b0
    obtain ⟨w1, f1⟩ := tclr hW
    refine ⟨upI I 198 1 (n2 0), L, ?_, w1, f1.w (by omega)⟩
    unfold fX7_day
    rw [if_pos (by rw [kk_1])]
    unfold gX7_day
    rw [g1_6, qbnd_s, b1, qbnd_s]
    dsimp only
    rw [l_1, if_neg (by rw [n2_eqm (by omega)]; exact not_false), g1_6, qbnd_s, l_0, u198_1, qbnd_s]
  | none =>
    rw [hd] at b0
    have b1 : fX6_wrongInDay 198 (mk I L c t) = some (-n2 1, 0, mk I L c t) := b0
    obtain ⟨I1, m1, m2, m3, m4⟩ := w7_mark (c := c) (t := t) hW
    obtain ⟨I2, a1, a2, a3, a4⟩ := dy_loop (L := L) (c := c) (t := t) 81 qfu 0 0 N I1 s (by omega) (by rw [qfu_eq]; omega) (by omega) (by omega) m2 m3 hG
    have hg := gd_day (tx := tx) (cs := cs) 81 0 s hG (by omega)
    have hB := gd_bd hg (by omega)
    have hdl := day_le tx cs 81 0 s
    dsimp only
    rw [Nat.zero_add] at a1
    generalize dayS tx cs 81 0 s = r at *
    obtain ⟨w3, f3⟩ := tclr a2
    have hM3 : HiM (upI I2 198 1 (n2 0)) h s := a3.fr fun b i h1 h2 => f3 b i (by omega)
    have head : fX7_day 1 (mk I L c t) = fX7_day_101 1 (n2 r.1) (n2 (bn r.2.1)) (mk I2 L c t) := by
      unfold fX7_day
      rw [if_pos (by rw [kk_1])]
      unfold gX7_day
      rw [g1_6, qbnd_s, b1, qbnd_s]
      dsimp only
      rw [l_1, if_pos rfl, g1_3, qbnd_s, g1_2, qbnd_s, m1, qbnd_s]
      dsimp only
      rw [l_0]
      exact a1
    have fin : ∀ {J : Nat → Nat → Int32} {h1 : List St}, W7 J L r.2.2 h1 kp [] row cs → ∃ I' L', fX7_day_110 1 (n2 r.1) (n2 (bn r.2.1)) (mk J L c t) = some (n2 r.1, 0, mk I' L' c t) ∧ W7 I' L' r.2.2 h1 kp [] [(n2 (bn r.2.1)).toInt64, (n2 (bits8 fun o => decide (r.2.2 85 o = 2))).toInt64] cs ∧ Fw J I' := by
      intro J h1 w
      obtain ⟨I4, L4, o1, o2, o3⟩ := x3_twoW (c := c) (t := t) w (n2 (bn r.2.1)).toInt64 (n2 (bits8 fun o => decide (r.2.2 85 o = 2))).toInt64
      refine ⟨I4, L4, ?_, o2, o3⟩
      unfold fX7_day_110
      rw [g1_7, qbnd_s, g1_2, qbnd_s, l_2, x5_standing (show 3 ∈ stl by decide) w.dw.1 hB (Nat.le_refl 2), qbnd_s]
      dsimp only
      rw [o1, qbnd_s]
    rw [head]
    unfold fX7_day_101
    rw [g1_6, qbnd_s, l_0, u198_1, qbnd_s]
    by_cases e : r.1 = 0
    · obtain ⟨I', L', o1, o2, o3⟩ := fin w3
      refine ⟨I', L', ?_, by rw [if_pos e]; exact o2, ((m4.trans a4).trans (f3.w (by omega))).trans o3⟩
      rw [if_pos (by rw [n2_le (by omega) (by omega)]; omega)]
      exact o1
    · obtain ⟨I5, c1, c2, c3⟩ := x1_commit (L := L) (c := c) (t := t) hM3
      have w5 := w3.hist (c3.mono (by omega) (by omega)) c2
      obtain ⟨I', L', o1, o2, o3⟩ := fin w5
      refine ⟨I', L', ?_, by rw [if_neg e]; exact o2, (((m4.trans a4).trans (f3.w (by omega))).trans (c3.w (by omega))).trans o3⟩
      rw [if_neg (by rw [n2_le (by omega) (by omega)]; omega), g1_3, qbnd_s, c1, qbnd_s]
      exact o1
end S7DY

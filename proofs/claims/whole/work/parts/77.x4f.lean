/-! PURE SIDE, THE CLASS: rule() and law() -/
section S7LA
variable {I : Nat → Nat → Int32} {L : Nat → Nat → Int64} {c t a p N : Nat} {tx : List Nat} {s : St} {h : List St} {kp : Nat → Option St} {row : List Int64} {cs cs' : List Nat}
theorem W7.spared {I' : Nat → Nat → Int32} [FB] (hW : W7 I L s h kp tx row cs) (hf : Fr I I' 206 209) : W7 I' L s h kp tx row cs := by
  obtain ⟨z, hz⟩ := hW.sh
  exact ⟨hW.dw.fr hf (by omega), ⟨z, hz.fr hf (by omega)⟩, hW.hi.fr fun b i h1 h2 => hf b i (by omega), hW.ke.on fun b i h1 h2 => hf b i (by omega), hW.te.on fun b i h1 h2 => hf b i (by omega), hW.ro.on (fun i => hf _ i (by omega)) fun i => rfl, hW.ru.fr (fun i => hf _ i (by omega)) (hf _ _ (by omega))⟩
theorem w7_tclr [FB] (hW : W7 I L s h kp tx row cs) : W7 (upI I 198 1 (n2 0)) L s h kp [] row cs ∧ Fr I (upI I 198 1 (n2 0)) 198 200 := by
  have hF : Fr I (upI I 198 1 (n2 0)) 198 200 := .up (by omega) (by omega)
  exact ⟨hW.texted hF (te_take hW.te (Nat.zero_le _)), hF⟩
theorem x4_copy (hU : RuW I 206 cs') : ∃ I', fX4_copy 202 206 (mk I L c t) = some (n2 0, 0, mk I' L c t) ∧ RuW I' 202 cs' ∧ Fr I I' 202 204 := by
  obtain ⟨u1, u2, u3, u4⟩ := hU
  refine ⟨upI (cpI I 207 0 203 0 40) 202 3 (n2 cs'.length), ?_, ⟨u1, upI_eq, fun i hi => ?_, u4⟩, fun b i hb => ?_⟩
  · have hv : (cpI I 207 0 203 0 40) 206 3 = n2 cs'.length := by rw [cpI_ne (by omega)]; exact u2
    unfold fX4_copy
    rw [if_pos (of_eq_true (ru_q (show 202 ∈ rul by decide)))]
    unfold gX4_copy
    rw [ru_P0 (show 206 ∈ rul by decide), qbnd_s, ru_P0 (show 202 ∈ rul by decide), qbnd_s, l_0, l_40, oCpy_mk (a0 := 207) (a1 := 203) (ru_ck (j := 0) (show 206 ∈ rul by decide) (by omega)) (ru_ck (j := 0) (show 202 ∈ rul by decide) (by omega)) (by omega) (by omega) (by omega) (by omega), qbnd_s, ru_I3 (show 206 ∈ rul by decide), qbnd_s, hv, ru_U3 (show 202 ∈ rul by decide), qbnd_s]
  · rw [upI_ne (by omega)]
    show cpI I 207 0 203 0 40 203 i = _
    rw [cpI_in (by omega)]
    exact u3 i hi
  · rw [upI_ne (by omega), cpI_ne (by omega)]
theorem rd_lt (hT : TeW I tx) {p : Nat} (h : (rdS tx).1 = some p) : p < 100 := by
  have hl := hT.2.1
  have key : ∀ (l : List Nat) (K : Kt) (q r : Nat), (krun l K q).1 = some r → r < q + l.length := by
    intro l
    induction l with
    | nil => intro K q r h; exact absurd h (by simp [krun])
    | cons g l ih =>
      intro K q r h
      simp only [krun] at h
      cases hs : kstep g K with
      | none =>
        rw [hs] at h
        have := Option.some.inj h
        rw [List.length_cons]
        omega
      | some K' =>
        rw [hs] at h
        have := ih K' (q + 1) r h
        rw [List.length_cons]
        omega
  unfold rdS at h
  have hk := key (tx.take 40) k00 0
  have hlen : (tx.take 40).length ≤ 40 := by rw [List.length_take]; omega
  cases hr : krun (tx.take 40) k00 0 with
  | mk f K =>
    rw [hr] at h hk
    cases f with
    | some q =>
      have h2 : q = p := Option.some.inj h
      have := hk q rfl
      omega
    | none =>
      dsimp only at h
      split at h
      · have h2 : 40 = p := Option.some.inj h
        omega
      split at h
      · have h2 : tx.length = p := Option.some.inj h
        omega
      · exact absurd h (by simp)
theorem x7_rule [FB] (hW : W7 I L s h kp tx row cs) : ∃ I', fX7_rule 1 (mk I L c t) = some (match (rdS tx).1 with
  | some p => -n2 1 - n2 p
  | none => n2 0, 0, mk I' L c t) ∧ W7 I' L s h kp [] row (match (rdS tx).1 with
  | some _ => cs
  | none => (rdS tx).2) ∧ Fw I I' := by
  obtain ⟨I1, r1, r2, r3⟩ := x4_read (L := L) (c := c) (t := t) (show 206 ∈ rul by decide) hW.te
  have w1 := hW.spared r3
  obtain ⟨w2, f2⟩ := w7_tclr w1
  have head : fX7_rule 1 (mk I L c t) = if oi (rdS tx).1 = -n2 1 then (qbnd (fX4_copy 202 206 (mk (upI I1 198 1 (n2 0)) L c t)) fun r8 => some (n2 0, 0, r8.2.2)) else some (-n2 1 - oi (rdS tx).1, 0, mk (upI I1 198 1 (n2 0)) L c t) := by
    unfold fX7_rule
    rw [if_pos (by rw [kk_1])]
    unfold gX7_rule
    rw [g1_9, qbnd_s, g1_6, qbnd_s, r1, qbnd_s]
    dsimp only
    rw [g1_6, qbnd_s, l_0, u198_1, qbnd_s, l_1, g1_8, qbnd_s, g1_9, qbnd_s]
  rw [head]
  cases hd : (rdS tx).1 with
  | some p =>
    have hp := rd_lt hW.te hd
    refine ⟨upI I1 198 1 (n2 0), ?_, w2, (r3.w (by omega)).trans (f2.w (by omega))⟩
    show (if n2 p = -n2 1 then _ else some (-n2 1 - n2 p, 0, mk (upI I1 198 1 (n2 0)) L c t)) = _
    rw [if_neg (by rw [n2_eqm (by omega)]; exact not_false)]
  | none =>
    have hU : RuW (upI I1 198 1 (n2 0)) 206 (rdS tx).2 := (r2 hd).fr (fun i => f2 _ i (by omega)) (f2 _ _ (by omega))
    obtain ⟨I2, q1, q2, q3⟩ := x4_copy (L := L) (c := c) (t := t) hU
    obtain ⟨z, hz⟩ := w2.sh
    refine ⟨I2, ?_, ⟨w2.dw.fr q3 (by omega), ⟨z, hz.fr q3 (by omega)⟩, w2.hi.fr fun b i h1 h2 => q3 b i (by omega), w2.ke.on fun b i h1 h2 => q3 b i (by omega), w2.te.on fun b i h1 h2 => q3 b i (by omega), w2.ro.on (fun i => q3 _ i (by omega)) fun i => rfl, q2⟩, ((r3.w (by omega)).trans (f2.w (by omega))).trans (q3.w (by omega))⟩
    rw [if_pos (show oi none = -n2 1 from rfl), q1, qbnd_s]
theorem law_34 [FB] (hW : W7 I L s h kp tx row cs) (hU : RuW I 206 cs') (hG : Gd N s) (hN : N < 900000000) (f : Option Nat) (hf : ∀ o, f = some o → o < 8) (w : Int32) : ∃ I' L', fX7_law_34 1 (oi f) w (mk I L c t) = some (n2 (f.getD 8), 0, mk I' L' c t) ∧ W7 I' L' s h kp tx [w.toInt64, (n2 (fellS 8 s cs').1.length).toInt64, (n2 (fellS 8 s cs).1.length).toInt64] cs ∧ Fw I I' := by
  have hd : 21 ∈ dkl := by decide
  obtain ⟨I1, a1, a2, a3⟩ := w7_copy (c := c) (t := t) hW
  have w1 := hW.trial a3 a2
  have u1 : RuW I1 206 cs' := hU.fr (fun i => a3 _ i (by omega)) (a3 _ _ (by omega))
  obtain ⟨I2, b1, b2, b3, -⟩ := x0_fellAll (L := L) (c := c) (t := t) hd (show 206 ∈ rul by decide) a2 hG hN u1
  have w2 := w1.q21 (fun b i h1 h2 h3 => b3 b i (by omega) h2 h3) b2
  obtain ⟨I3, c1, c2, c3⟩ := w7_copy (c := c) (t := t) w2
  have w3 := w2.trial c3 c2
  obtain ⟨I4, L4, d1, d2, d3, d4⟩ := x3_two (I := I3) (L := L) (c := c) (t := t) w.toInt64 (n2 (fellS 8 s cs').1.length).toInt64
  have w4 := w3.rowed d3 d2 d4
  have z4 := c2.fr d3 (show 21 + 19 ≤ 200 ∨ 201 ≤ 21 by omega)
  obtain ⟨I5, e1, e2, e3, -⟩ := x0_fellAll (L := L4) (c := c) (t := t) hd (show 202 ∈ rul by decide) z4 hG hN w4.ru
  have w5 := w4.q21 (fun b i h1 h2 h3 => e3 b i (by omega) h2 h3) e2
  obtain ⟨I6, L6, g1, g2, g3⟩ := x3_addW (c := c) (t := t) w5 (by simp) (n2 (fellS 8 s cs).1.length).toInt64
  refine ⟨I6, L6, ?_, g2, fun b i hb => ?_⟩
  · unfold fX7_law_34
    rw [g1_1, qbnd_s, dk_P0 hd, qbnd_s, g1_2, qbnd_s, a1, qbnd_s]
    dsimp only
    rw [g1_1, qbnd_s, g1_9, qbnd_s, b1, qbnd_s]
    dsimp only
    rw [g1_1, qbnd_s, dk_P0 hd, qbnd_s, g1_2, qbnd_s, c1, qbnd_s]
    dsimp only
    rw [g1_7, qbnd_s, d1, qbnd_s]
    dsimp only
    rw [g1_7, qbnd_s, g1_1, qbnd_s, g1_8, qbnd_s, e1, qbnd_s]
    dsimp only
    rw [g1, qbnd_s, l_1, l_8]
    cases f with
    | none => exact if_pos rfl
    | some o =>
      have := hf o rfl
      exact if_neg (by show ¬ n2 o = -n2 1; rw [n2_eqm (by omega)]; exact not_false)
  · rw [g3 b i hb, e3 b i (by omega) (by omega) (by omega), d3 b i (by omega), c3 b i (by omega), b3 b i (by omega) (by omega) (by omega), a3 b i (by omega)]
theorem x7_law [FB] (hW : W7 I L s h kp tx row cs) (hG : Gd N s) (hN : N < 900000000) : ∃ I' L', fX7_law 1 (mk I L c t) = some (match (rdS tx).1 with
  | some p => -n2 100 - n2 p
  | none => n2 (((cheapS s (rdS tx).2).map (·.1)).getD 8), 0, mk I' L' c t) ∧ W7 I' L' s h kp [] (match (rdS tx).1 with
  | some _ => row
  | none => [(match cheapS s (rdS tx).2 with
    | none => n2 0
    | some z => z.2).toInt64, (n2 (fellS 8 s (rdS tx).2).1.length).toInt64, (n2 (fellS 8 s cs).1.length).toInt64]) cs ∧ Fw I I' := by
  obtain ⟨I1, r1, r2, r3⟩ := x4_read (L := L) (c := c) (t := t) (show 206 ∈ rul by decide) hW.te
  have w1 := hW.spared r3
  obtain ⟨w2, f2⟩ := w7_tclr w1
  have head : fX7_law 1 (mk I L c t) = if oi (rdS tx).1 = -n2 1 then (qbnd (fX0_cheapest 2 206 (mk (upI I1 198 1 (n2 0)) L c t)) fun r8 =>
    if r8.1 = -n2 1 then
      fX7_law_34 1 r8.1 (n2 0) r8.2.2
    else
      qbnd (oGetP r8.2.2 7 1 0) fun v9 =>
      qbnd (oGetP r8.2.2 7 1 9) fun v10 =>
      qbnd (fX0_costOf v9 r8.1 v10 r8.2.2) fun r11 =>
      fX7_law_34 1 r8.1 r11.1 r11.2.2) else some (-n2 100 - oi (rdS tx).1, 0, mk (upI I1 198 1 (n2 0)) L c t) := by
    unfold fX7_law
    rw [if_pos (by rw [kk_1])]
    unfold gX7_law
    rw [g1_9, qbnd_s, g1_6, qbnd_s, r1, qbnd_s]
    dsimp only
    rw [g1_6, qbnd_s, l_0, u198_1, qbnd_s, l_1, g1_0, qbnd_s, g1_9, qbnd_s]
    rfl
  rw [head]
  cases hd : (rdS tx).1 with
  | some p =>
    have hp := rd_lt hW.te hd
    refine ⟨upI I1 198 1 (n2 0), L, ?_, w2, (r3.w (by omega)).trans (f2.w (by omega))⟩
    show (if n2 p = -n2 1 then _ else some (-n2 100 - n2 p, 0, mk (upI I1 198 1 (n2 0)) L c t)) = _
    rw [if_neg (by rw [n2_eqm (by omega)]; exact not_false)]
  | none =>
    have hU : RuW (upI I1 198 1 (n2 0)) 206 (rdS tx).2 := (r2 hd).fr (fun i => f2 _ i (by omega)) (f2 _ _ (by omega))
    obtain ⟨I2, q1, q2, q3, -⟩ := x0_cheapest (L := L) (c := c) (t := t) (show 2 ∈ dkl by decide) (show 206 ∈ rul by decide) w2.dw hG hN hU
    have w3 := w2.desk q3 q2
    have u3 : RuW I2 206 (rdS tx).2 := hU.q (show 2 ∈ dkl by decide) (show 206 ∈ rul by decide) q3
    have fI : Fw I I2 := ((r3.w (by omega)).trans (f2.w (by omega))).trans (q3.w (by decide))
    dsimp only
    rw [if_pos (show oi none = -n2 1 from rfl), q1, qbnd_s]
    dsimp only
    cases hz : cheapS s (rdS tx).2 with
    | none =>
      obtain ⟨I', L', o1, o2, o3⟩ := law_34 (c := c) (t := t) w3 u3 hG hN none (fun o ho => absurd ho (by simp)) (n2 0)
      refine ⟨I', L', ?_, o2, fI.trans o3⟩
      rw [if_pos (show oi (Option.map (·.1) (none : Option (Nat × Int32))) = -n2 1 from rfl)]
      exact o1
    | some z =>
      obtain ⟨c1, c2, c3⟩ := cheapS_lt hz
      obtain ⟨I3, k1, k2, k3⟩ := x0_costOf (L := L) (c := c) (t := t) (show 2 ∈ dkl by decide) (show 206 ∈ rul by decide) w3.dw hG hN u3 c1
      have w4 := w3.desk k3 k2
      have u4 := u3.q (show 2 ∈ dkl by decide) (show 206 ∈ rul by decide) k3
      obtain ⟨I', L', o1, o2, o3⟩ := law_34 (c := c) (t := t) w4 u4 hG hN (some z.1) (fun o ho => by obtain rfl := Option.some.inj ho; exact c1) (costS s (rdS tx).2 z.1)
      rw [← c3] at o1 o2
      refine ⟨I', L', ?_, o2, (fI.trans (k3.w (by decide))).trans o3⟩
      rw [if_neg (by show ¬ n2 z.1 = -n2 1; rw [n2_eqm (by omega)]; exact not_false), g1_0, qbnd_s, g1_9, qbnd_s]
      show (qbnd (fX0_costOf 2 (n2 z.1) 206 (mk I2 L c t)) fun r11 => fX7_law_34 1 (n2 z.1) r11.1 r11.2.2) = _
      rw [k1, qbnd_s, ← c3]
      exact o1
end S7LA

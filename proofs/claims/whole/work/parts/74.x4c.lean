/-! PURE SIDE, THE CLASS: a rule's sign is taken -/
theorem Fcp.fr {I I' : Nat → Nat → Int32} {a : Nat} (h : Fcp I I' a) : Fr I I' a (a + 3) := fun b i hb => h b i (by omega) (by omega) (by omega)
theorem Fcp.own {I I' : Nat → Nat → Int32} {a i : Nat} (h : Fcp I I' a) (hi : 5 ≤ i) : I' a i = I a i := h a i (by omega) (by omega) (by omega)
theorem vb_q {m d : Nat} (hm : m < 256) (hd : d < 8) : qush (n2 m) (n2 d) &&& n2 1 = n2 (bn (m.testBit d)) := by
  have := bits8_q (vbs m) hd
  rw [vbs_bits hm] at this
  exact this
theorem vb_clr {m d : Nat} (hm : m < 256) (hd : d < 8) : n2 m &&& ((n2 1 <<< n2 d) ^^^ -n2 1) = n2 (clrb m d) := by
  have := bits8_clr (vbs m) hd
  rw [vbs_bits hm] at this
  rw [n2_shl (by omega)]
  exact this
section S7RE
variable {I : Nat → Nat → Int32} {L : Nat → Nat → Int64} {c t a p : Nat} {code pend : List Nat} {tx : List Nat} {μ : qM} {K : Kt}
theorem no_qz : qnz (n2 0) = n2 0 := of_eq_true n2_qz0
theorem yes_qz : qnz (n2 1) = n2 1 := of_eq_true n2_qz1
theorem x4_takeThing (ha : a ∈ rul) (hK : KmW I a K) (hI : KI p K) (hp : p < 40) (hb : K.2.2.2.2.2 = false) {g : Nat} (hg : g < 256) : ∃ I', fX4_takeThing a (n2 g) (mk I L c t) = some (n2 (bn (kstep g K).isSome), 0, mk I' L c t) ∧ (∀ K', kstep g K = some K' → KmW I' a K') ∧ Fr I I' a (a + 3) := by
  obtain ⟨code, pend, d, dg, cm, bh⟩ := K
  obtain ⟨h1, h2, h3, h4, h5, h6, h7, h8⟩ := hI
  obtain ⟨k1, k2, k3, k4, k5, k6⟩ := hK
  dsimp only at h1 h2 h3 h4 h5 h6 h7 h8 k1 k2 k3 k4 k5 k6 hb
  subst hb
  have e0 : kstep g (code, pend, d, dg, cm, false) = kThing g (code, pend, d, dg, cm, false) := if_neg (by simp)
  rw [e0]
  unfold kThing
  dsimp only
  by_cases e1 : g = 45
  · subst e1
    obtain ⟨I1, r1, r2, r3, r4, r5⟩ := x4_postpone (L := L) (c := c) (t := t) ha k2 (by omega) 256
    refine ⟨I1, ?_, fun K' hs => ?_, r3.fr⟩
    · rw [if_pos rfl]
      unfold fX4_takeThing
      rw [if_pos (of_eq_true (ru_q ha))]
      unfold gX4_takeThing
      rw [l_45, if_pos rfl, l_256, r1, qbnd_s, l_1, if_pos yes_qz]
      rfl
    · rw [if_pos rfl] at hs
      obtain rfl := Option.some.inj hs
      exact ⟨k1.fr r5 r4, r2, by rw [r3.own (by omega)]; exact k3, by rw [r3.own (by omega)]; exact k4, by rw [r3.own (by omega)]; exact k5, by rw [r3.own (by omega)]; exact k6⟩
  have q1 : ¬ n2 g = n2 45 := by rw [n2_eq (by omega) (by omega)]; exact e1
  by_cases e2 : g = 40
  · subst e2
    by_cases e3 : d < 4
    · obtain ⟨I1, r1, r2, r3, r4, r5⟩ := x4_postpone (L := L) (c := c) (t := t) ha k2 (by omega) 40
      refine ⟨upI (upI I1 a 5 (n2 (d + 1))) a 7 (n2 (clrb cm (d + 1))), ?_, fun K' hs => ?_, (r3.fr.trans (.up (by omega) (by omega))).trans (.up (by omega) (by omega))⟩
      · have w5 : I1 a 5 = n2 d := by rw [r3.own (by omega)]; exact k3
        have w7 : upI I1 a 5 (n2 (d + 1)) a 7 = n2 cm := by rw [upI_ni (by omega), r3.own (by omega)]; exact k5
        have w8 : upI I1 a 5 (n2 (d + 1)) a 5 = n2 (d + 1) := upI_eq
        rw [if_neg (by omega), if_pos rfl, if_pos e3]
        unfold fX4_takeThing
        rw [if_pos (of_eq_true (ru_q ha))]
        unfold gX4_takeThing
        rw [l_45, if_neg (by decide +kernel), l_40, if_pos rfl, ru_I5 ha, qbnd_s, k3, l_4, if_pos (by rw [n2_lt (by omega) (by omega)]; exact e3), r1, qbnd_s]
        dsimp only
        rw [ru_I5 ha, qbnd_s, w5, l_1, n2_add, ru_U5 ha, qbnd_s, ru_I7 ha, qbnd_s, w7, ru_I5 ha, qbnd_s, w8, l_31, n2_31 (by omega), vb_clr h6 (by omega), ru_U7 ha, qbnd_s, if_pos yes_qz]
        rfl
      · rw [if_neg (by omega), if_pos rfl, if_pos e3] at hs
        obtain rfl := Option.some.inj hs
        refine ⟨(k1.fr r5 r4).fr (by rw [upI_ni (by omega), upI_ni (by omega)]) fun i => by rw [upI_ne (by omega), upI_ne (by omega)], r2.fr (by rw [upI_ni (by omega), upI_ni (by omega)]) fun i => by rw [upI_ne (by omega), upI_ne (by omega)], ?_, ?_, ?_, ?_⟩
        · rw [upI_ni (by omega), upI_eq]
        · rw [upI_ni (by omega), upI_ni (by omega), r3.own (by omega)]; exact k4
        · rw [upI_eq]
        · rw [upI_ni (by omega), upI_ni (by omega), r3.own (by omega)]; exact k6
    · refine ⟨I, ?_, fun K' hs => ?_, .rf _ _ _⟩
      · rw [if_neg (by omega), if_pos rfl, if_neg e3]
        unfold fX4_takeThing
        rw [if_pos (of_eq_true (ru_q ha))]
        unfold gX4_takeThing
        rw [l_45, if_neg (by decide +kernel), l_40, if_pos rfl, ru_I5 ha, qbnd_s, k3, l_4, if_neg (by rw [n2_lt (by omega) (by omega)]; exact e3), l_0, if_pos no_qz]
        rfl
      · rw [if_neg (by omega), if_pos rfl, if_neg e3] at hs
        exact absurd hs (by simp)
  have q2 : ¬ n2 g = n2 40 := by rw [n2_eq (by omega) (by omega)]; exact e2
  rw [if_neg e1, if_neg e2]
  have head : fX4_takeThing a (n2 g) (mk I L c t) = if n2 (bn (isd g)) = n2 0 then (if n2 (bn (decide (liS g < 7))) = n2 0 then some (n2 0, 0, mk I L c t) else fX4_takeThing_49 a (n2 g) (n2 (bn (isd g))) (mk I L c t)) else fX4_takeThing_49 a (n2 g) (n2 (bn (isd g))) (mk I L c t) := by
    unfold fX4_takeThing
    rw [if_pos (of_eq_true (ru_q ha))]
    unfold gX4_takeThing
    rw [l_45, if_neg q1, l_40, if_neg q2, x7_isDigit (by omega), qbnd_s]
    dsimp only
    rw [l_0, x4_isLetter (by omega), qbnd_s]
    dsimp only
    rw [if_pos no_qz]
  rw [head]
  have tail : ∀ (x e : Nat) (v : Int32), v = c7 x → ∃ I', (qbnd (fX4_put a v (mk (upI I a 6 (n2 e)) L c t)) fun r2 =>
    if (1 : Int32) = 0 ∨ (1 : Int32) = 1 then
      qbnd (oPutI r2.2.2 4 a 8 (1 : Int32)) fun μ3 =>
      if qnz (1 : Int32) = (1 : Int32) then some ((1 : Int32), 0, μ3) else none
    else none) = some (n2 1, 0, mk I' L c t) ∧ KmW I' a (code ++ [x], pend, d, e, cm, true) ∧ Fr I I' a (a + 3) := by
    intro x e v hv
    have hC0 : CoW (upI I a 6 (n2 e)) a code := k1.fr (upI_ni (by omega)) fun i => upI_ne (by omega)
    obtain ⟨I1, r1, r2, r3, r4, r5⟩ := x4_put (L := L) (c := c) (t := t) ha hC0 (by omega) x hv
    refine ⟨upI I1 a 8 (n2 1), ?_, ⟨r2.fr (upI_ni (by omega)) fun i => upI_ne (by omega), (k2.fr (by rw [r5, upI_ni (by omega)]) (fun i => by rw [r4, upI_ne (by omega)])).fr (upI_ni (by omega)) fun i => upI_ne (by omega), ?_, ?_, ?_, ?_⟩, ((Fr.up (by omega) (by omega)).trans r3.fr).trans (.up (by omega) (by omega))⟩
    · rw [r1, qbnd_s]
      dsimp only
      rw [l_1, if_pos (.inr rfl), ru_U8 ha, qbnd_s, if_pos yes_qz]
    · rw [upI_ni (by omega), r3.own (by omega), upI_ni (by omega)]; exact k3
    · rw [upI_ni (by omega), r3.own (by omega), upI_eq]
    · rw [upI_ni (by omega), r3.own (by omega), upI_ni (by omega)]; exact k5
    · rw [upI_eq]; rfl
  by_cases e3 : isd g = true
  · have hd : 48 ≤ g ∧ g ≤ 57 := by
      unfold isd at e3
      rw [Bool.and_eq_true, decide_eq_true_eq, decide_eq_true_eq] at e3
      exact e3
    obtain ⟨I', t1, t2, t3⟩ := tail (g - 48) 1 (n2 g - n2 48) (by rw [n2_sub hd.1, c7_num (by omega)])
    rw [e3, if_neg yes_zero, if_pos rfl]
    refine ⟨I', ?_, fun K' hs => ?_, t3⟩
    · unfold fX4_takeThing_49
      rw [l_0, if_neg yes_zero]
      unfold fX4_takeThing_55
      rw [l_1, ru_U6 ha, qbnd_s, l_0, if_neg yes_zero, l_48]
      exact t1
    · obtain rfl := Option.some.inj hs
      exact t2
  · have e3' : isd g = false := by
      rcases bcs (isd g) with z | z
      · exact z
      · exact absurd z e3
    rw [e3', if_pos no_zero, if_neg Bool.false_ne_true]
    by_cases e4 : liS g < 7
    · obtain ⟨I', t1, t2, t3⟩ := tail (1000 + liS g) 0 (-n2 g) (li_c7 g hg e4).symm
      rw [decide_eq_true e4, if_neg yes_zero, if_pos e4]
      refine ⟨I', ?_, fun K' hs => ?_, t3⟩
      · unfold fX4_takeThing_49
        rw [l_0, if_pos no_zero]
        unfold fX4_takeThing_55
        rw [ru_U6 ha, qbnd_s, l_0, if_pos no_zero]
        exact t1
      · obtain rfl := Option.some.inj hs
        exact t2
    · rw [decide_eq_false e4, if_pos no_zero, if_neg e4]
      exact ⟨I, rfl, fun K' hs => absurd hs (by simp), .rf _ _ _⟩
end S7RE

/-! PURE SIDE, THE CLASS: a sign behind a thing -/
section S7RF
variable {I : Nat → Nat → Int32} {L : Nat → Nat → Int64} {c t a p : Nat} {code pend : List Nat} {tx : List Nat} {μ : qM} {K : Kt}
theorem CoW.last {C : List Nat} {v w : Nat} (h : CoW I a (C ++ [v])) : I a 3 = n2 (C.length + 1) ∧ I (a + 1) C.length = c7 v ∧ CoW (upI I (a + 1) C.length (c7 w)) a (C ++ [w]) := by
  obtain ⟨h1, h2⟩ := h
  have hl : (C ++ [v]).length = C.length + 1 := by simp
  rw [hl] at h1
  refine ⟨h1, ?_, ?_, fun i hi => ?_⟩
  · have := h2 C.length (by rw [hl]; omega)
    rw [getD_at] at this
    exact this
  · rw [upI_ne (by omega), h1]
    simp
  · by_cases e : i = C.length
    · subst e
      rw [upI_eq, getD_at]
    · have hi2 : i < C.length := by
        rw [List.length_append] at hi
        simp at hi
        omega
      rw [upI_ni e, getD_lt hi2]
      have := h2 i (by rw [hl]; omega)
      rw [getD_lt hi2] at this
      exact this
theorem x4_takeBehind (ha : a ∈ rul) (hK : KmW I a K) (hI : KI p K) (hp : p < 40) (hb : K.2.2.2.2.2 = true) {g : Nat} (hg : g < 256) : ∃ I', fX4_takeBehind a (n2 g) (mk I L c t) = some (n2 (bn (kstep g K).isSome), 0, mk I' L c t) ∧ (∀ K', kstep g K = some K' → KmW I' a K') ∧ Fr I I' a (a + 3) := by
  obtain ⟨code, pend, d, dg, cm, bh⟩ := K
  obtain ⟨h1, h2, h3, h4, h5, h6, h7, h8⟩ := hI
  obtain ⟨k1, k2, k3, k4, k5, k6⟩ := hK
  dsimp only at h1 h2 h3 h4 h5 h6 h7 h8 k1 k2 k3 k4 k5 k6 hb
  subst hb
  have e0 : kstep g (code, pend, d, dg, cm, true) = kBehind g (code, pend, d, dg, cm, true) := if_pos rfl
  rw [e0]
  unfold kBehind
  dsimp only
  by_cases e1 : isd g = true
  · have hd : 48 ≤ g ∧ g ≤ 57 := by
      unfold isd at e1
      rw [Bool.and_eq_true, decide_eq_true_eq, decide_eq_true_eq] at e1
      exact e1
    rw [if_pos e1]
    have head : fX4_takeBehind a (n2 g) (mk I L c t) = (qbnd (fX4_takeDigit a (n2 g) (mk I L c t)) fun r6 => if qnz r6.1 = r6.1 then some (r6.1, 0, r6.2.2) else none) := by
      unfold fX4_takeBehind
      rw [if_pos (of_eq_true (ru_q ha))]
      unfold gX4_takeBehind
      rw [x7_isDigit (by omega), qbnd_s]
      dsimp only
      rw [e1, l_0, if_neg yes_zero]
    rw [head]
    by_cases e2 : 1 ≤ dg ∧ dg ≤ 2
    · obtain ⟨C, v, c1, c2⟩ := h4 e2.1 rfl
      subst c1
      have hv : v < 100 := by
        rcases (show dg = 1 ∨ dg = 2 by omega) with z | z <;> rw [z] at c2 <;> omega
      obtain ⟨a1, a2, a3⟩ := k1.last (w := 10 * v + (g - 48))
      have hC : C.length < 40 := by simp at h1; omega
      rw [if_pos e2]
      refine ⟨upI (upI I (a + 1) C.length (c7 (10 * v + (g - 48)))) a 6 (n2 (dg + 1)), ?_, fun K' hs => ?_, (Fr.up (by omega) (by omega)).trans (.up (by omega) (by omega))⟩
      · have hw : n2 10 * c7 v + n2 g - n2 48 = c7 (10 * v + (g - 48)) := by
          rw [c7_num (show v < 1000 by omega), c7_num (show 10 * v + (g - 48) < 1000 by omega), n2_mul, n2_add, n2_sub (by omega), show 10 * v + g - 48 = 10 * v + (g - 48) by omega]
        have w6 : (upI I (a + 1) C.length (c7 (10 * v + (g - 48)))) a 6 = n2 dg := by rw [upI_ne (by omega)]; exact k4
        unfold fX4_takeDigit
        rw [if_pos (of_eq_true (ru_q ha))]
        unfold gX4_takeDigit
        rw [ru_I6 ha, qbnd_s, k4, l_1, if_neg (by rw [n2_lt (by omega) (by omega)]; omega), qbnd_s, l_2, if_neg (by rw [n2_lt (by omega) (by omega)]; omega), ru_I3 ha, qbnd_s, a1, if_pos (by rw [n2_le (by omega) (by omega)]; omega), ru_P0 ha, qbnd_s, qbnd_s, qbnd_s, qbnd_s, n2_sub (by omega), Nat.add_sub_cancel, ru_L0 ha hC, qbnd_s, a2, l_10, l_48, hw, ru_S0 ha hC, qbnd_s, ru_I6 ha, qbnd_s, w6, n2_add, ru_U6 ha, qbnd_s, if_pos yes_qz, qbnd_s]
        dsimp only
        rw [if_pos yes_qz]
        rfl
      · obtain rfl := Option.some.inj hs
        have e5 : (C ++ [v]).dropLast ++ [10 * (C ++ [v]).getLastD 0 + (g - 48)] = C ++ [10 * v + (g - 48)] := by simp
        rw [e5]
        refine ⟨a3.fr (upI_ni (by omega)) fun i => upI_ne (by omega), (k2.fr (upI_ne (by omega)) fun i => upI_ne (by omega)).fr (upI_ni (by omega)) fun i => upI_ne (by omega), ?_, ?_, ?_, ?_⟩
        · rw [upI_ni (by omega), upI_ne (by omega)]; exact k3
        · rw [upI_eq]
        · rw [upI_ni (by omega), upI_ne (by omega)]; exact k5
        · rw [upI_ni (by omega), upI_ne (by omega)]; exact k6
    · refine ⟨I, ?_, fun K' hs => ?_, .rf _ _ _⟩
      · rw [if_neg e2]
        unfold fX4_takeDigit
        rw [if_pos (of_eq_true (ru_q ha))]
        unfold gX4_takeDigit
        rw [ru_I6 ha, qbnd_s, k4, l_1]
        by_cases e3 : dg < 1
        · rw [if_pos (by rw [n2_lt (by omega) (by omega)]; omega), l_0, if_pos no_qz, qbnd_s]
          dsimp only
          rw [if_pos no_qz]
          rfl
        · rw [if_neg (by rw [n2_lt (by omega) (by omega)]; omega), qbnd_s, l_2, if_pos (by rw [n2_lt (by omega) (by omega)]; omega), l_0, if_pos no_qz, qbnd_s]
          dsimp only
          rw [if_pos no_qz]
          rfl
      · rw [if_neg e2] at hs
        exact absurd hs (by simp)
  have e1' : isd g = false := by
    rcases bcs (isd g) with z | z
    · exact z
    · exact absurd z e1
  rw [if_neg e1]
  by_cases e2 : g = 41
  · subst e2
    rw [if_pos rfl]
    have head : fX4_takeBehind a (n2 41) (mk I L c t) = (qbnd (fX4_close a (mk I L c t)) fun r5 => if qnz r5.1 = r5.1 then some (r5.1, 0, r5.2.2) else none) := by
      unfold fX4_takeBehind
      rw [if_pos (of_eq_true (ru_q ha))]
      unfold gX4_takeBehind
      rw [x7_isDigit (by omega), qbnd_s]
      dsimp only
      rw [e1', l_0, if_pos no_zero, l_41, if_pos rfl]
    rw [head]
    by_cases e3 : d = 0
    · refine ⟨I, ?_, fun K' hs => ?_, .rf _ _ _⟩
      · rw [if_pos e3]
        unfold fX4_close
        rw [if_pos (of_eq_true (ru_q ha))]
        unfold gX4_close
        rw [ru_I5 ha, qbnd_s, k3, e3, l_0, if_pos rfl, if_pos no_qz, qbnd_s]
        dsimp only
        rw [if_pos no_qz]
        rfl
      · rw [if_pos e3] at hs
        exact absurd hs (by simp)
    · rcases sttl_1 pend h5 with ⟨z1, z2⟩ | ⟨Q, z1⟩
      · omega
      obtain ⟨I1, s1, s2, s3, s4⟩ := x4_settle (L := L) (c := c) (t := t) ha (Nat.le_refl 1) (by omega) k1 k2 (by omega) h5
      have hl := sttl_len 1 pend
      rw [z1] at s3 hl
      obtain ⟨p1, p2⟩ := s3.pop
      have hQ : Q.length < 40 := by simp at hl; omega
      have w5 : I1 a 5 = n2 d := by rw [s4.own (by omega)]; exact k3
      have w4 : I1 a 4 = n2 (Q.length + 1) := s3.1
      have w5b : upI I1 a 4 (n2 Q.length) a 5 = n2 d := by rw [upI_ni (by omega)]; exact w5
      rw [if_neg e3]
      refine ⟨upI (upI (upI I1 a 4 (n2 Q.length)) a 5 (n2 (d - 1))) a 6 (n2 0), ?_, fun K' hs => ?_, ((s4.fr.trans (.up (by omega) (by omega))).trans (.up (by omega) (by omega))).trans (.up (by omega) (by omega))⟩
      · unfold fX4_close
        rw [if_pos (of_eq_true (ru_q ha))]
        unfold gX4_close
        rw [ru_I5 ha, qbnd_s, k3, l_0, if_neg (by rw [n2_eq (by omega) (by omega)]; exact e3), l_1, s1, qbnd_s]
        dsimp only
        rw [ru_I4 ha, qbnd_s, w4, if_neg (by rw [n2_le (by omega) (by omega)]; omega), qbnd_s, n2_sub (by omega), Nat.add_sub_cancel, ru_U4 ha, qbnd_s]
        unfold fX4_close_17
        rw [ru_I5 ha, qbnd_s, w5b, l_1, n2_sub (by omega), ru_U5 ha, qbnd_s, l_0, ru_U6 ha, qbnd_s, if_pos yes_qz, qbnd_s]
        dsimp only
        rw [if_pos yes_qz]
        rfl
      · obtain rfl := Option.some.inj hs
        rw [z1, List.tail_cons]
        refine ⟨((s2.fr (upI_ni (by omega)) fun i => upI_ne (by omega)).fr (upI_ni (by omega)) fun i => upI_ne (by omega)).fr (upI_ni (by omega)) fun i => upI_ne (by omega), (p1.fr (upI_ni (by omega)) fun i => upI_ne (by omega)).fr (upI_ni (by omega)) fun i => upI_ne (by omega), ?_, ?_, ?_, ?_⟩
        · rw [upI_ni (by omega), upI_eq]
        · rw [upI_eq]
        · rw [upI_ni (by omega), upI_ni (by omega), upI_ni (by omega), s4.own (by omega)]; exact k5
        · rw [upI_ni (by omega), upI_ni (by omega), upI_ni (by omega), s4.own (by omega)]; exact k6
  rw [if_neg e2]
  have hrk : rkS g ≤ 3 := by
    have : ∀ g, g < 256 → rkS g ≤ 3 := by decide +kernel
    exact this g hg
  have head : fX4_takeBehind a (n2 g) (mk I L c t) = if n2 (rkS g) = n2 0 then some (n2 0, 0, mk I L c t) else if n2 (rkS g) = n2 1 then (if n2 (bn (cm.testBit d)) = n2 0 then fX4_takeBehind_31 a (n2 g) (n2 (rkS g)) (mk I L c t) else some (n2 0, 0, mk I L c t)) else fX4_takeBehind_31 a (n2 g) (n2 (rkS g)) (mk I L c t) := by
    unfold fX4_takeBehind
    rw [if_pos (of_eq_true (ru_q ha))]
    unfold gX4_takeBehind
    rw [x7_isDigit (by omega), qbnd_s]
    dsimp only
    rw [e1', l_0, if_pos no_zero, l_41, if_neg (by rw [n2_eq (by omega) (by omega)]; exact e2), x4_rankOf (by omega), qbnd_s]
    dsimp only
    rw [if_pos no_qz, l_1, ru_I7 ha, qbnd_s, k5, ru_I5 ha, qbnd_s, k3, vb_q h6 (by omega)]
  rw [head]
  by_cases e3 : rkS g = 0
  · rw [if_pos (by rw [e3]), if_pos e3]
    exact ⟨I, rfl, fun K' hs => absurd hs (by simp), .rf _ _ _⟩
  have q3 : ¬ n2 (rkS g) = n2 0 := by rw [n2_eq (by omega) (by omega)]; exact e3
  rw [if_neg q3, if_neg e3]
  obtain ⟨p1, p2, p3, p4⟩ := it_pok g hg e3
  have fin : ∀ {J : Nat → Nat → Int32} (m : Nat), CoW J a code → PeW J a pend → J a 5 = n2 d → J a 6 = n2 dg → J a 7 = n2 m → J a 8 = n2 1 → Fr I J a (a + 3) → ∃ I', fX4_takeBehind_43 a (n2 g) (n2 (rkS g)) (mk J L c t) = some (n2 1, 0, mk I' L c t) ∧ KmW I' a (code ++ (sttl (rkS g) pend).1, g :: (sttl (rkS g) pend).2, d, dg, m, false) ∧ Fr I I' a (a + 3) := by
    intro J m j1 j2 j3 j4 j5 j6 jf
    obtain ⟨I1, s1, s2, s3, s4⟩ := x4_settle (L := L) (c := c) (t := t) ha (show 1 ≤ rkS g by omega) (by omega) j1 j2 (by omega) h5
    have hl := sttl_len (rkS g) pend
    obtain ⟨I2, r1, r2, r3, r4, r5⟩ := x4_postpone (L := L) (c := c) (t := t) ha s3 (by omega) g
    refine ⟨upI I2 a 8 (n2 0), ?_, ⟨(s2.fr r5 r4).fr (upI_ni (by omega)) fun i => upI_ne (by omega), r2.fr (upI_ni (by omega)) fun i => upI_ne (by omega), ?_, ?_, ?_, ?_⟩, ((jf.trans s4.fr).trans r3.fr).trans (.up (by omega) (by omega))⟩
    · unfold fX4_takeBehind_43
      rw [s1, qbnd_s]
      dsimp only
      rw [r1, qbnd_s]
      dsimp only
      rw [if_pos (.inl rfl), l_0, ru_U8 ha, qbnd_s, l_1, if_pos yes_qz]
    · rw [upI_ni (by omega), r3.own (by omega), s4.own (by omega)]; exact j3
    · rw [upI_ni (by omega), r3.own (by omega), s4.own (by omega)]; exact j4
    · rw [upI_ni (by omega), r3.own (by omega), s4.own (by omega)]; exact j5
    · rw [upI_eq]; rfl
  by_cases e4 : rkS g = 1
  · rw [if_pos (by rw [e4])]
    rcases bcs (cm.testBit d) with e5 | e5
    · rw [e5, if_pos no_zero, if_neg (fun z => absurd z.2 (by decide)), if_pos e4]
      have hF : Fr I (upI I a 7 (n2 (cm ||| 1 <<< d))) a (a + 3) := .up (by omega) (by omega)
      obtain ⟨I', f1, f2, f3⟩ := fin (J := upI I a 7 (n2 (cm ||| 1 <<< d))) (cm ||| 1 <<< d) (k1.fr (upI_ni (by omega)) fun i => upI_ne (by omega)) (k2.fr (upI_ni (by omega)) fun i => upI_ne (by omega)) (by rw [upI_ni (by omega)]; exact k3) (by rw [upI_ni (by omega)]; exact k4) upI_eq (by rw [upI_ni (by omega)]; exact k6) hF
      refine ⟨I', ?_, fun K' hs => ?_, f3⟩
      · unfold fX4_takeBehind_31
        rw [l_1, if_pos (by rw [e4]), ru_I7 ha, qbnd_s, k5, ru_I5 ha, qbnd_s, k3, l_31, n2_31 (by omega), n2_shl (by omega), n2_or, ru_U7 ha, qbnd_s]
        exact f1
      · obtain rfl := Option.some.inj hs
        exact f2
    · rw [e5, if_neg yes_zero, if_pos ⟨e4, rfl⟩]
      exact ⟨I, rfl, fun K' hs => absurd hs (by simp), .rf _ _ _⟩
  · rw [if_neg (by rw [n2_eq (by omega) (by omega)]; exact e4), if_neg (fun z => e4 z.1), if_neg e4]
    obtain ⟨I', f1, f2, f3⟩ := fin (J := I) cm k1 k2 k3 k4 k5 k6 (.rf _ _ _)
    refine ⟨I', ?_, fun K' hs => ?_, f3⟩
    · unfold fX4_takeBehind_31
      rw [l_1, if_neg (by rw [n2_eq (by omega) (by omega)]; exact e4)]
      exact f1
    · obtain rfl := Option.some.inj hs
      exact f2
end S7RF

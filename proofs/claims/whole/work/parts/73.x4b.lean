/-! PURE SIDE, THE CLASS: reading a rule, in memory -/
def CoW (I : Nat → Nat → Int32) (a : Nat) (code : List Nat) : Prop := I a 3 = n2 code.length ∧ ∀ i, i < code.length → I (a + 1) i = c7 (code.getD i 0)
def PeW (I : Nat → Nat → Int32) (a : Nat) (pend : List Nat) : Prop := I a 4 = n2 pend.length ∧ ∀ i, i < pend.length → I (a + 2) i = n2 (pend.reverse.getD i 0)
/-- code and what is put off alone have changed -/
def Fcp (I I' : Nat → Nat → Int32) (a : Nat) : Prop := ∀ b i, b ≠ a + 1 → b ≠ a + 2 → ¬ (b = a ∧ (i = 3 ∨ i = 4)) → I' b i = I b i
theorem Fcp.rf (I : Nat → Nat → Int32) (a : Nat) : Fcp I I a := fun _ _ _ _ _ => rfl
theorem Fcp.trans {I I1 I2 : Nat → Nat → Int32} {a : Nat} (h1 : Fcp I I1 a) (h2 : Fcp I1 I2 a) : Fcp I I2 a := fun b i x y z => (h2 b i x y z).trans (h1 b i x y z)
def KmW (I : Nat → Nat → Int32) (a : Nat) (K : Kt) : Prop := CoW I a K.1 ∧ PeW I a K.2.1 ∧ I a 5 = n2 K.2.2.1 ∧ I a 6 = n2 K.2.2.2.1 ∧ I a 7 = n2 K.2.2.2.2.1 ∧ I a 8 = n2 (bn K.2.2.2.2.2)
theorem it_c7 : ∀ g, g < 257 → rkS g ≠ 0 → c7 (itS g) = -n2 g := by decide +kernel
theorem li_c7 : ∀ g, g < 256 → liS g < 7 → c7 (1000 + liS g) = -n2 g := by decide +kernel
section S7RD
variable {I : Nat → Nat → Int32} {L : Nat → Nat → Int64} {c t a : Nat} {code pend : List Nat} {tx : List Nat} {μ : qM}
theorem x4_rankOf {g : Nat} (hg : g < 2147483648) : fX4_rankOf (n2 g) μ = some (n2 (rkS g), 0, μ) := by
  unfold rkS
  simp (disch := first | assumption | omega) only [fX4_rankOf, l_0, l_1, l_2, l_3, l_4, l_5, l_6, l_7, l_8, l_9, l_10, l_11, l_12, l_15, l_16, l_21, l_24, l_31, l_32, l_40, l_64, l_76, l_80, l_84, l_85, l_99, l_255, l_256, l_680, l_688, l_696, l_704, l_712, l_720, l_728, l_736, l_744, l_752, l_753, l_754, l_755, l_1000, l_2000, l_3000, l_7550, l_1000000, l_41, l_42, l_43, l_45, l_47, l_48, l_56, l_57, l_60, l_61, l_62, l_63, l_73, l_83, l_88, l_97, l_98, l_100, l_101, l_102, l_103, l_104, l_105, l_108, l_111, l_113, l_117, l_118, l_119, l_120, l_65536, n2_31, n2_add, n2_mul, n2_sub, n2_eq, n2_le, n2_lt, n2_div, n2_qz0, n2_qz1, n2_qzb, bn_0, bn_1, bn_t, bn_f, n2_eqm, n2_meq, n2_ltm, n2_mlt, n2_lem, n2_mle, if_true, if_false, qbnd_s, ite_true, ite_false, if_pos, reduceIte, z_n, z_10]
  repeat' split
  all_goals first | rfl | contradiction
theorem x4_isLetter {g : Nat} (hg : g < 2147483648) : fX4_isLetter (n2 g) μ = some (n2 (bn (decide (liS g < 7))), 0, μ) := by
  unfold liS
  simp (disch := first | assumption | omega) only [fX4_isLetter, l_0, l_1, l_2, l_3, l_4, l_5, l_6, l_7, l_8, l_9, l_10, l_11, l_12, l_15, l_16, l_21, l_24, l_31, l_32, l_40, l_64, l_76, l_80, l_84, l_85, l_99, l_255, l_256, l_680, l_688, l_696, l_704, l_712, l_720, l_728, l_736, l_744, l_752, l_753, l_754, l_755, l_1000, l_2000, l_3000, l_7550, l_1000000, l_41, l_42, l_43, l_45, l_47, l_48, l_56, l_57, l_60, l_61, l_62, l_63, l_73, l_83, l_88, l_97, l_98, l_100, l_101, l_102, l_103, l_104, l_105, l_108, l_111, l_113, l_117, l_118, l_119, l_120, l_65536, n2_31, n2_add, n2_mul, n2_sub, n2_eq, n2_le, n2_lt, n2_div, n2_qz0, n2_qz1, n2_qzb, bn_0, bn_1, bn_t, bn_f, n2_eqm, n2_meq, n2_ltm, n2_mlt, n2_lem, n2_mle, if_true, if_false, qbnd_s, ite_true, ite_false, if_pos, reduceIte, z_n, z_10]
  repeat' split
  all_goals first | rfl | contradiction | (simp; done) | omega
theorem CoW.fr {I' : Nat → Nat → Int32} (h : CoW I a code) (h3 : I' a 3 = I a 3) (hf : ∀ i, I' (a + 1) i = I (a + 1) i) : CoW I' a code := ⟨by rw [h3]; exact h.1, fun i hi => by rw [hf]; exact h.2 i hi⟩
theorem PeW.fr {I' : Nat → Nat → Int32} (h : PeW I a pend) (h3 : I' a 4 = I a 4) (hf : ∀ i, I' (a + 2) i = I (a + 2) i) : PeW I' a pend := ⟨by rw [h3]; exact h.1, fun i hi => by rw [hf]; exact h.2 i hi⟩
theorem x4_put (ha : a ∈ rul) (hC : CoW I a code) (hl : code.length < 40) (x : Nat) {v : Int32} (hv : v = c7 x) : ∃ I', fX4_put a v (mk I L c t) = some (n2 0, 0, mk I' L c t) ∧ CoW I' a (code ++ [x]) ∧ Fcp I I' a ∧ (∀ i, I' (a + 2) i = I (a + 2) i) ∧ I' a 4 = I a 4 := by
  subst hv
  refine ⟨upI (upI I (a + 1) code.length (c7 x)) a 3 (n2 (code.length + 1)), ?_, ⟨by rw [upI_eq]; simp, fun i hi => ?_⟩, fun b i h1 h2 h3 => ?_, fun i => ?_, ?_⟩
  · have q3 : ¬ n2 40 ≤ n2 code.length := by rw [n2_le (by omega) (by omega)]; omega
    have hu : (upI I (a + 1) code.length (c7 x)) a 3 = n2 code.length := by rw [upI_ne (by omega)]; exact hC.1
    unfold fX4_put
    rw [if_pos (of_eq_true (ru_q ha))]
    unfold gX4_put
    rw [ru_I3 ha, qbnd_s, hC.1, l_40, if_neg q3, ru_P0 ha, qbnd_s, qbnd_s, ru_S0 ha (by omega), qbnd_s, ru_I3 ha, qbnd_s, hu, l_1, n2_add, ru_U3 ha, qbnd_s]
    rfl
  · rw [upI_ne (by omega)]
    by_cases e : i = code.length
    · subst e
      rw [upI_eq, getD_at]
    · have hi2 : i < code.length := by
        rw [List.length_append] at hi
        simp at hi
        omega
      rw [upI_ni e, getD_lt hi2]
      exact hC.2 i hi2
  · by_cases e : b = a
    · subst e
      rw [upI_ni (fun z => h3 ⟨rfl, .inl z⟩), upI_ne (by omega)]
    · rw [upI_ne e, upI_ne h1]
  · rw [upI_ne (by omega), upI_ne (by omega)]
  · rw [upI_ni (by omega), upI_ne (by omega)]
theorem x4_postpone (ha : a ∈ rul) (hP : PeW I a pend) (hl : pend.length < 40) (g : Nat) : ∃ I', fX4_postpone a (n2 g) (mk I L c t) = some (n2 0, 0, mk I' L c t) ∧ PeW I' a (g :: pend) ∧ Fcp I I' a ∧ (∀ i, I' (a + 1) i = I (a + 1) i) ∧ I' a 3 = I a 3 := by
  refine ⟨upI (upI I (a + 2) pend.length (n2 g)) a 4 (n2 (pend.length + 1)), ?_, ⟨by rw [upI_eq]; simp, fun i hi => ?_⟩, fun b i h1 h2 h3 => ?_, fun i => ?_, ?_⟩
  · have q3 : ¬ n2 40 ≤ n2 pend.length := by rw [n2_le (by omega) (by omega)]; omega
    have hu : (upI I (a + 2) pend.length (n2 g)) a 4 = n2 pend.length := by rw [upI_ne (by omega)]; exact hP.1
    unfold fX4_postpone
    rw [if_pos (of_eq_true (ru_q ha))]
    unfold gX4_postpone
    rw [ru_I4 ha, qbnd_s, hP.1, l_40, if_neg q3, ru_P1 ha, qbnd_s, qbnd_s, ru_S1 ha (by omega), qbnd_s, ru_I4 ha, qbnd_s, hu, l_1, n2_add, ru_U4 ha, qbnd_s]
    rfl
  · rw [upI_ne (by omega), List.reverse_cons]
    by_cases e : i = pend.length
    · subst e
      rw [upI_eq]
      have := getD_at (l := pend.reverse) (x := g) (d := 0)
      rw [List.length_reverse] at this
      rw [this]
    · have hi2 : i < pend.length := by
        rw [List.length_cons] at hi
        omega
      rw [upI_ni e, getD_lt (by rw [List.length_reverse]; exact hi2)]
      exact hP.2 i hi2
  · by_cases e : b = a
    · subst e
      rw [upI_ni (fun z => h3 ⟨rfl, .inr z⟩), upI_ne (by omega)]
    · rw [upI_ne e, upI_ne h2]
  · rw [upI_ne (by omega), upI_ne (by omega)]
  · rw [upI_ni (by omega), upI_ne (by omega)]
theorem PeW.pop {g : Nat} {P : List Nat} (h : PeW I a (g :: P)) : PeW (upI I a 4 (n2 P.length)) a P ∧ I (a + 2) P.length = n2 g := by
  have h2 := h.2
  rw [List.reverse_cons] at h2
  refine ⟨⟨upI_eq, fun i hi => ?_⟩, ?_⟩
  · rw [upI_ne (by omega), h2 i (by rw [List.length_cons]; omega), getD_lt (by rw [List.length_reverse]; exact hi)]
  · rw [h2 P.length (by rw [List.length_cons]; omega)]
    have := getD_at (l := P.reverse) (x := g) (d := 0)
    rw [List.length_reverse] at this
    rw [this]
theorem st_loop (ha : a ∈ rul) {r : Nat} (hr : 1 ≤ r) (hr4 : r ≤ 4) : ∀ (P : List Nat) (f : Nat) (code : List Nat) (I : Nat → Nat → Int32), P.length < f → CoW I a code → PeW I a P → code.length + P.length ≤ 40 → (∀ g ∈ P, pok g = true) → ∃ I', fX4_settle_3 f a (n2 r) (n2 P.length) (mk I L c t) = some (n2 0, 0, mk I' L c t) ∧ CoW I' a (code ++ (sttl r P).1) ∧ PeW I' a (sttl r P).2 ∧ Fcp I I' a
  | [], f, code, I, hf, hC, hP, hl, hp => by
    obtain ⟨f', rfl⟩ : ∃ f', f = f' + 1 := ⟨f - 1, by simp at hf; omega⟩
    refine ⟨I, ?_, by simpa [sttl] using hC, hP, .rf I a⟩
    rw [fX4_settle_3]
    dsimp only
    rw [l_0, List.length_nil, if_pos (by rw [n2_le (by omega) (by omega)]; omega)]
  | g :: P, f, code, I, hf, hC, hP, hl, hp => by
    obtain ⟨f', rfl⟩ : ∃ f', f = f' + 1 := ⟨f - 1, by simp at hf; omega⟩
    rw [List.length_cons] at hf hl
    obtain ⟨p1, p2⟩ := hP.pop
    have hg := hp g (List.mem_cons_self ..)
    have hg257 : g < 257 := by rcases pok_9 hg with rfl | rfl | rfl | rfl | rfl | rfl | rfl | rfl | rfl <;> omega
    have hrk : rkS g ≤ 4 := by
      have : ∀ g, g < 257 → rkS g ≤ 4 := by decide +kernel
      exact this g hg257
    have head : fX4_settle_3 (f' + 1) a (n2 r) (n2 (g :: P).length) (mk I L c t) = if n2 r ≤ n2 (rkS g) then (qbnd (fX4_put a (-n2 g) (mk I L c t)) fun r4 =>
        qbnd (oGetI r4.2.2 4 a 4) fun v5 =>
        qbnd (oPutI r4.2.2 4 a 4 (v5 - n2 1)) fun μ6 =>
        fX4_settle_3 f' a (n2 r) (n2 P.length) μ6) else some (n2 0, 0, mk I L c t) := by
      rw [fX4_settle_3]
      dsimp only
      rw [l_0, List.length_cons, if_neg (by rw [n2_le (by omega) (by omega)]; omega), ru_P1 ha, qbnd_s, l_1, n2_sub (by omega), Nat.add_sub_cancel, ru_L1 ha (by omega), qbnd_s, p2, x4_rankOf (by omega), qbnd_s]
      dsimp only
      rw [n2_dec (by omega), Nat.add_sub_cancel]
    rw [head]
    by_cases e : rkS g < r
    · refine ⟨I, ?_, ?_, ?_, .rf I a⟩
      · rw [if_neg (by rw [n2_le (by omega) (by omega)]; omega)]
      · simp only [sttl]
        rw [if_pos e, List.append_nil]
        exact hC
      · simp only [sttl]
        rw [if_pos e]
        exact hP
    · obtain ⟨I1, r1, r2, r3, r4, r5⟩ := x4_put (L := L) (c := c) (t := t) ha hC (by omega) (itS g) (v := -n2 g) (it_c7 g hg257 (by omega)).symm
      have hP1 : PeW (upI I1 a 4 (n2 P.length)) a P := by
        refine p1.fr ?_ fun i => ?_
        · rw [upI_eq, upI_eq]
        · rw [upI_ne (by omega), upI_ne (by omega), r4]
      have hC1 : CoW (upI I1 a 4 (n2 P.length)) a (code ++ [itS g]) := r2.fr (upI_ni (by omega)) fun i => upI_ne (by omega)
      obtain ⟨I', q1, q2, q3, q4⟩ := st_loop ha hr hr4 P f' (code ++ [itS g]) (upI I1 a 4 (n2 P.length)) (by omega) hC1 hP1 (by simp; omega) fun q hq => hp q (List.mem_cons_of_mem g hq)
      refine ⟨I', ?_, ?_, ?_, (r3.trans fun b i h1 h2 h3 => ?_).trans q4⟩
      · have h4 : I1 a 4 = n2 (P.length + 1) := by rw [r5]; exact hP.1
        rw [if_pos (by rw [n2_le (by omega) (by omega)]; omega), r1, qbnd_s]
        dsimp only
        rw [ru_I4 ha, qbnd_s, h4, n2_sub (by omega), Nat.add_sub_cancel, ru_U4 ha, qbnd_s]
        exact q1
      · simp only [sttl]
        rw [if_neg e]
        rw [List.append_assoc] at q2
        exact q2
      · simp only [sttl]
        rw [if_neg e]
        exact q3
      · by_cases e2 : b = a
        · subst e2
          exact upI_ni fun z => h3 ⟨rfl, .inr z⟩
        · exact upI_ne e2
theorem x4_settle (ha : a ∈ rul) {r : Nat} (hr : 1 ≤ r) (hr4 : r ≤ 4) (hC : CoW I a code) (hP : PeW I a pend) (hl : code.length + pend.length ≤ 40) (hp : ∀ g ∈ pend, pok g = true) : ∃ I', fX4_settle a (n2 r) (mk I L c t) = some (n2 0, 0, mk I' L c t) ∧ CoW I' a (code ++ (sttl r pend).1) ∧ PeW I' a (sttl r pend).2 ∧ Fcp I I' a := by
  obtain ⟨I', q1, q2, q3, q4⟩ := st_loop (L := L) (c := c) (t := t) ha hr hr4 pend qfu code I (by rw [qfu_eq]; omega) hC hP hl hp
  refine ⟨I', ?_, q2, q3, q4⟩
  unfold fX4_settle
  rw [if_pos (of_eq_true (ru_q ha))]
  unfold gX4_settle
  rw [ru_I4 ha, qbnd_s, hP.1]
  exact q1
end S7RD

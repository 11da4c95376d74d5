/-! PURE SIDE, THE CLASS: rule and law -/
section S7RG2
variable {I : Nat → Nat → Int32} {L : Nat → Nat → Int64} {c t a p N : Nat} {tx : List Nat} {μ : qM} {K : Kt} {s : St} {h : List St} {kp : Nat → Option St} {row : List Int64} {cs : List Nat}
theorem KmW.fr {I' : Nat → Nat → Int32} (h : KmW I a K) (hf : ∀ b i, a ≤ b → b < a + 3 → I' b i = I b i) : KmW I' a K := by
  obtain ⟨k1, k2, k3, k4, k5, k6⟩ := h
  exact ⟨k1.fr (hf _ _ (by omega) (by omega)) fun i => hf _ _ (by omega) (by omega), k2.fr (hf _ _ (by omega) (by omega)) fun i => hf _ _ (by omega) (by omega), by rw [hf _ _ (by omega) (by omega)]; exact k3, by rw [hf _ _ (by omega) (by omega)]; exact k4, by rw [hf _ _ (by omega) (by omega)]; exact k5, by rw [hf _ _ (by omega) (by omega)]; exact k6⟩
theorem x4_read (ha : a ∈ rul) (hT : TeW I tx) : ∃ I', fX4_read a 198 (mk I L c t) = some (oi (rdS tx).1, 0, mk I' L c t) ∧ ((rdS tx).1 = none → RuW I' a (rdS tx).2) ∧ Fr I I' a (a + 3) := by
  have hl80 := hT.2.1
  have ha3 : a + 3 < 256 ∧ 200 ≤ a := by rcases rul_2 ha with rfl | rfl <;> omega
  obtain ⟨T, hTk⟩ : ∃ T, tx.take 40 = T := ⟨_, rfl⟩
  have hTl : T.length = min tx.length 40 := by rw [← hTk, List.length_take]; omega
  generalize hI0 : upI (upI (upI (upI (upI (upI I a 3 (n2 0)) a 4 (n2 0)) a 5 (n2 0)) a 6 (n2 0)) a 7 (n2 0)) a 8 (n2 0) = I0
  have f0 : Fr I I0 a (a + 3) := by
    rw [← hI0]
    exact (((((Fr.up (by omega) (by omega)).trans (.up (by omega) (by omega))).trans (.up (by omega) (by omega))).trans (.up (by omega) (by omega))).trans (.up (by omega) (by omega))).trans (.up (by omega) (by omega))
  have hT0 : ∀ {J : Nat → Nat → Int32}, Fr I J a (a + 3) → TeW J tx := fun f => hT.on fun b i h1 h2 => f b i (by omega)
  have k0 : KmW I0 a k00 := by
    subst hI0
    refine ⟨⟨?_, fun i hi => absurd hi (Nat.not_lt_zero i)⟩, ⟨?_, fun i hi => absurd hi (Nat.not_lt_zero i)⟩, ?_, ?_, ?_, ?_⟩
    · rw [upI_ni (by omega), upI_ni (by omega), upI_ni (by omega), upI_ni (by omega), upI_ni (by omega), upI_eq]; rfl
    · rw [upI_ni (by omega), upI_ni (by omega), upI_ni (by omega), upI_ni (by omega), upI_eq]; rfl
    · rw [upI_ni (by omega), upI_ni (by omega), upI_ni (by omega), upI_eq]; rfl
    · rw [upI_ni (by omega), upI_ni (by omega), upI_eq]; rfl
    · rw [upI_ni (by omega), upI_eq]; rfl
    · rw [upI_eq]; rfl
  have hm : (if n2 40 < n2 tx.length then n2 40 else n2 tx.length) = n2 T.length := by
    rw [hTl]
    by_cases e : 40 < tx.length
    · rw [if_pos (by rw [n2_lt (by omega) (by omega)]; exact e), Nat.min_eq_right (by omega)]
    · rw [if_neg (by rw [n2_lt (by omega) (by omega)]; exact e), Nat.min_eq_left (by omega)]
  have head : fX4_read a 198 (mk I L c t) = fX4_read_25 qfu a 198 (n2 T.length) (n2 0) (mk I0 L c t) := by
    have hv : I0 198 1 = n2 tx.length := (hT0 f0).1
    unfold fX4_read
    rw [if_pos (of_eq_true (ru_q ha))]
    unfold gX4_read
    rw [l_0, ru_U3 ha, qbnd_s, ru_U4 ha, qbnd_s, ru_U5 ha, qbnd_s, ru_U6 ha, qbnd_s, ru_U7 ha, qbnd_s, if_pos (.inl rfl), ru_U8 ha, qbnd_s, hI0, g198_1, qbnd_s, hv, l_40, hm]
  rw [head]
  refine lp_r (α := Kt × (Nat → Nat → Int32)) (fun f k z => fX4_read_25 f a 198 (n2 T.length) (n2 k) (mk z.2 L c t)) T.length (fun k z => krun (T.drop k) z.1 k = krun T k00 0 ∧ KmW z.2 a z.1 ∧ KI k z.1 ∧ Fr I z.2 a (a + 3) ∧ (k ≠ 0 → True)) (fun r => ∃ I', r = some (oi (rdS tx).1, 0, mk I' L c t) ∧ ((rdS tx).1 = none → RuW I' a (rdS tx).2) ∧ Fr I I' a (a + 3)) (fun f k z hk hi => ?_) (fun f z hi => ?_) T.length 0 qfu (k00, I0) (by omega) (by rw [qfu_eq]; omega) ⟨rfl, k0, ki_0, f0, fun _ => trivial⟩
  · obtain ⟨K, J⟩ := z
    obtain ⟨i1, i2, i3, i4, -⟩ := hi
    dsimp only at i1 i2 i3 i4
    have hg := tx_lt hT k
    obtain ⟨g, hgv⟩ : ∃ g, tx.getD k 0 = g := ⟨_, rfl⟩
    rw [hgv] at hg
    have hd : T.drop k = g :: T.drop (k + 1) := by
      rw [List.drop_eq_getElem_cons hk]
      congr 1
      rw [← hgv]
      subst hTk
      rw [List.getElem_take, List.getD_eq_getElem?_getD, List.getElem?_eq_getElem (by omega)]
      rfl
    rw [hd] at i1
    simp only [krun] at i1
    have hb : J a 8 = n2 (bn K.2.2.2.2.2) := i2.2.2.2.2.2
    have take : ∃ I', (if n2 (bn K.2.2.2.2.2) = n2 0 then fX4_takeThing a (n2 g) (mk J L c t) else fX4_takeBehind a (n2 g) (mk J L c t)) = some (n2 (bn (kstep g K).isSome), 0, mk I' L c t) ∧ (∀ K', kstep g K = some K' → KmW I' a K') ∧ Fr J I' a (a + 3) := by
      rcases bcs K.2.2.2.2.2 with e | e
      · rw [e, if_pos no_zero]
        exact x4_takeThing ha i2 i3 (by omega) e hg
      · rw [e, if_neg yes_zero]
        exact x4_takeBehind ha i2 i3 (by omega) e hg
    obtain ⟨J', t1, t2, t3⟩ := take
    have hstep : fX4_read_25 (f + 1) a 198 (n2 T.length) (n2 k) (mk J L c t) = if n2 (bn (kstep g K).isSome) = n2 0 then some (n2 k, 0, mk J' L c t) else fX4_read_25 f a 198 (n2 T.length) (n2 (k + 1)) (mk J' L c t) := by
      rw [fX4_read_25]
      dsimp only
      rw [if_neg (by rw [n2_le (by omega) (by omega)]; omega), x6_at (hT0 i4) (by omega), qbnd_s]
      dsimp only
      rw [hgv, ru_I8 ha, qbnd_s, hb, l_0]
      unfold fX4_read_42
      rw [l_0, l_1, n2_add]
      rcases bcs K.2.2.2.2.2 with e | e
      · rw [e, if_pos no_zero] at t1 ⊢
        rw [t1, qbnd_s]
      · rw [e, if_neg yes_zero] at t1 ⊢
        rw [t1, qbnd_s]
    cases hs : kstep g K with
    | none =>
      rw [hs] at i1 hstep
      dsimp only at i1
      have hr : rdS tx = (some k, []) := by
        unfold rdS
        rw [hTk, ← i1]
      refine .inl ⟨J', ?_, fun z => ?_, i4.trans t3⟩
      · show fX4_read_25 (f + 1) a 198 (n2 T.length) (n2 k) (mk J L c t) = _
        rw [hstep, hr]
        exact if_pos no_zero
      · rw [hr] at z
        exact absurd z (by simp)
    | some K' =>
      rw [hs] at i1 hstep
      dsimp only at i1
      refine .inr ⟨(K', J'), ?_, i1, t2 K' hs, ki_s i3 hg hs, i4.trans t3, fun _ => trivial⟩
      show fX4_read_25 (f + 1) a 198 (n2 T.length) (n2 k) (mk J L c t) = _
      rw [hstep]
      exact if_neg yes_zero
  · obtain ⟨K, J⟩ := z
    obtain ⟨i1, i2, i3, i4, -⟩ := hi
    dsimp only at i1 i2 i3 i4
    rw [List.drop_length] at i1
    have hkr : krun T k00 0 = (none, K) := i1.symm
    obtain ⟨code, pend, d, dg, cm, bh⟩ := K
    obtain ⟨h1, h2, h3, h4, h5, h6, h7, h8⟩ := i3
    obtain ⟨k1, k2, k3, k4, k5, k6⟩ := i2
    dsimp only at h1 h2 h3 h4 h5 h6 h7 h8 k1 k2 k3 k4 k5 k6
    obtain ⟨I1, s1, s2, s3, s4⟩ := x4_settle (L := L) (c := c) (t := t) ha (Nat.le_refl 1) (by omega) k1 k2 (by omega) h5
    have hsl := sttl_len 1 pend
    have hh := hgt_sttl 1 pend (Nat.le_refl 1) h5
    have hv : J 198 1 = n2 tx.length := (hT0 i4).1
    have hr : rdS tx = if 40 < tx.length then (some 40, []) else if tx ≠ [] ∧ (bh = false ∨ 0 < d) then (some tx.length, []) else (none, code ++ (sttl 1 pend).1) := by
      unfold rdS
      rw [hTk, hkr]
    have hstep : fX4_read_25 (f + 1) a 198 (n2 T.length) (n2 T.length) (mk J L c t) = if n2 tx.length ≤ n2 40 then (if n2 T.length ≤ n2 0 then some (-n2 1, 0, mk I1 L c t) else if n2 (bn bh) = n2 0 then some (n2 T.length, 0, mk J L c t) else if n2 d ≤ n2 0 then some (-n2 1, 0, mk I1 L c t) else some (n2 T.length, 0, mk J L c t)) else some (n2 40, 0, mk J L c t) := by
      rw [fX4_read_25]
      dsimp only
      rw [if_pos (by rw [n2_le (by omega) (by omega)]; exact Nat.le_refl _), g198_1, qbnd_s, hv, l_40, l_0, l_1, s1, qbnd_s, ru_I8 ha, qbnd_s, k6, ru_I5 ha, qbnd_s, k3]
    have goal : ∃ I', fX4_read_25 (f + 1) a 198 (n2 T.length) (n2 T.length) (mk J L c t) = some (oi (rdS tx).1, 0, mk I' L c t) ∧ ((rdS tx).1 = none → RuW I' a (rdS tx).2) ∧ Fr I I' a (a + 3) := by
      rw [hstep, hr]
      by_cases e1 : 40 < tx.length
      · rw [if_neg (by rw [n2_le (by omega) (by omega)]; omega), if_pos e1]
        exact ⟨J, rfl, fun z => absurd z (by simp), i4⟩
      rw [if_pos (by rw [n2_le (by omega) (by omega)]; omega), if_neg e1]
      have hTL : T.length = tx.length := by omega
      by_cases e2 : tx = []
      · have e20 : tx.length = 0 := by rw [e2]; rfl
        have hK0 : ((none, (code, pend, d, dg, cm, bh)) : Option Nat × Kt) = (none, k00) := by
          rw [← hkr]
          have : T = [] := List.length_eq_zero_iff.mp (by omega)
          rw [this]
          rfl
        have hK1 := (Prod.mk.inj hK0).2
        have c0 : code = [] := congrArg (fun z : Kt => z.1) hK1
        have p0 : pend = [] := congrArg (fun z : Kt => z.2.1) hK1
        rw [if_pos (by rw [n2_le (by omega) (by omega)]; omega), if_neg (fun z => z.1 e2)]
        refine ⟨I1, rfl, fun _ => ?_, i4.trans s4.fr⟩
        subst c0
        subst p0
        exact ⟨by simp [sttl], s2.1, s2.2, fun z => absurd rfl z⟩
      · have e20 : tx.length ≠ 0 := fun z => e2 (List.length_eq_zero_iff.mp z)
        rw [if_neg (by rw [n2_le (by omega) (by omega)]; omega)]
        cases bh with
        | false =>
          rw [if_pos no_zero, if_pos ⟨e2, .inl rfl⟩]
          exact ⟨J, by rw [hTL]; rfl, fun z => absurd z (by simp), i4⟩
        | true =>
          rw [if_neg yes_zero]
          by_cases e3 : 0 < d
          · rw [if_neg (by rw [n2_le (by omega) (by omega)]; omega), if_pos ⟨e2, .inr e3⟩]
            exact ⟨J, by rw [hTL]; rfl, fun z => absurd z (by simp), i4⟩
          · rw [if_pos (by rw [n2_le (by omega) (by omega)]; omega), if_neg (fun z => z.2.elim (fun q => absurd q (by decide)) e3)]
            refine ⟨I1, rfl, fun _ => ⟨by simp; omega, s2.1, s2.2, fun _ => ?_⟩, i4.trans s4.fr⟩
            rw [wfc_hgt, hgt_app, h8]
            show hgt (sttl 1 pend).1 (nbS pend + 1) = some 1
            rw [hh]
            rcases sttl_1 pend h5 with ⟨z1, z2⟩ | ⟨Q, z1⟩
            · rw [z1]; rfl
            · have hcp := sttl_cp 1 (Nat.le_refl 1) pend
              rw [z1, cp_cons] at hcp
              have c40 : cpS [40] = 1 := rfl
              omega
    exact goal
end S7RG2

/-! PURE SIDE, THE REFERENCE: a rule, and how another would do -/
theorem rd_pure {tx : List Nat} (h1 : tx.length ≤ 80) (h2 : ∀ i, i < tx.length → tx.getD i 0 < 256) : ((rdS tx).1 = none → (rdS tx).2.length ≤ 40 ∧ ((rdS tx).2 ≠ [] → wfc (rdS tx).2 0 = true)) ∧ (∀ p, (rdS tx).1 = some p → p < 100) := by
  have hT : TeW (fun b i => if b = 198 then n2 tx.length else n2 (tx.getD i 0)) tx := ⟨if_pos rfl, h1, fun i hi => ⟨if_neg (by omega), h2 i hi⟩⟩
  obtain ⟨I1, r1, r2, r3⟩ := x4_read (L := fun _ _ => 0) (c := 0) (t := 0) (show 206 ∈ rul by decide) hT
  exact ⟨fun h => ⟨(r2 h).1, (r2 h).2.2.2⟩, fun p hp => rd_lt hT hp⟩
theorem rdS_flt {tx : List Nat} {m p : Nat} (hne : tx ≠ []) (hm : m = if 40 < tx.length then 40 else tx.length) (h : flt m (KR tx m 0 k00) = some p) : (rdS tx).1 = some p := by
  have hkr : krun (tx.take 40) k00 0 = KR tx m 0 k00 := by
    unfold KR
    rw [List.drop_zero, hm]
    by_cases e : 40 < tx.length
    · rw [if_pos e]
    · rw [if_neg e, List.take_of_length_le (by omega), List.take_length]
  unfold rdS
  rw [hkr]
  generalize KR tx m 0 k00 = z at *
  obtain ⟨z1, K⟩ := z
  unfold flt at h
  dsimp only at h
  cases z1 with
  | some q => exact h
  | none =>
    dsimp only at h ⊢
    by_cases e : K.2.2.2.2.2 = false ∨ 0 < K.2.2.1
    · rw [if_pos e] at h
      by_cases e2 : 40 < tx.length
      · rw [if_pos e2]
        rw [if_pos e2] at hm
        rw [hm] at h
        exact h
      · rw [if_neg e2]
        rw [if_neg e2] at hm
        rw [if_pos ⟨hne, e⟩, ← hm]
        exact h
    · rw [if_neg e] at h
      cases h
section S9N
variable {I I' : Nat → Nat → Int32} {L : Nat → Nat → Int64} {c t r N T n : Nat} {s s' s0 : St} {μ : qM} {h : List St} {kp : Nat → Option St} {tx : List Nat} {row : List Int64} {cs cs' : List Nat} {m p : Nat}
theorem x8_faultOf (hR : Rg I tx m p) (hm : m = if 40 < tx.length then 40 else tx.length) (ok : Bool) : fX8_faultOf 210 (n2 tx.length) (n2 40) (n2 (bn ok)) (mk I L c t) = some (if ok = true ∧ p = m ∧ tx.length ≤ 40 then n2 0 else -n2 1 - n2 p, 0, mk I L c t) := by
  obtain ⟨h1, h2, h3, h4, h5, h6⟩ := hR
  have hm40 : m ≤ 40 := by rw [hm]; split <;> omega
  have f10 : ∀ can : Bool, (can = true → p = m) → fX8_faultOf_10 210 (n2 tx.length) (n2 40) (n2 (bn can)) (mk I L c t) = some (if can = true ∧ tx.length ≤ 40 then n2 0 else -n2 1 - n2 p, 0, mk I L c t) := by
    intro can hcan
    unfold fX8_faultOf_10 fX8_faultOf_24
    rw [g210_5, qbnd_s, qbnd_s, h6, l_0, l_1]
    by_cases e : tx.length ≤ 40
    · rw [if_pos (by rw [n2_le (by omega) (by omega)]; exact e)]
      cases can with
      | false => rw [if_pos no_zero, if_neg (fun z => absurd z.1 (by decide))]
      | true => rw [if_neg yes_zero, if_pos ⟨rfl, e⟩]
    · rw [if_neg (by rw [n2_le (by omega) (by omega)]; exact e), if_neg (show ¬ (can = true ∧ tx.length ≤ 40) from fun z => e z.2)]
      have hm2 : m = 40 := by rw [hm, if_pos (by omega)]
      cases can with
      | false =>
        rw [if_pos no_zero, if_pos no_zero]
        by_cases e2 : p < 40
        · rw [if_pos (by rw [n2_lt (by omega) (by omega)]; exact e2)]
        · rw [if_neg (by rw [n2_lt (by omega) (by omega)]; exact e2), show p = 40 by omega]
      | true => rw [if_neg yes_zero, hcan rfl, hm2]
  unfold fX8_faultOf
  rw [if_pos (by rw [kk_210])]
  unfold gX8_faultOf
  unfold fX8_faultOf_9
  rw [l_0, l_1]
  have fno := f10 false fun z => absurd z (by decide)
  have fyes := fun h => f10 true fun _ => h
  cases ok with
  | false =>
    rw [if_pos no_zero, if_neg (fun z => absurd z.1 (by decide))]
    rw [if_neg (fun z => absurd z.1 (by decide))] at fno
    exact fno
  | true =>
    rw [if_neg yes_zero, g210_5, qbnd_s, g210_6, qbnd_s, h5, h6]
    by_cases e : p = m
    · rw [if_pos (by rw [e])]
      refine (fyes e).trans ?_
      by_cases e2 : tx.length ≤ 40
      · rw [if_pos ⟨rfl, e2⟩, if_pos ⟨rfl, e, e2⟩]
      · rw [if_neg (fun z => e2 z.2), if_neg (fun z => e2 z.2.2)]
    · rw [if_neg (by rw [n2_eq (by omega) (by omega)]; exact e), if_neg (fun z => e z.2.1)]
      rw [if_neg (fun z => absurd z.1 (by decide))] at fno
      exact fno
theorem kr_m {tx : List Nat} {m : Nat} (hm : m = if 40 < tx.length then 40 else tx.length) : krun (tx.take 40) k00 0 = KR tx m 0 k00 := by
  unfold KR
  rw [List.drop_zero, hm]
  by_cases e : 40 < tx.length
  · rw [if_pos e]
  · rw [if_neg e, List.take_of_length_le (by omega), List.take_length]
/-- what reading a rule leaves -/
theorem x8_readsRule [FB] (w : W8 I L s h kp tx row cs) : ∃ I', fX8_readsRule 210 (mk I L c t) = some (match (rdS tx).1 with
    | some p => -n2 1 - n2 p
    | none => n2 0, 0, mk I' L c t) ∧ W8 I' L s h kp [] row cs ∧ Fy I I' ∧ I' 210 0 = I 210 0 ∧ ((rdS tx).1 = none → I' 210 11 = n2 (rdS tx).2.length ∧ ∀ i, i < (rdS tx).2.length → I' 214 i = n2 ((rdS tx).2.getD i 0)) := by
  obtain ⟨t1, t2, t3⟩ := w.te
  obtain ⟨I1, a1, a2, a3, a4, a5, a6⟩ := x8_reads (c := c) (t := t) w (M := 40) (by omega)
  obtain ⟨m, hm⟩ : ∃ m, m = if 40 < tx.length then 40 else tx.length := ⟨_, rfl⟩
  rw [← hm] at a3
  have hm40 : m ≤ 40 := by rw [hm]; split <;> omega
  have hml : m ≤ tx.length := by rw [hm]; split <;> omega
  obtain ⟨J, hJ⟩ : ∃ J, upI I1 210 11 (n2 0) = J := ⟨_, rfl⟩
  have hDJ : Dz I1 J := by rw [← hJ]; exact .up (by omega)
  have hRJ : Rg J tx m 0 := by rw [← hJ]; exact a3.on (fun i => upI_ne (by omega)) (upI_ni (by omega)) (upI_ni (by omega))
  have hJ11 : J 210 11 = n2 0 := by rw [← hJ, upI_eq]
  have dzs : ∀ {K : Nat → Nat → Int32}, Dz I1 K → Fs I1 K := fun hD b i h4 _ _ _ _ _ _ _ _ _ _ hb => hD b i h4 (by omega)
  have dzv : ∀ {K : Nat → Nat → Int32}, Dz I1 K → Fy I I1 → Fy I K := fun hD hF b i hb => (hD b i (by omega) (by omega)).trans (hF b i hb)
  have dz0 : ∀ {K : Nat → Nat → Int32}, Dz I1 K → K 210 0 = I 210 0 := fun hD => (hD _ _ (by omega) (by omega)).trans (a6 _ _ (by omega))
  by_cases hne : tx = []
  · -- nothing to read
    subst hne
    have hm0 : m = 0 := by rw [hm]; rfl
    have hf := x8_faultOf (L := L) (c := c) (t := t) hRJ hm true
    have hrd : rdS [] = (none, []) := rfl
    refine ⟨J, ?_, a2.sc (dzs hDJ), dzv hDJ a5, dz0 hDJ, fun _ => ⟨hJ11, fun i hi => absurd hi (Nat.not_lt_zero i)⟩⟩
    rw [hrd]
    unfold fX8_readsRule
    rw [if_pos (by rw [kk_210])]
    unfold gX8_readsRule
    rw [l_40, a1, qbnd_s]
    dsimp only
    rw [l_0, u210_11, qbnd_s, hJ, if_pos (show n2 ([] : List Nat).length = n2 0 from rfl)]
    unfold fX8_readsRule_13
    rw [l_40, l_1]
    have hf' : fX8_faultOf 210 (n2 ([] : List Nat).length) (n2 40) (n2 1) (mk J L c t) = some (if true = true ∧ 0 = m ∧ ([] : List Nat).length ≤ 40 then n2 0 else -n2 1 - n2 0, 0, mk J L c t) := hf
    rw [hf', if_pos ⟨rfl, hm0.symm, Nat.zero_le _⟩, qbnd_s]
  · have hpos : 0 < tx.length := List.length_pos_iff.mpr hne
    have hSJ : RSt J tx m 0 0 [] := ⟨hRJ, by rw [← hJ, upI_ni (by omega)]; exact a4, hJ11, fun i hi => absurd hi (Nat.not_lt_zero i), Nat.le_refl 0⟩
    obtain ⟨I2, p, ok, f1, f2, f3, f4, f5⟩ := (ptr_ok hm40 hml (qdp + 1)).2 L c t J 0 0 0 [] [] 0 0 (by omega) (by omega) (by rw [qdp_eq]; omega) (fun g P' hg => by cases hg) (fun _ => Nat.zero_testBit _) hSJ
    have f1' : fX8_readsRank (sX8_readsRank_X8_readsThing qdp) 210 (n2 0) (mk J L c t) = some (n2 (bn ok), 0, mk I2 L c t) := f1
    have hD2 : Dz I1 I2 := hDJ.trans f2
    have hR2 : Rg I2 tx m p := by
      cases ok with
      | false => exact (f5 rfl).1
      | true => obtain ⟨C', g1, -⟩ := f4 rfl; exact g1.1
    have hf := x8_faultOf (L := L) (c := c) (t := t) hR2 hm ok
    have hans : fX8_readsRule 210 (mk I L c t) = some (if ok = true ∧ p = m ∧ tx.length ≤ 40 then n2 0 else -n2 1 - n2 p, 0, mk I2 L c t) := by
      unfold fX8_readsRule
      rw [if_pos (by rw [kk_210])]
      unfold gX8_readsRule
      rw [l_40, a1, qbnd_s]
      dsimp only
      rw [l_0, u210_11, qbnd_s, hJ, if_neg (by rw [n2_eq (by omega) (by omega)]; omega), f1', qbnd_s]
      dsimp only
      cases ok with
      | false =>
        have hf' : fX8_faultOf 210 (n2 tx.length) (n2 40) (n2 0) (mk I2 L c t) = _ := hf
        rw [if_pos no_zero, hf', qbnd_s]
      | true =>
        have hf' : fX8_faultOf 210 (n2 tx.length) (n2 40) (n2 1) (mk I2 L c t) = _ := hf
        rw [if_neg yes_zero]
        unfold fX8_readsRule_13
        rw [l_40, l_1, hf', qbnd_s]
    have hk0 : KR tx m 0 ([], [], 0, 0, 0, false) = KR tx m 0 k00 := rfl
    cases ok with
    | false =>
      have hrd := rdS_flt hne hm (f5 rfl).2.2
      refine ⟨I2, ?_, a2.sc (dzs hD2), dzv hD2 a5, dz0 hD2, fun z => by rw [hrd] at z; cases z⟩
      rw [hans, hrd, if_neg (fun z => absurd z.1 (by decide))]
    | true =>
      obtain ⟨C', g1, g2, g3⟩ := f4 rfl
      have hpm := hR2.2.2.2.1
      by_cases e : p = m
      · subst e
        obtain ⟨Q, U, n', cm', s1, s2, s3, s4, s5, s6, s7⟩ := g3
        rw [hk0, KR_m, List.append_nil] at s1
        have hst := sttl_app (r := 1) U [] s3 (fun g P' hg => by cases hg)
        rw [List.append_nil] at hst
        have hrd : rdS tx = if 40 < tx.length then (some 40, []) else (none, C') := by
          unfold rdS
          rw [kr_m hm, s1]
          dsimp only
          by_cases e2 : 40 < tx.length
          · rw [if_pos e2, if_pos e2]
          · rw [if_neg e2, if_neg e2, if_neg (fun z => by
              rcases z.2 with y | y
              · exact absurd y (by decide)
              · omega), hst, s2]
        by_cases e2 : 40 < tx.length
        · rw [if_pos e2] at hrd hm
          refine ⟨I2, ?_, a2.sc (dzs hD2), dzv hD2 a5, dz0 hD2, fun z => by rw [hrd] at z; cases z⟩
          rw [hans, hrd, if_neg (fun z => by omega), hm]
        · rw [if_neg e2] at hrd
          refine ⟨I2, ?_, a2.sc (dzs hD2), dzv hD2 a5, dz0 hD2, fun _ => ?_⟩
          · rw [hans, hrd, if_pos ⟨rfl, rfl, by omega⟩]
          · rw [hrd]
            exact ⟨g1.2.2.1, g1.2.2.2.1⟩
      · have hb := g3.bh hml hpm (fun _ _ => rfl) (fun z => absurd z e)
        have hrd := rdS_flt hne hm hb
        refine ⟨I2, ?_, a2.sc (dzs hD2), dzv hD2 a5, dz0 hD2, fun z => by rw [hrd] at z; cases z⟩
        rw [hans, hrd, if_neg (fun z => e z.2.1)]
theorem W8.lay [FB] (w : W8 I L s h kp tx row cs) (f : ∀ b i, b ≠ 213 → ¬ (b = 210 ∧ i = 10) → I' b i = I b i) (hC : CdW I' cs') : W8 I' L s h kp tx row cs' := by
  obtain ⟨G, hG⟩ := w.ga
  exact ⟨w.nw.on fun _ _ => f _ _ (by omega) (by omega), ⟨G, (f _ _ (by omega) (by omega)).trans hG⟩, w.un.on (f _ _ (by omega) (by omega)) fun i => f _ _ (by omega) (by omega), w.ke.on (fun i => f _ _ (by omega) (by omega)) fun i => f _ _ (by omega) (by omega), w.te.on (f _ _ (by omega) (by omega)) fun i => f _ _ (by omega) (by omega), w.ro.on (f _ _ (by omega) (by omega)), hC⟩
theorem x8_laysCode {a0 : Nat} (ha : a0 = 214 ∨ a0 = 226) (hl : cs'.length ≤ 40) (hw : cs' ≠ [] → wfc cs' 0 = true) (hA : ∀ i, i < cs'.length → I a0 i = n2 (cs'.getD i 0)) : ∃ I', fX8_laysCode 210 a0 (n2 cs'.length) (mk I L c t) = some (n2 0, 0, mk I' L c t) ∧ CdW I' cs' ∧ (∀ b i, b ≠ 213 → ¬ (b = 210 ∧ i = 10) → I' b i = I b i) := by
  obtain ⟨J, hJ⟩ : ∃ J, upI I 210 10 (n2 cs'.length) = J := ⟨_, rfl⟩
  have hJF : ∀ b i, ¬ (b = 210 ∧ i = 10) → J b i = I b i := fun b i hb => by
    rw [← hJ]
    by_cases e : b = 210
    · rw [e]; exact upI_ni (fun z => hb ⟨e, z⟩)
    · exact upI_ne e
  have hJ10 : J 210 10 = n2 cs'.length := by rw [← hJ, upI_eq]
  have ld : ∀ {K : Nat → Nat → Int32} {k : Nat}, k < 80 → oLdI 20 (mk K L c t) a0 (n2 k) = some (K a0 k) := fun {K k} hk => by
    rcases ha with rfl | rfl
    · exact ld214 hk
    · exact ld226 hk
  refine ⟨cpI J a0 0 213 0 cs'.length, ?_, ⟨hl, by rw [cqI_ne (by omega)]; exact hJ10, fun i hi => ?_, hw⟩, fun b i h1 h2 => by rw [cqI_ne h1]; exact hJF b i h2⟩
  · unfold fX8_laysCode
    rw [if_pos (by rw [kk_210])]
    unfold gX8_laysCode
    rw [u210_10, qbnd_s, l_0, hJ]
    refine cp_loop (fun f k K => fX8_laysCode_5 f 210 a0 (n2 cs'.length) (n2 k) (mk K L c t)) (a0 := a0) (sp := 0) (a1 := 213) (dp := 0) (n := cs'.length) (Or.inl (by omega)) (by omega) (fun K => some (n2 0, 0, mk K L c t)) (fun f k K hk h1 h2 => ?_) (fun f K h1 => ?_)
    · show fX8_laysCode_5 (f + 1) 210 a0 (n2 cs'.length) (n2 k) (mk K L c t) = _
      rw [fX8_laysCode_5]
      dsimp only
      rw [if_neg (by rw [n2_le (by omega) (by omega)]; omega), g210_8, qbnd_s, ld (by omega), qbnd_s, sd213 (by omega), qbnd_s, l_1, n2_add, Nat.zero_add, h1 _ _ (by omega)]
    · show fX8_laysCode_5 (f + 1) 210 a0 (n2 cs'.length) (n2 cs'.length) (mk K L c t) = _
      rw [fX8_laysCode_5]
      dsimp only
      rw [if_pos (by rw [n2_le (by omega) (by omega)]; exact Nat.le_refl _)]
      rfl
  · have := cqI_in (I := J) (a0 := a0) (sp := 0) (a1 := 213) (dp := 0) hi
    rw [Nat.zero_add] at this
    rw [this, hJF _ _ (by omega)]
    exact hA i hi
theorem y8_rule [FB] (w : W8 I L s h kp tx row cs) : ∃ I', fX8_rule 210 (mk I L c t) = some (match (rdS tx).1 with
  | some p => -n2 1 - n2 p
  | none => n2 0, 0, mk I' L c t) ∧ W8 I' L s h kp [] row (match (rdS tx).1 with
  | some _ => cs
  | none => (rdS tx).2) ∧ Fy I I' := by
  have w1 := w.sc (thr0 (I := I))
  obtain ⟨I1, a1, a2, a3, -, a4⟩ := x8_readsRule (c := c) (t := t) w1
  obtain ⟨p1, p2⟩ := rd_pure w.te.2.1 fun i hi => (w.te.2.2 i hi).2
  unfold fX8_rule
  rw [if_pos (by rw [kk_210])]
  unfold gX8_rule
  rw [l_0, u210_0, qbnd_s, a1, qbnd_s]
  dsimp only
  cases hd : (rdS tx).1 with
  | some p =>
    have hp := p2 p hd
    have hne : ¬ (-n2 1 - n2 p = n2 0) := by
      have : ∀ p, p < 100 → ¬ (-n2 1 - n2 p = n2 0) := by decide +kernel
      exact this p hp
    exact ⟨I1, by dsimp only; rw [if_neg hne], a2, thr0.v.trans a3⟩
  | none =>
    obtain ⟨c1, c2⟩ := p1 hd
    obtain ⟨d1, d2⟩ := a4 hd
    obtain ⟨I2, e1, e2, e3⟩ := x8_laysCode (L := L) (c := c) (t := t) (.inl rfl) c1 c2 d2
    refine ⟨I2, ?_, a2.lay e3 e2, (thr0.v.trans a3).trans fun b i hb => e3 b i (by omega) (by omega)⟩
    dsimp only
    rw [if_pos rfl, g210_9, qbnd_s, g210_11, qbnd_s, d1, e1, qbnd_s]
theorem x8_fells218 [FB] (w : W8 I L s h kp tx row cs) (hG : Gd N s) (hN : N < 900000000) : ∃ I1 I', fX8_copies 210 (mk I L c t) = some (n2 0, 0, mk I1 L c t) ∧ fX8_fellsAll 210 218 (mk I1 L c t) = some (n2 (fellS 8 s cs).1.length, 0, mk I' L c t) ∧ W8 I' L s h kp tx row cs ∧ Fy I I' ∧ (∀ b i, b = 226 ∨ b = 214 ∨ (b = 210 ∧ i ≠ 16) → I' b i = I b i) := by
  obtain ⟨w2, r2, f2⟩ := w.cp
  obtain ⟨G, hG1⟩ := w2.ga
  obtain ⟨I2, G2, a1, a2, a2b, a3, a4⟩ := x8_fellsAll (L := L) (c := c) (t := t) (.inr rfl) r2 hG1 hG hN w2.cd
  refine ⟨_, I2, x8_copies, a1, w2.then a3 a2b, f2.trans (a3.v (.inr rfl)), fun b i hb => ?_⟩
  rw [a3 b i (by omega) (by omega) (by omega) (by omega) (by omega), cqI_ne (by omega)]
theorem law_fin [FB] {J : Nat → Nat → Int32} (w : W8 J L s h kp tx row cs') (hG : Gd N s) (hN : N < 900000000) (hc2 : cs ≠ [] → wfc cs 0 = true) (hl : cs.length ≤ 40) (h226 : ∀ i, i < cs.length → J 226 i = n2 (cs.getD i 0)) (f : Option Nat) (hf : ∀ o, f = some o → o < 8) (v : Nat) (hv : v ≤ 8) (x : Int32) : ∃ I' L', fX8_law_60 210 (n2 v) (n2 cs.length) (oi f) x (mk J L c t) = some (n2 (f.getD 8), 0, mk I' L' c t) ∧ W8 I' L' s h kp tx [x.toInt64, (n2 (fellS 8 s cs').1.length).toInt64, (n2 v).toInt64] cs ∧ Fy J I' := by
  obtain ⟨I1, I2, a1, a2, a3, a4, a5⟩ := x8_fells218 (c := c) (t := t) w hG hN
  obtain ⟨I3, b1, b2, b3⟩ := x8_laysCode (I := I2) (L := L) (c := c) (t := t) (.inr rfl) hl hc2 (fun i hi => (a5 _ _ (by omega)).trans (h226 i hi))
  have w3 := a3.lay b3 b2
  obtain ⟨I4, L4, o1, o2, o3, -⟩ := x8_one (c := c) (t := t) w3 x.toInt64
  obtain ⟨I5, L5, p1, p2, p3, -⟩ := x8_more (c := c) (t := t) o2 (by show 1 < 24; omega) (n2 (fellS 8 s cs').1.length).toInt64
  obtain ⟨I6, L6, q1, q2, q3, -⟩ := x8_more (c := c) (t := t) p2 (by show 2 < 24; omega) (n2 v).toInt64
  refine ⟨I6, L6, ?_, q2, (((a4.trans fun b i hb => b3 b i (by omega) (by omega)).trans o3).trans p3).trans q3⟩
  unfold fX8_law_60
  rw [a1, qbnd_s]
  dsimp only
  rw [g210_15, qbnd_s, a2, qbnd_s]
  dsimp only
  rw [g210_27, qbnd_s, b1, qbnd_s]
  dsimp only
  rw [l_0, u210_1, qbnd_s, o1, qbnd_s]
  dsimp only
  rw [p1, qbnd_s]
  dsimp only
  rw [q1, qbnd_s]
  dsimp only
  cases f with
  | none => rw [if_neg (show ¬ n2 0 ≤ oi none by decide), l_8]; rfl
  | some o =>
    have := hf o rfl
    rw [if_pos (show n2 0 ≤ oi (some o) by show n2 0 ≤ n2 o; rw [n2_le (by omega) (by omega)]; omega)]
    rfl
theorem y8_law [FB] (w : W8 I L s h kp tx row cs) (hG : Gd N s) (hN : N < 900000000) : ∃ I' L', fX8_law 210 (mk I L c t) = some (match (rdS tx).1 with
  | some p => -n2 100 - n2 p
  | none => n2 (((cheapS s (rdS tx).2).map (·.1)).getD 8), 0, mk I' L' c t) ∧ W8 I' L' s h kp [] (match (rdS tx).1 with
  | some _ => row
  | none => [(match cheapS s (rdS tx).2 with
    | none => n2 0
    | some z => z.2).toInt64, (n2 (fellS 8 s (rdS tx).2).1.length).toInt64, (n2 (fellS 8 s cs).1.length).toInt64]) cs ∧ Fy I I' := by
  have w1 := w.sc (thr0 (I := I))
  have hB := gd_bd hG (show N < 1000000000 by omega)
  obtain ⟨I1, a1, a2, a3, -, a4⟩ := x8_readsRule (c := c) (t := t) w1
  obtain ⟨p1, p2⟩ := rd_pure w.te.2.1 fun i hi => (w.te.2.2 i hi).2
  unfold fX8_law
  rw [if_pos (by rw [kk_210])]
  unfold gX8_law
  rw [l_0, u210_0, qbnd_s, a1, qbnd_s]
  dsimp only
  cases hd : (rdS tx).1 with
  | some p =>
    have hp := p2 p hd
    obtain ⟨z1, z2⟩ : ¬ (n2 0 ≤ -n2 1 - n2 p) ∧ ((-n2 1 - n2 p) + n2 1) - n2 100 = -n2 100 - n2 p := by
      have : ∀ p, p < 100 → ¬ (n2 0 ≤ -n2 1 - n2 p) ∧ ((-n2 1 - n2 p) + n2 1) - n2 100 = -n2 100 - n2 p := by decide +kernel
      exact this p hp
    exact ⟨I1, L, by dsimp only; rw [if_neg z1, l_1, l_100, z2], a2, thr0.v.trans a3⟩
  | none =>
    obtain ⟨c1, c2⟩ := p1 hd
    obtain ⟨d1, d2⟩ := a4 hd
    obtain ⟨u1, u2, u3, u4⟩ := a2.cd
    obtain ⟨I2, I3, b1, b2, b3, b4, b5⟩ := x8_fells218 (c := c) (t := t) a2 hG hN
    obtain ⟨v1, v2, v3, v4⟩ := b3.cd
    have hfl := (gd_fell (N := N) (cs := cs) 8 s hG).2.1
    dsimp only
    rw [if_pos (by decide), b1, qbnd_s]
    dsimp only
    rw [g210_15, qbnd_s, b2, qbnd_s]
    dsimp only
    rw [g210_10, qbnd_s, v2]
    -- the code that is, put by
    obtain ⟨FF, hFF⟩ : ∃ FF : (Nat → Nat → Int32) → Option qR, FF = (fun K => qbnd (oGetP (mk K L c t) 8 210 9) fun v2 => qbnd (oGetI (mk K L c t) 8 210 11) fun v3 => qbnd (fX8_laysCode 210 v2 v3 (mk K L c t)) fun r4 => qbnd (oGetP r4.2.2 8 210 14) fun v5 => qbnd (fX8_cheapest 210 v5 r4.2.2) fun r6 => if n2 0 ≤ r6.1 then qbnd (oGetP r6.2.2 8 210 14) fun v7 => qbnd (fX8_cost 210 v7 r6.1 r6.2.2) fun r8 => fX8_law_60 210 (n2 (fellS 8 s cs).1.length) (n2 cs.length) r6.1 r8.1 r8.2.2 else fX8_law_60 210 (n2 (fellS 8 s cs).1.length) (n2 cs.length) r6.1 (n2 0) r6.2.2) := ⟨_, rfl⟩
    have lp : fX8_law_26 qfu 210 (n2 (fellS 8 s cs).1.length) (n2 cs.length) (n2 0) (mk I3 L c t) = FF (cpI I3 213 0 226 0 cs.length) := by
      refine cp_loop (fun f k K => fX8_law_26 f 210 (n2 (fellS 8 s cs).1.length) (n2 cs.length) (n2 k) (mk K L c t)) (a0 := 213) (sp := 0) (a1 := 226) (dp := 0) (n := cs.length) (Or.inl (by omega)) (by omega) FF (fun f k K hk h1 h2 => ?_) (fun f K h1 => ?_)
      · show fX8_law_26 (f + 1) 210 (n2 (fellS 8 s cs).1.length) (n2 cs.length) (n2 k) (mk K L c t) = _
        rw [fX8_law_26]
        dsimp only
        rw [g210_10, qbnd_s, h1 210 10 (by omega), v2, if_neg (by rw [n2_le (by omega) (by omega)]; omega), g210_27, qbnd_s, g210_8, qbnd_s, ld213 (by omega), qbnd_s, sd226 (by omega), qbnd_s, l_1, n2_add, Nat.zero_add, h1 _ _ (by omega)]
      · show fX8_law_26 (f + 1) 210 (n2 (fellS 8 s cs).1.length) (n2 cs.length) (n2 cs.length) (mk K L c t) = _
        rw [hFF, fX8_law_26]
        dsimp only
        rw [g210_10, qbnd_s, h1 210 10 (by omega), v2, if_pos (by rw [n2_le (by omega) (by omega)]; exact Nat.le_refl _), l_0]
    rw [lp, hFF]
    dsimp only
    obtain ⟨K, hK⟩ : ∃ K, cpI I3 213 0 226 0 cs.length = K := ⟨_, rfl⟩
    have hKF : ∀ b i, b ≠ 226 → K b i = I3 b i := fun b i hb => by rw [← hK]; exact cqI_ne hb
    have hK226 : ∀ i, i < cs.length → K 226 i = n2 (cs.getD i 0) := fun i hi => by
      have := cqI_in (I := I3) (a0 := 213) (sp := 0) (a1 := 226) (dp := 0) hi
      rw [Nat.zero_add] at this
      rw [← hK, this]
      exact v3 i hi
    rw [hK]
    have wK := b3.sc (I' := K) fun b i _ _ _ _ _ _ _ _ _ _ h6 _ => hKF b i h6
    have k11 : K 210 11 = n2 (rdS tx).2.length := (hKF _ _ (by omega)).trans ((b5 _ _ (by omega)).trans d1)
    obtain ⟨I4, e1, e2, e3⟩ := x8_laysCode (I := K) (L := L) (c := c) (t := t) (.inl rfl) c1 c2 (fun i hi => (hKF _ _ (by omega)).trans ((b5 _ _ (by omega)).trans (d2 i hi)))
    have w4 := wK.lay e3 e2
    obtain ⟨I5, q1, q2⟩ := x8_cheapest (L := L) (c := c) (t := t) (.inl rfl) w4.nw hB w4.cd
    have fs5 : Fs I4 I5 := fun b i a1 a2 a3 a4 a5 a6 a7 a8 a9 b1 b2 b3 => q2 b i a2 a3
    have w5 := w4.sc fs5
    have h5 : ∀ i, i < cs.length → I5 226 i = n2 (cs.getD i 0) := fun i hi => (q2 _ _ (by omega) (by omega)).trans ((e3 _ _ (by omega) (by omega)).trans (hK226 i hi))
    have fall : Fy I I5 := (((thr0.v.trans a3).trans b4).trans fun b i hb => hKF b i (by omega)).trans (fun b i hb => (q2 b i (by omega) (by omega)).trans (e3 b i (by omega) (by omega)))
    rw [g210_9, qbnd_s, g210_11, qbnd_s, k11, e1, qbnd_s]
    dsimp only
    rw [g210_14, qbnd_s, q1, qbnd_s]
    dsimp only
    cases hc : cheapS s (rdS tx).2 with
    | none =>
      obtain ⟨I6, L6, g1, g2, g3⟩ := law_fin (c := c) (t := t) w5 hG hN u4 u1 h5 none (fun o ho => by cases ho) (fellS 8 s cs).1.length hfl (n2 0)
      refine ⟨I6, L6, ?_, g2, fall.trans g3⟩
      rw [if_neg (show ¬ n2 0 ≤ oi (Option.map (fun x => x.1) (none : Option (Nat × Int32))) by decide)]
      exact g1
    | some z =>
      obtain ⟨y1, y2, y3⟩ := cheapS_lt hc
      obtain ⟨I6, r1, r2⟩ := x8_cost (L := L) (c := c) (t := t) (.inl rfl) w5.nw hB w5.cd y1
      rw [← y3] at r1
      have fs6 : Fs I5 I6 := fun b i a1 a2 a3 a4 a5 a6 a7 a8 a9 b1 b2 b3 => r2 b i a2 a3
      obtain ⟨I7, L7, g1, g2, g3⟩ := law_fin (c := c) (t := t) (w5.sc fs6) hG hN u4 u1 (fun i hi => (r2 _ _ (by omega) (by omega)).trans (h5 i hi)) (some z.1) (fun o ho => by cases ho; exact y1) (fellS 8 s cs).1.length hfl z.2
      refine ⟨I7, L7, ?_, g2, (fall.trans fs6.v).trans g3⟩
      have oy : oi (Option.map (fun x => x.1) (some z)) = n2 z.1 := rfl
      rw [oy, if_pos (by rw [n2_le (by omega) (by omega)]; omega), g210_14, qbnd_s, r1, qbnd_s]
      exact g1
end S9N

/-! PURE SIDE, THE REFERENCE: the shortest ring -/
theorem wlk_s {s : St} {g k i : Nat} : wlk s g (k + 1) i = true ↔ ∃ j, j < 8 ∧ wfr s i j = true ∧ wlk s g k j = true := by
  rw [wlk, List.any_eq_true]
  constructor
  · rintro ⟨j, h1, h2⟩
    rw [Bool.and_eq_true] at h2
    exact ⟨j, List.mem_range.mp h1, h2.1, h2.2⟩
  · rintro ⟨j, h1, h2, h3⟩
    exact ⟨j, List.mem_range.mpr h1, by rw [h2, h3]; rfl⟩
theorem wlk_0 {s : St} {g i : Nat} : wlk s g 0 i = true ↔ i = g := by
  show decide (i = g) = true ↔ _
  rw [decide_eq_true_eq]
/-- what the numbers of steps say -/
def Sd8 (s : St) (g : Nat) (D : Nat → Nat) : Prop := ∀ i, i < 8 → 1 ≤ D i ∧ D i ≤ 1000000 ∧ (D i = 1000000 ∨ wlk s g (D i) i = true)
def Cp8 (s : St) (g n : Nat) (D : Nat → Nat) : Prop := ∀ i, i < 8 → ∀ k, 1 ≤ k → k ≤ n → wlk s g k i = true → D i ≤ k
def rlx (s : St) (D : Nat → Nat) (i j : Nat) : Nat → Nat := fun q => if q = i ∧ wfr s i j = true ∧ D j + 1 < D i then D j + 1 else D q
theorem rlx_le (s : St) (D : Nat → Nat) (i j q : Nat) : rlx s D i j q ≤ D q := by
  unfold rlx
  split
  · rename_i e
    rw [e.1]
    omega
  · exact Nat.le_refl _
theorem rlx_sd {s : St} {g : Nat} {D : Nat → Nat} {i j : Nat} (h : Sd8 s g D) (hi : i < 8) (hj : j < 8) : Sd8 s g (rlx s D i j) := by
  intro q hq
  unfold rlx
  by_cases e : q = i ∧ wfr s i j = true ∧ D j + 1 < D i
  · rw [if_pos e]
    obtain ⟨h1, h2, h3⟩ := h j hj
    obtain ⟨h4, h5, h6⟩ := h i hi
    refine ⟨by omega, by omega, Or.inr ?_⟩
    rw [e.1]
    refine wlk_s.mpr ⟨j, hj, e.2.1, ?_⟩
    rcases h3 with h3 | h3
    · omega
    · exact h3
  · rw [if_neg e]
    exact h q hq
section S9G
variable {I I' : Nat → Nat → Int32} {L : Nat → Nat → Int64} {c t r N T n : Nat} {s s' s0 : St} {μ : qM} {h : List St} {kp : Nat → Option St} {tx : List Nat} {row : List Int64} {cs : List Nat}
def A25 (I K : Nat → Nat → Int32) (D : Nat → Nat) : Prop := (∀ j, j < 8 → K 225 j = n2 (D j)) ∧ ∀ b i, b ≠ 225 → K b i = I b i
theorem x8_laysSteps (hR : R8 (I 217) s) (hB : Bd s) {g : Nat} (hg : g < 8) : ∃ I' D, fX8_laysSteps 210 (n2 g) (mk I L c t) = some (n2 0, 0, mk I' L c t) ∧ A25 I I' D ∧ Sd8 s g D ∧ Cp8 s g 9 D := by
  have hr : (217 : Nat) = 217 ∨ (217 : Nat) = 218 := .inl rfl
  have rk : ∀ {K : Nat → Nat → Int32}, (∀ b i, b ≠ 225 → K b i = I b i) → R8 (K 217) s := fun {K} hK => by
    rw [show K 217 = I 217 from by funext i; exact hK _ _ (by omega)]
    exact hR
  unfold fX8_laysSteps
  rw [if_pos (by rw [kk_210])]
  unfold gX8_laysSteps
  rw [l_0]
  -- the rounds
  have rounds : ∀ (K : Nat → Nat → Int32) (D : Nat → Nat), A25 I K D → Sd8 s g D → Cp8 s g 1 D → ∃ I' D, fX8_laysSteps_23 qfu 210 (n2 0) (mk K L c t) = some (n2 0, 0, mk I' L c t) ∧ A25 I I' D ∧ Sd8 s g D ∧ Cp8 s g 9 D := by
    intro K0 D0 a1 a2 a3
    refine lp_rk (α := (Nat → Nat → Int32) × (Nat → Nat)) (fun f n z => fX8_laysSteps_23 f 210 (n2 n) (mk z.1 L c t)) 8 (fun n z => A25 I z.1 z.2 ∧ Sd8 s g z.2 ∧ Cp8 s g (n + 1) z.2) (fun q => ∃ I' D, q = some (n2 0, 0, mk I' L c t) ∧ A25 I I' D ∧ Sd8 s g D ∧ Cp8 s g 9 D) (k0 := 0) (by omega) (by omega) (K0, D0) ⟨a1, a2, a3⟩ (fun f n z _ hn hi => Or.inr ?_) (fun f z hi => ?_)
    · obtain ⟨K1, D1⟩ := z
      obtain ⟨b1, b2, b3⟩ := hi
      dsimp only at b1 b2 b3
      have lp := lp_rk (α := (Nat → Nat → Int32) × (Nat → Nat)) (fun m i z => fX8_laysSteps_28 (fX8_laysSteps_23 f) m 210 (n2 n) (n2 i) (mk z.1 L c t)) 8 (fun i z => A25 I z.1 z.2 ∧ Sd8 s g z.2 ∧ Cp8 s g (n + 1) z.2 ∧ ∀ i', i' < i → ∀ k, 1 ≤ k → k ≤ n + 2 → wlk s g k i' = true → z.2 i' ≤ k) (fun q => ∃ K' D', q = fX8_laysSteps_23 f 210 (n2 (n + 1)) (mk K' L c t) ∧ A25 I K' D' ∧ Sd8 s g D' ∧ Cp8 s g (n + 2) D') (k0 := 0) (by omega) (by omega) (K1, D1) ⟨b1, b2, b3, fun i' hi' => absurd hi' (Nat.not_lt_zero i')⟩ (fun m i z _ hi8 hi => Or.inr ?_) (fun m z hi => ?_)
      · obtain ⟨K', D', e1, e2, e3, e4⟩ := lp
        refine ⟨(K', D'), ?_, e2, e3, e4⟩
        show fX8_laysSteps_23 (f + 1) 210 (n2 n) (mk K1 L c t) = _
        rw [fX8_laysSteps_23]
        dsimp only
        rw [l_8, if_neg (by rw [n2_le (by omega) (by omega)]; omega), l_0]
        exact e1
      · obtain ⟨K2, D2⟩ := z
        obtain ⟨d1, d2, d3, d4⟩ := hi
        dsimp only at d1 d2 d3 d4
        have lp := lp_rk (α := (Nat → Nat → Int32) × (Nat → Nat)) (fun y j z => fX8_laysSteps_33 (fX8_laysSteps_23 f) (fX8_laysSteps_28 (fX8_laysSteps_23 f) m) y 210 (n2 n) (n2 i) (n2 j) (mk z.1 L c t)) 8 (fun j z => A25 I z.1 z.2 ∧ Sd8 s g z.2 ∧ Cp8 s g (n + 1) z.2 ∧ (∀ i', i' < i → ∀ k, 1 ≤ k → k ≤ n + 2 → wlk s g k i' = true → z.2 i' ≤ k) ∧ ∀ j', j' < j → ∀ k, 1 ≤ k → k ≤ n + 1 → wfr s i j' = true → wlk s g k j' = true → z.2 i ≤ k + 1) (fun q => ∃ K' D', q = fX8_laysSteps_28 (fX8_laysSteps_23 f) m 210 (n2 n) (n2 (i + 1)) (mk K' L c t) ∧ A25 I K' D' ∧ Sd8 s g D' ∧ Cp8 s g (n + 1) D' ∧ ∀ i', i' < i + 1 → ∀ k, 1 ≤ k → k ≤ n + 2 → wlk s g k i' = true → D' i' ≤ k) (k0 := 0) (by omega) (by omega) (K2, D2) ⟨d1, d2, d3, d4, fun j' hj' => absurd hj' (Nat.not_lt_zero j')⟩ (fun y j z _ hj8 hi => Or.inr ?_) (fun y z hi => ?_)
        · obtain ⟨K', D', e1, e2, e3, e4, e5⟩ := lp
          refine ⟨(K', D'), ?_, e2, e3, e4, e5⟩
          show fX8_laysSteps_28 (fX8_laysSteps_23 f) (m + 1) 210 (n2 n) (n2 i) (mk K2 L c t) = _
          rw [fX8_laysSteps_28]
          dsimp only
          rw [l_8, if_neg (by rw [n2_le (by omega) (by omega)]; omega), l_0]
          exact e1
        · obtain ⟨K3, D3⟩ := z
          obtain ⟨e1, e2, e3, e4, e5⟩ := hi
          dsimp only at e1 e2 e3 e4 e5
          obtain ⟨h1, h2, h3⟩ := e2 i hi8
          obtain ⟨h4, h5, h6⟩ := e2 j hj8
          have hw := x8_waitsFor (L := L) (c := c) (t := t) hr (rk e1.2) hB hi8 hj8
          refine ⟨(upI K3 225 i (n2 (rlx s D3 i j i)), rlx s D3 i j), ?_, ⟨fun q hq => ?_, fun b q hb => by dsimp only; rw [upI_ne hb]; exact e1.2 b q hb⟩, rlx_sd e2 hi8 hj8, fun q hq k hk1 hk2 hwk => Nat.le_trans (rlx_le s D3 i j q) (e3 q hq k hk1 hk2 hwk), fun i' hi' k hk1 hk2 hwk => Nat.le_trans (rlx_le s D3 i j i') (e4 i' hi' k hk1 hk2 hwk), fun j' hj' k hk1 hk2 hwf hwk => ?_⟩
          · show fX8_laysSteps_33 (fX8_laysSteps_23 f) (fX8_laysSteps_28 (fX8_laysSteps_23 f) m) (y + 1) 210 (n2 n) (n2 i) (n2 j) (mk K3 L c t) = _
            rw [fX8_laysSteps_33]
            dsimp only
            rw [l_8, if_neg (by rw [n2_le (by omega) (by omega)]; omega), g210_26, qbnd_s, g210_14, qbnd_s, hw, qbnd_s]
            dsimp only
            rw [l_0, l_1, n2_add j 1]
            unfold rlx
            rcases bcs (wfr s i j) with f1 | f1
            · rw [f1, if_pos no_zero, g210_26, qbnd_s, ld225 hi8, qbnd_s, sd225 hi8, qbnd_s, e1.1 i hi8, if_neg (fun z => by exact absurd z.2.1 Bool.false_ne_true)]
            · rw [f1, if_neg yes_zero, g210_26, qbnd_s, ld225 hi8, qbnd_s, qbnd_s, ld225 hj8, qbnd_s, e1.1 i hi8, e1.1 j hj8, n2_add (D3 j) 1]
              by_cases f2 : D3 j + 1 < D3 i
              · rw [if_pos (by rw [n2_lt (by omega) (by omega)]; exact f2), sd225 hi8, qbnd_s, if_pos ⟨rfl, rfl, f2⟩]
              · rw [if_neg (by rw [n2_lt (by omega) (by omega)]; exact f2), sd225 hi8, qbnd_s, if_neg (fun z => f2 z.2.2)]
          · show (upI K3 225 i (n2 (rlx s D3 i j i))) 225 q = n2 (rlx s D3 i j q)
            by_cases f1 : q = i
            · rw [f1, upI_eq]
            · rw [upI_ni f1, e1.1 q hq]
              unfold rlx
              rw [if_neg (fun z => f1 z.1)]
          · show rlx s D3 i j i ≤ k + 1
            by_cases f1 : j' = j
            · rw [f1] at hwf hwk
              have h7 := e3 j hj8 k hk1 hk2 hwk
              unfold rlx
              by_cases f2 : D3 j + 1 < D3 i
              · rw [if_pos ⟨rfl, hwf, f2⟩]
                omega
              · rw [if_neg (fun z => f2 z.2.2)]
                omega
            · exact Nat.le_trans (rlx_le s D3 i j i) (e5 j' (by omega) k hk1 hk2 hwf hwk)
        · obtain ⟨K3, D3⟩ := z
          obtain ⟨e1, e2, e3, e4, e5⟩ := hi
          dsimp only at e1 e2 e3 e4 e5
          refine ⟨K3, D3, ?_, e1, e2, e3, fun i' hi' k hk1 hk2 hwk => ?_⟩
          · show fX8_laysSteps_33 (fX8_laysSteps_23 f) (fX8_laysSteps_28 (fX8_laysSteps_23 f) m) (y + 1) 210 (n2 n) (n2 i) (n2 8) (mk K3 L c t) = _
            rw [fX8_laysSteps_33]
            dsimp only
            rw [l_8, if_pos (by rw [n2_le (by omega) (by omega)]; exact Nat.le_refl 8), l_1, n2_add]
          · by_cases f1 : i' = i
            · rw [f1] at hwk ⊢
              obtain ⟨k', rfl⟩ : ∃ k', k = k' + 1 := ⟨k - 1, by omega⟩
              by_cases f2 : k' = 0
              · exact e3 i hi8 (k' + 1) hk1 (by omega) hwk
              · obtain ⟨j, j1, j2, j3⟩ := wlk_s.mp hwk
                exact e5 j j1 k' (by omega) (by omega) j2 j3
            · exact e4 i' (by omega) k hk1 hk2 hwk
      · obtain ⟨K2, D2⟩ := z
        obtain ⟨d1, d2, d3, d4⟩ := hi
        dsimp only at d1 d2 d3 d4
        refine ⟨K2, D2, ?_, d1, d2, fun i hi8 k hk1 hk2 hwk => d4 i hi8 k hk1 hk2 hwk⟩
        show fX8_laysSteps_28 (fX8_laysSteps_23 f) (m + 1) 210 (n2 n) (n2 8) (mk K2 L c t) = _
        rw [fX8_laysSteps_28]
        dsimp only
        rw [l_8, if_pos (by rw [n2_le (by omega) (by omega)]; exact Nat.le_refl 8), l_1, n2_add]
    · obtain ⟨K1, D1⟩ := z
      obtain ⟨b1, b2, b3⟩ := hi
      dsimp only at b1 b2 b3
      refine ⟨K1, D1, ?_, b1, b2, b3⟩
      show fX8_laysSteps_23 (f + 1) 210 (n2 8) (mk K1 L c t) = _
      rw [fX8_laysSteps_23]
      dsimp only
      rw [l_8, if_pos (by rw [n2_le (by omega) (by omega)]; exact Nat.le_refl 8)]
      rfl
  -- the beginning
  refine lp_rk (α := Nat → Nat → Int32) (fun f k K => fX8_laysSteps_2 f 210 (n2 g) (n2 k) (mk K L c t)) 8 (fun k K => (∀ j, j < k → K 225 j = n2 (if wfr s j g = true then 1 else 1000000)) ∧ ∀ b i, b ≠ 225 → K b i = I b i) (fun q => ∃ I' D, q = some (n2 0, 0, mk I' L c t) ∧ A25 I I' D ∧ Sd8 s g D ∧ Cp8 s g 9 D) (k0 := 0) (by omega) (by omega) I ⟨fun j hj => absurd hj (Nat.not_lt_zero j), fun _ _ _ => rfl⟩ (fun f k K _ hk hi => Or.inr ?_) (fun f K hi => ?_)
  · obtain ⟨i1, i2⟩ := hi
    have hb := x8_behindOf (L := L) (c := c) (t := t) hr (rk i2) hB hk
    refine ⟨upI K 225 k (n2 (if wfr s k g = true then 1 else 1000000)), ?_, fun j hj => ?_, fun b i hb => by rw [upI_ne hb]; exact i2 b i hb⟩
    · show fX8_laysSteps_2 (f + 1) 210 (n2 g) (n2 k) (mk K L c t) = _
      rw [fX8_laysSteps_2]
      dsimp only
      rw [l_8, if_neg (by rw [n2_le (by omega) (by omega)]; omega), g210_26, qbnd_s, g210_14, qbnd_s, hb, qbnd_s]
      dsimp only
      rw [x8_hasB _ hg, qbnd_s]
      dsimp only
      rw [l_0, l_1, l_1000000, n2_add]
      rcases bcs (wfr s k g) with e | e
      · rw [e, if_pos no_zero, if_neg Bool.false_ne_true, sd225 hk, qbnd_s]
      · rw [e, if_neg yes_zero, if_pos rfl, sd225 hk, qbnd_s]
    · by_cases e : j = k
      · rw [e, upI_eq]
      · rw [upI_ni e]
        exact i1 j (by omega)
  · obtain ⟨i1, i2⟩ := hi
    have c1 : Sd8 s g (fun j => if wfr s j g = true then 1 else 1000000) := fun i hi8 => by
      dsimp only
      rcases bcs (wfr s i g) with e | e
      · rw [e, if_neg Bool.false_ne_true]
        exact ⟨by omega, Nat.le_refl _, Or.inl rfl⟩
      · rw [e, if_pos rfl]
        exact ⟨Nat.le_refl _, by omega, Or.inr (wlk_s.mpr ⟨g, hg, e, wlk_0.mpr rfl⟩)⟩
    have c2 : Cp8 s g 1 (fun j => if wfr s j g = true then 1 else 1000000) := fun i hi8 k hk1 hk2 hwk => by
      obtain rfl : k = 1 := by omega
      obtain ⟨j, j1, j2, j3⟩ := wlk_s.mp hwk
      rw [wlk_0.mp j3] at j2
      dsimp only
      rw [j2, if_pos rfl]
      exact Nat.le_refl _
    obtain ⟨I', D, a1, a2, a3, a4⟩ := rounds K (fun j => if wfr s j g = true then 1 else 1000000) ⟨i1, i2⟩ c1 c2
    refine ⟨I', D, ?_, a2, a3, a4⟩
    show fX8_laysSteps_2 (f + 1) 210 (n2 g) (n2 8) (mk K L c t) = _
    rw [fX8_laysSteps_2]
    dsimp only
    rw [l_8, if_pos (by rw [n2_le (by omega) (by omega)]; exact Nat.le_refl 8), l_0]
    exact a1
theorem sd_end {g : Nat} {D : Nat → Nat} (h1 : Sd8 s g D) (h2 : Cp8 s g 9 D) {i : Nat} (hi : i < 8) : (∀ k, 1 ≤ k → wlk s g k i = true → D i ≤ k) ∧ (D i = 1000000 ∨ (1 ≤ D i ∧ D i ≤ 8 ∧ wlk s g (D i) i = true)) := by
  have a : ∀ k, 1 ≤ k → wlk s g k i = true → D i ≤ k := by
    intro k hk hw
    by_cases e : k ≤ 9
    · exact h2 i hi k hk e hw
    · obtain ⟨q, rfl⟩ : ∃ q, k = q + 1 := ⟨k - 1, by omega⟩
      obtain ⟨q', q1, q2⟩ := rcn_7 hi hw
      have := h2 i hi (q' + 1) (by omega) (by omega) q2
      omega
  refine ⟨a, ?_⟩
  obtain ⟨b1, b2, b3⟩ := h1 i hi
  rcases b3 with b3 | b3
  · exact Or.inl b3
  · obtain ⟨q, hq⟩ : ∃ q, D i = q + 1 := ⟨D i - 1, by omega⟩
    rw [hq] at b3
    obtain ⟨q', q1, q2⟩ := rcn_7 hi b3
    have := a (q' + 1) (by omega) q2
    rw [← hq] at b3
    exact Or.inr ⟨b1, by omega, b3⟩
theorem sd_dst {g : Nat} {D : Nat → Nat} (h1 : Sd8 s g D) (h2 : Cp8 s g 9 D) {i w : Nat} (hi : i < 8) (hw1 : 1 ≤ w) (hw8 : w < 8) (hg : i = g → D i ≠ w) : D i = w ↔ dst s g 8 i = w := by
  obtain ⟨a1, a2⟩ := sd_end h1 h2 hi
  constructor
  · intro e
    have hne : i ≠ g := fun z => hg z e
    unfold dst
    have : (List.range 8).find? (fun k => wlk s g k i) = some w := by
      rw [find_range]
      refine ⟨hw8, ?_, fun j hj => ?_⟩
      · rcases a2 with a2 | a2
        · omega
        · rw [← e]; exact a2.2.2
      · rcases bcs (wlk s g j i) with f | f
        · exact f
        · by_cases z : j = 0
          · rw [z] at f
            exact absurd (wlk_0.mp f) hne
          · have := a1 j (by omega) f
            omega
    rw [this]
    rfl
  · intro e
    unfold dst at e
    cases hf : (List.range 8).find? (fun k => wlk s g k i) with
    | none =>
      rw [hf] at e
      have : (8 : Nat) = w := e
      omega
    | some k =>
      rw [hf] at e
      have hk : k = w := e
      subst hk
      obtain ⟨b1, b2, b3⟩ := find_range.mp hf
      have b4 := a1 k hw1 b2
      rcases a2 with a2 | a2
      · omega
      · by_cases z : D i = k
        · exact z
        · have := b3 (D i) (by omega)
          rw [a2.2.2] at this
          exact absurd this (by decide)
theorem x8_path [FB] (hB : Bd s) {g its : Nat} (hg : g < 8) {D : Nat → Nat} (h1 : Sd8 s g D) (h2 : Cp8 s g 9 D) (hDg : 8 ≤ D g ∨ D g ≤ 8) : ∀ (w f i : Nat) (I : Nat → Nat → Int32) (L : Nat → Nat → Int64) (row : List Int64), w < f → w < 8 → w < D g → i < 8 → row.length + w < 20 → W8 I L s h kp tx row cs → (∀ j, j < 8 → I 225 j = n2 (D j)) → (w = 0 ∨ ∃ j, nrS s (dst s g 8) i w = some j) → ∃ I' L', fX8_ring_34 f 210 (n2 its) (n2 i) (n2 w) (mk I L c t) = some (n2 its, 0, mk I' L' c t) ∧ W8 I' L' s h kp tx (row ++ rowO (pthS s (dst s g 8) w i)) cs ∧ Fy I I' := by
  have hr : (217 : Nat) = 217 ∨ (217 : Nat) = 218 := .inl rfl
  intro w
  induction w with
  | zero =>
    intro f i I L row hf _ _ hi hl hW hA _
    obtain ⟨f, rfl⟩ : ∃ f', f = f' + 1 := ⟨f - 1, by omega⟩
    refine ⟨I, L, ?_, by rw [show rowO (pthS s (dst s g 8) 0 i) = [] from rfl, List.append_nil]; exact hW, .rf _⟩
    rw [fX8_ring_34]
    dsimp only
    rw [l_0, if_pos (by decide)]
  | succ w ih =>
    intro f i I L row hf hw8 hwD hi hl hW hA hj
    obtain ⟨f, rfl⟩ : ∃ f', f = f' + 1 := ⟨f - 1, by omega⟩
    obtain ⟨j, hj⟩ : ∃ j, nrS s (dst s g 8) i (w + 1) = some j := by
      rcases hj with z | z
      · omega
      · exact z
    obtain ⟨j8, j2, j3⟩ := find_range.mp hj
    rw [Bool.and_eq_true, decide_eq_true_eq] at j2
    have hDk : ∀ k, k < 8 → D k ≤ 1000000 := fun k hk => (h1 k hk).2.1
    have hDj : ∀ k, k < 8 → (D k = w + 1 ↔ dst s g 8 k = w + 1) := fun k hk => sd_dst h1 h2 hk (by omega) hw8 (fun z => by rw [z]; omega)
    have hpth : pthS s (dst s g 8) (w + 1) i = j :: pthS s (dst s g 8) w j := by
      rw [pthS, hj]
      rfl
    obtain ⟨I2, L2, o1, o2, o3, o4⟩ := x8_more (c := c) (t := t) hW (by omega) (n2 j).toInt64
    have hnext : w = 0 ∨ ∃ q, nrS s (dst s g 8) j w = some q := by
      by_cases z : w = 0
      · exact Or.inl z
      · obtain ⟨w', rfl⟩ : ∃ w', w = w' + 1 := ⟨w - 1, by omega⟩
        obtain ⟨q, q1, -, -⟩ := nr_dst (s := s) (g := g) (i := j) (w := w' + 1) (by omega) j2.2
        exact Or.inr ⟨q, q1⟩
    obtain ⟨I3, L3, p1, p2, p3⟩ := ih f j I2 L2 (row ++ [(n2 j).toInt64]) (by omega) (by omega) (by omega) j8 (by rw [List.length_append]; simp; omega) o2 (fun k hk => (o4 _ _ (by omega)).trans (hA k hk)) hnext
    refine ⟨I3, L3, ?_, ?_, o3.trans p3⟩
    · rw [fX8_ring_34]
      dsimp only
      rw [l_0, if_neg (by rw [n2_le (by omega) (by omega)]; omega)]
      have b : ∀ k, k < 8 → fX8_waitsFor 217 (n2 i) (n2 k) (mk I L c t) = some (n2 (bn (wfr s i k)), 0, mk I L c t) := fun k hk => x8_waitsFor hr hW.nw hB hi hk
      refine lp_rk (α := Unit) (fun m k _ => fX8_ring_38 (fX8_ring_34 f) m 210 (n2 its) (n2 i) (n2 (w + 1)) (n2 k) (mk I L c t)) j (fun _ _ => True) (fun r => r = some (n2 its, 0, mk I3 L3 c t)) (k0 := 0) (Nat.zero_le _) (by omega) () trivial (fun m k _ _ hk _ => Or.inr ⟨(), ?_, trivial⟩) (fun m _ _ => ?_)
      · have hk8 : k < 8 := by omega
        have hno := j3 k hk
        have := hDk k hk8
        rw [fX8_ring_38]
        dsimp only
        rw [g210_14, qbnd_s, b k hk8, qbnd_s]
        dsimp only
        rw [l_0, l_1, n2_add]
        rcases bcs (wfr s i k) with e | e
        · rw [e, if_pos no_zero]
        · rw [e, Bool.true_and, decide_eq_false_iff_not] at hno
          rw [e, if_neg yes_zero, g210_26, qbnd_s, ld225 hk8, qbnd_s, hA k hk8, if_neg (by rw [n2_eq (by omega) (by omega)]; exact fun z => hno ((hDj k hk8).mp z))]
      · have e5 := (hDj j j8).mpr j2.2
        rw [fX8_ring_38]
        dsimp only
        rw [g210_14, qbnd_s, b j j8, qbnd_s]
        dsimp only
        rw [j2.1, l_0, if_neg yes_zero, g210_26, qbnd_s, ld225 j8, qbnd_s, hA j j8, e5, if_pos rfl, o1, qbnd_s]
        dsimp only
        rw [l_1, wk_m1 (w + 1) (by omega), Nat.add_sub_cancel]
        exact p1
    · rw [hpth]
      have : rowO (j :: pthS s (dst s g 8) w j) = [(n2 j).toInt64] ++ rowO (pthS s (dst s g 8) w j) := rfl
      rw [this, ← List.append_assoc]
      exact p2
theorem y8_ring [FB] (w : W8 I L s h kp tx row cs) (hG : Gd N s) (hN : N < 900000000) (x : Int32) (hx : nIx x < 8) : ∃ I' L', fX8_ring 210 x (mk I L c t) = some (if rch s (nIx x) (nIx x) = true then n2 (rgS s (nIx x)) else -n2 2, 0, mk I' L' c t) ∧ W8 I' L' s h kp tx (if rch s (nIx x) (nIx x) = true then rowO (nIx x :: pthS s (dst s (nIx x) 8) (rgS s (nIx x) - 1) (nIx x)) else row) cs ∧ Fy I I' := by
  have w1 := w.sc (thr0 (I := I))
  have hB := gd_bd hG (show N < 1000000000 by omega)
  obtain ⟨g, hg, rfl⟩ := nIx_ex (by omega) hx
  rw [nIx_n (show g < 2147483648 by omega)] at hx ⊢
  obtain ⟨J, D, a1, a2, a3, a4⟩ := x8_laysSteps (L := L) (c := c) (t := t) w1.nw hB hg
  have fs : Fs (upI I 210 0 (n2 0)) J := fun b i _ _ _ _ _ _ _ _ _ hb _ _ => a2.2 b i hb
  have w2 := w1.sc fs
  have hDg := (a3 g hg)
  obtain ⟨e1, e2⟩ := sd_end a3 a4 hg
  unfold fX8_ring
  rw [if_pos (by rw [kk_210])]
  unfold gX8_ring
  rw [l_0, u210_0, qbnd_s, ow8, qbnd_s]
  dsimp only
  rw [nIx_n (by omega), decide_eq_true hg, if_neg yes_zero, a1, qbnd_s]
  dsimp only
  rw [g210_26, qbnd_s, ld225 hg, qbnd_s, a2.1 g hg, l_1000000, l_1, l_2]
  rcases bcs (rch s g g) with e | e
  · refine ⟨J, L, ?_, by rw [e, if_neg Bool.false_ne_true]; exact w2, thr0.v.trans fs.v⟩
    have hD : D g = 1000000 := by
      rcases e2 with z | z
      · exact z
      · obtain ⟨q, hq⟩ : ∃ q, D g = q + 1 := ⟨D g - 1, by omega⟩
        rw [hq] at z
        have := (rch_wlk hg hg).mpr ⟨q, z.2.2⟩
        rw [e] at this
        exact absurd this (by decide)
    rw [e, if_neg Bool.false_ne_true, hD, if_neg (by rw [n2_lt (by omega) (by omega)]; omega)]
  · obtain ⟨r1, r2, r3, r4, j, j1, j2, j3⟩ := rg_ring hg e
    have hD : D g = rgS s g := by
      have u1 := e1 (rgS s g) r1 r3
      rcases e2 with z | z
      · omega
      · by_cases y : D g = rgS s g
        · exact y
        · have := r4 (D g) z.1 (by omega)
          rw [z.2.2] at this
          exact absurd this (by decide)
    obtain ⟨I2, L2, o1, o2, o3, o4⟩ := x8_one (c := c) (t := t) w2 (n2 g).toInt64
    have hnext : rgS s g - 1 = 0 ∨ ∃ q, nrS s (dst s g 8) g (rgS s g - 1) = some q := by
      by_cases z : rgS s g - 1 = 0
      · exact Or.inl z
      · right
        cases hn : nrS s (dst s g 8) g (rgS s g - 1) with
        | some q => exact ⟨q, rfl⟩
        | none =>
          have := find_range_n.mp hn j j1
          rw [j2, decide_eq_true (show dst s g 8 j = rgS s g - 1 by omega)] at this
          exact absurd this (by decide)
    obtain ⟨I3, L3, p1, p2, p3⟩ := x8_path (c := c) (t := t) (its := rgS s g) hB hg a3 a4 (by omega) (rgS s g - 1) qfu g I2 L2 [(n2 g).toInt64] (by rw [qfu_eq]; omega) (by omega) (by omega) hg (by show 1 + (rgS s g - 1) < 20; omega) o2 (fun k hk => (o4 _ _ (by omega)).trans (a2.1 k hk)) hnext
    refine ⟨I3, L3, ?_, by rw [e, if_pos rfl]; exact p2, ((thr0.v.trans fs.v).trans o3).trans p3⟩
    rw [e, if_pos rfl, hD, if_pos (by rw [n2_lt (by omega) (by omega)]; omega), u210_1, qbnd_s, o1, qbnd_s]
    dsimp only
    rw [n2_sub (by omega)]
    exact p1
theorem y8_ring_n [FB] (w : W8 I L s h kp tx row cs) (x : Int32) (hn : ¬ nIx x < 8) : ∃ I', fX8_ring 210 x (mk I L c t) = some (-n2 1, 0, mk I' L c t) ∧ W8 I' L s h kp tx row cs ∧ Fy I I' := by
  refine ⟨_, ?_, w.sc (thr0 (I := I)), thr0.v⟩
  unfold fX8_ring
  rw [if_pos (by rw [kk_210])]
  unfold gX8_ring
  rw [l_0, u210_0, qbnd_s, ow8, qbnd_s]
  dsimp only
  rw [decide_eq_false hn, if_pos no_zero, l_1]
end S9G

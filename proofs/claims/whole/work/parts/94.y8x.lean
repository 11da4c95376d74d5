/-! PURE SIDE, THE REFERENCE: what is undone, kept, copied -/
theorem cpI_0 (I : Nat → Nat → Int32) (a0 sp a1 dp : Nat) : cpI I a0 sp a1 dp 0 = I := by
  funext b j
  rw [cpI_at, if_neg (by omega)]
theorem cpI_s (I : Nat → Nat → Int32) (a0 sp a1 dp k : Nat) : cpI I a0 sp a1 dp (k + 1) = upI (cpI I a0 sp a1 dp k) a1 (dp + k) (I a0 (sp + k)) := by
  funext b j
  rw [upI_at, cpI_at, cpI_at]
  by_cases e : b = a1 ∧ j = dp + k
  · rw [if_pos e, if_pos (by omega), e.2, show dp + k - dp = k by omega]
  · rw [if_neg e]
    by_cases e2 : b = a1 ∧ dp ≤ j ∧ j < dp + k
    · rw [if_pos e2, if_pos (by omega)]
    · rw [if_neg e2, if_neg (by omega)]
theorem cp_loop {I : Nat → Nat → Int32} (F : Nat → Nat → (Nat → Nat → Int32) → Option qR) {a0 sp a1 dp n : Nat} (h : a0 ≠ a1 ∨ dp ≤ sp) (hn : n < 10000) (fin : (Nat → Nat → Int32) → Option qR) (hs : ∀ f k J, k < n → (∀ b i, b ≠ a1 → J b i = I b i) → J a0 (sp + k) = I a0 (sp + k) → F (f + 1) k J = F f (k + 1) (upI J a1 (dp + k) (I a0 (sp + k)))) (he : ∀ f J, (∀ b i, b ≠ a1 → J b i = I b i) → F (f + 1) n J = fin J) : F qfu 0 I = fin (cpI I a0 sp a1 dp n) := by
  refine lp_rk (α := Nat → Nat → Int32) F n (fun k J => J = cpI I a0 sp a1 dp k) (fun q => q = fin (cpI I a0 sp a1 dp n)) (k0 := 0) (Nat.zero_le _) (by omega) I (cpI_0 ..).symm (fun f k J _ hk hi => Or.inr ?_) (fun f J hi => ?_)
  · have k1 : ∀ b i, b ≠ a1 → J b i = I b i := fun b i hb => by rw [hi, cpI_at, if_neg (fun z => hb z.1)]
    have k2 : J a0 (sp + k) = I a0 (sp + k) := by rw [hi, cpI_at, if_neg (by omega)]
    refine ⟨upI J a1 (dp + k) (I a0 (sp + k)), hs f k J hk k1 k2, ?_⟩
    rw [cpI_s, hi]
  · have k1 : ∀ b i, b ≠ a1 → J b i = I b i := fun b i hb => by rw [hi, cpI_at, if_neg (fun z => hb z.1)]
    rw [he f J k1, hi]
theorem cqI_ne {I : Nat → Nat → Int32} {a0 sp a1 dp n b j : Nat} (h : b ≠ a1) : cpI I a0 sp a1 dp n b j = I b j := by
  rw [cpI_at, if_neg (fun z => h z.1)]
theorem cqI_in {I : Nat → Nat → Int32} {a0 sp a1 dp n j : Nat} (h : j < n) : cpI I a0 sp a1 dp n a1 (dp + j) = I a0 (sp + j) := by
  rw [cpI_at, if_pos (by omega), show dp + j - dp = j by omega]
theorem cpI_out {I : Nat → Nat → Int32} {a0 sp a1 dp n j : Nat} (h : j < dp ∨ dp + n ≤ j) : cpI I a0 sp a1 dp n a1 j = I a1 j := by
  rw [cpI_at, if_neg (by omega)]
def Mk8 (I : Nat → Nat → Int32) (h : List St) (s : St) : Prop := R8 (fun j => I 220 (755 * h.length + j)) s
section S8P
variable {I I' : Nat → Nat → Int32} {L : Nat → Nat → Int64} {c t r N T n : Nat} {s s' s0 : St} {μ : qM} {h : List St} {kp : Nat → Option St} {tx : List Nat} {row : List Int64} {cs : List Nat}
theorem x8_copies : fX8_copies 210 (mk I L c t) = some (n2 0, 0, mk (cpI I 217 0 218 0 755) L c t) := by
  unfold fX8_copies
  rw [if_pos (by rw [kk_210])]
  unfold gX8_copies
  rw [l_0]
  refine cp_loop (fun f k J => fX8_copies_2 f 210 (n2 k) (mk J L c t)) (a0 := 217) (sp := 0) (a1 := 218) (dp := 0) (n := 755) (Or.inl (by omega)) (by omega) (fun J => some (n2 0, 0, mk J L c t)) (fun f k J hk h1 h2 => ?_) (fun f J h1 => ?_)
  · show fX8_copies_2 (f + 1) 210 (n2 k) (mk J L c t) = _
    rw [fX8_copies_2]
    dsimp only
    rw [l_755, if_neg (by rw [n2_le (by omega) (by omega)]; omega), g210_15, qbnd_s, g210_14, qbnd_s, rw_L (.inl rfl) hk, qbnd_s, rw_S (.inr rfl) hk, qbnd_s, l_1, n2_add, Nat.zero_add, h1 _ _ (by omega)]
  · show fX8_copies_2 (f + 1) 210 (n2 755) (mk J L c t) = _
    rw [fX8_copies_2]
    dsimp only
    rw [l_755, if_pos (by rw [n2_le (by omega) (by omega)]; omega)]
    rfl
theorem W8.cp [FB] (w : W8 I L s h kp tx row cs) : W8 (cpI I 217 0 218 0 755) L s h kp tx row cs ∧ R8 ((cpI I 217 0 218 0 755) 218) s ∧ Fy I (cpI I 217 0 218 0 755) := by
  refine ⟨w.sc fun b i a1 a2 a3 a4 a5 a6 a7 a8 a9 b1 b2 b3 => cqI_ne a4, w.nw.on fun k hk => ?_, fun b i hb => cqI_ne (by omega)⟩
  have := cqI_in (I := I) (a0 := 217) (sp := 0) (a1 := 218) (dp := 0) hk
  rw [Nat.zero_add] at this
  exact this
theorem x8_putsBy [FB] (w : W8 I L s h kp tx row cs) : ∃ I', fX8_putsBy 210 (mk I L c t) = some (n2 0, 0, mk I' L c t) ∧ W8 I' L s h kp tx row cs ∧ Mk8 I' h s ∧ (∀ b i, b ≠ 220 → I' b i = I b i) := by
  obtain ⟨u1, u2, u3⟩ := w.un
  have hu : I 210 18 = n2 h.length := u1
  obtain ⟨G, hG⟩ := w.ga
  have a : ∀ b i, b ≠ 220 → (cpI I 217 0 220 (755 * h.length) 755) b i = I b i := fun b i hb => cqI_ne hb
  refine ⟨cpI I 217 0 220 (755 * h.length) 755, ?_, ⟨w.nw.on fun _ _ => a _ _ (by omega), ⟨G, (a _ _ (by omega)).trans hG⟩, ⟨(a _ _ (by omega)).trans u1, u2, fun k hk => (u3 k hk).on fun j hj => ?_⟩, w.ke.on (fun i => a _ _ (by omega)) fun i => a _ _ (by omega), w.te.on (a _ _ (by omega)) fun i => a _ _ (by omega), w.ro.on (a _ _ (by omega)), w.cd.on (a _ _ (by omega)) fun i => a _ _ (by omega)⟩, w.nw.on fun k hk => ?_, a⟩
  · unfold fX8_putsBy
    rw [if_pos (by rw [kk_210])]
    unfold gX8_putsBy
    rw [l_0]
    refine cp_loop (fun f k J => fX8_putsBy_2 f 210 (n2 k) (mk J L c t)) (a0 := 217) (sp := 0) (a1 := 220) (dp := 755 * h.length) (n := 755) (Or.inl (by omega)) (by omega) (fun J => some (n2 0, 0, mk J L c t)) (fun f k J hk h1 h2 => ?_) (fun f J h1 => ?_)
    · show fX8_putsBy_2 (f + 1) 210 (n2 k) (mk J L c t) = _
      rw [fX8_putsBy_2]
      dsimp only
      rw [l_755, if_neg (by rw [n2_le (by omega) (by omega)]; omega), g210_19, qbnd_s, g210_18, qbnd_s, g210_14, qbnd_s, rw_L (.inl rfl) hk, qbnd_s, h1 210 18 (by omega), hu, n2_mul, n2_add, sd220 (by omega), qbnd_s, l_1, n2_add, Nat.zero_add, h1 _ _ (by omega)]
    · show fX8_putsBy_2 (f + 1) 210 (n2 755) (mk J L c t) = _
      rw [fX8_putsBy_2]
      dsimp only
      rw [l_755, if_pos (by rw [n2_le (by omega) (by omega)]; omega)]
      rfl
  · have h2 : 755 * k + 755 ≤ 755 * h.length := by
      have := Nat.mul_le_mul_left 755 (show k + 1 ≤ h.length from hk)
      omega
    exact cpI_out (Or.inl (by omega))
  · have := cqI_in (I := I) (a0 := 217) (sp := 0) (a1 := 220) (dp := 755 * h.length) hk
    rw [Nat.zero_add] at this
    exact this
theorem x8_adds [FB] (w : W8 I L s h kp tx row cs) (m : Mk8 I h s0) (x : Int32) : ∃ I', fX8_adds 210 x (mk I L c t) = some (x, 0, mk I' L c t) ∧ W8 I' L s (pushH h s0) kp tx row cs ∧ (∀ b i, b ≠ 220 → ¬ (b = 210 ∧ i = 18) → I' b i = I b i) := by
  obtain ⟨u1, u2, u3⟩ := w.un
  have hu : I 210 18 = n2 h.length := u1
  obtain ⟨G, hG⟩ := w.ga
  have gen : ∀ (J : Nat → Nat → Int32), (∀ b i, b ≠ 220 → ¬ (b = 210 ∧ i = 18) → J b i = I b i) → Un8 J (pushH h s0) → W8 J L s (pushH h s0) kp tx row cs := by
    intro J a hU
    exact ⟨w.nw.on fun _ _ => a _ _ (by omega) (by omega), ⟨G, (a _ _ (by omega) (by omega)).trans hG⟩, hU, w.ke.on (fun i => a _ _ (by omega) (by omega)) fun i => a _ _ (by omega) (by omega), w.te.on (a _ _ (by omega) (by omega)) fun i => a _ _ (by omega) (by omega), w.ro.on (a _ _ (by omega) (by omega)), w.cd.on (a _ _ (by omega) (by omega)) fun i => a _ _ (by omega) (by omega)⟩
  have up : ∀ v : Int32, ∀ b i, ¬ (b = 210 ∧ i = 18) → (upI I 210 18 v) b i = I b i := fun v b i hb => by
    by_cases e : b = 210
    · rw [e]; exact upI_ni (fun z => hb ⟨e, z⟩)
    · exact upI_ne e
  have head : fX8_adds 210 x (mk I L c t) = if n2 (h.length + 1) ≤ n2 10 then some (x, 0, mk (upI I 210 18 (n2 (h.length + 1))) L c t) else fX8_adds_12 qfu 210 x (n2 0) (mk (upI I 210 18 (n2 (h.length + 1))) L c t) := by
    unfold fX8_adds
    rw [if_pos (by rw [kk_210])]
    unfold gX8_adds
    rw [g210_18, qbnd_s, hu, l_1, n2_add, u210_18, qbnd_s, g210_18, qbnd_s, upI_eq, l_10, l_0]
  by_cases e : h.length < 10
  · have hp : pushH h s0 = h ++ [s0] := by unfold pushH; rw [if_pos e]
    have hl : (h ++ [s0]).length = h.length + 1 := by simp
    refine ⟨upI I 210 18 (n2 (h.length + 1)), by rw [head, if_pos (by rw [n2_le (by omega) (by omega)]; omega)], gen _ (fun b i _ hb => up _ b i hb) ?_, fun b i _ hb => up _ b i hb⟩
    rw [hp]
    refine ⟨by rw [upI_eq, hl], by omega, fun k hk => ?_⟩
    rw [hl] at hk
    by_cases e2 : k = h.length
    · rw [e2, List.getD_eq_getElem?_getD, List.getElem?_append_right (Nat.le_refl _), Nat.sub_self]
      exact m.on fun j hj => up _ _ _ (by omega)
    · rw [List.getD_eq_getElem?_getD, List.getElem?_append_left (by omega), ← List.getD_eq_getElem?_getD]
      exact (u3 k (by omega)).on fun j hj => up _ _ _ (by omega)
  · have h10 : h.length = 10 := by omega
    have hp : pushH h s0 = h.tail ++ [s0] := by unfold pushH; rw [if_neg e]
    have hl : (h.tail ++ [s0]).length = 10 := by simp; omega
    obtain ⟨J, hJ⟩ : ∃ J, upI I 210 18 (n2 (h.length + 1)) = J := ⟨_, rfl⟩
    have hJ18 : J 210 18 = n2 11 := by rw [← hJ, upI_eq, h10]
    have hJ220 : ∀ i, J 220 i = I 220 i := fun i => by rw [← hJ]; exact up _ _ _ (by omega)
    have lp : fX8_adds_12 qfu 210 x (n2 0) (mk J L c t) = some (x, 0, mk (upI (cpI J 220 755 220 0 7550) 210 18 (n2 10)) L c t) := by
      refine cp_loop (fun f k K => fX8_adds_12 f 210 x (n2 k) (mk K L c t)) (a0 := 220) (sp := 755) (a1 := 220) (dp := 0) (n := 7550) (Or.inr (by omega)) (by omega) (fun K => some (x, 0, mk (upI K 210 18 (n2 10)) L c t)) (fun f k K hk h1 h2 => ?_) (fun f K h1 => ?_)
      · show fX8_adds_12 (f + 1) 210 x (n2 k) (mk K L c t) = _
        rw [fX8_adds_12]
        dsimp only
        rw [l_7550, if_neg (by rw [n2_le (by omega) (by omega)]; omega), g210_19, qbnd_s, qbnd_s, l_755, n2_add k 755, ld220 (by omega), qbnd_s, sd220 (by omega), qbnd_s, l_1, n2_add, Nat.zero_add, Nat.add_comm k 755, h2]
      · show fX8_adds_12 (f + 1) 210 x (n2 7550) (mk K L c t) = _
        rw [fX8_adds_12]
        dsimp only
        rw [l_7550, if_pos (by rw [n2_le (by omega) (by omega)]; omega), g210_18, qbnd_s, h1 210 18 (by omega), hJ18, l_1, n2_sub (by omega), u210_18, qbnd_s]
    have fin : ∀ b i, b ≠ 220 → ¬ (b = 210 ∧ i = 18) → (upI (cpI J 220 755 220 0 7550) 210 18 (n2 10)) b i = I b i := fun b i hb hb2 => by
      have e1 : (upI (cpI J 220 755 220 0 7550) 210 18 (n2 10)) b i = (cpI J 220 755 220 0 7550) b i := by
        by_cases e : b = 210
        · rw [e]; exact upI_ni (fun z => hb2 ⟨e, z⟩)
        · exact upI_ne e
      rw [e1, cqI_ne hb, ← hJ]
      exact up _ b i hb2
    refine ⟨upI (cpI J 220 755 220 0 7550) 210 18 (n2 10), ?_, gen _ fin ?_, fin⟩
    · rw [head, if_neg (by rw [n2_le (by omega) (by omega)]; omega), hJ, lp]
    · rw [hp]
      refine ⟨by rw [upI_eq, hl], by omega, fun k hk => ?_⟩
      rw [hl] at hk
      have sh : ∀ j, j < 755 → (upI (cpI J 220 755 220 0 7550) 210 18 (n2 10)) 220 (755 * k + j) = I 220 (755 * (k + 1) + j) := fun j hj => by
        rw [upI_ne (by omega)]
        have := cqI_in (I := J) (a0 := 220) (sp := 755) (a1 := 220) (dp := 0) (n := 7550) (j := 755 * k + j) (by omega)
        rw [Nat.zero_add] at this
        rw [this, hJ220]
        congr 1
        omega
      by_cases e2 : k = 9
      · have : (h.tail ++ [s0]).getD k (fun _ _ => 0) = s0 := by
          rw [e2, List.getD_eq_getElem?_getD, List.getElem?_append_right (by simp; omega)]
          simp [h10]
        rw [this]
        unfold Mk8 at m
        rw [h10] at m
        exact m.on fun j hj => by rw [sh j hj, e2]
      · have : (h.tail ++ [s0]).getD k (fun _ _ => 0) = h.getD (k + 1) fun _ _ => 0 := by
          rw [List.getD_eq_getElem?_getD, List.getElem?_append_left (by simp; omega), List.getD_eq_getElem?_getD]
          simp
        rw [this]
        exact (u3 (k + 1) (by omega)).on fun j hj => sh j hj
theorem x8_counted [FB] (w : W8 I L s h kp tx row cs) (m : Mk8 I h s0) (x : Int32) : ∃ I', fX8_counted 210 x (mk I L c t) = some (x, 0, mk I' L c t) ∧ W8 I' L s (noteH h s0 x) kp tx row cs ∧ Fy I I' := by
  unfold noteH
  by_cases e : x < n2 0
  · refine ⟨I, ?_, by rw [if_pos e]; exact w, .rf I⟩
    unfold fX8_counted
    rw [if_pos (by rw [kk_210])]
    unfold gX8_counted
    rw [l_0, if_neg (Int32.not_le.mpr e)]
  · obtain ⟨I1, m1, m2, m3⟩ := x8_adds (L := L) (c := c) (t := t) w m x
    refine ⟨I1, ?_, by rw [if_neg e]; exact m2, fun b i hb => m3 b i (by omega) (by omega)⟩
    unfold fX8_counted
    rw [if_pos (by rw [kk_210])]
    unfold gX8_counted
    rw [l_0, if_pos (Int32.not_lt.mp e), m1, qbnd_s]
theorem thr0 : Fs I (upI I 210 0 (n2 0)) := Fs.up2 (by omega)
theorem y8_undo0 [FB] (w : W8 I L s [] kp tx row cs) : ∃ I', fX8_undo 210 (mk I L c t) = some (-n2 1, 0, mk I' L c t) ∧ W8 I' L s [] kp tx row cs ∧ Fy I I' := by
  have w1 := w.sc (thr0 (I := I))
  refine ⟨upI I 210 0 (n2 0), ?_, w1, thr0.v⟩
  have hu : (upI I 210 0 (n2 0)) 210 18 = n2 0 := w1.un.1
  unfold fX8_undo
  rw [if_pos (by rw [kk_210])]
  unfold gX8_undo
  rw [l_0, u210_0, qbnd_s, g210_18, qbnd_s, hu, if_pos rfl, l_1]
theorem y8_undo [FB] (w : W8 I L s h kp tx row cs) (hn : h ≠ []) : ∃ I', fX8_undo 210 (mk I L c t) = some (n2 (h.length - 1), 0, mk I' L c t) ∧ W8 I' L (h.getD (h.length - 1) fun _ _ => 0) h.dropLast kp tx row cs ∧ Fy I I' := by
  have w1 := w.sc (thr0 (I := I))
  obtain ⟨u1, u2, u3⟩ := w1.un
  obtain ⟨G, hG⟩ := w1.ga
  have hp : 0 < h.length := List.length_pos_iff.mpr hn
  obtain ⟨J, hJ⟩ : ∃ J, upI (upI I 210 0 (n2 0)) 210 18 (n2 (h.length - 1)) = J := ⟨_, rfl⟩
  have up : ∀ b i, ¬ (b = 210 ∧ i = 18) → J b i = (upI I 210 0 (n2 0)) b i := fun b i hb => by
    rw [← hJ]
    by_cases e : b = 210
    · rw [e]; exact upI_ni (fun z => hb ⟨e, z⟩)
    · exact upI_ne e
  have hJ18 : J 210 18 = n2 (h.length - 1) := by rw [← hJ, upI_eq]
  have a : ∀ b i, b ≠ 217 → ¬ (b = 210 ∧ i = 18) → (cpI J 220 (755 * (h.length - 1)) 217 0 755) b i = (upI I 210 0 (n2 0)) b i := fun b i h1 h2 => by
    rw [cqI_ne h1]
    exact up b i h2
  refine ⟨cpI J 220 (755 * (h.length - 1)) 217 0 755, ?_, ⟨(u3 (h.length - 1) (by omega)).on fun k hk => ?_, ⟨G, (a _ _ (by omega) (by omega)).trans hG⟩, ⟨?_, by simp; omega, fun k hk => ?_⟩, w1.ke.on (fun i => a _ _ (by omega) (by omega)) fun i => a _ _ (by omega) (by omega), w1.te.on (a _ _ (by omega) (by omega)) fun i => a _ _ (by omega) (by omega), w1.ro.on (a _ _ (by omega) (by omega)), w1.cd.on (a _ _ (by omega) (by omega)) fun i => a _ _ (by omega) (by omega)⟩, fun b i hb => ?_⟩
  · unfold fX8_undo
    rw [if_pos (by rw [kk_210])]
    unfold gX8_undo
    rw [l_0, u210_0, qbnd_s, g210_18, qbnd_s, u1, if_neg (by rw [n2_eq (by omega) (by omega)]; omega), l_1, qbnd_s, n2_sub (by omega), u210_18, qbnd_s, hJ]
    refine cp_loop (fun f k K => fX8_undo_16 f 210 (n2 k) (mk K L c t)) (a0 := 220) (sp := 755 * (h.length - 1)) (a1 := 217) (dp := 0) (n := 755) (Or.inl (by omega)) (by omega) (fun K => some (n2 (h.length - 1), 0, mk K L c t)) (fun f k K hk h1 h2 => ?_) (fun f K h1 => ?_)
    · show fX8_undo_16 (f + 1) 210 (n2 k) (mk K L c t) = _
      rw [fX8_undo_16]
      dsimp only
      rw [l_755, if_neg (by rw [n2_le (by omega) (by omega)]; omega), g210_14, qbnd_s, g210_19, qbnd_s, g210_18, qbnd_s, h1 210 18 (by omega), hJ18, n2_mul, n2_add, ld220 (by omega), qbnd_s, rw_S (.inl rfl) hk, qbnd_s, l_1, n2_add, Nat.zero_add, h2]
    · show fX8_undo_16 (f + 1) 210 (n2 755) (mk K L c t) = _
      rw [fX8_undo_16]
      dsimp only
      rw [l_755, if_pos (by rw [n2_le (by omega) (by omega)]; omega), g210_18, qbnd_s, h1 210 18 (by omega), hJ18]
  · have := cqI_in (I := J) (a0 := 220) (sp := 755 * (h.length - 1)) (a1 := 217) (dp := 0) hk
    rw [Nat.zero_add] at this
    rw [this]
    exact up _ _ (by omega)
  · rw [cqI_ne (by omega), hJ18, List.length_dropLast]
  · rw [List.length_dropLast] at hk
    have : h.dropLast.getD k (fun _ _ => 0) = h.getD k fun _ _ => 0 := by
      rw [List.getD_eq_getElem?_getD, List.getD_eq_getElem?_getD, List.getElem?_dropLast, if_pos (by omega)]
    rw [this]
    exact (u3 k (by omega)).on fun j _ => a _ _ (by omega) (by omega)
  · rw [a b i (by omega) (by omega), upI_ne (by omega)]
theorem y8_keep [FB] (w : W8 I L s h kp tx row cs) (x : Int32) : ∃ I', fX8_keep 210 x (mk I L c t) = some (n2 (bn (decide (nIx x < 3))), 0, mk I' L c t) ∧ W8 I' L s h (if nIx x < 3 then kpS kp (nIx x) s else kp) tx row cs ∧ Fy I I' := by
  have w1 := w.sc (thr0 (I := I))
  have head : fX8_keep 210 x (mk I L c t) = if nIx x < 3 then (qbnd (oStI 23 (mk (upI I 210 0 (n2 0)) L c t) 227 x (qnz (n2 1))) fun μ4 => fX8_keep_18 qfu 210 x (n2 0) μ4) else some (n2 0, 0, mk (upI I 210 0 (n2 0)) L c t) := by
    unfold fX8_keep
    rw [if_pos (by rw [kk_210])]
    unfold gX8_keep
    rw [l_0, u210_0, qbnd_s, x8_in x (lo := 0) (hi := 2) (a := 0) (b := 2) (by omega) (by omega) rfl rfl, qbnd_s]
    dsimp only
    by_cases e : nIx x < 3
    · rw [decide_eq_true (show 0 ≤ nIx x ∧ nIx x ≤ 2 by omega), if_neg yes_zero, if_pos e, g210_29, qbnd_s, l_1]
    · rw [decide_eq_false (show ¬ (0 ≤ nIx x ∧ nIx x ≤ 2) by omega), if_pos no_zero, if_neg e, if_pos no_qz]
  rw [head]
  by_cases e : nIx x < 3
  · rw [if_pos e, if_pos e, decide_eq_true e]
    obtain ⟨k, hk, rfl⟩ := nIx_ex (by omega) e
    rw [nIx_n (by omega)] at e ⊢
    obtain ⟨G, hG⟩ := w1.ga
    obtain ⟨J, hJ⟩ : ∃ J, upI (upI I 210 0 (n2 0)) 227 k (qnz (n2 1)) = J := ⟨_, rfl⟩
    have up : ∀ b i, b ≠ 227 → J b i = (upI I 210 0 (n2 0)) b i := fun b i hb => by rw [← hJ]; exact upI_ne hb
    have a : ∀ b i, b ≠ 227 → b ≠ 228 → (cpI J 217 0 228 (755 * k) 755) b i = (upI I 210 0 (n2 0)) b i := fun b i h1 h2 => by
      rw [cqI_ne h2]
      exact up b i h1
    refine ⟨cpI J 217 0 228 (755 * k) 755, ?_, ⟨w1.nw.on fun _ _ => a _ _ (by omega) (by omega), ⟨G, (a _ _ (by omega) (by omega)).trans hG⟩, w1.un.on (a _ _ (by omega) (by omega)) fun i => a _ _ (by omega) (by omega), fun i hi => ⟨?_, fun s1 hs => ?_⟩, w1.te.on (a _ _ (by omega) (by omega)) fun i => a _ _ (by omega) (by omega), w1.ro.on (a _ _ (by omega) (by omega)), w1.cd.on (a _ _ (by omega) (by omega)) fun i => a _ _ (by omega) (by omega)⟩, fun b i hb => ?_⟩
    · rw [sd227 (by omega), qbnd_s, hJ]
      refine cp_loop (fun f j K => fX8_keep_18 f 210 (n2 k) (n2 j) (mk K L c t)) (a0 := 217) (sp := 0) (a1 := 228) (dp := 755 * k) (n := 755) (Or.inl (by omega)) (by omega) (fun K => some (n2 1, 0, mk K L c t)) (fun f j K hj h1 h2 => ?_) (fun f K h1 => ?_)
      · show fX8_keep_18 (f + 1) 210 (n2 k) (n2 j) (mk K L c t) = _
        rw [fX8_keep_18]
        dsimp only
        rw [l_755, if_neg (by rw [n2_le (by omega) (by omega)]; omega), g210_30, qbnd_s, g210_14, qbnd_s, rw_L (.inl rfl) hj, qbnd_s, n2_mul, n2_add, sd228 (by omega), qbnd_s, l_1, n2_add, Nat.zero_add, h1 _ _ (by omega)]
      · show fX8_keep_18 (f + 1) 210 (n2 k) (n2 755) (mk K L c t) = _
        rw [fX8_keep_18]
        dsimp only
        rw [l_755, if_pos (by rw [n2_le (by omega) (by omega)]; omega), l_1, if_pos yes_qz]
    · rw [cqI_ne (by omega), ← hJ]
      unfold kpS
      by_cases ei : i = k
      · rw [if_pos ei, ei, upI_eq]
        exact yes_qz
      · rw [if_neg ei, upI_ni ei]
        exact (w1.ke i hi).1
    · unfold kpS at hs
      by_cases ei : i = k
      · rw [if_pos ei] at hs
        cases hs
        refine w1.nw.on fun j hj => ?_
        have := cqI_in (I := J) (a0 := 217) (sp := 0) (a1 := 228) (dp := 755 * k) hj
        rw [Nat.zero_add] at this
        rw [ei, this]
        exact up _ _ (by omega)
      · rw [if_neg ei] at hs
        refine ((w1.ke i hi).2 s1 hs).on fun j hj => ?_
        rw [cpI_out (by omega)]
        exact up _ _ (by omega)
    · rw [a b i (by omega) (by omega), upI_ne (by omega)]
  · rw [if_neg e, if_neg e, decide_eq_false e]
    exact ⟨_, rfl, w1, thr0.v⟩
theorem y8_again_n [FB] (w : W8 I L s h kp tx row cs) (x : Int32) (hx : nIx x < 3 → kp (nIx x) = none) : ∃ I', fX8_again 210 x (mk I L c t) = some (n2 0, 0, mk I' L c t) ∧ W8 I' L s h kp tx row cs ∧ Fy I I' := by
  have w1 := w.sc (thr0 (I := I))
  refine ⟨upI I 210 0 (n2 0), ?_, w1, thr0.v⟩
  unfold fX8_again
  rw [if_pos (by rw [kk_210])]
  unfold gX8_again
  rw [l_0, u210_0, qbnd_s, x8_in x (lo := 0) (hi := 2) (a := 0) (b := 2) (by omega) (by omega) rfl rfl, qbnd_s]
  dsimp only
  by_cases e : nIx x < 3
  · obtain ⟨k, hk, rfl⟩ := nIx_ex (by omega) e
    rw [nIx_n (by omega)] at hx e
    have hz := (w1.ke k hk).1
    rw [hx hk] at hz
    rw [nIx_n (by omega), decide_eq_true (show 0 ≤ k ∧ k ≤ 2 by omega), if_neg yes_zero, g210_29, qbnd_s, ld227 (by omega), qbnd_s, hz, if_pos (by rfl), if_pos no_qz]
  · rw [decide_eq_false (show ¬ (0 ≤ nIx x ∧ nIx x ≤ 2) by omega), if_pos no_zero, if_pos no_qz]
theorem y8_again_y [FB] (w : W8 I L s h kp tx row cs) (x : Int32) (hx : nIx x < 3) {s1 : St} (hs : kp (nIx x) = some s1) : ∃ I', fX8_again 210 x (mk I L c t) = some (n2 1, 0, mk I' L c t) ∧ W8 I' L s1 [] kp tx row cs ∧ Fy I I' := by
  have w1 := w.sc (thr0 (I := I))
  obtain ⟨k, hk, rfl⟩ := nIx_ex (by omega) hx
  rw [nIx_n (by omega)] at hx hs
  obtain ⟨hz, hr⟩ := w1.ke k hk
  rw [hs] at hz
  have hr1 := hr s1 hs
  obtain ⟨G, hG⟩ := w1.ga
  obtain ⟨J, hJ⟩ : ∃ J, upI I 210 0 (n2 0) = J := ⟨_, rfl⟩
  rw [hJ] at w1 hz hr1 hG
  obtain ⟨K, hK⟩ : ∃ K, cpI J 228 (755 * k) 217 0 755 = K := ⟨_, rfl⟩
  have a : ∀ b i, b ≠ 217 → ¬ (b = 210 ∧ i = 18) → (upI K 210 18 (n2 0)) b i = J b i := fun b i h1 h2 => by
    have e1 : (upI K 210 18 (n2 0)) b i = K b i := by
      by_cases e : b = 210
      · rw [e]; exact upI_ni (fun z => h2 ⟨e, z⟩)
      · exact upI_ne e
    rw [e1, ← hK, cqI_ne h1]
  refine ⟨upI K 210 18 (n2 0), ?_, ⟨hr1.on fun j hj => ?_, ⟨G, (a _ _ (by omega) (by omega)).trans hG⟩, ⟨upI_eq, by simp, fun k hk => absurd hk (Nat.not_lt_zero k)⟩, w1.ke.on (fun i => a _ _ (by omega) (by omega)) fun i => a _ _ (by omega) (by omega), w1.te.on (a _ _ (by omega) (by omega)) fun i => a _ _ (by omega) (by omega), w1.ro.on (a _ _ (by omega) (by omega)), w1.cd.on (a _ _ (by omega) (by omega)) fun i => a _ _ (by omega) (by omega)⟩, fun b i hb => ?_⟩
  · unfold fX8_again
    rw [if_pos (by rw [kk_210])]
    unfold gX8_again
    rw [l_0, u210_0, qbnd_s, x8_in (n2 k) (lo := 0) (hi := 2) (a := 0) (b := 2) (by omega) (by omega) rfl rfl, qbnd_s, hJ]
    dsimp only
    rw [nIx_n (by omega), decide_eq_true (show 0 ≤ k ∧ k ≤ 2 by omega), if_neg yes_zero, g210_29, qbnd_s, ld227 (by omega), qbnd_s, hz, if_neg (show ¬ n2 (bn (some s1).isSome) = n2 0 from (by decide : ¬ n2 (bn true) = n2 0))]
    rw [← hK]
    refine cp_loop (fun f j K => fX8_again_18 f 210 (n2 k) (n2 j) (mk K L c t)) (a0 := 228) (sp := 755 * k) (a1 := 217) (dp := 0) (n := 755) (Or.inl (by omega)) (by omega) (fun K => some (n2 1, 0, mk (upI K 210 18 (n2 0)) L c t)) (fun f j K hj h1 h2 => ?_) (fun f K h1 => ?_)
    · show fX8_again_18 (f + 1) 210 (n2 k) (n2 j) (mk K L c t) = _
      rw [fX8_again_18]
      dsimp only
      rw [l_755, if_neg (by rw [n2_le (by omega) (by omega)]; omega), g210_14, qbnd_s, g210_30, qbnd_s, n2_mul, n2_add, ld228 (by omega), qbnd_s, rw_S (.inl rfl) hj, qbnd_s, l_1, n2_add, Nat.zero_add, h2]
    · show fX8_again_18 (f + 1) 210 (n2 k) (n2 755) (mk K L c t) = _
      rw [fX8_again_18]
      dsimp only
      rw [l_755, if_pos (by rw [n2_le (by omega) (by omega)]; omega), l_0, l_1, u210_18, qbnd_s, if_pos yes_qz]
  · rw [upI_ne (by omega), ← hK]
    have := cqI_in (I := J) (a0 := 228) (sp := 755 * k) (a1 := 217) (dp := 0) hj
    rw [Nat.zero_add] at this
    exact this
  · rw [a b i (by omega) (by omega), ← hJ, upI_ne (by omega)]
end S8P

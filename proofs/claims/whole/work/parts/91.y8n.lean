/-! PURE SIDE, THE REFERENCE: what an owner costs -/
def CdW (I : Nat → Nat → Int32) (cs : List Nat) : Prop := cs.length ≤ 40 ∧ I 210 10 = n2 cs.length ∧ (∀ i, i < cs.length → I 213 i = n2 (cs.getD i 0)) ∧ (cs ≠ [] → wfc cs 0 = true)
theorem CdW.on {I I' : Nat → Nat → Int32} {cs : List Nat} (h : CdW I cs) (h1 : I' 210 10 = I 210 10) (h2 : ∀ i, I' 213 i = I 213 i) : CdW I' cs :=
  ⟨h.1, h1.trans h.2.1, fun i hi => (h2 i).trans (h.2.2.1 i hi), h.2.2.2⟩
theorem wk_m1 (k : Nat) (h : 1 ≤ k) : n2 k + -n2 1 = n2 (k - 1) := n2_decb h
section S8M
variable {I : Nat → Nat → Int32} {L : Nat → Nat → Int64} {c t r N T n : Nat} {s : St} {μ : qM} {cs : List Nat}
theorem x8_worked {k : Nat} (hk : k < 7) (x y : Int32) : fX8_worked (n2 k) x y μ = some (wkd k x y, 0, μ) := by
  have f0 : ∀ {μ : qM}, fX8_flag (n2 0) μ = some (n2 0, 0, μ) := fun {μ} => x8_flag0
  have f1 : ∀ {μ : qM}, fX8_flag (n2 1) μ = some (n2 1, 0, μ) := fun {μ} => x8_flag1
  unfold fX8_worked
  rw [l_0, l_1, l_2, l_3, l_4, l_5, f0, f1, qbnd_s, qbnd_s]
  dsimp only
  have e : k = 0 ∨ k = 1 ∨ k = 2 ∨ k = 3 ∨ k = 4 ∨ k = 5 ∨ k = 6 := by omega
  have ne : ∀ a b, a < 100 → b < 100 → a ≠ b → ¬ n2 a = n2 b := fun a b ha hb h => by rw [n2_eq (by omega) (by omega)]; exact h
  rcases e with rfl | rfl | rfl | rfl | rfl | rfl | rfl
  · rw [if_pos rfl]
    have w : wkd 0 x y = if x < y then n2 1 else n2 0 := rfl
    rw [w]
    by_cases h : x < y
    · rw [if_neg (by rw [Int32.not_le]; exact h), if_pos h]
    · rw [if_pos (Int32.not_lt.mp h), if_neg h]
  · rw [if_neg (ne 1 0 (by omega) (by omega) (by omega)), if_pos rfl]
    have w : wkd 1 x y = if y < x then n2 1 else n2 0 := rfl
    rw [w]
    by_cases h : y < x
    · rw [if_neg (by rw [Int32.not_le]; exact h), if_pos h]
    · rw [if_pos (Int32.not_lt.mp h), if_neg h]
  · rw [if_neg (ne 2 0 (by omega) (by omega) (by omega)), if_neg (ne 2 1 (by omega) (by omega) (by omega)), if_pos rfl]
    have w : wkd 2 x y = if x = y then n2 1 else n2 0 := rfl
    rw [w]
    by_cases h : x = y
    · rw [if_pos h, if_pos h]
    · rw [if_neg h, if_neg h]
  · rw [if_neg (ne 3 0 (by omega) (by omega) (by omega)), if_neg (ne 3 1 (by omega) (by omega) (by omega)), if_neg (ne 3 2 (by omega) (by omega) (by omega)), if_pos rfl]
    rfl
  · rw [if_neg (ne 4 0 (by omega) (by omega) (by omega)), if_neg (ne 4 1 (by omega) (by omega) (by omega)), if_neg (ne 4 2 (by omega) (by omega) (by omega)), if_neg (ne 4 3 (by omega) (by omega) (by omega)), if_pos rfl]
    rfl
  · rw [if_neg (ne 5 0 (by omega) (by omega) (by omega)), if_neg (ne 5 1 (by omega) (by omega) (by omega)), if_neg (ne 5 2 (by omega) (by omega) (by omega)), if_neg (ne 5 3 (by omega) (by omega) (by omega)), if_neg (ne 5 4 (by omega) (by omega) (by omega)), if_pos rfl]
    rfl
  · rw [if_neg (ne 6 0 (by omega) (by omega) (by omega)), if_neg (ne 6 1 (by omega) (by omega) (by omega)), if_neg (ne 6 2 (by omega) (by omega) (by omega)), if_neg (ne 6 3 (by omega) (by omega) (by omega)), if_neg (ne 6 4 (by omega) (by omega) (by omega)), if_neg (ne 6 5 (by omega) (by omega) (by omega))]
    have w : wkd 6 x y = if y = n2 0 then n2 0 else x / y := rfl
    rw [w]
    by_cases h : y = n2 0
    · rw [if_pos h, if_pos h]
    · rw [if_neg h, if_neg h, if_neg h]
theorem x8_rh {J : Nat → Nat → Int32} {m h k len x : Nat} (hk : k < len) (hl : len ≤ 40) (hs3 : J 210 10 = n2 len) (hx3 : J 213 k = n2 x) : fX8_ruled_4 (m + 1) 210 (n2 h) (n2 k) (mk J L c t) = if n2 x = n2 3000 then (qbnd (oLdI 20 (mk J L c t) 215 (n2 h - n2 1)) fun v25 => qbnd (oStI 20 (mk J L c t) 215 (n2 h - n2 1) (-v25)) fun μ26 => fX8_ruled_4 m 210 (n2 h) (n2 (k + 1)) μ26) else if n2 x < n2 2000 then (if n2 x < n2 1000 then (qbnd (oStI 20 (mk J L c t) 215 (n2 h) (n2 x)) fun μ12 => fX8_ruled_4 m 210 (n2 (h + 1)) (n2 (k + 1)) μ12) else (qbnd (oLdI 20 (mk J L c t) 216 (n2 x - n2 1000)) fun v14 => qbnd (oStI 20 (mk J L c t) 215 (n2 h) v14) fun μ15 => fX8_ruled_4 m 210 (n2 (h + 1)) (n2 (k + 1)) μ15)) else (qbnd (oLdI 20 (mk J L c t) 215 ((n2 h + -n2 1) - n2 1)) fun v18 => qbnd (some 215) fun v19 => qbnd (oLdI 20 (mk J L c t) v19 (n2 h + -n2 1)) fun v20 => qbnd (fX8_worked (n2 x - n2 2000) v18 v20 (mk J L c t)) fun r21 => qbnd (oStI 20 r21.2.2 215 ((n2 h + -n2 1) - n2 1) r21.1) fun μ22 => fX8_ruled_4 m 210 (n2 h + -n2 1) (n2 (k + 1)) μ22) := by
  rw [fX8_ruled_4]
  dsimp only
  rw [g210_10, qbnd_s, hs3, if_neg (by rw [n2_le (by omega) (by omega)]; omega), g210_8, qbnd_s, ld213 (by omega), qbnd_s, hx3, g210_12, g210_13, l_1, l_1000, l_2000, l_3000, n2_add, n2_add]
  repeat rw [qbnd_s]
theorem x8_ruled (hC : CdW I cs) {ask : Nat → Int32} (hA : ∀ k, k < 7 → I 216 k = ask k) : ∃ I', fX8_ruled 210 (mk I L c t) = some (if cs = [] then ask 0 + ask 1 else evl ask cs, 0, mk I' L c t) ∧ ∀ b i, b ≠ 215 → I' b i = I b i := by
  obtain ⟨u1, u2, u3, u4⟩ := hC
  unfold fX8_ruled
  rw [if_pos (by rw [kk_210])]
  unfold gX8_ruled
  rw [l_0]
  by_cases hc : cs = []
  · rw [if_pos hc]
    rw [hc] at u2
    refine ⟨I, ?_, fun _ _ _ => rfl⟩
    obtain ⟨m, hm⟩ := qfu_s
    rw [hm, fX8_ruled_4]
    dsimp only
    rw [g210_10, qbnd_s, u2, if_pos (by rw [n2_le (by decide) (by omega)]; exact Nat.le_refl _), qbnd_s, l_0, if_pos (by rfl), g210_13, qbnd_s, ld216 (by omega), qbnd_s, l_1, qbnd_s, ld216 (by omega), qbnd_s, hA 0 (by omega), hA 1 (by omega)]
  rw [if_neg hc]
  have hlen : 1 ≤ cs.length := List.length_pos_iff.mpr hc
  refine lp_rk (α := (Nat → Nat → Int32) × (Nat → Int32) × Nat) (fun m k z => fX8_ruled_4 m 210 (n2 z.2.2) (n2 k) (mk z.1 L c t)) cs.length
    (fun k z => (∀ b i, b ≠ 215 → z.1 b i = I b i) ∧ (∀ i, i < z.2.2 → z.1 215 i = z.2.1 i) ∧ z.2.2 ≤ k ∧ wfc (cs.drop k) z.2.2 = true ∧ (cs.drop k).foldl (evs ask) z.2 = cs.foldl (evs ask) (fun _ => n2 0, 0))
    (fun r => ∃ I', r = some (evl ask cs, 0, mk I' L c t) ∧ ∀ b i, b ≠ 215 → I' b i = I b i) (k0 := 0) (Nat.zero_le _) (by omega) (I, fun _ => n2 0, 0) ⟨fun _ _ _ => rfl, fun i hi => absurd hi (Nat.not_lt_zero i), Nat.le_refl _, by rw [List.drop_zero]; exact u4 hc, by rw [List.drop_zero]⟩ (fun m k z _ hk hi => Or.inr ?_) (fun m z hi => ?_)
  · obtain ⟨J, v, h⟩ := z
    obtain ⟨i1, i2, i3, i4, i5⟩ := hi
    dsimp only at i1 i2 i3 i4 i5
    have hdr : cs.drop k = cs.getD k 0 :: cs.drop (k + 1) := by
      rw [List.drop_eq_getElem_cons hk]
      congr 1
      rw [List.getD_eq_getElem?_getD, List.getElem?_eq_getElem hk]
      rfl
    have hx3 : J 213 k = n2 (cs.getD k 0) := by rw [i1 _ _ (by omega)]; exact u3 k hk
    have hs3 : J 210 10 = n2 cs.length := by rw [i1 _ _ (by omega)]; exact u2
    rw [hdr] at i4 i5
    generalize cs.getD k 0 = x at *
    rw [List.foldl_cons] at i5
    simp only [wfc] at i4
    have kput : ∀ i x, ∀ b j, b ≠ 215 → (upI J 215 i x) b j = I b j := fun i x b j hb => by rw [upI_ne hb]; exact i1 b j hb
    have head := x8_rh (L := L) (c := c) (t := t) (m := m) (h := h) hk (by omega) hs3 hx3
    by_cases e1 : x = 3000
    · rw [if_pos e1, Bool.and_eq_true, decide_eq_true_eq] at i4
      refine ⟨(upI J 215 (h - 1) (-(v (h - 1))), upV v (h - 1) (-(v (h - 1))), h), ?_, kput _ _, fun i hi => ?_, by show h ≤ k + 1; omega, i4.2, ?_⟩
      · show fX8_ruled_4 (m + 1) 210 (n2 h) (n2 k) (mk J L c t) = _
        rw [head, if_pos (by rw [e1]), n2_sub (by omega), ld215 (by omega), qbnd_s, sd215 (by omega), qbnd_s, i2 (h - 1) (by omega)]
      · show upI J 215 (h - 1) (-(v (h - 1))) 215 i = upV v (h - 1) (-(v (h - 1))) i
        unfold upV
        by_cases e : i = h - 1
        · rw [if_pos e, e, upI_eq]
        · rw [if_neg e, upI_ni e]; exact i2 i hi
      · unfold evs at i5
        rw [if_pos e1] at i5
        exact i5
    rw [if_neg e1] at i4
    by_cases e2 : 2000 ≤ x
    · rw [if_pos e2, Bool.and_eq_true, Bool.and_eq_true, decide_eq_true_eq, decide_eq_true_eq] at i4
      obtain ⟨k', hsub⟩ : ∃ k', x - 2000 = k' := ⟨_, rfl⟩
      have hk7 : k' < 7 := by omega
      refine ⟨(upI J 215 (h - 2) (wkd k' (v (h - 2)) (v (h - 1))), upV v (h - 2) (wkd k' (v (h - 2)) (v (h - 1))), h - 1), ?_, kput _ _, fun i hi => ?_, by show h - 1 ≤ k + 1; omega, i4.2.2, ?_⟩
      · show fX8_ruled_4 (m + 1) 210 (n2 h) (n2 k) (mk J L c t) = _
        rw [head, if_neg (by rw [n2_eq (by omega) (by omega)]; exact e1), if_neg (by rw [n2_lt (by omega) (by omega)]; omega), wk_m1 h (by omega), n2_sub (by omega), show h - 1 - 1 = h - 2 by omega, ld215 (by omega), qbnd_s, qbnd_s, ld215 (by omega), qbnd_s, n2_sub (by omega), hsub, x8_worked hk7, qbnd_s]
        dsimp only
        rw [sd215 (by omega), qbnd_s, i2 (h - 2) (by omega), i2 (h - 1) (by omega)]
      · show upI J 215 (h - 2) _ 215 i = upV v (h - 2) _ i
        have hi : i < h - 1 := hi
        unfold upV
        by_cases e : i = h - 2
        · rw [if_pos e, e, upI_eq]
        · rw [if_neg e, upI_ni e]; exact i2 i (by omega)
      · unfold evs at i5
        dsimp only at i5
        rw [if_neg e1, if_pos e2, hsub] at i5
        exact i5
    rw [if_neg e2, Bool.and_eq_true, decide_eq_true_eq] at i4
    by_cases e3 : 1000 ≤ x
    · obtain ⟨k', rfl⟩ : ∃ k', x = 1000 + k' := ⟨x - 1000, by omega⟩
      have hk7 : k' < 7 := by omega
      have hsub : 1000 + k' - 1000 = k' := by omega
      refine ⟨(upI J 215 h (ask k'), upV v h (ask k'), h + 1), ?_, kput _ _, fun i hi => ?_, by show h + 1 ≤ k + 1; omega, i4.2, ?_⟩
      · show fX8_ruled_4 (m + 1) 210 (n2 h) (n2 k) (mk J L c t) = _
        rw [head, if_neg (by rw [n2_eq (by omega) (by omega)]; exact e1), if_pos (by rw [n2_lt (by omega) (by omega)]; omega), if_neg (by rw [n2_lt (by omega) (by omega)]; omega), n2_sub (by omega), hsub, ld216 (by omega), qbnd_s, sd215 (by omega), qbnd_s, i1 _ _ (by omega), hA k' hk7]
      · show upI J 215 h _ 215 i = upV v h _ i
        have hi : i < h + 1 := hi
        unfold upV
        by_cases e : i = h
        · rw [if_pos e, e, upI_eq]
        · rw [if_neg e, upI_ni e]; exact i2 i (by omega)
      · unfold evs at i5
        dsimp only at i5
        rw [if_neg e1, if_neg e2, if_pos e3, hsub] at i5
        exact i5
    · refine ⟨(upI J 215 h (n2 x), upV v h (n2 x), h + 1), ?_, kput _ _, fun i hi => ?_, by show h + 1 ≤ k + 1; omega, i4.2, ?_⟩
      · show fX8_ruled_4 (m + 1) 210 (n2 h) (n2 k) (mk J L c t) = _
        rw [head, if_neg (by rw [n2_eq (by omega) (by omega)]; exact e1), if_pos (by rw [n2_lt (by omega) (by omega)]; omega), if_pos (by rw [n2_lt (by omega) (by omega)]; omega), sd215 (by omega), qbnd_s]
      · show upI J 215 h _ 215 i = upV v h _ i
        have hi : i < h + 1 := hi
        unfold upV
        by_cases e : i = h
        · rw [if_pos e, e, upI_eq]
        · rw [if_neg e, upI_ni e]; exact i2 i (by omega)
      · unfold evs at i5
        dsimp only at i5
        rw [if_neg e1, if_neg e2, if_neg e3] at i5
        exact i5
  · obtain ⟨J, v, h⟩ := z
    obtain ⟨i1, i2, i3, i4, i5⟩ := hi
    dsimp only at i1 i2 i3 i4 i5
    rw [List.drop_length] at i4 i5
    simp only [wfc, decide_eq_true_eq] at i4
    rw [List.foldl_nil] at i5
    have hs3 : J 210 10 = n2 cs.length := by rw [i1 _ _ (by omega)]; exact u2
    refine ⟨J, ?_, i1⟩
    have h0 := i2 0 (by omega)
    have hv : evl ask cs = v 0 := by unfold evl; rw [← i5]
    rw [hv]
    show fX8_ruled_4 (m + 1) 210 (n2 h) (n2 cs.length) (mk J L c t) = _
    rw [fX8_ruled_4]
    dsimp only
    rw [g210_10, qbnd_s, hs3, if_pos (by rw [n2_le (by omega) (by omega)]; exact Nat.le_refl _), qbnd_s, l_0, if_neg (by rw [n2_eq (by omega) (by omega)]; omega), g210_12, qbnd_s, ld215 (by omega), qbnd_s, h0]
/-- what the reference's scratch is: the asked, the stack, the felled -/
def F9 (I I' : Nat → Nat → Int32) (r : Nat) : Prop := ∀ b i, b ≠ r → ¬ (b = 210 ∧ i = 16) → b ≠ 215 → b ≠ 216 → b ≠ 219 → I' b i = I b i
theorem F9.rf (I : Nat → Nat → Int32) (r : Nat) : F9 I I r := fun _ _ _ _ _ _ _ => rfl
theorem F9.trans {I I1 I2 : Nat → Nat → Int32} {r : Nat} (h1 : F9 I I1 r) (h2 : F9 I1 I2 r) : F9 I I2 r := fun b i h h3 h4 h5 h6 => (h2 b i h h3 h4 h5 h6).trans (h1 b i h h3 h4 h5 h6)
theorem F8.f9 {I I' : Nat → Nat → Int32} {r : Nat} (h : F8 I I' r) : F9 I I' r := fun b i h1 h2 _ _ _ => h b i h1 h2
theorem x8_cost (hr : r = 217 ∨ r = 218) (hR : R8 (I r) s) (hB : Bd s) (hC : CdW I cs) {o : Nat} (ho : o < 8) : ∃ I', fX8_cost 210 r (n2 o) (mk I L c t) = some (costS s cs o, 0, mk I' L c t) ∧ ∀ b i, b ≠ 215 → b ≠ 216 → I' b i = I b i := by
  obtain ⟨q85, q86, q87, q88, -⟩ := hR.2.1 o ho
  have hrr : r ≠ 216 := by omega
  have nr : ∀ {J : Nat → Nat → Int32} {i : Nat} {x : Int32}, (upI J 216 i x) r = J r := fun {J i x} => by funext j; exact upI_ne hrr
  unfold fX8_cost
  rw [if_pos (by rw [kk_210])]
  unfold gX8_cost
  rw [g210_13, qbnd_s, l_696, n2_add, r8L hr (by omega) q87, qbnd_s, l_0, sd216 (by omega), qbnd_s, g210_13, qbnd_s]
  rw [x8_heldMany hr (by rw [nr]; exact hR) hB ho, qbnd_s]
  dsimp only
  rw [l_1, sd216 (by omega), qbnd_s, g210_13, qbnd_s, l_688, n2_add, r8L (v := n2 (s 86 o)) hr (by omega) (by rw [nr, nr]; exact q86), qbnd_s, l_2, sd216 (by omega), qbnd_s, g210_13, qbnd_s, l_704, n2_add, r8L (v := n2 (s 88 o)) hr (by omega) (by rw [nr, nr, nr]; exact q88), qbnd_s, l_3, sd216 (by omega), qbnd_s, g210_13, qbnd_s, l_4, sd216 (by omega), qbnd_s, g210_13, qbnd_s]
  rw [x8_waitersOf hr (by rw [nr, nr, nr, nr, nr]; exact hR) hB ho, qbnd_s]
  dsimp only
  rw [l_5, sd216 (by omega), qbnd_s, g210_13, qbnd_s]
  rw [x8_aloneMany hr (by rw [nr, nr, nr, nr, nr, nr]; exact hR) hB ho, qbnd_s]
  dsimp only
  rw [l_6, sd216 (by omega), qbnd_s]
  obtain ⟨J, hJ⟩ : ∃ J, upI (upI (upI (upI (upI (upI (upI I 216 0 (n2 (s 87 o))) 216 1 (n2 (hol s o 0))) 216 2 (n2 (s 86 o))) 216 3 (n2 (s 88 o))) 216 4 (n2 o)) 216 5 (n2 (wtr s o))) 216 6 (n2 (hol s o 6)) = J := ⟨_, rfl⟩
  rw [hJ]
  have hJ2 : ∀ b i, b ≠ 216 → J b i = I b i := fun b i hb => by
    rw [← hJ, upI_ne hb, upI_ne hb, upI_ne hb, upI_ne hb, upI_ne hb, upI_ne hb, upI_ne hb]
  have hA : ∀ k, k < 7 → J 216 k = askS s o (wtr s o) k := by
    intro k hk
    have e : k = 0 ∨ k = 1 ∨ k = 2 ∨ k = 3 ∨ k = 4 ∨ k = 5 ∨ k = 6 := by omega
    rw [← hJ]
    rcases e with rfl | rfl | rfl | rfl | rfl | rfl | rfl
    · rw [upI_ni (by omega), upI_ni (by omega), upI_ni (by omega), upI_ni (by omega), upI_ni (by omega), upI_ni (by omega), upI_eq]; rfl
    · rw [upI_ni (by omega), upI_ni (by omega), upI_ni (by omega), upI_ni (by omega), upI_ni (by omega), upI_eq]; rfl
    · rw [upI_ni (by omega), upI_ni (by omega), upI_ni (by omega), upI_ni (by omega), upI_eq]; rfl
    · rw [upI_ni (by omega), upI_ni (by omega), upI_ni (by omega), upI_eq]; rfl
    · rw [upI_ni (by omega), upI_ni (by omega), upI_eq]; rfl
    · rw [upI_ni (by omega), upI_eq]; rfl
    · rw [upI_eq]; rfl
  obtain ⟨I', a1, a2⟩ := x8_ruled (L := L) (c := c) (t := t) (I := J) (cs := cs) (hC.on (hJ2 _ _ (by omega)) fun i => hJ2 _ _ (by omega)) hA
  refine ⟨I', ?_, fun b i h5 h6 => (a2 b i h5).trans (hJ2 b i h6)⟩
  rw [a1, qbnd_s]
  have : (if cs = [] then askS s o (wtr s o) 0 + askS s o (wtr s o) 1 else evl (askS s o (wtr s o)) cs) = costS s cs o := by
    unfold costS
    by_cases e : cs = []
    · rw [if_pos e, if_pos e, ← n2_add]
      rfl
    · rw [if_neg e, if_neg e]
  rw [this]
end S8M

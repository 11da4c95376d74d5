/-! PURE SIDE, THE REFERENCE: who would have to end -/
def subO (s : St) (o v : Nat) : Bool := (List.range 8).all (fun j => !(vbs v j) || othS s o j)
def okS (s : St) (o v : Nat) : Bool := subO s o v && decide (outAll (vbs v) s 85 o = 1)
theorem frOk_ok {s : St} {o n v : Nat} : frOk s o n v = true ↔ okS s o v = true ∧ cnt8 (vbs v) = n := by
  unfold frOk okS subO
  rw [Bool.and_eq_true, Bool.and_eq_true, Bool.and_eq_true, decide_eq_true_eq, decide_eq_true_eq]
  constructor
  · rintro ⟨⟨a, b⟩, d⟩
    exact ⟨⟨a, d⟩, b⟩
  · rintro ⟨⟨a, d⟩, b⟩
    exact ⟨⟨a, b⟩, d⟩
theorem vbs_0 (j : Nat) : vbs 0 j = false := Nat.zero_testBit j
theorem outAll_0 (s : St) : outAll (vbs 0) s = s := by
  unfold outAll
  have : ∀ l : List Nat, l.foldl (outS (vbs 0)) s = s := by
    intro l
    induction l with
    | nil => rfl
    | cons x l ih =>
      rw [List.foldl_cons]
      have : outS (vbs 0) s x = s := by
        unfold outS
        rw [vbs_0, if_neg Bool.false_ne_true]
      rw [this]
      exact ih
  exact this _
theorem okS_0 {s : St} {o : Nat} (h : s 85 o = 2) : okS s o 0 = false := by
  unfold okS
  rw [outAll_0, h]
  simp
/-- with all others gone one runs -/
theorem out_runs {N : Nat} {s : St} {o : Nat} (hG : Gd N s) (ho : o < 8) (hw : s 85 o = 2) : outAll (othS s o) s 85 o = 1 := by
  have key : ∀ k, k ≤ 8 → (∀ j, j < 8 → j ≠ o → (j < k ∨ s 85 j = 0) → (List.range k).foldl (outS (othS s o)) s 85 j = 0) ∧ (List.range k).foldl (outS (othS s o)) s 85 o ≠ 0 := by
    intro k
    induction k with
    | zero =>
      intro _
      exact ⟨fun j hj hjo h => by rcases h with h | h; omega; exact h, by show s 85 o ≠ 0; omega⟩
    | succ k ih =>
      intro hk
      obtain ⟨i1, i2⟩ := ih (by omega)
      have hg := gd_out (othS s o) hG k (by omega)
      rw [List.range_succ, List.foldl_append, List.foldl_cons, List.foldl_nil]
      generalize (List.range k).foldl (outS (othS s o)) s = z at *
      unfold outS
      have hb := (hG.1.2.1 k (by omega)).1
      by_cases e : k = o
      · have : othS s o k = false := by
          unfold othS
          rw [decide_eq_true e.symm]
          rfl
        rw [this, if_neg Bool.false_ne_true]
        exact ⟨fun j hj hjo h => i1 j hj hjo (by rcases h with h | h; exact Or.inl (by omega); exact Or.inr h), i2⟩
      · obtain ⟨l1, l2, l3⟩ := leave_0 hg (show k < 8 by omega)
        by_cases f : s 85 k = 0
        · have : othS s o k = false := by
            unfold othS
            rw [f]
            simp
          rw [this, if_neg Bool.false_ne_true]
          refine ⟨fun j hj hjo h => i1 j hj hjo ?_, i2⟩
          rcases h with h | h
          · by_cases y : j = k
            · rw [y]; exact Or.inr f
            · exact Or.inl (by omega)
          · exact Or.inr h
        · have : othS s o k = true := by
            unfold othS
            rw [decide_eq_false (fun q => e q.symm)]
            have : s 85 k = 1 ∨ s 85 k = 2 := by omega
            rcases this with q | q <;> rw [q] <;> rfl
          rw [this, if_pos rfl]
          refine ⟨fun j hj hjo h => ?_, l3 o ho (fun q => e q.symm) i2⟩
          by_cases y : j = k
          · rw [y]; exact l1
          · refine l2 j hj (i1 j hj hjo ?_)
            rcases h with h | h
            · exact Or.inl (by omega)
            · exact Or.inr h
  obtain ⟨k1, k2⟩ := key 8 (Nat.le_refl 8)
  have hg := gd_out (othS s o) hG 8 (Nat.le_refl 8)
  unfold outAll
  generalize (List.range 8).foldl (outS (othS s o)) s = z at *
  have k1' : ∀ j, j < 8 → j ≠ o → z 85 j = 0 := fun j hj hjo => k1 j hj hjo (Or.inl hj)
  have hst := (hg.1.2.1 o ho).1
  apply Classical.byContradiction
  intro hn
  have h2 : z 85 o = 2 := by omega
  have h89 := (hg.1.2.2.1 o ho h2).1
  have hhd : Hd z (z 89 o) o := ⟨ho, rfl, fun j hj hjo hz => by
    have := hg.1.2.2.2.1 j hj (by rw [k1' j hj hjo]; omega)
    omega⟩
  have hf := hg.2.1 (z 89 o) o h89 (by simp) hhd
  obtain ⟨j, j1, j2, j3⟩ := fitb_iff.mp hf
  have h0 := hg.1.2.2.2.2.2.2.1 (z 89 o) j h89 j1 (k1' j j1 j2)
  rw [h0, tog_07 _ (by have := (hg.1.2.1 o ho).2.2.2.1; omega)] at j3
  exact absurd j3 (by decide)
theorem fr_some {N : Nat} {s : St} {o : Nat} (hG : Gd N s) (ho : o < 8) (hw : s 85 o = 2) : ¬ FrR s o none := by
  intro h
  have hr := out_runs hG ho hw
  have hb : ∀ j, j < 8 → vbs (bits8 (othS s o)) j = othS s o j := fun j hj => by
    show (bits8 (othS s o)).testBit j = _
    rw [bits8_tb, decide_eq_true hj, Bool.true_and]
  have hout : outAll (vbs (bits8 (othS s o))) s = outAll (othS s o) s := by
    unfold outAll
    have : ∀ l : List Nat, (∀ j ∈ l, j < 8) → ∀ z, l.foldl (outS (vbs (bits8 (othS s o)))) z = l.foldl (outS (othS s o)) z := by
      intro l
      induction l with
      | nil => intro _ z; rfl
      | cons x l ih =>
        intro hl z
        rw [List.foldl_cons, List.foldl_cons]
        have : outS (vbs (bits8 (othS s o))) z x = outS (othS s o) z x := by
          unfold outS
          rw [hb x (hl x List.mem_cons_self)]
        rw [this]
        exact ih (fun j hj => hl j (List.mem_cons_of_mem _ hj)) _
    exact this _ (fun j hj => List.mem_range.mp hj) s
  have hok : okS s o (bits8 (othS s o)) = true := by
    unfold okS subO
    rw [hout, hr, Bool.and_eq_true, List.all_eq_true]
    refine ⟨fun j hj => ?_, rfl⟩
    rw [hb j (List.mem_range.mp hj)]
    cases othS s o j <;> rfl
  have hne : bits8 (othS s o) ≠ 0 := by
    intro z
    rw [z, okS_0 hw] at hok
    exact absurd hok (by decide)
  have hcnt : cnt8 (vbs (bits8 (othS s o))) = cnt8 (othS s o) := cnt8_eq hb
  have h1 : 1 ≤ cnt8 (othS s o) := by
    apply Classical.byContradiction
    intro z
    apply hne
    rw [bits8_zero]
    exact fun j hj => cnt8_0 (by omega) hj
  have h8 : cnt8 (othS s o) + 1 ≤ cnt8 fun _ => true := cnt8_lt (fun _ _ _ => rfl) ho (by unfold othS; simp) rfl
  have h88 : (cnt8 fun _ => true) = 8 := rfl
  have := h (cnt8 (othS s o)) (bits8 (othS s o)) h1 (by omega) (by omega) (bits8_lt _)
  rw [(frOk_ok).mpr ⟨hok, hcnt⟩] at this
  exact absurd this (by decide)
/-- the least of those that are good, so far -/
def Bst (s : St) (o k : Nat) : Option Nat → Prop
  | none => ∀ v, v < k → okS s o v = false
  | some b => b < k ∧ okS s o b = true ∧ ∀ v, v < k → okS s o v = true → cnt8 (vbs b) < cnt8 (vbs v) ∨ (cnt8 (vbs b) = cnt8 (vbs v) ∧ b ≤ v)
theorem bst_end {s : St} {o : Nat} {b : Option Nat} {z : Nat × Nat} (h : Bst s o 256 b) (hz : FrR s o (some z)) (hw : s 85 o = 2) : b = some z.2 ∧ cnt8 (vbs z.2) = z.1 := by
  obtain ⟨z1, z2, z3, z4, z5, z6, z7⟩ := hz
  obtain ⟨y1, y2⟩ := frOk_ok.mp z5
  refine ⟨?_, y2⟩
  cases b with
  | none =>
    have := h z.2 z4
    rw [y1] at this
    exact absurd this (by decide)
  | some b =>
    obtain ⟨h1, h2, h3⟩ := h
    have hb1 : 1 ≤ b := by
      apply Classical.byContradiction
      intro q
      rw [show b = 0 by omega, okS_0 hw] at h2
      exact absurd h2 (by decide)
    have hc1 : 1 ≤ cnt8 (vbs b) := by
      apply Classical.byContradiction
      intro q
      have : bits8 (vbs b) = 0 := by
        rw [bits8_zero]
        exact fun j hj => cnt8_0 (by omega) hj
      rw [vbs_bits h1] at this
      omega
    have h5 := h3 z.2 z4 y1
    have h6 : ¬ cnt8 (vbs b) < z.1 := by
      intro q
      have := z6 (cnt8 (vbs b)) b hc1 q hb1 h1
      rw [frOk_ok.mpr ⟨h2, rfl⟩] at this
      exact absurd this (by decide)
    have h7 : ¬ b < z.2 := by
      intro q
      have := z7 b hb1 q
      rw [frOk_ok.mpr ⟨h2, by omega⟩] at this
      exact absurd this (by decide)
    congr 1
    omega
theorem bst_s {s : St} {o k : Nat} {b : Option Nat} (h : Bst s o k b) : Bst s o (k + 1) (if okS s o k = true ∧ (∀ v, b = some v → cnt8 (vbs k) < cnt8 (vbs v)) then some k else b) := by
  by_cases e : okS s o k = true ∧ (∀ v, b = some v → cnt8 (vbs k) < cnt8 (vbs v))
  · rw [if_pos e]
    refine ⟨by omega, e.1, fun v hv hok => ?_⟩
    by_cases f : v = k
    · rw [f]; exact Or.inr ⟨rfl, Nat.le_refl _⟩
    · cases b with
      | none =>
        have := h v (by omega)
        rw [hok] at this
        exact absurd this (by decide)
      | some b =>
        have h1 := h.2.2 v (by omega) hok
        have h2 := e.2 b rfl
        exact Or.inl (by omega)
  · rw [if_neg e]
    cases b with
    | none =>
      intro v hv
      by_cases f : v = k
      · rw [f]
        rcases bcs (okS s o k) with q | q
        · exact q
        · exact absurd ⟨q, fun v hv => by cases hv⟩ e
      · exact h v (by omega)
    | some b =>
      obtain ⟨h1, h2, h3⟩ := h
      refine ⟨by omega, h2, fun v hv hok => ?_⟩
      by_cases f : v = k
      · rw [f] at hok ⊢
        by_cases g : cnt8 (vbs k) < cnt8 (vbs b)
        · exact absurd ⟨hok, fun v hv => by cases hv; exact g⟩ e
        · by_cases g2 : cnt8 (vbs b) = cnt8 (vbs k)
          · exact Or.inr ⟨g2, by omega⟩
          · exact Or.inl (by omega)
      · exact h3 v (by omega) hok
section S9I
variable {I I' : Nat → Nat → Int32} {L : Nat → Nat → Int64} {c t r N T n : Nat} {s s' s0 : St} {μ : qM} {h : List St} {kp : Nat → Option St} {tx : List Nat} {row : List Int64} {cs : List Nat}
theorem x8_outs [FB] (w : W8 I L s h kp tx row cs) (hG : Gd N s) (hN : N < 900000000) {o v : Nat} (ho : o < 8) (hv : v < 256) (k27 : Nat → Int32 → Int32 → Int32 → Int32 → qM → Option qR) (x2 x3 : Int32) : ∃ I', fX8_frees_48 k27 210 (n2 o) x2 x3 (n2 v) (n2 1) (mk I L c t) = k27 210 (n2 o) x2 (if outAll (vbs v) s 85 o = 1 then n2 v else x3) (n2 (v + 1)) (mk I' L c t) ∧ W8 I' L s h kp tx row cs ∧ Fy I I' := by
  have hr : (218 : Nat) = 217 ∨ (218 : Nat) = 218 := .inr rfl
  obtain ⟨w2, r2, f2⟩ := w.cp
  unfold fX8_frees_48
  rw [l_0, if_neg one_ne, x8_copies, qbnd_s]
  dsimp only
  obtain ⟨J, hJ⟩ : ∃ J, cpI I 217 0 218 0 755 = J := ⟨_, rfl⟩
  rw [hJ] at w2 r2 f2 ⊢
  refine lp_rk (α := Nat → Nat → Int32) (fun f k K => fX8_frees_55 k27 f 210 (n2 o) x2 x3 (n2 v) (n2 k) (mk K L c t)) 8 (fun k K => W8 K L s h kp tx row cs ∧ R8 (K 218) ((List.range k).foldl (outS (vbs v)) s) ∧ Fy I K) (fun q => ∃ I', q = k27 210 (n2 o) x2 (if outAll (vbs v) s 85 o = 1 then n2 v else x3) (n2 (v + 1)) (mk I' L c t) ∧ W8 I' L s h kp tx row cs ∧ Fy I I') (k0 := 0) (by omega) (by omega) J ⟨w2, r2, f2⟩ (fun f k K _ hk hi => Or.inr ?_) (fun f K hi => ?_)
  · obtain ⟨i1, i2, i3⟩ := hi
    have hg := gd_out (vbs v) hG k (by omega)
    have hhas : ∀ {μ : qM}, fX8_has (n2 v) (n2 k) μ = some (n2 (bn (vbs v k)), 0, μ) := fun {μ} => by
      have := x8_hasB (μ := μ) (vbs v) hk
      rw [vbs_bits hv] at this
      exact this
    obtain ⟨G, hG1⟩ := i1.ga
    obtain ⟨K2, G2, a1, a2, a3, a4⟩ := x8_goes (L := L) (c := c) (t := t) hr (show N < 1000000000 by omega) hk i2 hG1 hg.1 hg.2.1
    have hst : (List.range (k + 1)).foldl (outS (vbs v)) s = outS (vbs v) ((List.range k).foldl (outS (vbs v)) s) k := by
      rw [List.range_succ, List.foldl_append]
      rfl
    have head : fX8_frees_55 k27 (f + 1) 210 (n2 o) x2 x3 (n2 v) (n2 k) (mk K L c t) = if vbs v k = true then fX8_frees_55 k27 f 210 (n2 o) x2 x3 (n2 v) (n2 (k + 1)) (mk K2 L c t) else fX8_frees_55 k27 f 210 (n2 o) x2 x3 (n2 v) (n2 (k + 1)) (mk K L c t) := by
      rw [fX8_frees_55]
      dsimp only
      rw [l_8, if_neg (by rw [n2_le (by omega) (by omega)]; omega), hhas, qbnd_s]
      dsimp only
      rw [l_0, l_1, n2_add, g210_15, qbnd_s, a1, qbnd_s]
      rcases bcs (vbs v k) with e | e
      · rw [e, if_pos no_zero, if_neg Bool.false_ne_true]
      · rw [e, if_neg yes_zero, if_pos rfl]
    rcases bcs (vbs v k) with e | e
    · refine ⟨K, ?_, i1, ?_, i3⟩
      · show fX8_frees_55 k27 (f + 1) 210 (n2 o) x2 x3 (n2 v) (n2 k) (mk K L c t) = _
        rw [head, e, if_neg Bool.false_ne_true]
      · rw [hst]
        unfold outS
        rw [e, if_neg Bool.false_ne_true]
        exact i2
    · refine ⟨K2, ?_, i1.then a4.f9 a3, ?_, i3.trans (a4.v hr)⟩
      · show fX8_frees_55 k27 (f + 1) 210 (n2 o) x2 x3 (n2 v) (n2 k) (mk K L c t) = _
        rw [head, if_pos e]
      · rw [hst]
        unfold outS
        rw [e, if_pos rfl]
        exact a2
  · obtain ⟨i1, i2, i3⟩ := hi
    have hB := gd_bd (gd_out (vbs v) hG 8 (Nat.le_refl 8)) (show N < 1000000000 by omega)
    have hst := (hB.ow ho).1
    refine ⟨K, ?_, i1, i3⟩
    show fX8_frees_55 k27 (f + 1) 210 (n2 o) x2 x3 (n2 v) (n2 8) (mk K L c t) = _
    have h85 : (K 218) (680 + o) = n2 (outAll (vbs v) s 85 o) := (i2.2.1 o ho).1
    have hst' : outAll (vbs v) s 85 o ≤ 2 := hst
    rw [fX8_frees_55]
    dsimp only
    rw [l_8, if_pos (by rw [n2_le (by omega) (by omega)]; exact Nat.le_refl 8), g210_15, qbnd_s, l_680, n2_add 680, r8L hr (by omega) h85, qbnd_s, l_1, n2_add]
    by_cases e : outAll (vbs v) s 85 o = 1
    · rw [if_pos (by rw [e]), if_pos e]
    · rw [if_neg (by rw [n2_eq (by omega) (by omega)]; exact e), if_neg e]
theorem subO_iff {v o : Nat} (hB : Bd s) (ho : o < 8) : subO s o v = true ↔ vbs v o = false ∧ ∀ j, j < 8 → (vbs v j && decide (s 85 j = 0)) = false := by
  unfold subO
  rw [List.all_eq_true]
  constructor
  · intro h1
    refine ⟨?_, fun j hj => ?_⟩
    · have := h1 o (List.mem_range.mpr ho)
      unfold othS at this
      rw [decide_eq_true rfl] at this
      rcases bcs (vbs v o) with q | q
      · exact q
      · rw [q] at this
        simp at this
    · have := h1 j (List.mem_range.mpr hj)
      rcases bcs (vbs v j) with q | q
      · rw [q]; rfl
      · by_cases f : s 85 j = 0
        · unfold othS at this
          rw [q, f] at this
          simp at this
        · rw [q, decide_eq_false f]; rfl
  · rintro ⟨h1, h2⟩ j hj
    have hj := List.mem_range.mp hj
    rcases bcs (vbs v j) with q | q
    · rw [q]; rfl
    · have h3 := h2 j hj
      rw [q, Bool.true_and, decide_eq_false_iff_not] at h3
      have hjo : ¬ o = j := fun z => by rw [← z, h1] at q; exact absurd q (by decide)
      have := (hB.ow hj).1
      have h4 : s 85 j = 1 ∨ s 85 j = 2 := by omega
      unfold othS
      rw [decide_eq_false hjo]
      rcases h4 with h4 | h4 <;> rw [q, h4] <;> rfl
theorem y8_frees [FB] (w : W8 I L s h kp tx row cs) (hG : Gd N s) (hN : N < 900000000) (x : Int32) (hx : nIx x < 8) : (s 85 (nIx x) ≠ 2 → ∃ I', fX8_frees 210 x (mk I L c t) = some (-n2 2, 0, mk I' L c t) ∧ W8 I' L s h kp tx row cs ∧ Fy I I') ∧ (s 85 (nIx x) = 2 → ∀ z, FrR s (nIx x) (some z) → ∃ I' L', fX8_frees 210 x (mk I L c t) = some (n2 z.1, 0, mk I' L' c t) ∧ W8 I' L' s h kp tx [(n2 z.2).toInt64] cs ∧ Fy I I') := by
  have w1 := w.sc (thr0 (I := I))
  have hB := gd_bd hG (show N < 1000000000 by omega)
  have hr : (217 : Nat) = 217 ∨ (217 : Nat) = 218 := .inl rfl
  obtain ⟨o, ho, rfl⟩ := nIx_ex (by omega) hx
  rw [nIx_n (show o < 2147483648 by omega)] at hx ⊢
  have hst := (hB.ow ho).1
  obtain ⟨J, hJ⟩ : ∃ J, upI I 210 0 (n2 0) = J := ⟨_, rfl⟩
  have hJv : Fy I J := by rw [← hJ]; exact thr0.v
  rw [hJ] at w1
  have head : fX8_frees 210 (n2 o) (mk I L c t) = if s 85 o = 2 then fX8_frees_27 qfu 210 (n2 o) (n2 (bits8 fun o => decide (s 85 o = 0))) (-n2 1) (n2 0) (mk J L c t) else some (-n2 2, 0, mk J L c t) := by
    unfold fX8_frees
    rw [if_pos (by rw [kk_210])]
    unfold gX8_frees
    rw [l_0, u210_0, qbnd_s, hJ, ow8, qbnd_s]
    dsimp only
    rw [nIx_n (by omega), decide_eq_true ho, if_neg yes_zero, g210_14, qbnd_s, l_680, n2_add 680, r8L hr (by omega) (w1.nw.2.1 o ho).1, qbnd_s, qbnd_s, x8_so hr w1.nw hB (by omega), qbnd_s, l_1, l_2]
    by_cases e : s 85 o = 2
    · rw [if_pos (by rw [e]), if_pos e]
    · rw [if_neg (by rw [n2_eq (by omega) (by omega)]; exact e), if_neg e]
  constructor
  · intro e
    refine ⟨J, ?_, w1, hJv⟩
    rw [head, if_neg e]
  · intro e z hz
    rw [head, if_pos e]
    refine lp_rk (α := (Nat → Nat → Int32) × Option Nat) (fun f k q => fX8_frees_27 f 210 (n2 o) (n2 (bits8 fun o => decide (s 85 o = 0))) (oi q.2) (n2 k) (mk q.1 L c t)) 256 (fun k q => W8 q.1 L s h kp tx row cs ∧ Fy I q.1 ∧ Bst s o k q.2) (fun q => ∃ I' L', q = some (n2 z.1, 0, mk I' L' c t) ∧ W8 I' L' s h kp tx [(n2 z.2).toInt64] cs ∧ Fy I I') (k0 := 0) (by omega) (by omega) (J, none) ⟨w1, hJv, fun v hv => absurd hv (Nat.not_lt_zero v)⟩ (fun f k q _ hk hi => Or.inr ?_) (fun f q hi => ?_)
    · obtain ⟨K, b⟩ := q
      obtain ⟨i1, i2, i3⟩ := hi
      dsimp only at i1 i2 i3
      have hbs := bst_s i3
      obtain ⟨K2, a1, a2, a3⟩ := x8_outs (c := c) (t := t) i1 hG hN ho hk (fX8_frees_27 f) (n2 (bits8 fun o => decide (s 85 o = 0))) (oi b)
      have hhas : ∀ {μ : qM}, fX8_has (n2 k) (n2 o) μ = some (n2 (bn (vbs k o)), 0, μ) := fun {μ} => by
        have := x8_hasB (μ := μ) (vbs k) ho
        rw [vbs_bits hk] at this
        exact this
      have hand : (n2 k &&& n2 (bits8 fun o => decide (s 85 o = 0)) = n2 0) = (∀ j, j < 8 → (vbs k j && decide (s 85 j = 0)) = false) := by
        have h1 : n2 k = n2 (bits8 (vbs k)) := by rw [vbs_bits hk]
        have h2 := bits8_lt (fun j => vbs k j && decide (s 85 j = 0))
        rw [h1, n2_and, bits8_and, n2_eq (by omega) (by omega)]
        exact propext (bits8_zero _)
      have hcnt : ∀ {v : Nat} {μ : qM}, v < 256 → fJ6_bitCount_0f7a4 (n2 v) μ = some (n2 (cnt8 (vbs v)), 0, μ) := fun {v μ} hv => by
        have := j6_cnt (vbs v) μ
        rw [vbs_bits hv] at this
        exact this
      have no : fX8_frees_47 (fX8_frees_27 f) 210 (n2 o) (n2 (bits8 fun o => decide (s 85 o = 0))) (oi b) (n2 k) (mk K L c t) = fX8_frees_27 f 210 (n2 o) (n2 (bits8 fun o => decide (s 85 o = 0))) (oi b) (n2 (k + 1)) (mk K L c t) := by
        unfold fX8_frees_47 fX8_frees_48
        rw [l_0, if_pos rfl, l_1, n2_add]
      have yes : fX8_frees_45 (fX8_frees_27 f) 210 (n2 o) (n2 (bits8 fun o => decide (s 85 o = 0))) (oi b) (n2 k) (mk K L c t) = fX8_frees_27 f 210 (n2 o) (n2 (bits8 fun o => decide (s 85 o = 0))) (if outAll (vbs k) s 85 o = 1 then n2 k else oi b) (n2 (k + 1)) (mk K2 L c t) := by
        unfold fX8_frees_45
        rw [l_1]
        exact a1
      -- the set may be tried
      by_cases hsub : subO s o k = true
      · obtain ⟨s1, s2⟩ := (subO_iff hB ho).mp hsub
        have try1 : fX8_frees_27 (f + 1) 210 (n2 o) (n2 (bits8 fun o => decide (s 85 o = 0))) (oi b) (n2 k) (mk K L c t) = if (∀ v, b = some v → cnt8 (vbs k) < cnt8 (vbs v)) then fX8_frees_45 (fX8_frees_27 f) 210 (n2 o) (n2 (bits8 fun o => decide (s 85 o = 0))) (oi b) (n2 k) (mk K L c t) else fX8_frees_47 (fX8_frees_27 f) 210 (n2 o) (n2 (bits8 fun o => decide (s 85 o = 0))) (oi b) (n2 k) (mk K L c t) := by
          rw [fX8_frees_27]
          dsimp only
          rw [l_256, if_neg (by rw [n2_le (by omega) (by omega)]; omega), hhas, qbnd_s]
          dsimp only
          rw [s1, l_0, if_pos no_zero, if_pos (by rw [hand]; exact s2)]
          cases b with
          | none =>
            rw [if_pos (show oi none < n2 0 by decide), if_pos (fun v hv => by cases hv)]
          | some v =>
            have hv := i3.1
            have c1 := cnt8_le (vbs k)
            have c2 := cnt8_le (vbs v)
            rw [if_neg (show ¬ oi (some v) < n2 0 by show ¬ n2 v < n2 0; rw [n2_nn (by omega)]; exact not_false), hcnt hk, qbnd_s]
            dsimp only
            rw [show oi (some v) = n2 v from rfl, hcnt (by omega), qbnd_s]
            dsimp only
            by_cases g : cnt8 (vbs k) < cnt8 (vbs v)
            · rw [if_neg (by rw [n2_le (by omega) (by omega)]; omega), if_pos (fun y hy => by cases hy; exact g)]
            · rw [if_pos (by rw [n2_le (by omega) (by omega)]; omega), if_neg (fun y => g (y v rfl))]
        by_cases hc : ∀ v, b = some v → cnt8 (vbs k) < cnt8 (vbs v)
        · rw [if_pos hc, yes] at try1
          by_cases hout : outAll (vbs k) s 85 o = 1
          · have hok : okS s o k = true := by
              unfold okS
              rw [hsub, hout]
              rfl
            rw [if_pos ⟨hok, hc⟩] at hbs
            rw [if_pos hout] at try1
            exact ⟨(K2, some k), try1, a2, i2.trans a3, hbs⟩
          · have hok : ¬ okS s o k = true := by
              unfold okS
              rw [decide_eq_false hout, Bool.and_false]
              exact Bool.false_ne_true
            rw [if_neg (fun y => hok y.1)] at hbs
            rw [if_neg hout] at try1
            exact ⟨(K2, b), try1, a2, i2.trans a3, hbs⟩
        · rw [if_neg hc, no] at try1
          rw [if_neg (fun y => hc y.2)] at hbs
          exact ⟨(K, b), try1, i1, i2, hbs⟩
      · have hok : ¬ okS s o k = true := by
          unfold okS
          rw [Bool.and_eq_true]
          exact fun y => hsub y.1
        rw [if_neg (fun y => hok y.1)] at hbs
        refine ⟨(K, b), ?_, i1, i2, hbs⟩
        show fX8_frees_27 (f + 1) 210 (n2 o) (n2 (bits8 fun o => decide (s 85 o = 0))) (oi b) (n2 k) (mk K L c t) = _
        rw [fX8_frees_27]
        dsimp only
        rw [l_256, if_neg (by rw [n2_le (by omega) (by omega)]; omega), hhas, qbnd_s]
        dsimp only
        rcases bcs (vbs k o) with q | q
        · have hn : ¬ ∀ j, j < 8 → (vbs k j && decide (s 85 j = 0)) = false := fun y => hsub ((subO_iff hB ho).mpr ⟨q, y⟩)
          rw [q, l_0, if_pos no_zero, if_neg (by rw [hand]; exact hn), no]
        · rw [q, l_0, if_neg yes_zero, no]
    · obtain ⟨K, b⟩ := q
      obtain ⟨i1, i2, i3⟩ := hi
      dsimp only at i1 i2 i3
      obtain ⟨e1, e2⟩ := bst_end i3 hz e
      subst e1
      have hz256 := hz.2.2.2.1
      obtain ⟨I4, L4, o1, o2, o3, -⟩ := x8_one (c := c) (t := t) i1 (n2 z.2).toInt64
      have hcnt : ∀ {μ : qM}, fJ6_bitCount_0f7a4 (n2 z.2) μ = some (n2 z.1, 0, μ) := fun {μ} => by
        have := j6_cnt (vbs z.2) μ
        rw [vbs_bits hz256, e2] at this
        exact this
      refine ⟨I4, L4, ?_, o2, i2.trans o3⟩
      show fX8_frees_27 (f + 1) 210 (n2 o) (n2 (bits8 fun o => decide (s 85 o = 0))) (oi (some z.2)) (n2 256) (mk K L c t) = _
      rw [fX8_frees_27]
      dsimp only
      rw [l_256, if_pos (by rw [n2_le (by omega) (by omega)]; exact Nat.le_refl 256), l_0, u210_1, qbnd_s, show oi (some z.2) = n2 z.2 from rfl, o1, qbnd_s]
      dsimp only
      rw [hcnt, qbnd_s]
theorem y8_frees_n [FB] (w : W8 I L s h kp tx row cs) (x : Int32) (hn : ¬ nIx x < 8) : ∃ I', fX8_frees 210 x (mk I L c t) = some (-n2 1, 0, mk I' L c t) ∧ W8 I' L s h kp tx row cs ∧ Fy I I' := by
  refine ⟨_, ?_, w.sc (thr0 (I := I)), thr0.v⟩
  unfold fX8_frees
  rw [if_pos (by rw [kk_210])]
  unfold gX8_frees
  rw [l_0, u210_0, qbnd_s, ow8, qbnd_s]
  dsimp only
  rw [decide_eq_false hn, if_pos no_zero, l_1]
end S9I

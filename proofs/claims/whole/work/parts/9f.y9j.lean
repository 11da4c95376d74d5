/-! PURE SIDE, THE REFERENCE: reading signs -/
def Rg (I : Nat → Nat → Int32) (tx : List Nat) (m p : Nat) : Prop := (∀ i, i < tx.length → I 212 i = n2 (tx.getD i 0) ∧ tx.getD i 0 < 256) ∧ tx.length ≤ 80 ∧ m ≤ tx.length ∧ p ≤ m ∧ I 210 6 = n2 m ∧ I 210 5 = n2 p
def Ft (I I' : Nat → Nat → Int32) : Prop := ∀ b i, ¬ (b = 210 ∧ i = 5) → I' b i = I b i
theorem Ft.rf (I : Nat → Nat → Int32) : Ft I I := fun _ _ _ => rfl
theorem Ft.trans {I I1 I2 : Nat → Nat → Int32} (h1 : Ft I I1) (h2 : Ft I1 I2) : Ft I I2 := fun b i h => (h2 b i h).trans (h1 b i h)
theorem Ft.up {I : Nat → Nat → Int32} {x : Int32} : Ft I (upI I 210 5 x) := fun b i h => by
  by_cases e : b = 210
  · rw [e]; exact upI_ni (fun z => h ⟨e, z⟩)
  · exact upI_ne e
theorem Ft.s {I I' : Nat → Nat → Int32} (h : Ft I I') : Fs I I' := fun b i _ _ _ _ _ _ _ _ _ _ _ hb => h b i (by omega)
theorem Rg.mv {I : Nat → Nat → Int32} {tx : List Nat} {m p p' : Nat} (h : Rg I tx m p) (hp : p' ≤ m) : Rg (upI I 210 5 (n2 p')) tx m p' := by
  obtain ⟨h1, h2, h3, h4, h5, h6⟩ := h
  exact ⟨fun i hi => by rw [upI_ne (by omega)]; exact h1 i hi, h2, h3, hp, by rw [upI_ni (by omega)]; exact h5, upI_eq⟩
theorem Rg.on {I I' : Nat → Nat → Int32} {tx : List Nat} {m p : Nat} (h : Rg I tx m p) (f1 : ∀ i, I' 212 i = I 212 i) (f2 : I' 210 6 = I 210 6) (f3 : I' 210 5 = I 210 5) : Rg I' tx m p := by
  obtain ⟨h1, h2, h3, h4, h5, h6⟩ := h
  exact ⟨fun i hi => by rw [f1]; exact h1 i hi, h2, h3, h4, f2.trans h5, f3.trans h6⟩
/-- whether a sign is the next one -/
def tkB (tx : List Nat) (m p g : Nat) : Bool := decide (p < m) && decide (tx.getD p 0 = g)
def dgB (tx : List Nat) (m p : Nat) : Bool := decide (p < m) && isd (tx.getD p 0)
def toS (tx : List Nat) (m p j : Nat) : Option Nat := if p < m then (List.range (strM j).length).find? (fun k => decide ((strM j).getD k 0 = tx.getD p 0)) else none
def numS (tx : List Nat) (m : Nat) : Nat → Nat → Nat → Nat × Nat
  | 0, p, v => (v, p)
  | d + 1, p, v => if dgB tx m p = true then numS tx m d (p + 1) (10 * v + tx.getD p 0 - 48) else (v, p)
section S9J
variable {I I' : Nat → Nat → Int32} {L : Nat → Nat → Int64} {c t r N T n : Nat} {s s' s0 : St} {μ : qM} {h : List St} {kp : Nat → Option St} {tx : List Nat} {row : List Int64} {cs : List Nat} {m p : Nat}
theorem x8_takes (hR : Rg I tx m p) {g : Nat} (hg : g < 256) : ∃ I', fX8_takes 210 (n2 g) (mk I L c t) = some (n2 (bn (tkB tx m p g)), 0, mk I' L c t) ∧ Rg I' tx m (p + bn (tkB tx m p g)) ∧ Ft I I' := by
  obtain ⟨h1, h2, h3, h4, h5, h6⟩ := hR
  have b15 : ∀ b : Bool, (b = true → p < m) → ∃ I', fX8_takes_15 210 (n2 (bn b)) (mk I L c t) = some (n2 (bn b), 0, mk I' L c t) ∧ Rg I' tx m (p + bn b) ∧ Ft I I' := by
    intro b hb
    refine ⟨upI I 210 5 (n2 (p + bn b)), ?_, Rg.mv ⟨h1, h2, h3, h4, h5, h6⟩ ?_, .up⟩
    · unfold fX8_takes_15
      rw [g210_5, qbnd_s, x8_flag, qbnd_s]
      dsimp only
      rw [h6, n2_add, u210_5, qbnd_s, if_pos (qz_b _)]
    · cases b with
      | false => exact h4
      | true => exact hb rfl
  unfold fX8_takes
  rw [if_pos (by rw [kk_210])]
  unfold gX8_takes
  rw [g210_5, qbnd_s, g210_6, qbnd_s, h5, h6]
  unfold fX8_takes_14 tkB
  rw [l_0, l_1]
  by_cases e : p < m
  · rw [if_neg (by rw [n2_le (by omega) (by omega)]; omega), decide_eq_true e, Bool.true_and, g210_3, qbnd_s, qbnd_s, ld212 (by omega), qbnd_s, (h1 p (by omega)).1]
    have hc := (h1 p (by omega)).2
    by_cases e2 : tx.getD p 0 = g
    · rw [if_pos (by rw [e2]), decide_eq_true e2]
      exact b15 true fun _ => e
    · rw [if_neg (by rw [n2_eq (by omega) (by omega)]; exact e2), decide_eq_false e2]
      exact b15 false fun z => absurd z Bool.false_ne_true
  · rw [if_pos (by rw [n2_le (by omega) (by omega)]; omega), decide_eq_false e, Bool.false_and]
    exact b15 false fun z => absurd z Bool.false_ne_true
theorem isd_iff {g : Nat} : isd g = true ↔ 48 ≤ g ∧ g ≤ 57 := by
  unfold isd
  rw [Bool.and_eq_true, decide_eq_true_eq, decide_eq_true_eq]
theorem x8_isDigit (hR : Rg I tx m p) : fX8_isDigit 210 (mk I L c t) = some (n2 (bn (dgB tx m p)), 0, mk I L c t) := by
  obtain ⟨h1, h2, h3, h4, h5, h6⟩ := hR
  unfold fX8_isDigit
  rw [if_pos (by rw [kk_210])]
  unfold gX8_isDigit
  rw [g210_5, qbnd_s, g210_6, qbnd_s, h5, h6]
  unfold dgB
  rw [l_0, l_1, if_pos no_qz]
  by_cases e : p < m
  · have hc := (h1 p (by omega)).2
    rw [if_neg (by rw [n2_le (by omega) (by omega)]; omega), decide_eq_true e, Bool.true_and, g210_3, qbnd_s, qbnd_s, ld212 (by omega), qbnd_s, (h1 p (by omega)).1, x8_in _ (lo := 48) (hi := 57) (a := 48) (b := 57) (by omega) (by omega) rfl rfl, qbnd_s]
    dsimp only
    rw [nIx_n (by omega)]
    rcases bcs (isd (tx.getD p 0)) with f | f
    · have : ¬ (48 ≤ tx.getD p 0 ∧ tx.getD p 0 ≤ 57) := fun z => by
        rw [isd_iff.mpr z] at f
        exact absurd f (by decide)
      rw [decide_eq_false this, if_pos no_zero, if_pos no_qz, f]
      rfl
    · rw [decide_eq_true (isd_iff.mp f), if_neg yes_zero, if_pos yes_qz, f]
      rfl
  · rw [if_pos (by rw [n2_le (by omega) (by omega)]; omega), decide_eq_false e, Bool.false_and]
    rfl
theorem x8_takesOf (hR : Rg I tx m p) {j : Nat} (hj : j < 7) : ∃ I', fX8_takesOf 210 (16 + j) (mk I L c t) = some (oi (toS tx m p j), 0, mk I' L c t) ∧ Rg I' tx m (p + (if (toS tx m p j).isSome = true then 1 else 0)) ∧ Ft I I' := by
  have hR0 := hR
  obtain ⟨h1, h2, h3, h4, h5, h6⟩ := hR
  have hlen := (jm_len j hj).2.2.2
  unfold fX8_takesOf
  rw [if_pos (by rw [kk_210])]
  unfold gX8_takesOf
  rw [l_0]
  by_cases e : p < m
  · have hc := (h1 p (by omega)).2
    have key := lp_x0 (α := Nat) (fun f k => fX8_takesOf_2 f 210 (16 + j) (n2 k) (mk I L c t)) (strM j).length (by omega) (fun k => decide ((strM j).getD k 0 = tx.getD p 0)) (fun k => some (n2 k, 0, mk (upI I 210 5 (n2 (p + 1))) L c t)) (some (-n2 1, 0, mk I L c t)) (fun f k hk => ?_) (fun f => ?_)
    · have ht : toS tx m p j = (List.range (strM j).length).find? (fun k => decide ((strM j).getD k 0 = tx.getD p 0)) := if_pos e
      rw [key, ht]
      cases (List.range (strM j).length).find? (fun k => decide ((strM j).getD k 0 = tx.getD p 0)) with
      | none => exact ⟨I, rfl, hR0, .rf _⟩
      | some k => exact ⟨upI I 210 5 (n2 (p + 1)), rfl, hR0.mv (by omega), .up⟩
    · have hk9 : k < 9 := by omega
      have hchr := (jm_chr j hj k hk).2.1
      show fX8_takesOf_2 (f + 1) 210 (16 + j) (n2 k) (mk I L c t) = _
      rw [fX8_takesOf_2]
      dsimp only
      rw [jm_length hj, qbnd_s]
      dsimp only
      rw [if_neg (by rw [n2_le (by omega) (by omega)]; omega), g210_5, qbnd_s, g210_6, qbnd_s, h5, h6, if_neg (by rw [n2_le (by omega) (by omega)]; omega), jm_charAt hj hk, qbnd_s]
      dsimp only
      rw [g210_3, qbnd_s, g210_5, qbnd_s, h6, ld212 (by omega), qbnd_s, (h1 p (by omega)).1, qbnd_s, l_1, n2_add, n2_add, u210_5, qbnd_s]
      by_cases e2 : (strM j).getD k 0 = tx.getD p 0
      · rw [if_pos (by rw [e2]), decide_eq_true e2, if_pos rfl]
      · rw [if_neg (by rw [n2_eq (by omega) (by omega)]; exact e2), decide_eq_false e2, if_neg Bool.false_ne_true]
    · show fX8_takesOf_2 (f + 1) 210 (16 + j) (n2 (strM j).length) (mk I L c t) = _
      rw [fX8_takesOf_2]
      dsimp only
      rw [jm_length hj, qbnd_s]
      dsimp only
      rw [if_pos (by rw [n2_le (by omega) (by omega)]; exact Nat.le_refl _), l_1]
  · have ht : toS tx m p j = none := if_neg e
    rw [ht]
    refine ⟨I, ?_, hR0, .rf _⟩
    obtain ⟨f, hf⟩ := qfu_s
    rw [hf, fX8_takesOf_2]
    dsimp only
    rw [jm_length hj, qbnd_s]
    dsimp only
    by_cases z : (strM j).length = 0
    · rw [z, if_pos (by decide), l_1]
      rfl
    · rw [if_neg (by rw [n2_le (by omega) (by omega)]; omega), g210_5, qbnd_s, g210_6, qbnd_s, h5, h6, if_pos (by rw [n2_le (by omega) (by omega)]; omega), l_1]
      rfl
theorem x8_num_l {D : Nat} (hD : D < 4) : ∀ (d f k p v : Nat) (I : Nat → Nat → Int32), k + d = D → d < f → v < 10 ^ k → Rg I tx m p → ∃ I', fX8_number_9 f 210 (n2 D) (n2 v) (n2 k) (mk I L c t) = some (n2 (numS tx m d p v).1, 0, mk I' L c t) ∧ Rg I' tx m (numS tx m d p v).2 ∧ Ft I I' := by
  intro d
  induction d with
  | zero =>
    intro f k p v I hk hf hv hR
    obtain ⟨f, rfl⟩ : ∃ f', f = f' + 1 := ⟨f - 1, by omega⟩
    refine ⟨I, ?_, hR, .rf _⟩
    rw [fX8_number_9]
    dsimp only
    rw [if_pos (by rw [n2_le (by omega) (by omega)]; omega)]
    rfl
  | succ d ih =>
    intro f k p v I hk hf hv hR
    obtain ⟨f, rfl⟩ : ∃ f', f = f' + 1 := ⟨f - 1, by omega⟩
    rw [fX8_number_9]
    dsimp only
    rw [if_neg (by rw [n2_le (by omega) (by omega)]; omega), x8_isDigit hR, qbnd_s]
    dsimp only
    have hR0 := hR
    obtain ⟨h1, h2, h3, h4, h5, h6⟩ := hR
    simp only [numS]
    rcases bcs (dgB tx m p) with e | e
    · rw [e, l_0, if_pos no_zero, if_neg Bool.false_ne_true]
      exact ⟨I, rfl, hR0, .rf _⟩
    · have e' := e
      unfold dgB at e'
      rw [Bool.and_eq_true, decide_eq_true_eq, isd_iff] at e'
      have hpw : 10 ^ (k + 1) = 10 * 10 ^ k := by rw [Nat.pow_succ, Nat.mul_comm]
      obtain ⟨I', a1, a2, a3⟩ := ih f (k + 1) (p + 1) (10 * v + tx.getD p 0 - 48) (upI I 210 5 (n2 (p + 1))) (by omega) (by omega) (by omega) (hR0.mv (by omega))
      refine ⟨I', ?_, by rw [if_pos e]; exact a2, Ft.up.trans a3⟩
      rw [e, l_0, if_neg yes_zero, if_pos rfl, g210_3, qbnd_s, g210_5, qbnd_s, h6, ld212 (by omega), qbnd_s, (h1 p (by omega)).1, qbnd_s, l_1, n2_add, u210_5, qbnd_s, l_10, l_48, n2_mul, n2_add, n2_sub (by omega), n2_add]
      exact a1
theorem x8_number (hR : Rg I tx m p) {D : Nat} (hD : D < 4) : ∃ I', fX8_number 210 (n2 D) (mk I L c t) = some (if dgB tx m p = true then n2 (numS tx m D p 0).1 else -n2 1, 0, mk I' L c t) ∧ Rg I' tx m (if dgB tx m p = true then (numS tx m D p 0).2 else p) ∧ Ft I I' := by
  unfold fX8_number
  rw [if_pos (by rw [kk_210])]
  unfold gX8_number
  rw [x8_isDigit hR, qbnd_s]
  dsimp only
  rw [l_0, l_1]
  rcases bcs (dgB tx m p) with e | e
  · rw [e, if_pos no_zero, if_neg Bool.false_ne_true, if_neg Bool.false_ne_true]
    exact ⟨I, rfl, hR, .rf _⟩
  · rw [e, if_neg yes_zero, if_pos rfl, if_pos rfl]
    exact x8_num_l hD D qfu 0 p 0 I (by omega) (by rw [qfu_eq]; omega) (by decide) hR
theorem x8_number1 (hR : Rg I tx m p) : ∃ I', fX8_number 210 (n2 1) (mk I L c t) = some (if dgB tx m p = true then n2 (tx.getD p 0 - 48) else -n2 1, 0, mk I' L c t) ∧ Rg I' tx m (if dgB tx m p = true then p + 1 else p) ∧ Ft I I' := by
  obtain ⟨I', a1, a2, a3⟩ := x8_number (L := L) (c := c) (t := t) hR (D := 1) (by omega)
  simp only [numS] at a1 a2
  refine ⟨I', ?_, ?_, a3⟩
  · rw [a1]
    rcases bcs (dgB tx m p) with e | e
    · rw [e, if_neg Bool.false_ne_true, if_neg Bool.false_ne_true]
    · rw [e, if_pos rfl, if_pos rfl, if_pos rfl, Nat.mul_zero, Nat.zero_add]
  · rcases bcs (dgB tx m p) with e | e
    · rw [e, if_neg Bool.false_ne_true] at a2 ⊢
      exact a2
    · rw [e, if_pos rfl, if_pos rfl] at a2
      rw [e, if_pos rfl]
      exact a2
/-- reading begins: the tape is empty from now on -/
theorem x8_reads [FB] (w : W8 I L s h kp tx row cs) {M : Nat} (hM : M ≤ 80) : ∃ I', fX8_reads 210 (n2 M) (mk I L c t) = some (n2 tx.length, 0, mk I' L c t) ∧ W8 I' L s h kp [] row cs ∧ Rg I' tx (if M < tx.length then M else tx.length) 0 ∧ I' 210 7 = n2 0 ∧ Fy I I' ∧ (∀ b i, ¬ (b = 210 ∧ (i = 4 ∨ i = 5 ∨ i = 6 ∨ i = 7)) → I' b i = I b i) := by
  obtain ⟨t1, t2, t3⟩ := w.te
  have wc := w.cut (Nat.zero_le tx.length)
  rw [List.take_zero] at wc
  have hmin : (if n2 M < n2 tx.length then n2 M else n2 tx.length) = n2 (if M < tx.length then M else tx.length) := by
    by_cases e : M < tx.length
    · rw [if_pos (by rw [n2_lt (by omega) (by omega)]; exact e), if_pos e]
    · rw [if_neg (by rw [n2_lt (by omega) (by omega)]; exact e), if_neg e]
  have f1 : Fs (upI I 210 4 (n2 0)) (upI (upI (upI (upI I 210 4 (n2 0)) 210 5 (n2 0)) 210 7 (n2 0)) 210 6 (n2 (if M < tx.length then M else tx.length))) := (Fs.up2 (by omega)).trans ((Fs.up2 (by omega)).trans (Fs.up2 (by omega)))
  have fr : ∀ b i, ¬ (b = 210 ∧ (i = 4 ∨ i = 5 ∨ i = 6 ∨ i = 7)) → (upI (upI (upI (upI I 210 4 (n2 0)) 210 5 (n2 0)) 210 7 (n2 0)) 210 6 (n2 (if M < tx.length then M else tx.length))) b i = I b i := fun b i hb => by
    rw [upI_at, if_neg (by omega), upI_at, if_neg (by omega), upI_at, if_neg (by omega), upI_at, if_neg (by omega)]
  refine ⟨_, ?_, wc.sc f1, ⟨fun i hi => ?_, t2, ?_, Nat.zero_le _, upI_eq, ?_⟩, ?_, fun b i hb => fr b i (by omega), fr⟩
  · unfold fX8_reads
    rw [if_pos (by rw [kk_210])]
    unfold gX8_reads
    rw [g210_4, qbnd_s, t1, l_0, u210_4, qbnd_s, u210_5, qbnd_s, u210_7, qbnd_s, hmin, u210_6, qbnd_s]
  · rw [fr _ _ (by omega)]
    exact t3 i hi
  · split <;> omega
  · rw [upI_ni (by omega), upI_ni (by omega), upI_eq]
  · rw [upI_ni (by omega), upI_eq]
end S9J

/-! PURE SIDE, THE REFERENCE: a mode by its name -/
def nmF (n p : Nat) (hS hI hX hL hU : Bool) : Option Nat := if p < n then none else if hI && !hX && !hL || hS && !hI && hX then none else some (if n = 0 then 0 else if hU then 5 else if hL then 1 else if hS && hI then 4 else if hS then 3 else if hI then 2 else 6)
def nmR (tx : List Nat) : Option Nat :=
  let n := tx.length
  let hS := tkB tx n 0 83
  let hI := tkB tx n (bn hS) 73
  let hX := tkB tx n (bn hS + bn hI) 88
  let hL := (hI && !hS && !hX) && tkB tx n (bn hS + bn hI + bn hX) 83
  let hU := (!hS && !hI && !hX) && tkB tx n (bn hS + bn hI + bn hX) 85
  nmF n (bn hS + bn hI + bn hX + bn hL + bn hU) hS hI hX hL hU
theorem tk_0 {g : Nat} : tkB [] 0 0 g = false := rfl
theorem tk_c (a g m p : Nat) (l : List Nat) : tkB (a :: l) m (p + 1) g = (decide (p + 1 < m) && decide (l.getD p 0 = g)) := rfl
theorem nmR_1 (a : Nat) : nmR [a] = nameS [a] := by
  unfold nmR nameS nmF tkB
  by_cases h1 : a = 83
  · subst h1; decide
  by_cases h2 : a = 73
  · subst h2; decide
  by_cases h3 : a = 88
  · subst h3; decide
  by_cases h4 : a = 85
  · subst h4; decide
  simp [h1, h2, h3, h4, bn]
theorem nmR_2 (a b : Nat) : nmR [a, b] = nameS [a, b] := by
  unfold nmR nameS nmF tkB
  by_cases h1 : a = 83
  · subst h1
    by_cases k1 : b = 73
    · subst k1; decide
    by_cases k2 : b = 88
    · subst k2; decide
    simp [k1, k2, bn]
  by_cases h2 : a = 73
  · subst h2
    by_cases k1 : b = 88
    · subst k1; decide
    by_cases k2 : b = 83
    · subst k2; decide
    simp [k1, k2, bn]
  by_cases h3 : a = 88
  · subst h3; simp [bn]
  by_cases h4 : a = 85
  · subst h4; simp [bn]
  simp [h1, h2, h3, h4, bn]
theorem nmR_3 (a b d : Nat) : nmR [a, b, d] = nameS [a, b, d] := by
  unfold nmR nameS nmF tkB
  by_cases h1 : a = 83
  · subst h1
    by_cases k1 : b = 73
    · subst k1
      by_cases j1 : d = 88
      · subst j1; decide
      simp [j1, bn]
    by_cases k2 : b = 88
    · subst k2; simp [bn]
    simp [k1, k2, bn]
  by_cases h2 : a = 73
  · subst h2
    by_cases k1 : b = 88
    · subst k1; simp [bn]
    by_cases k2 : b = 83
    · subst k2; simp [bn]
    simp [k1, k2, bn]
  by_cases h3 : a = 88
  · subst h3; simp [bn]
  by_cases h4 : a = 85
  · subst h4; simp [bn]
  simp [h1, h2, h3, h4, bn]
theorem nmR_4 (a b d e : Nat) (l : List Nat) : nmR (a :: b :: d :: e :: l) = nameS (a :: b :: d :: e :: l) := by
  have h1 : nameS (a :: b :: d :: e :: l) = none := by
    unfold nameS
    simp
  rw [h1]
  unfold nmR nmF
  dsimp only
  have hb := bn_le1
  generalize tkB (a :: b :: d :: e :: l) (a :: b :: d :: e :: l).length 0 83 = hS
  generalize tkB (a :: b :: d :: e :: l) (a :: b :: d :: e :: l).length (bn hS) 73 = hI
  generalize tkB (a :: b :: d :: e :: l) (a :: b :: d :: e :: l).length (bn hS + bn hI) 88 = hX
  generalize tkB (a :: b :: d :: e :: l) (a :: b :: d :: e :: l).length (bn hS + bn hI + bn hX) 83 = tL
  generalize tkB (a :: b :: d :: e :: l) (a :: b :: d :: e :: l).length (bn hS + bn hI + bn hX) 85 = tU
  have hlen : 4 ≤ (a :: b :: d :: e :: l).length := by simp
  rw [if_pos]
  cases hS <;> cases hI <;> cases hX <;> cases tL <;> cases tU <;> simp [bn] <;> omega
theorem nmR_eq : ∀ tx, nmR tx = nameS tx
  | [] => rfl
  | [a] => nmR_1 a
  | [a, b] => nmR_2 a b
  | [a, b, d] => nmR_3 a b d
  | a :: b :: d :: e :: l => nmR_4 a b d e l
section S9O
variable {I I' : Nat → Nat → Int32} {L : Nat → Nat → Int64} {c t r N T n : Nat} {s s' s0 : St} {μ : qM} {h : List St} {kp : Nat → Option St} {tx : List Nat} {row : List Int64} {cs : List Nat} {m p : Nat}
theorem nm46 (hS hI hX hL hU : Bool) {n p : Nat} (hn : n < 100) (hp : p < 100) (h5 : I 210 5 = n2 p) : fX8_named_46 210 (n2 n) (n2 (bn hS)) (n2 (bn hI)) (n2 (bn hX)) (n2 (bn hL)) (n2 (bn hU)) (mk I L c t) = some (oi (nmF n p hS hI hX hL hU), 0, mk I L c t) := by
  unfold fX8_named_46 nmF
  rw [g210_5, qbnd_s, h5, l_0, l_1]
  by_cases e : p < n
  · rw [if_pos (by rw [n2_lt (by omega) (by omega)]; exact e), if_pos e]
    rfl
  · rw [if_neg (by rw [n2_lt (by omega) (by omega)]; exact e), if_neg e]
    unfold fX8_named_57
    by_cases e0 : n = 0
    · subst e0
      unfold fX8_named_65
      cases hS <;> cases hI <;> cases hX <;> cases hL <;> cases hU <;> rfl
    · have hn0 : ¬ n2 n = n2 0 := by rw [n2_eq (by omega) (by omega)]; exact e0
      unfold fX8_named_65
      rw [l_0, if_neg hn0, if_neg e0]
      cases hS <;> cases hI <;> cases hX <;> cases hL <;> cases hU <;> rfl
theorem y8_named [FB] (w : W8 I L s h kp tx row cs) : ∃ I', fX8_named 210 (mk I L c t) = some (oi (nameS tx), 0, mk I' L c t) ∧ W8 I' L s h kp [] row cs ∧ Fy I I' := by
  have w1 := w.sc (thr0 (I := I))
  have h80 := w1.te.2.1
  obtain ⟨I1, a1, a2, a3, a4, a5, a6⟩ := x8_reads (c := c) (t := t) w1 (M := 80) (by omega)
  rw [if_neg (by omega)] at a3
  obtain ⟨hS, eS⟩ : ∃ b, tkB tx tx.length 0 83 = b := ⟨_, rfl⟩
  obtain ⟨I2, b1, b2, b3⟩ := x8_takes (L := L) (c := c) (t := t) a3 (g := 83) (by omega)
  rw [eS, Nat.zero_add] at b2
  rw [eS] at b1
  obtain ⟨hI, eI⟩ : ∃ b, tkB tx tx.length (bn hS) 73 = b := ⟨_, rfl⟩
  obtain ⟨I3, c1, c2, c3⟩ := x8_takes (L := L) (c := c) (t := t) b2 (g := 73) (by omega)
  rw [eI] at c1 c2
  obtain ⟨hX, eX⟩ : ∃ b, tkB tx tx.length (bn hS + bn hI) 88 = b := ⟨_, rfl⟩
  obtain ⟨I4, d1, d2, d3⟩ := x8_takes (L := L) (c := c) (t := t) c2 (g := 88) (by omega)
  rw [eX] at d1 d2
  have hb := bn_le1
  have hp3 : bn hS + bn hI + bn hX ≤ 3 := by have := hb hS; have := hb hI; have := hb hX; omega
  have head : fX8_named 210 (mk I L c t) = if hI = true then (if hS = true then fX8_named_31 210 (n2 tx.length) (n2 (bn hS)) (n2 (bn hI)) (n2 (bn hX)) (mk I4 L c t) else if hX = true then fX8_named_31 210 (n2 tx.length) (n2 (bn hS)) (n2 (bn hI)) (n2 (bn hX)) (mk I4 L c t) else (qbnd (fX8_takes 210 (n2 83) (mk I4 L c t)) fun r6 => if r6.1 = n2 0 then fX8_named_31 210 (n2 tx.length) (n2 (bn hS)) (n2 (bn hI)) (n2 (bn hX)) r6.2.2 else fX8_named_32 210 (n2 tx.length) (n2 (bn hS)) (n2 (bn hI)) (n2 (bn hX)) (n2 1) r6.2.2)) else fX8_named_31 210 (n2 tx.length) (n2 (bn hS)) (n2 (bn hI)) (n2 (bn hX)) (mk I4 L c t) := by
    unfold fX8_named
    rw [if_pos (by rw [kk_210])]
    unfold gX8_named
    rw [l_0, u210_0, qbnd_s, l_80, a1, qbnd_s]
    dsimp only
    rw [l_83, b1, qbnd_s]
    dsimp only
    rw [l_73, c1, qbnd_s]
    dsimp only
    rw [l_88, d1, qbnd_s]
    dsimp only
    rw [l_1]
    cases hI with
    | false => rw [if_pos no_zero, if_neg Bool.false_ne_true]
    | true =>
      rw [if_neg yes_zero, if_pos rfl]
      cases hS with
      | true => rw [if_neg yes_zero, if_pos rfl]
      | false =>
        rw [if_pos no_zero, if_neg Bool.false_ne_true]
        cases hX with
        | true => rw [if_neg yes_zero, if_pos rfl]
        | false => rw [if_pos no_zero, if_neg Bool.false_ne_true]
  have hspec : nameS tx = nmF tx.length (bn hS + bn hI + bn hX + bn ((hI && !hS && !hX) && tkB tx tx.length (bn hS + bn hI + bn hX) 83) + bn ((!hS && !hI && !hX) && tkB tx tx.length (bn hS + bn hI + bn hX) 85)) hS hI hX ((hI && !hS && !hX) && tkB tx tx.length (bn hS + bn hI + bn hX) 83) ((!hS && !hI && !hX) && tkB tx tx.length (bn hS + bn hI + bn hX) 85) := by
    rw [← nmR_eq]
    unfold nmR
    dsimp only
    rw [eS, eI, eX]
  have fall : Fy I I4 := ((((thr0.v.trans a5).trans b3.s.v).trans c3.s.v).trans d3.s.v)
  have w4 := ((a2.sc b3.s).sc c3.s).sc d3.s
  rw [head, hspec]
  have n45 : ∀ (J : Nat → Nat → Int32) (q : Nat) (hL : Bool), q < 100 → J 210 5 = n2 q → fX8_named_45 210 (n2 tx.length) (n2 (bn hS)) (n2 (bn hI)) (n2 (bn hX)) (n2 (bn hL)) (mk J L c t) = some (oi (nmF tx.length q hS hI hX hL false), 0, mk J L c t) := fun J q hL hq hJ => by
    unfold fX8_named_45
    exact nm46 hS hI hX hL false (by omega) hq hJ
  by_cases eI1 : hI = true
  · rw [if_pos eI1]
    by_cases eS1 : hS = true
    · refine ⟨I4, ?_, w4, fall⟩
      rw [if_pos eS1]
      unfold fX8_named_31 fX8_named_32
      rw [l_0, if_neg (show ¬ n2 (bn hS) = n2 0 by rw [eS1]; exact yes_zero)]
      refine (n45 I4 _ false (by omega) d2.2.2.2.2.2).trans ?_
      rw [eI1, eS1]
      rfl
    · have eS0 : hS = false := by cases hS; rfl; exact absurd rfl eS1
      rw [if_neg eS1]
      by_cases eX1 : hX = true
      · refine ⟨I4, ?_, w4, fall⟩
        rw [if_pos eX1]
        unfold fX8_named_31 fX8_named_32
        rw [l_0, if_pos (show n2 (bn hS) = n2 0 by rw [eS0]; rfl), if_neg (show ¬ n2 (bn hI) = n2 0 by rw [eI1]; exact yes_zero)]
        refine (n45 I4 _ false (by omega) d2.2.2.2.2.2).trans ?_
        rw [eI1, eS0, eX1]
        rfl
      · have eX0 : hX = false := by cases hX; rfl; exact absurd rfl eX1
        rw [if_neg eX1]
        obtain ⟨hL, eL⟩ : ∃ b, tkB tx tx.length (bn hS + bn hI + bn hX) 83 = b := ⟨_, rfl⟩
        obtain ⟨I5, f1, f2, f3⟩ := x8_takes (L := L) (c := c) (t := t) d2 (g := 83) (by omega)
        rw [eL] at f1 f2
        have := hb hL
        refine ⟨I5, ?_, w4.sc f3.s, fall.trans f3.s.v⟩
        have h32 : ∀ b : Bool, fX8_named_32 210 (n2 tx.length) (n2 (bn hS)) (n2 (bn hI)) (n2 (bn hX)) (n2 (bn b)) (mk I5 L c t) = fX8_named_45 210 (n2 tx.length) (n2 (bn hS)) (n2 (bn hI)) (n2 (bn hX)) (n2 (bn b)) (mk I5 L c t) := fun b => by
          unfold fX8_named_32
          rw [l_0, if_pos (show n2 (bn hS) = n2 0 by rw [eS0]; rfl), if_neg (show ¬ n2 (bn hI) = n2 0 by rw [eI1]; exact yes_zero)]
        have hfin := n45 I5 (bn hS + bn hI + bn hX + bn hL) hL (by omega) f2.2.2.2.2.2
        rw [f1, qbnd_s, eL]
        dsimp only
        cases hL with
        | false =>
          rw [if_pos no_zero]
          unfold fX8_named_31
          refine (h32 false).trans (hfin.trans ?_)
          rw [eI1, eS0, eX0]
          rfl
        | true =>
          rw [if_neg yes_zero]
          refine (h32 true).trans (hfin.trans ?_)
          rw [eI1, eS0, eX0]
          rfl
  · have eI0 : hI = false := by cases hI; rfl; exact absurd rfl eI1
    rw [if_neg eI1]
    by_cases eS1 : hS = true
    · refine ⟨I4, ?_, w4, fall⟩
      unfold fX8_named_31 fX8_named_32
      rw [l_0, if_neg (show ¬ n2 (bn hS) = n2 0 by rw [eS1]; exact yes_zero)]
      refine (n45 I4 _ false (by omega) d2.2.2.2.2.2).trans ?_
      rw [eI0, eS1]
      rfl
    · have eS0 : hS = false := by cases hS; rfl; exact absurd rfl eS1
      by_cases eX1 : hX = true
      · refine ⟨I4, ?_, w4, fall⟩
        unfold fX8_named_31 fX8_named_32
        rw [l_0, if_pos (show n2 (bn hS) = n2 0 by rw [eS0]; rfl), if_pos (show n2 (bn hI) = n2 0 by rw [eI0]; rfl), if_neg (show ¬ n2 (bn hX) = n2 0 by rw [eX1]; exact yes_zero)]
        refine (n45 I4 _ false (by omega) d2.2.2.2.2.2).trans ?_
        rw [eI0, eS0, eX1]
        rfl
      · have eX0 : hX = false := by cases hX; rfl; exact absurd rfl eX1
        obtain ⟨hU, eU⟩ : ∃ b, tkB tx tx.length (bn hS + bn hI + bn hX) 85 = b := ⟨_, rfl⟩
        obtain ⟨I5, f1, f2, f3⟩ := x8_takes (L := L) (c := c) (t := t) d2 (g := 85) (by omega)
        rw [eU] at f1 f2
        have := hb hU
        refine ⟨I5, ?_, w4.sc f3.s, fall.trans f3.s.v⟩
        have hfin := nm46 (I := I5) (L := L) (c := c) (t := t) hS hI hX false hU (n := tx.length) (p := bn hS + bn hI + bn hX + bn hU) (by omega) (by omega) f2.2.2.2.2.2
        have l85 : (85 : Int32) = n2 85 := l_85
        unfold fX8_named_31 fX8_named_32
        rw [l_0, l_85, l_1, if_pos (show n2 (bn hS) = n2 0 by rw [eS0]; rfl), if_pos (show n2 (bn hI) = n2 0 by rw [eI0]; rfl), if_pos (show n2 (bn hX) = n2 0 by rw [eX0]; rfl), f1, qbnd_s, eU]
        dsimp only
        cases hU with
        | false =>
          rw [if_pos no_zero]
          unfold fX8_named_45
          refine hfin.trans ?_
          rw [eI0, eS0, eX0]
          rfl
        | true =>
          rw [if_neg yes_zero]
          refine hfin.trans ?_
          rw [eI0, eS0, eX0]
          rfl
end S9O

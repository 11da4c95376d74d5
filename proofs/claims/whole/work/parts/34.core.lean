/-! PURE SIDE, THE DESK: locks, granting, gathering, on numbers alone -/
def stepsS : Nat → St → Nat → Nat → Nat → Nat → St × Bool
  | 0, s, _, _, _, _ => (s, true)
  | d + 1, s, o, g, m, l => if wnt s o g m l = s (up g l) o then stepsS d s o g m (l + 1) else if opn s o (up g l) (wnt s o g m l) = true then stepsS d (su s (up g l) o (wnt s o g m l)) o g m (l + 1) else (enq s o (up g l) (wnt s o g m l), false)
def clr (s : St) (o g w : Nat) : St := fun a b => if b = o ∧ a = g then w else if b = o ∧ a < 85 ∧ blw a g = true then 0 else s a b
def gL (s : St) (o g : Nat) : List Nat := (bel g).filter fun q => decide (s q o ≠ 0)
def canG (s : St) (o g : Nat) : Bool := decide (hbel s o g ≠ 0) && opn s o g (gmode s o g)
def gathS (srv : St → Nat → St) (s : St) (o g : Nat) : St × Bool := if canG s o g = true then ((gL s o g).foldl srv (clr s o g (gmode s o g)), true) else (s, false)
def bulkS (srv : St → Nat → St) (s : St) (o g : Nat) : St × Nat := if lev g ≠ 3 then (s, 1) else if s 94 2 ≤ hbel s o (up g 2) then (if (gathS srv s o (up g 2)).2 = true then ((gathS srv s o (up g 2)).1, 2) else ((gathS srv s o (up g 2)).1, 1)) else (s, 1)
def goOnS (srv : St → Nat → St) (s : St) (o l : Nat) : St × Nat := if (stepsS (lev (s 92 o) + 1 - l) s o (s 92 o) (s 93 o) l).2 = false then ((stepsS (lev (s 92 o) + 1 - l) s o (s 92 o) (s 93 o) l).1, 0) else bulkS srv (stepsS (lev (s 92 o) + 1 - l) s o (s 92 o) (s 93 o) l).1 o (s 92 o)
def grantsS : Nat → St → Nat → St × List Nat
  | 0, s, _ => (s, [])
  | n + 1, s, p => match fiq s p with
    | none => (s, [])
    | some o => if fitb s o p (s 90 o) = true then ((grantsS n (grt s o) p).1, o :: (grantsS n (grt s o) p).2) else (s, [])
def srvS : Nat → St → Nat → St
  | 0, s, _ => s
  | n + 1, s, p => (grantsS 8 s p).2.foldl (fun s o => (goOnS (srvS n) s o (lev p + 1)).1) (grantsS 8 s p).1
/-! sums over the owners -/
def sum8 (f : Nat → Nat) : Nat := f 0 + f 1 + f 2 + f 3 + f 4 + f 5 + f 6 + f 7
theorem lt8 {o : Nat} (h : o < 8) : o = 0 ∨ o = 1 ∨ o = 2 ∨ o = 3 ∨ o = 4 ∨ o = 5 ∨ o = 6 ∨ o = 7 := by omega
theorem sum8_upd {f f' : Nat → Nat} {o : Nat} (ho : o < 8) (h : ∀ j, j < 8 → j ≠ o → f' j = f j) : sum8 f' + f o = sum8 f + f' o := by
  have h0 := h 0 (by omega); have h1 := h 1 (by omega); have h2 := h 2 (by omega); have h3 := h 3 (by omega)
  have h4 := h 4 (by omega); have h5 := h 5 (by omega); have h6 := h 6 (by omega); have h7 := h 7 (by omega)
  unfold sum8
  rcases lt8 ho with rfl | rfl | rfl | rfl | rfl | rfl | rfl | rfl <;> omega
theorem sum8_mono {f f' : Nat → Nat} (h : ∀ j, j < 8 → f' j ≤ f j) : sum8 f' ≤ sum8 f := by
  have h0 := h 0 (by omega); have h1 := h 1 (by omega); have h2 := h 2 (by omega); have h3 := h 3 (by omega)
  have h4 := h 4 (by omega); have h5 := h 5 (by omega); have h6 := h 6 (by omega); have h7 := h 7 (by omega)
  unfold sum8
  omega
theorem sum8_eq {f f' : Nat → Nat} (h : ∀ j, j < 8 → f' j = f j) : sum8 f' = sum8 f := Nat.le_antisymm (sum8_mono fun j hj => Nat.le_of_eq (h j hj)) (sum8_mono fun j hj => Nat.le_of_eq (h j hj).symm)
theorem sum8_le {f : Nat → Nat} {o : Nat} (ho : o < 8) : f o ≤ sum8 f := by
  unfold sum8
  rcases lt8 ho with rfl | rfl | rfl | rfl | rfl | rfl | rfl | rfl <;> omega
def Wt (s : St) : Nat := sum8 fun o => bn (decide (s 85 o = 2))
def pot (s : St) : Nat := sum8 fun o => if s 89 o < 85 then 3 - lev (s 89 o) else 0
theorem Wt_le (s : St) : Wt s ≤ 8 := by
  unfold Wt sum8
  have := fun o => bn_le (decide (s 85 o = 2))
  dsimp only
  have h0 := this 0; have h1 := this 1; have h2 := this 2; have h3 := this 3; have h4 := this 4; have h5 := this 5; have h6 := this 6; have h7 := this 7
  omega
/-! what always holds -/
def Iv (T : Nat) (s : St) : Prop :=
  (∀ p o, p < 85 → o < 8 → s p o ≤ 6) ∧
  (∀ o, o < 8 → s 85 o ≤ 2 ∧ s 87 o ≤ 99 ∧ s 88 o ≤ 99 ∧ s 90 o ≤ 6 ∧ s 91 o ≤ s 94 0 ∧ s 92 o ≤ 84 ∧ s 93 o ≤ 6) ∧
  (∀ o, o < 8 → s 85 o = 2 → s 89 o < 85 ∧ (∃ l, l ≤ lev (s 92 o) ∧ s 89 o = up (s 92 o) l) ∧ 1 ≤ s 93 o ∧ 1 ≤ s 90 o ∧ s 91 o < s 94 0) ∧
  (∀ o, o < 8 → s 85 o ≠ 2 → s 89 o = 85) ∧
  (∀ i j, i < 8 → j < 8 → s 85 i = 2 → s 85 j = 2 → s 91 i = s 91 j → i = j) ∧
  (∀ q o, 1 ≤ q → q < 85 → o < 8 → (s q o ≠ 0 ∨ s 89 o = q) → s (par q) o ≠ 0) ∧
  (∀ p o, p < 85 → o < 8 → s 85 o = 0 → s p o = 0) ∧
  s 94 0 + pot s ≤ T ∧ s 94 1 < 1000000000 ∧ 2 ≤ s 94 2 ∧ s 94 2 ≤ 5
theorem Iv.bd {T : Nat} {s : St} (h : Iv T s) (hT : T < 1000000000) : Bd s := by
  obtain ⟨h1, h2, h3, h4, h5, h6, h7, h8, h9, h10, h11⟩ := h
  refine ⟨h1, fun o ho => ?_, by omega, by omega, h10, h11⟩
  obtain ⟨a1, a2, a3, a4, a5, a6, a7⟩ := h2 o ho
  by_cases e : s 85 o = 2
  · have := (h3 o ho e).1
    exact ⟨a1, a2, a3, by omega, a4, a5, a6, a7, fun _ => this, fun _ => e⟩
  · have := h4 o ho e
    exact ⟨a1, a2, a3, by omega, a4, a5, a6, a7, fun z => absurd z e, fun z => by omega⟩
theorem Iv.mono {T T' : Nat} {s : St} (h : Iv T s) (hT : T ≤ T') : Iv T' s := by
  obtain ⟨h1, h2, h3, h4, h5, h6, h7, h8, h9, h10, h11⟩ := h
  exact ⟨h1, h2, h3, h4, h5, h6, h7, by omega, by omega, h10, h11⟩
/-- who waits at a place is one that waits -/
theorem Iv.w {T : Nat} {s : St} (h : Iv T s) {o p : Nat} (ho : o < 8) (hp : p < 85) (he : s 89 o = p) : s 85 o = 2 := by
  by_cases e : s 85 o = 2
  · exact e
  · have := h.2.2.2.1 o ho e; omega
/-- the first request at a place -/
def Hd (s : St) (p o : Nat) : Prop := o < 8 ∧ s 89 o = p ∧ ∀ j, j < 8 → j ≠ o → s 89 j = p → ahd s o j = true
def Blk (s : St) (U : List Nat) : Prop := ∀ p o, p < 85 → p ∉ U → Hd s p o → fitb s o p (s 90 o) = false
theorem ahd_trans {s : St} {a b c : Nat} (h1 : ahd s a b = true) (h2 : ahd s b c = true) : ahd s a c = true := by
  unfold ahd at *
  cases ha : chg s a <;> cases hb : chg s b <;> cases hc : chg s c <;> simp [ha, hb, hc] at * <;> omega
theorem ahd_total {s : St} {a b : Nat} (hne : s 91 a ≠ s 91 b) (h : ahd s a b = false) : ahd s b a = true := by
  unfold ahd at *
  cases ha : chg s a <;> cases hb : chg s b <;> simp [ha, hb] at * <;> omega
theorem ahd_asym {s : St} {a b : Nat} (h : ahd s a b = true) : ahd s b a = false := by
  unfold ahd at *
  cases ha : chg s a <;> cases hb : chg s b <;> simp [ha, hb] at * <;> omega
theorem fiq_hd {T : Nat} {s : St} (h : Iv T s) {p : Nat} (hp : p < 85) : (∀ o, fiq s p = some o → Hd s p o) ∧ (fiq s p = none → ∀ j, j < 8 → s 89 j ≠ p) := by
  have key : ∀ n, n ≤ 8 → let f := (List.range n).foldl (fun f j => if s 89 j = p then (match f with
      | none => some j
      | some i => if ahd s j i = true then some j else some i) else f) none
      (∀ o, f = some o → o < n ∧ s 89 o = p ∧ ∀ j, j < n → j ≠ o → s 89 j = p → ahd s o j = true) ∧ (f = none → ∀ j, j < n → s 89 j ≠ p) := by
    intro n
    induction n with
    | zero => intro _; exact ⟨fun o h => (by cases h), fun _ j hj => (by omega)⟩
    | succ n ih =>
      intro hn
      have ih := ih (by omega)
      simp only [List.range_succ, List.foldl_append, List.foldl_cons, List.foldl_nil] at ih ⊢
      generalize (List.range n).foldl (fun f j => if s 89 j = p then (match f with
        | none => some j
        | some i => if ahd s j i = true then some j else some i) else f) none = f at ih ⊢
      obtain ⟨i1, i2⟩ := ih
      by_cases e : s 89 n = p
      · rw [if_pos e]
        cases f with
        | none =>
          refine ⟨fun o ho => ?_, fun z => by cases z⟩
          cases ho
          refine ⟨by omega, e, fun j hj hne hj2 => ?_⟩
          exact absurd hj2 (i2 rfl j (by omega))
        | some i =>
          obtain ⟨b1, b2, b3⟩ := i1 i rfl
          have hw1 := h.w (show n < 8 by omega) hp e
          have hw2 := h.w (show i < 8 by omega) hp b2
          have hne : s 91 n ≠ s 91 i := fun z => by have := h.2.2.2.2.1 n i (by omega) (by omega) hw1 hw2 z; omega
          dsimp only
          by_cases e2 : ahd s n i = true
          · rw [if_pos e2]
            refine ⟨fun o ho => ?_, fun z => by cases z⟩
            cases ho
            refine ⟨by omega, e, fun j hj hne hj2 => ?_⟩
            by_cases e3 : j = i
            · rw [e3]; exact e2
            · exact ahd_trans e2 (b3 j (by omega) e3 hj2)
          · rw [if_neg e2]
            refine ⟨fun o ho => ?_, fun z => by cases z⟩
            cases ho
            refine ⟨by omega, b2, fun j hj hne2 hj2 => ?_⟩
            by_cases e3 : j = n
            · rw [e3]; exact ahd_total hne (by simpa using e2)
            · exact b3 j (by omega) hne2 hj2
      · rw [if_neg e]
        refine ⟨fun o ho => ?_, fun z j hj => ?_⟩
        · obtain ⟨b1, b2, b3⟩ := i1 o ho
          refine ⟨by omega, b2, fun j hj hne hj2 => ?_⟩
          by_cases e3 : j = n
          · rw [e3] at hj2; exact absurd hj2 e
          · exact b3 j (by omega) hne hj2
        · by_cases e3 : j = n
          · rw [e3]; exact e
          · exact i2 z j (by omega)
  exact key 8 (Nat.le_refl _)
/-! holding more -/
theorem tog_mono7 : ∀ x, x < 7 → ∀ w, w < 7 → ∀ h, h < 7 → stg w h = true → tog x w = true → tog x h = true := by decide +kernel
theorem stg_both7 : ∀ a, a < 7 → ∀ b, b < 7 → stg (both a b) a = true ∧ stg 6 a = true := by decide +kernel
theorem both_pos7 : ∀ a, a < 7 → ∀ b, b < 7 → 1 ≤ b → 1 ≤ both a b := by decide +kernel
theorem fitb_iff {s : St} {o p m : Nat} : fitb s o p m = false ↔ ∃ j, j < 8 ∧ j ≠ o ∧ tog m (s p j) = false := by
  rw [fitb, List.all_eq_false]
  constructor
  · rintro ⟨j, h1, h2⟩
    rw [List.mem_range] at h1
    simp at h2
    exact ⟨j, h1, h2.1, h2.2⟩
  · rintro ⟨j, h1, h2, h3⟩
    exact ⟨j, List.mem_range.mpr h1, by simp [h2, h3]⟩
theorem opn_iff {s : St} {o p m : Nat} : opn s o p m = false ↔ ∃ j, j < 8 ∧ ((s 89 j = p ∧ (s p o = 0 ∨ s p j ≠ 0)) ∨ (j ≠ o ∧ tog m (s p j) = false)) := by
  rw [opn, List.all_eq_false]
  constructor
  · rintro ⟨j, h1, h2⟩
    rw [List.mem_range] at h1
    refine ⟨j, h1, ?_⟩
    by_cases e1 : s 89 j = p ∧ (s p o = 0 ∨ s p j ≠ 0)
    · exact Or.inl e1
    · right
      rcases bcs (tog m (s p j)) with h4 | h4
      · refine ⟨fun e => h2 ?_, h4⟩
        simp only [not_and, not_or] at e1
        by_cases e2 : s 89 j = p
        · have := e1 e2
          simp [e, e2, this.1]
          have h5 := this.2
          rw [e] at h5
          exact absurd h5 (by simp [this.1])
        · simp [e, show ¬ s 89 o = p from by rw [← e]; exact e2]
      · exfalso
        apply h2
        simp only [not_and, not_or] at e1
        by_cases e2 : s 89 j = p
        · have := e1 e2
          simp only [h4, Bool.or_true, Bool.and_true]
          simp [e2, this.1, Decidable.not_not.mp this.2]
        · simp [h4, e2]
  · rintro ⟨j, h1, h2⟩
    refine ⟨j, List.mem_range.mpr h1, ?_⟩
    rcases h2 with ⟨e1, e2⟩ | ⟨e1, e2⟩
    · rcases e2 with e2 | e2 <;> simp [e1, e2]
    · simp [e1, e2]
/-- the heads, and what stops them, are the same where these are -/
theorem Hd.congr {s s' : St} {p o : Nat} (h : Hd s' p o) (hat : ∀ j, j < 8 → s' 89 j = p → s 89 j = p ∧ s' 91 j = s 91 j ∧ chg s' j = chg s j) (hat2 : ∀ j, j < 8 → s 89 j = p → s' 89 j = p ∨ j = o ∨ ahd s o j = true) : Hd s p o := by
  obtain ⟨h1, h2, h3⟩ := h
  obtain ⟨a1, a2, a3⟩ := hat o h1 h2
  refine ⟨h1, a1, fun j hj hne hj2 => ?_⟩
  rcases hat2 j hj hj2 with e | e | e
  · obtain ⟨b1, b2, b3⟩ := hat j hj e
    have := h3 j hj hne e
    unfold ahd at this ⊢
    rw [a2, a3, b2, b3] at this
    exact this
  · exact absurd e hne
  · exact e

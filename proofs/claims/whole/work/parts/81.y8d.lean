/-! PURE SIDE, THE REFERENCE: what a step meets -/
def prv (g k : Nat) : Int32 := if k = 0 then -n2 1 else n2 (up g (k - 1))
theorem prv_0 (g : Nat) : prv g 0 = -n2 1 := if_pos rfl
theorem prv_s (g k : Nat) : prv g (k + 1) = n2 (up g k) := by
  unfold prv
  rw [if_neg (by omega), Nat.add_sub_cancel]
section S8D
variable {I : Nat → Nat → Int32} {L : Nat → Nat → Int64} {c t r N T : Nat} {s : St} {μ : qM}
theorem x8_isShared {m : Nat} (hm : m ≤ 6) : fX8_isShared (n2 m) μ = some (n2 (bn (decide (m = 1 ∨ m = 3))), 0, μ) := by
  unfold fX8_isShared
  rw [l_0, l_1, l_3, if_pos no_qz, if_pos yes_qz]
  by_cases e1 : m = 1
  · rw [if_pos (by rw [e1]), decide_eq_true (.inl e1)]
    rfl
  · rw [if_neg (by rw [n2_eq (by omega) (by omega)]; exact e1)]
    by_cases e2 : m = 3
    · rw [if_pos (by rw [e2]), decide_eq_true (.inr e2)]
      rfl
    · rw [if_neg (by rw [n2_eq (by omega) (by omega)]; exact e2), decide_eq_false (by omega)]
      rfl
theorem x8_modeOn {g l m : Nat} (hg : g < 85) (hl : l ≤ lev g) (hm : m ≤ 6) : fX8_modeOn (n2 g) (n2 (up g l)) (n2 m) μ = some (n2 (stepm g l m), 0, μ) := by
  have h1 := up_lt hg l
  have h2 := lev_up g hg l hl
  have h3 := up_lev g hg
  have hiff : up g l = g ↔ l = lev g := ⟨fun e => by rw [e] at h2; exact h2.symm, fun e => by rw [e]; exact h3⟩
  unfold fX8_modeOn stepm
  rw [x8_isShared hm, qbnd_s]
  dsimp only
  rw [l_0, l_1, l_2]
  by_cases e : l = lev g
  · rw [if_pos (by rw [hiff.mpr e]), if_pos e]
  · rw [if_neg (by rw [n2_eq (by omega) (by omega)]; exact fun z => e (hiff.mp z)), if_neg e]
    by_cases e2 : m = 1 ∨ m = 3
    · rw [decide_eq_true e2, if_neg yes_zero, if_pos e2]
    · rw [decide_eq_false e2, if_pos no_zero, if_neg e2]
theorem x8_wanted (hr : r = 217 ∨ r = 218) (hR : R8 (I r) s) (hB : Bd s) {i p m : Nat} (hi : i < 8) (hp : p < 85) (hm : m ≤ 6) : fX8_wanted r (n2 i) (n2 p) (n2 m) (mk I L c t) = some (n2 (both (s p i) m), 0, mk I L c t) := by
  have h1 := hB.md hp hi
  unfold fX8_wanted
  rw [x8_held hr hR hi hp, qbnd_s]
  dsimp only
  rw [x8_both hm h1, qbnd_s, both_comm hm h1]
theorem hcg_any (s : St) (p : Nat) : hcg s p = (List.range 8).any fun j => decide (s 89 j = p) && chg s j := by
  have hf : ∀ l : List Nat, ∀ b, l.foldl (fun b j => b || decide (s 89 j = p) && chg s j) b = (b || l.any fun j => decide (s 89 j = p) && chg s j) := by
    intro l
    induction l with
    | nil => intro b; simp
    | cons x l ih => intro b; rw [List.foldl_cons, ih, List.any_cons, Bool.or_assoc]
  unfold hcg
  rw [hf, Bool.false_or]
theorem opn_8 {o p m : Nat} (hp : p < 85) : opn s o p m = ((if s p o = 0 then decide (reqs s p = 0) else !(hcg s p)) && fitb s o p m) := by
  have hrq : reqs s p = cnt8 fun j => decide (s 89 j = p) := rfl
  rw [Bool.eq_iff_iff, Bool.and_eq_true]
  unfold opn fitb
  rw [List.all_eq_true, List.all_eq_true]
  constructor
  · intro h
    refine ⟨?_, fun j hj => ?_⟩
    · by_cases e : s p o = 0
      · rw [if_pos e, decide_eq_true_eq, hrq]
        refine cnt8_z fun j hj => ?_
        have := h j (List.mem_range.mpr hj)
        rw [Bool.and_eq_true] at this
        have h1 := this.1
        simp [e] at h1
        exact decide_eq_false h1
      · rw [if_neg e, hcg_any, Bool.not_eq_true', List.any_eq_false]
        intro j hj
        have := h j hj
        rw [Bool.and_eq_true] at this
        have h1 := this.1
        simp [e] at h1
        intro z
        rw [Bool.and_eq_true, decide_eq_true_eq] at z
        have z2 := z.2
        unfold chg at z2
        rw [z.1, Bool.and_eq_true] at z2
        rcases h1 with h1 | h1
        · exact h1 z.1
        · rw [h1] at z2
          simp at z2
    · have := h j hj
      rw [Bool.and_eq_true] at this
      exact this.2
  · rintro ⟨h1, h2⟩ j hj
    rw [Bool.and_eq_true]
    refine ⟨?_, h2 j hj⟩
    have hj8 := List.mem_range.mp hj
    by_cases e : s p o = 0
    · rw [if_pos e, decide_eq_true_eq, hrq] at h1
      have := cnt8_0 h1 hj8
      rw [this, Bool.false_and]
      rfl
    · rw [if_neg e, hcg_any, Bool.not_eq_true', List.any_eq_false] at h1
      have := h1 j hj
      by_cases e2 : s 89 j = p
      · by_cases e3 : s p j = 0
        · simp [e, e3]
        · exfalso
          apply this
          rw [Bool.and_eq_true, decide_eq_true_eq]
          refine ⟨e2, ?_⟩
          unfold chg
          rw [e2]
          simp [e3, show ¬ p = 85 by omega]
      · simp [e2]
theorem x8_isGranted (hr : r = 217 ∨ r = 218) (hR : R8 (I r) s) (hB : Bd s) {i p m : Nat} (hi : i < 8) (hp : p < 85) (hm : m ≤ 6) : fX8_isGranted r (n2 i) (n2 p) (n2 m) (mk I L c t) = some (n2 (bn (decide (both (s p i) m = s p i) || opn s i p (both (s p i) m))), 0, mk I L c t) := by
  have h1 := hB.md hp hi
  have h2 := both_le h1 hm
  have hq := reqs_le s p
  have f27 : fX8_isGranted_27 r (n2 i) (n2 p) (n2 (both (s p i) m)) (mk I L c t) = some (n2 (bn (fitb s i p (both (s p i) m))), 0, mk I L c t) := by
    unfold fX8_isGranted_27
    rw [x8_goesWithOthers hr hR hB hi hp h2, qbnd_s]
    dsimp only
    rw [l_0, l_1, if_pos no_qz, if_pos yes_qz]
    rcases bcs (fitb s i p (both (s p i) m)) with e | e
    · rw [e, if_pos no_zero]; rfl
    · rw [e, if_neg yes_zero]; rfl
  unfold fX8_isGranted
  rw [x8_wanted hr hR hB hi hp hm, qbnd_s]
  dsimp only
  rw [x8_held hr hR hi hp, qbnd_s]
  dsimp only
  rw [l_0, l_1, if_pos yes_qz]
  by_cases e : both (s p i) m = s p i
  · rw [if_pos (by rw [e]), decide_eq_true e]
    rfl
  · rw [if_neg (by rw [n2_eq (by omega) (by omega)]; exact fun z => e z.symm), decide_eq_false e, Bool.false_or, opn_8 hp]
    by_cases e0 : s p i = 0
    · rw [if_pos (by rw [n2_le (by omega) (by omega)]; omega), if_pos e0, x8_queued hr hR hB hp, qbnd_s]
      dsimp only
      by_cases e1 : reqs s p = 0
      · rw [if_pos (by rw [e1]), f27, decide_eq_true e1, Bool.true_and]
      · rw [if_neg (by rw [n2_eq (by omega) (by omega)]; exact e1), decide_eq_false e1, Bool.false_and, if_pos no_qz]
        rfl
    · rw [if_neg (by rw [n2_le (by omega) (by omega)]; omega), if_neg e0, x8_hasChange hr hR hB hp, qbnd_s]
      dsimp only
      rcases bcs (hcg s p) with e1 | e1
      · rw [e1, if_pos no_zero, f27]
        rfl
      · rw [e1, if_neg yes_zero, if_pos no_qz]
        rfl
theorem x8_parent_up {g l : Nat} (hg : g < 85) (hl : l ≤ lev g) : fX8_parent (n2 (up g l)) μ = some (prv g l, 0, μ) := by
  have h1 := up_lt hg l
  have h2 := par_up g hg l hl
  rw [x8_parent h1]
  unfold prv
  by_cases e : l = 0
  · rw [if_pos e, if_pos (by omega)]
  · rw [if_neg e, if_neg (by omega), h2.2 (by omega)]
theorem prv_inj {g a b : Nat} (hg : g < 85) (ha : a ≤ lev g) (hb : b ≤ lev g) (h : prv g a = prv g b) : a = b := by
  unfold prv at h
  have u1 := up_lt hg (a - 1)
  have u2 := up_lt hg (b - 1)
  by_cases ea : a = 0
  · by_cases eb : b = 0
    · omega
    · rw [if_pos ea, if_neg eb] at h
      exact absurd h.symm (by rw [n2_eqm (by omega)]; exact not_false)
  · by_cases eb : b = 0
    · rw [if_neg ea, if_pos eb] at h
      exact absurd h (by rw [n2_eqm (by omega)]; exact not_false)
    · rw [if_neg ea, if_neg eb, n2_eq (by omega) (by omega)] at h
      have l1 := lev_up g hg (a - 1) (by omega)
      have l2 := lev_up g hg (b - 1) (by omega)
      rw [h] at l1
      omega
theorem x8_next_l {g k : Nat} (hg : g < 85) : ∀ (d f : Nat), k + d ≤ lev g → d < f → fX8_nextOn_2 f (prv g k) (n2 (up g (k + d))) μ = some (n2 (up g k), 0, μ) := by
  intro d
  induction d with
  | zero =>
    intro f hk hf
    obtain ⟨f', rfl⟩ : ∃ f', f = f' + 1 := ⟨f - 1, by omega⟩
    rw [fX8_nextOn_2]
    dsimp only
    rw [x8_parent_up hg hk, qbnd_s]
    dsimp only
    rw [Nat.add_zero, if_pos rfl]
  | succ d ih =>
    intro f hk hf
    obtain ⟨f', rfl⟩ : ∃ f', f = f' + 1 := ⟨f - 1, by omega⟩
    have hne : ¬ prv g (k + (d + 1)) = prv g k := fun z => by
      have := prv_inj hg hk (by omega) z
      omega
    rw [fX8_nextOn_2]
    dsimp only
    rw [x8_parent_up hg hk, qbnd_s]
    dsimp only
    rw [if_neg hne, x8_parent_up hg hk, qbnd_s]
    dsimp only
    rw [show k + (d + 1) = (k + d) + 1 by omega, prv_s]
    exact ih f' (by omega) (by omega)
theorem x8_nextOn {g k : Nat} (hg : g < 85) (hk : k ≤ lev g) : fX8_nextOn (n2 g) (prv g k) μ = some (n2 (up g k), 0, μ) := by
  have h3 := up_lev g hg
  have hl := lev_le g
  unfold fX8_nextOn
  have := x8_next_l (μ := μ) (k := k) hg (lev g - k) qfu (by omega) (by rw [qfu_eq]; omega)
  rw [show k + (lev g - k) = lev g by omega, h3] at this
  exact this
def covM (m : Nat) : Nat := if m = 1 ∨ m = 3 then 120 else 64
theorem covM_t : ∀ m, m < 7 → ∀ x, x < 7 → tst (covM m) x = (decide (x = 6) || (decide (m = 1 ∨ m = 3) && (decide (x = 3) || decide (x = 4) || decide (x = 5)))) := by decide +kernel
theorem covd_any (s : St) {o p m : Nat} (hp : p < 85) : covd s o p m = (List.range (lev p)).any fun l => tst (covM m) (s (up p l) o) := by
  unfold covd fab
  show decide ((match (List.range (lev p)).find? (fun l => tst (covM m) (s (up p l) o)) with
    | some l => up p l
    | none => 85) ≠ 85) = _
  cases hf : (List.range (lev p)).find? (fun l => tst (covM m) (s (up p l) o)) with
  | none =>
    have h := find_range_n.mp hf
    symm
    rw [show decide ((85 : Nat) ≠ 85) = false from rfl, List.any_eq_false]
    intro l hl
    rw [h l (List.mem_range.mp hl)]
    decide
  | some l =>
    have h := find_range.mp hf
    have h1 := up_lt hp l
    symm
    show _ = decide (up p l ≠ 85)
    rw [decide_eq_true (show up p l ≠ 85 by omega), List.any_eq_true]
    exact ⟨l, List.mem_range.mpr h.1, h.2.1⟩
theorem x8_cov_l (hr : r = 217 ∨ r = 218) (hR : R8 (I r) s) (hB : Bd s) {i p m : Nat} (hi : i < 8) (hp : p < 85) (hm : m ≤ 6) : ∀ (l f : Nat) (b : Bool), l ≤ lev p → l < f → fX8_isCovered_5 f r (n2 i) (n2 m) (n2 (bn b)) (prv p l) (mk I L c t) = some (n2 (bn (b || (List.range l).any fun q => tst (covM m) (s (up p q) i))), 0, mk I L c t) := by
  intro l
  induction l with
  | zero =>
    intro f b hl hf
    obtain ⟨f', rfl⟩ : ∃ f', f = f' + 1 := ⟨f - 1, by omega⟩
    rw [prv_0, fX8_isCovered_5]
    dsimp only
    rw [l_0, if_pos (by decide +kernel), if_pos (qz_b _)]
    simp
  | succ l ih =>
    intro f b hl hf
    obtain ⟨f', rfl⟩ : ∃ f', f = f' + 1 := ⟨f - 1, by omega⟩
    have h1 := up_lt hp l
    have hx := hB.md h1 hi
    have ht := covM_t m (by omega) (s (up p l) i) (by omega)
    have hpar : ∀ {μ : qM}, fX8_parent (n2 (up p l)) μ = some (prv p l, 0, μ) := x8_parent_up hp (by omega)
    have hsplit : (List.range (l + 1)).any (fun q => tst (covM m) (s (up p q) i)) = ((List.range l).any (fun q => tst (covM m) (s (up p q) i)) || tst (covM m) (s (up p l) i)) := by
      rw [List.range_succ, List.any_append]
      simp
    have e0 : ∀ v, v < 7 → (n2 (s (up p l) i) = n2 v) = (s (up p l) i = v) := fun v hv => n2_eq (by omega) (by omega)
    rw [prv_s, hsplit, fX8_isCovered_5]
    dsimp only
    rw [l_0, l_1, l_3, l_4, l_5, l_6, if_neg (by rw [n2_nn (by omega)]; exact not_false), x8_held hr hR hi h1, qbnd_s]
    dsimp only
    rw [hpar, qbnd_s]
    dsimp only
    rw [x8_isShared hm, qbnd_s]
    dsimp only
    rw [hpar, qbnd_s]
    dsimp only
    have fT : fX8_isCovered_5 f' r (n2 i) (n2 m) (n2 1) (prv p l) (mk I L c t) = some (n2 (bn true), 0, mk I L c t) := by
      have := ih f' true (by omega) (by omega)
      rw [Bool.true_or] at this
      exact this
    have fF : fX8_isCovered_5 f' r (n2 i) (n2 m) (n2 0) (prv p l) (mk I L c t) = some (n2 (bn ((List.range l).any fun q => tst (covM m) (s (up p q) i))), 0, mk I L c t) := by
      have := ih f' false (by omega) (by omega)
      rw [Bool.false_or] at this
      exact this
    cases b with
    | true =>
      rw [if_neg yes_zero, Bool.true_or]
      exact fT
    | false =>
      rw [if_pos no_zero, Bool.false_or, ht]
      by_cases e6 : s (up p l) i = 6
      · rw [if_pos (by rw [e6]), fT, decide_eq_true e6, Bool.true_or, Bool.or_true]
      · rw [if_neg (by rw [e0 6 (by omega)]; exact e6), decide_eq_false e6, Bool.false_or]
        by_cases em : m = 1 ∨ m = 3
        · rw [decide_eq_true em, if_neg yes_zero, Bool.true_and]
          by_cases e3 : s (up p l) i = 3
          · rw [if_pos (by rw [e3]), qbnd_s]
            dsimp only
            rw [fT, decide_eq_true e3, Bool.true_or, Bool.true_or, Bool.or_true]
          · rw [if_neg (by rw [e0 3 (by omega)]; exact e3), decide_eq_false e3, Bool.false_or]
            by_cases e4 : s (up p l) i = 4
            · rw [if_pos (by rw [e4]), qbnd_s]
              dsimp only
              rw [fT, decide_eq_true e4, Bool.true_or, Bool.or_true]
            · rw [if_neg (by rw [e0 4 (by omega)]; exact e4), decide_eq_false e4, Bool.false_or]
              by_cases e5 : s (up p l) i = 5
              · rw [if_pos (by rw [e5]), qbnd_s]
                dsimp only
                rw [fT, decide_eq_true e5, Bool.or_true]
              · rw [if_neg (by rw [e0 5 (by omega)]; exact e5), decide_eq_false e5, fF, Bool.or_false]
        · rw [decide_eq_false em, if_pos no_zero, Bool.false_and, fF, Bool.or_false]
theorem x8_isCovered (hr : r = 217 ∨ r = 218) (hR : R8 (I r) s) (hB : Bd s) {i p m : Nat} (hi : i < 8) (hp : p < 85) (hm : m ≤ 6) : fX8_isCovered r (n2 i) (n2 p) (n2 m) (mk I L c t) = some (n2 (bn (covd s i p m)), 0, mk I L c t) := by
  have h3 := up_lev p hp
  have hl := lev_le p
  have hpar := x8_parent_up (μ := mk I L c t) hp (Nat.le_refl (lev p))
  rw [h3] at hpar
  unfold fX8_isCovered
  rw [hpar, qbnd_s]
  dsimp only
  rw [l_0, covd_any s hp]
  have := x8_cov_l (L := L) (c := c) (t := t) hr hR hB hi hp hm (lev p) qfu false (Nat.le_refl _) (by rw [qfu_eq]; omega)
  rw [Bool.false_or] at this
  exact this
end S8D

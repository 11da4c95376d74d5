/-! PURE SIDE, THE DESK: what always holds is kept by each step -/
theorem su_ne {s : St} {k j v a b : Nat} (h : a ≠ k) : su s k j v a b = s a b := by rw [su_at, if_neg (fun z => h z.1)]
theorem su_nj {s : St} {k j v a b : Nat} (h : b ≠ j) : su s k j v a b = s a b := by rw [su_at, if_neg (fun z => h z.2)]
theorem su_eq {s : St} {k j v : Nat} : su s k j v k j = v := by rw [su_at, if_pos ⟨rfl, rfl⟩]
theorem enq_at (s : St) (o p m k j : Nat) : enq s o p m k j = if k = 94 ∧ j = 0 then s 94 0 + 1 else if k = 91 ∧ j = o then s 94 0 else if k = 90 ∧ j = o then m else if k = 89 ∧ j = o then p else if k = 85 ∧ j = o then 2 else s k j := rfl
theorem enq_lo {s : St} {o p m k j : Nat} (h : k < 85) : enq s o p m k j = s k j := by
  rw [enq_at, if_neg (by omega), if_neg (by omega), if_neg (by omega), if_neg (by omega), if_neg (by omega)]
theorem enq_ne {s : St} {o p m k j : Nat} (hk : k ≤ 93) (h : j ≠ o) : enq s o p m k j = s k j := by
  rw [enq_at, if_neg (by omega), if_neg (by omega), if_neg (by omega), if_neg (by omega), if_neg (by omega)]
theorem grt_at (s : St) (o k j : Nat) : grt s o k j = if k = 89 ∧ j = o then 85 else if k = 85 ∧ j = o then 1 else if k = s 89 o ∧ j = o then s 90 o else s k j := rfl
theorem grt_ne {s : St} {o k j : Nat} (h : j ≠ o) : grt s o k j = s k j := by
  rw [grt_at, if_neg (by omega), if_neg (by omega), if_neg (by omega)]
theorem grt_lo {s : St} {o k j : Nat} (hk : k < 85) : grt s o k j = if k = s 89 o ∧ j = o then s 90 o else s k j := by
  rw [grt_at, if_neg (by omega), if_neg (by omega)]
theorem lev_up : ∀ p, p < 85 → ∀ l, l ≤ lev p → lev (up p l) = l := by decide +kernel
theorem par_up : ∀ p, p < 85 → ∀ l, l ≤ lev p → (1 ≤ l ↔ 1 ≤ up p l) ∧ (1 ≤ l → par (up p l) = up p (l - 1)) := by decide +kernel
theorem lev_3 : ∀ p, p < 85 → (lev p = 3 ↔ 21 ≤ p) := by decide +kernel
theorem up_lev : ∀ p, p < 85 → up p (lev p) = p := by decide +kernel
theorem par_lt {p : Nat} (h : p < 85) : par p < 85 := by unfold par; omega
/-- only what an owner has itself is other -/
def Cf (s s' : St) (o : Nat) : Prop := ∀ k, k ≤ 93 → s' k o = s k o
theorem Cf.rf (s : St) (o : Nat) : Cf s s o := fun _ _ => rfl
theorem Cf.trans {s s1 s2 : St} {o : Nat} (h1 : Cf s s1 o) (h2 : Cf s1 s2 o) : Cf s s2 o := fun k hk => (h2 k hk).trans (h1 k hk)
/-! an owner that runs holds more -/
theorem iv_raise {T : Nat} {s : St} {o q w : Nat} (h : Iv T s) (ho : o < 8) (hr : s 85 o = 1) (hq : q < 85) (hw1 : 1 ≤ w) (hw : w ≤ 6) (hp : 1 ≤ q → s (par q) o ≠ 0) : Iv T (su s q o w) := by
  obtain ⟨h1, h2, h3, h4, h5, h6, h7, h8, h9, h10, h11⟩ := h
  have e : ∀ k j, k ≠ q → su s q o w k j = s k j := fun k j hk => su_ne hk
  refine ⟨fun p j hp hj => ?_, fun j hj => ?_, fun j hj hw => ?_, fun j hj hw => ?_, fun i j hi hj hwi hwj ht => ?_, fun q' j hq1 hq2 hj hz => ?_, fun p j hp hj hz => ?_, ?_, ?_, ?_, ?_⟩
  · rw [su_at]; split
    · exact hw
    · exact h1 p j hp hj
  · rw [e 85 j (by omega), e 87 j (by omega), e 88 j (by omega), e 90 j (by omega), e 91 j (by omega), e 92 j (by omega), e 93 j (by omega), e 94 0 (by omega)]
    exact h2 j hj
  · rw [e 85 j (by omega)] at hw
    rw [e 89 j (by omega), e 90 j (by omega), e 91 j (by omega), e 92 j (by omega), e 93 j (by omega), e 94 0 (by omega)]
    exact h3 j hj hw
  · rw [e 85 j (by omega)] at hw
    rw [e 89 j (by omega)]
    exact h4 j hj hw
  · rw [e 85 i (by omega)] at hwi
    rw [e 85 j (by omega)] at hwj
    rw [e 91 i (by omega), e 91 j (by omega)] at ht
    exact h5 i j hi hj hwi hwj ht
  · rw [e 89 j (by omega)] at hz
    have key : s (par q') j ≠ 0 := by
      rcases hz with hz | hz
      · rw [su_at] at hz
        split at hz
        · rename_i hc
          rw [hc.1, hc.2]
          exact hp (by omega)
        · exact h6 q' j hq1 hq2 hj (Or.inl hz)
      · exact h6 q' j hq1 hq2 hj (Or.inr hz)
    rw [su_at]
    split
    · omega
    · exact key
  · rw [e 85 j (by omega)] at hz
    rw [su_at]
    split
    · rename_i hc
      rw [hc.2, hr] at hz
      cases hz
    · exact h7 p j hp hj hz
  · have : pot (su s q o w) = pot s := sum8_eq fun j hj => by
      rw [e 89 j (by omega)]
    rw [this, e 94 0 (by omega)]
    exact h8
  · rw [e 94 1 (by omega)]; exact h9
  · rw [e 94 2 (by omega)]; exact h10
  · rw [e 94 2 (by omega)]; exact h11
theorem Iv.at85 {T : Nat} {s : St} (h : Iv T s) {o : Nat} (ho : o < 8) (hr : s 85 o ≠ 2) : s 89 o = 85 := h.2.2.2.1 o ho hr
/-- the column of one that runs changes at places; where it holds no less, or at places of U, heads stay blocked -/
theorem blk_col {T : Nat} {s s' : St} {U : List Nat} {o : Nat} (h : Iv T s) (ho : o < 8) (hr : s 85 o ≠ 2) (h1 : ∀ k j, k ≤ 93 → j ≠ o → s' k j = s k j) (h2 : s' 89 o = 85) (h3 : ∀ p, p < 85 → p ∉ U → stg (s' p o) (s p o) = true ∧ s' p o ≤ 6) (hB : Blk s U) : Blk s' U := by
  intro p x hp hpU hx
  have ha := h.at85 ho hr
  have hxo : x ≠ o := fun e => by have := hx.2.1; rw [e, h2] at this; omega
  have hx0 : Hd s p x := by
    refine hx.congr (fun j hj hj2 => ?_) (fun j hj hj2 => ?_)
    · have hjo : j ≠ o := fun e => by rw [e, h2] at hj2; omega
      refine ⟨?_, h1 91 j (by omega) hjo, ?_⟩
      · rw [← h1 89 j (by omega) hjo]; exact hj2
      · have := h1 89 j (by omega) hjo
        unfold chg
        rw [this, h1 (s 89 j) j (by rw [← this, hj2]; omega) hjo]
    · have hjo : j ≠ o := fun e => by rw [e, ha] at hj2; omega
      left
      rw [h1 89 j (by omega) hjo]; exact hj2
  obtain ⟨j, j1, j2, j3⟩ := fitb_iff.mp (hB p x hp hpU hx0)
  have hx8 := hx.1
  refine fitb_iff.mpr ⟨j, j1, j2, ?_⟩
  rw [h1 90 x (by omega) hxo]
  by_cases e : j = o
  · rw [e] at j3 ⊢
    obtain ⟨b1, b2⟩ := h3 p hp hpU
    have hw := (h.2.1 x hx8).2.2.2.1
    have hm := h.1 p o hp ho
    rcases bcs (tog (s 90 x) (s' p o)) with e2 | e2
    · exact e2
    · rw [tog_mono7 (s 90 x) (by omega) (s' p o) (by omega) (s p o) (by omega) b1 e2] at j3
      cases j3
  · rw [h1 p j (by omega) e]
    exact j3
theorem stg_self7 : ∀ a, a < 7 → stg a a = true := by decide +kernel
theorem blk_raise {T : Nat} {s : St} {U : List Nat} {o q w : Nat} (h : Iv T s) (ho : o < 8) (hr : s 85 o ≠ 2) (hq : q < 85) (hs : stg w (s q o) = true) (hw : w ≤ 6) (hB : Blk s U) : Blk (su s q o w) U :=
  blk_col h ho hr (fun k j _ hj => su_nj hj) (by rw [su_ne (by omega)]; exact h.at85 ho hr) (fun p hp _ => by
    have hm := h.1 p o hp ho
    by_cases e : p = q
    · subst e
      rw [su_eq]
      exact ⟨hs, hw⟩
    · rw [su_ne e]
      exact ⟨stg_self7 _ (by omega), hm⟩) hB
/-! a request comes -/
theorem iv_enq {T : Nat} {s : St} {o l w : Nat} (h : Iv T s) (ho : o < 8) (hr : s 85 o = 1) (hl : l ≤ lev (s 92 o)) (hm : 1 ≤ s 93 o) (hw1 : 1 ≤ w) (hw : w ≤ 6) (hp : 1 ≤ l → s (up (s 92 o) (l - 1)) o ≠ 0) : Iv (T + (4 - l)) (enq s o (up (s 92 o) l) w) := by
  have hg : s 92 o < 85 := by have := (h.2.1 o ho).2.2.2.2.2.1; omega
  have hat := h.at85 ho (by omega)
  have hp85 := up_lt hg l
  have hlv := lev_up _ hg l hl
  have hpu := par_up _ hg l hl
  have hl3 := lev_le (s 92 o)
  obtain ⟨h1, h2, h3, h4, h5, h6, h7, h8, h9, h10, h11⟩ := h
  have e : ∀ k j, k ≤ 93 → j ≠ o → enq s o (up (s 92 o) l) w k j = s k j := fun k j hk hj => enq_ne hk hj
  refine ⟨fun p j hp hj => ?_, fun j hj => ?_, fun j hj hw => ?_, fun j hj hw => ?_, fun i j hi hj hwi hwj ht => ?_, fun q' j hq1 hq2 hj hz => ?_, fun p j hp hj hz => ?_, ?_, ?_, ?_, ?_⟩
  · rw [enq_lo hp]; exact h1 p j hp hj
  · by_cases hjo : j = o
    · subst hjo
      have := h2 j hj
      simp [enq_at]
      omega
    · have := h2 j hj
      rw [e 85 j (by omega) hjo, e 87 j (by omega) hjo, e 88 j (by omega) hjo, e 90 j (by omega) hjo, e 91 j (by omega) hjo, e 92 j (by omega) hjo, e 93 j (by omega) hjo]
      simp [enq_at]
      omega
  · by_cases hjo : j = o
    · subst hjo
      simp [enq_at]
      exact ⟨hp85, ⟨l, hl, rfl⟩, hm, hw1⟩
    · rw [e 85 j (by omega) hjo] at hw
      have := h3 j hj hw
      rw [e 89 j (by omega) hjo, e 90 j (by omega) hjo, e 91 j (by omega) hjo, e 92 j (by omega) hjo, e 93 j (by omega) hjo]
      refine ⟨this.1, this.2.1, this.2.2.1, this.2.2.2.1, ?_⟩
      simp [enq_at]
      omega
  · by_cases hjo : j = o
    · subst hjo
      simp [enq_at] at hw
    · rw [e 85 j (by omega) hjo] at hw
      rw [e 89 j (by omega) hjo]
      exact h4 j hj hw
  · by_cases hio : i = o
    · by_cases hjo : j = o
      · omega
      · rw [e 85 j (by omega) hjo] at hwj
        rw [e 91 j (by omega) hjo, hio] at ht
        have := (h3 j hj hwj).2.2.2.2
        simp [enq_at] at ht
        omega
    · rw [e 85 i (by omega) hio] at hwi
      by_cases hjo : j = o
      · rw [e 91 i (by omega) hio, hjo] at ht
        have := (h3 i hi hwi).2.2.2.2
        simp [enq_at] at ht
        omega
      · rw [e 85 j (by omega) hjo] at hwj
        rw [e 91 i (by omega) hio, e 91 j (by omega) hjo] at ht
        exact h5 i j hi hj hwi hwj ht
  · rw [enq_lo (par_lt hq2)]
    rw [enq_lo hq2] at hz
    rcases hz with hz | hz
    · exact h6 q' j hq1 hq2 hj (Or.inl hz)
    · by_cases hjo : j = o
      · subst hjo
        simp [enq_at] at hz
        have h0 : 1 ≤ l := hpu.1.mpr (by omega)
        rw [← hz, hpu.2 h0]
        exact hp h0
      · rw [e 89 j (by omega) hjo] at hz
        exact h6 q' j hq1 hq2 hj (Or.inr hz)
  · rw [enq_lo hp]
    by_cases hjo : j = o
    · subst hjo
      simp [enq_at] at hz
    · rw [e 85 j (by omega) hjo] at hz
      exact h7 p j hp hj hz
  · have hs := sum8_upd (f := fun j => if s 89 j < 85 then 3 - lev (s 89 j) else 0) (f' := fun j => if enq s o (up (s 92 o) l) w 89 j < 85 then 3 - lev (enq s o (up (s 92 o) l) w 89 j) else 0) ho (fun j hj hjo => by
      rw [e 89 j (by omega) hjo])
    have e1 : enq s o (up (s 92 o) l) w 89 o = up (s 92 o) l := by simp [enq_at]
    have e2 : enq s o (up (s 92 o) l) w 94 0 = s 94 0 + 1 := by simp [enq_at]
    rw [e1, hat, if_pos hp85, if_neg (by omega), hlv] at hs
    unfold pot at h8 ⊢
    rw [e2]
    omega
  · simp [enq_at]; omega
  · simp [enq_at]; omega
  · simp [enq_at]; omega
theorem blk_enq {T : Nat} {s : St} {U : List Nat} {o p w : Nat} (h : Iv T s) (ho : o < 8) (hr : s 85 o ≠ 2) (hp : p < 85) (hno : opn s o p w = false) (hB : Blk s U) : Blk (enq s o p w) U := by
  have ha := h.at85 ho hr
  intro p' x hp' hpU hx
  have e : ∀ k j, k ≤ 93 → j ≠ o → enq s o p w k j = s k j := fun k j hk hj => enq_ne hk hj
  have ea : enq s o p w 89 o = p := by simp [enq_at]
  by_cases hxo : x = o
  · subst hxo
    have hpp : p = p' := by have := hx.2.1; rw [ea] at this; exact this
    subst hpp
    obtain ⟨j, j1, j2⟩ := opn_iff.mp hno
    have ew : enq s x p w 90 x = w := by simp [enq_at]
    rw [ew]
    rcases j2 with ⟨j2, j3⟩ | ⟨j2, j3⟩
    · exfalso
      have hjx : j ≠ x := fun z => by rw [z, ha] at j2; omega
      have h1 := hx.2.2 j j1 hjx (by rw [e 89 j (by omega) hjx]; exact j2)
      have hjt := (h.2.2.1 j j1 (h.w j1 hp j2)).2.2.2.2
      have c1 : chg (enq s x p w) x = decide (s p x ≠ 0) := by
        unfold chg
        rw [ea, enq_lo hp]
        simp; omega
      have c2 : chg (enq s x p w) j = decide (s p j ≠ 0) := by
        unfold chg
        rw [e 89 j (by omega) hjx, j2, enq_lo hp]
        simp; omega
      have t1 : enq s x p w 91 x = s 94 0 := by simp [enq_at]
      unfold ahd at h1
      rw [c1, c2, t1, e 91 j (by omega) hjx] at h1
      by_cases z1 : s p x = 0 <;> by_cases z2 : s p j = 0 <;> simp [z1, z2] at h1 j3 <;> omega
    · refine fitb_iff.mpr ⟨j, j1, j2, ?_⟩
      rw [enq_lo hp]
      exact j3
  · have hx0 : Hd s p' x := by
      refine ⟨hx.1, ?_, fun j hj hjx hj2 => ?_⟩
      · have := hx.2.1; rw [e 89 x (by omega) hxo] at this; exact this
      · have hjo : j ≠ o := fun z => by rw [z, ha] at hj2; omega
        have h1 := hx.2.2 j hj hjx (by rw [e 89 j (by omega) hjo]; exact hj2)
        have c : ∀ y, y < 8 → y ≠ o → chg (enq s o p w) y = chg s y := fun y hy hyo => by
          have h85 : s 89 y ≤ 85 := by
            by_cases z : s 85 y = 2
            · have := (h.2.2.1 y hy z).1; omega
            · rw [h.at85 hy z]; omega
          unfold chg
          rw [e 89 y (by omega) hyo]
          by_cases z : s 89 y = 85
          · simp [z]
          · rw [e (s 89 y) y (by omega) hyo]
        unfold ahd at h1 ⊢
        rw [c x hx.1 hxo, c j hj hjo, e 91 x (by omega) hxo, e 91 j (by omega) hjo] at h1
        exact h1
    obtain ⟨j, j1, j2, j3⟩ := fitb_iff.mp (hB p' x hp' hpU hx0)
    refine fitb_iff.mpr ⟨j, j1, j2, ?_⟩
    rw [e 90 x (by omega) hxo, enq_lo hp']
    exact j3

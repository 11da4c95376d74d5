/-! PURE SIDE, THE REFERENCE: what lies below; a row of numbers changes -/
def Fx (I I' : Nat → Nat → Int32) (r : Nat) : Prop := ∀ b i, b ≠ r → I' b i = I b i
theorem Fx.rf (I : Nat → Nat → Int32) (r : Nat) : Fx I I r := fun _ _ _ => rfl
theorem Fx.trans {I I1 I2 : Nat → Nat → Int32} {r : Nat} (h1 : Fx I I1 r) (h2 : Fx I1 I2 r) : Fx I I2 r := fun b i h => (h2 b i h).trans (h1 b i h)
theorem Fx.up {I : Nat → Nat → Int32} {r i : Nat} {x : Int32} : Fx I (upI I r i x) r := fun b j h => upI_ne h
theorem upI_r {I : Nat → Nat → Int32} {r k i : Nat} {x : Int32} : upI I r k x r i = if i = k then x else I r i := by
  by_cases e : i = k
  · rw [if_pos e, e, upI_eq]
  · rw [if_neg e, upI_ni e]
theorem su_self (s : St) (p o : Nat) : su s p o (s p o) = s := by
  funext a b
  rw [su_at]
  by_cases e : a = p ∧ b = o
  · rw [if_pos e, e.1, e.2]
  · rw [if_neg e]
section S8E
variable {I : Nat → Nat → Int32} {L : Nat → Nat → Int64} {c t r N T : Nat} {s : St} {μ : qM}
theorem R8.h (hR : R8 (I r) s) {p o v : Nat} (ho : o < 8) (hp : p < 85) : R8 ((upI I r (85 * o + p) (n2 v)) r) (su s p o v) := by
  obtain ⟨h1, h2, h3, h4, h5⟩ := hR
  refine ⟨fun q j hq hj => ?_, fun j hj => ?_, ?_, ?_, ?_⟩
  · rw [upI_r, su_at]
    by_cases e : q = p ∧ j = o
    · rw [if_pos (by rw [e.1, e.2]), if_pos e]
    · rw [if_neg (by omega), if_neg e]
      exact h1 q j hq hj
  · obtain ⟨a1, a2, a3, a4, a5, a6, a7, a8, a9⟩ := h2 j hj
    refine ⟨?_, ?_, ?_, ?_, ?_, ?_, ?_, ?_, fun hz => ?_⟩
    · rw [upI_r, if_neg (by omega), su_ne (by omega)]; exact a1
    · rw [upI_r, if_neg (by omega), su_ne (by omega)]; exact a2
    · rw [upI_r, if_neg (by omega), su_ne (by omega)]; exact a3
    · rw [upI_r, if_neg (by omega), su_ne (by omega)]; exact a4
    · rw [upI_r, if_neg (by omega), su_ne (by omega)]; exact a5
    · rw [upI_r, if_neg (by omega), su_ne (by omega)]; exact a6
    · rw [upI_r, if_neg (by omega), su_ne (by omega)]; exact a7
    · rw [upI_r, if_neg (by omega), su_ne (by omega)]; exact a8
    · rw [su_ne (by omega)] at hz
      rw [upI_r, if_neg (by omega), su_ne (by omega)]; exact a9 hz
  · rw [upI_r, if_neg (by omega), su_ne (by omega)]; exact h3
  · rw [upI_r, if_neg (by omega), su_ne (by omega)]; exact h4
  · rw [upI_r, if_neg (by omega), su_ne (by omega)]; exact h5
/-- a row of the owners' changes: k = 0 stand, 1 age, 2 work, 3 falls, 4 at, 5 want, 6 goal, 7 mode -/
def rwK (k : Nat) : Nat := if k < 6 then 85 + k else 86 + k
theorem R8.own (hR : R8 (I r) s) {k o v : Nat} (ho : o < 8) (hk : k < 8) (hv : k = 0 → v ≠ 2) : R8 ((upI I r (680 + 8 * k + o) (n2 v)) r) (su s (rwK k) o v) := by
  have hK : 85 ≤ rwK k ∧ rwK k ≤ 93 ∧ rwK k ≠ 91 := by unfold rwK; split <;> omega
  obtain ⟨h1, h2, h3, h4, h5⟩ := hR
  have gen : ∀ (q j : Nat), q < 8 → j < 8 → I r (680 + 8 * q + j) = n2 (s (rwK q) j) → (upI I r (680 + 8 * k + o) (n2 v)) r (680 + 8 * q + j) = n2 (su s (rwK k) o v (rwK q) j) := by
    intro q j hq hj h
    have hi : rwK q = rwK k ↔ q = k := by
      unfold rwK
      split <;> split <;> constructor <;> intro z <;> omega
    rw [upI_r, su_at]
    by_cases e : q = k ∧ j = o
    · rw [if_pos (by rw [e.1, e.2]), if_pos ⟨hi.mpr e.1, e.2⟩]
    · rw [if_neg (by omega), if_neg (fun z => e ⟨hi.mp z.1, z.2⟩)]
      exact h
  refine ⟨fun q j hq hj => ?_, fun j hj => ?_, ?_, ?_, ?_⟩
  · rw [upI_r, if_neg (by omega), su_ne (by omega)]
    exact h1 q j hq hj
  · obtain ⟨a1, a2, a3, a4, a5, a6, a7, a8, a9⟩ := h2 j hj
    refine ⟨gen 0 j (by omega) hj a1, gen 1 j (by omega) hj a2, gen 2 j (by omega) hj a3, gen 3 j (by omega) hj a4, gen 4 j (by omega) hj a5, gen 5 j (by omega) hj a6, gen 6 j (by omega) hj a7, gen 7 j (by omega) hj a8, fun hz => ?_⟩
    rw [upI_r, if_neg (by omega), su_ne (show 91 ≠ rwK k by omega)]
    refine a9 ?_
    rw [su_at] at hz
    by_cases e : 85 = rwK k ∧ j = o
    · rw [if_pos e] at hz
      have : k = 0 := by
        have := e.1
        unfold rwK at this
        split at this <;> omega
      exact absurd hz (hv this)
    · rw [if_neg e] at hz
      exact hz
  · rw [upI_r, if_neg (by omega), su_ne (by omega)]; exact h3
  · rw [upI_r, if_neg (by omega), su_ne (by omega)]; exact h4
  · rw [upI_r, if_neg (by omega), su_ne (by omega)]; exact h5
theorem R8.grd (hR : R8 (I r) s) {o p : Nat} (ho : o < 8) (hp : p < 85) (hat : s 89 o = p) : R8 ((upI (upI (upI I r (85 * o + p) (n2 (s 90 o))) r (680 + o) (n2 1)) r (712 + o) (n2 85)) r) (grt s o) := by
  have w1 := hR.h (v := s 90 o) ho hp
  have w2 := R8.own (k := 0) (v := 1) w1 ho (by omega) (fun _ => by omega)
  have w3 := R8.own (k := 4) (v := 85) w2 ho (by omega) (fun z => by omega)
  have e : grt s o = su (su (su s p o (s 90 o)) (rwK 0) o 1) (rwK 4) o 85 := by
    unfold grt rwK
    rw [hat]
    rfl
  rw [e]
  exact w3
theorem R8.enr (hR : R8 (I r) s) {o p m : Nat} (ho : o < 8) : R8 ((upI (upI (upI (upI (upI I r (680 + o) (n2 2)) r (712 + o) (n2 p)) r (720 + o) (n2 m)) r 754 (n2 (s 94 0 + 1))) r (744 + o) (n2 (s 94 0 + 1))) r) (enq s o p m) := by
  obtain ⟨h1, h2, h3, h4, h5⟩ := hR
  refine ⟨fun q j hq hj => ?_, fun j hj => ?_, ?_, ?_, ?_⟩
  · rw [upI_r, if_neg (by omega), upI_r, if_neg (by omega), upI_r, if_neg (by omega), upI_r, if_neg (by omega), upI_r, if_neg (by omega), enq_lo (by omega)]
    exact h1 q j hq hj
  · obtain ⟨a1, a2, a3, a4, a5, a6, a7, a8, a9⟩ := h2 j hj
    by_cases e : j = o
    · subst e
      refine ⟨?_, ?_, ?_, ?_, ?_, ?_, ?_, ?_, fun hz => ?_⟩
      · rw [upI_r, if_neg (by omega), upI_r, if_neg (by omega), upI_r, if_neg (by omega), upI_r, if_neg (by omega), upI_r, if_pos (by omega), enq_at, if_neg (by omega), if_neg (by omega), if_neg (by omega), if_neg (by omega), if_pos ⟨rfl, rfl⟩]
      · rw [upI_r, if_neg (by omega), upI_r, if_neg (by omega), upI_r, if_neg (by omega), upI_r, if_neg (by omega), upI_r, if_neg (by omega), enq_at, if_neg (by omega), if_neg (by omega), if_neg (by omega), if_neg (by omega), if_neg (by omega)]
        exact a2
      · rw [upI_r, if_neg (by omega), upI_r, if_neg (by omega), upI_r, if_neg (by omega), upI_r, if_neg (by omega), upI_r, if_neg (by omega), enq_at, if_neg (by omega), if_neg (by omega), if_neg (by omega), if_neg (by omega), if_neg (by omega)]
        exact a3
      · rw [upI_r, if_neg (by omega), upI_r, if_neg (by omega), upI_r, if_neg (by omega), upI_r, if_neg (by omega), upI_r, if_neg (by omega), enq_at, if_neg (by omega), if_neg (by omega), if_neg (by omega), if_neg (by omega), if_neg (by omega)]
        exact a4
      · rw [upI_r, if_neg (by omega), upI_r, if_neg (by omega), upI_r, if_neg (by omega), upI_r, if_pos (by omega), enq_at, if_neg (by omega), if_neg (by omega), if_neg (by omega), if_pos ⟨rfl, rfl⟩]
      · rw [upI_r, if_neg (by omega), upI_r, if_neg (by omega), upI_r, if_pos (by omega), enq_at, if_neg (by omega), if_neg (by omega), if_pos ⟨rfl, rfl⟩]
      · rw [upI_r, if_neg (by omega), upI_r, if_neg (by omega), upI_r, if_neg (by omega), upI_r, if_neg (by omega), upI_r, if_neg (by omega), enq_at, if_neg (by omega), if_neg (by omega), if_neg (by omega), if_neg (by omega), if_neg (by omega)]
        exact a7
      · rw [upI_r, if_neg (by omega), upI_r, if_neg (by omega), upI_r, if_neg (by omega), upI_r, if_neg (by omega), upI_r, if_neg (by omega), enq_at, if_neg (by omega), if_neg (by omega), if_neg (by omega), if_neg (by omega), if_neg (by omega)]
        exact a8
      · rw [upI_r, if_pos (by omega), enq_at, if_neg (by omega), if_pos ⟨rfl, rfl⟩]
    · refine ⟨?_, ?_, ?_, ?_, ?_, ?_, ?_, ?_, fun hz => ?_⟩
      · rw [upI_r, if_neg (by omega), upI_r, if_neg (by omega), upI_r, if_neg (by omega), upI_r, if_neg (by omega), upI_r, if_neg (by omega), enq_ne (by omega) e]; exact a1
      · rw [upI_r, if_neg (by omega), upI_r, if_neg (by omega), upI_r, if_neg (by omega), upI_r, if_neg (by omega), upI_r, if_neg (by omega), enq_ne (by omega) e]; exact a2
      · rw [upI_r, if_neg (by omega), upI_r, if_neg (by omega), upI_r, if_neg (by omega), upI_r, if_neg (by omega), upI_r, if_neg (by omega), enq_ne (by omega) e]; exact a3
      · rw [upI_r, if_neg (by omega), upI_r, if_neg (by omega), upI_r, if_neg (by omega), upI_r, if_neg (by omega), upI_r, if_neg (by omega), enq_ne (by omega) e]; exact a4
      · rw [upI_r, if_neg (by omega), upI_r, if_neg (by omega), upI_r, if_neg (by omega), upI_r, if_neg (by omega), upI_r, if_neg (by omega), enq_ne (by omega) e]; exact a5
      · rw [upI_r, if_neg (by omega), upI_r, if_neg (by omega), upI_r, if_neg (by omega), upI_r, if_neg (by omega), upI_r, if_neg (by omega), enq_ne (by omega) e]; exact a6
      · rw [upI_r, if_neg (by omega), upI_r, if_neg (by omega), upI_r, if_neg (by omega), upI_r, if_neg (by omega), upI_r, if_neg (by omega), enq_ne (by omega) e]; exact a7
      · rw [upI_r, if_neg (by omega), upI_r, if_neg (by omega), upI_r, if_neg (by omega), upI_r, if_neg (by omega), upI_r, if_neg (by omega), enq_ne (by omega) e]; exact a8
      · rw [enq_ne (by omega) e] at hz
        rw [upI_r, if_neg (by omega), upI_r, if_neg (by omega), upI_r, if_neg (by omega), upI_r, if_neg (by omega), upI_r, if_neg (by omega), enq_ne (by omega) e]; exact a9 hz
  · rw [upI_r, if_neg (by omega), upI_r, if_neg (by omega), upI_r, if_neg (by omega), upI_r, if_neg (by omega), upI_r, if_neg (by omega), enq_at, if_neg (by omega), if_neg (by omega), if_neg (by omega), if_neg (by omega), if_neg (by omega)]; exact h3
  · rw [upI_r, if_neg (by omega), upI_r, if_neg (by omega), upI_r, if_neg (by omega), upI_r, if_neg (by omega), upI_r, if_neg (by omega), enq_at, if_neg (by omega), if_neg (by omega), if_neg (by omega), if_neg (by omega), if_neg (by omega)]; exact h4
  · rw [upI_r, if_neg (by omega), upI_r, if_pos (by omega), enq_at, if_pos ⟨rfl, rfl⟩]
theorem x8_holdsNow (hr : r = 217 ∨ r = 218) {o p v : Nat} (ho : o < 8) (hp : p < 85) : fX8_holdsNow r (n2 o) (n2 p) (n2 v) (mk I L c t) = some (n2 0, 0, mk (upI I r (85 * o + p) (n2 v)) L c t) := by
  unfold fX8_holdsNow
  rw [l_85, n2_mul, n2_add, rw_S hr (by omega), qbnd_s]
  rfl
def stpS (s : St) (o p m : Nat) : St × Bool := if both (s p o) m = s p o then (s, true) else if opn s o p (both (s p o) m) = true then (su s p o (both (s p o) m), true) else (enq s o p (both (s p o) m), false)
theorem x8_steps (hr : r = 217 ∨ r = 218) (hR : R8 (I r) s) (hB : Bd s) {o p m : Nat} (ho : o < 8) (hp : p < 85) (hm : m ≤ 6) : ∃ I', fX8_steps r (n2 o) (n2 p) (n2 m) (mk I L c t) = some (n2 (bn (stpS s o p m).2), 0, mk I' L c t) ∧ R8 (I' r) (stpS s o p m).1 ∧ Fx I I' r := by
  have h1 := hB.md hp ho
  have head : fX8_steps r (n2 o) (n2 p) (n2 m) (mk I L c t) = if n2 (bn (decide (both (s p o) m = s p o) || opn s o p (both (s p o) m))) = n2 0 then (qbnd (oStI 20 (mk I L c t) r (n2 680 + n2 o) (n2 2)) fun μ3 =>
    qbnd (oStI 20 μ3 r (n2 712 + n2 o) (n2 p)) fun μ4 =>
    qbnd (oStI 20 μ4 r (n2 720 + n2 o) (n2 (both (s p o) m))) fun μ5 =>
    qbnd (oLdI 20 μ5 r (n2 754)) fun v6 =>
    qbnd (oStI 20 μ5 r (n2 754) (v6 + n2 1)) fun μ7 =>
    qbnd (oLdI 20 μ7 r (n2 754)) fun v8 =>
    qbnd (oStI 20 μ7 r (n2 744 + n2 o) v8) fun μ9 =>
    some (n2 0, 0, μ9)) else some (n2 1, 0, mk (upI I r (85 * o + p) (n2 (both (s p o) m))) L c t) := by
    unfold fX8_steps
    rw [x8_wanted hr hR hB ho hp hm, qbnd_s]
    dsimp only
    rw [x8_isGranted hr hR hB ho hp hm, qbnd_s]
    dsimp only
    rw [x8_holdsNow hr ho hp, qbnd_s]
    dsimp only
    rw [l_0, l_1, l_2, l_680, l_712, l_720, l_744, l_754, if_pos yes_qz]
    simp only [no_qz, if_true]
  rw [head]
  unfold stpS
  by_cases e1 : both (s p o) m = s p o
  · rw [if_pos e1, decide_eq_true e1, Bool.true_or, if_neg yes_zero]
    refine ⟨_, rfl, ?_, .up⟩
    have := hR.h (v := both (s p o) m) ho hp
    rw [e1, su_self] at this
    rw [e1]
    exact this
  · rw [if_neg e1, decide_eq_false e1, Bool.false_or]
    rcases bcs (opn s o p (both (s p o) m)) with e2 | e2
    · rw [e2, if_pos no_zero, if_neg Bool.false_ne_true]
      refine ⟨upI (upI (upI (upI (upI I r (680 + o) (n2 2)) r (712 + o) (n2 p)) r (720 + o) (n2 (both (s p o) m))) r 754 (n2 (s 94 0 + 1))) r (744 + o) (n2 (s 94 0 + 1)), ?_, hR.enr ho, (((Fx.up.trans .up).trans .up).trans .up).trans .up⟩
      have hc : (upI (upI (upI I r (680 + o) (n2 2)) r (712 + o) (n2 p)) r (720 + o) (n2 (both (s p o) m))) r 754 = n2 (s 94 0) := by
        rw [upI_r, if_neg (by omega), upI_r, if_neg (by omega), upI_r, if_neg (by omega)]
        exact hR.2.2.2.2
      rw [n2_add, rw_S hr (by omega), qbnd_s, n2_add, rw_S hr (by omega), qbnd_s, n2_add, rw_S hr (by omega), qbnd_s, r8L hr (by omega) hc, qbnd_s, n2_add, rw_S hr (by omega), qbnd_s, r8L hr (by omega) upI_eq, qbnd_s, n2_add, rw_S hr (by omega), qbnd_s]
      rfl
    · rw [e2, if_neg yes_zero, if_pos rfl]
      exact ⟨_, rfl, hR.h ho hp, .up⟩
end S8E

/-! THE LAW'S BEGINNING: all away, both worlds -/
def sZ0 : St := fun k o => if k = 89 then 85 else if k = 94 then (if o = 2 then 5 else 0) else 0
theorem sZ0_n {k o : Nat} (h : k ≠ 89) (h2 : k ≠ 94) : sZ0 k o = 0 := by
  unfold sZ0
  rw [if_neg h, if_neg h2]
theorem sZ0_89 (o : Nat) : sZ0 89 o = 85 := rfl
theorem sZ0_pot : pot sZ0 = 0 := by decide +kernel
theorem gd_Z0 : Gd 0 sZ0 := by
  refine ⟨⟨fun p o hp ho => ?_, fun o ho => ?_, fun o ho z => ?_, fun o ho _ => rfl, fun i j hi hj z => ?_, fun q o h1 hq ho z => ?_, fun p o hp ho z => sZ0_n (by omega) (by omega), ?_, ?_, ?_, ?_⟩, fun p o hp hU z => ?_, ?_⟩
  · rw [sZ0_n (by omega) (by omega)]; omega
  · rw [sZ0_n (k := 85) (by omega) (by omega), sZ0_n (k := 87) (by omega) (by omega), sZ0_n (k := 88) (by omega) (by omega), sZ0_n (k := 90) (by omega) (by omega), sZ0_n (k := 91) (by omega) (by omega), sZ0_n (k := 92) (by omega) (by omega), sZ0_n (k := 93) (by omega) (by omega)]
    omega
  · rw [sZ0_n (by omega) (by omega)] at z; omega
  · rw [sZ0_n (by omega) (by omega)] at z; omega
  · rw [sZ0_n (by omega) (by omega), sZ0_89] at z; omega
  · rw [sZ0_pot]; decide
  · decide
  · decide
  · decide
  · have := z.2.1
    rw [sZ0_89] at this
    omega
  · decide
theorem qm_q (a k : Nat) : qI qM1 a k = qM1.2.1 a k := rfl
def QI (I : Nat → Nat → Int32) : Prop := (∀ a k x, (a, k, x) ∈ qI1 → I a k = x) ∧ ∀ a n j, (a, n) ∈ qZ1 → j < n → I a j = 0
theorem qm_all : QI qM1.2.1 := by
  refine ⟨fun a k x h => ?_, fun a n j h hj => ?_⟩
  · rw [← qm_q]
    have h2 : decide (qI qM1 a k = x) = true := List.all_eq_true.mp qM1_I (a, k, x) h
    exact of_decide_eq_true h2
  · rw [← qm_q]
    have h2 : ((List.range n).all fun j => decide (qI qM1 a j = 0)) = true := List.all_eq_true.mp qM1_Z (a, n) h
    have h3 : decide (qI qM1 a j = 0) = true := List.all_eq_true.mp h2 j (List.mem_range.mpr hj)
    exact of_decide_eq_true h3
section Z5
variable {I : Nat → Nat → Int32} {L : Nat → Nat → Int64}
theorem qm_I (Q : QI I) {a k : Nat} {x : Int32} (h : qI1.contains (a, k, x) = true) : I a k = x := Q.1 a k x (List.contains_iff_mem.mp h)
theorem qm_Z (Q : QI I) {a n j : Nat} (h : qZ1.contains (a, n) = true) (hj : j < n) : I a j = n2 0 := by
  rw [← l_0]
  exact Q.2 a n j (List.contains_iff_mem.mp h) hj
theorem nib_0 : ∀ o, o < 8 → nib (n2 0) o = n2 0 := by decide +kernel
def r7q (a : Nat) : Bool := qZ1.contains (a + 1, 85) && ((List.range 9).all fun j => if j = 4 then (List.range 8).all fun o => qI1.contains (a + 6, o, n2 85) else qZ1.contains (a + 2 + j, 8)) && qI1.contains (a, 10, n2 0) && qI1.contains (a, 11, n2 0) && qI1.contains (a, 12, n2 5)
theorem r7_Z0 (Q : QI I) {a : Nat} (h : r7q a = true) : R7 I a sZ0 := by
  unfold r7q at h
  simp only [Bool.and_eq_true] at h
  obtain ⟨⟨⟨⟨h1, h2⟩, h3⟩, h4⟩, h5⟩ := h
  refine ⟨fun p o hp ho => ?_, fun j o hj ho => ?_, qm_I Q h3, qm_I Q h4, qm_I Q h5⟩
  · rw [qm_Z Q h1 hp, nib_0 o ho, sZ0_n (by omega) (by omega)]
  · have q := List.all_eq_true.mp h2 j (List.mem_range.mpr hj)
    by_cases e : j = 4
    · rw [if_pos e] at q
      subst e
      exact qm_I Q (List.all_eq_true.mp q o (List.mem_range.mpr ho))
    · rw [if_neg e] at q
      rw [qm_Z Q q ho, sZ0_n (by omega) (by omega)]
set_option maxRecDepth 100000 in
theorem r7q_3 : r7q 3 = true ∧ r7q 22 = true := by decide +kernel
theorem dw_Z0 (Q : QI I) {d : Nat} (h : r7q (d + 1) = true) (h2 : qZ1.contains (d + 18, 85) = true) : DW I d sZ0 D0 := ⟨r7_Z0 Q h, fun p hp => qm_Z Q h2 hp⟩
def q217 (k : Nat) : Int32 := if 712 ≤ k ∧ k < 720 then n2 85 else if k = 753 then n2 5 else n2 0
set_option maxRecDepth 100000 in
theorem qI1_217 : (qI1.filter fun z => z.1 == 217) = (List.range 755).map fun k => (217, k, q217 k) := by decide +kernel
theorem qm_217 (Q : QI I) {k : Nat} (hk : k < 755) : I 217 k = q217 k := by
  have h : (217, k, q217 k) ∈ qI1.filter fun z => z.1 == 217 := by
    rw [qI1_217]
    exact List.mem_map.mpr ⟨k, List.mem_range.mpr hk, rfl⟩
  exact Q.1 217 k _ (List.mem_filter.mp h).1
theorem q217_0 {k : Nat} (h : ¬ (712 ≤ k ∧ k < 720)) (h2 : k ≠ 753) : q217 k = n2 0 := by
  unfold q217
  rw [if_neg h, if_neg h2]
theorem r8_Z0 (Q : QI I) : R8 (I 217) sZ0 := by
  refine ⟨fun p o hp ho => ?_, fun o ho => ⟨?_, ?_, ?_, ?_, ?_, ?_, ?_, ?_, fun z => ?_⟩, ?_, ?_, ?_⟩
  · rw [qm_217 Q (by omega), q217_0 (by omega) (by omega), sZ0_n (by omega) (by omega)]
  · rw [qm_217 Q (by omega), q217_0 (by omega) (by omega), sZ0_n (by omega) (by omega)]
  · rw [qm_217 Q (by omega), q217_0 (by omega) (by omega), sZ0_n (by omega) (by omega)]
  · rw [qm_217 Q (by omega), q217_0 (by omega) (by omega), sZ0_n (by omega) (by omega)]
  · rw [qm_217 Q (by omega), q217_0 (by omega) (by omega), sZ0_n (by omega) (by omega)]
  · rw [qm_217 Q (by omega), sZ0_89]
    unfold q217
    rw [if_pos ⟨by omega, by omega⟩]
  · rw [qm_217 Q (by omega), q217_0 (by omega) (by omega), sZ0_n (by omega) (by omega)]
  · rw [qm_217 Q (by omega), q217_0 (by omega) (by omega), sZ0_n (by omega) (by omega)]
  · rw [qm_217 Q (by omega), q217_0 (by omega) (by omega), sZ0_n (by omega) (by omega)]
  · rw [sZ0_n (by omega) (by omega)] at z; omega
  · rw [qm_217 Q (by omega)]; rfl
  · rw [qm_217 Q (by omega)]; rfl
  · rw [qm_217 Q (by omega)]; rfl
set_option maxRecDepth 100000 in
theorem qI1_at : qI1.contains (40, 1, n2 0) = true ∧ qI1.contains (40, 2, n2 0) = true ∧ qI1.contains (198, 1, n2 0) = true ∧ qI1.contains (200, 1, n2 0) = true ∧ qI1.contains (202, 3, n2 0) = true ∧ qI1.contains (210, 16, n2 0) = true ∧ qI1.contains (210, 18, n2 0) = true ∧ qI1.contains (210, 4, n2 0) = true ∧ qI1.contains (210, 1, n2 0) = true ∧ qI1.contains (210, 10, n2 0) = true := by decide +kernel
theorem qZ1_at : qZ1.contains (20, 85) = true ∧ qZ1.contains (39, 85) = true ∧ qZ1.contains (197, 3) = true ∧ qZ1.contains (227, 3) = true := by decide +kernel
theorem ws_Z0 (Q : QI I) : Ws 0 I L := by
  obtain ⟨a1, a2, a3, a4, a5, a6, a7, a8, a9, a10⟩ := qI1_at
  obtain ⟨z1, z2, z3, z4⟩ := qZ1_at
  refine ⟨sZ0, [], fun _ => none, [], [], [], ⟨dw_Z0 Q r7q_3.1 z1, ⟨sZ0, dw_Z0 Q r7q_3.2 z2⟩, ⟨0, by omega, Nat.zero_le _, qm_I Q a1, qm_I Q a2, fun k hk => absurd hk (Nat.not_lt_zero _)⟩, fun i hi => ⟨qm_Z Q z3 hi, fun s z => by cases z⟩, ⟨qm_I Q a3, Nat.zero_le _, fun i hi => absurd hi (Nat.not_lt_zero _)⟩, ⟨⟨qm_I Q a4, Nat.zero_le _, fun i hi => absurd hi (Nat.not_lt_zero _)⟩, FL.rf _ _⟩, ⟨Nat.zero_le _, qm_I Q a5, fun i hi => absurd hi (Nat.not_lt_zero _), fun z => absurd rfl z⟩⟩, ⟨r8_Z0 Q, ⟨fun _ => false, qm_I Q a6⟩, ⟨qm_I Q a7, Nat.zero_le _, fun k hk => absurd hk (Nat.not_lt_zero _)⟩, fun i hi => ⟨qm_Z Q z4 hi, fun s z => by cases z⟩, ⟨qm_I Q a8, Nat.zero_le _, fun i hi => absurd hi (Nat.not_lt_zero _)⟩, ⟨qm_I Q a9, Nat.zero_le _, fun i hi => absurd hi (Nat.not_lt_zero _), FL.rf _ _⟩, ⟨Nat.zero_le _, qm_I Q a10, fun i hi => absurd hi (Nat.not_lt_zero _), fun z => absurd rfl z⟩⟩, gd_Z0, fun z hz => absurd hz List.not_mem_nil, fun i z _ hz => by cases hz⟩
end Z5
/-- the pure law: true at every script -/
theorem law_pure {xs : List Int32} (hl : xs.length ≤ 2048) : ∃ n, Fz9 (fL_law_13 xs n 1 210 229 0 qM1) := by
  refine ⟨514, ?_⟩
  rw [qM1_mk]
  exact lw_loop hl 514 0 _ _ 229 16255 (Nat.zero_le _) (by omega) (Nat.le_refl _) (Nat.le_refl _) (ws_Z0 qm_all)

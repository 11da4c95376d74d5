/-! CONSTRUCTORS: run as they are by the kernel -/
def qct : List Nat := [0, 20, 24, 32, 37, 52, 79, 87, 170]
/-- a constructor's call, d deep at most -/
def qcall2 : Nat → qF
  | 0 => fun _ _ _ => none
  | d + 1 => fun M as μ => match as with
    | [.ref a] => if qin qct M = true ∧ (qk μ a).1 = qmo M then qblk true (qcall2 d) (qmc M) (fun _ => false) (fun _ _ _ _ => none) 4000 0 (qent [.ref a] (qmL M)) [] μ else none
    | _ => none
theorem qin_mem {l : List Nat} {n : Nat} (h : qin l n = true) : n ∈ l := by
  induction l with
  | nil => cases h
  | cons a l ih =>
    simp only [qin] at h
    split at h
    · rename_i e; rw [e]; exact List.mem_cons_self
    · exact List.mem_cons_of_mem _ (ih h)
theorem qct_ok : ∀ M ∈ qct, qcodeok M ∧ M < 279 ∧ (qm M).1 < 9 ∧ (parseMethodDescriptor (qmy M).desc).map (fun d => d.parameters.length) = some 0 ∧ (qm M).2.1 = false ∧ 1 ≤ qmL M ∧ qbpc (qmc M) 0 = 0 := by
  intro M hM
  simp only [qct, List.mem_cons, List.not_mem_nil, or_false] at hM
  rcases hM with rfl | rfl | rfl | rfl | rfl | rfl | rfl | rfl | rfl
  · exact ⟨qcok_X0_init, by decide, by decide +kernel, by decide +kernel, by decide +kernel, by decide +kernel, by decide +kernel⟩
  · exact ⟨qcok_X1_init, by decide, by decide +kernel, by decide +kernel, by decide +kernel, by decide +kernel, by decide +kernel⟩
  · exact ⟨qcok_X2_init, by decide, by decide +kernel, by decide +kernel, by decide +kernel, by decide +kernel, by decide +kernel⟩
  · exact ⟨qcok_X3_init, by decide, by decide +kernel, by decide +kernel, by decide +kernel, by decide +kernel, by decide +kernel⟩
  · exact ⟨qcok_X4_init, by decide, by decide +kernel, by decide +kernel, by decide +kernel, by decide +kernel, by decide +kernel⟩
  · exact ⟨qcok_X5_init, by decide, by decide +kernel, by decide +kernel, by decide +kernel, by decide +kernel, by decide +kernel⟩
  · exact ⟨qcok_X6_init, by decide, by decide +kernel, by decide +kernel, by decide +kernel, by decide +kernel, by decide +kernel⟩
  · exact ⟨qcok_X7_init, by decide, by decide +kernel, by decide +kernel, by decide +kernel, by decide +kernel, by decide +kernel⟩
  · exact ⟨qcok_X8_init, by decide, by decide +kernel, by decide +kernel, by decide +kernel, by decide +kernel, by decide +kernel⟩
theorem qcall2_good {base : Nat} {D : va_G} {ca : Nat → ClassId} {cv : Nat → Value} (hcv : ∀ j, (cv j).category = 1) : ∀ (d M : Nat) (as : List Value) (μ : qM) (r : qR), qcall2 d M as μ = some r → qGood true base D ca cv d M as μ r := by
  intro d
  induction d with
  | zero => intro M as μ r h; cases (show (none : Option qR) = some r from h)
  | succ d ih =>
    intro M as μ r h
    simp only [qcall2] at h
    split at h
    · rename_i a
      split at h
      · rename_i hc
        obtain ⟨hc1, hc2⟩ := hc
        obtain ⟨h1, h2, h3, h4, h5, h6, h7⟩ := qct_ok M (qin_mem hc1)
        refine qgood_of h2 (by omega) hcv (Or.inr ⟨h3, hc2⟩) ?_ rfl (by show 1 ≤ _; exact h6) h7 (qblk_ev2 rfl h1 (Nat.le_refl _) ih (fun pc L S μ r h => by cases h) 4000 h)
        unfold qargn
        rw [h5]
        exact h4
      · cases h
    · cases h

/-! THE LAW'S LOOP, to its end -/
section Z4
variable {xs : List Int32}
theorem lw_end {j : Nat} (hl : xs.length ≤ 2048) (hj : 4 * j ≤ xs.length) : (Int32.ofNat xs.length - (4 : Int32) < n2 (4 * j)) ∨ 4 * j + 4 ≤ xs.length ∧ ¬ (Int32.ofNat xs.length - (4 : Int32) < n2 (4 * j)) := by
  show (n2 xs.length - (4 : Int32) < n2 (4 * j)) ∨ _ ∧ ¬ (n2 xs.length - (4 : Int32) < n2 (4 * j))
  rw [l_4]
  by_cases e : 4 ≤ xs.length
  · rw [n2_sub e, n2_lt (by omega) (by omega)]
    omega
  · refine Or.inl ?_
    have e1 : 4 * j = 0 := by omega
    rw [e1]
    have e2 : xs.length = 0 ∨ xs.length = 1 ∨ xs.length = 2 ∨ xs.length = 3 := by omega
    rcases e2 with e2 | e2 | e2 | e2 <;> rw [e2] <;> decide +kernel
theorem lw_loop (hl : xs.length ≤ 2048) : ∀ (n j : Nat) (I : Nat → Nat → Int32) (L : Nat → Nat → Int64) (c t : Nat), 4 * j ≤ xs.length → xs.length < 4 * j + 4 * n → c ≤ 229 + j → t ≤ 16255 + 6 * j → Ws (400 * j) I L → Fz9 (fL_law_13 xs n 1 210 229 (n2 (4 * j)) (mk I L c t)) := by
  intro n
  induction n with
  | zero => intro j I L c t h1 h2 h3 h4 w; omega
  | succ n ih =>
    intro j I L c t h1 h2 h3 h4 w
    rcases lw_end hl h1 with e | ⟨e1, e2⟩
    · unfold fL_law_13
      rw [if_pos e, if_pos rfl]
      exact ⟨_, rfl, show c ≤ 601024 by omega, show t ≤ 7293033 by omega⟩
    · refine lw_step w (by omega) e1 hl (fun I' L' c' t' hc ht w' => ?_) e2
      have e3 : n2 (4 * j) + 4 = n2 (4 * (j + 1)) := by
        rw [l_4, n2_add]
        rfl
      rw [e3]
      exact ih (j + 1) I' L' c' t' (by omega) (by omega) (by omega) (by omega) w'
end Z4

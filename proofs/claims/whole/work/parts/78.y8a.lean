/-! PURE SIDE, THE REFERENCE: a row of numbers, and what is read of it -/
def R8 (f : Nat → Int32) (s : St) : Prop := (∀ p o, p < 85 → o < 8 → f (85 * o + p) = n2 (s p o)) ∧ (∀ o, o < 8 → f (680 + o) = n2 (s 85 o) ∧ f (688 + o) = n2 (s 86 o) ∧ f (696 + o) = n2 (s 87 o) ∧ f (704 + o) = n2 (s 88 o) ∧ f (712 + o) = n2 (s 89 o) ∧ f (720 + o) = n2 (s 90 o) ∧ f (728 + o) = n2 (s 92 o) ∧ f (736 + o) = n2 (s 93 o) ∧ (s 85 o = 2 → f (744 + o) = n2 (s 91 o + 1))) ∧ f 752 = n2 (s 94 1) ∧ f 753 = n2 (s 94 2) ∧ f 754 = n2 (s 94 0)
theorem lg_i (x y : Int32) : (lg_cmp x.toInt64 y.toInt64 < 0) = (x < y) := by
  have h : (lg_cmp x.toInt64 y.toInt64 < 0) ↔ ¬ (0 ≤ lg_cmp x.toInt64 y.toInt64) := by rw [Int32.not_le]
  rw [lg_cmp_ge] at h
  apply propext
  rw [h, Int64.not_le]
  exact Int32.toInt64_lt
theorem lg_g (x y : Int32) : (0 < lg_cmp x.toInt64 y.toInt64) = (y < x) := by
  have h : (0 < lg_cmp x.toInt64 y.toInt64) ↔ ¬ (lg_cmp x.toInt64 y.toInt64 ≤ 0) := by rw [Int32.not_le]
  rw [lg_cmp_le] at h
  apply propext
  rw [h, Int64.not_le]
  exact Int32.toInt64_lt
theorem x8_in (x : Int32) {lo hi : Nat} (h1 : lo < 2147483648) (h2 : hi < 2147483647) {a b : Int64} (ha : a = (n2 lo).toInt64) (hb : b = (n2 hi).toInt64) {μ : qM} : fX8_in x.toInt64 a b μ = some (n2 (bn (decide (lo ≤ nIx x ∧ nIx x ≤ hi))), 0, μ) := by
  subst ha
  subst hb
  unfold fX8_in
  simp only [lg_i, lg_g]
  rw [l_0, l_1, if_pos no_qz, if_pos yes_qz]
  rcases i32_cases x with e | ⟨k, hk, rfl⟩
  · have e2 : x < n2 lo := Int32.lt_of_lt_of_le e (by rw [n2_le (by omega) h1]; omega)
    rw [if_pos e2, nIx_m e, decide_eq_false (by omega)]
    rfl
  · rw [nIx_n hk]
    by_cases e1 : k < lo
    · rw [if_pos (by rw [n2_lt (by omega) (by omega)]; exact e1), decide_eq_false (by omega)]
      rfl
    · rw [if_neg (by rw [n2_lt (by omega) (by omega)]; exact e1)]
      by_cases e2 : hi < k
      · rw [if_pos (by rw [n2_lt (by omega) (by omega)]; exact e2), decide_eq_false (by omega)]
        rfl
      · rw [if_neg (by rw [n2_lt (by omega) (by omega)]; exact e2), decide_eq_true (by omega)]
        rfl
theorem qz_b (b : Bool) : qnz (n2 (bn b)) = n2 (bn b) := of_eq_true (n2_qzb b)
section S8A
variable {I : Nat → Nat → Int32} {L : Nat → Nat → Int64} {c t r N : Nat} {s : St} {μ : qM}
theorem ow8 (x : Int32) : fX8_isOwner x μ = some (n2 (bn (decide (nIx x < 8))), 0, μ) := by
  unfold fX8_isOwner
  rw [x8_in x (lo := 0) (hi := 7) (a := 0) (b := 7) (by omega) (by omega) rfl rfl, qbnd_s]
  dsimp only
  rw [if_pos (qz_b _)]
  congr 4
  exact decide_eq_decide.mpr ⟨fun h => by omega, fun h => by omega⟩
theorem pl8 (x : Int32) : fX8_isPlace x μ = some (n2 (bn (decide (nIx x < 85))), 0, μ) := by
  unfold fX8_isPlace
  rw [x8_in x (lo := 0) (hi := 84) (a := 0) (b := 84) (by omega) (by omega) rfl rfl, qbnd_s]
  dsimp only
  rw [if_pos (qz_b _)]
  congr 4
  exact decide_eq_decide.mpr ⟨fun h => by omega, fun h => by omega⟩
theorem lm8 (x : Int32) : fX8_isMode x μ = some (n2 (bn (decide (1 ≤ nIx x ∧ nIx x < 7))), 0, μ) := by
  unfold fX8_isMode
  rw [x8_in x (lo := 1) (hi := 6) (a := 1) (b := 6) (by omega) (by omega) rfl rfl, qbnd_s]
  dsimp only
  rw [if_pos (qz_b _)]
  congr 4
  exact decide_eq_decide.mpr ⟨fun h => by omega, fun h => by omega⟩
theorem x8_flag (b : Bool) : fX8_flag (n2 (bn b)) μ = some (n2 (bn b), 0, μ) := by
  unfold fX8_flag
  cases b with
  | false => rw [l_0, if_pos no_zero]; rfl
  | true => rw [l_0, if_neg yes_zero]; rfl
theorem x8_flag0 : fX8_flag (0 : Int32) μ = some (n2 0, 0, μ) := x8_flag false
theorem x8_flag1 : fX8_flag (1 : Int32) μ = some (n2 1, 0, μ) := x8_flag true
theorem and1_lt (x : Nat) : x &&& 1 < 2 := by
  rw [Nat.and_one_is_mod]
  omega
theorem x8_has {m k : Nat} (hm : m < 2147483648) (hk : k < 32) : fX8_has (n2 m) (n2 k) μ = some (n2 (bn (decide ((m >>> k) &&& 1 = 1))), 0, μ) := by
  have h1 := and1_lt (m >>> k)
  unfold fX8_has
  rw [l_31, l_1, l_0, n2_31 hk, n2_shr hm hk, n2_and, if_pos no_qz, if_pos yes_qz]
  by_cases e : (m >>> k) &&& 1 = 1
  · rw [if_pos (by rw [e]), decide_eq_true e]
    rfl
  · rw [if_neg (by rw [n2_eq (by omega) (by omega)]; exact e), decide_eq_false e]
    rfl
theorem x8_hasB (P : Nat → Bool) {k : Nat} (hk : k < 8) : fX8_has (n2 (bits8 P)) (n2 k) μ = some (n2 (bn (P k)), 0, μ) := by
  have := bits8_lt P
  rw [x8_has (by omega) (by omega), bits8_bit P hk]
  cases P k <;> rfl
theorem x8_together {m k : Nat} (hm : m ≤ 6) (hk : k ≤ 6) : fX8_together (n2 m) (n2 k) μ = some (n2 (bn (tog m k)), 0, μ) := by
  have := tgL_lt m (by omega)
  unfold fX8_together
  rw [tb3 hm, qbnd_s, x8_has (by omega) (by omega), qbnd_s]
  dsimp only
  rw [if_pos (qz_b _)]
  rfl
def bst (a b : Nat) : Nat → Nat → Nat
  | 0, best => best
  | n + 1, best => bst a b n (if (stg n a && stg n b && stg best n) = true then n else best)
theorem bst_both : ∀ a, a < 7 → ∀ b, b < 7 → bst a b 7 6 = both a b := by decide +kernel
theorem x8_both_l {a b : Nat} (ha : a ≤ 6) (hb : b ≤ 6) : ∀ (n f best : Nat), n ≤ 7 → n < f → best ≤ 6 → fX8_both_4 f (n2 a) (n2 b) (n2 best) (if n = 0 then -n2 1 else n2 (n - 1)) μ = some (n2 (bst a b n best), 0, μ) := by
  intro n
  induction n with
  | zero =>
    intro f best _ hf hbest
    obtain ⟨f', rfl⟩ : ∃ f', f = f' + 1 := ⟨f - 1, by omega⟩
    rw [if_pos rfl, fX8_both_4]
    dsimp only
    rw [l_0, if_pos (by decide +kernel)]
    rfl
  | succ n ih =>
    intro f best hn hf hbest
    obtain ⟨f', rfl⟩ : ∃ f', f = f' + 1 := ⟨f - 1, by omega⟩
    have hn6 : n ≤ 6 := by omega
    have hs1 := sgL_lt n (by omega)
    have hs2 := sgL_lt best (by omega)
    have e1 : n2 n + -n2 1 = if n = 0 then -n2 1 else n2 (n - 1) := by
      by_cases e : n = 0
      · subst e; rw [if_pos rfl]; decide +kernel
      · rw [if_neg e, n2_dec (by omega)]
    have hA : ∀ {μ : qM}, fX8_has (n2 (sgL.getD n 0)) (n2 a) μ = some (n2 (bn (stg n a)), 0, μ) := x8_has (by omega) (by omega)
    have hB : ∀ {μ : qM}, fX8_has (n2 (sgL.getD n 0)) (n2 b) μ = some (n2 (bn (stg n b)), 0, μ) := x8_has (by omega) (by omega)
    have hC : ∀ {μ : qM}, fX8_has (n2 (sgL.getD best 0)) (n2 n) μ = some (n2 (bn (stg best n)), 0, μ) := x8_has (by omega) (by omega)
    have ih1 := ih f' best (by omega) (by omega) hbest
    have ih2 := ih f' n (by omega) (by omega) hn6
    rw [if_neg (by omega), Nat.add_sub_cancel, fX8_both_4]
    dsimp only
    rw [l_0, l_1, if_neg (by rw [n2_nn (by omega)]; exact not_false), tb4 hn6, qbnd_s, hA, qbnd_s]
    dsimp only
    simp only [bst]
    rcases bcs (stg n a) with ea | ea
    · rw [ea, if_pos no_zero]
      unfold fX8_both_20 fX8_both_21
      rw [l_0, if_pos rfl, l_1, e1]
      exact ih1
    · rw [ea, if_neg yes_zero, qbnd_s, hB, qbnd_s]
      dsimp only
      rcases bcs (stg n b) with eb | eb
      · rw [eb, if_pos no_zero]
        unfold fX8_both_20 fX8_both_21
        rw [l_0, if_pos rfl, l_1, e1]
        exact ih1
      · rw [eb, if_neg yes_zero]
        unfold fX8_both_21
        rw [l_0, if_neg (show ¬ n2 1 = n2 0 by decide +kernel), tb4 hbest, qbnd_s, hC, qbnd_s]
        dsimp only
        rw [l_1, e1]
        rcases bcs (stg best n) with ec | ec
        · rw [ec, if_pos no_zero]
          exact ih1
        · rw [ec, if_neg yes_zero]
          exact ih2
theorem x8_both {a b : Nat} (ha : a ≤ 6) (hb : b ≤ 6) : fX8_both (n2 a) (n2 b) μ = some (n2 (both a b), 0, μ) := by
  unfold fX8_both
  have := x8_both_l (μ := μ) ha hb 7 qfu 6 (by omega) (by rw [qfu_eq]; omega) (by omega)
  rw [bst_both a (by omega) b (by omega)] at this
  exact this
theorem x8_parent {p : Nat} (hp : p < 85) : fX8_parent (n2 p) μ = some (if p = 0 then -n2 1 else n2 (par p), 0, μ) := by
  unfold fX8_parent
  rw [l_0, l_1, l_5, l_21, l_4]
  by_cases e0 : p = 0
  · rw [if_pos (by rw [e0]), if_pos e0]
  rw [if_neg (by rw [n2_eq (by omega) (by omega)]; exact e0), if_neg e0]
  unfold par
  by_cases e1 : 5 ≤ p
  · rw [if_pos (by rw [n2_le (by omega) (by omega)]; exact e1)]
    by_cases e2 : 21 ≤ p
    · rw [if_pos (by rw [n2_le (by omega) (by omega)]; exact e2), if_neg (show ¬ n2 4 = n2 0 by decide +kernel), n2_sub e2, n2_div (by omega) (by omega), n2_add, show 5 + (p - 21) / 4 = (p - 1) / 4 by omega]
    · rw [if_neg (by rw [n2_le (by omega) (by omega)]; exact e2), if_neg (show ¬ n2 4 = n2 0 by decide +kernel), n2_sub e1, n2_div (by omega) (by omega), n2_add, show 1 + (p - 5) / 4 = (p - 1) / 4 by omega]
  · rw [if_neg (by rw [n2_le (by omega) (by omega)]; exact e1), show (p - 1) / 4 = 0 by omega]
def bl8 : Nat → Nat → Nat → Bool
  | 0, _, _ => false
  | d + 1, q, p => if q = 0 then false else decide (par q = p) || bl8 d (par q) p
theorem bl8_blw : ∀ q, q < 85 → ∀ p, p < 85 → bl8 4 q p = blw q p := by decide +kernel
theorem par_lt8 {q : Nat} (h : q < 85) : par q < 85 := by unfold par; omega
theorem x8_below_l {p : Nat} (hp : p < 85) : ∀ (d f q : Nat), q < 85 → lev q ≤ d → d + 1 < f → fX8_isBelow_3 f (n2 p) (if q = 0 then -n2 1 else n2 (par q)) μ = some (n2 (bn (bl8 d q p)), 0, μ) := by
  intro d
  induction d with
  | zero =>
    intro f q hq hl hf
    obtain ⟨f', rfl⟩ : ∃ f', f = f' + 1 := ⟨f - 1, by omega⟩
    have e0 : q = 0 := by
      have := lev_par q hq
      apply Classical.byContradiction
      intro hc
      have := this (by omega)
      omega
    rw [if_pos e0, fX8_isBelow_3]
    dsimp only
    unfold fX8_isBelow_12
    rw [l_0, if_pos (by decide +kernel), if_pos (by decide +kernel), if_pos no_qz]
    rfl
  | succ d ih =>
    intro f q hq hl hf
    obtain ⟨f', rfl⟩ : ∃ f', f = f' + 1 := ⟨f - 1, by omega⟩
    simp only [bl8]
    by_cases e0 : q = 0
    · rw [if_pos e0, if_pos e0, fX8_isBelow_3]
      dsimp only
      unfold fX8_isBelow_12
      rw [l_0, if_pos (by decide +kernel), if_pos (by decide +kernel), if_pos no_qz]
      rfl
    · have hpq := par_lt8 hq
      have hlp : lev (par q) + 1 = lev q := lev_par q hq (by omega)
      rw [if_neg e0, if_neg e0, fX8_isBelow_3]
      dsimp only
      rw [l_0, if_neg (by rw [n2_nn (by omega)]; exact not_false)]
      by_cases e1 : par q = p
      · rw [if_pos (by rw [e1]), decide_eq_true e1]
        unfold fX8_isBelow_12
        rw [l_0, if_neg (by rw [n2_nn (by omega)]; exact not_false), l_1, if_pos yes_qz]
        rfl
      · rw [if_neg (by rw [n2_eq (by omega) (by omega)]; exact e1), decide_eq_false e1, x8_parent hpq, qbnd_s]
        dsimp only
        rw [Bool.false_or]
        exact ih f' (par q) hpq (by omega) (by omega)
theorem x8_isBelow {q p : Nat} (hq : q < 85) (hp : p < 85) : fX8_isBelow (n2 q) (n2 p) μ = some (n2 (bn (blw q p)), 0, μ) := by
  unfold fX8_isBelow
  rw [x8_parent hq, qbnd_s]
  dsimp only
  have := lev_le q
  rw [x8_below_l hp 4 qfu q hq (by omega) (by rw [qfu_eq]; omega), bl8_blw q hq p hp]
end S8A

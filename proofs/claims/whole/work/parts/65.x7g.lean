/-! PURE SIDE, THE CLASS: the shortest ring -/
/-- who comes to g in just so many steps -/
def wlk (s : St) (g : Nat) : Nat → Nat → Bool
  | 0, i => decide (i = g)
  | k + 1, i => (List.range 8).any fun j => wfr s i j && wlk s g k j
/-- the least number of steps to g, if it is less than n; else 8 -/
def dst (s : St) (g n i : Nat) : Nat := ((List.range n).find? fun k => wlk s g k i).getD 8
theorem dst_le (s : St) (g i : Nat) {n : Nat} (hn : n ≤ 8) : dst s g n i ≤ 8 := by
  unfold dst
  cases h : (List.range n).find? (fun k => wlk s g k i) with
  | none => exact Nat.le_refl 8
  | some k =>
    have := List.mem_range.mp (List.mem_of_find?_eq_some h)
    show k ≤ 8
    omega
theorem find_range {P : Nat → Bool} {n k : Nat} : (List.range n).find? P = some k ↔ k < n ∧ P k = true ∧ ∀ j, j < k → P j = false := by
  induction n with
  | zero => simp
  | succ n ih =>
    rw [List.range_succ, List.find?_append]
    cases hq : (List.range n).find? P with
    | some q =>
      rw [hq] at ih
      have h1 := List.find?_some hq
      have h2 := List.mem_range.mp (List.mem_of_find?_eq_some hq)
      have h3 := List.find?_eq_some_iff_append.mp hq
      simp only [Option.some_or]
      rw [ih]
      constructor
      · rintro ⟨a, b, d⟩
        exact ⟨by omega, b, d⟩
      · rintro ⟨a, b, d⟩
        refine ⟨?_, b, d⟩
        apply Classical.byContradiction
        intro hc
        have : k = n := by omega
        subst this
        have := d q h2
        simp [this] at h1
    | none =>
      rw [hq] at ih
      have h1 := List.find?_eq_none.mp hq
      simp only [Option.none_or, List.find?_cons, List.find?_nil]
      rcases bcs (P n) with e | e
      · rw [e]
        simp only [false_iff, reduceCtorEq]
        rintro ⟨a, b, d⟩
        by_cases e2 : k = n
        · subst e2
          rw [e] at b
          exact absurd b (by decide)
        · exact h1 k (List.mem_range.mpr (by omega)) b
      · rw [e]
        simp only [Option.some.injEq]
        constructor
        · rintro rfl
          refine ⟨by omega, e, fun j hj => ?_⟩
          have := h1 j (List.mem_range.mpr hj)
          simpa using this
        · rintro ⟨a, b, d⟩
          apply Classical.byContradiction
          intro hc
          have hk : k < n := by omega
          exact h1 k (List.mem_range.mpr hk) b
theorem find_range_n {P : Nat → Bool} {n : Nat} : (List.range n).find? P = none ↔ ∀ j, j < n → P j = false := by
  rw [List.find?_eq_none]
  constructor
  · intro h j hj
    have := h j (List.mem_range.mpr hj)
    simpa using this
  · intro h j hj
    have := h j (List.mem_range.mp hj)
    simp [this]
theorem dst_8 {s : St} {g i n : Nat} (hn : n ≤ 8) : dst s g n i = 8 ↔ ∀ k, k < n → wlk s g k i = false := by
  unfold dst
  cases h : (List.range n).find? (fun k => wlk s g k i) with
  | none => exact ⟨fun _ => find_range_n.mp h, fun _ => rfl⟩
  | some k =>
    have h2 := find_range.mp h
    refine ⟨fun e => ?_, fun e => ?_⟩
    · have e2 : k = 8 := e
      omega
    · have := e k h2.1
      rw [this] at h2
      exact absurd h2.2.1 (by decide)
theorem dst_k {s : St} {g i n k : Nat} (hk : k < 8) : dst s g n i = k ↔ k < n ∧ wlk s g k i = true ∧ ∀ j, j < k → wlk s g j i = false := by
  unfold dst
  cases h : (List.range n).find? (fun k => wlk s g k i) with
  | none =>
    refine ⟨fun e => ?_, fun e => ?_⟩
    · have e2 : 8 = k := e
      omega
    · have := find_range_n.mp h k e.1
      rw [this] at e
      exact absurd e.2.1 (by decide)
  | some q =>
    have hf := find_range (P := fun k => wlk s g k i) (n := n) (k := k)
    rw [h] at hf
    exact ⟨fun e => hf.mp (congrArg some e), fun e => Option.some.inj (hf.mpr e)⟩
theorem dst_s {s : St} {g i n : Nat} (hn : n < 8) : dst s g (n + 1) i = if dst s g n i = 8 ∧ wlk s g n i = true then n else dst s g n i := by
  by_cases e : dst s g n i = 8
  · by_cases e2 : wlk s g n i = true
    · rw [if_pos ⟨e, e2⟩, dst_k hn]
      exact ⟨by omega, e2, (dst_8 (by omega)).mp e⟩
    · rw [if_neg (fun z => e2 z.2), e, dst_8 (by omega)]
      intro k hk
      by_cases e3 : k = n
      · subst e3
        rcases bcs (wlk s g k i) with q | q
        · exact q
        · exact absurd q e2
      · exact (dst_8 (by omega)).mp e k (by omega)
  · rw [if_neg (fun z => e z.1)]
    have hle := dst_le s g i (show n ≤ 8 by omega)
    have h1 := (dst_k (s := s) (g := g) (i := i) (n := n) (show dst s g n i < 8 by omega)).mp rfl
    exact (dst_k (show dst s g n i < 8 by omega)).mpr ⟨by omega, h1.2⟩
/-- the nearest of those for whom one waits: the first that stands so far from g -/
def nrS (s : St) (D : Nat → Nat) (i w : Nat) : Option Nat := (List.range 8).find? fun j => wfr s i j && decide (D j = w)
theorem nr_walk {s : St} {g n i : Nat} (hn : n < 7) (h8 : dst s g (n + 1) i = 8) (f : Nat → Nat) (hf : ∀ j, j < 8 → (f j = n ↔ dst s g (n + 1) j = n)) : (nrS s f i n).isSome = wlk s g (n + 1) i := by
  have h0 := (dst_8 (s := s) (g := g) (i := i) (by omega)).mp h8
  cases h : nrS s f i n with
  | some j =>
    unfold nrS at h
    have h1 := find_range.mp h
    have h2 := h1.2.1
    simp at h2
    have h3 := (dst_k (by omega)).mp ((hf j h1.1).mp h2.2)
    symm
    show wlk s g (n + 1) i = true
    simp only [wlk]
    rw [List.any_eq_true]
    exact ⟨j, List.mem_range.mpr h1.1, by rw [h2.1, h3.2.1]; rfl⟩
  | none =>
    unfold nrS at h
    have h1 := find_range_n.mp h
    symm
    show wlk s g (n + 1) i = false
    rcases bcs (wlk s g (n + 1) i) with e | e
    · exact e
    · simp only [wlk] at e
      rw [List.any_eq_true] at e
      obtain ⟨j, j1, j2⟩ := e
      have j1 := List.mem_range.mp j1
      simp at j2
      have hd : ¬ dst s g (n + 1) j = n := by
        intro q
        have := h1 j j1
        rw [j2.1] at this
        simp at this
        exact this ((hf j j1).mpr q)
      rw [dst_k (by omega)] at hd
      exfalso
      apply hd
      refine ⟨by omega, j2.2, fun q hq => ?_⟩
      rcases bcs (wlk s g q j) with e | e
      · exact e
      · have : wlk s g (q + 1) i = true := by
          simp only [wlk]
          rw [List.any_eq_true]
          exact ⟨j, List.mem_range.mpr j1, by rw [j2.1, e]; rfl⟩
        rw [h0 (q + 1) (by omega)] at this
        exact absurd this (by decide)

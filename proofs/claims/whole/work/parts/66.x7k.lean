/-! PURE SIDE, THE CLASS: all steps to a ring's owner -/
theorem wlk_trans {s : St} {j k : Nat} : ∀ {a b o : Nat}, wlk s k a o = true → wlk s j b k = true → wlk s j (a + b) o = true
  | 0, b, o, h1, h2 => by
    simp [wlk] at h1
    subst h1
    rw [Nat.zero_add]
    exact h2
  | a + 1, b, o, h1, h2 => by
    simp only [wlk] at h1
    rw [List.any_eq_true] at h1
    obtain ⟨i, i1, i2⟩ := h1
    simp at i2
    rw [show a + 1 + b = (a + b) + 1 by omega]
    simp only [wlk]
    rw [List.any_eq_true]
    exact ⟨i, i1, by rw [i2.1, wlk_trans i2.2 h2]; rfl⟩
theorem wlk_one {s : St} {o j : Nat} (hj : j < 8) (h : wfr s o j = true) : wlk s j 1 o = true := by
  simp only [wlk]
  rw [List.any_eq_true]
  exact ⟨j, List.mem_range.mpr hj, by rw [h]; simp⟩
theorem wsh_wlk {s : St} {j : Nat} (hj : j < 8) : ∀ (k o : Nat), k ≤ 8 → wsh s k o j = true → ∃ n, wlk s j (n + 1) o = true := by
  have key : ∀ (k : Nat), k ≤ 8 → ∀ (o j : Nat), j < 8 → wsh s k o j = true → ∃ n, wlk s j (n + 1) o = true := by
    intro k
    induction k with
    | zero =>
      intro _ o j hj h
      exact ⟨0, wlk_one hj h⟩
    | succ k ih =>
      intro hk o j hj h
      simp only [wsh, Bool.or_eq_true, Bool.and_eq_true] at h
      rcases h with h | ⟨h1, h2⟩
      · exact ih (by omega) o j hj h
      · obtain ⟨a, ha⟩ := ih (by omega) o k (by omega) h1
        obtain ⟨b, hb⟩ := ih (by omega) k j hj h2
        exact ⟨a + 1 + b, wlk_trans (a := a + 1) (b := b + 1) ha hb⟩
  intro k o hk h
  exact key k hk o j hj h
theorem wsh_mono {s : St} {o j : Nat} : ∀ {k q : Nat}, k ≤ q → wsh s k o j = true → wsh s q o j = true := by
  intro k q h
  induction q with
  | zero =>
    intro h2
    obtain rfl : k = 0 := by omega
    exact h2
  | succ q ih =>
    intro h2
    by_cases e : k = q + 1
    · subst e; exact h2
    · simp only [wsh, Bool.or_eq_true]
      exact .inl (ih (by omega) h2)
theorem wsh_tr {s : St} : ∀ (k m o j : Nat), m < k → wsh s k o m = true → wsh s k m j = true → wsh s k o j = true := by
  intro k
  induction k with
  | zero => intro m o j h; omega
  | succ k ih =>
    intro m o j hm h1 h2
    simp only [wsh, Bool.or_eq_true, Bool.and_eq_true] at h1 h2 ⊢
    by_cases e : m = k
    · subst e
      have a1 : wsh s m o m = true := by
        rcases h1 with h | h
        · exact h
        · exact h.1
      have a2 : wsh s m m j = true := by
        rcases h2 with h | h
        · exact h
        · exact h.2
      exact .inr ⟨a1, a2⟩
    · have hm' : m < k := by omega
      rcases h1 with h1 | ⟨h1, h3⟩ <;> rcases h2 with h2 | ⟨h2, h4⟩
      · exact .inl (ih m o j hm' h1 h2)
      · exact .inr ⟨ih m o k hm' h1 h2, h4⟩
      · exact .inr ⟨h1, ih m k j hm' h3 h2⟩
      · exact .inr ⟨h1, h4⟩
theorem rch_of {s : St} {j : Nat} : ∀ (n o : Nat), o < 8 → wlk s j (n + 1) o = true → rch s o j = true := by
  intro n
  induction n with
  | zero =>
    intro o ho h
    simp only [wlk] at h
    rw [List.any_eq_true] at h
    obtain ⟨i, i1, i2⟩ := h
    simp at i2
    obtain ⟨i2, rfl⟩ := i2
    exact wsh_mono (k := 0) (by omega) i2
  | succ n ih =>
    intro o ho h
    have h2 : wlk s j ((n + 1) + 1) o = true := h
    simp only [wlk] at h2
    rw [List.any_eq_true] at h2
    obtain ⟨i, i1, i2⟩ := h2
    rw [Bool.and_eq_true] at i2
    have hi := List.mem_range.mp i1
    exact wsh_tr 8 i o j hi (wsh_mono (k := 0) (by omega) i2.1) (ih i hi i2.2)
theorem rch_wlk {s : St} {o j : Nat} (ho : o < 8) (hj : j < 8) : rch s o j = true ↔ ∃ n, wlk s j (n + 1) o = true :=
  ⟨fun h => wsh_wlk hj 8 o (Nat.le_refl 8) h, fun ⟨n, h⟩ => rch_of n o ho h⟩
/-- who comes to g in n + 1 steps at most -/
def rcn (s : St) (g n i : Nat) : Bool := (List.range (n + 1)).any fun k => wlk s g (k + 1) i
theorem rcn_iff {s : St} {g n i : Nat} : rcn s g n i = true ↔ ∃ k, k ≤ n ∧ wlk s g (k + 1) i = true := by
  unfold rcn
  rw [List.any_eq_true]
  constructor
  · rintro ⟨k, k1, k2⟩
    exact ⟨k, by have := List.mem_range.mp k1; omega, k2⟩
  · rintro ⟨k, k1, k2⟩
    exact ⟨k, List.mem_range.mpr (by omega), k2⟩
theorem bn_le1 (b : Bool) : bn b ≤ 1 := by cases b <;> decide
theorem bn_imp {a b : Bool} (h : a = true → b = true) : bn a ≤ bn b := by
  cases a with
  | false => exact Nat.zero_le _
  | true => rw [h rfl]; exact Nat.le_refl _
theorem cnt8_lt {P Q : Nat → Bool} (h : ∀ i, i < 8 → P i = true → Q i = true) {i : Nat} (hi : i < 8) (h1 : P i = false) (h2 : Q i = true) : cnt8 P + 1 ≤ cnt8 Q := by
  show 0 + bn (P 0) + bn (P 1) + bn (P 2) + bn (P 3) + bn (P 4) + bn (P 5) + bn (P 6) + bn (P 7) + 1 ≤ 0 + bn (Q 0) + bn (Q 1) + bn (Q 2) + bn (Q 3) + bn (Q 4) + bn (Q 5) + bn (Q 6) + bn (Q 7)
  have a0 := bn_imp (h 0 (by omega))
  have a1 := bn_imp (h 1 (by omega))
  have a2 := bn_imp (h 2 (by omega))
  have a3 := bn_imp (h 3 (by omega))
  have a4 := bn_imp (h 4 (by omega))
  have a5 := bn_imp (h 5 (by omega))
  have a6 := bn_imp (h 6 (by omega))
  have a7 := bn_imp (h 7 (by omega))
  have b1 : bn (P i) = 0 := by rw [h1]; rfl
  have b2 : bn (Q i) = 1 := by rw [h2]; rfl
  rcases (show i = 0 ∨ i = 1 ∨ i = 2 ∨ i = 3 ∨ i = 4 ∨ i = 5 ∨ i = 6 ∨ i = 7 by omega) with rfl | rfl | rfl | rfl | rfl | rfl | rfl | rfl <;> omega
theorem cnt8_pos {P : Nat → Bool} {i : Nat} (hi : i < 8) (h : P i = true) : 1 ≤ cnt8 P := by
  have := cnt8_lt (P := fun _ => false) (Q := P) (fun _ _ h => absurd h (by decide)) hi rfl h
  omega
theorem rcn_stable {s : St} {g m : Nat} (h : ∀ i, i < 8 → rcn s g (m + 1) i = true → rcn s g m i = true) : ∀ q i, i < 8 → wlk s g (q + 1) i = true → rcn s g m i = true := by
  intro q
  induction q with
  | zero => intro i hi h1; exact rcn_iff.mpr ⟨0, by omega, h1⟩
  | succ q ih =>
    intro i hi h1
    simp only [wlk] at h1
    rw [List.any_eq_true] at h1
    obtain ⟨j, j1, j2⟩ := h1
    rw [Bool.and_eq_true] at j2
    have hj := List.mem_range.mp j1
    have h3 : wlk s g (q + 1) j = true := by simp only [wlk]; exact j2.2
    obtain ⟨k, k1, k2⟩ := rcn_iff.mp (ih j hj h3)
    refine h i hi (rcn_iff.mpr ⟨k + 1, by omega, ?_⟩)
    show wlk s g (k + 1 + 1) i = true
    rw [wlk]
    rw [List.any_eq_true]
    exact ⟨j, j1, by rw [j2.1, k2]; rfl⟩
theorem rcn_7 {s : St} {g q i : Nat} (hi : i < 8) (h : wlk s g (q + 1) i = true) : ∃ k, k ≤ 7 ∧ wlk s g (k + 1) i = true := by
  have key : ∀ n, n ≤ 8 → (∃ m, m < n ∧ ∀ i, i < 8 → rcn s g (m + 1) i = true → rcn s g m i = true) ∨ n + 1 ≤ cnt8 (rcn s g n) ∨ (∀ i, i < 8 → rcn s g 0 i = false) := by
    intro n
    induction n with
    | zero =>
      intro _
      by_cases e : ∀ i, i < 8 → rcn s g 0 i = false
      · exact .inr (.inr e)
      · obtain ⟨i, e⟩ := Classical.not_forall.mp e
        obtain ⟨e1, e2⟩ := Classical.not_imp.mp e
        refine .inr (.inl (cnt8_pos e1 ?_))
        rcases bcs (rcn s g 0 i) with q | q
        · exact absurd q e2
        · exact q
    | succ n ih =>
      intro hn
      rcases ih (by omega) with ⟨m, m1, m2⟩ | h1 | h1
      · exact .inl ⟨m, by omega, m2⟩
      · by_cases e : ∀ i, i < 8 → rcn s g (n + 1) i = true → rcn s g n i = true
        · exact .inl ⟨n, by omega, e⟩
        · obtain ⟨i, e⟩ := Classical.not_forall.mp e
          obtain ⟨e1, e⟩ := Classical.not_imp.mp e
          obtain ⟨e2, e3⟩ := Classical.not_imp.mp e
          have e4 : rcn s g n i = false := by
            rcases bcs (rcn s g n i) with q | q
            · exact q
            · exact absurd q e3
          have := cnt8_lt (P := rcn s g n) (Q := rcn s g (n + 1)) (fun i hi h => by
            obtain ⟨k, k1, k2⟩ := rcn_iff.mp h
            exact rcn_iff.mpr ⟨k, by omega, k2⟩) e1 e4 e2
          exact .inr (.inl (by omega))
      · exact .inr (.inr h1)
  rcases key 8 (Nat.le_refl 8) with ⟨m, m1, m2⟩ | h1 | h1
  · obtain ⟨k, k1, k2⟩ := rcn_iff.mp (rcn_stable m2 q i hi h)
    exact ⟨k, by omega, k2⟩
  · have := cnt8_le (rcn s g 8)
    omega
  · have h2 := rcn_stable (s := s) (g := g) (m := 0) (fun i hi h3 => by
      obtain ⟨k, k1, k2⟩ := rcn_iff.mp h3
      rcases (show k = 0 ∨ k = 1 by omega) with rfl | rfl
      · exact rcn_iff.mpr ⟨0, by omega, k2⟩
      · have h4 : wlk s g (0 + 1 + 1) i = true := k2
        rw [wlk] at h4
        rw [List.any_eq_true] at h4
        obtain ⟨j, j1, j2⟩ := h4
        rw [Bool.and_eq_true] at j2
        have := h1 j (List.mem_range.mp j1)
        rw [rcn_iff.mpr ⟨0, by omega, j2.2⟩] at this
        exact absurd this (by decide)) q i hi h
    rw [h1 i hi] at h2
    exact absurd h2 (by decide)
/-- the shortest ring's length: one more than the least of those for whom one waits; 8 if none is less -/
def rgF (s : St) (g : Nat) (b j : Nat) : Nat := if wfr s g j = true ∧ dst s g 8 j < b then dst s g 8 j + 1 else b
def rgS (s : St) (g : Nat) : Nat := (List.range 8).foldl (rgF s g) 8
theorem rg_fold (s : St) (g : Nat) : ∀ k, k ≤ 8 → ((List.range k).foldl (rgF s g) 8 ≤ 8 ∧ 1 ≤ (List.range k).foldl (rgF s g) 8) ∧ (∀ j, j < k → wfr s g j = true → dst s g 8 j < 8 → (List.range k).foldl (rgF s g) 8 ≤ dst s g 8 j + 1) ∧ ((List.range k).foldl (rgF s g) 8 < 8 → ∃ j, j < 8 ∧ wfr s g j = true ∧ dst s g 8 j + 1 = (List.range k).foldl (rgF s g) 8) := by
  intro k
  induction k with
  | zero =>
    intro _
    refine ⟨⟨Nat.le_refl 8, by simp⟩, fun j hj => by omega, fun h => ?_⟩
    have h2 : 8 < 8 := h
    omega
  | succ k ih =>
    intro hk
    obtain ⟨⟨h0, h0'⟩, h1, h2⟩ := ih (by omega)
    rw [List.range_succ, List.foldl_append]
    simp only [List.foldl_cons, List.foldl_nil]
    generalize hb : (List.range k).foldl (rgF s g) 8 = b at h0 h0' h1 h2
    unfold rgF
    by_cases e : wfr s g k = true ∧ dst s g 8 k < b
    · rw [if_pos e]
      refine ⟨⟨by omega, by omega⟩, fun j hj h3 h4 => ?_, fun _ => ⟨k, by omega, e.1, rfl⟩⟩
      by_cases e2 : j = k
      · subst e2; omega
      · have := h1 j (by omega) h3 h4
        omega
    · rw [if_neg e]
      refine ⟨⟨h0, h0'⟩, fun j hj h3 h4 => ?_, h2⟩
      by_cases e2 : j = k
      · subst e2
        have : ¬ dst s g 8 j < b := fun q => e ⟨h3, q⟩
        omega
      · exact h1 j (by omega) h3 h4
/-- in a ring: there is one for whom it waits that stands just one step less -/
theorem rg_ring {s : St} {g : Nat} (hg : g < 8) (h : rch s g g = true) : 1 ≤ rgS s g ∧ rgS s g ≤ 8 ∧ wlk s g (rgS s g) g = true ∧ (∀ k, 1 ≤ k → k < rgS s g → wlk s g k g = false) ∧ ∃ j, j < 8 ∧ wfr s g j = true ∧ dst s g 8 j + 1 = rgS s g := by
  obtain ⟨⟨h0, h0'⟩, h1, h2⟩ := rg_fold s g 8 (Nat.le_refl 8)
  have hr : (List.range 8).foldl (rgF s g) 8 = rgS s g := rfl
  rw [hr] at h0 h0' h1 h2
  obtain ⟨n, hn⟩ := (rch_wlk hg hg).mp h
  obtain ⟨k, k1, k2⟩ := rcn_7 hg hn
  have step : ∀ k, k ≤ 7 → wlk s g (k + 1) g = true → ∃ j, j < 8 ∧ wfr s g j = true ∧ dst s g 8 j ≤ k := by
    intro k hk k2
    simp only [wlk] at k2
    rw [List.any_eq_true] at k2
    obtain ⟨j, j1, j2⟩ := k2
    rw [Bool.and_eq_true] at j2
    refine ⟨j, List.mem_range.mp j1, j2.1, ?_⟩
    apply Classical.byContradiction
    intro hc
    have hd := dst_le s g j (Nat.le_refl 8)
    by_cases e8 : dst s g 8 j = 8
    · have := (dst_8 (Nat.le_refl 8)).mp e8 k (by omega)
      rw [j2.2] at this
      exact absurd this (by decide)
    · have := ((dst_k (s := s) (g := g) (i := j) (n := 8) (show dst s g 8 j < 8 by omega)).mp rfl).2.2 k (by omega)
      rw [j2.2] at this
      exact absurd this (by decide)
  obtain ⟨j, j1, j2, j3⟩ := step k k1 k2
  have hex : ∃ j, j < 8 ∧ wfr s g j = true ∧ dst s g 8 j + 1 = rgS s g := by
    by_cases e : rgS s g < 8
    · exact h2 e
    · have := h1 j j1 j2 (by omega)
      exact ⟨j, j1, j2, by omega⟩
  obtain ⟨q, q1, q2, q3⟩ := hex
  refine ⟨h0', h0, ?_, fun k k1 k2 => ?_, q, q1, q2, q3⟩
  · have hw := ((dst_k (s := s) (g := g) (i := q) (n := 8) (show dst s g 8 q < 8 by omega)).mp rfl).2.1
    rw [← q3]
    simp only [wlk]
    rw [List.any_eq_true]
    exact ⟨q, List.mem_range.mpr q1, by rw [q2, hw]; rfl⟩
  · rcases bcs (wlk s g k g) with e | e
    · exact e
    · obtain ⟨k', rfl⟩ : ∃ k', k = k' + 1 := ⟨k - 1, by omega⟩
      obtain ⟨j, j1, j2, j3⟩ := step k' (by omega) e
      have := h1 j j1 j2 (by omega)
      omega
theorem nr_dst {s : St} {g i w : Nat} (hw : w < 7) (h : dst s g 8 i = w + 1) : ∃ j, nrS s (dst s g 8) i w = some j ∧ j < 8 ∧ dst s g 8 j = w := by
  have h1 := (dst_k (by omega)).mp h
  have h2 := h1.2.1
  simp only [wlk] at h2
  rw [List.any_eq_true] at h2
  obtain ⟨j, j1, j2⟩ := h2
  rw [Bool.and_eq_true] at j2
  have hj := List.mem_range.mp j1
  have hd : dst s g 8 j = w := by
    rw [dst_k (by omega)]
    refine ⟨by omega, j2.2, fun q hq => ?_⟩
    rcases bcs (wlk s g q j) with e | e
    · exact e
    · have h5 : wlk s g (q + 1) i = true := by
        simp only [wlk]
        rw [List.any_eq_true]
        exact ⟨j, j1, by rw [j2.1, e]; rfl⟩
      rw [h1.2.2 (q + 1) (by omega)] at h5
      exact absurd h5 (by decide)
  cases hn : nrS s (dst s g 8) i w with
  | none =>
    have := find_range_n.mp hn j hj
    rw [j2.1, hd] at this
    simp at this
  | some q =>
    have h6 := find_range.mp hn
    have h7 := h6.2.1
    simp at h7
    exact ⟨q, rfl, h6.1, h7.2⟩
/-- the way back to g, w steps from i -/
def pthS (s : St) (D : Nat → Nat) : Nat → Nat → List Nat
  | 0, _ => []
  | w + 1, i => (nrS s D i (w + 1)).getD 8 :: pthS s D w ((nrS s D i (w + 1)).getD 8)
theorem pth_len (s : St) (D : Nat → Nat) : ∀ w i, (pthS s D w i).length = w
  | 0, _ => rfl
  | w + 1, i => by rw [pthS, List.length_cons, pth_len s D w]

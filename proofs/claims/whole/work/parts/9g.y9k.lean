/-! PURE SIDE, THE REFERENCE: a rule as the class reads it, from some place on -/
def KR (tx : List Nat) (m p : Nat) (K : Kt) : Option Nat × Kt := krun ((tx.take m).drop p) K p
theorem KR_s {tx : List Nat} {m p : Nat} (hm : m ≤ tx.length) (hp : p < m) (K : Kt) : KR tx m p K = match kstep (tx.getD p 0) K with
    | none => (some p, K)
    | some K' => KR tx m (p + 1) K' := by
  unfold KR
  have hd : (tx.take m).drop p = tx.getD p 0 :: (tx.take m).drop (p + 1) := by
    have hlen : (tx.take m).length = m := by rw [List.length_take]; omega
    rw [List.drop_eq_getElem_cons (by omega)]
    congr 1
    rw [List.getElem_take, List.getD_eq_getElem?_getD, List.getElem?_eq_getElem (by omega)]
    rfl
  rw [hd]
  rfl
theorem KR_m {tx : List Nat} {m : Nat} (K : Kt) : KR tx m m K = (none, K) := by
  unfold KR
  rw [List.drop_eq_nil_of_le (by rw [List.length_take]; omega)]
  rfl
/-- where it goes wrong -/
def flt (m : Nat) (z : Option Nat × Kt) : Option Nat := match z.1 with
  | some q => some q
  | none => if z.2.2.2.2.2.2 = false ∨ 0 < z.2.2.2.1 then some m else none
theorem sttl_app {r : Nat} : ∀ (U P : List Nat), (∀ g ∈ U, r ≤ rkS g) → (∀ g P', P = g :: P' → rkS g < r) → sttl r (U ++ P) = (U.map itS, P)
  | [], P, _, h2 => by
    cases P with
    | nil => rfl
    | cons g P =>
      rw [List.nil_append, sttl, if_pos (h2 g P rfl)]
      rfl
  | g :: U, P, h1, h2 => by
    rw [List.cons_append, sttl, if_neg (by have := h1 g List.mem_cons_self; omega), sttl_app U P (fun x hx => h1 x (List.mem_cons_of_mem _ hx)) h2]
    rfl
theorem kB_none {Q PP : List Nat} {d n cm g : Nat} (h1 : isd g = true → n = 0 ∨ 3 ≤ n) (h2 : g = 41 → d = 0) (h3 : rkS g = 0 ∨ (rkS g = 1 ∧ cm.testBit d = true)) : kBehind g (Q, PP, d, n, cm, true) = none := by
  unfold kBehind
  dsimp only
  by_cases e1 : isd g = true
  · rw [if_pos e1, if_neg (by have := h1 e1; omega)]
  · rw [if_neg e1]
    by_cases e2 : g = 41
    · rw [if_pos e2, if_pos (h2 e2)]
    · rw [if_neg e2]
      by_cases e3 : rkS g = 0
      · rw [if_pos e3]
      · rw [if_neg e3]
        rcases h3 with h3 | h3
        · exact absurd h3 e3
        · rw [if_pos h3]
/-- digits behind digits -/
theorem num_KR {tx : List Nat} {m : Nat} (hm : m ≤ tx.length) {P : List Nat} {d cm : Nat} {Q : List Nat} : ∀ (D p v n : Nat), n + D = 3 → 1 ≤ n → ∃ n', KR tx m p (Q ++ [v], P, d, n, cm, true) = KR tx m (numS tx m D p v).2 (Q ++ [(numS tx m D p v).1], P, d, n', cm, true) ∧ (dgB tx m (numS tx m D p v).2 = true → 3 ≤ n') ∧ p ≤ (numS tx m D p v).2
  | 0, p, v, n, h, _ => ⟨n, rfl, fun _ => by omega, Nat.le_refl _⟩
  | D + 1, p, v, n, h, h1 => by
    simp only [numS]
    rcases bcs (dgB tx m p) with e | e
    · rw [e, if_neg Bool.false_ne_true]
      exact ⟨n, rfl, fun z => by dsimp only at z; rw [e] at z; exact absurd z (by decide), Nat.le_refl _⟩
    · have e' := e
      unfold dgB at e'
      rw [Bool.and_eq_true, decide_eq_true_eq] at e'
      have hi := isd_iff.mp e'.2
      obtain ⟨n', a1, a2, a3⟩ := num_KR hm (P := P) (d := d) (cm := cm) (Q := Q) D (p + 1) (10 * v + tx.getD p 0 - 48) (n + 1) (by omega) (by omega)
      rw [e, if_pos rfl]
      refine ⟨n', ?_, a2, by omega⟩
      rw [KR_s hm e'.1]
      have hk : kstep (tx.getD p 0) (Q ++ [v], P, d, n, cm, true) = some (Q ++ [10 * v + tx.getD p 0 - 48], P, d, n + 1, cm, true) := by
        unfold kstep kBehind
        dsimp only
        rw [if_pos rfl, if_pos e'.2, if_pos (by omega), List.dropLast_concat, List.getLastD_concat, show 10 * v + (tx.getD p 0 - 48) = 10 * v + tx.getD p 0 - 48 by omega]
      rw [hk]
      exact a1
theorem acts_ok : ∀ ρ, ρ < 3 → ∀ a, a < (strM (3 + ρ)).length → rkS ((strM (3 + ρ)).getD a 0) = ρ + 1 ∧ itS ((strM (3 + ρ)).getD a 0) = 2000 + a + [0, 3, 5].getD ρ 0 ∧ isd ((strM (3 + ρ)).getD a 0) = false ∧ (strM (3 + ρ)).getD a 0 ≠ 41 := by decide +kernel
theorem acts_no : ∀ ρ, ρ < 3 → ∀ g, g < 256 → rkS g = ρ + 1 → ∃ a, a < (strM (3 + ρ)).length ∧ (strM (3 + ρ)).getD a 0 = g := by decide +kernel
theorem asks_ok : ∀ a, a < (strM 2).length → liS ((strM 2).getD a 0) = a ∧ a < 7 ∧ isd ((strM 2).getD a 0) = false ∧ (strM 2).getD a 0 ≠ 45 ∧ (strM 2).getD a 0 ≠ 40 := by decide +kernel
theorem asks_no : ∀ g, g < 256 → liS g < 7 → ∃ a, a < (strM 2).length ∧ (strM 2).getD a 0 = g := by decide +kernel
theorem rk_256 : ∀ g, g < 256 → rkS g ≤ 3 := by decide +kernel
/-- how it went well -/
def Suc (tx : List Nat) (m ρ : Nat) (K : Kt) (p : Nat) (P : List Nat) (d cm p' : Nat) (C' : List Nat) : Prop := ∃ Q U n' cm', KR tx m p K = KR tx m p' (Q, U ++ P, d, n', cm', true) ∧ C' = Q ++ U.map itS ∧ (∀ g ∈ U, ρ + 1 ≤ rkS g) ∧ (dgB tx m p' = true → n' = 0 ∨ 3 ≤ n') ∧ (∀ j, j < d → cm'.testBit j = cm.testBit j) ∧ (1 ≤ ρ → cm'.testBit d = cm.testBit d) ∧ (p' < m → rkS (tx.getD p' 0) ≤ ρ ∨ (ρ = 0 ∧ rkS (tx.getD p' 0) = 1 ∧ cm'.testBit d = true))
theorem Suc.bh {tx : List Nat} {m : Nat} {K : Kt} {p d p' : Nat} {P C' : List Nat} {cm : Nat} (hm : m ≤ tx.length) (h : Suc tx m 0 K p P d cm p' C') (hp : p' ≤ m) (h41 : p' < m → tx.getD p' 0 = 41 → d = 0) (hd : p' = m → 0 < d) : flt m (KR tx m p K) = some p' := by
  obtain ⟨Q, U, n', cm', h1, h2, h3, h4, h5, h6, h7⟩ := h
  rw [h1]
  by_cases e : p' < m
  · rw [KR_s hm e]
    have : kstep (tx.getD p' 0) (Q, U ++ P, d, n', cm', true) = none := by
      unfold kstep
      rw [if_pos rfl]
      refine kB_none (fun z => h4 (by unfold dgB; rw [decide_eq_true e, z]; rfl)) (h41 e) ?_
      rcases h7 e with z | z
      · exact Or.inl (by omega)
      · exact Or.inr ⟨z.2.1, z.2.2⟩
    rw [this]
    rfl
  · have : p' = m := by omega
    subst this
    rw [KR_m]
    show (if (true = false ∨ 0 < d) then some p' else none) = some p'
    rw [if_pos (Or.inr (hd rfl))]
theorem toS_none {tx : List Nat} {m p j : Nat} (h : toS tx m p j = none) (hp : p < m) : ∀ a, a < (strM j).length → (strM j).getD a 0 ≠ tx.getD p 0 := by
  unfold toS at h
  rw [if_pos hp] at h
  intro a ha z
  have := find_range_n.mp h a ha
  rw [decide_eq_true z] at this
  exact absurd this (by decide)
theorem toS_some {tx : List Nat} {m p j a : Nat} (h : toS tx m p j = some a) : p < m ∧ a < (strM j).length ∧ (strM j).getD a 0 = tx.getD p 0 := by
  unfold toS at h
  by_cases e : p < m
  · rw [if_pos e] at h
    obtain ⟨h1, h2, -⟩ := find_range.mp h
    rw [decide_eq_true_eq] at h2
    exact ⟨e, h1, h2⟩
  · rw [if_neg e] at h
    cases h
theorem tkB_t {tx : List Nat} {m p g : Nat} : tkB tx m p g = true ↔ p < m ∧ tx.getD p 0 = g := by
  unfold tkB
  rw [Bool.and_eq_true, decide_eq_true_eq, decide_eq_true_eq]
theorem clrb_t {m d j : Nat} (hj : j < 8) : (clrb m d).testBit j = (!decide (d = j) && m.testBit j) := by
  unfold clrb
  rw [bits8_tb, decide_eq_true hj, Bool.true_and]

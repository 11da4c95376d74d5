/-! PURE SIDE, THE CLASS: reading a rule -/
def rkS (g : Nat) : Nat := if g = 42 then 3 else if g = 43 then 2 else if g = 45 then 2 else if g = 47 then 3 else if g = 60 then 1 else if g = 61 then 1 else if g = 62 then 1 else if g = 256 then 4 else 0
def liS (g : Nat) : Nat := if g = 119 then 0 else if g = 104 then 1 else if g = 97 then 2 else if g = 102 then 3 else if g = 105 then 4 else if g = 113 then 5 else if g = 120 then 6 else 7
/-- the item of a sign that was put off -/
def itS (g : Nat) : Nat := if g = 60 then 2000 else if g = 62 then 2001 else if g = 61 then 2002 else if g = 43 then 2003 else if g = 45 then 2004 else if g = 42 then 2005 else if g = 47 then 2006 else 3000
def pok (g : Nat) : Bool := [40, 42, 43, 45, 47, 60, 61, 62, 256].contains g
/-- what is settled of what was put off (the last first), and what stays -/
def sttl (r : Nat) : List Nat → List Nat × List Nat
  | [] => ([], [])
  | g :: P => if rkS g < r then ([], g :: P) else (itS g :: (sttl r P).1, (sttl r P).2)
abbrev Kt : Type := List Nat × List Nat × Nat × Nat × Nat × Bool
def clrb (m d : Nat) : Nat := bits8 fun j => !decide (d = j) && m.testBit j
def kThing (g : Nat) (K : Kt) : Option Kt :=
  if g = 45 then some (K.1, 256 :: K.2.1, K.2.2.1, K.2.2.2.1, K.2.2.2.2.1, false)
  else if g = 40 then (if K.2.2.1 < 4 then some (K.1, 40 :: K.2.1, K.2.2.1 + 1, K.2.2.2.1, clrb K.2.2.2.2.1 (K.2.2.1 + 1), false) else none)
  else if isd g = true then some (K.1 ++ [g - 48], K.2.1, K.2.2.1, 1, K.2.2.2.2.1, true)
  else if liS g < 7 then some (K.1 ++ [1000 + liS g], K.2.1, K.2.2.1, 0, K.2.2.2.2.1, true)
  else none
def kBehind (g : Nat) (K : Kt) : Option Kt :=
  if isd g = true then (if 1 ≤ K.2.2.2.1 ∧ K.2.2.2.1 ≤ 2 then some (K.1.dropLast ++ [10 * K.1.getLastD 0 + (g - 48)], K.2.1, K.2.2.1, K.2.2.2.1 + 1, K.2.2.2.2.1, true) else none)
  else if g = 41 then (if K.2.2.1 = 0 then none else some (K.1 ++ (sttl 1 K.2.1).1, (sttl 1 K.2.1).2.tail, K.2.2.1 - 1, 0, K.2.2.2.2.1, true))
  else if rkS g = 0 then none
  else if rkS g = 1 ∧ K.2.2.2.2.1.testBit K.2.2.1 = true then none
  else some (K.1 ++ (sttl (rkS g) K.2.1).1, g :: (sttl (rkS g) K.2.1).2, K.2.2.1, K.2.2.2.1, (if rkS g = 1 then K.2.2.2.2.1 ||| (1 <<< K.2.2.1) else K.2.2.2.2.1), false)
def kstep (g : Nat) (K : Kt) : Option Kt := if K.2.2.2.2.2 = true then kBehind g K else kThing g K
def krun : List Nat → Kt → Nat → Option Nat × Kt
  | [], K, _ => (none, K)
  | g :: l, K, p => match kstep g K with
    | none => (some p, K)
    | some K' => krun l K' (p + 1)
def k00 : Kt := ([], [], 0, 0, 0, false)
/-- where it goes wrong, or the rule's items -/
def rdS (tx : List Nat) : Option Nat × List Nat := match krun (tx.take 40) k00 0 with
  | (some p, _) => (some p, [])
  | (none, K) => if 40 < tx.length then (some 40, []) else if tx ≠ [] ∧ (K.2.2.2.2.2 = false ∨ 0 < K.2.2.1) then (some tx.length, []) else (none, K.1 ++ (sttl 1 K.2.1).1)
/-! what always holds while it reads -/
def hgt : List Nat → Nat → Option Nat
  | [], h => some h
  | x :: cs, h => if x = 3000 then (if 1 ≤ h then hgt cs h else none) else if 2000 ≤ x then (if x < 2007 ∧ 2 ≤ h then hgt cs (h - 1) else none) else if x < 1007 then hgt cs (h + 1) else none
def nbS (P : List Nat) : Nat := P.countP fun g => decide (g ≠ 40) && decide (g ≠ 256)
def cpS (P : List Nat) : Nat := P.countP fun g => decide (g = 40)
theorem hgt_app : ∀ (a b : List Nat) (h : Nat), hgt (a ++ b) h = (hgt a h).bind (hgt b)
  | [], b, h => rfl
  | x :: a, b, h => by
    simp only [List.cons_append, hgt]
    split
    · split
      · exact hgt_app a b h
      · rfl
    split
    · split
      · exact hgt_app a b (h - 1)
      · rfl
    split
    · exact hgt_app a b (h + 1)
    · rfl
theorem wfc_hgt : ∀ (cs : List Nat) (h : Nat), wfc cs h = true ↔ hgt cs h = some 1
  | [], h => by
    simp [wfc, hgt]
  | x :: cs, h => by
    simp only [wfc, hgt]
    by_cases e1 : x = 3000
    · rw [if_pos e1, if_pos e1]
      by_cases e2 : 1 ≤ h
      · rw [if_pos e2, decide_eq_true e2, Bool.true_and]
        exact wfc_hgt cs h
      · rw [if_neg e2, decide_eq_false e2, Bool.false_and]
        simp
    rw [if_neg e1, if_neg e1]
    by_cases e2 : 2000 ≤ x
    · rw [if_pos e2, if_pos e2]
      by_cases e3 : x < 2007 ∧ 2 ≤ h
      · rw [if_pos e3, decide_eq_true e3.1, decide_eq_true e3.2, Bool.true_and, Bool.true_and]
        exact wfc_hgt cs (h - 1)
      · rw [if_neg e3]
        by_cases e4 : x < 2007
        · rw [decide_eq_true e4, decide_eq_false (fun z => e3 ⟨e4, z⟩)]
          simp
        · rw [decide_eq_false e4]
          simp
    · rw [if_neg e2, if_neg e2]
      by_cases e3 : x < 1007
      · rw [if_pos e3, decide_eq_true e3, Bool.true_and]
        exact wfc_hgt cs (h + 1)
      · rw [if_neg e3, decide_eq_false e3, Bool.false_and]
        simp
theorem pok_9 {g : Nat} (h : pok g = true) : g = 40 ∨ g = 42 ∨ g = 43 ∨ g = 45 ∨ g = 47 ∨ g = 60 ∨ g = 61 ∨ g = 62 ∨ g = 256 := by
  simpa [pok] using h
theorem it_hgt {g : Nat} (h : pok g = true) (h2 : rkS g ≠ 0) (cs P : List Nat) : hgt (itS g :: cs) (nbS (g :: P) + 1) = hgt cs (nbS P + 1) := by
  have h3 : nbS (g :: P) = nbS P + (if g ≠ 40 ∧ g ≠ 256 then 1 else 0) := by
    unfold nbS
    rw [List.countP_cons]
    by_cases e1 : g = 40 <;> by_cases e2 : g = 256 <;> simp [e1, e2]
  rw [h3]
  rcases pok_9 h with rfl | rfl | rfl | rfl | rfl | rfl | rfl | rfl | rfl
  · exact absurd rfl h2
  all_goals simp [itS, hgt]
theorem hgt_sttl (r : Nat) : ∀ P : List Nat, 1 ≤ r → (∀ g ∈ P, pok g = true) → hgt (sttl r P).1 (nbS P + 1) = some (nbS (sttl r P).2 + 1)
  | [], _, _ => rfl
  | g :: P, hr, h => by
    simp only [sttl]
    by_cases e : rkS g < r
    · rw [if_pos e]
      rfl
    · rw [if_neg e, it_hgt (h g (List.mem_cons_self ..)) (by omega)]
      exact hgt_sttl r P hr fun q hq => h q (List.mem_cons_of_mem g hq)
theorem sttl_mem (r : Nat) : ∀ P : List Nat, ∀ g ∈ (sttl r P).2, g ∈ P
  | [], g, h => h
  | q :: P, g, h => by
    simp only [sttl] at h
    split at h
    · exact h
    · exact List.mem_cons_of_mem q (sttl_mem r P g h)
theorem sttl_len (r : Nat) : ∀ P : List Nat, (sttl r P).1.length + (sttl r P).2.length = P.length
  | [] => rfl
  | q :: P => by
    simp only [sttl]
    split
    · simp
    · have := sttl_len r P
      simp only [List.length_cons]
      omega
theorem sttl_cp (r : Nat) (hr : 1 ≤ r) : ∀ P : List Nat, cpS (sttl r P).2 = cpS P
  | [] => rfl
  | q :: P => by
    simp only [sttl]
    by_cases e : rkS q < r
    · rw [if_pos e]
    · have h40 : q ≠ 40 := by
        intro z
        subst z
        exact e (by rw [show rkS 40 = 0 from rfl]; omega)
      rw [if_neg e]
      have := sttl_cp r hr P
      unfold cpS at this ⊢
      rw [List.countP_cons]
      simp [h40, this]
theorem sttl_1 : ∀ P : List Nat, (∀ g ∈ P, pok g = true) → (sttl 1 P).2 = [] ∧ cpS P = 0 ∨ ∃ Q, (sttl 1 P).2 = 40 :: Q
  | [], _ => .inl ⟨rfl, rfl⟩
  | q :: P, h => by
    simp only [sttl]
    by_cases e : rkS q < 1
    · rw [if_pos e]
      refine .inr ⟨P, ?_⟩
      rcases pok_9 (h q (List.mem_cons_self ..)) with rfl | rfl | rfl | rfl | rfl | rfl | rfl | rfl | rfl
      · rfl
      all_goals exact absurd e (by decide)
    · rw [if_neg e]
      have h40 : q ≠ 40 := by
        intro z
        subst z
        exact e (by decide)
      rcases sttl_1 P (fun g hg => h g (List.mem_cons_of_mem q hg)) with ⟨h1, h2⟩ | ⟨Q, h1⟩
      · refine .inl ⟨h1, ?_⟩
        unfold cpS at h2 ⊢
        rw [List.countP_cons]
        simp [h40, h2]
      · exact .inr ⟨Q, h1⟩
def KI (p : Nat) (K : Kt) : Prop := K.1.length + K.2.1.length ≤ p ∧ K.2.2.1 ≤ 4 ∧ K.2.2.2.1 ≤ 3 ∧ (1 ≤ K.2.2.2.1 → K.2.2.2.2.2 = true → ∃ C v, K.1 = C ++ [v] ∧ v < 10 ^ K.2.2.2.1) ∧ (∀ g ∈ K.2.1, pok g = true) ∧ K.2.2.2.2.1 < 256 ∧ cpS K.2.1 = K.2.2.1 ∧ hgt K.1 0 = some (nbS K.2.1 + bn K.2.2.2.2.2)
theorem ki_0 : KI 0 k00 := by
  refine ⟨Nat.le_refl 0, Nat.zero_le _, Nat.zero_le _, fun h => absurd h (by decide), fun g h => absurd h (by simp [k00]), by decide, rfl, rfl⟩
theorem it_pok : ∀ g, g < 256 → rkS g ≠ 0 → pok g = true ∧ rkS g ≤ 3 ∧ nbS [g] = 1 ∧ g ≠ 40 := by decide +kernel
theorem nb_cons (g : Nat) (P : List Nat) : nbS (g :: P) = nbS P + nbS [g] := by
  unfold nbS
  rw [List.countP_cons, List.countP_cons, List.countP_nil, Nat.zero_add]
theorem cp_cons (g : Nat) (P : List Nat) : cpS (g :: P) = cpS P + cpS [g] := by
  unfold cpS
  rw [List.countP_cons, List.countP_cons, List.countP_nil, Nat.zero_add]
theorem ki_s {p g : Nat} {K K' : Kt} (h : KI p K) (hg : g < 256) (hs : kstep g K = some K') : KI (p + 1) K' := by
  obtain ⟨code, pend, d, dg, cm, bh⟩ := K
  obtain ⟨h1, h2, h3, h4, h5, h6, h7, h8⟩ := h
  dsimp only at h1 h2 h3 h4 h5 h6 h7 h8
  unfold kstep at hs
  dsimp only at hs
  cases bh with
  | false =>
    rw [if_neg (by decide)] at hs
    unfold kThing at hs
    dsimp only at hs
    by_cases e1 : g = 45
    · rw [if_pos e1] at hs
      obtain rfl := Option.some.inj hs
      refine ⟨by simp; omega, h2, h3, fun _ z => absurd (show false = true from z) (by decide), fun q hq => ?_, h6, ?_, ?_⟩
      · rcases List.mem_cons.mp hq with rfl | hq
        · decide
        · exact h5 q hq
      · rw [cp_cons]; exact h7
      · rw [nb_cons]; exact h8
    rw [if_neg e1] at hs
    by_cases e2 : g = 40
    · rw [if_pos e2] at hs
      by_cases e3 : d < 4
      · rw [if_pos e3] at hs
        obtain rfl := Option.some.inj hs
        refine ⟨by simp; omega, by dsimp only; omega, h3, fun _ z => absurd (show false = true from z) (by decide), fun q hq => ?_, show clrb cm (d + 1) < 256 from bits8_lt _, ?_, ?_⟩
        · rcases List.mem_cons.mp hq with rfl | hq
          · decide
          · exact h5 q hq
        · show cpS (40 :: pend) = d + 1
          rw [cp_cons, h7]
          rfl
        · rw [nb_cons]; exact h8
      · rw [if_neg e3] at hs
        exact absurd hs (by simp)
    rw [if_neg e2] at hs
    by_cases e3 : isd g = true
    · rw [if_pos e3] at hs
      obtain rfl := Option.some.inj hs
      have hd : 48 ≤ g ∧ g ≤ 57 := by
        unfold isd at e3
        rw [Bool.and_eq_true, decide_eq_true_eq, decide_eq_true_eq] at e3
        exact e3
      refine ⟨by simp; omega, h2, by dsimp only; omega, fun _ _ => ⟨code, g - 48, rfl, by dsimp only; omega⟩, h5, h6, h7, ?_⟩
      show hgt (code ++ [g - 48]) 0 = some (nbS pend + 1)
      rw [hgt_app, h8]
      show hgt [g - 48] (nbS pend + 0) = _
      simp only [hgt]
      rw [if_neg (by omega), if_neg (by omega), if_pos (by omega)]
    rw [if_neg e3] at hs
    by_cases e4 : liS g < 7
    · rw [if_pos e4] at hs
      obtain rfl := Option.some.inj hs
      refine ⟨by simp; omega, h2, by dsimp only; omega, fun z => absurd z (by dsimp only; omega), h5, h6, h7, ?_⟩
      show hgt (code ++ [1000 + liS g]) 0 = some (nbS pend + 1)
      rw [hgt_app, h8]
      show hgt [1000 + liS g] (nbS pend + 0) = _
      simp only [hgt]
      rw [if_neg (by omega), if_neg (by omega), if_pos (by omega)]
    · rw [if_neg e4] at hs
      exact absurd hs (by simp)
  | true =>
    rw [if_pos rfl] at hs
    unfold kBehind at hs
    dsimp only at hs
    by_cases e1 : isd g = true
    · rw [if_pos e1] at hs
      by_cases e2 : 1 ≤ dg ∧ dg ≤ 2
      · rw [if_pos e2] at hs
        obtain rfl := Option.some.inj hs
        have hd : 48 ≤ g ∧ g ≤ 57 := by
          unfold isd at e1
          rw [Bool.and_eq_true, decide_eq_true_eq, decide_eq_true_eq] at e1
          exact e1
        obtain ⟨C, v, c1, c2⟩ := h4 e2.1 rfl
        subst c1
        have hv : v < 100 := by
          rcases (show dg = 1 ∨ dg = 2 by omega) with z | z <;> rw [z] at c2 <;> omega
        have e5 : (C ++ [v]).dropLast ++ [10 * (C ++ [v]).getLastD 0 + (g - 48)] = C ++ [10 * v + (g - 48)] := by simp
        rw [e5]
        refine ⟨by simp at h1 ⊢; omega, h2, by dsimp only; omega, fun _ _ => ⟨C, 10 * v + (g - 48), rfl, ?_⟩, h5, h6, h7, ?_⟩
        · show 10 * v + (g - 48) < 10 ^ (dg + 1)
          rw [Nat.pow_succ]
          omega
        · rw [hgt_app] at h8
          show hgt (C ++ [10 * v + (g - 48)]) 0 = some (nbS pend + 1)
          rw [hgt_app]
          cases hc : hgt C 0 with
          | none => rw [hc] at h8; exact absurd h8 (by simp)
          | some k =>
            rw [hc] at h8
            have h9 : hgt [v] k = some (nbS pend + 1) := h8
            simp only [hgt] at h9
            rw [if_neg (by omega), if_neg (by omega), if_pos (by omega)] at h9
            show hgt [10 * v + (g - 48)] k = _
            simp only [hgt]
            rw [if_neg (by omega), if_neg (by omega), if_pos (by omega)]
            exact h9
      · rw [if_neg e2] at hs
        exact absurd hs (by simp)
    rw [if_neg e1] at hs
    have hsl := fun r => sttl_len r pend
    by_cases e2 : g = 41
    · rw [if_pos e2] at hs
      by_cases e3 : d = 0
      · rw [if_pos e3] at hs
        exact absurd hs (by simp)
      · rw [if_neg e3] at hs
        obtain rfl := Option.some.inj hs
        rcases sttl_1 pend h5 with ⟨z1, z2⟩ | ⟨Q, z1⟩
        · omega
        have hh := hgt_sttl 1 pend (Nat.le_refl 1) h5
        have hcp := sttl_cp 1 (Nat.le_refl 1) pend
        have hl := hsl 1
        rw [z1] at hh hcp hl
        rw [cp_cons] at hcp
        rw [nb_cons] at hh
        have c40 : cpS [40] = 1 := rfl
        have n40 : nbS [40] = 0 := rfl
        rw [z1, List.tail_cons]
        refine ⟨?_, by dsimp only; omega, by dsimp only; omega, fun z => absurd z (by dsimp only; omega), fun q hq => ?_, h6, by dsimp only; omega, ?_⟩
        · simp at hl ⊢
          omega
        · exact h5 q (sttl_mem 1 pend q (by rw [z1]; exact List.mem_cons_of_mem _ hq))
        · show hgt (code ++ (sttl 1 pend).1) 0 = some (nbS Q + 1)
          rw [hgt_app, h8]
          show hgt (sttl 1 pend).1 (nbS pend + 1) = _
          rw [hh, n40]
    rw [if_neg e2] at hs
    by_cases e3 : rkS g = 0
    · rw [if_pos e3] at hs
      exact absurd hs (by simp)
    rw [if_neg e3] at hs
    by_cases e4 : rkS g = 1 ∧ cm.testBit d = true
    · rw [if_pos e4] at hs
      exact absurd hs (by simp)
    rw [if_neg e4] at hs
    obtain rfl := Option.some.inj hs
    obtain ⟨p1, p2, p3, p4⟩ := it_pok g hg e3
    have hh := hgt_sttl (rkS g) pend (by omega) h5
    have hcp := sttl_cp (rkS g) (by omega) pend
    have hl := hsl (rkS g)
    refine ⟨by simp; omega, h2, h3, fun _ z => absurd (show false = true from z) (by decide), fun q hq => ?_, ?_, ?_, ?_⟩
    · rcases List.mem_cons.mp hq with rfl | hq
      · exact p1
      · exact h5 q (sttl_mem _ _ q hq)
    · show (if rkS g = 1 then cm ||| (1 <<< d) else cm) < 256
      split
      · refine Nat.or_lt_two_pow (n := 8) h6 ?_
        have : ∀ d, d < 5 → 1 <<< d < 2 ^ 8 := by decide
        exact this d (by omega)
      · exact h6
    · show cpS (g :: (sttl (rkS g) pend).2) = d
      rw [cp_cons, hcp, h7]
      have : cpS [g] = 0 := by
        unfold cpS
        simp [p4]
      omega
    · show hgt (code ++ (sttl (rkS g) pend).1) 0 = some (nbS (g :: (sttl (rkS g) pend).2) + 0)
      rw [hgt_app, h8, nb_cons, p3]
      exact hh

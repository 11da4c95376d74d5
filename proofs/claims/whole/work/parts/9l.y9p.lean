/-! PURE SIDE, THE REFERENCE: an act read, an act done -/
theorem sg_ok : ∀ a, a < 8 → digsS ((strM 6).getD a 0) = some ([0, 1, 1, 1, 2, 3, 3, 4].getD a 0) := by decide +kernel
theorem sg_no : ∀ g, g < 256 → digsS g ≠ none → ∃ a, a < (strM 6).length ∧ (strM 6).getD a 0 = g := by decide +kernel
theorem sg_len : (strM 6).length = 8 := rfl
/-- an act as it was read -/
def AE (I : Nat → Nat → Int32) (tx : List Nat) (k q : Nat) : Prop := ∃ sg, sg < 8 ∧ (strM 6).getD sg 0 = tx.getD q 0 ∧ I 221 k = n2 sg ∧ (1 ≤ sg → I 222 k = n2 (digN tx (q + 1))) ∧ (sg = 4 → I 223 k = n2 (digN tx (q + 2))) ∧ (5 ≤ sg → I 223 k = n2 (10 * digN tx (q + 2) + digN tx (q + 3))) ∧ (sg = 7 → I 224 k = n2 (digN tx (q + 4)))
theorem AE.on {I I' : Nat → Nat → Int32} {tx : List Nat} {k q : Nat} (h : AE I tx k q) (f : ∀ b, b = 221 ∨ b = 222 ∨ b = 223 ∨ b = 224 → I' b k = I b k) : AE I' tx k q := by
  obtain ⟨sg, h1, h2, h3, h4, h5, h6, h7⟩ := h
  exact ⟨sg, h1, h2, (f _ (by omega)).trans h3, fun z => (f _ (by omega)).trans (h4 z), fun z => (f _ (by omega)).trans (h5 z), fun z => (f _ (by omega)).trans (h6 z), fun z => (f _ (by omega)).trans (h7 z)⟩
theorem wid_d {tx : List Nat} {d p : Nat} (hd : 1 ≤ d) (hp : p ≤ tx.length) : widS tx (tx.length - p) d p = if dgB tx tx.length p = true then widS tx (tx.length - (p + 1)) (d - 1) (p + 1) else some p := by
  by_cases e : p < tx.length
  · rw [show tx.length - p = (tx.length - (p + 1)) + 1 by omega, widS, if_neg (by omega)]
    unfold dgB
    rw [decide_eq_true e, Bool.true_and]
  · rw [show tx.length - p = 0 by omega, widS, if_neg (by omega)]
    unfold dgB
    rw [decide_eq_false e, Bool.false_and, if_neg Bool.false_ne_true]
theorem digN_b {tx : List Nat} {m p : Nat} (h : dgB tx m p = true) : tx.getD p 0 - 48 = digN tx p := by
  unfold dgB at h
  rw [Bool.and_eq_true] at h
  unfold digN
  rw [if_pos h.2]
def Fa (k : Nat) (I I' : Nat → Nat → Int32) : Prop := ∀ b i, ¬ ((b = 221 ∨ b = 222 ∨ b = 223 ∨ b = 224) ∧ i = k) → ¬ (b = 210 ∧ (i = 5 ∨ i = 24)) → I' b i = I b i
theorem Fa.trans {k : Nat} {I I1 I2 : Nat → Nat → Int32} (h1 : Fa k I I1) (h2 : Fa k I1 I2) : Fa k I I2 := fun b i h h3 => (h2 b i h h3).trans (h1 b i h h3)
theorem Ft.fa {k : Nat} {I I' : Nat → Nat → Int32} (h : Ft I I') : Fa k I I' := fun b i _ h2 => h b i (by omega)
theorem Fa.up {k : Nat} {I : Nat → Nat → Int32} {b : Nat} {x : Int32} (h : b = 221 ∨ b = 222 ∨ b = 223 ∨ b = 224) : Fa k I (upI I b k x) := fun a j h1 _ => by
  by_cases e : a = b
  · rw [e]; exact upI_ni (fun z => h1 ⟨by omega, z⟩)
  · exact upI_ne e
theorem Fa.s {k : Nat} {I I' : Nat → Nat → Int32} (h : Fa k I I') : Fs I I' := fun b i _ _ _ _ _ h1 h2 h3 h4 _ _ hb => h b i (by omega) (by omega)
section S9P
variable {I I' : Nat → Nat → Int32} {L : Nat → Nat → Int64} {c t r N T n : Nat} {s s' s0 : St} {μ : qM} {h : List St} {kp : Nat → Option St} {tx : List Nat} {row : List Int64} {cs : List Nat} {m p : Nat}
theorem x8_twoD (hR : Rg I tx m p) : ∃ I', fX8_two 210 (mk I L c t) = some (if dgB tx m p = true ∧ dgB tx m (p + 1) = true then n2 (10 * digN tx p + digN tx (p + 1)) else -n2 1, 0, mk I' L c t) ∧ Rg I' tx m (if dgB tx m p = true then (if dgB tx m (p + 1) = true then p + 2 else p + 1) else p) ∧ Ft I I' := by
  obtain ⟨I1, a1, a2, a3⟩ := x8_number1 (L := L) (c := c) (t := t) hR
  unfold fX8_two
  rw [if_pos (by rw [kk_210])]
  unfold gX8_two
  rw [l_1, a1, qbnd_s]
  dsimp only
  unfold fX8_two_11
  rw [l_0, l_1, l_10]
  rcases bcs (dgB tx m p) with e | e
  · rw [e, if_neg Bool.false_ne_true] at a2
    rw [e, if_neg Bool.false_ne_true, if_neg (show ¬ n2 0 ≤ -n2 1 by decide), if_neg (show ¬ n2 0 ≤ -n2 1 by decide), if_neg (fun z => absurd z.1 (by decide)), if_neg Bool.false_ne_true]
    exact ⟨I1, rfl, a2, a3⟩
  · rw [e, if_pos rfl] at a2
    have hd := digN_le tx p
    have hd1 := digN_le tx (p + 1)
    rw [e, if_pos rfl, digN_b e, if_pos (by rw [n2_le (by omega) (by omega)]; omega)]
    obtain ⟨I2, b1, b2, b3⟩ := x8_number1 (L := L) (c := c) (t := t) a2
    rw [b1, qbnd_s]
    dsimp only
    rcases bcs (dgB tx m (p + 1)) with e2 | e2
    · rw [e2, if_neg Bool.false_ne_true] at b2
      rw [e2, if_neg Bool.false_ne_true, if_neg (show ¬ n2 0 ≤ -n2 1 by decide), if_neg (fun z => absurd z.2 (by decide)), if_pos rfl, if_neg Bool.false_ne_true]
      exact ⟨I2, rfl, b2, a3.trans b3⟩
    · rw [e2, if_pos rfl] at b2
      rw [e2, if_pos rfl, digN_b e2, if_pos (by rw [n2_le (by omega) (by omega)]; omega), if_pos ⟨rfl, rfl⟩, if_pos rfl, if_pos rfl, n2_mul, n2_add]
      exact ⟨I2, rfl, b2, a3.trans b3⟩
theorem Rg.ar (h : Rg I tx m p) {b k : Nat} {x : Int32} (hb : b = 221 ∨ b = 222 ∨ b = 223 ∨ b = 224) : Rg (upI I b k x) tx m p := h.on (fun i => upI_ne (by omega)) (upI_ne (by omega)) (upI_ne (by omega))
theorem nsx {v : Nat} (h : v < 2147483648) : ¬ n2 v < n2 0 := by rw [n2_nn h]; exact not_false
theorem x8_ra48 {k : Nat} (hk : k < 80) : fX8_readsAct_48 210 (n2 k) (mk I L c t) = some (if I 222 k < n2 0 then n2 0 else n2 1, 0, mk I L c t) := by
  unfold fX8_readsAct_48
  rw [g210_21, qbnd_s, ld222 hk, qbnd_s, l_0, l_1, if_pos no_qz, if_pos yes_qz]
  by_cases e : I 222 k < n2 0
  · rw [if_pos e, if_pos e]
  · rw [if_neg e, if_neg e]
theorem x8_ra84 {k : Nat} (hk : k < 80) : fX8_readsAct_84 210 (n2 k) (mk I L c t) = some (if I 223 k < n2 0 then n2 0 else n2 1, 0, mk I L c t) := by
  unfold fX8_readsAct_84
  rw [g210_22, qbnd_s, ld223 hk, qbnd_s, l_0, l_1, if_pos no_qz, if_pos yes_qz]
  by_cases e : I 223 k < n2 0
  · rw [if_pos e, if_pos e]
  · rw [if_neg e, if_neg e]
/-- the second number's end -/
theorem x8_ra72 {k q sg : Nat} {v : Int32} (hk : k < 80) (hR : Rg I tx m q) (hsg : sg < 8) (h221 : I 221 k = n2 sg) : ∃ I' q' ok, fX8_readsAct_72 210 (n2 k) v (n2 k) 223 (mk I L c t) = some (n2 (bn ok), 0, mk I' L c t) ∧ Rg I' tx m q' ∧ Fa k I I' ∧ I' 210 24 = I 210 24 ∧ I' 221 k = n2 sg ∧ I' 222 k = I 222 k ∧ I' 223 k = v ∧ (v < n2 0 → ok = false ∧ q' = q) ∧ (¬ v < n2 0 → sg ≠ 7 → ok = true ∧ q' = q) ∧ (¬ v < n2 0 → sg = 7 → (ok = dgB tx m q ∧ q' = if dgB tx m q = true then q + 1 else q) ∧ (ok = true → I' 224 k = n2 (digN tx q))) := by
  obtain ⟨J, hJ⟩ : ∃ J, upI I 223 k v = J := ⟨_, rfl⟩
  have hRJ : Rg J tx m q := by rw [← hJ]; exact hR.ar (by omega)
  have hJ3 : J 223 k = v := by rw [← hJ, upI_eq]
  have hJF : ∀ b i, b ≠ 223 → J b i = I b i := fun b i hb => by rw [← hJ]; exact upI_ne hb
  have hJa : Fa k I J := by rw [← hJ]; exact .up (by omega)
  have h1J : J 221 k = n2 sg := (hJF _ _ (by omega)).trans h221
  have e84 := x8_ra84 (I := J) (L := L) (c := c) (t := t) hk
  rw [hJ3] at e84
  unfold fX8_readsAct_72
  rw [sd223 hk, qbnd_s, hJ, g210_22, qbnd_s, ld223 hk, qbnd_s, hJ3, l_0, l_1, l_7, g210_20, qbnd_s, ld221 hk, qbnd_s, h1J]
  by_cases e : v < n2 0
  · rw [if_pos e] at e84 ⊢
    exact ⟨J, q, false, e84, hRJ, hJa, hJF _ _ (by omega), h1J, hJF _ _ (by omega), hJ3, fun _ => ⟨rfl, rfl⟩, fun z => absurd e z, fun z => absurd e z⟩
  · rw [if_neg e] at e84 ⊢
    by_cases e7 : sg = 7
    · rw [if_pos (by rw [n2_le (by omega) (by omega)]; omega), g210_23, qbnd_s]
      obtain ⟨I2, b1, b2, b3⟩ := x8_number1 (L := L) (c := c) (t := t) hRJ
      have hd := digN_le tx q
      obtain ⟨x, hx⟩ : ∃ x, (if dgB tx m q = true then n2 (tx.getD q 0 - 48) else -n2 1) = x := ⟨_, rfl⟩
      rw [hx] at b1
      have k1 : ∀ b i, b ≠ 224 → ¬ (b = 210 ∧ i = 5) → (upI I2 224 k x) b i = J b i := fun b i h1 h2 => by rw [upI_ne h1]; exact b3 b i h2
      refine ⟨upI I2 224 k x, (if dgB tx m q = true then q + 1 else q), dgB tx m q, ?_, b2.ar (by omega), (hJa.trans b3.fa).trans (.up (by omega)), (k1 _ _ (by omega) (by omega)).trans (hJF _ _ (by omega)), (k1 _ _ (by omega) (by omega)).trans h1J, (k1 _ _ (by omega) (by omega)).trans (hJF _ _ (by omega)), (k1 _ _ (by omega) (by omega)).trans hJ3, fun z => absurd z e, fun _ z => absurd e7 z, fun _ _ => ⟨⟨rfl, rfl⟩, fun z => by rw [upI_eq, ← hx, if_pos z, digN_b z]⟩⟩
      rw [b1, qbnd_s]
      dsimp only
      rw [sd224 hk, qbnd_s, g210_23, qbnd_s, ld224 hk, qbnd_s, upI_eq, if_pos no_qz, if_pos yes_qz]
      rcases bcs (dgB tx m q) with f | f
      · rw [f, if_neg Bool.false_ne_true] at hx
        rw [f, ← hx, if_pos (show -n2 1 < n2 0 by decide)]
        rfl
      · rw [f, if_pos rfl, digN_b f] at hx
        rw [f, ← hx, if_neg (nsx (by omega))]
        rfl
    · rw [if_neg (by rw [n2_le (by omega) (by omega)]; omega)]
      exact ⟨J, q, true, e84, hRJ, hJa, hJF _ _ (by omega), h1J, hJF _ _ (by omega), hJ3, fun z => absurd z e, fun _ _ => ⟨rfl, rfl⟩, fun _ z => absurd z e7⟩
theorem x8_readsAct (hm : m = tx.length) (hR : Rg I tx m p) (hp : p < m) {k : Nat} (hk : k < 80) (h24 : I 210 24 = n2 k) : ∃ I' p' ok, fX8_readsAct 210 (mk I L c t) = some (n2 (bn ok), 0, mk I' L c t) ∧ Rg I' tx m p' ∧ Fa k I I' ∧ I' 210 24 = n2 (k + 1) ∧ (ok = true → p' = p + (1 + (digsS (tx.getD p 0)).getD 0) ∧ widS tx (m - p) 0 p = widS tx (m - p') 0 p' ∧ AE I' tx k p) ∧ (ok = false → widS tx (m - p) 0 p = some p') := by
  have hch := (hR.1 p (by omega)).2
  obtain ⟨I1, a1, a2, a3⟩ := x8_takesOf (L := L) (c := c) (t := t) hR (j := 6) (by omega)
  obtain ⟨J, hJ⟩ : ∃ J, upI (upI I1 221 k (oi (toS tx m p 6))) 210 24 (n2 (k + 1)) = J := ⟨_, rfl⟩
  have hJ1 : J 221 k = oi (toS tx m p 6) := by rw [← hJ, upI_ne (by omega), upI_eq]
  have hJ24 : J 210 24 = n2 (k + 1) := by rw [← hJ, upI_eq]
  have hJa : Fa k I J := by
    refine (a3.fa).trans ?_
    intro b i h1 h2
    rw [← hJ, upI_at, if_neg (by omega)]
    by_cases e : b = 221
    · rw [e]; exact upI_ni (fun z => h1 ⟨by omega, z⟩)
    · exact upI_ne e
  have h124 : (upI I1 221 k (oi (toS tx m p 6))) 210 24 = n2 k := by rw [upI_ne (by omega), a3 _ _ (by omega)]; exact h24
  have hRJ : ∀ {q : Nat}, Rg I1 tx m q → Rg J tx m q := fun {q} h => by rw [← hJ]; exact (h.ar (b := 221) (by omega)).on (fun i => upI_ne (by omega)) (upI_ni (by omega)) (upI_ni (by omega))
  have hwid : widS tx (m - p) 0 p = match digsS (tx.getD p 0) with
      | none => some p
      | some d => widS tx (m - (p + 1)) d (p + 1) := by
    rw [show m - p = (m - (p + 1)) + 1 by omega, widS, if_pos rfl]
    rfl
  have head : fX8_readsAct 210 (mk I L c t) = if n2 0 < oi (toS tx m p 6) then (qbnd (fX8_number 210 (n2 1) (mk J L c t)) fun r10 =>
    qbnd (oStI 20 r10.2.2 222 (n2 k) r10.1) fun μ11 =>
    qbnd (oGetP μ11 8 210 21) fun v12 =>
    qbnd (oLdI 20 μ11 v12 (n2 k)) fun v13 =>
    if v13 < n2 0 then
      fX8_readsAct_48 210 (n2 k) μ11
    else
      qbnd (oGetP μ11 8 210 20) fun v14 =>
      qbnd (oLdI 20 μ11 v14 (n2 k)) fun v15 =>
      if n2 4 ≤ v15 then
        qbnd (oGetP μ11 8 210 22) fun v16 =>
        qbnd (oGetP μ11 8 210 20) fun v17 =>
        qbnd (oLdI 20 μ11 v17 (n2 k)) fun v18 =>
        if v18 = n2 4 then
          qbnd (fX8_number 210 (n2 1) μ11) fun r20 =>
          fX8_readsAct_72 210 (n2 k) r20.1 (n2 k) v16 r20.2.2
        else
          qbnd (fX8_two 210 μ11) fun r19 =>
          fX8_readsAct_72 210 (n2 k) r19.1 (n2 k) v16 r19.2.2
      else
        fX8_readsAct_48 210 (n2 k) μ11) else (if oi (toS tx m p 6) = n2 0 then some (n2 1, 0, mk J L c t) else some (n2 0, 0, mk J L c t)) := by
    unfold fX8_readsAct
    rw [if_pos (by rw [kk_210])]
    unfold gX8_readsAct
    rw [g210_24, qbnd_s, h24, g210_20, qbnd_s, show (22 : Nat) = 16 + 6 from rfl, a1, qbnd_s]
    dsimp only
    rw [sd221 hk, qbnd_s, g210_24, qbnd_s, h124, l_1, n2_add, u210_24, qbnd_s, hJ, g210_20, qbnd_s, ld221 hk, qbnd_s, hJ1, l_0, l_4, if_pos no_qz, if_pos yes_qz, g210_21, qbnd_s, qbnd_s, ld221 hk, qbnd_s, hJ1]
  cases hts : toS tx m p 6 with
  | none =>
    rw [hts] at a2 head
    have a2 : Rg I1 tx m p := a2
    have hno : digsS (tx.getD p 0) = none := by
      cases hd : digsS (tx.getD p 0) with
      | none => rfl
      | some d =>
        obtain ⟨a, y1, y2⟩ := sg_no _ hch (by rw [hd]; exact fun z => by cases z)
        exact absurd y2 (toS_none hts hp a y1)
    rw [hno] at hwid
    refine ⟨J, p, false, ?_, hRJ a2, hJa, hJ24, fun z => absurd z (by decide), fun _ => hwid⟩
    rw [head, if_neg (by decide), if_neg (by decide)]
    rfl
  | some sg =>
    obtain ⟨-, q2, q3⟩ := toS_some hts
    rw [sg_len] at q2
    have hsg := sg_ok sg q2
    rw [q3] at hsg
    rw [hsg] at hwid
    dsimp only at hwid
    rw [hts] at a2 head hJ1
    have a2 : Rg I1 tx m (p + 1) := a2
    have hJ1 : J 221 k = n2 sg := hJ1
    have head := head
    rw [show oi (some sg) = n2 sg from rfl] at head
    have hdg : (digsS (tx.getD p 0)).getD 0 = [0, 1, 1, 1, 2, 3, 3, 4].getD sg 0 := by rw [hsg]; rfl
    rw [hdg]
    by_cases e0 : sg = 0
    · subst e0
      refine ⟨J, p + 1, true, ?_, hRJ a2, hJa, hJ24, fun _ => ⟨rfl, hwid, 0, by omega, q3, hJ1, fun z => by omega, fun z => by omega, fun z => by omega, fun z => by omega⟩, fun z => absurd z (by decide)⟩
      rw [head, if_neg (by decide), if_pos rfl]
      rfl
    · rw [if_pos (by rw [n2_lt (by omega) (by omega)]; omega)] at head
      obtain ⟨I2, b1, b2, b3⟩ := x8_number1 (L := L) (c := c) (t := t) (hRJ a2)
      obtain ⟨x, hx⟩ : ∃ x, (if dgB tx m (p + 1) = true then n2 (tx.getD (p + 1) 0 - 48) else -n2 1) = x := ⟨_, rfl⟩
      rw [hx] at b1
      obtain ⟨K, hK⟩ : ∃ K, upI I2 222 k x = K := ⟨_, rfl⟩
      have hK2 : K 222 k = x := by rw [← hK, upI_eq]
      have hKF : ∀ b i, b ≠ 222 → ¬ (b = 210 ∧ i = 5) → K b i = J b i := fun b i h1 h2 => by rw [← hK, upI_ne h1]; exact b3 b i h2
      have hKa : Fa k I K := by rw [← hK]; exact (hJa.trans b3.fa).trans (.up (by omega))
      have hK1 : K 221 k = n2 sg := (hKF _ _ (by omega) (by omega)).trans hJ1
      have hK24 : K 210 24 = n2 (k + 1) := (hKF _ _ (by omega) (by omega)).trans hJ24
      have hRK : Rg K tx m (if dgB tx m (p + 1) = true then p + 1 + 1 else p + 1) := by rw [← hK]; exact b2.ar (by omega)
      have e48 := x8_ra48 (I := K) (L := L) (c := c) (t := t) hk
      rw [hK2] at e48
      rw [b1, qbnd_s] at head
      dsimp only at head
      rw [sd222 hk, qbnd_s, hK, g210_21, qbnd_s, ld222 hk, qbnd_s, hK2, g210_20, qbnd_s, ld221 hk, qbnd_s, hK1, g210_22, qbnd_s, qbnd_s, ld221 hk, qbnd_s, hK1] at head
      have hpm1 : p + 1 ≤ m := by omega
      have hd1 := digN_le tx (p + 1)
      rcases bcs (dgB tx m (p + 1)) with f | f
      · -- the first digit is wanting
        rw [f, if_neg Bool.false_ne_true] at hx hRK
        refine ⟨K, p + 1, false, ?_, hRK, hKa, hK24, fun z => absurd z (by decide), fun _ => ?_⟩
        · rw [head, ← hx, if_pos (by decide)]
          rw [← hx] at e48
          rw [e48, if_pos (by decide)]
          rfl
        · rw [hwid, hm, wid_d (by
            have e : sg = 1 ∨ sg = 2 ∨ sg = 3 ∨ sg = 4 ∨ sg = 5 ∨ sg = 6 ∨ sg = 7 := by omega
            rcases e with rfl | rfl | rfl | rfl | rfl | rfl | rfl <;> decide) (by omega), ← hm, f, if_neg Bool.false_ne_true]
      · rw [f, if_pos rfl] at hx hRK
        rw [digN_b f] at hx
        have hRK : Rg K tx m (p + 2) := hRK
        have hpm2 := hRK.2.2.2.1
        have hxn : ¬ x < n2 0 := by rw [← hx]; exact nsx (by omega)
        rw [if_neg hxn] at head e48
        have hK2' : K 222 k = n2 (digN tx (p + 1)) := by rw [hK2, hx]
        have wid1 : ∀ d, 1 ≤ d → widS tx (m - (p + 1)) d (p + 1) = widS tx (m - (p + 2)) (d - 1) (p + 2) := fun d hd => by
          rw [hm, wid_d hd (by omega), ← hm, f, if_pos rfl]
        by_cases e4 : sg < 4
        · have hD : [0, 1, 1, 1, 2, 3, 3, 4].getD sg 0 = 1 := by
            have e : sg = 1 ∨ sg = 2 ∨ sg = 3 := by omega
            rcases e with rfl | rfl | rfl <;> rfl
          rw [hD] at hwid
          rw [hD]
          refine ⟨K, p + 2, true, ?_, hRK, hKa, hK24, fun _ => ⟨rfl, by rw [hwid, wid1 1 (by omega)], sg, q2, q3, hK1, fun _ => hK2', fun z => by omega, fun z => by omega, fun z => by omega⟩, fun z => absurd z (by decide)⟩
          rw [head, if_neg (by rw [n2_le (by omega) (by omega)]; omega), e48]
          rfl
        · rw [if_pos (by rw [n2_le (by omega) (by omega)]; omega)] at head
          by_cases e5 : sg = 4
          · subst e5
            have hD : [0, 1, 1, 1, 2, 3, 3, 4].getD 4 0 = 2 := rfl
            rw [hD] at hwid
            rw [hD]
            rw [if_pos rfl] at head
            obtain ⟨I3, c1, c2, c3⟩ := x8_number1 (L := L) (c := c) (t := t) hRK
            have h31 : I3 221 k = n2 4 := (c3 _ _ (by omega)).trans hK1
            obtain ⟨I4, q4, ok, d1, d2, d3, d4, d5, d6, d7, d8, d9, -⟩ := x8_ra72 (L := L) (c := c) (t := t) (v := if dgB tx m (p + 2) = true then n2 (tx.getD (p + 2) 0 - 48) else -n2 1) hk c2 (show 4 < 8 by omega) h31
            rw [c1, qbnd_s] at head
            dsimp only at head
            have hd2 := digN_le tx (p + 2)
            refine ⟨I4, q4, ok, head.trans d1, d2, (hKa.trans c3.fa).trans d3, d4.trans ((c3 _ _ (by omega)).trans hK24), fun z => ?_, fun z => ?_⟩
            · rcases bcs (dgB tx m (p + 2)) with g | g
              · rw [g, if_neg Bool.false_ne_true] at d8
                rw [(d8 (by decide)).1] at z
                exact absurd z (by decide)
              · rw [g, if_pos rfl, digN_b g] at d7 d9
                rw [if_pos rfl] at d9
                obtain ⟨-, y2⟩ := d9 (nsx (by omega)) (by omega)
                have y3 : q4 = p + 3 := y2
                refine ⟨by omega, ?_, 4, by omega, q3, d5, fun _ => d6.trans ((c3 _ _ (by omega)).trans hK2'), fun _ => d7, fun z => by omega, fun z => by omega⟩
                rw [hwid, wid1 2 (by omega), hm, wid_d (by omega) (by omega), ← hm, g, if_pos rfl, y3]
            · rcases bcs (dgB tx m (p + 2)) with g | g
              · rw [g, if_neg Bool.false_ne_true] at d8
                obtain ⟨-, y2⟩ := d8 (by decide)
                rw [if_neg Bool.false_ne_true] at y2
                rw [hwid, wid1 2 (by omega), hm, wid_d (by omega) (by omega), ← hm, g, if_neg Bool.false_ne_true, y2]
              · rw [g, if_pos rfl, digN_b g] at d9
                rw [(d9 (nsx (by omega)) (by omega)).1] at z
                exact absurd z (by decide)
          · rw [if_neg (by rw [n2_eq (by omega) (by omega)]; exact e5)] at head
            obtain ⟨I3, c1, c2, c3⟩ := x8_twoD (L := L) (c := c) (t := t) hRK
            rw [c1, qbnd_s] at head
            dsimp only at head
            have h31 : I3 221 k = n2 sg := (c3 _ _ (by omega)).trans hK1
            obtain ⟨I4, q4, ok, d1, d2, d3, d4, d5, d6, d7, d8, d9, d10⟩ := x8_ra72 (L := L) (c := c) (t := t) (v := if dgB tx m (p + 2) = true ∧ dgB tx m (p + 2 + 1) = true then n2 (10 * digN tx (p + 2) + digN tx (p + 2 + 1)) else -n2 1) hk c2 q2 h31
            have hd2 := digN_le tx (p + 2)
            have hd3 := digN_le tx (p + 2 + 1)
            have hD : [0, 1, 1, 1, 2, 3, 3, 4].getD sg 0 = if sg = 7 then 4 else 3 := by
              have e : sg = 5 ∨ sg = 6 ∨ sg = 7 := by omega
              rcases e with rfl | rfl | rfl <;> rfl
            have hD3 : 3 ≤ [0, 1, 1, 1, 2, 3, 3, 4].getD sg 0 := by rw [hD]; split <;> omega
            rw [wid1 _ (by omega)] at hwid
            refine ⟨I4, q4, ok, head.trans d1, d2, (hKa.trans c3.fa).trans d3, d4.trans ((c3 _ _ (by omega)).trans hK24), fun z => ?_, fun z => ?_⟩
            · by_cases g : dgB tx m (p + 2) = true ∧ dgB tx m (p + 2 + 1) = true
              · rw [if_pos g] at d7 d9 d10
                rw [if_pos g.1, if_pos g.2] at d9 d10
                have hpm4 : p + 4 ≤ m := by
                  have := g.2
                  unfold dgB at this
                  rw [Bool.and_eq_true, decide_eq_true_eq] at this
                  omega
                have wid3 : widS tx (m - p) 0 p = widS tx (m - (p + 4)) ([0, 1, 1, 1, 2, 3, 3, 4].getD sg 0 - 1 - 1 - 1) (p + 4) := by
                  rw [hwid, hm, wid_d (by omega) (by omega), ← hm, g.1, if_pos rfl, hm, wid_d (by omega) (by omega), ← hm, g.2, if_pos rfl]
                by_cases e7 : sg = 7
                · obtain ⟨⟨y1, y2⟩, y3⟩ := d10 (nsx (by omega)) e7
                  rw [z] at y1
                  rw [← y1, if_pos rfl] at y2
                  have y2 : q4 = p + 5 := y2
                  refine ⟨by rw [hD, if_pos e7]; omega, ?_, sg, q2, q3, d5, fun _ => d6.trans ((c3 _ _ (by omega)).trans hK2'), fun z => by omega, fun _ => d7, fun _ => y3 z⟩
                  rw [wid3, hD, if_pos e7, hm, wid_d (by omega) (by omega), ← hm]
                  have : dgB tx m (p + 4) = true := y1.symm
                  rw [this, if_pos rfl, y2]
                · obtain ⟨-, y2⟩ := d9 (nsx (by omega)) e7
                  have y2 : q4 = p + 4 := y2
                  refine ⟨by rw [hD, if_neg e7]; omega, ?_, sg, q2, q3, d5, fun _ => d6.trans ((c3 _ _ (by omega)).trans hK2'), fun z => by omega, fun _ => d7, fun z => absurd z e7⟩
                  rw [wid3, hD, if_neg e7, y2]
              · rw [if_neg g] at d8
                rw [(d8 (by decide)).1] at z
                exact absurd z (by decide)
            · by_cases g : dgB tx m (p + 2) = true ∧ dgB tx m (p + 2 + 1) = true
              · rw [if_pos g] at d9 d10
                rw [if_pos g.1, if_pos g.2] at d9 d10
                have hpm4 : p + 4 ≤ m := by
                  have := g.2
                  unfold dgB at this
                  rw [Bool.and_eq_true, decide_eq_true_eq] at this
                  omega
                have wid3 : widS tx (m - p) 0 p = widS tx (m - (p + 4)) ([0, 1, 1, 1, 2, 3, 3, 4].getD sg 0 - 1 - 1 - 1) (p + 4) := by
                  rw [hwid, hm, wid_d (by omega) (by omega), ← hm, g.1, if_pos rfl, hm, wid_d (by omega) (by omega), ← hm, g.2, if_pos rfl]
                by_cases e7 : sg = 7
                · obtain ⟨⟨y1, y2⟩, y3⟩ := d10 (nsx (by omega)) e7
                  rw [z] at y1
                  rw [← y1, if_neg Bool.false_ne_true] at y2
                  have y2 : q4 = p + 4 := y2
                  rw [wid3, hD, if_pos e7, hm, wid_d (by omega) (by omega), ← hm]
                  have : dgB tx m (p + 4) = false := y1.symm
                  rw [this, if_neg Bool.false_ne_true, y2]
                · rw [(d9 (nsx (by omega)) e7).1] at z
                  exact absurd z (by decide)
              · rw [if_neg g] at d8
                obtain ⟨-, y2⟩ := d8 (by decide)
                rw [hwid, hm, wid_d (by omega) (by omega), ← hm]
                by_cases g1 : dgB tx m (p + 2) = true
                · have g2 : ¬ dgB tx m (p + 2 + 1) = true := fun w => g ⟨g1, w⟩
                  have hpm3 : p + 3 ≤ m := by
                    have := g1
                    unfold dgB at this
                    rw [Bool.and_eq_true, decide_eq_true_eq] at this
                    omega
                  rw [if_pos g1, if_neg g2] at y2
                  rw [if_pos g1, hm, wid_d (by omega) (by omega), ← hm, if_neg g2, y2]
                · rw [if_neg g1] at y2
                  rw [if_neg g1, y2]
end S9P

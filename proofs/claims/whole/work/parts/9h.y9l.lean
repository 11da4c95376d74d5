/-! PURE SIDE, THE REFERENCE: the descent -/
def Dz (I I' : Nat → Nat → Int32) : Prop := ∀ b i, b ≠ 214 → ¬ (b = 210 ∧ (i = 5 ∨ i = 7 ∨ i = 11)) → I' b i = I b i
theorem Dz.rf (I : Nat → Nat → Int32) : Dz I I := fun _ _ _ _ => rfl
theorem Dz.trans {I I1 I2 : Nat → Nat → Int32} (h1 : Dz I I1) (h2 : Dz I1 I2) : Dz I I2 := fun b i h h3 => (h2 b i h h3).trans (h1 b i h h3)
theorem Ft.dz {I I' : Nat → Nat → Int32} (h : Ft I I') : Dz I I' := fun b i _ h2 => h b i (by omega)
theorem Dz.up {I : Nat → Nat → Int32} {i : Nat} {x : Int32} (h : i = 5 ∨ i = 7 ∨ i = 11) : Dz I (upI I 210 i x) := fun b j _ h3 => by
  by_cases e : b = 210
  · rw [e]; exact upI_ni (by omega)
  · exact upI_ne e
theorem Dz.up4 {I : Nat → Nat → Int32} {i : Nat} {x : Int32} : Dz I (upI I 214 i x) := fun b j h2 _ => upI_ne h2
/-- so much is read: d nests open, these codes -/
def RSt (I : Nat → Nat → Int32) (tx : List Nat) (m p d : Nat) (C : List Nat) : Prop := Rg I tx m p ∧ I 210 7 = n2 d ∧ I 210 11 = n2 C.length ∧ (∀ i, i < C.length → I 214 i = n2 (C.getD i 0)) ∧ C.length ≤ p
section S9L
variable {I I' : Nat → Nat → Int32} {L : Nat → Nat → Int64} {c t r N T n : Nat} {μ : qM} {tx : List Nat} {m p d : Nat} {C : List Nat}
theorem RSt.ft (h : RSt I tx m p d C) (f : Ft I I') {p' : Nat} (hR : Rg I' tx m p') (hp : p ≤ p') : RSt I' tx m p' d C := by
  obtain ⟨h1, h2, h3, h4, h5⟩ := h
  exact ⟨hR, (f _ _ (by omega)).trans h2, (f _ _ (by omega)).trans h3, fun i hi => (f _ _ (by omega)).trans (h4 i hi), by omega⟩
theorem x8_codes {k v : Nat} (hk : I 210 11 = n2 k) (h80 : k < 80) : fX8_codes 210 (n2 v) (mk I L c t) = some (n2 0, 0, mk (upI (upI I 214 k (n2 v)) 210 11 (n2 (k + 1))) L c t) := by
  have h2 : (upI I 214 k (n2 v)) 210 11 = n2 k := by rw [upI_ne (by omega)]; exact hk
  unfold fX8_codes
  rw [if_pos (by rw [kk_210])]
  unfold gX8_codes
  rw [g210_9, qbnd_s, g210_11, qbnd_s, hk, sd214 h80, qbnd_s, g210_11, qbnd_s, h2, l_1, n2_add, u210_11, qbnd_s]
  rfl
theorem Rg.cd {k : Nat} {v x : Int32} (h : Rg I tx m p) : Rg (upI (upI I 214 k v) 210 11 x) tx m p := h.on (fun i => by rw [upI_ne (by omega), upI_ne (by omega)]) (by rw [upI_ni (by omega), upI_ne (by omega)]) (by rw [upI_ni (by omega), upI_ne (by omega)])
theorem dz_cd {k : Nat} {v x : Int32} : Dz I (upI (upI I 214 k v) 210 11 x) := Dz.up4.trans (Dz.up (by omega))
theorem RSt.code (h : RSt I tx m p d C) (hp : C.length + 1 ≤ p) (v : Nat) : RSt (upI (upI I 214 C.length (n2 v)) 210 11 (n2 (C.length + 1))) tx m p d (C ++ [v]) := by
  obtain ⟨h1, h2, h3, h4, h5⟩ := h
  refine ⟨h1.cd, ?_, by rw [upI_eq, List.length_append]; rfl, fun i hi => ?_, by rw [List.length_append]; exact hp⟩
  · rw [upI_ni (by omega), upI_ne (by omega)]; exact h2
  · rw [upI_ne (by omega)]
    rw [List.length_append, List.length_singleton] at hi
    by_cases e : i = C.length
    · rw [e, upI_eq, List.getD_eq_getElem?_getD, List.getElem?_append_right (Nat.le_refl _), Nat.sub_self]
      rfl
    · rw [upI_ni e, List.getD_eq_getElem?_getD, List.getElem?_append_left (by omega), ← List.getD_eq_getElem?_getD]
      exact h4 i (by omega)
/-- a good end, or a fault -/
def Out (tx : List Nat) (m ρ : Nat) (K : Kt) (p : Nat) (P : List Nat) (d cm : Nat) (C : List Nat) (I I' : Nat → Nat → Int32) (p' : Nat) (ok : Bool) : Prop := Dz I I' ∧ p ≤ p' ∧ (ok = true → ∃ C', RSt I' tx m p' d C' ∧ C'.length + p ≤ C.length + p' ∧ Suc tx m ρ K p P d cm p' C') ∧ (ok = false → Rg I' tx m p' ∧ (∃ k, I' 210 11 = n2 k ∧ k + p ≤ C.length + p') ∧ flt m (KR tx m p K) = some p')
def PT (tx : List Nat) (m k : Nat) : Prop := ∀ (L : Nat → Nat → Int64) (c t : Nat) (I : Nat → Nat → Int32) (p d : Nat) (C P : List Nat) (n cm : Nat), d ≤ 4 → (m - p) + 5 * (4 - d) < k → RSt I tx m p d C → ∃ I' p' ok, sX8_readsRank_X8_readsThing k 163 [.ref 210] (mk I L c t) = some (n2 (bn ok), 0, mk I' L c t) ∧ Out tx m 3 (C, P, d, n, cm, false) p P d cm C I I' p' ok
def PR (tx : List Nat) (m k : Nat) : Prop := ∀ (L : Nat → Nat → Int64) (c t : Nat) (I : Nat → Nat → Int32) (ρ p d : Nat) (C P : List Nat) (n cm : Nat), ρ ≤ 3 → d ≤ 4 → (m - p) + 5 * (4 - d) + (4 - ρ) < k → (∀ g P', P = g :: P' → rkS g ≤ ρ) → (ρ = 0 → cm.testBit d = false) → RSt I tx m p d C → ∃ I' p' ok, sX8_readsRank_X8_readsThing k 164 [.ref 210, .int (n2 ρ)] (mk I L c t) = some (n2 (bn ok), 0, mk I' L c t) ∧ Out tx m ρ (C, P, d, n, cm, false) p P d cm C I I' p' ok
theorem nst_1 (b : Bool) : (if n2 (bn b) = n2 0 then (1 : Nat) else 2) = if b = true then 2 else 1 := by
  cases b <;> rfl
/-- a thing -/
theorem pt_s {k : Nat} (hm40 : m ≤ 40) (hml : m ≤ tx.length) (hT : PT tx m k) (hP : PR tx m k) : PT tx m (k + 1) := by
  intro L c t I p d C P n cm hd hk hS
  have hS0 := hS
  obtain ⟨hR, hnest, h11, h214, hCp⟩ := hS
  have hpm := hR.2.2.2.1
  have hch : p < m → tx.getD p 0 < 256 := fun h => (hR.1 p (by omega)).2
  obtain ⟨I1, a1, a2, a3⟩ := x8_takes (L := L) (c := c) (t := t) hR (g := 45) (by omega)
  show ∃ I' p' ok, fX8_readsThing (sX8_readsRank_X8_readsThing k) 210 (mk I L c t) = _ ∧ _
  unfold fX8_readsThing
  rw [if_pos (by rw [kk_210])]
  unfold gX8_readsThing
  rw [l_45, a1, qbnd_s]
  dsimp only
  have kth : ∀ {K' : Kt}, p < m → kThing (tx.getD p 0) (C, P, d, n, cm, false) = some K' → KR tx m p (C, P, d, n, cm, false) = KR tx m (p + 1) K' := by
    intro K' hp he
    rw [KR_s hml hp]
    have : kstep (tx.getD p 0) (C, P, d, n, cm, false) = some K' := by
      unfold kstep
      rw [if_neg Bool.false_ne_true]
      exact he
    rw [this]
  rcases bcs (tkB tx m p 45) with e45 | e45
  · -- no minus
    rw [e45] at a2 ⊢
    have a2 : Rg I1 tx m p := a2
    have hS1 := hS0.ft a3 a2 (Nat.le_refl p)
    have n45 : p < m → tx.getD p 0 ≠ 45 := fun hp z => by
      rw [tkB_t.mpr ⟨hp, z⟩] at e45
      exact absurd e45 (by decide)
    -- at a place where nothing fits
    have fail : ∀ (J : Nat → Nat → Int32), Rg J tx m p → J 210 11 = n2 C.length → Dz I J → (p < m → kThing (tx.getD p 0) (C, P, d, n, cm, false) = none) → Out tx m 3 (C, P, d, n, cm, false) p P d cm C I J p false := by
      intro J hRJ hJ11 hDJ hno
      refine ⟨hDJ, Nat.le_refl p, fun z => absurd z (by decide), fun _ => ⟨hRJ, ⟨C.length, hJ11, Nat.le_refl _⟩, ?_⟩⟩
      by_cases e : p < m
      · rw [KR_s hml e]
        have : kstep (tx.getD p 0) (C, P, d, n, cm, false) = none := by
          unfold kstep
          rw [if_neg Bool.false_ne_true]
          exact hno e
        rw [this]
        rfl
      · have : p = m := by omega
        subst this
        rw [KR_m]
        rfl
    rw [l_0, l_1, if_pos no_zero, x8_isDigit a2, qbnd_s]
    dsimp only
    rcases bcs (dgB tx m p) with edg | edg
    · rw [edg, if_pos no_zero]
      have ndg : p < m → ¬ isd (tx.getD p 0) = true := fun hp z => by
        unfold dgB at edg
        rw [decide_eq_true hp, z] at edg
        exact absurd edg (by decide)
      obtain ⟨I2, b1, b2, b3⟩ := x8_takesOf (L := L) (c := c) (t := t) a2 (j := 2) (by omega)
      rw [show (18 : Nat) = 16 + 2 from rfl, b1, qbnd_s]
      dsimp only
      cases hts : toS tx m p 2 with
      | some a =>
        -- an asked letter
        obtain ⟨q1, q2, q3⟩ := toS_some hts
        obtain ⟨r1, r2, r3, r4, r5⟩ := asks_ok a q2
        rw [q3] at r1 r3 r4 r5
        rw [hts] at b2
        have b2 : Rg I2 tx m (p + 1) := b2
        have hS2 := hS1.ft b3 b2 (by omega)
        have hcd := x8_codes (L := L) (c := c) (t := t) (v := 1000 + a) hS2.2.2.1 (by omega)
        have hS3 := hS2.code (by omega) (1000 + a)
        refine ⟨_, p + 1, true, ?_, ((a3.dz).trans b3.dz).trans dz_cd, by omega, fun _ => ⟨C ++ [1000 + a], hS3, by rw [List.length_append, List.length_singleton]; omega, C ++ [1000 + a], [], 0, cm, ?_, by simp, fun g hg => absurd hg List.not_mem_nil, fun _ => Or.inl rfl, fun _ _ => rfl, fun _ => rfl, fun h => Or.inl (rk_256 _ (hR.1 (p + 1) (by omega)).2)⟩, fun z => absurd z (by decide)⟩
        · rw [show oi (some a) = n2 a from rfl, if_neg (by rw [n2_nn (by omega)]; exact not_false), l_1000, n2_add, hcd, qbnd_s]
          dsimp only
          rw [if_pos yes_qz]
          rfl
        · refine kth q1 ?_
          unfold kThing
          dsimp only
          rw [if_neg r4, if_neg r5, if_neg (by rw [r3]; exact Bool.false_ne_true), if_pos (by omega), r1]
          rfl
      | none =>
        rw [hts] at b2
        have b2 : Rg I2 tx m p := b2
        have hS2 := hS1.ft b3 b2 (Nat.le_refl p)
        have nli : p < m → ¬ liS (tx.getD p 0) < 7 := fun hp z => by
          obtain ⟨a, y1, y2⟩ := asks_no _ (hch hp) z
          exact toS_none hts hp a y1 y2
        rw [show oi none = -n2 1 from rfl, if_pos (by decide), g210_7, qbnd_s, hS2.2.1, l_4]
        by_cases e4 : d = 4
        · refine ⟨I2, p, false, ?_, fail I2 b2 hS2.2.2.1 ((a3.dz).trans b3.dz) fun hp => ?_⟩
          · rw [if_pos (by rw [e4]), if_pos no_qz]
            rfl
          · unfold kThing
            dsimp only
            rw [if_neg (n45 hp), if_neg (ndg hp), if_neg (nli hp)]
            split
            · rw [if_neg (by omega)]
            · rfl
        · rw [if_neg (by rw [n2_eq (by omega) (by omega)]; exact e4)]
          obtain ⟨I3, d1, d2, d3⟩ := x8_takes (L := L) (c := c) (t := t) b2 (g := 40) (by omega)
          rw [l_40, d1, qbnd_s]
          dsimp only
          rcases bcs (tkB tx m p 40) with e40 | e40
          · rw [e40] at d2
            have d2 : Rg I3 tx m p := d2
            have n40 : p < m → tx.getD p 0 ≠ 40 := fun hp z => by
              rw [tkB_t.mpr ⟨hp, z⟩] at e40
              exact absurd e40 (by decide)
            refine ⟨I3, p, false, ?_, fail I3 d2 ((d3 _ _ (by omega)).trans hS2.2.2.1) (((a3.dz).trans b3.dz).trans d3.dz) fun hp => ?_⟩
            · rw [e40, if_pos no_zero, if_pos no_qz]
              rfl
            · unfold kThing
              dsimp only
              rw [if_neg (n45 hp), if_neg (n40 hp), if_neg (ndg hp), if_neg (nli hp)]
          · -- a nest
            rw [e40] at d2
            have d2 : Rg I3 tx m (p + 1) := d2
            obtain ⟨y1, y2⟩ := tkB_t.mp e40
            have hS3 := hS2.ft d3 d2 (by omega)
            obtain ⟨J, hJ⟩ : ∃ J, upI I3 210 7 (n2 (d + 1)) = J := ⟨_, rfl⟩
            have hDJ : Dz I3 J := by rw [← hJ]; exact .up (by omega)
            have hSJ : RSt J tx m (p + 1) (d + 1) C := by
              rw [← hJ]
              obtain ⟨u1, u2, u3, u4, u5⟩ := hS3
              exact ⟨u1.on (fun i => upI_ne (by omega)) (upI_ni (by omega)) (upI_ni (by omega)), upI_eq, by rw [upI_ni (by omega)]; exact u3, fun i hi => by rw [upI_ne (by omega)]; exact u4 i hi, u5⟩
            obtain ⟨I4, p4, ok, f1, f2, f3, f4, f5⟩ := hP L c t J 0 (p + 1) (d + 1) C (40 :: P) n (clrb cm (d + 1)) (by omega) (by omega) (by omega) (fun g P' hg => by cases hg; decide) (fun _ => by rw [clrb_t (by omega)]; simp) hSJ
            have hstep : KR tx m p (C, P, d, n, cm, false) = KR tx m (p + 1) (C, 40 :: P, d + 1, n, clrb cm (d + 1), false) := by
              refine kth y1 ?_
              unfold kThing
              dsimp only
              rw [if_neg (by rw [y2]; omega), if_pos y2, if_pos (by omega)]
            have hD4 : Dz I I4 := ((((a3.dz).trans b3.dz).trans d3.dz).trans hDJ).trans f2
            rw [e40, if_neg yes_zero, g210_7, qbnd_s, hS3.2.1, n2_add, u210_7, qbnd_s, hJ, f1, qbnd_s]
            dsimp only
            cases ok with
            | false =>
              obtain ⟨g1, ⟨q, g2, g2b⟩, g3⟩ := f5 rfl
              refine ⟨I4, p4, false, ?_, hD4, by omega, fun z => absurd z (by decide), fun _ => ⟨g1, ⟨q, g2, by omega⟩, by rw [hstep]; exact g3⟩⟩
              rw [if_pos no_zero, if_pos no_qz]
              rfl
            | true =>
              obtain ⟨C', g1, g2, g3⟩ := f4 rfl
              rw [if_neg yes_zero]
              obtain ⟨I5, v1, v2, v3⟩ := x8_takes (L := L) (c := c) (t := t) g1.1 (g := 41) (by omega)
              rw [l_41, v1, qbnd_s]
              dsimp only
              rcases bcs (tkB tx m p4 41) with e41 | e41
              · rw [e41] at v2
                have v2 : Rg I5 tx m p4 := v2
                refine ⟨I5, p4, false, ?_, hD4.trans v3.dz, by omega, fun z => absurd z (by decide), fun _ => ⟨v2, ⟨C'.length, (v3 _ _ (by omega)).trans g1.2.2.1, by omega⟩, ?_⟩⟩
                · rw [e41, if_pos no_zero, if_pos no_qz]
                  rfl
                · rw [hstep]
                  refine g3.bh hml v2.2.2.2.1 (fun hp z => ?_) fun _ => by omega
                  rw [tkB_t.mpr ⟨hp, z⟩] at e41
                  exact absurd e41 (by decide)
              · rw [e41] at v2
                have v2 : Rg I5 tx m (p4 + 1) := v2
                obtain ⟨w1, w2⟩ := tkB_t.mp e41
                have hS5 := g1.ft v3 v2 (by omega)
                obtain ⟨Q, U, n', cm', s1, s2, s3, s4, s5, s6, s7⟩ := g3
                have hst := sttl_app (r := 1) U (40 :: P) s3 (fun g P' hg => by cases hg; decide)
                refine ⟨upI I5 210 7 (n2 d), p4 + 1, true, ?_, (hD4.trans v3.dz).trans (.up (by omega)), by omega, fun _ => ⟨C', ⟨v2.on (fun i => upI_ne (by omega)) (upI_ni (by omega)) (upI_ni (by omega)), upI_eq, by rw [upI_ni (by omega)]; exact hS5.2.2.1, fun i hi => by rw [upI_ne (by omega)]; exact hS5.2.2.2.1 i hi, by have := hS5.2.2.2.2; omega⟩, by omega, C', [], 0, cm', ?_, by simp, fun g hg => absurd hg List.not_mem_nil, fun _ => Or.inl rfl, fun j hj => ?_, fun _ => ?_, fun h => Or.inl (rk_256 _ (hR.1 (p4 + 1) (by omega)).2)⟩, fun z => absurd z (by decide)⟩
                · rw [e41, if_neg yes_zero, g210_7, qbnd_s, hS5.2.1, n2_sub (by omega), Nat.add_sub_cancel, u210_7, qbnd_s, if_pos yes_qz]
                  rfl
                · rw [hstep, s1, KR_s hml w1]
                  have : kstep (tx.getD p4 0) (Q, U ++ 40 :: P, d + 1, n', cm', true) = some (C', P, d, 0, cm', true) := by
                    unfold kstep kBehind
                    dsimp only
                    rw [if_pos rfl, w2, if_neg (by decide), if_pos rfl, if_neg (by omega), hst, s2]
                    rfl
                  rw [this]
                  rfl
                · rw [s5 j (by omega), clrb_t (by omega), decide_eq_false (by omega)]
                  rfl
                · rw [s5 d (by omega), clrb_t (by omega), decide_eq_false (by omega)]
                  rfl
    · -- a number
      have e' := edg
      unfold dgB at e'
      rw [Bool.and_eq_true, decide_eq_true_eq] at e'
      have hi := isd_iff.mp e'.2
      obtain ⟨I2, b1, b2, b3⟩ := x8_number (L := L) (c := c) (t := t) a2 (D := 3) (by omega)
      rw [edg, if_pos rfl] at b1 b2
      have hn3 : numS tx m 3 p 0 = numS tx m 2 (p + 1) (10 * 0 + tx.getD p 0 - 48) := by
        rw [numS, if_pos edg]
      obtain ⟨n', u1, u2, u3⟩ := num_KR hml (P := P) (d := d) (cm := cm) (Q := C) 2 (p + 1) (10 * 0 + tx.getD p 0 - 48) 1 (by omega) (by omega)
      rw [← hn3] at u1 u2 u3
      generalize numS tx m 3 p 0 = z at *
      have hS2 := hS1.ft b3 b2 (by omega)
      have hcd := x8_codes (L := L) (c := c) (t := t) (v := z.1) hS2.2.2.1 (by omega)
      have hS3 := hS2.code (by omega) z.1
      refine ⟨_, z.2, true, ?_, ((a3.dz).trans b3.dz).trans dz_cd, by omega, fun _ => ⟨C ++ [z.1], hS3, by rw [List.length_append, List.length_singleton]; omega, C ++ [z.1], [], n', cm, ?_, by simp, fun g hg => absurd hg List.not_mem_nil, fun h => Or.inr (u2 h), fun _ _ => rfl, fun _ => rfl, fun h => Or.inl (rk_256 _ (hR.1 z.2 (by omega)).2)⟩, fun z => absurd z (by decide)⟩
      · rw [edg, if_neg yes_zero, l_3, b1, qbnd_s]
        dsimp only
        rw [hcd, qbnd_s]
        dsimp only
        rw [if_pos yes_qz]
        rfl
      · rw [List.nil_append, ← u1]
        refine kth e'.1 ?_
        unfold kThing
        dsimp only
        rw [if_neg (by omega), if_neg (by omega), if_pos e'.2, show 10 * 0 + tx.getD p 0 - 48 = tx.getD p 0 - 48 by omega]
  · -- a minus
    rw [e45] at a2 ⊢
    have a2 : Rg I1 tx m (p + 1) := a2
    obtain ⟨y1, y2⟩ := tkB_t.mp e45
    have hS1 := hS0.ft a3 a2 (by omega)
    obtain ⟨I2, p2, ok, f1, f2, f3, f4, f5⟩ := hT L c t I1 (p + 1) d C (256 :: P) n cm hd (by omega) hS1
    have hstep : KR tx m p (C, P, d, n, cm, false) = KR tx m (p + 1) (C, 256 :: P, d, n, cm, false) := by
      refine kth y1 ?_
      unfold kThing
      dsimp only
      rw [if_pos y2]
    rw [l_0, l_1, if_neg yes_zero, f1, qbnd_s]
    dsimp only
    rw [l_3000]
    cases ok with
    | false =>
      obtain ⟨g1, ⟨q, g2, g2b⟩, g3⟩ := f5 rfl
      have hpm2 := g1.2.2.2.1
      have hcd := x8_codes (L := L) (c := c) (t := t) (v := 3000) g2 (by omega)
      refine ⟨upI (upI I2 214 q (n2 3000)) 210 11 (n2 (q + 1)), p2, false, ?_, ((a3.dz).trans f2).trans dz_cd, by omega, fun z => absurd z (by decide), fun _ => ⟨g1.cd, ⟨q + 1, upI_eq, by omega⟩, by rw [hstep]; exact g3⟩⟩
      rw [hcd, qbnd_s, if_pos (qz_b false)]
    | true =>
      obtain ⟨C', g1, g2, g3⟩ := f4 rfl
      have hpm2 := g1.1.2.2.2.1
      have hcd := x8_codes (L := L) (c := c) (t := t) (v := 3000) g1.2.2.1 (by have := g1.2.2.2.2; omega)
      have hS3 := g1.code (by omega) 3000
      obtain ⟨Q, U, n', cm', s1, s2, s3, s4, s5, s6, s7⟩ := g3
      refine ⟨_, p2, true, ?_, ((a3.dz).trans f2).trans dz_cd, by omega, fun _ => ⟨C' ++ [3000], hS3, by rw [List.length_append, List.length_singleton]; omega, Q, U ++ [256], n', cm', ?_, ?_, fun g hg => ?_, s4, s5, s6, s7⟩, fun z => absurd z (by decide)⟩
      · rw [hcd, qbnd_s, if_pos (qz_b true)]
      · rw [hstep, s1, List.append_assoc]
        rfl
      · rw [s2, List.map_append, List.append_assoc]
        rfl
      · rw [List.mem_append, List.mem_singleton] at hg
        rcases hg with hg | rfl
        · exact s3 g hg
        · decide
end S9L

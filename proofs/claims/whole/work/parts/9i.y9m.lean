/-! PURE SIDE, THE REFERENCE: a rank, a rule -/
theorem lor_bit {cm d j : Nat} : (cm ||| (1 <<< d)).testBit j = (cm.testBit j || decide (d = j)) := by
  rw [Nat.testBit_or, Nat.one_shiftLeft, Nat.testBit_two_pow]
section S9M
variable {I I' : Nat → Nat → Int32} {L : Nat → Nat → Int64} {c t r N T n : Nat} {μ : qM} {tx : List Nat} {m p d : Nat} {C : List Nat}
/-- after an operand: acts and operands, while there are -/
theorem pr_loop {k : Nat} (hm40 : m ≤ 40) (hml : m ≤ tx.length) (hP : PR tx m k) {ρ : Nat} (hρ : ρ < 3) (hd : d ≤ 4) {P : List Nat} (hPt : ∀ g P', P = g :: P' → rkS g ≤ ρ) : ∀ (y p : Nat) (I : Nat → Nat → Int32) (L : Nat → Nat → Int64) (c t : Nat) (C Q U : List Nat) (n cm : Nat), (m - p) + 1 < y → (m - p) + 5 * (4 - d) + (3 - ρ) < k + 1 → RSt I tx m p d C → C = Q ++ U.map itS → (∀ g ∈ U, ρ + 1 ≤ rkS g) → (dgB tx m p = true → n = 0 ∨ 3 ≤ n) → (ρ = 0 → cm.testBit d = false) → (p < m → rkS (tx.getD p 0) ≤ ρ + 1) →
    ∃ I' p' ok, fX8_readsRank_16 (sX8_readsRank_X8_readsThing k) y 210 (n2 ρ) (n2 1) (mk I L c t) = some (n2 (bn ok), 0, mk I' L c t) ∧ Out tx m ρ (Q, U ++ P, d, n, cm, true) p P d cm C I I' p' ok := by
  intro y
  induction y with
  | zero => intro p I L c t C Q U n cm h; omega
  | succ y ih =>
    intro p I L c t C Q U n cm hy hk hS hC hU hdg hbit hex
    have hS0 := hS
    obtain ⟨hR, hnest, h11, h214, hCp⟩ := hS
    have hpm := hR.2.2.2.1
    obtain ⟨I1, a1, a2, a3⟩ := x8_takesOf (L := L) (c := c) (t := t) hR (j := 3 + ρ) (by omega)
    -- the body, for the string of this rank
    have body : fX8_readsRank_16 (sX8_readsRank_X8_readsThing k) (y + 1) 210 (n2 ρ) (n2 1) (mk I L c t) = fX8_readsRank_29 (sX8_readsRank_X8_readsThing k) (fX8_readsRank_16 (sX8_readsRank_X8_readsThing k) y) 210 (n2 ρ) (16 + (3 + ρ)) 210 (mk I L c t) := by
      rw [fX8_readsRank_16]
      dsimp only
      rw [l_0, l_1, if_neg one_ne]
      have e : ρ = 0 ∨ ρ = 1 ∨ ρ = 2 := by omega
      rcases e with rfl | rfl | rfl
      · rw [if_pos rfl]
      · rw [if_neg one_ne, if_pos rfl]
      · rw [if_neg (by decide), if_neg (by decide)]
    rw [body]
    unfold fX8_readsRank_29
    rw [a1, qbnd_s]
    dsimp only
    cases hts : toS tx m p (3 + ρ) with
    | none =>
      rw [hts] at a2
      have a2 : Rg I1 tx m p := a2
      have hS1 := hS0.ft a3 a2 (Nat.le_refl p)
      refine ⟨I1, p, true, ?_, a3.dz, Nat.le_refl p, fun _ => ⟨C, hS1, Nat.le_refl _, Q, U, n, cm, rfl, hC, hU, hdg, fun _ _ => rfl, fun _ => rfl, fun hp => ?_⟩, fun z => absurd z (by decide)⟩
      · rw [show oi none = -n2 1 from rfl, l_0, l_1, if_neg (by decide), if_pos yes_qz]
        rfl
      · have h1 := hex hp
        have h2 : rkS (tx.getD p 0) ≠ ρ + 1 := fun z => by
          obtain ⟨a, y1, y2⟩ := acts_no ρ hρ _ (hR.1 p (by omega)).2 z
          exact toS_none hts hp a y1 y2
        exact Or.inl (by omega)
    | some a =>
      obtain ⟨q1, q2, q3⟩ := toS_some hts
      obtain ⟨r1, r2, r3, r4⟩ := acts_ok ρ hρ a q2
      rw [q3] at r1 r2 r3 r4
      have ha9 : a < 9 := by have := (jm_len (3 + ρ) (by omega)).2.2.2; omega
      rw [hts] at a2
      have a2 : Rg I1 tx m (p + 1) := a2
      have hS1 := hS0.ft a3 a2 (by omega)
      have hst := sttl_app (r := ρ + 1) U P hU (fun g P' hg => Nat.lt_succ_of_le (hPt g P' hg))
      obtain ⟨cm1, hcm1⟩ : ∃ cm1, (if rkS (tx.getD p 0) = 1 then cm ||| (1 <<< d) else cm) = cm1 := ⟨_, rfl⟩
      have hcj : ∀ j, j < d → cm1.testBit j = cm.testBit j := fun j hj => by
        rw [← hcm1]
        split
        · rw [lor_bit, decide_eq_false (by omega), Bool.or_false]
        · rfl
      have hcd1 : 1 ≤ ρ → cm1.testBit d = cm.testBit d := fun hr => by
        rw [← hcm1, if_neg (by omega)]
      have hcd0 : ρ = 0 → cm1.testBit d = true := fun hr => by
        rw [← hcm1, if_pos (by omega), lor_bit, decide_eq_true rfl, Bool.or_true]
      have hstep : KR tx m p (Q, U ++ P, d, n, cm, true) = KR tx m (p + 1) (C, tx.getD p 0 :: P, d, n, cm1, false) := by
        rw [KR_s hml q1]
        have : kstep (tx.getD p 0) (Q, U ++ P, d, n, cm, true) = some (C, tx.getD p 0 :: P, d, n, cm1, false) := by
          unfold kstep kBehind
          dsimp only
          rw [if_pos rfl, if_neg (by rw [r3]; exact Bool.false_ne_true), if_neg r4, if_neg (by omega), if_neg (fun z => by
            have hr0 : ρ = 0 := by omega
            rw [hbit hr0] at z
            exact absurd z.2 (by decide)), r1, hst, hC, ← hcm1, r1]
        rw [this]
      obtain ⟨I2, p2, ok, f1, f2, f3, f4, f5⟩ := hP L c t I1 (ρ + 1) (p + 1) d C (tx.getD p 0 :: P) n cm1 (by omega) hd (by omega) (fun g P' hg => by cases hg; omega) (fun z => by omega) hS1
      rw [show oi (some a) = n2 a from rfl, l_0, l_1, if_pos (by rw [n2_le (by omega) (by omega)]; omega), n2_add ρ 1, f1, qbnd_s]
      dsimp only
      cases ok with
      | false =>
        obtain ⟨g1, ⟨q, g2, g2b⟩, g3⟩ := f5 rfl
        refine ⟨I2, p2, false, ?_, a3.dz.trans f2, by omega, fun z => absurd z (by decide), fun _ => ⟨g1, ⟨q, g2, by omega⟩, by rw [hstep]; exact g3⟩⟩
        rw [if_pos no_zero, if_pos no_qz]
        rfl
      | true =>
        obtain ⟨C', g1, g2, Q2, U2, n2', cm2, s1, s2, s3, s4, s5, s6, s7⟩ := f4 rfl
        have hpm2 := g1.1.2.2.2.1
        have hv : 2000 + a + [0, 3, 5].getD ρ 0 = itS (tx.getD p 0) := r2.symm
        have hv4 : itS (tx.getD p 0) < 4000 := by
          rw [← hv]
          have : [0, 3, 5].getD ρ 0 ≤ 5 := by
            have e : ρ = 0 ∨ ρ = 1 ∨ ρ = 2 := by omega
            rcases e with rfl | rfl | rfl <;> decide
          omega
        have hcd := x8_codes (L := L) (c := c) (t := t) (v := itS (tx.getD p 0)) g1.2.2.1 (by have := g1.2.2.2.2; omega)
        have hS3 := g1.code (by omega) (itS (tx.getD p 0))
        obtain ⟨J, hJ⟩ : ∃ J, upI (upI I2 214 C'.length (n2 (itS (tx.getD p 0)))) 210 11 (n2 (C'.length + 1)) = J := ⟨_, rfl⟩
        rw [hJ] at hcd hS3
        have hDJ : Dz I J := (a3.dz.trans f2).trans (by rw [← hJ]; exact dz_cd)
        have tail : (if n2 ρ = n2 0 then fX8_readsRank_57 (sX8_readsRank_X8_readsThing k) (fX8_readsRank_16 (sX8_readsRank_X8_readsThing k) y) 210 (n2 ρ) (n2 0) (2000 + n2 a) 210 (mk I2 L c t) else if n2 ρ = n2 1 then fX8_readsRank_57 (sX8_readsRank_X8_readsThing k) (fX8_readsRank_16 (sX8_readsRank_X8_readsThing k) y) 210 (n2 ρ) (3 : Int32) (2000 + n2 a) 210 (mk I2 L c t) else fX8_readsRank_57 (sX8_readsRank_X8_readsThing k) (fX8_readsRank_16 (sX8_readsRank_X8_readsThing k) y) 210 (n2 ρ) (5 : Int32) (2000 + n2 a) 210 (mk I2 L c t)) = fX8_readsRank_16 (sX8_readsRank_X8_readsThing k) y 210 (n2 ρ) (n2 (if ρ = 0 then 0 else 1)) (mk J L c t) := by
          have e : ρ = 0 ∨ ρ = 1 ∨ ρ = 2 := by omega
          rcases e with rfl | rfl | rfl
          · rw [if_pos rfl]
            unfold fX8_readsRank_57
            have hv' : 2000 + a + 0 = itS (tx.getD p 0) := hv
            rw [l_2000, n2_add, n2_add, hv', hcd, qbnd_s]
            dsimp only
            rw [l_0, if_pos (by decide)]
            rfl
          · rw [if_neg one_ne, if_pos rfl]
            unfold fX8_readsRank_57
            rw [l_2000, l_3, n2_add, n2_add]
            have hv' : 2000 + a + 3 = itS (tx.getD p 0) := hv
            rw [hv', hcd, qbnd_s]
            dsimp only
            rw [l_0, l_1, if_neg (by decide)]
            rfl
          · rw [if_neg (by decide), if_neg (by decide)]
            unfold fX8_readsRank_57
            rw [l_2000, l_5, n2_add, n2_add]
            have hv' : 2000 + a + 5 = itS (tx.getD p 0) := hv
            rw [hv', hcd, qbnd_s]
            dsimp only
            rw [l_0, l_1, if_neg (by decide)]
            rfl
        rw [if_neg yes_zero, tail]
        have hC2 : C' ++ [itS (tx.getD p 0)] = Q2 ++ (U2 ++ [tx.getD p 0]).map itS := by
          rw [s2, List.map_append, List.append_assoc]
          rfl
        have hU2 : ∀ g ∈ U2 ++ [tx.getD p 0], ρ + 1 ≤ rkS g := fun g hg => by
          rw [List.mem_append, List.mem_singleton] at hg
          rcases hg with hg | rfl
          · have := s3 g hg; omega
          · omega
        have hKR : KR tx m p (Q, U ++ P, d, n, cm, true) = KR tx m p2 (Q2, (U2 ++ [tx.getD p 0]) ++ P, d, n2', cm2, true) := by
          rw [hstep, s1, List.append_assoc]
          rfl
        have hlen : (C' ++ [itS (tx.getD p 0)]).length = C'.length + 1 := by simp
        by_cases hr0 : ρ = 0
        · -- one comparison alone
          rw [if_pos hr0]
          have hy1 : 1 ≤ y := by omega
          obtain ⟨y', rfl⟩ : ∃ y', y = y' + 1 := ⟨y - 1, by omega⟩
          refine ⟨J, p2, true, ?_, hDJ, by omega, fun _ => ⟨C' ++ [itS (tx.getD p 0)], hS3, by omega, Q2, U2 ++ [tx.getD p 0], n2', cm2, hKR, hC2, hU2, s4, fun j hj => (s5 j hj).trans (hcj j hj), fun z => by omega, fun hp => ?_⟩, fun z => absurd z (by decide)⟩
          · rw [fX8_readsRank_16]
            dsimp only
            rw [l_0, if_pos rfl, l_1, if_pos yes_qz]
            rfl
          · have h1 : rkS (tx.getD p2 0) ≤ ρ + 1 := by
              rcases s7 hp with z | z
              · exact z
              · omega
            by_cases z : rkS (tx.getD p2 0) = 1
            · exact Or.inr ⟨hr0, z, by rw [s6 (by omega)]; exact hcd0 hr0⟩
            · exact Or.inl (by omega)
        · rw [if_neg hr0]
          obtain ⟨I3, p3, ok, v1, v2, v3, v4, v5⟩ := ih p2 J L c t (C' ++ [itS (tx.getD p 0)]) Q2 (U2 ++ [tx.getD p 0]) n2' cm2 (by omega) (by omega) hS3 hC2 hU2 s4 (fun z => absurd z hr0) (fun hp => by
            rcases s7 hp with z | z
            · exact z
            · omega)
          refine ⟨I3, p3, ok, v1, hDJ.trans v2, by omega, fun z => ?_, fun z => ?_⟩
          · obtain ⟨C3, w1, w2, Q3, U3, n3', cm3, x1, x2, x3, x4, x5, x6, x7⟩ := v4 z
            exact ⟨C3, w1, by omega, Q3, U3, n3', cm3, by rw [hKR]; exact x1, x2, x3, x4, fun j hj => (x5 j hj).trans ((s5 j hj).trans (hcj j hj)), fun h1 => (x6 h1).trans ((s6 (by omega)).trans (hcd1 h1)), x7⟩
          · obtain ⟨w1, ⟨q, w2, w3⟩, w4⟩ := v5 z
            exact ⟨w1, ⟨q, w2, by omega⟩, by rw [hKR]; exact w4⟩
theorem pr_s {k : Nat} (hm40 : m ≤ 40) (hml : m ≤ tx.length) (hT : PT tx m k) (hP : PR tx m k) : PR tx m (k + 1) := by
  intro L c t I ρ p d C P n cm hρ hd hk hPt hbit hS
  show ∃ I' p' ok, fX8_readsRank (sX8_readsRank_X8_readsThing k) 210 (n2 ρ) (mk I L c t) = _ ∧ _
  unfold fX8_readsRank
  rw [if_pos (by rw [kk_210])]
  unfold gX8_readsRank
  rw [l_3]
  by_cases e3 : ρ = 3
  · subst e3
    obtain ⟨I2, p2, ok, f1, f2⟩ := hT L c t I p d C P n cm hd (by omega) hS
    refine ⟨I2, p2, ok, ?_, f2⟩
    rw [if_pos rfl, f1, qbnd_s]
    dsimp only
    rw [if_pos (qz_b ok)]
  · obtain ⟨I2, p2, ok, f1, f2, f3, f4, f5⟩ := hP L c t I (ρ + 1) p d C P n cm (by omega) hd (by omega) (fun g P' hg => Nat.le_succ_of_le (hPt g P' hg)) (fun z => by omega) hS
    rw [if_neg (by rw [n2_eq (by omega) (by omega)]; exact e3), l_1, n2_add, f1, qbnd_s]
    dsimp only
    cases ok with
    | false =>
      refine ⟨I2, p2, false, ?_, f2, f3, fun z => absurd z (by decide), fun z => f5 z⟩
      rw [l_0, if_pos no_zero, if_pos no_qz]
      rfl
    | true =>
      obtain ⟨C', g1, g2, Q2, U2, n2', cm2, s1, s2, s3, s4, s5, s6, s7⟩ := f4 rfl
      obtain ⟨I3, p3, ok, v1, v2, v3, v4, v5⟩ := pr_loop hm40 hml hP (show ρ < 3 by omega) hd hPt qfu p2 I2 L c t C' Q2 U2 n2' cm2 (by rw [qfu_eq]; omega) (by omega) g1 s2 (fun g hg => by have := s3 g hg; omega) s4 (fun z => by rw [s6 (by omega)]; exact hbit z) (fun hp => by
        rcases s7 hp with z | z
        · exact z
        · omega)
      refine ⟨I3, p3, ok, ?_, f2.trans v2, by omega, fun z => ?_, fun z => ?_⟩
      · rw [l_0, if_neg yes_zero]
        exact v1
      · obtain ⟨C3, w1, w2, Q3, U3, n3', cm3, x1, x2, x3, x4, x5, x6, x7⟩ := v4 z
        exact ⟨C3, w1, by omega, Q3, U3, n3', cm3, by rw [s1]; exact x1, x2, x3, x4, fun j hj => (x5 j hj).trans (s5 j hj), fun h1 => (x6 h1).trans (s6 (by omega)), x7⟩
      · obtain ⟨w1, ⟨q, w2, w3⟩, w4⟩ := v5 z
        exact ⟨w1, ⟨q, w2, by omega⟩, by rw [s1]; exact w4⟩
theorem ptr_ok (hm40 : m ≤ 40) (hml : m ≤ tx.length) : ∀ k, PT tx m k ∧ PR tx m k := by
  intro k
  induction k with
  | zero => exact ⟨fun L c t I p d C P n cm _ h => by omega, fun L c t I ρ p d C P n cm _ _ h => by omega⟩
  | succ k ih => exact ⟨pt_s hm40 hml ih.1 ih.2, pr_s hm40 hml ih.1 ih.2⟩
end S9M

/-! PURE SIDE, THE REFERENCE: the cheapest, felling -/
section S8N
variable {I : Nat → Nat → Int32} {L : Nat → Nat → Int64} {c t r N T n : Nat} {s : St} {μ : qM} {cs : List Nat}
theorem x8_cheapest (hr : r = 217 ∨ r = 218) (hR : R8 (I r) s) (hB : Bd s) (hC : CdW I cs) : ∃ I', fX8_cheapest 210 r (mk I L c t) = some (oi ((cheapS s cs).map (·.1)), 0, mk I' L c t) ∧ ∀ b i, b ≠ 215 → b ≠ 216 → I' b i = I b i := by
  unfold fX8_cheapest
  rw [if_pos (by rw [kk_210])]
  unfold gX8_cheapest
  rw [x8_ringed hr hR hB, qbnd_s]
  dsimp only
  rw [l_0, l_1]
  refine lp_rk (α := (Nat → Nat → Int32) × Option (Nat × Int32)) (fun m k z => fX8_cheapest_7 m 210 r (n2 (bits8 fun j => rch s j j)) (oi (z.2.map (·.1))) (n2 k) (mk z.1 L c t)) 8
    (fun k z => (∀ b i, b ≠ 215 → b ≠ 216 → z.1 b i = I b i) ∧ z.2 = (List.range k).foldl (chStep s cs) none ∧ (∀ y, z.2 = some y → y.1 < 8 ∧ y.2 = costS s cs y.1))
    (fun q => ∃ I', q = some (oi ((cheapS s cs).map (·.1)), 0, mk I' L c t) ∧ ∀ b i, b ≠ 215 → b ≠ 216 → I' b i = I b i) (k0 := 0) (by omega) (by omega) (I, none) ⟨fun _ _ _ _ => rfl, rfl, fun y hy => by cases hy⟩ (fun m k z _ hk hi => Or.inr ?_) (fun m z hi => ?_)
  · obtain ⟨K, f⟩ := z
    obtain ⟨i1, i2, i3⟩ := hi
    dsimp only at i1 i2 i3
    have hKr : K r = I r := by funext i; exact i1 _ _ (by omega) (by omega)
    have hRK : R8 (K r) s := by rw [hKr]; exact hR
    have hCK : CdW K cs := hC.on (i1 _ _ (by omega) (by omega)) fun i => i1 _ _ (by omega) (by omega)
    have hrs : (List.range (k + 1)).foldl (chStep s cs) none = chStep s cs f k := by
      rw [List.range_succ, List.foldl_append, List.foldl_cons, List.foldl_nil, i2]
    have head : fX8_cheapest_7 (m + 1) 210 r (n2 (bits8 fun j => rch s j j)) (oi (f.map (·.1))) (n2 k) (mk K L c t) = if rch s k k = true then (if n2 0 ≤ oi (f.map (·.1)) then
          qbnd (fX8_cost 210 r (n2 k) (mk K L c t)) fun r2 =>
          qbnd (fX8_cost 210 r (oi (f.map (·.1))) r2.2.2) fun r3 =>
          qbnd (fJ6_compare_7cf53 r2.1 r3.1 r3.2.2) fun r4 =>
          fX8_cheapest_27 (fX8_cheapest_7 m) 210 r (n2 (bits8 fun j => rch s j j)) (oi (f.map (·.1))) (n2 k) r4.1 r4.2.2
        else
          fX8_cheapest_27 (fX8_cheapest_7 m) 210 r (n2 (bits8 fun j => rch s j j)) (oi (f.map (·.1))) (n2 k) (-n2 1) (mk K L c t)) else fX8_cheapest_7 m 210 r (n2 (bits8 fun j => rch s j j)) (oi (f.map (·.1))) (n2 (k + 1)) (mk K L c t) := by
      rw [fX8_cheapest_7]
      dsimp only
      rw [l_8, if_neg (by rw [n2_le (by omega) (by omega)]; omega), x8_hasB _ hk, qbnd_s]
      dsimp only
      rw [l_0, l_1, n2_add]
      rcases bcs (rch s k k) with e | e
      · rw [e, if_pos no_zero, if_neg Bool.false_ne_true]
      · rw [e, if_neg yes_zero, if_pos rfl]
    rcases bcs (rch s k k) with e | e
    · refine ⟨(K, f), ?_, i1, ?_, i3⟩
      · show fX8_cheapest_7 (m + 1) 210 r (n2 (bits8 fun j => rch s j j)) (oi (f.map (·.1))) (n2 k) (mk K L c t) = _
        rw [head, e, if_neg Bool.false_ne_true]
      · show f = _
        rw [hrs]; unfold chStep; rw [if_neg (by rw [e]; simp)]
    · cases f with
      | none =>
        refine ⟨(K, some (k, costS s cs k)), ?_, i1, ?_, fun y hy => by cases hy; exact ⟨hk, rfl⟩⟩
        · show fX8_cheapest_7 (m + 1) 210 r (n2 (bits8 fun j => rch s j j)) (oi (Option.map (·.1) (none : Option (Nat × Int32)))) (n2 k) (mk K L c t) = fX8_cheapest_7 m 210 r (n2 (bits8 fun j => rch s j j)) (n2 k) (n2 (k + 1)) (mk K L c t)
          rw [head, if_pos e, if_neg (show ¬ n2 0 ≤ oi (Option.map (·.1) (none : Option (Nat × Int32))) by decide)]
          unfold fX8_cheapest_27
          rw [l_0, l_1, if_pos (show -n2 1 < n2 0 by decide), n2_add]
        · show some (k, costS s cs k) = _
          rw [hrs]; unfold chStep; rw [if_pos e]
      | some y =>
        obtain ⟨hy, hyc⟩ := i3 y rfl
        have hyb := hB.ow hy
        have oy : oi (Option.map (fun x => x.1) (some y)) = n2 y.1 := rfl
        obtain ⟨K2, q1, q2⟩ := x8_cost (L := L) (c := c) (t := t) hr hRK hB hCK hk
        have hK2r : K2 r = K r := by funext i; exact q2 _ _ (by omega) (by omega)
        have hCK2 : CdW K2 cs := hCK.on (q2 _ _ (by omega) (by omega)) fun i => q2 _ _ (by omega) (by omega)
        obtain ⟨K3, q3, q4⟩ := x8_cost (L := L) (c := c) (t := t) (I := K2) hr (by rw [hK2r]; exact hRK) hB hCK2 hy
        have hK3 : ∀ b i, b ≠ 215 → b ≠ 216 → K3 b i = I b i := fun b i h5 h6 => (q4 b i h5 h6).trans ((q2 b i h5 h6).trans (i1 b i h5 h6))
        have hK3r : K3 r = I r := by funext i; exact hK3 _ _ (by omega) (by omega)
        have hRK3 : R8 (K3 r) s := by rw [hK3r]; exact hR
        rw [← hyc] at q3
        have head2 : fX8_cheapest_7 (m + 1) 210 r (n2 (bits8 fun j => rch s j j)) (oi (Option.map (fun x => x.1) (some y))) (n2 k) (mk K L c t) = if costS s cs k < y.2 ∨ (costS s cs k = y.2 ∧ ¬ n2 (s 86 k) ≤ n2 (s 86 y.1)) then fX8_cheapest_7 m 210 r (n2 (bits8 fun j => rch s j j)) (n2 k) (n2 (k + 1)) (mk K3 L c t) else fX8_cheapest_7 m 210 r (n2 (bits8 fun j => rch s j j)) (n2 y.1) (n2 (k + 1)) (mk K3 L c t) := by
          rw [head, oy, if_pos e, if_pos (by rw [n2_le (by omega) (by omega)]; omega), q1, qbnd_s]
          dsimp only
          rw [q3, qbnd_s]
          dsimp only
          have hcmp : ∀ (a b : Int32) (μ : qM), fJ6_compare_7cf53 a b μ = some (if a < b then -n2 1 else if a = b then n2 0 else n2 1, 0, μ) := by
            intro a b μ
            unfold fJ6_compare_7cf53
            rw [l_0, l_1]
            by_cases h : a < b
            · rw [if_neg (by rw [Int32.not_le]; exact h), if_pos h]
            · rw [if_pos (Int32.not_lt.mp h), if_neg h]
              by_cases h2 : a = b
              · rw [if_pos h2, if_pos h2]
              · rw [if_neg h2, if_neg h2]
          rw [hcmp, qbnd_s]
          dsimp only
          unfold fX8_cheapest_27
          rw [l_0, l_1, l_688, n2_add, n2_add, n2_add, r8L hr (by omega) (hRK3.2.1 k hk).2.1, qbnd_s, r8L hr (by omega) (hRK3.2.1 y.1 hy).2.1, qbnd_s]
          by_cases c1 : costS s cs k < y.2
          · rw [if_pos c1, if_pos (show -n2 1 < n2 0 by decide), if_pos (Or.inl c1)]
          · rw [if_neg c1]
            by_cases c2 : costS s cs k = y.2
            · rw [if_pos c2, if_neg (show ¬ n2 0 < n2 0 by decide), if_pos rfl]
              by_cases c3 : n2 (s 86 k) ≤ n2 (s 86 y.1)
              · rw [if_pos c3, if_neg (fun z => by rcases z with z | z; exact c1 z; exact z.2 c3)]
              · rw [if_neg c3, if_pos (Or.inr ⟨c2, c3⟩)]
            · rw [if_neg c2, if_neg (show ¬ n2 1 < n2 0 by decide), if_neg (show ¬ n2 1 = n2 0 by decide), if_neg (fun z => by rcases z with z | z; exact c1 z; exact c2 z.1)]
        by_cases c1 : costS s cs k < y.2 ∨ (costS s cs k = y.2 ∧ ¬ n2 (s 86 k) ≤ n2 (s 86 y.1))
        · rw [if_pos c1] at head2
          refine ⟨(K3, some (k, costS s cs k)), head2, hK3, ?_, fun z hz => by cases hz; exact ⟨hk, rfl⟩⟩
          show some (k, costS s cs k) = _
          rw [hrs]; unfold chStep; rw [if_pos e]; dsimp only; rw [if_pos c1]
        · rw [if_neg c1] at head2
          refine ⟨(K3, some y), head2, hK3, ?_, i3⟩
          show some y = _
          rw [hrs]; unfold chStep; rw [if_pos e]; dsimp only; rw [if_neg c1]
  · obtain ⟨K, f⟩ := z
    obtain ⟨i1, i2, i3⟩ := hi
    dsimp only at i1 i2 i3
    refine ⟨K, ?_, i1⟩
    unfold cheapS
    rw [← i2]
    show fX8_cheapest_7 (m + 1) 210 r (n2 (bits8 fun j => rch s j j)) (oi (f.map (·.1))) (n2 8) (mk K L c t) = _
    rw [fX8_cheapest_7]
    dsimp only
    rw [l_8, if_pos (by rw [n2_le (by omega) (by omega)]; omega)]
/-- how many are there -/
def nHr (s : St) : Nat := sum8 fun o => bn (decide (s 85 o ≠ 0))
theorem nHr_le (s : St) : nHr s ≤ 8 := by
  unfold nHr sum8
  have := fun o => bn_le (decide (s 85 o ≠ 0))
  dsimp only
  have h0 := this 0; have h1 := this 1; have h2 := this 2; have h3 := this 3; have h4 := this 4; have h5 := this 5; have h6 := this 6; have h7 := this 7
  omega
theorem wlk_2 {s : St} {g : Nat} (n o : Nat) (h : wlk s g (n + 1) o = true) : s 85 o = 2 := by
  rw [wlk, List.any_eq_true] at h
  obtain ⟨k, -, hk⟩ := h
  simp only [wfr, Bool.and_eq_true, decide_eq_true_eq] at hk
  exact hk.1.1.1
theorem cheap_2 {s : St} {cs : List Nat} {z : Nat × Int32} (h : cheapS s cs = some z) : s 85 z.1 = 2 := by
  obtain ⟨h1, h2, -⟩ := cheapS_lt h
  obtain ⟨n, hn⟩ := (rch_wlk h1 h1).mp h2
  exact wlk_2 n _ hn
theorem nHr_fell {s : St} {cs : List Nat} {z : Nat × Int32} (h : Gd N s) (hc : cheapS s cs = some z) : nHr (leaveS (su s 88 z.1 (f99 s z.1)) z.1) + 1 ≤ nHr s := by
  obtain ⟨h1, -, -⟩ := cheapS_lt hc
  have h2 := cheap_2 hc
  have hg := gd_fall (o := z.1) h
  obtain ⟨-, -, hc3, -⟩ := leave_ok (o := z.1) hg.1 hg.2.1 h1
  have k0 : leaveS (su s 88 z.1 (f99 s z.1)) z.1 85 z.1 = 0 := by
    have e0 : awy (su s 88 z.1 (f99 s z.1)) z.1 85 z.1 = 0 := awy_lo (by omega)
    rw [hc3 z.1 h1 (by rw [e0]; omega) 85 (by omega), e0]
  have kj : ∀ j, j < 8 → s 85 j = 0 → leaveS (su s 88 z.1 (f99 s z.1)) z.1 85 j = 0 := by
    intro j hj hz
    by_cases e : j = z.1
    · rw [e]; exact k0
    · have e0 : awy (su s 88 z.1 (f99 s z.1)) z.1 85 j = 0 := by rw [awy_ne e, su_ne (by omega)]; exact hz
      rw [hc3 j hj (by rw [e0]; omega) 85 (by omega), e0]
  have hm : sum8 (fun o => bn (decide (leaveS (su s 88 z.1 (f99 s z.1)) z.1 85 o ≠ 0))) ≤ sum8 (fun o => if o = z.1 then 0 else bn (decide (s 85 o ≠ 0))) := sum8_mono fun j hj => by
    by_cases e : j = z.1
    · rw [if_pos e, e, k0]; decide
    · rw [if_neg e]
      by_cases e2 : s 85 j = 0
      · rw [kj j hj e2]; simp [bn]
      · rw [decide_eq_true e2]; exact bn_le _
  have hu := sum8_upd (f := fun o => bn (decide (s 85 o ≠ 0))) (f' := fun o => if o = z.1 then 0 else bn (decide (s 85 o ≠ 0))) h1 (fun j hj hjo => by
    rw [if_neg hjo])
  rw [if_pos rfl, h2] at hu
  have hb1 : bn (decide ((2 : Nat) ≠ 0)) = 1 := by decide
  rw [hb1] at hu
  unfold nHr
  omega
theorem nHr_0 {s : St} {cs : List Nat} (h : nHr s = 0) : cheapS s cs = none := by
  cases hc : cheapS s cs with
  | none => rfl
  | some z =>
    have h1 := (cheapS_lt hc).1
    have h2 := cheap_2 hc
    have h3 : bn (decide (s 85 z.1 ≠ 0)) ≤ nHr s := sum8_le (f := fun o => bn (decide (s 85 o ≠ 0))) h1
    rw [h2, h] at h3
    exact absurd h3 (by decide)
theorem x8_fellsAll (hr : r = 217 ∨ r = 218) (hR : R8 (I r) s) {G : Nat → Bool} (hG : I 210 16 = n2 (bits8 G)) (h : Gd N s) (hN : N < 900000000) (hC : CdW I cs) : ∃ I' G', fX8_fellsAll 210 r (mk I L c t) = some (n2 (fellS 8 s cs).1.length, 0, mk I' L c t) ∧ R8 (I' r) (fellS 8 s cs).2 ∧ I' 210 16 = n2 (bits8 G') ∧ F9 I I' r ∧ (∀ i, i < (fellS 8 s cs).1.length → I' 219 i = n2 ((fellS 8 s cs).1.getD i 0)) := by
  unfold fX8_fellsAll
  rw [if_pos (by rw [kk_210])]
  unfold gX8_fellsAll
  obtain ⟨fin, hfin⟩ : ∃ fin, fellS 8 s cs = fin := ⟨_, rfl⟩
  rw [hfin]
  obtain ⟨J, q1, q2⟩ := x8_cheapest (L := L) (c := c) (t := t) hr hR (gd_bd h (by omega)) hC
  rw [q1, qbnd_s]
  dsimp only
  rw [l_0]
  have hJr : J r = I r := by funext i; exact q2 _ _ (by omega) (by omega)
  refine lp_rk (α := (Nat → Nat → Int32) × St × List Nat × (Nat → Bool)) (fun m k z => fX8_fellsAll_6 m 210 r (n2 z.2.2.1.length) (oi ((cheapS z.2.1 cs).map (·.1))) (mk z.1 L c t)) 8
    (fun k z => R8 (z.1 r) z.2.1 ∧ Gd N z.2.1 ∧ F9 I z.1 r ∧ z.2.2.1.length = k ∧ z.2.2.1 ++ (fellS (8 - k) z.2.1 cs).1 = fin.1 ∧ (fellS (8 - k) z.2.1 cs).2 = fin.2 ∧ (∀ i, i < k → z.1 219 i = n2 (z.2.2.1.getD i 0)) ∧ z.1 210 16 = n2 (bits8 z.2.2.2) ∧ nHr z.2.1 + k ≤ 8)
    (fun q => ∃ I' G', q = some (n2 fin.1.length, 0, mk I' L c t) ∧ R8 (I' r) fin.2 ∧ I' 210 16 = n2 (bits8 G') ∧ F9 I I' r ∧ (∀ i, i < fin.1.length → I' 219 i = n2 (fin.1.getD i 0))) (k0 := 0) (by omega) (by omega) (J, s, [], G) ⟨by dsimp only; rw [hJr]; exact hR, h, fun b i _ _ h5 h6 _ => q2 b i h5 h6, rfl, by rw [← hfin]; rfl, by rw [← hfin], fun i hi => absurd hi (Nat.not_lt_zero i), by dsimp only; rw [q2 _ _ (by omega) (by omega)]; exact hG, nHr_le s⟩ (fun m k z _ hk hi => ?_) (fun m z hi => ?_)
  · obtain ⟨K, s1, l, G1⟩ := z
    obtain ⟨i1, i2, i3, i4, i5, i6, i7, i8, i9⟩ := hi
    dsimp only at i1 i2 i3 i4 i5 i6 i7 i8 i9
    have hCK : CdW K cs := hC.on (i3 _ _ (by omega) (by omega) (by omega) (by omega) (by omega)) fun i => i3 _ _ (by omega) (by omega) (by omega) (by omega) (by omega)
    rw [show 8 - k = (7 - k) + 1 by omega] at i5 i6
    simp only [fellS] at i5 i6
    show (∃ I' G', fX8_fellsAll_6 (m + 1) 210 r (n2 l.length) (oi ((cheapS s1 cs).map (·.1))) (mk K L c t) = _ ∧ _) ∨ ∃ a', fX8_fellsAll_6 (m + 1) 210 r (n2 l.length) (oi ((cheapS s1 cs).map (·.1))) (mk K L c t) = _ ∧ _
    rw [fX8_fellsAll_6]
    dsimp only
    rw [l_0]
    cases hc : cheapS s1 cs with
    | none =>
      left
      rw [hc] at i5 i6
      rw [List.append_nil] at i5
      refine ⟨K, G1, ?_, by rw [← i6]; exact i1, i8, i3, fun i hi => ?_⟩
      · rw [if_pos (show oi (Option.map (fun x => x.1) (none : Option (Nat × Int32))) < n2 0 by decide), ← i5]
      · rw [← i5] at hi ⊢
        exact i7 i (by omega)
    | some y =>
      right
      rw [hc] at i5 i6
      dsimp only at i5 i6
      obtain ⟨y1, y2, y3⟩ := cheapS_lt hc
      have hnf := nHr_fell i2 hc
      have hB := (i2.1.bd (show N < 1000000000 by omega)).ow y1
      have oy : oi (Option.map (fun x => x.1) (some y)) = n2 y.1 := rfl
      have hg := gd_fall (o := y.1) i2
      have hr9 : r ≠ 219 := by omega
      have w1 : R8 ((upI (upI K 219 k (n2 y.1)) r (704 + y.1) (n2 (f99 s1 y.1))) r) (su s1 88 y.1 (f99 s1 y.1)) := R8.own (I := upI K 219 k (n2 y.1)) (k := 3) (v := f99 s1 y.1) (by rw [show (upI K 219 k (n2 y.1)) r = K r from by funext i; exact upI_ne hr9]; exact i1) y1 (by omega) (fun z => by omega)
      have g1 : (upI (upI K 219 k (n2 y.1)) r (704 + y.1) (n2 (f99 s1 y.1))) 210 16 = n2 (bits8 G1) := by rw [upI_ne (by omega), upI_ne (by omega)]; exact i8
      obtain ⟨K3, G3, a1, a2, a3, a4⟩ := x8_goes (L := L) (c := c) (t := t) hr (show N < 1000000000 by omega) y1 w1 g1 hg.1 hg.2.1
      have hgl := gd_leave hg y1
      have f2 : F9 K (upI (upI K 219 k (n2 y.1)) r (704 + y.1) (n2 (f99 s1 y.1))) r := fun b i h1 h2 h5 h6 h9 => by rw [upI_ne h1, upI_ne h9]
      have f3 : F9 I K3 r := i3.trans (f2.trans a4.f9)
      have hCK3 : CdW K3 cs := hC.on (f3 _ _ (by omega) (by omega) (by omega) (by omega) (by omega)) fun i => f3 _ _ (by omega) (by omega) (by omega) (by omega) (by omega)
      obtain ⟨K4, b1, b2⟩ := x8_cheapest (L := L) (c := c) (t := t) hr a2 (gd_bd hgl (by omega)) hCK3
      have hK4r : K4 r = K3 r := by funext i; exact b2 _ _ (by omega) (by omega)
      have hfl : (if n2 (s1 88 y.1) + n2 1 < n2 99 then n2 (s1 88 y.1) + n2 1 else n2 99) = n2 (f99 s1 y.1) := by
        unfold f99
        rw [n2_add]
        by_cases e3 : s1 88 y.1 + 1 < 99
        · rw [if_pos (by rw [n2_lt (by omega) (by omega)]; exact e3), if_pos e3]
        · rw [if_neg (by rw [n2_lt (by omega) (by omega)]; exact e3), if_neg e3]
      have q704 : (upI K 219 k (n2 y.1)) r (704 + y.1) = n2 (s1 88 y.1) := by rw [upI_ne hr9]; exact (i1.2.1 y.1 y1).2.2.2.1
      have h219 : ∀ i, K4 219 i = (upI K 219 k (n2 y.1)) 219 i := fun i => by rw [b2 _ _ (by omega) (by omega), a4 _ _ (by omega) (by omega), upI_ne (by omega)]
      refine ⟨(K4, leaveS (su s1 88 y.1 (f99 s1 y.1)) y.1, l ++ [y.1], G3), ?_, by dsimp only; rw [hK4r]; exact a2, hgl, f3.trans (fun b i _ _ h5 h6 _ => b2 b i h5 h6), by simp [i4], ?_, ?_, fun i hi => ?_, by dsimp only; rw [b2 _ _ (by omega) (by omega)]; exact a3, by show nHr (leaveS (su s1 88 y.1 (f99 s1 y.1)) y.1) + (k + 1) ≤ 8; omega⟩
      · have hl1 : (l ++ [y.1]).length = l.length + 1 := by simp
        show _ = fX8_fellsAll_6 m 210 r (n2 (l ++ [y.1]).length) (oi ((cheapS (leaveS (su s1 88 y.1 (f99 s1 y.1)) y.1) cs).map (·.1))) (mk K4 L c t)
        rw [oy, if_neg (by rw [n2_lt (by omega) (by omega)]; omega), g210_17, qbnd_s, i4, sd219 (by omega), qbnd_s, l_704, n2_add, r8L hr (by omega) q704, qbnd_s, l_1, l_99, hfl, rw_S hr (by omega), qbnd_s, a1, qbnd_s]
        dsimp only
        rw [b1, qbnd_s]
        dsimp only
        rw [n2_add, hl1, i4]
      · show l ++ [y.1] ++ (fellS (8 - (k + 1)) _ cs).1 = fin.1
        rw [show 8 - (k + 1) = 7 - k by omega, List.append_assoc]
        exact i5
      · show (fellS (8 - (k + 1)) _ cs).2 = fin.2
        rw [show 8 - (k + 1) = 7 - k by omega]
        exact i6
      · show K4 219 i = n2 ((l ++ [y.1]).getD i 0)
        rw [h219]
        by_cases ei : i = k
        · rw [ei, upI_eq, List.getD_eq_getElem?_getD, List.getElem?_append_right (by omega), i4, Nat.sub_self]
          rfl
        · rw [upI_ni ei, i7 i (by omega), List.getD_eq_getElem?_getD, List.getD_eq_getElem?_getD, List.getElem?_append_left (by omega)]
  · obtain ⟨K, s1, l, G1⟩ := z
    obtain ⟨i1, i2, i3, i4, i5, i6, i7, i8, i9⟩ := hi
    dsimp only at i1 i2 i3 i4 i5 i6 i7 i8 i9
    rw [Nat.sub_self] at i5 i6
    simp only [fellS, List.append_nil] at i5 i6
    refine ⟨K, G1, ?_, by rw [← i6]; exact i1, i8, i3, fun i hi => ?_⟩
    · rw [← i5]
      show fX8_fellsAll_6 (m + 1) 210 r (n2 l.length) (oi ((cheapS s1 cs).map (·.1))) (mk K L c t) = _
      rw [fX8_fellsAll_6]
      dsimp only
      rw [l_0, nHr_0 (show nHr s1 = 0 by omega), if_pos (show oi (Option.map (fun x => x.1) (none : Option (Nat × Int32))) < n2 0 by decide)]
    · rw [← i5] at hi ⊢
      exact i7 i (by omega)
end S8N

/-! PURE SIDE, THE DESK: granting and clearing keep what always holds -/
theorem iv_grt {T : Nat} {s : St} {o p : Nat} (h : Iv T s) (ho : o < 8) (hp : p < 85) (hat : s 89 o = p) (c : Nat) (hT : s 94 0 + pot s ≤ c) (hc : c - (3 - lev p) ≤ T) : Iv T (grt s o) ∧ (grt s o) 94 0 + pot (grt s o) + (3 - lev p) ≤ c ∧ Wt (grt s o) + 1 = Wt s := by
  have hw := h.w ho hp hat
  obtain ⟨h1, h2, h3, h4, h5, h6, h7, h8, h9, h10, h11⟩ := h
  have e : ∀ k j, j ≠ o → grt s o k j = s k j := fun k j hj => grt_ne hj
  have f85 : grt s o 85 o = 1 := by simp [grt_at]
  have f89 : grt s o 89 o = 85 := by simp [grt_at]
  have f9 : ∀ k, 86 ≤ k → k ≠ 89 → ∀ j, grt s o k j = s k j := fun k hk hk2 j => by
    rw [grt_at, if_neg (by omega), if_neg (by omega), if_neg (by omega)]
  have hs := sum8_upd (f := fun j => if s 89 j < 85 then 3 - lev (s 89 j) else 0) (f' := fun j => if grt s o 89 j < 85 then 3 - lev (grt s o 89 j) else 0) ho (fun j hj hjo => by
    rw [e 89 j hjo])
  rw [f89, hat, if_pos hp, if_neg (show ¬ (85 : Nat) < 85 by omega)] at hs
  have hs2 := sum8_upd (f := fun j => bn (decide (s 85 j = 2))) (f' := fun j => bn (decide (grt s o 85 j = 2))) ho (fun j hj hjo => by
    rw [e 85 j hjo])
  rw [f85, hw] at hs2
  have hl := lev_le p
  have hpot : (grt s o) 94 0 + pot (grt s o) + (3 - lev p) ≤ c := by
    rw [f9 94 (by omega) (by omega) 0]
    unfold pot at hT ⊢
    omega
  refine ⟨⟨fun q j hq hj => ?_, fun j hj => ?_, fun j hj hwj => ?_, fun j hj hwj => ?_, fun i j hi hj hwi hwj ht => ?_, fun q' j hq1 hq2 hj hz => ?_, fun q j hq hj hz => ?_, by omega, ?_, ?_, ?_⟩, hpot, ?_⟩
  · rw [grt_lo hq]
    split
    · exact (h2 o ho).2.2.2.1
    · exact h1 q j hq hj
  · have := h2 j hj
    rw [f9 87 (by omega) (by omega), f9 88 (by omega) (by omega), f9 90 (by omega) (by omega), f9 91 (by omega) (by omega), f9 92 (by omega) (by omega), f9 93 (by omega) (by omega), f9 94 (by omega) (by omega)]
    refine ⟨?_, this.2⟩
    by_cases hjo : j = o
    · rw [hjo, f85]; omega
    · rw [e 85 j hjo]; exact this.1
  · by_cases hjo : j = o
    · rw [hjo, f85] at hwj; cases hwj
    · rw [e 85 j hjo] at hwj
      rw [e 89 j hjo, f9 90 (by omega) (by omega), f9 91 (by omega) (by omega), f9 92 (by omega) (by omega), f9 93 (by omega) (by omega), f9 94 (by omega) (by omega)]
      exact h3 j hj hwj
  · by_cases hjo : j = o
    · rw [hjo, f89]
    · rw [e 85 j hjo] at hwj
      rw [e 89 j hjo]
      exact h4 j hj hwj
  · have hio : i ≠ o := fun z => by rw [z, f85] at hwi; cases hwi
    have hjo : j ≠ o := fun z => by rw [z, f85] at hwj; cases hwj
    rw [e 85 i hio] at hwi
    rw [e 85 j hjo] at hwj
    rw [f9 91 (by omega) (by omega), f9 91 (by omega) (by omega)] at ht
    exact h5 i j hi hj hwi hwj ht
  · have hwo := (h3 o ho hw).2.2.2.1
    have key : s (par q') j ≠ 0 := by
      rcases hz with hz | hz
      · rw [grt_lo hq2] at hz
        split at hz
        · rename_i hcc
          rw [hcc.2]
          exact h6 q' o hq1 hq2 ho (Or.inr hcc.1.symm)
        · exact h6 q' j hq1 hq2 hj (Or.inl hz)
      · by_cases hjo : j = o
        · rw [hjo, f89] at hz; omega
        · rw [e 89 j hjo] at hz
          exact h6 q' j hq1 hq2 hj (Or.inr hz)
    rw [grt_lo (par_lt hq2)]
    split
    · omega
    · exact key
  · have hjo : j ≠ o := fun z => by rw [z, f85] at hz; cases hz
    rw [e 85 j hjo] at hz
    rw [e q j hjo]
    exact h7 q j hq hj hz
  · rw [f9 94 (by omega) (by omega)]; exact h9
  · rw [f9 94 (by omega) (by omega)]; exact h10
  · rw [f9 94 (by omega) (by omega)]; exact h11
  · unfold Wt
    simp [bn] at hs2 ⊢
    omega
theorem blk_grt {T : Nat} {s : St} {U : List Nat} {o p : Nat} (h : Iv T s) (ho : o < 8) (hp : p < 85) (hat : s 89 o = p) (hB : Blk s (p :: U)) : Blk (grt s o) (p :: U) := by
  intro p' x hp' hpU hx
  rw [List.mem_cons, not_or] at hpU
  have f89 : grt s o 89 o = 85 := by simp [grt_at]
  have hxo : x ≠ o := fun z => by have := hx.2.1; rw [z, f89] at this; omega
  have e : ∀ k j, j ≠ o → grt s o k j = s k j := fun k j hj => grt_ne hj
  have hx0 : Hd s p' x := by
    refine hx.congr (fun j hj hj2 => ?_) (fun j hj hj2 => ?_)
    · have hjo : j ≠ o := fun z => by rw [z, f89] at hj2; omega
      refine ⟨by rw [← e 89 j hjo]; exact hj2, e 91 j hjo, ?_⟩
      unfold chg
      rw [e 89 j hjo, e _ j hjo]
    · have hjo : j ≠ o := fun z => by rw [z, hat] at hj2; exact hpU.1 hj2.symm
      left
      rw [e 89 j hjo]; exact hj2
  obtain ⟨j, j1, j2, j3⟩ := fitb_iff.mp (hB p' x hp' (by rw [List.mem_cons, not_or]; exact hpU) hx0)
  refine fitb_iff.mpr ⟨j, j1, j2, ?_⟩
  rw [e 90 x hxo, grt_lo hp', if_neg (by rw [hat]; exact fun z => hpU.1 z.1)]
  exact j3
/-- all that are granted at a place -/
def GrOk (T c : Nat) (U : List Nat) (p : Nat) (s : St) (z : St × List Nat) : Prop :=
  Iv T z.1 ∧ Blk z.1 U ∧ z.1 94 0 + pot z.1 + z.2.length * (3 - lev p) ≤ c ∧ Wt z.1 + z.2.length = Wt s ∧
    (∀ o ∈ z.2, o < 8 ∧ s 89 o = p ∧ z.1 85 o = 1 ∧ z.1 p o ≠ 0 ∧ ∀ k, 86 ≤ k → k ≤ 93 → k ≠ 89 → z.1 k o = s k o) ∧ (∀ j, j ∉ z.2 → Cf s z.1 j) ∧ z.2.Nodup ∧ (∀ j, j ≠ 0 → z.1 94 j = s 94 j)
theorem grants_ok {U : List Nat} {p : Nat} (hp : p < 85) : ∀ (n T c : Nat) (s : St), Iv T s → Blk s (p :: U) → Wt s ≤ n → s 94 0 + pot s ≤ c → c ≤ T → GrOk T c U p s (grantsS n s p) := by
  intro n
  induction n with
  | zero =>
    intro T c s h hB hW hc hT
    refine ⟨h, fun p' x hp' hpU hx => ?_, by simpa [grantsS] using hc, rfl, fun o ho => (by cases ho), fun j _ => Cf.rf _ _, List.nodup_nil, fun _ _ => rfl⟩
    by_cases e : p' = p
    · have h1 : bn (decide (s 85 x = 2)) ≤ Wt s := sum8_le (f := fun o => bn (decide (s 85 o = 2))) hx.1
      have h2 : s 85 x = 2 := h.w hx.1 hp' hx.2.1
      rw [h2] at h1
      simp [bn] at h1
      omega
    · exact hB p' x hp' (by rw [List.mem_cons, not_or]; exact ⟨e, hpU⟩) hx
  | succ n ih =>
    intro T c s h hB hW hc hT
    obtain ⟨f1, f2⟩ := fiq_hd h hp
    have done : (∀ o, Hd s p o → fitb s o p (s 90 o) = false) → GrOk T c U p s (s, []) := fun hh => ⟨h, fun p' x hp' hpU hx => by
        by_cases e : p' = p
        · subst e; exact hh x hx
        · exact hB p' x hp' (by rw [List.mem_cons, not_or]; exact ⟨e, hpU⟩) hx, by simpa using hc, rfl, fun o ho => (by cases ho), fun j _ => Cf.rf _ _, List.nodup_nil, fun _ _ => rfl⟩
    cases hf : fiq s p with
    | none =>
      have h0 := f2 hf
      rw [show grantsS (n + 1) s p = (s, []) from by simp only [grantsS, hf]]
      exact done (fun o ho => absurd ho.2.1 (h0 o ho.1))
    | some o =>
      have hd := f1 o hf
      rcases bcs (fitb s o p (s 90 o)) with hfit | hfit
      · rw [show grantsS (n + 1) s p = (s, []) from by simp only [grantsS, hf]; rw [if_neg (by rw [hfit]; simp)]]
        refine done (fun x hx => ?_)
        have : x = o := by
          by_cases e : x = o
          · exact e
          · have h1 := hd.2.2 x hx.1 e hx.2.1
            have h2 := hx.2.2 o hd.1 (fun z => e z.symm) hd.2.1
            rw [ahd_asym h1] at h2
            cases h2
        rw [this]; exact hfit
      · have ho := hd.1
        have hat := hd.2.1
        have hw := h.w ho hp hat
        have hwant := (h.2.2.1 o ho hw).2.2.2.1
        obtain ⟨g1, g2, g3⟩ := iv_grt (T := T) h ho hp hat c hc (by omega)
        have hB1 := blk_grt h ho hp hat hB
        have hg : grantsS (n + 1) s p = ((grantsS n (grt s o) p).1, o :: (grantsS n (grt s o) p).2) := by
          simp only [grantsS, hf]
          rw [if_pos hfit]
        rw [hg]
        obtain ⟨a1, a2, a3, a4, a5, a6, a7, a8⟩ := ih T (c - (3 - lev p)) (grt s o) g1 hB1 (by omega) (by omega) (by omega)
        have hon : o ∉ (grantsS n (grt s o) p).2 := fun z => by
          have := (a5 o z).2.1
          simp [grt_at] at this
          omega
        have e : ∀ k j, j ≠ o → grt s o k j = s k j := fun k j hj => grt_ne hj
        refine ⟨a1, a2, ?_, ?_, fun x hx => ?_, fun j hj => ?_, ?_, fun j hj => ?_⟩
        · simp only [List.length_cons, Nat.succ_mul]
          omega
        · simp only [List.length_cons]
          omega
        · rcases List.mem_cons.mp hx with rfl | hx
          · have hcf := a6 x hon
            refine ⟨ho, hat, ?_, ?_, fun k hk1 hk2 hk3 => ?_⟩
            · rw [hcf 85 (by omega)]; simp [grt_at]
            · rw [hcf p (by omega), grt_lo hp, if_pos ⟨hat.symm, rfl⟩]; omega
            · rw [hcf k hk2, grt_at, if_neg (by omega), if_neg (by omega), if_neg (by omega)]
          · obtain ⟨b1, b2, b3, b4, b5⟩ := a5 x hx
            have hxo : x ≠ o := fun z => hon (z ▸ hx)
            refine ⟨b1, by rw [← e 89 x hxo]; exact b2, b3, b4, fun k hk1 hk2 hk3 => ?_⟩
            rw [b5 k hk1 hk2 hk3, e k x hxo]
        · rw [List.mem_cons, not_or] at hj
          intro k hk
          rw [a6 j hj.2 k hk, e k j hj.1]
        · exact List.nodup_cons.mpr ⟨hon, a7⟩
        · rw [a8 j hj, grt_at, if_neg (by omega), if_neg (by omega), if_neg (by omega)]
/-! an owner that runs gathers: it holds one greater lock, and nothing below -/
theorem clr_ne {s : St} {o g w k j : Nat} (h : j ≠ o) : clr s o g w k j = s k j := by
  unfold clr
  rw [if_neg (fun z => h z.1), if_neg (fun z => h z.1)]
theorem clr_hi {s : St} {o g w k j : Nat} (hg : g < 85) (h : 85 ≤ k) : clr s o g w k j = s k j := by
  unfold clr
  rw [if_neg (by omega), if_neg (by omega)]
theorem clr_o {s : St} {o g w k : Nat} : clr s o g w k o = if k = g then w else if k < 85 ∧ blw k g = true then 0 else s k o := by
  unfold clr
  simp
theorem blw_par : ∀ q, q < 85 → 1 ≤ q → ∀ g, g < 85 → (blw (par q) g = true ∨ par q = g) → blw q g = true := by decide +kernel
theorem blw_self : ∀ g, g < 85 → blw g g = false := by decide +kernel
theorem blw_upn : ∀ q, q < 85 → ∀ g, g < 85 → blw q g = true → ∃ l, l < lev q ∧ up q l = g := by
  intro q _ g _ h
  obtain ⟨l, h1, h2⟩ := List.any_eq_true.mp h
  exact ⟨l, List.mem_range.mp h1, of_decide_eq_true h2⟩
theorem tree_up {T : Nat} {s : St} (h : Iv T s) {o : Nat} (ho : o < 8) : ∀ n q, q < 85 → n ≤ lev q → s q o ≠ 0 → s (upn n q) o ≠ 0
  | 0, q, _, _, hz => hz
  | n + 1, q, hq, hn, hz => by
    have h1 := lev_pos q hq (by omega)
    have h2 := lev_par q hq h1
    exact tree_up h ho n (par q) (par_lt hq) (by unfold par; omega) (h.2.2.2.2.2.1 q o h1 hq ho (Or.inl hz))
/-- who holds something below a place holds something there -/
theorem tree_blw {T : Nat} {s : St} (h : Iv T s) {o q g : Nat} (ho : o < 8) (hq : q < 85) (hg : g < 85) (hb : blw q g = true) (hz : s q o ≠ 0) : s g o ≠ 0 := by
  obtain ⟨l, h1, h2⟩ := blw_upn q hq g hg hb
  rw [← h2]
  exact tree_up h ho (lev q - l) q hq (by omega) hz
theorem bel_iff {g q : Nat} : q ∈ bel g ↔ q < 85 ∧ blw q g = true := by
  unfold bel
  rw [List.mem_filter, List.mem_range]
theorem gL_iff {s : St} {o g q : Nat} : q ∈ gL s o g ↔ q < 85 ∧ blw q g = true ∧ s q o ≠ 0 := by
  unfold gL
  rw [List.mem_filter, bel_iff, decide_eq_true_eq, and_assoc]
theorem cnt_fold (l : List Nat) (f : Nat → Bool) (n : Nat) : l.foldl (fun n q => n + bn (f q)) n = n + l.countP f := by
  induction l generalizing n with
  | nil => simp
  | cons a l ih =>
    rw [List.foldl_cons, ih, List.countP_cons]
    cases f a <;> simp [bn]; omega
theorem hbel_cnt (s : St) (o g : Nat) : hbel s o g = (bel g).countP fun q => decide (s q o ≠ 0) := by
  unfold hbel
  rw [cnt_fold, Nat.zero_add]
theorem hbel_pos {s : St} {o g : Nat} (h : hbel s o g ≠ 0) : ∃ q, q < 85 ∧ blw q g = true ∧ s q o ≠ 0 := by
  rw [hbel_cnt] at h
  obtain ⟨q, h1, h2⟩ := List.countP_pos_iff.mp (Nat.pos_of_ne_zero h)
  exact ⟨q, (bel_iff.mp h1).1, (bel_iff.mp h1).2, of_decide_eq_true h2⟩
theorem gmode_ok {T : Nat} {s : St} (h : Iv T s) {o g : Nat} (ho : o < 8) (hg : g < 85) : 1 ≤ gmode s o g ∧ gmode s o g ≤ 6 ∧ stg (gmode s o g) (s g o) = true := by
  have hm := h.1 g o hg ho
  unfold gmode
  split
  · exact ⟨by omega, by omega, (stg_both7 (s g o) (by omega) 0 (by omega)).2⟩
  · exact ⟨both_pos7 _ (by omega) 3 (by omega) (by omega), both_le hm (by omega), (stg_both7 (s g o) (by omega) 3 (by omega)).1⟩
theorem iv_clr {T : Nat} {s : St} {o g : Nat} (h : Iv T s) (ho : o < 8) (hr : s 85 o = 1) (hg : g < 85) (hc : canG s o g = true) : Iv T (clr s o g (gmode s o g)) := by
  obtain ⟨w1, w2, w3⟩ := gmode_ok h ho hg
  have hb : s g o ≠ 0 := by
    unfold canG at hc
    simp only [Bool.and_eq_true, decide_eq_true_eq] at hc
    obtain ⟨q, q1, q2, q3⟩ := hbel_pos hc.1
    exact tree_blw h ho q1 hg q2 q3
  obtain ⟨h1, h2, h3, h4, h5, h6, h7, h8, h9, h10, h11⟩ := h
  generalize gmode s o g = w at *
  have e : ∀ k j, 85 ≤ k → clr s o g w k j = s k j := fun k j hk => clr_hi hg hk
  refine ⟨fun p j hp hj => ?_, fun j hj => ?_, fun j hj hw => ?_, fun j hj hw => ?_, fun i j hi hj hwi hwj ht => ?_, fun q' j hq1 hq2 hj hz => ?_, fun p j hp hj hz => ?_, ?_, ?_, ?_, ?_⟩
  · by_cases hjo : j = o
    · rw [hjo, clr_o]
      split
      · exact w2
      · split
        · omega
        · exact h1 p o hp ho
    · rw [clr_ne hjo]; exact h1 p j hp hj
  · rw [e 85 j (by omega), e 87 j (by omega), e 88 j (by omega), e 90 j (by omega), e 91 j (by omega), e 92 j (by omega), e 93 j (by omega), e 94 0 (by omega)]
    exact h2 j hj
  · rw [e 85 j (by omega)] at hw
    rw [e 89 j (by omega), e 90 j (by omega), e 91 j (by omega), e 92 j (by omega), e 93 j (by omega), e 94 0 (by omega)]
    exact h3 j hj hw
  · rw [e 85 j (by omega)] at hw
    rw [e 89 j (by omega)]
    exact h4 j hj hw
  · rw [e 85 i (by omega)] at hwi
    rw [e 85 j (by omega)] at hwj
    rw [e 91 i (by omega), e 91 j (by omega)] at ht
    exact h5 i j hi hj hwi hwj ht
  · rw [e 89 j (by omega)] at hz
    by_cases hjo : j = o
    · subst hjo
      rw [clr_o] at hz ⊢
      by_cases e1 : par q' = g
      · rw [if_pos e1]; omega
      · rw [if_neg e1]
        have hkeep : ¬ (par q' < 85 ∧ blw (par q') g = true) ∧ s (par q') j ≠ 0 := by
          rcases hz with hz | hz
          · by_cases e2 : q' = g
            · subst e2
              refine ⟨fun z => ?_, h6 q' j hq1 hq2 hj (Or.inl hb)⟩
              have h12 := blw_par q' hq2 hq1 q' hq2 (Or.inl z.2)
              rw [blw_self q' hq2] at h12
              cases h12
            · rw [if_neg e2] at hz
              by_cases e3 : q' < 85 ∧ blw q' g = true
              · rw [if_pos e3] at hz; exact absurd rfl hz
              · rw [if_neg e3] at hz
                refine ⟨fun z => e3 ⟨hq2, blw_par q' hq2 hq1 g hg (Or.inl z.2)⟩, h6 q' j hq1 hq2 hj (Or.inl hz)⟩
          · have := h4 j hj (by omega)
            omega
        rw [if_neg hkeep.1]
        exact hkeep.2
    · rw [clr_ne hjo]
      rw [clr_ne hjo] at hz
      exact h6 q' j hq1 hq2 hj hz
  · rw [e 85 j (by omega)] at hz
    have hjo : j ≠ o := fun z => by rw [z] at hz; omega
    rw [clr_ne hjo]
    exact h7 p j hp hj hz
  · have : pot (clr s o g w) = pot s := sum8_eq fun j hj => by
      rw [e 89 j (by omega)]
    rw [this, e 94 0 (by omega)]
    exact h8
  · rw [e 94 1 (by omega)]; exact h9
  · rw [e 94 2 (by omega)]; exact h10
  · rw [e 94 2 (by omega)]; exact h11
theorem blk_clr {T : Nat} {s : St} {U : List Nat} {o g : Nat} (h : Iv T s) (ho : o < 8) (hr : s 85 o = 1) (hg : g < 85) (hB : Blk s U) : Blk (clr s o g (gmode s o g)) (gL s o g ++ U) := by
  obtain ⟨w1, w2, w3⟩ := gmode_ok h ho hg
  refine blk_col h ho (by omega) (fun k j _ hj => clr_ne hj) (by rw [clr_hi hg (by omega)]; exact h.at85 ho (by omega)) (fun p hp hpU => ?_) (fun p x hp hpU hx => hB p x hp (fun z => hpU (List.mem_append_right _ z)) hx)
  have hm := h.1 p o hp ho
  rw [clr_o]
  split
  · rename_i e
    rw [e]
    exact ⟨w3, w2⟩
  · split
    · rename_i e1 e2
      have : s p o = 0 := by
        by_cases e3 : s p o = 0
        · exact e3
        · exact absurd (List.mem_append_left _ (gL_iff.mpr ⟨hp, e2.2, e3⟩)) hpU
      rw [this]
      exact ⟨by decide, by omega⟩
    · exact ⟨stg_self7 _ (by omega), hm⟩

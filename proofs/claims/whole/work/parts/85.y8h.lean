/-! PURE SIDE, THE REFERENCE: serving places, gathering -/
def F8 (I I' : Nat → Nat → Int32) (r : Nat) : Prop := ∀ b i, b ≠ r → ¬ (b = 210 ∧ i = 16) → I' b i = I b i
theorem F8.rf (I : Nat → Nat → Int32) (r : Nat) : F8 I I r := fun _ _ _ _ => rfl
theorem F8.trans {I I1 I2 : Nat → Nat → Int32} {r : Nat} (h1 : F8 I I1 r) (h2 : F8 I1 I2 r) : F8 I I2 r := fun b i h h3 => (h2 b i h h3).trans (h1 b i h h3)
theorem Fx.f8 {I I' : Nat → Nat → Int32} {r : Nat} (h : Fx I I' r) : F8 I I' r := fun b i h1 _ => h b i h1
def Sv8 (R : qF) (r n : Nat) : Prop := ∀ (L : Nat → Nat → Int64) (c t : Nat) (I : Nat → Nat → Int32) (s : St) (p : Nat) (U : List Nat) (T : Nat) (G : Nat → Bool), T < 1000000000 → p < 85 → R8 (I r) s → I 210 16 = n2 (bits8 G) → Iv T s → Blk s (p :: U) → need s p ≤ n →
  ∃ I' G', R 205 [.ref 210, .ref r, .int (n2 p)] (mk I L c t) = some (n2 0, 0, mk I' L c t) ∧ R8 (I' r) (srvS n s p) ∧ I' 210 16 = n2 (bits8 G') ∧ (∀ j, j < 8 → s 85 j ≠ 2 → G' j = G j) ∧ F8 I I' r
theorem MkW.cg {x : Int64} {b : Nat} {V V' : Nat → Bool} (h : MkW x b V) (he : ∀ j, j < 64 → V (b + j) = V' (b + j)) : MkW x b V' := fun j hj => (h j hj).trans (he j hj)
section S8G
variable {I : Nat → Nat → Int32} {L : Nat → Nat → Int64} {c t r N T n : Nat} {s : St} {μ : qM} {R : qF}
theorem x8_servesAll (hr : r = 217 ∨ r = 218) (hS : Sv8 R r n) (hT : T < 1000000000) {U : List Nat} {V : Nat → Bool} {G : Nat → Bool} {x y : Int64} (hx : MkW x 0 V) (hy : MkW y 64 V) (hR : R8 (I r) s) (hG : I 210 16 = n2 (bits8 G)) (h : Iv T s) (hB : Blk s (rk V 0 ++ U)) (hf : FuelOk n s (rk V 0)) :
    ∃ I' G', fX8_servesAll R 210 r x y (mk I L c t) = some (n2 0, 0, mk I' L c t) ∧ R8 (I' r) ((rk V 0).foldl (srvS n) s) ∧ I' 210 16 = n2 (bits8 G') ∧ (∀ j, j < 8 → s 85 j ≠ 2 → G' j = G j) ∧ F8 I I' r := by
  unfold fX8_servesAll
  rw [if_pos (by rw [kk_210])]
  unfold gX8_servesAll
  rw [l_0]
  refine lp_r (α := (Nat → Nat → Int32) × St × (Nat → Bool)) (fun f k z => fX8_servesAll_2 R f 210 r x y (n2 k) (mk z.1 L c t)) 85 (fun k z => R8 (z.1 r) z.2.1 ∧ z.1 210 16 = n2 (bits8 z.2.2) ∧ Iv T z.2.1 ∧ Blk z.2.1 (rk V k ++ U) ∧ FuelOk n z.2.1 (rk V k) ∧ (∀ j, j < 8 → s 85 j ≠ 2 → z.2.2 j = G j ∧ z.2.1 85 j ≠ 2) ∧ F8 I z.1 r ∧ (rk V k).foldl (srvS n) z.2.1 = (rk V 0).foldl (srvS n) s) (fun q => ∃ I' G', q = some (n2 0, 0, mk I' L c t) ∧ R8 (I' r) ((rk V 0).foldl (srvS n) s) ∧ I' 210 16 = n2 (bits8 G') ∧ (∀ j, j < 8 → s 85 j ≠ 2 → G' j = G j) ∧ F8 I I' r) (fun f k z hk hi => Or.inr ?_) (fun f z hi => ?_) 85 0 qfu (I, s, G) (by omega) (by rw [qfu_eq]; omega) ⟨hR, hG, h, hB, hf, fun j _ hz => ⟨rfl, hz⟩, F8.rf _ _, rfl⟩
  · obtain ⟨J, s1, G1⟩ := z
    obtain ⟨i1, i2, i3, i4, i5, i6, i7, i8⟩ := hi
    dsimp only at i1 i2 i3 i4 i5 i6 i7 i8
    have head : fX8_servesAll_2 R (f + 1) 210 r x y (n2 k) (mk J L c t) = if V k = true then (qbnd (R 205 [.ref 210, .ref r, .int (n2 k)] (mk J L c t)) fun r1 => fX8_servesAll_2 R f 210 r x y (n2 (k + 1)) r1.2.2) else fX8_servesAll_2 R f 210 r x y (n2 (k + 1)) (mk J L c t) := by
      rw [fX8_servesAll_2]
      dsimp only
      rw [l_85, if_neg (by rw [n2_le (by omega) (by omega)]; omega), l_64]
      unfold fX8_servesAll_21
      by_cases e : 64 ≤ k
      · rw [if_pos (by rw [n2_le (by omega) (by omega)]; exact e), n2_sub e, l_1, n2_add]
        have := mk_t hy (p := k - 64) (by omega)
        rw [show 64 + (k - 64) = k by omega] at this
        simp only [this]
      · rw [if_neg (by rw [n2_le (by omega) (by omega)]; exact e), l_1, n2_add]
        have := mk_t hx (p := k) (by omega)
        rw [Nat.zero_add] at this
        simp only [this]
    rcases bcs (V k) with e | e
    · have hrk : rk V k = rk V (k + 1) := by rw [rk_step V hk, e, if_neg Bool.false_ne_true]
      rw [hrk] at i4 i5 i8
      refine ⟨(J, s1, G1), ?_, i1, i2, i3, i4, i5, i6, i7, i8⟩
      show fX8_servesAll_2 R (f + 1) 210 r x y (n2 k) (mk J L c t) = _
      rw [head, e, if_neg Bool.false_ne_true]
    · have hrk : rk V k = k :: rk V (k + 1) := by rw [rk_step V hk, e, if_pos rfl]
      rw [hrk] at i4 i5 i8
      obtain ⟨J', G', a1, a2, a3, a4, a5⟩ := hS L c t J s1 k (rk V (k + 1) ++ U) T G1 hT hk i1 i2 i3 i4 (fuel_need i5)
      have hs := srv_ok n s1 k (rk V (k + 1) ++ U) T hk i3 i4 (fuel_need i5)
      refine ⟨(J', srvS n s1 k, G'), ?_, a2, a3, hs.1, hs.2.1, i5.next hs, fun j hj hz => ?_, i7.trans a5, i8⟩
      · show fX8_servesAll_2 R (f + 1) 210 r x y (n2 k) (mk J L c t) = _
        rw [head, if_pos e, a1, qbnd_s]
      · obtain ⟨b1, b2⟩ := i6 j hj hz
        refine ⟨(a4 j hj b2).trans b1, ?_⟩
        show srvS n s1 k 85 j ≠ 2
        rw [hs.2.2.1 j hj b2 85 (by omega)]
        exact b2
  · obtain ⟨J, s1, G1⟩ := z
    obtain ⟨i1, i2, i3, i4, i5, i6, i7, i8⟩ := hi
    dsimp only at i1 i2 i3 i4 i5 i6 i7 i8
    rw [rk_85, List.foldl_nil] at i8
    refine ⟨J, G1, ?_, by rw [← i8]; exact i1, i2, fun j hj hz => (i6 j hj hz).1, i7⟩
    show fX8_servesAll_2 R (f + 1) 210 r x y (n2 85) (mk J L c t) = _
    rw [fX8_servesAll_2]
    dsimp only
    rw [l_85, if_pos (by rw [n2_le (by omega) (by omega)]; omega), l_0]
theorem gP_0 (s : St) (o : Nat) {g : Nat} (hg : g < 85) : rk (gP s o g) 0 = gL s o g := by
  rw [← gP_gL hg]
  have := rk_skip (gP s o g) (g + 1) 0 (by omega) (fun q _ h2 => by
    rcases bcs (blw q g) with e | e
    · simp [gP, e]
    · have := blw_gt q (by omega) g hg e
      omega)
  rw [this, Nat.zero_add]
/-- the row while what lies below is put by -/
def svc (s : St) (o g w k : Nat) : St := fun a b => if b = o ∧ a = g then w else if b = o ∧ a < k ∧ a < 85 ∧ blw a g = true then 0 else s a b
theorem svc_0 (s : St) (o g w : Nat) {k : Nat} (hk : k ≤ g + 1) (hg : g < 85) : svc s o g w k = su s g o w := by
  funext a b
  rw [su_at]
  unfold svc
  by_cases e : b = o ∧ a = g
  · rw [if_pos e, if_pos ⟨e.2, e.1⟩]
  · have hn : ¬ (b = o ∧ a < k ∧ a < 85 ∧ blw a g = true) := by
      rintro ⟨z1, z2, z3, z4⟩
      have := blw_gt a z3 g hg z4
      omega
    rw [if_neg e, if_neg hn, if_neg (fun z => e ⟨z.2, z.1⟩)]
theorem svc_85 (s : St) (o g w : Nat) : svc s o g w 85 = clr s o g w := by
  funext a b
  unfold svc clr
  by_cases e : b = o ∧ a = g
  · rw [if_pos e, if_pos e]
  · rw [if_neg e, if_neg e]
    by_cases e2 : b = o ∧ a < 85 ∧ blw a g = true
    · rw [if_pos ⟨e2.1, e2.2.1, e2.2.1, e2.2.2⟩, if_pos e2]
    · rw [if_neg (fun z => e2 ⟨z.1, z.2.1, z.2.2.2⟩), if_neg e2]
theorem svc_s (s : St) (o g w k : Nat) (hk : k < 85) : svc s o g w (k + 1) = if gP s o g k = true ∧ k ≠ g then su (svc s o g w k) k o 0 else svc s o g w k := by
  by_cases e : gP s o g k = true ∧ k ≠ g
  · rw [if_pos e]
    have hb : blw k g = true := by
      have := e.1
      unfold gP at this
      rw [Bool.and_eq_true, Bool.and_eq_true] at this
      exact this.2.1
    funext a b
    rw [su_at]
    unfold svc
    by_cases e1 : b = o ∧ a = g
    · rw [if_pos e1, if_pos e1, if_neg (fun z => e.2 (z.1.symm.trans e1.2))]
    · rw [if_neg e1, if_neg e1]
      by_cases e2 : a = k ∧ b = o
      · rw [if_pos e2, if_pos ⟨e2.2, by omega, by omega, by rw [e2.1]; exact hb⟩]
      · rw [if_neg e2]
        have h7 : (b = o ∧ a < k + 1 ∧ a < 85 ∧ blw a g = true) ↔ (b = o ∧ a < k ∧ a < 85 ∧ blw a g = true) := ⟨fun z => ⟨z.1, by have := z.1; have := z.2.1; omega, z.2.2⟩, fun z => ⟨z.1, by omega, z.2.2⟩⟩
        simp only [h7]
  · rw [if_neg e]
    funext a b
    unfold svc
    by_cases e1 : b = o ∧ a = g
    · rw [if_pos e1, if_pos e1]
    · rw [if_neg e1, if_neg e1]
      by_cases e2 : a = k ∧ b = o
      · have hne : k ≠ g := fun z => e1 ⟨e2.2, e2.1.trans z⟩
        have hgp : gP s o g k = false := by
          rcases bcs (gP s o g k) with q | q
          · exact q
          · exact absurd ⟨q, hne⟩ e
        rw [if_neg (show ¬ (b = o ∧ a < k ∧ a < 85 ∧ blw a g = true) by omega), e2.1, e2.2]
        by_cases e3 : blw k g = true
        · unfold gP at hgp
          rw [decide_eq_true hk, e3] at hgp
          have h0 : s k o = 0 := by simpa using hgp
          rw [if_pos ⟨rfl, by omega, hk, e3⟩, h0]
        · rw [if_neg (fun z => e3 z.2.2.2)]
      · have h7 : (b = o ∧ a < k + 1 ∧ a < 85 ∧ blw a g = true) ↔ (b = o ∧ a < k ∧ a < 85 ∧ blw a g = true) := ⟨fun z => ⟨z.1, by have := z.1; have := z.2.1; omega, z.2.2⟩, fun z => ⟨z.1, by omega, z.2.2⟩⟩
        simp only [h7]
theorem gathC {srv : St → Nat → St} {o g : Nat} (hc : canG s o g = true) : (gathS srv s o g).1 = (gL s o g).foldl srv (clr s o g (gmode s o g)) := by
  unfold gathS
  rw [if_pos hc]
theorem x8_gathersOne (hr : r = 217 ∨ r = 218) (hS : Sv8 R r n) (hT : T < 1000000000) {U : List Nat} {G : Nat → Bool} {o g : Nat} (ho : o < 8) (hg : g < 85) (hR : R8 (I r) s) (hG : I 210 16 = n2 (bits8 G)) (h : Iv T s) (hB : Blk s U) (hst : s 85 o = 1) (hf : FuelOk n s (gL s o g)) :
    ∃ I' G', fX8_gathersOne R 210 r (n2 o) (n2 g) (mk I L c t) = some (if canG s o g = true then n2 (hbel s o g) else -n2 1, 0, mk I' L c t) ∧ R8 (I' r) (gathS (srvS n) s o g).1 ∧ I' 210 16 = n2 (bits8 G') ∧ (∀ j, j < 8 → j ≠ o → s 85 j ≠ 2 → G' j = G j) ∧ G' o = (G o || canG s o g) ∧ F8 I I' r := by
  have hBd := h.bd hT
  have hcg := x8_canGather (L := L) (c := c) (t := t) hr hR h hT ho hg
  unfold fX8_gathersOne
  rw [if_pos (by rw [kk_210])]
  unfold gX8_gathersOne
  rw [hcg, qbnd_s]
  dsimp only
  rcases bcs (canG s o g) with e | e
  · refine ⟨I, G, ?_, ?_, hG, fun j _ _ _ => rfl, by rw [e, Bool.or_false], .rf _ _⟩
    · rw [e, l_0, l_1, if_pos no_zero, if_neg Bool.false_ne_true]
    · unfold gathS
      rw [e, if_neg Bool.false_ne_true]
      exact hR
  · obtain ⟨w, hw⟩ : ∃ w, gmode s o g = w := ⟨_, rfl⟩
    have hclr := iv_clr h ho hst hg e
    have hbc := blk_clr (U := U) h ho hst hg hB
    rw [hw] at hclr hbc
    have hfc : FuelOk n (clr s o g w) (gL s o g) := by
      rcases hf with ⟨f1, f2⟩ | f1
      · exact Or.inl ⟨f1, by rw [Wt_row fun j => clr_hi hg (by omega)]; exact f2⟩
      · exact Or.inr f1
    have h85 : ∀ j, clr s o g w 85 j = s 85 j := fun j => clr_hi hg (by omega)
    have hgm := x8_gatheredMode (L := L) (c := c) (t := t) hr hR hBd ho hg
    rw [hw] at hgm
    have hr210 : r ≠ 210 := by omega
    have hG1 : (upI I r (85 * o + g) (n2 w)) 210 16 = n2 (bits8 G) := by rw [upI_ne (by omega)]; exact hG
    have hob : (upI (upI I r (85 * o + g) (n2 w)) 210 16 (n2 (bits8 G ||| (1 <<< o)))) 210 16 = n2 (bits8 fun j => decide (o = j) || G j) := by rw [upI_eq, bits8_set G ho]
    have hR1 : R8 ((upI (upI I r (85 * o + g) (n2 w)) 210 16 (n2 (bits8 G ||| (1 <<< o)))) r) (svc s o g w (g + 1)) := by
      rw [svc_0 s o g w (Nat.le_refl _) hg]
      have : (upI (upI I r (85 * o + g) (n2 w)) 210 16 (n2 (bits8 G ||| (1 <<< o)))) r = (upI I r (85 * o + g) (n2 w)) r := by
        funext i
        exact upI_ne (by omega)
      rw [this]
      exact hR.h ho hg
    rw [e, l_0, if_neg yes_zero, if_pos rfl, hgm, qbnd_s]
    dsimp only
    rw [x8_holdsNow hr ho hg, qbnd_s]
    dsimp only
    rw [g210_16, qbnd_s, hG1, l_1, l_31, n2_31 (by omega), n2_shl (by omega), n2_or, u210_16, qbnd_s, n2_add, gathC e, hw]
    have fin : ∀ (J : Nat → Nat → Int32) (x y : Int64), R8 (J r) (clr s o g w) → J 210 16 = n2 (bits8 fun j => decide (o = j) || G j) → MkW x 0 (gP s o g) → MkW y 64 (gP s o g) → F8 I J r → ∃ I' G', (qbnd (fX8_servesAll R 210 r x y (mk J L c t)) fun r1 => some (n2 (hbel s o g), 0, r1.2.2)) = some (n2 (hbel s o g), 0, mk I' L c t) ∧ R8 (I' r) ((gL s o g).foldl (srvS n) (clr s o g w)) ∧ I' 210 16 = n2 (bits8 G') ∧ (∀ j, j < 8 → j ≠ o → s 85 j ≠ 2 → G' j = G j) ∧ G' o = (G o || true) ∧ F8 I I' r := by
      intro J x y j1 j2 j3 j4 j5
      have hrk := gP_0 s o hg
      obtain ⟨I', G', a1, a2, a3, a4, a5⟩ := x8_servesAll (L := L) (c := c) (t := t) hr hS hT j3 j4 j1 j2 hclr (by rw [hrk]; exact hbc) (by rw [hrk]; exact hfc)
      rw [hrk] at a2
      refine ⟨I', G', by rw [a1, qbnd_s], a2, a3, fun j hj hjo hz => ?_, ?_, j5.trans a5⟩
      · rw [a4 j hj (by rw [h85]; exact hz)]
        simp [show ¬ o = j from fun z => hjo z.symm]
      · rw [a4 o ho (by rw [h85, hst]; omega)]
        simp
    have cS : ∀ k, g + 1 ≤ k → (List.range' (g + 1) (k + 1 - (g + 1))).foldl (fun n q => n + bn (gP s o g q)) 0 = (List.range' (g + 1) (k - (g + 1))).foldl (fun n q => n + bn (gP s o g q)) 0 + bn (gP s o g k) := by
      intro k hk
      rw [show k + 1 - (g + 1) = (k - (g + 1)) + 1 by omega, List.range'_concat, List.foldl_append]
      simp only [List.foldl_cons, List.foldl_nil, Nat.one_mul]
      rw [show g + 1 + (k - (g + 1)) = k by omega]
    have cG : ∀ k q, (decide (q < k + 1) && gP s o g q) = (decide (q < k) && gP s o g q || decide (q = k) && gP s o g k) := by
      intro k q
      by_cases e1 : q < k
      · simp [e1, show q < k + 1 by omega, show ¬ q = k by omega]
      · by_cases e2 : q = k
        · subst e2
          simp
        · simp [e1, e2, show ¬ q < k + 1 by omega]
    have mk0 : ∀ b, b = 0 ∨ b = 64 → MkW 0 b (fun q => decide (q < g + 1) && gP s o g q) := by
      intro b _
      refine (mk_0 b).cg fun j hj => ?_
      by_cases e1 : b + j < g + 1
      · have : gP s o g (b + j) = false := by
          rcases bcs (blw (b + j) g) with q | q
          · simp [gP, q]
          · have := blw_gt (b + j) (by omega) g hg q
            omega
        rw [this, Bool.and_false]
      · rw [decide_eq_false e1, Bool.false_and]
    have loop := lp_rk (α := (Nat → Nat → Int32) × Int64 × Int64) (fun f k z => fX8_gathersOne_33 R f 210 r (n2 o) (n2 g) (n2 ((List.range' (g + 1) (k - (g + 1))).foldl (fun n q => n + bn (gP s o g q)) 0)) z.2.1 z.2.2 (n2 k) (mk z.1 L c t)) 85 (fun k z => R8 (z.1 r) (svc s o g w k) ∧ z.1 210 16 = n2 (bits8 fun j => decide (o = j) || G j) ∧ MkW z.2.1 0 (fun q => decide (q < k) && gP s o g q) ∧ MkW z.2.2 64 (fun q => decide (q < k) && gP s o g q) ∧ F8 I z.1 r) (fun q => ∃ I' G', q = some (n2 (hbel s o g), 0, mk I' L c t) ∧ R8 (I' r) ((gL s o g).foldl (srvS n) (clr s o g w)) ∧ I' 210 16 = n2 (bits8 G') ∧ (∀ j, j < 8 → j ≠ o → s 85 j ≠ 2 → G' j = G j) ∧ G' o = (G o || true) ∧ F8 I I' r) (k0 := g + 1) (by omega) (by omega) (upI (upI I r (85 * o + g) (n2 w)) 210 16 (n2 (bits8 G ||| (1 <<< o))), 0, 0) ⟨hR1, hob, mk0 0 (.inl rfl), mk0 64 (.inr rfl), fun b i h1 h2 => by
      dsimp only
      by_cases eb : b = 210
      · subst eb
        rw [upI_ni (fun z => h2 ⟨rfl, z⟩), upI_ne (by omega)]
      · rw [upI_ne eb, upI_ne h1]⟩ (fun f k z hk0 hk hi => Or.inr ?_) (fun f z hi => ?_)
    · rw [Nat.sub_self] at loop
      exact loop
    · obtain ⟨J, x, y⟩ := z
      obtain ⟨i1, i2, i3, i4, i5⟩ := hi
      dsimp only at i1 i2 i3 i4 i5
      have hkg : k ≠ g := by omega
      have hheld : svc s o g w k k o = s k o := by
        unfold svc
        rw [if_neg (fun z => hkg z.2), if_neg (fun z => by omega)]
      have hm := hBd.md hk ho
      have hgw : w ≤ 6 := by rw [← hw]; exact gmode_le hBd ho hg
      obtain ⟨v, hv⟩ : ∃ v, (List.range' (g + 1) (k - (g + 1))).foldl (fun n q => n + bn (gP s o g q)) 0 = v := ⟨_, rfl⟩
      have hcs := cS k hk0
      rw [hv] at hcs
      have head : fX8_gathersOne_33 R (f + 1) 210 r (n2 o) (n2 g) (n2 v) x y (n2 k) (mk J L c t) = if gP s o g k = true then (if 64 ≤ k then fX8_gathersOne_33 R f 210 r (n2 o) (n2 g) (n2 (v + 1)) (x ||| 0) (y ||| ((1 : Int64) <<< ((n2 (k - 64)).toInt64 &&& 63))) (n2 (k + 1)) (mk (upI J r (85 * o + k) (n2 0)) L c t) else fX8_gathersOne_33 R f 210 r (n2 o) (n2 g) (n2 (v + 1)) (x ||| ((1 : Int64) <<< ((n2 k).toInt64 &&& 63))) (y ||| 0) (n2 (k + 1)) (mk (upI J r (85 * o + k) (n2 0)) L c t)) else fX8_gathersOne_33 R f 210 r (n2 o) (n2 g) (n2 v) x y (n2 (k + 1)) (mk J L c t) := by
        rw [fX8_gathersOne_33]
        dsimp only
        rw [l_85, if_neg (by rw [n2_le (by omega) (by omega)]; omega), x8_isBelow hk hg, qbnd_s]
        dsimp only
        rw [x8_held hr i1 ho hk, qbnd_s, hheld]
        dsimp only
        rw [l_0, x8_holdsNow hr ho hk, qbnd_s]
        dsimp only
        unfold fX8_gathersOne_59
        rw [l_64, l_1, n2_add, n2_add]
        unfold gP
        rw [decide_eq_true hk, Bool.true_and]
        rcases bcs (blw k g) with e1 | e1
        · rw [e1, if_pos no_zero, Bool.false_and, if_neg Bool.false_ne_true]
        · rw [e1, if_neg yes_zero, Bool.true_and]
          by_cases e2 : s k o = 0
          · rw [if_pos (by rw [n2_le (by omega) (by omega)]; omega), decide_eq_false (show ¬ s k o ≠ 0 from fun z => z e2), if_neg Bool.false_ne_true]
          · rw [if_neg (by rw [n2_le (by omega) (by omega)]; omega), decide_eq_true e2, if_pos rfl]
            by_cases e3 : 64 ≤ k
            · have q3 : n2 64 ≤ n2 k := by rw [n2_le (by omega) (by omega)]; exact e3
              rw [if_pos q3, if_pos q3, if_pos e3, n2_sub e3]
            · have q3 : ¬ n2 64 ≤ n2 k := by rw [n2_le (by omega) (by omega)]; exact e3
              rw [if_neg q3, if_neg q3, if_neg e3]
      have hsvc := svc_s s o g w k hk
      rcases bcs (gP s o g k) with e1 | e1
      · rw [e1] at hcs
        refine ⟨(J, x, y), ?_, ?_, i2, i3.cg fun j hj => ?_, i4.cg fun j hj => ?_, i5⟩
        · show fX8_gathersOne_33 R (f + 1) 210 r (n2 o) (n2 g) (n2 _) x y (n2 k) (mk J L c t) = fX8_gathersOne_33 R f 210 r (n2 o) (n2 g) (n2 _) x y (n2 (k + 1)) (mk J L c t)
          rw [hv, head, e1, if_neg Bool.false_ne_true, hcs]
          rfl
        · rw [hsvc, if_neg (fun z => by rw [e1] at z; exact absurd z.1 (by decide))]
          exact i1
        · rw [cG k, e1, Bool.and_false, Bool.or_false]
        · rw [cG k, e1, Bool.and_false, Bool.or_false]
      · rw [e1] at hcs
        have hR2 : R8 ((upI J r (85 * o + k) (n2 0)) r) (svc s o g w (k + 1)) := by
          rw [hsvc, if_pos ⟨e1, hkg⟩]
          exact i1.h ho hk
        have hG2 : (upI J r (85 * o + k) (n2 0)) 210 16 = n2 (bits8 fun j => decide (o = j) || G j) := by rw [upI_ne (by omega)]; exact i2
        by_cases e3 : 64 ≤ k
        · refine ⟨(upI J r (85 * o + k) (n2 0), x ||| 0, y ||| ((1 : Int64) <<< ((n2 (k - 64)).toInt64 &&& 63))), ?_, hR2, hG2, (mk_or0 i3).cg fun j hj => ?_, (mk_or (p := k - 64) i4 (by omega)).cg fun j hj => ?_, i5.trans (Fx.up.f8)⟩
          · show fX8_gathersOne_33 R (f + 1) 210 r (n2 o) (n2 g) (n2 _) x y (n2 k) (mk J L c t) = fX8_gathersOne_33 R f 210 r (n2 o) (n2 g) (n2 _) (x ||| 0) (y ||| ((1 : Int64) <<< ((n2 (k - 64)).toInt64 &&& 63))) (n2 (k + 1)) (mk (upI J r (85 * o + k) (n2 0)) L c t)
            rw [hv, head, if_pos e1, if_pos e3, hcs]
            rfl
          · rw [cG k, show decide (0 + j = k) = false from decide_eq_false (by omega), Bool.false_and, Bool.or_false]
          · rw [cG k, e1, Bool.and_true, show 64 + (k - 64) = k by omega]
        · refine ⟨(upI J r (85 * o + k) (n2 0), x ||| ((1 : Int64) <<< ((n2 k).toInt64 &&& 63)), y ||| 0), ?_, hR2, hG2, (mk_or (p := k) i3 (by omega)).cg fun j hj => ?_, (mk_or0 i4).cg fun j hj => ?_, i5.trans (Fx.up.f8)⟩
          · show fX8_gathersOne_33 R (f + 1) 210 r (n2 o) (n2 g) (n2 _) x y (n2 k) (mk J L c t) = fX8_gathersOne_33 R f 210 r (n2 o) (n2 g) (n2 _) (x ||| ((1 : Int64) <<< ((n2 k).toInt64 &&& 63))) (y ||| 0) (n2 (k + 1)) (mk (upI J r (85 * o + k) (n2 0)) L c t)
            rw [hv, head, if_pos e1, if_neg e3, hcs]
            rfl
          · rw [cG k, e1, Bool.and_true, Nat.zero_add, Nat.zero_add]
          · rw [cG k, show decide (64 + j = k) = false from decide_eq_false (by omega), Bool.false_and, Bool.or_false]
    · obtain ⟨J, x, y⟩ := z
      obtain ⟨i1, i2, i3, i4, i5⟩ := hi
      dsimp only at i1 i2 i3 i4 i5
      rw [svc_85] at i1
      have e85 : ∀ q, (decide (q < 85) && gP s o g q) = gP s o g q := fun q => by
        by_cases e1 : q < 85
        · rw [decide_eq_true e1, Bool.true_and]
        · unfold gP
          rw [decide_eq_false e1, Bool.false_and, Bool.false_and]
      obtain ⟨I', G', a1, a2, a3, a4, a5, a6⟩ := fin J x y i1 i2 (i3.cg fun j hj => e85 _) (i4.cg fun j hj => e85 _) i5
      refine ⟨I', G', ?_, a2, a3, a4, a5, a6⟩
      show fX8_gathersOne_33 R (f + 1) 210 r (n2 o) (n2 g) (n2 _) x y (n2 85) (mk J L c t) = _
      rw [hbel_gP hg, fX8_gathersOne_33]
      dsimp only
      rw [l_85, if_pos (by rw [n2_le (by omega) (by omega)]; omega)]
      exact a1
end S8G

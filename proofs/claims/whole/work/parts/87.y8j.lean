/-! PURE SIDE, THE REFERENCE: serving a place -/
section S8I
variable {I : Nat → Nat → Int32} {L : Nat → Nat → Int64} {c t r N T n : Nat} {s : St} {μ : qM} {R : qF}
theorem x8_s60 (hr : r = 217 ∨ r = 218) (hS : Sv8 R r n) {T0 T p : Nat} {U : List Nat} {gl : List Nat} {G : Nat → Bool} (hT : T < 1000000000) (hp : p < 85) (hR : R8 (I r) s) (hG : I 210 16 = n2 (bits8 G)) (h : Iv T0 s) (hB : Blk s U) (hnd : gl.Nodup) (hpd : ∀ o ∈ gl, Pd s p o) (hT0 : T0 + gl.length * (3 - lev p) ≤ T) (hf : 21 ≤ p ∧ Wt s + 1 ≤ n ∨ 9 ≤ n) (hlen : gl.length ≤ 8) :
    ∃ I' G', fX8_serves_60 R qfu 210 r (n2 p) (Int64.ofNat (nmL gl)) (n2 gl.length) (n2 0) (mk I L c t) = some (n2 0, 0, mk I' L c t) ∧ R8 (I' r) (gl.foldl (fun s o => (goOnS (srvS n) s o (lev p + 1)).1) s) ∧ I' 210 16 = n2 (bits8 G') ∧ (∀ j, j < 8 → j ∉ gl → s 85 j ≠ 2 → G' j = G j) ∧ F8 I I' r := by
  have hlv := lev_le p
  have h16 : ∀ o ∈ gl, o < 16 := fun o ho => by have := (hpd o ho).1; omega
  refine lp_rk (α := (Nat → Nat → Int32) × St × Nat × (Nat → Bool)) (fun y k z => fX8_serves_60 R y 210 r (n2 p) (Int64.ofNat (nmL gl)) (n2 gl.length) (n2 k) (mk z.1 L c t)) gl.length
    (fun k z => R8 (z.1 r) z.2.1 ∧ F8 I z.1 r ∧ Iv z.2.2.1 z.2.1 ∧ Blk z.2.1 U ∧ (∀ o ∈ gl.drop k, Pd z.2.1 p o) ∧ z.2.2.1 + (gl.length - k) * (3 - lev p) ≤ T ∧ (21 ≤ p ∧ Wt z.2.1 + 1 ≤ n ∨ 9 ≤ n) ∧ z.1 210 16 = n2 (bits8 z.2.2.2) ∧ (∀ j, j < 8 → j ∉ gl → s 85 j ≠ 2 → z.2.2.2 j = G j ∧ z.2.1 85 j ≠ 2) ∧ (gl.drop k).foldl (fun s o => (goOnS (srvS n) s o (lev p + 1)).1) z.2.1 = gl.foldl (fun s o => (goOnS (srvS n) s o (lev p + 1)).1) s)
    (fun q => ∃ I' G', q = some (n2 0, 0, mk I' L c t) ∧ R8 (I' r) (gl.foldl (fun s o => (goOnS (srvS n) s o (lev p + 1)).1) s) ∧ I' 210 16 = n2 (bits8 G') ∧ (∀ j, j < 8 → j ∉ gl → s 85 j ≠ 2 → G' j = G j) ∧ F8 I I' r) (k0 := 0) (Nat.zero_le _) (by omega) (I, s, T0, G) ⟨hR, F8.rf _ _, h, hB, by rw [List.drop_zero]; exact hpd, by simpa using hT0, hf, hG, fun j _ _ hz => ⟨rfl, hz⟩, by rw [List.drop_zero]⟩ (fun y k z hk0 hk hi => Or.inr ?_) (fun y z hi => ?_)
  · obtain ⟨I1, s1, T1, G1⟩ := z
    obtain ⟨h1, h2, h3, h4, h5, h6, h7, h8, h8b, h9⟩ := hi
    dsimp only at h1 h2 h3 h4 h5 h6 h7 h8 h8b h9
    have hdr : gl.drop k = gl.getD k 0 :: gl.drop (k + 1) := by
      rw [List.drop_eq_getElem_cons hk]
      congr 1
      rw [List.getD_eq_getElem?_getD, List.getElem?_eq_getElem hk]
      rfl
    rw [hdr] at h5 h9
    have hnd2 : (gl.drop k).Nodup := hnd.sublist (List.drop_sublist _ _)
    rw [hdr, List.nodup_cons] at hnd2
    obtain ⟨o, eo⟩ : ∃ o, gl.getD k 0 = o := ⟨_, rfl⟩
    rw [eo] at h5 h9 hnd2
    have hogl : o ∈ gl := List.mem_of_mem_drop (i := k) (by rw [hdr, eo]; exact List.mem_cons_self)
    obtain ⟨p1, p2, p3, p4, p5, p6⟩ := h5 o List.mem_cons_self
    have hf1 : Wt s1 + 1 ≤ n := by
      have := Wt_le s1
      omega
    have hT1 : T1 < 1000000000 := by omega
    have hpl : 1 ≤ lev p + 1 → s1 (up (s1 92 o) (lev p + 1 - 1)) o ≠ 0 := fun _ => by
      rw [Nat.add_sub_cancel, ← p5]; exact p6
    obtain ⟨a1, a2, a3, a4, a5, a6⟩ := goOn_ok (srv_ok n) (l := lev p + 1) h3 h4 p1 p2 p3 (by omega) hpl hf1
    obtain ⟨I2, G2, r1, r2, r3, r4, r5, r6⟩ := x8_goesOn (L := L) (c := c) (t := t) (l := lev p + 1) hr hS hT1 p1 h1 h8 h3 h4 p2 p3 (by omega) hpl hf1
    rw [prv_s, ← p5] at r1
    have hnk : gl.length - k = (gl.length - (k + 1)) + 1 := by omega
    rw [hnk, Nat.succ_mul] at h6
    refine ⟨(I2, (goOnS (srvS n) s1 o (lev p + 1)).1, T1 + (4 - (lev p + 1)), G2), ?_, r2, h2.trans r6, a1, a2, fun x hx => ?_, ?_, ?_, r3, fun j hj hjg hz => ?_, ?_⟩
    · have hdg := dig_get hlen (show k < 8 by omega) h16
      rw [eo] at hdg
      show fX8_serves_60 R (y + 1) 210 r (n2 p) (Int64.ofNat (nmL gl)) (n2 gl.length) (n2 k) (mk I1 L c t) = _
      rw [fX8_serves_60]
      dsimp only
      rw [if_neg (by rw [n2_le (by omega) (by omega)]; omega), l_4, hdg, r1, qbnd_s, l_1, n2_add]
    · have hx2 := h5 x (List.mem_cons_of_mem _ hx)
      exact hx2.cf hp (a3 x hx2.1 (fun z => hnd2.1 (z ▸ hx)) (by rw [hx2.2.1]; omega))
    · show T1 + (4 - (lev p + 1)) + (gl.length - (k + 1)) * (3 - lev p) ≤ T
      omega
    · rcases h7 with ⟨f1, f2⟩ | f
      · left
        have := Wt_mono (a5 (by have := (lev_3 p hp).mpr f1; omega))
        exact ⟨f1, Nat.le_trans (Nat.succ_le_succ this) f2⟩
      · exact Or.inr f
    · obtain ⟨b1, b2⟩ := h8b j hj hjg hz
      have hjo : j ≠ o := fun z => hjg (z ▸ hogl)
      refine ⟨(r4 j hj hjo b2).trans b1, ?_⟩
      show (goOnS (srvS n) s1 o (lev p + 1)).1 85 j ≠ 2
      rw [a3 j hj hjo b2 85 (by omega)]
      exact b2
    · rw [List.foldl_cons] at h9
      exact h9
  · obtain ⟨I1, s1, T1, G1⟩ := z
    obtain ⟨h1, h2, h3, h4, h5, h6, h7, h8, h8b, h9⟩ := hi
    dsimp only at h1 h2 h3 h4 h5 h6 h7 h8 h8b h9
    rw [List.drop_length, List.foldl_nil] at h9
    refine ⟨I1, G1, ?_, by rw [← h9]; exact h1, h8, fun j hj hjg hz => (h8b j hj hjg hz).1, h2⟩
    show fX8_serves_60 R (y + 1) 210 r (n2 p) (Int64.ofNat (nmL gl)) (n2 gl.length) (n2 gl.length) (mk I1 L c t) = _
    rw [fX8_serves_60]
    dsimp only
    rw [if_pos (by rw [n2_le (by omega) (by omega)]; exact Nat.le_refl _)]
    rfl
theorem x8_serves (hr : r = 217 ∨ r = 218) (hS : Sv8 R r n) {T p : Nat} {U : List Nat} {G : Nat → Bool} (hT : T < 1000000000) (hp : p < 85) (hR : R8 (I r) s) (hG : I 210 16 = n2 (bits8 G)) (h : Iv T s) (hB : Blk s (p :: U)) (hn : need s p ≤ n + 1) :
    ∃ I' G', fX8_serves R 210 r (n2 p) (mk I L c t) = some (n2 0, 0, mk I' L c t) ∧ R8 (I' r) (srvS (n + 1) s p) ∧ I' 210 16 = n2 (bits8 G') ∧ (∀ j, j < 8 → s 85 j ≠ 2 → G' j = G j) ∧ F8 I I' r := by
  have hz := grants_ok hp 8 T (s 94 0 + pot s) s h hB (Wt_le s) (Nat.le_refl _) h.2.2.2.2.2.2.2.1
  have hpd := pend_of h hp hz
  obtain ⟨g1, g2, g3, g4, g5, g6, g7, g8⟩ := hz
  have hT2 := h.2.2.2.2.2.2.2.1
  have hsv : srvS (n + 1) s p = (grantsS 8 s p).2.foldl (fun s o => (goOnS (srvS n) s o (lev p + 1)).1) (grantsS 8 s p).1 := rfl
  generalize hzf : grantsS 8 s p = zf at *
  have e0 : fX8_serves R 210 r (n2 p) (mk I L c t) = fX8_serves_9 R qfu 210 r (n2 p) (Int64.ofNat (nmL [])) (n2 0) (oi (iqS s p 0)) (mk I L c t) := by
    unfold fX8_serves
    rw [if_pos (by rw [kk_210])]
    unfold gX8_serves
    rw [l_0, x8_inQueue hr hR (h.bd hT) hp (by omega), qbnd_s]
    rfl
  rw [e0]
  have fin : ∀ (I1 : Nat → Nat → Int32), R8 (I1 r) zf.1 → F8 I I1 r → I1 210 16 = n2 (bits8 G) → ∃ I' G', fX8_serves_60 R qfu 210 r (n2 p) (Int64.ofNat (nmL zf.2)) (n2 zf.2.length) (n2 0) (mk I1 L c t) = some (n2 0, 0, mk I' L c t) ∧ R8 (I' r) (srvS (n + 1) s p) ∧ I' 210 16 = n2 (bits8 G') ∧ (∀ j, j < 8 → s 85 j ≠ 2 → G' j = G j) ∧ F8 I I' r := by
    intro I1 hR1 hF1 hG1
    have h0 : Iv (T - zf.2.length * (3 - lev p)) zf.1 := by
      obtain ⟨i1, i2, i3, i4, i5, i6, i7, i8, i9, i10, i11⟩ := g1
      exact ⟨i1, i2, i3, i4, i5, i6, i7, by omega, i9, i10, i11⟩
    have hWt := Wt_le s
    by_cases hgl : zf.2 = []
    · have hs : srvS (n + 1) s p = zf.1 := by
        rw [hsv, hgl, List.foldl_nil]
      rw [hgl, hs]
      refine ⟨I1, G, ?_, hR1, hG1, fun _ _ _ => rfl, hF1⟩
      obtain ⟨m, hm⟩ := qfu_s
      rw [hm, fX8_serves_60]
      dsimp only
      rw [if_pos (by rw [n2_le (by decide) (by omega)]; exact Nat.le_refl _)]
      rfl
    · have hlen : 1 ≤ zf.2.length := List.length_pos_iff.mpr hgl
      obtain ⟨I2, G2, r1, r2, r3, r4, r5⟩ := x8_s60 (L := L) (c := c) (t := t) (T := T) hr hS hT hp hR1 hG1 h0 g2 g7 (fun o ho => (hpd o ho).1) (by omega) (by
        unfold need at hn
        split at hn
        · right; omega
        · left; exact ⟨by omega, by omega⟩) (by omega)
      refine ⟨I2, G2, r1, by rw [hsv]; exact r2, r3, fun j hj hz => ?_, hF1.trans r5⟩
      have hjn : j ∉ zf.2 := fun z => hz (hpd j z).2
      exact r4 j hj hjn (by rw [g6 j hjn 85 (by omega)]; exact hz)
  refine lp_rk (α := (Nat → Nat → Int32) × St × List Nat) (fun y k z => fX8_serves_9 R y 210 r (n2 p) (Int64.ofNat (nmL z.2.2)) (n2 z.2.2.length) (oi (iqS z.2.1 p 0)) (mk z.1 L c t)) 8
    (fun k z => R8 (z.1 r) z.2.1 ∧ F8 I z.1 r ∧ Iv T z.2.1 ∧ z.2.2.length = k ∧ (∀ o ∈ z.2.2, o < 16) ∧ z.1 210 16 = n2 (bits8 G) ∧ Wt z.2.1 + k ≤ 8 ∧ (grantsS (8 - k) z.2.1 p).1 = zf.1 ∧ z.2.2 ++ (grantsS (8 - k) z.2.1 p).2 = zf.2)
    (fun q => ∃ I' G', q = some (n2 0, 0, mk I' L c t) ∧ R8 (I' r) (srvS (n + 1) s p) ∧ I' 210 16 = n2 (bits8 G') ∧ (∀ j, j < 8 → s 85 j ≠ 2 → G' j = G j) ∧ F8 I I' r) (k0 := 0) (by omega) (by omega) (I, s, []) ⟨hR, F8.rf _ _, h, rfl, fun o ho => absurd ho List.not_mem_nil, hG, Wt_le s, by rw [← hzf], by rw [← hzf]; rfl⟩ (fun y k z hk0 hk hi => ?_) (fun y z hi => ?_)
  · obtain ⟨I1, s1, gl⟩ := z
    obtain ⟨h1, h2, h3, h4, h5, h6, h6b, h7, h8⟩ := hi
    dsimp only at h1 h2 h3 h4 h5 h6 h6b h7 h8
    have hBd := h3.bd hT
    obtain ⟨f1, f2⟩ := fiq_hd h3 hp
    have h88 : 8 - k = (7 - k) + 1 := by omega
    rw [h88] at h7 h8
    simp only [grantsS] at h7 h8
    show (∃ I' G', fX8_serves_9 R (y + 1) 210 r (n2 p) (Int64.ofNat (nmL gl)) (n2 gl.length) (oi (iqS s1 p 0)) (mk I1 L c t) = _ ∧ _) ∨ ∃ a', fX8_serves_9 R (y + 1) 210 r (n2 p) (Int64.ofNat (nmL gl)) (n2 gl.length) (oi (iqS s1 p 0)) (mk I1 L c t) = _ ∧ _
    rw [iq_0 h3 hp, fX8_serves_9]
    dsimp only
    rw [l_0]
    cases hfq : fiq s1 p with
    | none =>
      left
      rw [hfq] at h7 h8
      rw [List.append_nil] at h8
      obtain ⟨I2, G2, r1, r2⟩ := fin I1 (by rw [← h7]; exact h1) h2 h6
      rw [← h8] at r1
      refine ⟨I2, G2, ?_, r2⟩
      rw [if_pos (show oi none < n2 0 by decide)]
      exact r1
    | some o =>
      have hd1 := f1 o hfq
      have ho := hd1.1
      have how := hBd.ow ho
      have hat := hd1.2.1
      have hw90 := (h1.2.1 o ho).2.2.2.2.2.1
      rw [hfq] at h7 h8
      dsimp only at h7 h8
      rw [show oi (some o) = n2 o from rfl, if_neg (by rw [n2_lt (by omega) (by omega)]; omega), l_720, n2_add, r8L hr (by omega) hw90, qbnd_s, x8_goesWithOthers hr h1 hBd ho hp (by omega), qbnd_s]
      dsimp only
      rcases bcs (fitb s1 o p (s1 90 o)) with e | e
      · left
        rw [if_neg (by rw [e]; simp)] at h7 h8
        rw [List.append_nil] at h8
        obtain ⟨I2, G2, r1, r2⟩ := fin I1 (by rw [← h7]; exact h1) h2 h6
        rw [← h8] at r1
        refine ⟨I2, G2, ?_, r2⟩
        rw [e, if_pos no_zero]
        exact r1
      · right
        rw [if_pos e] at h7 h8
        have hgr := iv_grt (T := T) h3 ho hp hat (s1 94 0 + pot s1) (Nat.le_refl _) (by have := h3.2.2.2.2.2.2.2.1; omega)
        have hR2 := h1.grd ho hp hat
        have hr210 : r ≠ 210 := by omega
        refine ⟨(upI (upI (upI I1 r (85 * o + p) (n2 (s1 90 o))) r (680 + o) (n2 1)) r (712 + o) (n2 85), grt s1 o, gl ++ [o]), ?_, hR2, h2.trans ((Fx.up.trans (Fx.up.trans Fx.up)).f8), hgr.1, by simp [h4], fun q hq => ?_, by dsimp only; rw [upI_ne (by omega), upI_ne (by omega), upI_ne (by omega)]; exact h6, by have := hgr.2.2; dsimp only; omega, by rw [show 8 - (k + 1) = 7 - k by omega]; exact h7, ?_⟩
        · rw [e, if_neg yes_zero, r8L hr (by omega) hw90, qbnd_s, x8_holdsNow hr ho hp, qbnd_s]
          dsimp only
          rw [l_680, l_1, n2_add, rw_S hr (by omega), qbnd_s, l_712, l_85, n2_add, rw_S hr (by omega), qbnd_s, l_4, dig_put (by omega) ho h5, x8_inQueue hr hR2 (hgr.1.bd hT) hp (by omega), qbnd_s]
          have hl1 : (gl ++ [o]).length = gl.length + 1 := by simp
          rw [hl1, n2_add]
        · rw [List.mem_append, List.mem_singleton] at hq
          rcases hq with hq | rfl
          · exact h5 q hq
          · omega
        · show gl ++ [o] ++ (grantsS (8 - (k + 1)) (grt s1 o) p).2 = _
          rw [show 8 - (k + 1) = 7 - k by omega, List.append_assoc]
          exact h8
  · obtain ⟨I1, s1, gl⟩ := z
    obtain ⟨h1, h2, h3, h4, h5, h6, h6b, h7, h8⟩ := hi
    dsimp only at h1 h2 h3 h4 h5 h6 h6b h7 h8
    rw [Nat.sub_self] at h7 h8
    simp only [grantsS, List.append_nil] at h7 h8
    obtain ⟨I2, G2, r1, r2⟩ := fin I1 (by rw [← h7]; exact h1) h2 h6
    rw [← h8] at r1
    refine ⟨I2, G2, ?_, r2⟩
    have hnone : fiq s1 p = none := by
      cases hfq : fiq s1 p with
      | none => rfl
      | some o =>
        have hd1 := (fiq_hd h3 hp).1 o hfq
        have hb : bn (decide (s1 85 o = 2)) ≤ Wt s1 := sum8_le (f := fun o => bn (decide (s1 85 o = 2))) hd1.1
        have h2 : s1 85 o = 2 := h3.w hd1.1 hp hd1.2.1
        rw [h2] at hb
        simp [bn] at hb
        omega
    show fX8_serves_9 R (y + 1) 210 r (n2 p) (Int64.ofNat (nmL gl)) (n2 gl.length) (oi (iqS s1 p 0)) (mk I1 L c t) = _
    rw [iq_0 h3 hp, hnone, fX8_serves_9]
    dsimp only
    rw [l_0, if_pos (show oi none < n2 0 by decide)]
    exact r1
theorem sv8_ok (hr : r = 217 ∨ r = 218) : ∀ (m n : Nat), n ≤ m → Sv8 (sX8_serves m) r n := by
  intro m
  induction m with
  | zero =>
    intro n hn L c t I s p U T G hT hp hR hG h hB hnd
    unfold need at hnd
    split at hnd <;> omega
  | succ m ih =>
    intro n hn L c t I s p U T G hT hp hR hG h hB hnd
    cases n with
    | zero =>
      unfold need at hnd
      split at hnd <;> omega
    | succ n =>
      obtain ⟨I', G', a1, a2⟩ := x8_serves (L := L) (c := c) (t := t) (n := n) hr (ih n (by omega)) hT hp hR hG h hB hnd
      exact ⟨I', G', a1, a2⟩
end S8I

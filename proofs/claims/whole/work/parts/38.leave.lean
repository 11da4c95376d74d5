/-! PURE SIDE, THE DESK: an owner goes; bits of owners -/
def awy (s : St) (o : Nat) : St := fun a b => if b = o ∧ a < 88 then 0 else if b = o ∧ a = 89 then 85 else s a b
def lL (s : St) (o : Nat) : List Nat := (List.range 85).filter fun p => decide (s p o ≠ 0) || decide (s 89 o = p)
def leaveS (s : St) (o : Nat) : St := (lL s o).foldl (srvS 17) (awy s o)
theorem awy_ne {s : St} {o k j : Nat} (h : j ≠ o) : awy s o k j = s k j := by
  unfold awy
  rw [if_neg (fun z => h z.1), if_neg (fun z => h z.1)]
theorem awy_lo {s : St} {o k : Nat} (h : k < 88) : awy s o k o = 0 := by
  unfold awy
  rw [if_pos ⟨rfl, h⟩]
theorem awy_89 {s : St} {o : Nat} : awy s o 89 o = 85 := by
  unfold awy
  rw [if_neg (by omega), if_pos ⟨rfl, rfl⟩]
theorem awy_hi {s : St} {o k j : Nat} (h : 88 ≤ k) (h2 : k ≠ 89) : awy s o k j = s k j := by
  unfold awy
  rw [if_neg (by omega), if_neg (by omega)]
theorem iv_awy {T : Nat} {s : St} {o : Nat} (h : Iv T s) (ho : o < 8) : Iv T (awy s o) := by
  obtain ⟨h1, h2, h3, h4, h5, h6, h7, h8, h9, h10, h11⟩ := h
  have e : ∀ k j, j ≠ o → awy s o k j = s k j := fun k j hj => awy_ne hj
  have f85 : awy s o 85 o = 0 := awy_lo (by omega)
  have f9 : ∀ k, 88 ≤ k → k ≠ 89 → ∀ j, awy s o k j = s k j := fun k hk hk2 j => awy_hi hk hk2
  refine ⟨fun p j hp hj => ?_, fun j hj => ?_, fun j hj hw => ?_, fun j hj hw => ?_, fun i j hi hj hwi hwj ht => ?_, fun q' j hq1 hq2 hj hz => ?_, fun p j hp hj hz => ?_, ?_, ?_, ?_, ?_⟩
  · by_cases hjo : j = o
    · rw [hjo, awy_lo (by omega)]; omega
    · rw [e p j hjo]; exact h1 p j hp hj
  · have := h2 j hj
    rw [f9 88 (by omega) (by omega), f9 90 (by omega) (by omega), f9 91 (by omega) (by omega), f9 92 (by omega) (by omega), f9 93 (by omega) (by omega), f9 94 (by omega) (by omega)]
    by_cases hjo : j = o
    · rw [hjo, f85, awy_lo (by omega)]
      rw [hjo] at this
      exact ⟨by omega, by omega, this.2.2⟩
    · rw [e 85 j hjo, e 87 j hjo]; exact this
  · have hjo : j ≠ o := fun z => by rw [z, f85] at hw; cases hw
    rw [e 85 j hjo] at hw
    rw [e 89 j hjo, f9 90 (by omega) (by omega), f9 91 (by omega) (by omega), f9 92 (by omega) (by omega), f9 93 (by omega) (by omega), f9 94 (by omega) (by omega)]
    exact h3 j hj hw
  · by_cases hjo : j = o
    · rw [hjo, awy_89]
    · rw [e 85 j hjo] at hw
      rw [e 89 j hjo]
      exact h4 j hj hw
  · have hio : i ≠ o := fun z => by rw [z, f85] at hwi; cases hwi
    have hjo : j ≠ o := fun z => by rw [z, f85] at hwj; cases hwj
    rw [e 85 i hio] at hwi
    rw [e 85 j hjo] at hwj
    rw [f9 91 (by omega) (by omega), f9 91 (by omega) (by omega)] at ht
    exact h5 i j hi hj hwi hwj ht
  · by_cases hjo : j = o
    · subst hjo
      rw [awy_lo (by omega), awy_89] at hz
      omega
    · rw [e q' j hjo, e 89 j hjo] at hz
      rw [e (par q') j hjo]
      exact h6 q' j hq1 hq2 hj hz
  · by_cases hjo : j = o
    · rw [hjo, awy_lo (by omega)]
    · rw [e 85 j hjo] at hz
      rw [e p j hjo]
      exact h7 p j hp hj hz
  · have : pot (awy s o) ≤ pot s := sum8_mono fun j hj => by
      by_cases hjo : j = o
      · rw [hjo, awy_89]
        rw [if_neg (by omega)]
        exact Nat.zero_le _
      · rw [e 89 j hjo]
        exact Nat.le_refl _
    rw [f9 94 (by omega) (by omega)]
    omega
  · rw [f9 94 (by omega) (by omega)]; exact h9
  · rw [f9 94 (by omega) (by omega)]; exact h10
  · rw [f9 94 (by omega) (by omega)]; exact h11
theorem tog_07 : ∀ x, x < 7 → tog x 0 = true := by decide +kernel
theorem lL_iff {s : St} {o p : Nat} : p ∈ lL s o ↔ p < 85 ∧ (s p o ≠ 0 ∨ s 89 o = p) := by
  unfold lL
  rw [List.mem_filter, List.mem_range, Bool.or_eq_true, decide_eq_true_eq, decide_eq_true_eq]
theorem blk_awy {T : Nat} {s : St} {o : Nat} (h : Iv T s) (hB : Blk s []) : Blk (awy s o) (lL s o) := by
  intro p x hp hpU hx
  have e : ∀ k j, j ≠ o → awy s o k j = s k j := fun k j hj => awy_ne hj
  have hxo : x ≠ o := fun z => by have := hx.2.1; rw [z, awy_89] at this; omega
  have hpn : s p o = 0 ∧ s 89 o ≠ p := by
    rw [lL_iff] at hpU
    constructor
    · by_cases z : s p o = 0
      · exact z
      · exact absurd ⟨hp, Or.inl z⟩ hpU
    · exact fun z => hpU ⟨hp, Or.inr z⟩
  have hx0 : Hd s p x := by
    refine hx.congr (fun j hj hj2 => ?_) (fun j hj hj2 => ?_)
    · have hjo : j ≠ o := fun z => by rw [z, awy_89] at hj2; omega
      refine ⟨by rw [← e 89 j hjo]; exact hj2, e 91 j hjo, ?_⟩
      unfold chg
      rw [e 89 j hjo, e _ j hjo]
    · have hjo : j ≠ o := fun z => by rw [z] at hj2; exact hpn.2 hj2
      left
      rw [e 89 j hjo]; exact hj2
  obtain ⟨j, j1, j2, j3⟩ := fitb_iff.mp (hB p x hp List.not_mem_nil hx0)
  have hjo : j ≠ o := fun z => by
    have hw := (h.2.1 x hx.1).2.2.2.1
    rw [z, hpn.1, tog_07 _ (by omega)] at j3
    cases j3
  refine fitb_iff.mpr ⟨j, j1, j2, ?_⟩
  rw [e 90 x hxo, e p j hjo]
  exact j3
theorem leave_ok {T : Nat} {s : St} {o : Nat} (h : Iv T s) (hB : Blk s []) (ho : o < 8) : RS T [] (awy s o) (leaveS s o) False :=
  (fun z : RS T [] (awy s o) (leaveS s o) _ => (⟨z.1, z.2.1, z.2.2.1, z.2.2.2.1, fun y => y.elim, z.2.2.2.2.2⟩ : RS T [] (awy s o) (leaveS s o) False)) (fold_ok (srv_ok 17) (lL s o) [] (awy s o) T (fun q hq => (lL_iff.mp hq).1) (iv_awy h ho) (by rw [List.append_nil]; exact blk_awy h hB) (Or.inr (by omega)))
/-! bits of owners -/
def b8 (b0 b1 b2 b3 b4 b5 b6 b7 : Bool) : Nat := [b0, b1, b2, b3, b4, b5, b6, b7].zipIdx.foldl (fun n z => if z.1 = true then n ||| (1 <<< z.2) else n) 0
theorem bits8_b8 (P : Nat → Bool) : bits8 P = b8 (P 0) (P 1) (P 2) (P 3) (P 4) (P 5) (P 6) (P 7) := rfl
theorem b8_facts : ∀ b0 b1 b2 b3 b4 b5 b6 b7 : Bool, b8 b0 b1 b2 b3 b4 b5 b6 b7 < 256 ∧ (b8 b0 b1 b2 b3 b4 b5 b6 b7 = 0 ↔ (b0 || b1 || b2 || b3 || b4 || b5 || b6 || b7) = false) := by decide +kernel
theorem b8_bit : ∀ b0 b1 b2 b3 b4 b5 b6 b7 : Bool, ∀ o, o < 8 → (b8 b0 b1 b2 b3 b4 b5 b6 b7 >>> o) &&& 1 = bn ([b0, b1, b2, b3, b4, b5, b6, b7].getD o false) := by decide +kernel
theorem b8_set : ∀ b0 b1 b2 b3 b4 b5 b6 b7 : Bool, ∀ o, o < 8 → b8 b0 b1 b2 b3 b4 b5 b6 b7 ||| (1 <<< o) = b8 (decide (o = 0) || b0) (decide (o = 1) || b1) (decide (o = 2) || b2) (decide (o = 3) || b3) (decide (o = 4) || b4) (decide (o = 5) || b5) (decide (o = 6) || b6) (decide (o = 7) || b7) := by decide +kernel
theorem b8_clr : ∀ b0 b1 b2 b3 b4 b5 b6 b7 : Bool, ∀ o, o < 8 → n2 (b8 b0 b1 b2 b3 b4 b5 b6 b7) &&& (n2 (1 <<< o) ^^^ -n2 1) = n2 (b8 (!decide (o = 0) && b0) (!decide (o = 1) && b1) (!decide (o = 2) && b2) (!decide (o = 3) && b3) (!decide (o = 4) && b4) (!decide (o = 5) && b5) (!decide (o = 6) && b6) (!decide (o = 7) && b7)) := by decide +kernel
theorem bits8_lt (P : Nat → Bool) : bits8 P < 256 := by rw [bits8_b8]; exact (b8_facts _ _ _ _ _ _ _ _).1
theorem bits8_bit (P : Nat → Bool) {o : Nat} (ho : o < 8) : (bits8 P >>> o) &&& 1 = bn (P o) := by
  rw [bits8_b8, b8_bit _ _ _ _ _ _ _ _ o ho]
  rcases lt8 ho with rfl | rfl | rfl | rfl | rfl | rfl | rfl | rfl <;> rfl
theorem bits8_set (P : Nat → Bool) {o : Nat} (ho : o < 8) : bits8 P ||| (1 <<< o) = bits8 fun j => decide (o = j) || P j := by
  rw [bits8_b8, b8_set _ _ _ _ _ _ _ _ o ho, bits8_b8]
theorem bits8_clr (P : Nat → Bool) {o : Nat} (ho : o < 8) : n2 (bits8 P) &&& (n2 (1 <<< o) ^^^ -n2 1) = n2 (bits8 fun j => !decide (o = j) && P j) := by
  rw [bits8_b8, b8_clr _ _ _ _ _ _ _ _ o ho, bits8_b8]
theorem bits8_congr {P Q : Nat → Bool} (h : ∀ j, j < 8 → P j = Q j) : bits8 P = bits8 Q := by
  rw [bits8_b8, bits8_b8, h 0 (by omega), h 1 (by omega), h 2 (by omega), h 3 (by omega), h 4 (by omega), h 5 (by omega), h 6 (by omega), h 7 (by omega)]
theorem bits8_zero (P : Nat → Bool) : (bits8 P = 0) ↔ ∀ j, j < 8 → P j = false := by
  rw [bits8_b8, (b8_facts _ _ _ _ _ _ _ _).2]
  constructor
  · intro h j hj
    simp only [Bool.or_eq_false_iff] at h
    rcases lt8 hj with rfl | rfl | rfl | rfl | rfl | rfl | rfl | rfl <;> simp [h]
  · intro h
    simp [h 0 (by omega), h 1 (by omega), h 2 (by omega), h 3 (by omega), h 4 (by omega), h 5 (by omega), h 6 (by omega), h 7 (by omega)]
theorem bits8_q (P : Nat → Bool) {o : Nat} (ho : o < 8) : qush (n2 (bits8 P)) (n2 o) &&& n2 1 = n2 (bn (P o)) := by
  have := bits8_lt P
  rw [qush_n2 (by omega) (by omega), n2_and, bits8_bit P ho]
/-! a desk with its marks -/
/-- nothing has changed but a desk's state and its marks -/
def Fdk (I I' : Nat → Nat → Int32) (d _e : Nat) : Prop := ∀ b i, (b < d + 1 ∨ d + 12 ≤ b) → b ≠ d + 18 → I' b i = I b i
theorem Fdk.rf (I : Nat → Nat → Int32) (d e : Nat) : Fdk I I d e := fun _ _ _ _ => rfl
theorem Fdk.trans {I I1 I2 : Nat → Nat → Int32} {d e : Nat} (h1 : Fdk I I1 d e) (h2 : Fdk I1 I2 d e) : Fdk I I2 d e := fun b i h h3 => (h2 b i h h3).trans (h1 b i h h3)
theorem Fdk.up {I : Nat → Nat → Int32} {a i d e : Nat} {x : Int32} (h1 : d + 1 ≤ a) (h2 : a < d + 12 ∨ a = d + 18) : Fdk I (upI I a i x) d e := fun b j h h3 => upI_ne (by omega)
theorem Fr.dd {I I' : Nat → Nat → Int32} {d e : Nat} (h : Fr I I' (d + 1) (d + 1 + 11)) : Fdk I I' d e := fun b i hb _ => h b i (by omega)
theorem Fdk.fr {I I' : Nat → Nat → Int32} {d e : Nat} (h : Fdk I I' d e) : Fr I I' d (d + 19) := fun b i hb => h b i (by omega) (by omega)
def DW (I : Nat → Nat → Int32) (d : Nat) (s : St) (D : Nat → Nat → Bool) : Prop := R7 I (d + 1) s ∧ ∀ p, p < 85 → I (d + 18) p = n2 (bits8 (D p))
def dset (D : Nat → Nat → Bool) (p o : Nat) (v : Bool) : Nat → Nat → Bool := fun q j => if q = p ∧ j = o then v else D q j
theorem DW.fr {I I' : Nat → Nat → Int32} {d lo hi : Nat} {s : St} {D : Nat → Nat → Bool} (h : DW I d s D) (hf : Fr I I' lo hi) (hd : d + 19 ≤ lo ∨ hi ≤ d) : DW I' d s D :=
  ⟨h.1.fr hf (by omega), fun p hp => by rw [hf _ _ (by omega)]; exact h.2 p hp⟩
section S7C
variable {I : Nat → Nat → Int32} {L : Nat → Nat → Int64} {c t d : Nat} {s : St} {D : Nat → Nat → Bool}
theorem x0_release (hd : d ∈ dkl) (hW : DW I d s D) {o p : Nat} (ho : o < 8) (hp : p < 85) : ∃ I', fX0_release d (n2 o) (n2 p) (mk I L c t) = some (n2 0, 0, mk I' L c t) ∧ DW I' d (su s p o 0) (dset D p o true) ∧ Fdk I I' d (d + 19) := by
  obtain ⟨hR, hD⟩ := hW
  have ha := dk_st hd
  have h1 := hD p hp
  refine ⟨upI (upI I (d + 1 + 1) p (ncl (I (d + 1 + 1) p) o)) (d + 18) p (n2 (bits8 fun j => decide (o = j) || D p j)), ?_, ⟨?_, fun q hq => ?_⟩, ?_⟩
  · simp (disch := first | assumption | omega) only [fX0_release, gX0_release, l_0, l_1, l_2, l_3, l_4, l_5, l_6, l_7, l_8, l_9, l_10, l_11, l_12, l_15, l_16, l_21, l_24, l_31, l_32, l_40, l_64, l_76, l_80, l_84, l_85, l_99, l_255, l_256, l_680, l_688, l_696, l_704, l_712, l_720, l_728, l_736, l_744, l_752, l_753, l_754, l_755, l_1000, l_2000, l_3000, l_7550, l_1000000, l_41, l_42, l_43, l_45, l_47, l_48, l_56, l_57, l_60, l_61, l_62, l_63, l_73, l_83, l_88, l_97, l_98, l_100, l_101, l_102, l_103, l_104, l_105, l_108, l_111, l_113, l_117, l_118, l_119, l_120, l_65536, n2_31, n2_add, n2_mul, n2_sub, n2_eq, n2_le, n2_lt, n2_div, n2_qz0, n2_qz1, n2_qzb, bn_0, bn_1, bn_t, bn_f, n2_eqm, n2_meq, n2_ltm, n2_mlt, n2_lem, n2_mle, if_true, if_false, qbnd_s, ite_true, ite_false, if_pos, reduceIte, st_q, st_P0, st_P1, st_P2, st_P3, st_P4, st_P5, st_P6, st_P7, st_P8, st_P9, st_L0, st_S0, st_L1, st_S1, st_L2, st_S2, st_L3, st_S3, st_L4, st_S4, st_L5, st_S5, st_L6, st_S6, st_L7, st_S7, st_L8, st_S8, st_L9, st_S9, st_I10, st_U10, st_I11, st_U11, st_I12, st_U12, dk_q, lk_q, dk_P0, dk_P1, dk_P2, dk_P3, dk_I4, dk_U4, dk_gL, dk_gS, dk_dL, dk_dS, lk_P0, lk_L0, lk_S0, lk_P1, lk_L1, lk_S1, lk_P2, lk_L2, lk_S2, lk_P3, lk_L3, lk_S3, ncl, upI_ne, h1, n2_or, n2_shl, bits8_set (D p) ho]
  · refine R7.fr (lo := d + 18) (hi := d + 19) (R7.setm hR hp ho fun q hq => ?_) (Fr.up (by omega) (by omega)) (by omega)
    exact nib_ncl _ ho hq
  · by_cases e : q = p
    · subst e
      rw [upI_eq]
      exact congrArg n2 (bits8_congr fun j hj => by
        unfold dset
        by_cases e : j = o
        · simp [e]
        · simp [e, show ¬ o = j from fun z => e z.symm])
    · rw [upI_ni e, upI_ne (by omega), hD q hq]
      exact congrArg n2 (bits8_congr fun j hj => by
        unfold dset
        simp [e])
  · exact (Fdk.up (by omega) (by omega)).trans (Fdk.up (by omega) (by omega))
theorem x0_takeDue (hd : d ∈ dkl) (hW : DW I d s D) {o p : Nat} (ho : o < 8) (hp : p < 85) : ∃ I', fX0_takeDue d (n2 o) (n2 p) (mk I L c t) = some (n2 (bn (D p o)), 0, mk I' L c t) ∧ DW I' d s (dset D p o false) ∧ Fdk I I' d (d + 19) := by
  obtain ⟨hR, hD⟩ := hW
  have h1 := hD p hp
  refine ⟨upI I (d + 18) p (n2 (bits8 fun j => !decide (o = j) && D p j)), ?_, ⟨?_, fun q hq => ?_⟩, Fdk.up (by omega) (by omega)⟩
  · simp (disch := first | assumption | omega) only [fX0_takeDue, gX0_takeDue, fX0_takeDue_12, l_0, l_1, l_2, l_3, l_4, l_5, l_6, l_7, l_8, l_9, l_10, l_11, l_12, l_15, l_16, l_21, l_24, l_31, l_32, l_40, l_64, l_76, l_80, l_84, l_85, l_99, l_255, l_256, l_680, l_688, l_696, l_704, l_712, l_720, l_728, l_736, l_744, l_752, l_753, l_754, l_755, l_1000, l_2000, l_3000, l_7550, l_1000000, l_41, l_42, l_43, l_45, l_47, l_48, l_56, l_57, l_60, l_61, l_62, l_63, l_73, l_83, l_88, l_97, l_98, l_100, l_101, l_102, l_103, l_104, l_105, l_108, l_111, l_113, l_117, l_118, l_119, l_120, l_65536, n2_31, n2_add, n2_mul, n2_sub, n2_eq, n2_le, n2_lt, n2_div, n2_qz0, n2_qz1, n2_qzb, bn_0, bn_1, bn_t, bn_f, n2_eqm, n2_meq, n2_ltm, n2_mlt, n2_lem, n2_mle, if_true, if_false, qbnd_s, ite_true, ite_false, if_pos, reduceIte, dk_q, lk_q, dk_P0, dk_P1, dk_P2, dk_P3, dk_I4, dk_U4, dk_gL, dk_gS, dk_dL, dk_dS, lk_P0, lk_L0, lk_S0, lk_P1, lk_L1, lk_S1, lk_P2, lk_L2, lk_S2, lk_P3, lk_L3, lk_S3, h1, n2_shl, bits8_q (D p) ho, bits8_clr (D p) ho]
    rcases bcs (D p o) with e | e <;> simp [e, bn]
  · exact hR.fr (lo := d + 18) (hi := d + 19) (Fr.up (by omega) (by omega)) (by omega)
  · by_cases e : q = p
    · subst e
      rw [upI_eq]
      exact congrArg n2 (bits8_congr fun j hj => by
        unfold dset
        by_cases e : j = o
        · simp [e]
        · simp [e, show ¬ o = j from fun z => e z.symm])
    · rw [upI_ni e, hD q hq]
      exact congrArg n2 (bits8_congr fun j hj => by
        unfold dset
        simp [e])
end S7C

/-! PURE SIDE, THE CLASS: years -/
def strM (i : Nat) : List Nat := ([[98, 108, 108, 108, 119, 111], [101, 102, 103], [119, 104, 97, 102, 105, 113, 120], [60, 62, 61], [43, 45], [42, 47], [102, 98, 101, 118, 119, 117, 103, 108]] : List (List Nat)).getD i []
theorem jm_len : ∀ i, i < 7 → (Int32.ofNat (qtv (16 + i + 20)).length) >>> ((0 : Int32) &&& 31) = n2 (strM i).length ∧ qtk (16 + i) = 2 ∧ qtk (16 + i + 20) = 3 ∧ (strM i).length < 9 := by decide +kernel
theorem jm_chr : ∀ i, i < 7 → ∀ k, k < (strM i).length → oTab 3 (16 + i + 20) (n2 k) = some (n2 ((strM i).getD k 0)) ∧ (strM i).getD k 0 < 128 ∧ n2 k < Int32.ofNat (qtv (16 + i + 20)).length := by decide +kernel
theorem jm_length {i : Nat} (hi : i < 7) {μ : qM} : fJ0_length_8abf5 (16 + i) μ = some (n2 (strM i).length, 0, μ) := by
  obtain ⟨h1, h2, h3, -⟩ := jm_len i hi
  have hc : fJ0_coder_7d493 (16 + i) μ = some (0, 0, μ) := by
    unfold fJ0_coder_7d493
    rw [if_pos h2]
    unfold gJ0_coder_7d493
    rw [if_neg (show ¬ ((1 : Int32) = 0) by decide +kernel), if_pos h2, if_pos (show qnb (0 : Int32) = (0 : Int32) by decide +kernel)]
  unfold fJ0_length_8abf5
  rw [if_pos h2]
  unfold gJ0_length_8abf5
  rw [if_pos h2, if_pos (Or.inr h3), hc]
  show some (_, _, _) = _
  rw [h1]
theorem jm_charAt {i k : Nat} (hi : i < 7) (hk : k < (strM i).length) {μ : qM} : fJ0_charAt_5068e (16 + i) (n2 k) μ = some (n2 ((strM i).getD k 0), 0, μ) := by
  obtain ⟨-, h2, h3, h4⟩ := jm_len i hi
  obtain ⟨c1, c2, c3⟩ := jm_chr i hi k hk
  obtain ⟨d1, d2⟩ := chr_ok2 _ c2
  have hk31 : k < 2147483648 := by omega
  have e1 : fJ0_isLatin1_aae02 (16 + i) μ = some (1, 0, μ) := by
    unfold fJ0_isLatin1_aae02
    rw [if_pos h2]
    unfold gJ0_isLatin1_aae02
    rw [if_neg (show ¬ ((1 : Int32) = 0) by decide +kernel), if_pos h2, if_pos rfl, if_pos (show qnz (1 : Int32) = (1 : Int32) by decide +kernel)]
  have e2 : fJ1_charAt_3b067 (16 + i + 20) (n2 k) μ = some (n2 ((strM i).getD k 0), 0, μ) := by
    unfold fJ1_charAt_3b067
    rw [if_pos (Or.inr h3)]
    unfold fJ0_checkIndex_df160 fJ3_checkIndex_8e157
    rw [if_neg (by rw [l_0, n2_nn hk31]; exact not_false), if_pos c3]
    show qbnd (some _) _ = _
    rw [qbnd_s, c1, qbnd_s, l_255, d1, if_pos d2]
  unfold fJ0_charAt_5068e
  rw [if_pos h2]
  unfold gJ0_charAt_5068e
  rw [e1]
  rw [qbnd_s]
  dsimp only
  rw [if_neg (show ¬ ((1 : Int32) = 0) by decide +kernel), if_pos h2, e2, qbnd_s]
  show (if qnc (n2 ((strM i).getD k 0)) = n2 ((strM i).getD k 0) then _ else _) = _
  rw [if_pos d2]
/-- the next random number, and what is drawn of it (shut, for their numbers are great) -/
noncomputable def nxr : Int32 → Int32 := Classical.choose (⟨fun v => v * (1103515245 : Int32) + (12345 : Int32), rfl⟩ : ∃ f : Int32 → Int32, f = fun v => v * (1103515245 : Int32) + (12345 : Int32))
theorem nxr_eq (v : Int32) : nxr v = v * (1103515245 : Int32) + (12345 : Int32) := congrFun (Classical.choose_spec (⟨fun v => v * (1103515245 : Int32) + (12345 : Int32), rfl⟩ : ∃ f : Int32 → Int32, f = fun v => v * (1103515245 : Int32) + (12345 : Int32))) v
noncomputable def dr : Int32 → Nat → Nat := Classical.choose (⟨fun v n => (qush v (n2 16)).toNatClampNeg % n, rfl⟩ : ∃ f : Int32 → Nat → Nat, f = fun v n => (qush v (n2 16)).toNatClampNeg % n)
theorem dr_eq (v : Int32) (n : Nat) : dr v n = (qush v (n2 16)).toNatClampNeg % n := congrFun (congrFun (Classical.choose_spec (⟨fun v n => (qush v (n2 16)).toNatClampNeg % n, rfl⟩ : ∃ f : Int32 → Nat → Nat, f = fun v n => (qush v (n2 16)).toNatClampNeg % n)) v) n
theorem ush16 (v : Int32) : (qush v (n2 16)).toNatClampNeg < 65536 ∧ qush v (n2 16) = n2 (qush v (n2 16)).toNatClampNeg := by
  have h : ∃ k, k < 65536 ∧ qush v (n2 16) = n2 k := by
    refine ⟨v.toBitVec.toNat >>> 16, ?_, ?_⟩
    · rw [Nat.shiftRight_eq_div_pow]
      have := v.toBitVec.isLt
      omega
    · apply Int32.toBitVec_inj.1
      rw [qush_bv _ (by omega), n2_bv]
      apply BitVec.eq_of_toNat_eq
      rw [BitVec.toNat_ushiftRight, BitVec.toNat_ofNat, Nat.mod_eq_of_lt]
      rw [Nat.shiftRight_eq_div_pow]
      have := v.toBitVec.isLt
      omega
  obtain ⟨k, h1, h2⟩ := h
  rw [h2, n2_cl (by omega)]
  exact ⟨h1, rfl⟩
theorem dr_lt (v : Int32) {n : Nat} (h : 1 ≤ n) : dr v n < n := by
  rw [dr_eq]
  exact Nat.mod_lt _ h
theorem dr_ok (v : Int32) {n : Nat} (h1 : 1 ≤ n) (h2 : n < 1000) : qush v (n2 16) - qush v (n2 16) / n2 n * n2 n = n2 (dr v n) := by
  obtain ⟨a1, a2⟩ := ush16 v
  rw [dr_eq]
  generalize (qush v (n2 16)).toNatClampNeg = k at a1 a2 ⊢
  rw [a2, n2_div (by omega) (by omega), n2_mul, n2_sub (Nat.div_mul_le_self k n)]
  have h3 := Nat.div_add_mod k n
  rw [Nat.mul_comm] at h3
  congr 1
  omega
section S7YR
variable {I : Nat → Nat → Int32} {L : Nat → Nat → Int64} {c t N d : Nat} {s z : St} {h : List St} {kp : Nat → Option St} {tx : List Nat} {row : List Int64} {cs : List Nat} {μ : qM}
theorem x0_draw (hd : d ∈ dkl) {n : Nat} (h1 : 1 ≤ n) (h2 : n < 1000) : fX0_draw d (n2 n) (mk I L c t) = some (n2 (dr (nxr (I d 4)) n), 0, mk (upI I d 4 (nxr (I d 4))) L c t) := by
  unfold fX0_draw
  rw [if_pos (of_eq_true (dk_q hd))]
  unfold gX0_draw
  rw [nxr_eq, dk_I4 hd, qbnd_s, dk_U4 hd, qbnd_s, l_1, if_pos (by rw [n2_le (by omega) (by omega)]; exact h1), dk_I4 hd, qbnd_s, l_0, if_neg (by rw [n2_eq (by omega) (by omega)]; omega), upI_eq, l_16, ← nxr_eq, ← dr_ok _ h1 h2]
theorem DW.dr {D : Nat → Nat → Bool} {x : Int32} (h : DW I d s D) : DW (upI I d 4 x) d s D :=
  ⟨h.1.on fun b i h1 h2 => upI_ne (by omega), fun p hp => by rw [upI_ne (by omega)]; exact h.2 p hp⟩
theorem W7.q21 {I' : Nat → Nat → Int32} [FB] (hW : W7 I L s h kp tx row cs) (hf : ∀ b i, (b < 21 ∨ 40 ≤ b) → b ≠ 205 → b ≠ 209 → I' b i = I b i) (hz : DW I' 21 z D0) : W7 I' L s h kp tx row cs :=
  ⟨hW.dw.on fun b i h1 h2 => hf b i (by omega) (by omega) (by omega), ⟨z, hz⟩, hW.hi.fr fun b i h1 h2 => hf b i (by omega) (by omega) (by omega), hW.ke.on fun b i h1 h2 => hf b i (by omega) (by omega) (by omega), hW.te.on fun b i h1 h2 => hf b i (by omega) (by omega) (by omega), hW.ro.on (fun i => hf _ i (by omega) (by omega) (by omega)) fun i => rfl, hW.ru.fr (fun i => hf _ i (by omega) (by omega) (by omega)) (hf _ _ (by omega) (by omega) (by omega))⟩
/-- one drawn act: the random number and the desk behind it -/
noncomputable def yrA (cs : List Nat) (w : Int32 × St) : Int32 × St :=
  if dr (nxr w.1) 6 = 0 then (nxr (nxr w.1), (actS w.2 cs 98 (dr (nxr (nxr w.1)) 8) 0 0).2)
  else if dr (nxr w.1) 6 < 4 then (nxr (nxr (nxr (nxr w.1))), (actS w.2 cs 108 (dr (nxr (nxr w.1)) 8) (dr (nxr (nxr (nxr w.1))) 85) (dr (nxr (nxr (nxr (nxr w.1)))) 6 + 1)).2)
  else if dr (nxr w.1) 6 = 4 then (nxr (nxr (nxr w.1)), (actS w.2 cs 119 (dr (nxr (nxr w.1)) 8) (dr (nxr (nxr (nxr w.1))) 9 + 1) 0).2)
  else if dr (nxr (nxr (nxr w.1))) 3 = 0 then (nxr (nxr (nxr w.1)), (actS w.2 cs 101 (dr (nxr (nxr w.1)) 8) 0 0).2)
  else if dr (nxr (nxr (nxr w.1))) 3 = 1 then (nxr (nxr (nxr w.1)), (actS w.2 cs 102 (dr (nxr (nxr w.1)) 8) 0 0).2)
  else (nxr (nxr (nxr (nxr w.1))), (actS w.2 cs 103 (dr (nxr (nxr w.1)) 8) (dr (nxr (nxr (nxr (nxr w.1)))) 21) 0).2)
theorem gd_yrA {w : Int32 × St} (hG : Gd N w.2) (hN : N < 900000000) : Gd (N + 4) (yrA cs w).2 := by
  have key : ∀ g x y m, Gd (N + 4) (actS w.2 cs g x y m).2 := fun g x y m => gd_act hG hN
  unfold yrA
  split
  · exact key _ _ _ _
  split
  · exact key _ _ _ _
  split
  · exact key _ _ _ _
  split
  · exact key _ _ _ _
  split
  · exact key _ _ _ _
  · exact key _ _ _ _
noncomputable def yrS (cs : List Nat) (v : Int32) (s : St) (n : Nat) : Int32 × St := (List.range n).foldl (fun w _ => yrA cs w) (v, s)
theorem gd_yrS {v : Int32} (hG : Gd N s) : ∀ n, N + 4 * n < 900000000 → Gd (N + 4 * n) (yrS cs v s n).2 := by
  intro n
  induction n with
  | zero => intro _; exact hG
  | succ n ih =>
    intro hN
    have h1 : N + 4 * n < 900000000 := by omega
    have h2 := gd_yrA (N := N + 4 * n) (cs := cs) (w := yrS cs v s n) (ih h1) h1
    have h3 : yrS cs v s (n + 1) = yrA cs (yrS cs v s n) := by
      unfold yrS
      rw [List.range_succ, List.foldl_append]
      rfl
    rw [h3, show N + 4 * (n + 1) = N + 4 * n + 4 by omega]
    exact h2
theorem yr_act {k20 : Nat → Int32 → Int32 → qM → Option qR} [FB] (hW : W7 I L s h kp tx row cs) (hz : DW I 21 z D0) (hG : Gd N z) (hN : N < 900000000) {g x y m i : Nat} {q : Int32} (hg : g < 2147483648) (hx : x < 2147483648) (hy : y < 2147483648) (hm : m < 2147483648) : ∃ I', fX7_years_84 k20 1 q (n2 i) (n2 g) (n2 x) (n2 y) (n2 m) (mk I L c t) = k20 1 q (n2 (i + 1)) (mk I' L c t) ∧ W7 I' L s h kp tx row cs ∧ DW I' 21 (actS z cs g x y m).2 D0 ∧ I' 21 4 = I 21 4 ∧ Fw I I' := by
  obtain ⟨I1, r1, r2, r3⟩ := x0_act (L := L) (c := c) (t := t) (show 21 ∈ dkl by decide) (show 202 ∈ rul by decide) hz hG hN hW.ru hg hx hy hm
  refine ⟨I1, ?_, hW.q21 (fun b i h1 h2 h3 => r3 b i (by omega) h2 h3) r2, r2, r3 21 4 (by omega) (by omega) (by omega), r3.w (by decide)⟩
  unfold fX7_years_84
  rw [g1_1, qbnd_s, g1_8, qbnd_s, r1, qbnd_s]
  dsimp only
  rw [l_1, n2_add]
theorem yr_upd [FB] (hW : W7 I L s h kp tx row cs) (hz : DW I 21 z D0) (x : Int32) : W7 (upI I 21 4 x) L s h kp tx row cs ∧ DW (upI I 21 4 x) 21 z D0 ∧ (upI I 21 4 x) 21 4 = x ∧ Fw I (upI I 21 4 x) :=
  ⟨hW.q21 (fun b i h1 h2 h3 => upI_ne (by omega)) hz.dr, hz.dr, upI_eq, fun b i hb => upI_ne (by omega)⟩
theorem yr_step {n f i : Nat} [FB] (hW : W7 I L s h kp tx row cs) (hz : DW I 21 z D0) (hG : Gd N z) (hN : N < 900000000) (hi : i < n) (hn : n ≤ 40) : ∃ I', fX7_years_20 (f + 1) 1 (n2 n) (n2 i) (mk I L c t) = fX7_years_20 f 1 (n2 n) (n2 (i + 1)) (mk I' L c t) ∧ W7 I' L s h kp tx row cs ∧ DW I' 21 (yrA cs (I 21 4, z)).2 D0 ∧ I' 21 4 = (yrA cs (I 21 4, z)).1 ∧ Fw I I' := by
  have hd : 21 ∈ dkl := by decide
  have q3 : ¬ n2 n ≤ n2 i := by rw [n2_le (by omega) (by omega)]; omega
  obtain ⟨v, hv⟩ : ∃ v, I 21 4 = v := ⟨_, rfl⟩
  rw [hv]
  obtain ⟨w1, z1, v1, f1⟩ := yr_upd hW hz (nxr v)
  obtain ⟨w2, z2, v2, f2⟩ := yr_upd w1 z1 (nxr (nxr v))
  obtain ⟨w3, z3, v3, f3⟩ := yr_upd w2 z2 (nxr (nxr (nxr v)))
  obtain ⟨w4, z4, v4, f4⟩ := yr_upd w3 z3 (nxr (nxr (nxr (nxr v))))
  generalize hI1 : upI I 21 4 (nxr v) = I1 at *
  generalize hI2 : upI I1 21 4 (nxr (nxr v)) = I2 at *
  generalize hI3 : upI I2 21 4 (nxr (nxr (nxr v))) = I3 at *
  generalize hI4 : upI I3 21 4 (nxr (nxr (nxr (nxr v)))) = I4 at *
  have d1 : ∀ {n : Nat}, 1 ≤ n → n < 1000 → fX0_draw 21 (n2 n) (mk I L c t) = some (n2 (dr (nxr v) n), 0, mk I1 L c t) := fun h1 h2 => by rw [x0_draw hd h1 h2, hv, hI1]
  have d2 : ∀ {n : Nat}, 1 ≤ n → n < 1000 → fX0_draw 21 (n2 n) (mk I1 L c t) = some (n2 (dr (nxr (nxr v)) n), 0, mk I2 L c t) := fun h1 h2 => by rw [x0_draw hd h1 h2, v1, hI2]
  have d3 : ∀ {n : Nat}, 1 ≤ n → n < 1000 → fX0_draw 21 (n2 n) (mk I2 L c t) = some (n2 (dr (nxr (nxr (nxr v))) n), 0, mk I3 L c t) := fun h1 h2 => by rw [x0_draw hd h1 h2, v2, hI3]
  have d4 : ∀ {n : Nat}, 1 ≤ n → n < 1000 → fX0_draw 21 (n2 n) (mk I3 L c t) = some (n2 (dr (nxr (nxr (nxr (nxr v)))) n), 0, mk I4 L c t) := fun h1 h2 => by rw [x0_draw hd h1 h2, v3, hI4]
  have a6 := dr_lt (nxr v) (show 1 ≤ 6 by omega)
  have a8 := dr_lt (nxr (nxr v)) (show 1 ≤ 8 by omega)
  have a3 := dr_lt (nxr (nxr (nxr v))) (show 1 ≤ 3 by omega)
  have b9 := dr_lt (nxr (nxr (nxr v))) (show 1 ≤ 9 by omega)
  have b85 := dr_lt (nxr (nxr (nxr v))) (show 1 ≤ 85 by omega)
  have c6 := dr_lt (nxr (nxr (nxr (nxr v)))) (show 1 ≤ 6 by omega)
  have c21 := dr_lt (nxr (nxr (nxr (nxr v)))) (show 1 ≤ 21 by omega)
  have ch : ∀ {μ : qM}, fJ0_charAt_5068e 16 (n2 (dr (nxr v) 6)) μ = some (n2 ((strM 0).getD (dr (nxr v) 6) 0), 0, μ) := fun {μ} => jm_charAt (i := 0) (by omega) (show _ < 6 from a6)
  have ch3 : ∀ {μ : qM}, fJ0_charAt_5068e 17 (n2 (dr (nxr (nxr (nxr v))) 3)) μ = some (n2 ((strM 1).getD (dr (nxr (nxr (nxr v))) 3) 0), 0, μ) := fun {μ} => jm_charAt (i := 1) (by omega) (show _ < 3 from a3)
  have hs : ∀ k, k < 6 → (strM 0).getD k 0 < 128 := by decide
  have hs0 := hs _ a6
  have head : fX7_years_20 (f + 1) 1 (n2 n) (n2 i) (mk I L c t) = if n2 ((strM 0).getD (dr (nxr v) 6) 0) = n2 111 then fX7_years_49 (fX7_years_20 f) 1 (n2 n) (n2 i) (n2 ((strM 1).getD (dr (nxr (nxr (nxr v))) 3) 0)) (n2 (dr (nxr (nxr v)) 8)) (n2 0) (n2 0) (mk I3 L c t) else fX7_years_49 (fX7_years_20 f) 1 (n2 n) (n2 i) (n2 ((strM 0).getD (dr (nxr v) 6) 0)) (n2 (dr (nxr (nxr v)) 8)) (n2 0) (n2 0) (mk I2 L c t) := by
    rw [fX7_years_20]
    dsimp only
    rw [if_neg q3, g1_1, qbnd_s, l_6, d1 (by omega) (by omega), qbnd_s]
    dsimp only
    rw [ch, qbnd_s]
    dsimp only
    rw [g1_1, qbnd_s, l_8, d2 (by omega) (by omega), qbnd_s]
    dsimp only
    rw [l_111, g1_1, qbnd_s, l_3, d3 (by omega) (by omega), qbnd_s]
    dsimp only
    rw [ch3, qbnd_s, l_0]
  rw [head]
  unfold yrA
  dsimp only
  by_cases e0 : dr (nxr v) 6 = 0
  · rw [if_pos e0, e0]
    obtain ⟨J, r1, r2, r3, r4, r5⟩ := yr_act (k20 := fX7_years_20 f) (L := L) (c := c) (t := t) (q := n2 n) (i := i) w2 z2 hG hN (show 98 < 2147483648 by omega) (show dr (nxr (nxr v)) 8 < 2147483648 by omega) (show 0 < 2147483648 by omega) (show 0 < 2147483648 by omega)
    refine ⟨J, ?_, r2, r3, by rw [r4, v2], (f1.trans f2).trans r5⟩
    rw [show (strM 0).getD 0 0 = 98 from rfl, if_neg (by decide +kernel)]
    unfold fX7_years_49
    rw [l_108, l_119, l_103, if_neg (by decide +kernel), if_neg (by decide +kernel), if_neg (by decide +kernel)]
    exact r1
  rw [if_neg e0]
  by_cases e1 : dr (nxr v) 6 < 4
  · rw [if_pos e1]
    have hc : ∀ k, k < 4 → k ≠ 0 → (strM 0).getD k 0 = 108 := by decide
    rw [hc _ e1 e0]
    obtain ⟨J, r1, r2, r3, r4, r5⟩ := yr_act (k20 := fX7_years_20 f) (L := L) (c := c) (t := t) (q := n2 n) (i := i) w4 z4 hG hN (show 108 < 2147483648 by omega) (show dr (nxr (nxr v)) 8 < 2147483648 by omega) (show dr (nxr (nxr (nxr v))) 85 < 2147483648 by omega) (show dr (nxr (nxr (nxr (nxr v)))) 6 + 1 < 2147483648 by omega)
    refine ⟨J, ?_, r2, r3, by rw [r4, v4], (((f1.trans f2).trans f3).trans f4).trans r5⟩
    rw [if_neg (by decide +kernel)]
    unfold fX7_years_49
    rw [l_108, if_pos rfl, g1_1, qbnd_s, l_85, d3 (by omega) (by omega), qbnd_s]
    dsimp only
    rw [g1_1, qbnd_s, l_6, d4 (by omega) (by omega), qbnd_s]
    dsimp only
    rw [l_1, n2_add]
    exact r1
  rw [if_neg e1]
  by_cases e2 : dr (nxr v) 6 = 4
  · rw [if_pos e2, e2]
    obtain ⟨J, r1, r2, r3, r4, r5⟩ := yr_act (k20 := fX7_years_20 f) (L := L) (c := c) (t := t) (q := n2 n) (i := i) w3 z3 hG hN (show 119 < 2147483648 by omega) (show dr (nxr (nxr v)) 8 < 2147483648 by omega) (show dr (nxr (nxr (nxr v))) 9 + 1 < 2147483648 by omega) (show 0 < 2147483648 by omega)
    refine ⟨J, ?_, r2, r3, by rw [r4, v3], ((f1.trans f2).trans f3).trans r5⟩
    rw [show (strM 0).getD 4 0 = 119 from rfl, if_neg (by decide +kernel)]
    unfold fX7_years_49
    rw [l_108, l_119, if_neg (by decide +kernel), if_pos rfl, g1_1, qbnd_s, l_9, d3 (by omega) (by omega), qbnd_s]
    dsimp only
    rw [l_1, n2_add]
    exact r1
  rw [if_neg e2]
  have e5 : dr (nxr v) 6 = 5 := by omega
  rw [e5, show (strM 0).getD 5 0 = 111 from rfl, if_pos rfl]
  by_cases g0 : dr (nxr (nxr (nxr v))) 3 = 0
  · rw [if_pos g0, g0]
    obtain ⟨J, r1, r2, r3, r4, r5⟩ := yr_act (k20 := fX7_years_20 f) (L := L) (c := c) (t := t) (q := n2 n) (i := i) w3 z3 hG hN (show 101 < 2147483648 by omega) (show dr (nxr (nxr v)) 8 < 2147483648 by omega) (show 0 < 2147483648 by omega) (show 0 < 2147483648 by omega)
    refine ⟨J, ?_, r2, r3, by rw [r4, v3], ((f1.trans f2).trans f3).trans r5⟩
    rw [show (strM 1).getD 0 0 = 101 from rfl]
    unfold fX7_years_49
    rw [l_108, l_119, l_103, if_neg (by decide +kernel), if_neg (by decide +kernel), if_neg (by decide +kernel)]
    exact r1
  rw [if_neg g0]
  by_cases g1 : dr (nxr (nxr (nxr v))) 3 = 1
  · rw [if_pos g1, g1]
    obtain ⟨J, r1, r2, r3, r4, r5⟩ := yr_act (k20 := fX7_years_20 f) (L := L) (c := c) (t := t) (q := n2 n) (i := i) w3 z3 hG hN (show 102 < 2147483648 by omega) (show dr (nxr (nxr v)) 8 < 2147483648 by omega) (show 0 < 2147483648 by omega) (show 0 < 2147483648 by omega)
    refine ⟨J, ?_, r2, r3, by rw [r4, v3], ((f1.trans f2).trans f3).trans r5⟩
    rw [show (strM 1).getD 1 0 = 102 from rfl]
    unfold fX7_years_49
    rw [l_108, l_119, l_103, if_neg (by decide +kernel), if_neg (by decide +kernel), if_neg (by decide +kernel)]
    exact r1
  rw [if_neg g1]
  have g2 : dr (nxr (nxr (nxr v))) 3 = 2 := by omega
  obtain ⟨J, r1, r2, r3, r4, r5⟩ := yr_act (k20 := fX7_years_20 f) (L := L) (c := c) (t := t) (q := n2 n) (i := i) w4 z4 hG hN (show 103 < 2147483648 by omega) (show dr (nxr (nxr v)) 8 < 2147483648 by omega) (show dr (nxr (nxr (nxr (nxr v)))) 21 < 2147483648 by omega) (show 0 < 2147483648 by omega)
  refine ⟨J, ?_, r2, r3, by rw [r4, v4], (((f1.trans f2).trans f3).trans f4).trans r5⟩
  rw [g2, show (strM 1).getD 2 0 = 103 from rfl]
  unfold fX7_years_49
  rw [l_108, l_119, l_103, if_neg (by decide +kernel), if_neg (by decide +kernel), if_pos rfl, g1_1, qbnd_s, l_21, d4 (by omega) (by omega), qbnd_s]
  exact r1
theorem x7_years_n (x y : Int32) (hn : ¬ (1 ≤ nIx y ∧ nIx y < 41)) : fX7_years 1 x y (mk I L c t) = some (-n2 1, 0, mk I L c t) := by
  unfold fX7_years
  rw [if_pos (by rw [kk_1])]
  unfold gX7_years
  rw [l_1, l_40]
  rcases i32_cases y with e | ⟨k, hk, rfl⟩
  · have e2 : y < n2 1 := Int32.lt_trans e (by decide +kernel)
    rw [if_pos e2]
  · rw [nIx_n hk] at hn
    by_cases e2 : k < 1
    · rw [if_pos (by rw [n2_lt (by omega) (by omega)]; exact e2)]
    · rw [if_neg (by rw [n2_lt (by omega) (by omega)]; exact e2), if_neg (by rw [n2_le (by omega) (by omega)]; omega)]
theorem x7_years_y [FB] (hW : W7 I L s h kp tx row cs) (hG : Gd N s) (hN : N < 899999000) (x y : Int32) (hy : 1 ≤ nIx y ∧ nIx y < 41) : ∃ I' L', fX7_years 1 x y (mk I L c t) = some (n2 (cnt8 fun o => decide ((yrS cs x s (nIx y)).2 85 o = 2)), 0, mk I' L' c t) ∧ W7 I' L' s h kp tx [(hsum (yrS cs x s (nIx y)).2).toInt64, (n2 (bits8 fun o => decide ((yrS cs x s (nIx y)).2 85 o = 1))).toInt64, (n2 (allfal (yrS cs x s (nIx y)).2)).toInt64] cs ∧ Fw I I' := by
  have ey := nIx_eq (show nIx y < 2147483647 by omega)
  obtain ⟨n, hn⟩ : ∃ n, nIx y = n := ⟨_, rfl⟩
  rw [hn] at hy ey ⊢
  have hd : 21 ∈ dkl := by decide
  obtain ⟨I1, r1, r2, r3⟩ := w7_copy (c := c) (t := t) hW
  obtain ⟨u1, u2, u3, u4⟩ := yr_upd (hW.trial r3 r2) r2 x
  have fI : Fw I (upI I1 21 4 x) := fun b i hb => by rw [u4 b i hb, r3 b i (by omega)]
  have head : fX7_years 1 x y (mk I L c t) = fX7_years_20 qfu 1 (n2 n) (n2 0) (mk (upI I1 21 4 x) L c t) := by
    rw [ey]
    unfold fX7_years
    rw [if_pos (by rw [kk_1])]
    unfold gX7_years
    rw [l_1, l_40, if_neg (by rw [n2_lt (by omega) (by omega)]; omega), if_pos (by rw [n2_le (by omega) (by omega)]; omega), g1_1, qbnd_s, dk_P0 hd, qbnd_s, g1_2, qbnd_s, r1, qbnd_s]
    dsimp only
    rw [g1_1, qbnd_s, dk_U4 hd, qbnd_s, l_0]
  rw [head]
  refine lp_r (α := Nat → Nat → Int32) (fun f k J => fX7_years_20 f 1 (n2 n) (n2 k) (mk J L c t)) n (fun k J => W7 J L s h kp tx row cs ∧ DW J 21 (yrS cs x s k).2 D0 ∧ J 21 4 = (yrS cs x s k).1 ∧ Fw I J) (fun r => ∃ I' L', r = some (n2 (cnt8 fun o => decide ((yrS cs x s n).2 85 o = 2)), 0, mk I' L' c t) ∧ W7 I' L' s h kp tx [(hsum (yrS cs x s n).2).toInt64, (n2 (bits8 fun o => decide ((yrS cs x s n).2 85 o = 1))).toInt64, (n2 (allfal (yrS cs x s n).2)).toInt64] cs ∧ Fw I I') (fun f k J hk hi => Or.inr ?_) (fun f J hi => ?_) n 0 qfu (upI I1 21 4 x) (by omega) (by rw [qfu_eq]; omega) ⟨u1, u2, u3, fI⟩
  · obtain ⟨i1, i2, i3, i4⟩ := hi
    obtain ⟨J', a1, a2, a3, a4, a5⟩ := yr_step (f := f) (c := c) (t := t) i1 i2 (gd_yrS hG k (by omega)) (by omega) hk (by omega)
    have e : yrS cs x s (k + 1) = yrA cs (J 21 4, (yrS cs x s k).2) := by
      rw [i3]
      unfold yrS
      rw [List.range_succ, List.foldl_append]
      rfl
    refine ⟨J', a1, a2, ?_, ?_, i4.trans a5⟩
    · rw [e]; exact a3
    · rw [e]; exact a4
  · obtain ⟨i1, i2, i3, i4⟩ := hi
    have hg := gd_yrS (cs := cs) (v := x) hG n (by omega)
    have hB := gd_bd hg (by omega)
    have hs : 22 ∈ stl := by decide
    generalize (yrS cs x s n).2 = z at *
    have q4 : n2 n ≤ n2 n := by rw [n2_le (by omega) (by omega)]; exact Nat.le_refl _
    have b1 := x5_heldSum (L := L) (c := c) (t := t) hs i2.1
    have b2 := x5_standing (L := L) (c := c) (t := t) hs i2.1 hB (show 1 ≤ 2 by omega)
    obtain ⟨I4, L4, o1, o2, o5, o6⟩ := x3_two (I := J) (L := L) (c := c) (t := t) (hsum z).toInt64 (n2 (bits8 fun o => decide (z 85 o = 1))).toInt64
    have w4 := i1.rowed o5 o2 o6
    have z4 := i2.fr o5 (show 21 + 19 ≤ 200 ∨ 201 ≤ 21 by omega)
    have b3 := x5_allFalls (L := L4) (c := c) (t := t) hs z4.1
    obtain ⟨I5, L5, p1, p2, p3, p4⟩ := x3_add (c := c) (t := t) w4.ro.1 (by simp) (n2 (allfal z)).toInt64
    have w5 := w4.rowed p3 p2 p4
    have z5 := z4.fr p3 (show 21 + 19 ≤ 200 ∨ 201 ≤ 21 by omega)
    have b4 := x5_standing (L := L5) (c := c) (t := t) hs z5.1 hB (Nat.le_refl 2)
    refine ⟨I5, L5, ?_, w5, (i4.trans (o5.w (by omega))).trans (p3.w (by omega))⟩
    show fX7_years_20 (f + 1) 1 (n2 n) (n2 n) (mk J L c t) = _
    rw [fX7_years_20]
    dsimp only
    rw [if_pos q4, g1_1, qbnd_s, dk_P0 hd, qbnd_s, g1_7, qbnd_s, b1, qbnd_s]
    dsimp only
    rw [l_1, b2, qbnd_s]
    dsimp only
    rw [o1, qbnd_s]
    dsimp only
    rw [g1_7, qbnd_s, b3, qbnd_s]
    dsimp only
    rw [p1, qbnd_s]
    dsimp only
    rw [l_2, b4, qbnd_s]
    dsimp only
    rw [j6_cnt, qbnd_s]
end S7YR

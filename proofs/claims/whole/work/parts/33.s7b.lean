/-! PURE SIDE, THE CLASS' STATE: what its writers do -/
theorem upI_ne {I : Nat → Nat → Int32} {a i : Nat} {x : Int32} {b j : Nat} (h : b ≠ a) : upI I a i x b j = I b j := by rw [upI_at, if_neg (fun z => h z.1)]
theorem upI_ni {I : Nat → Nat → Int32} {a i : Nat} {x : Int32} {b j : Nat} (h : j ≠ i) : upI I a i x b j = I b j := by rw [upI_at, if_neg (fun z => h z.2)]
theorem upI_eq {I : Nat → Nat → Int32} {a i : Nat} {x : Int32} : upI I a i x a i = x := by rw [upI_at, if_pos ⟨rfl, rfl⟩]
theorem cpI_ne {I : Nat → Nat → Int32} {a0 sp a1 dp n b j : Nat} (h : b ≠ a1) : cpI I a0 sp a1 dp n b j = I b j := by rw [cpI_at, if_neg (fun z => h z.1)]
theorem cpI_in {I : Nat → Nat → Int32} {a0 a1 n j : Nat} (h : j < n) : cpI I a0 0 a1 0 n a1 j = I a0 j := by rw [cpI_at, if_pos ⟨rfl, by omega, by omega⟩, Nat.sub_zero, Nat.zero_add]
/-- nothing outside these objects has changed -/
def Fr (I I' : Nat → Nat → Int32) (lo hi : Nat) : Prop := ∀ b i, b < lo ∨ hi ≤ b → I' b i = I b i
theorem Fr.rf (I : Nat → Nat → Int32) (lo hi : Nat) : Fr I I lo hi := fun _ _ _ => rfl
theorem Fr.trans {I I1 I2 : Nat → Nat → Int32} {lo hi : Nat} (h1 : Fr I I1 lo hi) (h2 : Fr I1 I2 lo hi) : Fr I I2 lo hi := fun b i h => (h2 b i h).trans (h1 b i h)
theorem Fr.mono {I I' : Nat → Nat → Int32} {lo hi lo' hi' : Nat} (h : Fr I I' lo hi) (h1 : lo' ≤ lo) (h2 : hi ≤ hi') : Fr I I' lo' hi' := fun b i hb => h b i (by omega)
theorem Fr.up {I : Nat → Nat → Int32} {a i lo hi : Nat} {x : Int32} (h1 : lo ≤ a) (h2 : a < hi) : Fr I (upI I a i x) lo hi := fun b j h => upI_ne (by omega)
theorem R7.fr {I I' : Nat → Nat → Int32} {a lo hi : Nat} {s : St} (h : R7 I a s) (hf : Fr I I' lo hi) (hd : a + 11 ≤ lo ∨ hi ≤ a) : R7 I' a s := by
  obtain ⟨h1, h2, h3, h4, h5⟩ := h
  refine ⟨fun p o hp ho => ?_, fun j o hj ho => ?_, ?_, ?_, ?_⟩
  · rw [hf _ _ (by omega)]; exact h1 p o hp ho
  · rw [hf _ _ (by omega)]; exact h2 j o hj ho
  · rw [hf _ _ (by omega)]; exact h3
  · rw [hf _ _ (by omega)]; exact h4
  · rw [hf _ _ (by omega)]; exact h5
theorem R7.setm {I : Nat → Nat → Int32} {a p o m : Nat} {s : St} {w : Int32} (h : R7 I a s) (hp : p < 85) (ho : o < 8) (hw : ∀ q, q < 8 → nib w q = if q = o then n2 m else nib (I (a + 1) p) q) : R7 (upI I (a + 1) p w) a (su s p o m) := by
  obtain ⟨h1, h2, h3, h4, h5⟩ := h
  refine ⟨fun p' o' hp' ho' => ?_, fun j o' hj ho' => ?_, ?_, ?_, ?_⟩
  · rw [su_at]
    by_cases e : p' = p
    · subst e
      rw [upI_eq, hw o' ho']
      by_cases e2 : o' = o
      · rw [if_pos e2, if_pos ⟨rfl, e2⟩]
      · rw [if_neg e2, if_neg (fun z => e2 z.2)]; exact h1 p' o' hp' ho'
    · rw [upI_ni e, if_neg (fun z => e z.1)]; exact h1 p' o' hp' ho'
  · rw [upI_ne (by omega), su_at, if_neg (by omega)]; exact h2 j o' hj ho'
  · rw [upI_ne (by omega), su_at, if_neg (by omega)]; exact h3
  · rw [upI_ne (by omega), su_at, if_neg (by omega)]; exact h4
  · rw [upI_ne (by omega), su_at, if_neg (by omega)]; exact h5
theorem R7.seta {I : Nat → Nat → Int32} {a o v b k : Nat} {s : St} (j : Nat) (h : R7 I a s) (hj : j < 9) (ho : o < 8) (hb : b = a + 2 + j) (hk : k = 85 + j) : R7 (upI I b o (n2 v)) a (su s k o v) := by
  subst hb hk
  obtain ⟨h1, h2, h3, h4, h5⟩ := h
  refine ⟨fun p' o' hp' ho' => ?_, fun j' o' hj' ho' => ?_, ?_, ?_, ?_⟩
  · rw [upI_ne (by omega), su_at, if_neg (by omega)]; exact h1 p' o' hp' ho'
  · rw [su_at]
    by_cases e : j' = j
    · subst e
      by_cases e2 : o' = o
      · subst e2
        rw [upI_eq, if_pos ⟨rfl, rfl⟩]
      · rw [upI_ni e2, if_neg (fun z => e2 z.2)]; exact h2 j' o' hj' ho'
    · rw [upI_ne (by omega), if_neg (by omega)]; exact h2 j' o' hj' ho'
  · rw [upI_ne (by omega), su_at, if_neg (by omega)]; exact h3
  · rw [upI_ne (by omega), su_at, if_neg (by omega)]; exact h4
  · rw [upI_ne (by omega), su_at, if_neg (by omega)]; exact h5
theorem R7.setn {I : Nat → Nat → Int32} {a v k : Nat} {s : St} (j : Nat) (h : R7 I a s) (hk : k = 10 + j) (hj : j < 3) : R7 (upI I a k (n2 v)) a (su s 94 j v) := by
  subst hk
  obtain ⟨h1, h2, h3, h4, h5⟩ := h
  refine ⟨fun p' o' hp' ho' => ?_, fun j' o' hj' ho' => ?_, ?_, ?_, ?_⟩
  · rw [upI_ne (by omega), su_at, if_neg (by omega)]; exact h1 p' o' hp' ho'
  · rw [upI_ne (by omega), su_at, if_neg (by omega)]; exact h2 j' o' hj' ho'
  · rw [su_at]
    by_cases e : j = 0
    · subst e; rw [upI_eq, if_pos ⟨rfl, rfl⟩]
    · rw [upI_ni (by omega), if_neg (by omega)]; exact h3
  · rw [su_at]
    by_cases e : j = 1
    · subst e; rw [upI_eq, if_pos ⟨rfl, rfl⟩]
    · rw [upI_ni (by omega), if_neg (by omega)]; exact h4
  · rw [su_at]
    by_cases e : j = 2
    · subst e; rw [upI_eq, if_pos ⟨rfl, rfl⟩]
    · rw [upI_ni (by omega), if_neg (by omega)]; exact h5
/-- an owner's request comes; it is granted -/
def enq (s : St) (o p m : Nat) : St := su (su (su (su (su s 85 o 2) 89 o p) 90 o m) 91 o (s 94 0)) 94 0 (s 94 0 + 1)
def grt (s : St) (o : Nat) : St := su (su (su s (s 89 o) o (s 90 o)) 85 o 1) 89 o 85
theorem stl_apart : (stl.all fun a => stl.all fun b => decide (a = b ∨ b + 11 ≤ a ∨ a + 11 ≤ b)) = true := by decide +kernel
section S7B
variable {I : Nat → Nat → Int32} {L : Nat → Nat → Int64} {c t a : Nat} {s : St}
theorem x5_setMode (ha : a ∈ stl) {o p m : Nat} (ho : o < 8) (hp : p < 85) : fX5_setMode a (n2 o) (n2 p) (n2 m) (mk I L c t) = some (n2 0, 0, mk (upI I (a + 1) p (nst (I (a + 1) p) o m)) L c t) := by
  simp (disch := first | assumption | omega) only [fX5_setMode, gX5_setMode, l_0, l_1, l_2, l_3, l_4, l_5, l_6, l_7, l_8, l_9, l_10, l_11, l_12, l_15, l_16, l_21, l_24, l_31, l_32, l_40, l_64, l_76, l_80, l_84, l_85, l_99, l_255, l_256, l_680, l_688, l_696, l_704, l_712, l_720, l_728, l_736, l_744, l_752, l_753, l_754, l_755, l_1000, l_2000, l_3000, l_7550, l_1000000, l_41, l_42, l_43, l_45, l_47, l_48, l_56, l_57, l_60, l_61, l_62, l_63, l_73, l_83, l_88, l_97, l_98, l_100, l_101, l_102, l_103, l_104, l_105, l_108, l_111, l_113, l_117, l_118, l_119, l_120, l_65536, n2_31, n2_add, n2_mul, n2_sub, n2_eq, n2_le, n2_lt, n2_div, n2_qz0, n2_qz1, n2_qzb, bn_0, bn_1, bn_t, bn_f, n2_eqm, n2_meq, n2_ltm, n2_mlt, n2_lem, n2_mle, if_true, if_false, qbnd_s, ite_true, ite_false, if_pos, reduceIte, st_q, st_P0, st_P1, st_P2, st_P3, st_P4, st_P5, st_P6, st_P7, st_P8, st_P9, st_L0, st_S0, st_L1, st_S1, st_L2, st_S2, st_L3, st_S3, st_L4, st_S4, st_L5, st_S5, st_L6, st_S6, st_L7, st_S7, st_L8, st_S8, st_L9, st_S9, st_I10, st_U10, st_I11, st_U11, st_I12, st_U12, nst]
theorem R7.mode (hR : R7 I a s) {o p m : Nat} (ho : o < 8) (hp : p < 85) (hm : m ≤ 6) : R7 (upI I (a + 1) p (nst (I (a + 1) p) o m)) a (su s p o m) := hR.setm hp ho fun q hq => nib_nst _ ho (by omega) hq
theorem x5_enqueue (ha : a ∈ stl) (hR : R7 I a s) {o p m : Nat} (ho : o < 8) : ∃ I', fX5_enqueue a (n2 o) (n2 p) (n2 m) (mk I L c t) = some (n2 0, 0, mk I' L c t) ∧ R7 I' a (enq s o p m) ∧ Fr I I' a (a + 11) := by
  refine ⟨upI (upI (upI (upI (upI I (a + 2) o (n2 2)) (a + 6) o (n2 p)) (a + 7) o (n2 m)) (a + 8) o (n2 (s 94 0))) a 10 (n2 (s 94 0 + 1)), ?_, ?_, ?_⟩
  · simp (disch := first | assumption | omega) only [fX5_enqueue, gX5_enqueue, l_0, l_1, l_2, l_3, l_4, l_5, l_6, l_7, l_8, l_9, l_10, l_11, l_12, l_15, l_16, l_21, l_24, l_31, l_32, l_40, l_64, l_76, l_80, l_84, l_85, l_99, l_255, l_256, l_680, l_688, l_696, l_704, l_712, l_720, l_728, l_736, l_744, l_752, l_753, l_754, l_755, l_1000, l_2000, l_3000, l_7550, l_1000000, l_41, l_42, l_43, l_45, l_47, l_48, l_56, l_57, l_60, l_61, l_62, l_63, l_73, l_83, l_88, l_97, l_98, l_100, l_101, l_102, l_103, l_104, l_105, l_108, l_111, l_113, l_117, l_118, l_119, l_120, l_65536, n2_31, n2_add, n2_mul, n2_sub, n2_eq, n2_le, n2_lt, n2_div, n2_qz0, n2_qz1, n2_qzb, bn_0, bn_1, bn_t, bn_f, n2_eqm, n2_meq, n2_ltm, n2_mlt, n2_lem, n2_mle, if_true, if_false, qbnd_s, ite_true, ite_false, if_pos, reduceIte, st_q, st_P0, st_P1, st_P2, st_P3, st_P4, st_P5, st_P6, st_P7, st_P8, st_P9, st_L0, st_S0, st_L1, st_S1, st_L2, st_S2, st_L3, st_S3, st_L4, st_S4, st_L5, st_S5, st_L6, st_S6, st_L7, st_S7, st_L8, st_S8, st_L9, st_S9, st_I10, st_U10, st_I11, st_U11, st_I12, st_U12, upI_ne, upI_eq, hR.tn]
  · exact R7.setn 0 (R7.seta 6 (R7.seta 5 (R7.seta 4 (R7.seta 0 hR (by omega) ho rfl rfl) (by omega) ho rfl rfl) (by omega) ho rfl rfl) (by omega) ho rfl rfl) rfl (by omega)
  · exact ((((Fr.up (by omega) (by omega)).trans (Fr.up (by omega) (by omega))).trans (Fr.up (by omega) (by omega))).trans (Fr.up (by omega) (by omega))).trans (Fr.up (by omega) (by omega))
theorem x5_grant (ha : a ∈ stl) (hR : R7 I a s) (hB : Bd s) {o : Nat} (ho : o < 8) (hw : s 89 o < 85) : ∃ I', fX5_grant a (n2 o) (mk I L c t) = some (n2 0, 0, mk I' L c t) ∧ R7 I' a (grt s o) ∧ Fr I I' a (a + 11) := by
  have h1 := hB.ow ho
  refine ⟨upI (upI (upI I (a + 1) (s 89 o) (nst (I (a + 1) (s 89 o)) o (s 90 o))) (a + 2) o (n2 1)) (a + 6) o (n2 85), ?_, ?_, ?_⟩
  · simp (disch := first | assumption | omega) only [fX5_grant, gX5_grant, l_0, l_1, l_2, l_3, l_4, l_5, l_6, l_7, l_8, l_9, l_10, l_11, l_12, l_15, l_16, l_21, l_24, l_31, l_32, l_40, l_64, l_76, l_80, l_84, l_85, l_99, l_255, l_256, l_680, l_688, l_696, l_704, l_712, l_720, l_728, l_736, l_744, l_752, l_753, l_754, l_755, l_1000, l_2000, l_3000, l_7550, l_1000000, l_41, l_42, l_43, l_45, l_47, l_48, l_56, l_57, l_60, l_61, l_62, l_63, l_73, l_83, l_88, l_97, l_98, l_100, l_101, l_102, l_103, l_104, l_105, l_108, l_111, l_113, l_117, l_118, l_119, l_120, l_65536, n2_31, n2_add, n2_mul, n2_sub, n2_eq, n2_le, n2_lt, n2_div, n2_qz0, n2_qz1, n2_qzb, bn_0, bn_1, bn_t, bn_f, n2_eqm, n2_meq, n2_ltm, n2_mlt, n2_lem, n2_mle, if_true, if_false, qbnd_s, ite_true, ite_false, if_pos, reduceIte, st_q, st_P0, st_P1, st_P2, st_P3, st_P4, st_P5, st_P6, st_P7, st_P8, st_P9, st_L0, st_S0, st_L1, st_S1, st_L2, st_S2, st_L3, st_S3, st_L4, st_S4, st_L5, st_S5, st_L6, st_S6, st_L7, st_S7, st_L8, st_S8, st_L9, st_S9, st_I10, st_U10, st_I11, st_U11, st_I12, st_U12, hR.md, hR.st, hR.ag, hR.wk, hR.fl, hR.at, hR.wa, hR.tu, hR.go, hR.mo, hR.tn, hR.bg, hR.gf, x5_setMode ha ho hw]
  · exact R7.seta 4 (R7.seta 0 (R7.mode hR ho hw (by omega)) (by omega) ho rfl rfl) (by omega) ho rfl rfl
  · exact ((Fr.up (by omega) (by omega)).trans (Fr.up (by omega) (by omega))).trans (Fr.up (by omega) (by omega))
theorem x5_holdingsBelow (ha : a ∈ stl) (hR : R7 I a s) (hB : Bd s) {o p : Nat} (ho : o < 8) (hp : p < 85) : fX5_holdingsBelow a (n2 o) (n2 p) (mk I L c t) = some (n2 (hbel s o p), 0, mk I L c t) := by
  simp (disch := first | assumption | omega) only [fX5_holdingsBelow, gX5_holdingsBelow, l_0, l_1, l_2, l_3, l_4, l_5, l_6, l_7, l_8, l_9, l_10, l_11, l_12, l_15, l_16, l_21, l_24, l_31, l_32, l_40, l_64, l_76, l_80, l_84, l_85, l_99, l_255, l_256, l_680, l_688, l_696, l_704, l_712, l_720, l_728, l_736, l_744, l_752, l_753, l_754, l_755, l_1000, l_2000, l_3000, l_7550, l_1000000, l_41, l_42, l_43, l_45, l_47, l_48, l_56, l_57, l_60, l_61, l_62, l_63, l_73, l_83, l_88, l_97, l_98, l_100, l_101, l_102, l_103, l_104, l_105, l_108, l_111, l_113, l_117, l_118, l_119, l_120, l_65536, n2_31, n2_add, n2_mul, n2_sub, n2_eq, n2_le, n2_lt, n2_div, n2_qz0, n2_qz1, n2_qzb, bn_0, bn_1, bn_t, bn_f, n2_eqm, n2_meq, n2_ltm, n2_mlt, n2_lem, n2_mle, if_true, if_false, qbnd_s, ite_true, ite_false, if_pos, reduceIte, st_q, st_P0, st_P1, st_P2, st_P3, st_P4, st_P5, st_P6, st_P7, st_P8, st_P9, st_L0, st_S0, st_L1, st_S1, st_L2, st_S2, st_L3, st_S3, st_L4, st_S4, st_L5, st_S5, st_L6, st_S6, st_L7, st_S7, st_L8, st_S8, st_L9, st_S9, st_I10, st_U10, st_I11, st_U11, st_I12, st_U12]
  refine bl_r (α := Nat) hp (fun n x l f => fX5_holdingsBelow_14 n a (n2 o) (n2 x) (n2 l) (n2 f) (mk I L c t)) (fun r => r = some (n2 (hbel s o p), 0, mk I L c t)) (fun vis x => x = vis.foldl (fun n q => n + bn (decide (s q o ≠ 0))) 0) 0 rfl (fun n x l f vis hl hf hfl _ hi => Or.inr ⟨(List.range' f (min l 84 + 1 - f)).foldl (fun n q => n + bn (decide (s q o ≠ 0))) x, ?_, ?_⟩) (fun n x l f hf hf2 hi => ?_)
  · simp (disch := first | assumption | omega) only [fX5_holdingsBelow_14, l_0, l_1, l_2, l_3, l_4, l_5, l_6, l_7, l_8, l_9, l_10, l_11, l_12, l_15, l_16, l_21, l_24, l_31, l_32, l_40, l_64, l_76, l_80, l_84, l_85, l_99, l_255, l_256, l_680, l_688, l_696, l_704, l_712, l_720, l_728, l_736, l_744, l_752, l_753, l_754, l_755, l_1000, l_2000, l_3000, l_7550, l_1000000, l_41, l_42, l_43, l_45, l_47, l_48, l_56, l_57, l_60, l_61, l_62, l_63, l_73, l_83, l_88, l_97, l_98, l_100, l_101, l_102, l_103, l_104, l_105, l_108, l_111, l_113, l_117, l_118, l_119, l_120, l_65536, n2_31, n2_add, n2_mul, n2_sub, n2_eq, n2_le, n2_lt, n2_div, n2_qz0, n2_qz1, n2_qzb, bn_0, bn_1, bn_t, bn_f, n2_eqm, n2_meq, n2_ltm, n2_mlt, n2_lem, n2_mle, if_true, if_false, qbnd_s, ite_true, ite_false, if_pos, reduceIte, st_q, st_P0, st_P1, st_P2, st_P3, st_P4, st_P5, st_P6, st_P7, st_P8, st_P9, st_L0, st_S0, st_L1, st_S1, st_L2, st_S2, st_L3, st_S3, st_L4, st_S4, st_L5, st_S5, st_L6, st_S6, st_L7, st_S7, st_L8, st_S8, st_L9, st_S9, st_I10, st_U10, st_I11, st_U11, st_I12, st_U12, z_85 hf]
    refine lp_f (fun m k x => fX5_holdingsBelow_19 (fX5_holdingsBelow_14 n) m a (n2 o) (n2 x) (n2 l) (n2 f) (n2 k) (mk I L c t)) (min l 84 + 1) _ (fun x => fX5_holdingsBelow_14 n a (n2 o) (n2 x) (n2 (4 * l + 4)) (n2 (4 * f + 1)) (mk I L c t)) (fun m k x hk => ?_) (fun m x => ?_) (min l 84 + 1 - f) f qfu x (by omega) (by rw [qfu_eq]; omega)
    · have h1 : k < 85 := by omega
      have h2 := hB.md h1 ho
      have h3 : ¬ l < k := by omega
      simp (disch := first | assumption | omega) only [fX5_holdingsBelow_19, l_0, l_1, l_2, l_3, l_4, l_5, l_6, l_7, l_8, l_9, l_10, l_11, l_12, l_15, l_16, l_21, l_24, l_31, l_32, l_40, l_64, l_76, l_80, l_84, l_85, l_99, l_255, l_256, l_680, l_688, l_696, l_704, l_712, l_720, l_728, l_736, l_744, l_752, l_753, l_754, l_755, l_1000, l_2000, l_3000, l_7550, l_1000000, l_41, l_42, l_43, l_45, l_47, l_48, l_56, l_57, l_60, l_61, l_62, l_63, l_73, l_83, l_88, l_97, l_98, l_100, l_101, l_102, l_103, l_104, l_105, l_108, l_111, l_113, l_117, l_118, l_119, l_120, l_65536, n2_31, n2_add, n2_mul, n2_sub, n2_eq, n2_le, n2_lt, n2_div, n2_qz0, n2_qz1, n2_qzb, bn_0, bn_1, bn_t, bn_f, n2_eqm, n2_meq, n2_ltm, n2_mlt, n2_lem, n2_mle, if_true, if_false, qbnd_s, ite_true, ite_false, if_pos, reduceIte, st_q, st_P0, st_P1, st_P2, st_P3, st_P4, st_P5, st_P6, st_P7, st_P8, st_P9, st_L0, st_S0, st_L1, st_S1, st_L2, st_S2, st_L3, st_S3, st_L4, st_S4, st_L5, st_S5, st_L6, st_S6, st_L7, st_S7, st_L8, st_S8, st_L9, st_S9, st_I10, st_U10, st_I11, st_U11, st_I12, st_U12, hR.md, hR.st, hR.ag, hR.wk, hR.fl, hR.at, hR.wa, hR.tu, hR.go, hR.mo, hR.tn, hR.bg, hR.gf, z_85 h1, h3, if_false]
      by_cases h4 : s k o = 0 <;> simp [h4, bn]
    · by_cases h1 : l < min l 84 + 1
      · simp (disch := first | assumption | omega) only [fX5_holdingsBelow_19, fX5_holdingsBelow_44, l_0, l_1, l_2, l_3, l_4, l_5, l_6, l_7, l_8, l_9, l_10, l_11, l_12, l_15, l_16, l_21, l_24, l_31, l_32, l_40, l_64, l_76, l_80, l_84, l_85, l_99, l_255, l_256, l_680, l_688, l_696, l_704, l_712, l_720, l_728, l_736, l_744, l_752, l_753, l_754, l_755, l_1000, l_2000, l_3000, l_7550, l_1000000, l_41, l_42, l_43, l_45, l_47, l_48, l_56, l_57, l_60, l_61, l_62, l_63, l_73, l_83, l_88, l_97, l_98, l_100, l_101, l_102, l_103, l_104, l_105, l_108, l_111, l_113, l_117, l_118, l_119, l_120, l_65536, n2_31, n2_add, n2_mul, n2_sub, n2_eq, n2_le, n2_lt, n2_div, n2_qz0, n2_qz1, n2_qzb, bn_0, bn_1, bn_t, bn_f, n2_eqm, n2_meq, n2_ltm, n2_mlt, n2_lem, n2_mle, if_true, if_false, qbnd_s, ite_true, ite_false, if_pos, reduceIte, st_q, st_P0, st_P1, st_P2, st_P3, st_P4, st_P5, st_P6, st_P7, st_P8, st_P9, st_L0, st_S0, st_L1, st_S1, st_L2, st_S2, st_L3, st_S3, st_L4, st_S4, st_L5, st_S5, st_L6, st_S6, st_L7, st_S7, st_L8, st_S8, st_L9, st_S9, st_I10, st_U10, st_I11, st_U11, st_I12, st_U12, h1, if_true]
      · have h2 : min l 84 + 1 = 85 := by omega
        rw [h2]
        have h3 : ¬ l < 85 := by omega
        simp (disch := first | assumption | omega) only [fX5_holdingsBelow_19, fX5_holdingsBelow_44, l_0, l_1, l_2, l_3, l_4, l_5, l_6, l_7, l_8, l_9, l_10, l_11, l_12, l_15, l_16, l_21, l_24, l_31, l_32, l_40, l_64, l_76, l_80, l_84, l_85, l_99, l_255, l_256, l_680, l_688, l_696, l_704, l_712, l_720, l_728, l_736, l_744, l_752, l_753, l_754, l_755, l_1000, l_2000, l_3000, l_7550, l_1000000, l_41, l_42, l_43, l_45, l_47, l_48, l_56, l_57, l_60, l_61, l_62, l_63, l_73, l_83, l_88, l_97, l_98, l_100, l_101, l_102, l_103, l_104, l_105, l_108, l_111, l_113, l_117, l_118, l_119, l_120, l_65536, n2_31, n2_add, n2_mul, n2_sub, n2_eq, n2_le, n2_lt, n2_div, n2_qz0, n2_qz1, n2_qzb, bn_0, bn_1, bn_t, bn_f, n2_eqm, n2_meq, n2_ltm, n2_mlt, n2_lem, n2_mle, if_true, if_false, qbnd_s, ite_true, ite_false, if_pos, reduceIte, st_q, st_P0, st_P1, st_P2, st_P3, st_P4, st_P5, st_P6, st_P7, st_P8, st_P9, st_L0, st_S0, st_L1, st_S1, st_L2, st_S2, st_L3, st_S3, st_L4, st_S4, st_L5, st_S5, st_L6, st_S6, st_L7, st_S7, st_L8, st_S8, st_L9, st_S9, st_I10, st_U10, st_I11, st_U11, st_I12, st_U12, h3, if_false, Nat.le_refl]
  · rw [hi, List.foldl_append]
  · simp (disch := first | assumption | omega) only [fX5_holdingsBelow_14, l_0, l_1, l_2, l_3, l_4, l_5, l_6, l_7, l_8, l_9, l_10, l_11, l_12, l_15, l_16, l_21, l_24, l_31, l_32, l_40, l_64, l_76, l_80, l_84, l_85, l_99, l_255, l_256, l_680, l_688, l_696, l_704, l_712, l_720, l_728, l_736, l_744, l_752, l_753, l_754, l_755, l_1000, l_2000, l_3000, l_7550, l_1000000, l_41, l_42, l_43, l_45, l_47, l_48, l_56, l_57, l_60, l_61, l_62, l_63, l_73, l_83, l_88, l_97, l_98, l_100, l_101, l_102, l_103, l_104, l_105, l_108, l_111, l_113, l_117, l_118, l_119, l_120, l_65536, n2_31, n2_add, n2_mul, n2_sub, n2_eq, n2_le, n2_lt, n2_div, n2_qz0, n2_qz1, n2_qzb, bn_0, bn_1, bn_t, bn_f, n2_eqm, n2_meq, n2_ltm, n2_mlt, n2_lem, n2_mle, if_true, if_false, qbnd_s, ite_true, ite_false, if_pos, reduceIte, st_q, st_P0, st_P1, st_P2, st_P3, st_P4, st_P5, st_P6, st_P7, st_P8, st_P9, st_L0, st_S0, st_L1, st_S1, st_L2, st_S2, st_L3, st_S3, st_L4, st_S4, st_L5, st_S5, st_L6, st_S6, st_L7, st_S7, st_L8, st_S8, st_L9, st_S9, st_I10, st_U10, st_I11, st_U11, st_I12, st_U12, hf, if_true]
    rw [hi, hbel]
theorem x5_gatherMode (ha : a ∈ stl) (hR : R7 I a s) (hB : Bd s) {o p : Nat} (ho : o < 8) (hp : p < 85) : fX5_gatherMode a (n2 o) (n2 p) (mk I L c t) = some (n2 (gmode s o p), 0, mk I L c t) := by
  have h0 := hB.md hp ho
  simp (disch := first | assumption | omega) only [fX5_gatherMode, gX5_gatherMode, l_0, l_1, l_2, l_3, l_4, l_5, l_6, l_7, l_8, l_9, l_10, l_11, l_12, l_15, l_16, l_21, l_24, l_31, l_32, l_40, l_64, l_76, l_80, l_84, l_85, l_99, l_255, l_256, l_680, l_688, l_696, l_704, l_712, l_720, l_728, l_736, l_744, l_752, l_753, l_754, l_755, l_1000, l_2000, l_3000, l_7550, l_1000000, l_41, l_42, l_43, l_45, l_47, l_48, l_56, l_57, l_60, l_61, l_62, l_63, l_73, l_83, l_88, l_97, l_98, l_100, l_101, l_102, l_103, l_104, l_105, l_108, l_111, l_113, l_117, l_118, l_119, l_120, l_65536, n2_31, n2_add, n2_mul, n2_sub, n2_eq, n2_le, n2_lt, n2_div, n2_qz0, n2_qz1, n2_qzb, bn_0, bn_1, bn_t, bn_f, n2_eqm, n2_meq, n2_ltm, n2_mlt, n2_lem, n2_mle, if_true, if_false, qbnd_s, ite_true, ite_false, if_pos, reduceIte, st_q, st_P0, st_P1, st_P2, st_P3, st_P4, st_P5, st_P6, st_P7, st_P8, st_P9, st_L0, st_S0, st_L1, st_S1, st_L2, st_S2, st_L3, st_S3, st_L4, st_S4, st_L5, st_S5, st_L6, st_S6, st_L7, st_S7, st_L8, st_S8, st_L9, st_S9, st_I10, st_U10, st_I11, st_U11, st_I12, st_U12]
  refine bl_r (α := Unit) hp (fun n _ l f => fX5_gatherMode_12 n a (n2 o) (n2 p) (n2 l) (n2 f) (mk I L c t)) (fun r => r = some (n2 (gmode s o p), 0, mk I L c t)) (fun vis _ => ∀ q ∈ vis, (decide (s q o = 0) || decide (s q o = 1) || decide (s q o = 3)) = true) () (fun q h => by cases h) (fun n x l f vis hl hf hfl hv hi => ?_) (fun n x l f hf hf2 hi => ?_)
  · have h5 := lp_rk (α := Unit) (fun m k _ => fX5_gatherMode_17 (fX5_gatherMode_12 n) m a (n2 o) (n2 p) (n2 l) (n2 f) (n2 k) (mk I L c t)) (min l 84 + 1) (fun k _ => ∀ q, f ≤ q → q < k → (decide (s q o = 0) || decide (s q o = 1) || decide (s q o = 3)) = true) (fun r => r = some (n2 (gmode s o p), 0, mk I L c t) ∨ (r = fX5_gatherMode_12 n a (n2 o) (n2 p) (n2 (4 * l + 4)) (n2 (4 * f + 1)) (mk I L c t) ∧ ∀ q, f ≤ q → q < min l 84 + 1 → (decide (s q o = 0) || decide (s q o = 1) || decide (s q o = 3)) = true)) (k0 := f) (by omega) (by omega) () (fun q h1 h2 => by omega) (fun m k _ hk0 hk hi2 => ?_) (fun m _ hi2 => Or.inr ⟨?_, hi2⟩)
    · rcases h5 with h5 | ⟨h5, h6⟩
      · left
        simp (disch := first | assumption | omega) only [fX5_gatherMode_12, l_0, l_1, l_2, l_3, l_4, l_5, l_6, l_7, l_8, l_9, l_10, l_11, l_12, l_15, l_16, l_21, l_24, l_31, l_32, l_40, l_64, l_76, l_80, l_84, l_85, l_99, l_255, l_256, l_680, l_688, l_696, l_704, l_712, l_720, l_728, l_736, l_744, l_752, l_753, l_754, l_755, l_1000, l_2000, l_3000, l_7550, l_1000000, l_41, l_42, l_43, l_45, l_47, l_48, l_56, l_57, l_60, l_61, l_62, l_63, l_73, l_83, l_88, l_97, l_98, l_100, l_101, l_102, l_103, l_104, l_105, l_108, l_111, l_113, l_117, l_118, l_119, l_120, l_65536, n2_31, n2_add, n2_mul, n2_sub, n2_eq, n2_le, n2_lt, n2_div, n2_qz0, n2_qz1, n2_qzb, bn_0, bn_1, bn_t, bn_f, n2_eqm, n2_meq, n2_ltm, n2_mlt, n2_lem, n2_mle, if_true, if_false, qbnd_s, ite_true, ite_false, if_pos, reduceIte, st_q, st_P0, st_P1, st_P2, st_P3, st_P4, st_P5, st_P6, st_P7, st_P8, st_P9, st_L0, st_S0, st_L1, st_S1, st_L2, st_S2, st_L3, st_S3, st_L4, st_S4, st_L5, st_S5, st_L6, st_S6, st_L7, st_S7, st_L8, st_S8, st_L9, st_S9, st_I10, st_U10, st_I11, st_U11, st_I12, st_U12, z_85 hf]
        exact h5
      · right
        refine ⟨(), ?_, fun q hq => ?_⟩
        · simp (disch := first | assumption | omega) only [fX5_gatherMode_12, l_0, l_1, l_2, l_3, l_4, l_5, l_6, l_7, l_8, l_9, l_10, l_11, l_12, l_15, l_16, l_21, l_24, l_31, l_32, l_40, l_64, l_76, l_80, l_84, l_85, l_99, l_255, l_256, l_680, l_688, l_696, l_704, l_712, l_720, l_728, l_736, l_744, l_752, l_753, l_754, l_755, l_1000, l_2000, l_3000, l_7550, l_1000000, l_41, l_42, l_43, l_45, l_47, l_48, l_56, l_57, l_60, l_61, l_62, l_63, l_73, l_83, l_88, l_97, l_98, l_100, l_101, l_102, l_103, l_104, l_105, l_108, l_111, l_113, l_117, l_118, l_119, l_120, l_65536, n2_31, n2_add, n2_mul, n2_sub, n2_eq, n2_le, n2_lt, n2_div, n2_qz0, n2_qz1, n2_qzb, bn_0, bn_1, bn_t, bn_f, n2_eqm, n2_meq, n2_ltm, n2_mlt, n2_lem, n2_mle, if_true, if_false, qbnd_s, ite_true, ite_false, if_pos, reduceIte, st_q, st_P0, st_P1, st_P2, st_P3, st_P4, st_P5, st_P6, st_P7, st_P8, st_P9, st_L0, st_S0, st_L1, st_S1, st_L2, st_S2, st_L3, st_S3, st_L4, st_S4, st_L5, st_S5, st_L6, st_S6, st_L7, st_S7, st_L8, st_S8, st_L9, st_S9, st_I10, st_U10, st_I11, st_U11, st_I12, st_U12, z_85 hf]
          exact h5
        · rcases List.mem_append.mp hq with hq | hq
          · exact hi q hq
          · rw [List.mem_range'_1] at hq
            exact h6 q hq.1 (by omega)
    · have h1 : k < 85 := by omega
      have h2 := hB.md h1 ho
      have h3 : ¬ l < k := by omega
      by_cases h7 : (decide (s k o = 0) || decide (s k o = 1) || decide (s k o = 3)) = true
      · right
        refine ⟨(), ?_, fun q h8 h9 => ?_⟩
        · simp only [Bool.or_eq_true, decide_eq_true_eq] at h7
          simp (disch := first | assumption | omega) only [fX5_gatherMode_17, l_0, l_1, l_2, l_3, l_4, l_5, l_6, l_7, l_8, l_9, l_10, l_11, l_12, l_15, l_16, l_21, l_24, l_31, l_32, l_40, l_64, l_76, l_80, l_84, l_85, l_99, l_255, l_256, l_680, l_688, l_696, l_704, l_712, l_720, l_728, l_736, l_744, l_752, l_753, l_754, l_755, l_1000, l_2000, l_3000, l_7550, l_1000000, l_41, l_42, l_43, l_45, l_47, l_48, l_56, l_57, l_60, l_61, l_62, l_63, l_73, l_83, l_88, l_97, l_98, l_100, l_101, l_102, l_103, l_104, l_105, l_108, l_111, l_113, l_117, l_118, l_119, l_120, l_65536, n2_31, n2_add, n2_mul, n2_sub, n2_eq, n2_le, n2_lt, n2_div, n2_qz0, n2_qz1, n2_qzb, bn_0, bn_1, bn_t, bn_f, n2_eqm, n2_meq, n2_ltm, n2_mlt, n2_lem, n2_mle, if_true, if_false, qbnd_s, ite_true, ite_false, if_pos, reduceIte, st_q, st_P0, st_P1, st_P2, st_P3, st_P4, st_P5, st_P6, st_P7, st_P8, st_P9, st_L0, st_S0, st_L1, st_S1, st_L2, st_S2, st_L3, st_S3, st_L4, st_S4, st_L5, st_S5, st_L6, st_S6, st_L7, st_S7, st_L8, st_S8, st_L9, st_S9, st_I10, st_U10, st_I11, st_U11, st_I12, st_U12, hR.md, hR.st, hR.ag, hR.wk, hR.fl, hR.at, hR.wa, hR.tu, hR.go, hR.mo, hR.tn, hR.bg, hR.gf, z_85 h1, h3, if_false]
          rcases h7 with (h7 | h7) | h7 <;> simp [h7]
        · by_cases e : q = k
          · rw [e]; exact h7
          · exact hi2 q h8 (by omega)
      · left
        left
        have h8 : gmode s o p = 6 := by
          rw [gmode, if_pos]
          obtain ⟨rest, hv⟩ := hv
          refine List.any_eq_true.mpr ⟨k, ?_, by simpa using h7⟩
          rw [← hv]
          exact List.mem_append_left _ (List.mem_append_right _ (List.mem_range'_1.mpr ⟨hk0, by omega⟩))
        simp only [Bool.or_eq_true, decide_eq_true_eq, not_or] at h7
        simp (disch := first | assumption | omega) only [fX5_gatherMode_17, l_0, l_1, l_2, l_3, l_4, l_5, l_6, l_7, l_8, l_9, l_10, l_11, l_12, l_15, l_16, l_21, l_24, l_31, l_32, l_40, l_64, l_76, l_80, l_84, l_85, l_99, l_255, l_256, l_680, l_688, l_696, l_704, l_712, l_720, l_728, l_736, l_744, l_752, l_753, l_754, l_755, l_1000, l_2000, l_3000, l_7550, l_1000000, l_41, l_42, l_43, l_45, l_47, l_48, l_56, l_57, l_60, l_61, l_62, l_63, l_73, l_83, l_88, l_97, l_98, l_100, l_101, l_102, l_103, l_104, l_105, l_108, l_111, l_113, l_117, l_118, l_119, l_120, l_65536, n2_31, n2_add, n2_mul, n2_sub, n2_eq, n2_le, n2_lt, n2_div, n2_qz0, n2_qz1, n2_qzb, bn_0, bn_1, bn_t, bn_f, n2_eqm, n2_meq, n2_ltm, n2_mlt, n2_lem, n2_mle, if_true, if_false, qbnd_s, ite_true, ite_false, if_pos, reduceIte, st_q, st_P0, st_P1, st_P2, st_P3, st_P4, st_P5, st_P6, st_P7, st_P8, st_P9, st_L0, st_S0, st_L1, st_S1, st_L2, st_S2, st_L3, st_S3, st_L4, st_S4, st_L5, st_S5, st_L6, st_S6, st_L7, st_S7, st_L8, st_S8, st_L9, st_S9, st_I10, st_U10, st_I11, st_U11, st_I12, st_U12, hR.md, hR.st, hR.ag, hR.wk, hR.fl, hR.at, hR.wa, hR.tu, hR.go, hR.mo, hR.tn, hR.bg, hR.gf, z_85 h1, h3, if_false, h7.1.1, h7.1.2, h7.2, h8]
    · by_cases h1 : l < min l 84 + 1
      · simp (disch := first | assumption | omega) only [fX5_gatherMode_17, fX5_gatherMode_46, l_0, l_1, l_2, l_3, l_4, l_5, l_6, l_7, l_8, l_9, l_10, l_11, l_12, l_15, l_16, l_21, l_24, l_31, l_32, l_40, l_64, l_76, l_80, l_84, l_85, l_99, l_255, l_256, l_680, l_688, l_696, l_704, l_712, l_720, l_728, l_736, l_744, l_752, l_753, l_754, l_755, l_1000, l_2000, l_3000, l_7550, l_1000000, l_41, l_42, l_43, l_45, l_47, l_48, l_56, l_57, l_60, l_61, l_62, l_63, l_73, l_83, l_88, l_97, l_98, l_100, l_101, l_102, l_103, l_104, l_105, l_108, l_111, l_113, l_117, l_118, l_119, l_120, l_65536, n2_31, n2_add, n2_mul, n2_sub, n2_eq, n2_le, n2_lt, n2_div, n2_qz0, n2_qz1, n2_qzb, bn_0, bn_1, bn_t, bn_f, n2_eqm, n2_meq, n2_ltm, n2_mlt, n2_lem, n2_mle, if_true, if_false, qbnd_s, ite_true, ite_false, if_pos, reduceIte, st_q, st_P0, st_P1, st_P2, st_P3, st_P4, st_P5, st_P6, st_P7, st_P8, st_P9, st_L0, st_S0, st_L1, st_S1, st_L2, st_S2, st_L3, st_S3, st_L4, st_S4, st_L5, st_S5, st_L6, st_S6, st_L7, st_S7, st_L8, st_S8, st_L9, st_S9, st_I10, st_U10, st_I11, st_U11, st_I12, st_U12, h1, if_true]
      · have h2 : min l 84 + 1 = 85 := by omega
        rw [h2]
        have h3 : ¬ l < 85 := by omega
        simp (disch := first | assumption | omega) only [fX5_gatherMode_17, fX5_gatherMode_46, l_0, l_1, l_2, l_3, l_4, l_5, l_6, l_7, l_8, l_9, l_10, l_11, l_12, l_15, l_16, l_21, l_24, l_31, l_32, l_40, l_64, l_76, l_80, l_84, l_85, l_99, l_255, l_256, l_680, l_688, l_696, l_704, l_712, l_720, l_728, l_736, l_744, l_752, l_753, l_754, l_755, l_1000, l_2000, l_3000, l_7550, l_1000000, l_41, l_42, l_43, l_45, l_47, l_48, l_56, l_57, l_60, l_61, l_62, l_63, l_73, l_83, l_88, l_97, l_98, l_100, l_101, l_102, l_103, l_104, l_105, l_108, l_111, l_113, l_117, l_118, l_119, l_120, l_65536, n2_31, n2_add, n2_mul, n2_sub, n2_eq, n2_le, n2_lt, n2_div, n2_qz0, n2_qz1, n2_qzb, bn_0, bn_1, bn_t, bn_f, n2_eqm, n2_meq, n2_ltm, n2_mlt, n2_lem, n2_mle, if_true, if_false, qbnd_s, ite_true, ite_false, if_pos, reduceIte, st_q, st_P0, st_P1, st_P2, st_P3, st_P4, st_P5, st_P6, st_P7, st_P8, st_P9, st_L0, st_S0, st_L1, st_S1, st_L2, st_S2, st_L3, st_S3, st_L4, st_S4, st_L5, st_S5, st_L6, st_S6, st_L7, st_S7, st_L8, st_S8, st_L9, st_S9, st_I10, st_U10, st_I11, st_U11, st_I12, st_U12, h3, if_false, Nat.le_refl]
  · have h8 : gmode s o p = both (s p o) 3 := by
      rw [gmode, if_neg]
      intro hz
      obtain ⟨q, hq, hz⟩ := List.any_eq_true.mp hz
      rw [hi q hq] at hz
      cases hz
    simp (disch := first | assumption | omega) only [fX5_gatherMode_12, l_0, l_1, l_2, l_3, l_4, l_5, l_6, l_7, l_8, l_9, l_10, l_11, l_12, l_15, l_16, l_21, l_24, l_31, l_32, l_40, l_64, l_76, l_80, l_84, l_85, l_99, l_255, l_256, l_680, l_688, l_696, l_704, l_712, l_720, l_728, l_736, l_744, l_752, l_753, l_754, l_755, l_1000, l_2000, l_3000, l_7550, l_1000000, l_41, l_42, l_43, l_45, l_47, l_48, l_56, l_57, l_60, l_61, l_62, l_63, l_73, l_83, l_88, l_97, l_98, l_100, l_101, l_102, l_103, l_104, l_105, l_108, l_111, l_113, l_117, l_118, l_119, l_120, l_65536, n2_31, n2_add, n2_mul, n2_sub, n2_eq, n2_le, n2_lt, n2_div, n2_qz0, n2_qz1, n2_qzb, bn_0, bn_1, bn_t, bn_f, n2_eqm, n2_meq, n2_ltm, n2_mlt, n2_lem, n2_mle, if_true, if_false, qbnd_s, ite_true, ite_false, if_pos, reduceIte, st_q, st_P0, st_P1, st_P2, st_P3, st_P4, st_P5, st_P6, st_P7, st_P8, st_P9, st_L0, st_S0, st_L1, st_S1, st_L2, st_S2, st_L3, st_S3, st_L4, st_S4, st_L5, st_S5, st_L6, st_S6, st_L7, st_S7, st_L8, st_S8, st_L9, st_S9, st_I10, st_U10, st_I11, st_U11, st_I12, st_U12, hR.md, hR.st, hR.ag, hR.wk, hR.fl, hR.at, hR.wa, hR.tu, hR.go, hR.mo, hR.tn, hR.bg, hR.gf, hf, if_true, tb2 h0 (show 3 ≤ 6 by omega), h8]
theorem st_C0 {b : Nat} (ha : a ∈ stl) (hb : b ∈ stl) : oCpy (mk I L c t) (b + 1) (n2 0) (a + 1) (n2 0) (n2 85) = some (mk (cpI I (b + 1) 0 (a + 1) 0 85) L c t) := oCpy_mk (st_kh hb) (st_kh ha) (by omega) (by omega) (by omega) (by omega)
theorem st_C2 {b : Nat} (ha : a ∈ stl) (hb : b ∈ stl) : oCpy (mk I L c t) (b + 2) (n2 0) (a + 2) (n2 0) (n2 8) = some (mk (cpI I (b + 2) 0 (a + 2) 0 8) L c t) := oCpy_mk (st_ka (j := 0) hb (by omega)) (st_ka (j := 0) ha (by omega)) (by omega) (by omega) (by omega) (by omega)
theorem st_C3 {b : Nat} (ha : a ∈ stl) (hb : b ∈ stl) : oCpy (mk I L c t) (b + 3) (n2 0) (a + 3) (n2 0) (n2 8) = some (mk (cpI I (b + 3) 0 (a + 3) 0 8) L c t) := oCpy_mk (st_ka (j := 1) hb (by omega)) (st_ka (j := 1) ha (by omega)) (by omega) (by omega) (by omega) (by omega)
theorem st_C4 {b : Nat} (ha : a ∈ stl) (hb : b ∈ stl) : oCpy (mk I L c t) (b + 4) (n2 0) (a + 4) (n2 0) (n2 8) = some (mk (cpI I (b + 4) 0 (a + 4) 0 8) L c t) := oCpy_mk (st_ka (j := 2) hb (by omega)) (st_ka (j := 2) ha (by omega)) (by omega) (by omega) (by omega) (by omega)
theorem st_C5 {b : Nat} (ha : a ∈ stl) (hb : b ∈ stl) : oCpy (mk I L c t) (b + 5) (n2 0) (a + 5) (n2 0) (n2 8) = some (mk (cpI I (b + 5) 0 (a + 5) 0 8) L c t) := oCpy_mk (st_ka (j := 3) hb (by omega)) (st_ka (j := 3) ha (by omega)) (by omega) (by omega) (by omega) (by omega)
theorem st_C6 {b : Nat} (ha : a ∈ stl) (hb : b ∈ stl) : oCpy (mk I L c t) (b + 6) (n2 0) (a + 6) (n2 0) (n2 8) = some (mk (cpI I (b + 6) 0 (a + 6) 0 8) L c t) := oCpy_mk (st_ka (j := 4) hb (by omega)) (st_ka (j := 4) ha (by omega)) (by omega) (by omega) (by omega) (by omega)
theorem st_C7 {b : Nat} (ha : a ∈ stl) (hb : b ∈ stl) : oCpy (mk I L c t) (b + 7) (n2 0) (a + 7) (n2 0) (n2 8) = some (mk (cpI I (b + 7) 0 (a + 7) 0 8) L c t) := oCpy_mk (st_ka (j := 5) hb (by omega)) (st_ka (j := 5) ha (by omega)) (by omega) (by omega) (by omega) (by omega)
theorem st_C8 {b : Nat} (ha : a ∈ stl) (hb : b ∈ stl) : oCpy (mk I L c t) (b + 8) (n2 0) (a + 8) (n2 0) (n2 8) = some (mk (cpI I (b + 8) 0 (a + 8) 0 8) L c t) := oCpy_mk (st_ka (j := 6) hb (by omega)) (st_ka (j := 6) ha (by omega)) (by omega) (by omega) (by omega) (by omega)
theorem st_C9 {b : Nat} (ha : a ∈ stl) (hb : b ∈ stl) : oCpy (mk I L c t) (b + 9) (n2 0) (a + 9) (n2 0) (n2 8) = some (mk (cpI I (b + 9) 0 (a + 9) 0 8) L c t) := oCpy_mk (st_ka (j := 7) hb (by omega)) (st_ka (j := 7) ha (by omega)) (by omega) (by omega) (by omega) (by omega)
theorem st_C10 {b : Nat} (ha : a ∈ stl) (hb : b ∈ stl) : oCpy (mk I L c t) (b + 10) (n2 0) (a + 10) (n2 0) (n2 8) = some (mk (cpI I (b + 10) 0 (a + 10) 0 8) L c t) := oCpy_mk (st_ka (j := 8) hb (by omega)) (st_ka (j := 8) ha (by omega)) (by omega) (by omega) (by omega) (by omega)
theorem x5_copy {b : Nat} (ha : a ∈ stl) (hb : b ∈ stl) (hab : a ≠ b) (hR : R7 I b s) : ∃ I', fX5_copy a b (mk I L c t) = some (n2 0, 0, mk I' L c t) ∧ R7 I' a s ∧ Fr I I' a (a + 11) := by
  have hd : b + 11 ≤ a ∨ a + 11 ≤ b := by
    have h := of_decide_eq_true (all_of (all_of stl_apart ha) hb)
    omega
  refine ⟨upI (upI (upI (cpI (cpI (cpI (cpI (cpI (cpI (cpI (cpI (cpI (cpI I (b + 1) 0 (a + 1) 0 85) (b + 2) 0 (a + 2) 0 8) (b + 3) 0 (a + 3) 0 8) (b + 4) 0 (a + 4) 0 8) (b + 5) 0 (a + 5) 0 8) (b + 6) 0 (a + 6) 0 8) (b + 7) 0 (a + 7) 0 8) (b + 8) 0 (a + 8) 0 8) (b + 9) 0 (a + 9) 0 8) (b + 10) 0 (a + 10) 0 8) a 10 (n2 (s 94 0))) a 11 (n2 (s 94 1))) a 12 (n2 (s 94 2)), ?_, ?_, ?_⟩
  · simp (disch := first | assumption | omega) only [fX5_copy, gX5_copy, l_0, l_1, l_2, l_3, l_4, l_5, l_6, l_7, l_8, l_9, l_10, l_11, l_12, l_15, l_16, l_21, l_24, l_31, l_32, l_40, l_64, l_76, l_80, l_84, l_85, l_99, l_255, l_256, l_680, l_688, l_696, l_704, l_712, l_720, l_728, l_736, l_744, l_752, l_753, l_754, l_755, l_1000, l_2000, l_3000, l_7550, l_1000000, l_41, l_42, l_43, l_45, l_47, l_48, l_56, l_57, l_60, l_61, l_62, l_63, l_73, l_83, l_88, l_97, l_98, l_100, l_101, l_102, l_103, l_104, l_105, l_108, l_111, l_113, l_117, l_118, l_119, l_120, l_65536, n2_31, n2_add, n2_mul, n2_sub, n2_eq, n2_le, n2_lt, n2_div, n2_qz0, n2_qz1, n2_qzb, bn_0, bn_1, bn_t, bn_f, n2_eqm, n2_meq, n2_ltm, n2_mlt, n2_lem, n2_mle, if_true, if_false, qbnd_s, ite_true, ite_false, if_pos, reduceIte, st_q, st_P0, st_P1, st_P2, st_P3, st_P4, st_P5, st_P6, st_P7, st_P8, st_P9, st_L0, st_S0, st_L1, st_S1, st_L2, st_S2, st_L3, st_S3, st_L4, st_S4, st_L5, st_S5, st_L6, st_S6, st_L7, st_S7, st_L8, st_S8, st_L9, st_S9, st_I10, st_U10, st_I11, st_U11, st_I12, st_U12, st_C0, st_C2, st_C3, st_C4, st_C5, st_C6, st_C7, st_C8, st_C9, st_C10, cpI_ne, upI_ne, hR.tn, hR.bg, hR.gf]
  · refine ⟨fun p o hp ho => ?_, fun j o hj ho => ?_, ?_, ?_, ?_⟩
    · simp (disch := first | assumption | omega) only [upI_ne, cpI_ne, cpI_in]
      exact hR.1 p o hp ho
    · have h := hR.2.1 j o hj ho
      match j, hj with
      | 0, _ => simp (disch := first | assumption | omega) only [upI_ne, cpI_ne, cpI_in, Nat.add_zero]; exact h
      | 1, _ => simp (disch := first | assumption | omega) only [upI_ne, cpI_ne, cpI_in, Nat.add_assoc, Nat.reduceAdd]; exact h
      | 2, _ => simp (disch := first | assumption | omega) only [upI_ne, cpI_ne, cpI_in, Nat.add_assoc, Nat.reduceAdd]; exact h
      | 3, _ => simp (disch := first | assumption | omega) only [upI_ne, cpI_ne, cpI_in, Nat.add_assoc, Nat.reduceAdd]; exact h
      | 4, _ => simp (disch := first | assumption | omega) only [upI_ne, cpI_ne, cpI_in, Nat.add_assoc, Nat.reduceAdd]; exact h
      | 5, _ => simp (disch := first | assumption | omega) only [upI_ne, cpI_ne, cpI_in, Nat.add_assoc, Nat.reduceAdd]; exact h
      | 6, _ => simp (disch := first | assumption | omega) only [upI_ne, cpI_ne, cpI_in, Nat.add_assoc, Nat.reduceAdd]; exact h
      | 7, _ => simp (disch := first | assumption | omega) only [upI_ne, cpI_ne, cpI_in, Nat.add_assoc, Nat.reduceAdd]; exact h
      | 8, _ => simp (disch := first | assumption | omega) only [upI_ne, cpI_ne, cpI_in, Nat.add_assoc, Nat.reduceAdd]; exact h
    · simp (disch := first | assumption | omega) only [upI_ni, upI_eq]
    · simp (disch := first | assumption | omega) only [upI_ni, upI_eq]
    · simp (disch := first | assumption | omega) only [upI_eq]
  · intro x i hx
    simp (disch := first | assumption | omega) only [upI_ne, cpI_ne]
end S7B

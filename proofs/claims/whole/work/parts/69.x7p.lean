/-! PURE SIDE, THE CLASS: who would have to end -/
def vbs (v j : Nat) : Bool := v.testBit j
theorem vbs_bits {v : Nat} (h : v < 256) : bits8 (vbs v) = v := by
  apply Nat.eq_of_testBit_eq
  intro i
  rw [bits8_tb]
  by_cases e : i < 8
  · rw [decide_eq_true e, Bool.true_and]
    rfl
  · rw [decide_eq_false e, Bool.false_and]
    exact (Nat.testBit_lt_two_pow (Nat.lt_of_lt_of_le h (Nat.pow_le_pow_right (n := 2) (i := 8) (by omega) (by omega)))).symm
theorem vbs_lt {v i : Nat} (h : v < 256) (hi : vbs v i = true) : i < 8 := by
  have := congrArg (fun x => Nat.testBit x i) (vbs_bits h)
  rw [bits8_tb] at this
  by_cases e : i < 8
  · exact e
  · rw [decide_eq_false e, Bool.false_and] at this
    have h2 : Nat.testBit v i = true := hi
    rw [h2] at this
    exact absurd this (by decide)
theorem msk_sub {v w : Nat} (hv : v < 256) : (n2 v &&& (n2 w ^^^ -n2 1) = n2 0) ↔ ∀ i, i < 8 → v.testBit i = true → w.testBit i = true := by
  have hm : (-n2 1).toBitVec = BitVec.allOnes 32 := by decide +kernel
  have h0 : (n2 0).toBitVec = 0#32 := by decide +kernel
  have hb : ∀ i, ((n2 v &&& (n2 w ^^^ -n2 1)).toBitVec).getLsbD i = (decide (i < 32) && (v.testBit i && !(w.testBit i))) := by
    intro i
    rw [Int32.toBitVec_and, Int32.toBitVec_xor, hm, n2_bv, n2_bv, BitVec.getLsbD_and, BitVec.getLsbD_xor, BitVec.getLsbD_ofNat, BitVec.getLsbD_ofNat, BitVec.getLsbD_allOnes]
    by_cases e : i < 32
    · rw [decide_eq_true e]
      cases v.testBit i <;> cases w.testBit i <;> rfl
    · rw [decide_eq_false e]
      simp
  constructor
  · intro h i hi h1
    have h2 := hb i
    rw [h, h0] at h2
    rw [decide_eq_true (show i < 32 by omega), h1] at h2
    rcases bcs (w.testBit i) with q | q
    · rw [q] at h2
      simp at h2
    · exact q
  · intro h
    apply Int32.toBitVec_inj.1
    rw [h0]
    apply BitVec.eq_of_getLsbD_eq
    intro i hi
    rw [hb i, decide_eq_true hi]
    rcases bcs (v.testBit i) with q | q
    · rw [q]; simp
    · rw [h i (vbs_lt hv q) q, q]; simp
def othS (s : St) (o j : Nat) : Bool := !decide (o = j) && (decide (s 85 j = 1) || decide (s 85 j = 2))
def frOk (s : St) (o n v : Nat) : Bool := (List.range 8).all (fun j => !(vbs v j) || othS s o j) && decide (cnt8 (vbs v) = n) && decide (outAll (vbs v) s 85 o = 1)
def FrR (s : St) (o : Nat) : Option (Nat × Nat) → Prop
  | none => ∀ n v, 1 ≤ n → n < 8 → 1 ≤ v → v < 256 → frOk s o n v = false
  | some z => 1 ≤ z.1 ∧ z.1 < 8 ∧ 1 ≤ z.2 ∧ z.2 < 256 ∧ frOk s o z.1 z.2 = true ∧ (∀ n v, 1 ≤ n → n < z.1 → 1 ≤ v → v < 256 → frOk s o n v = false) ∧ ∀ v, 1 ≤ v → v < z.2 → frOk s o z.1 v = false
section S7FS
variable {I : Nat → Nat → Int32} {L : Nat → Nat → Int64} {c t N : Nat} {s : St} {h : List St} {kp : Nat → Option St} {tx : List Nat} {row : List Int64} {cs : List Nat} {μ : qM}
theorem x7_frees_n (x : Int32) (hn : ¬ nIx x < 8) : fX7_frees 1 x (mk I L c t) = some (-n2 1, 0, mk I L c t) := by
  unfold fX7_frees
  rw [if_pos (by rw [kk_1])]
  unfold gX7_frees
  rw [ow_nIx, decide_eq_false hn, qbnd_s]
  dsimp only
  rw [l_0, if_pos no_zero, l_1]
theorem n2_256 {k : Nat} (hk : k < 256) : ¬ n2 256 ≤ n2 k := by rw [n2_le (by omega) (by omega)]; omega
theorem fr_loop (hG : Gd N s) (hN : N < 900000000) {o : Nat} (ho : o < 8) {I : Nat → Nat → Int32} [FB] (hW : W7 I L s h kp tx row cs) : ∃ z, FrR s o z ∧ ∃ I' L', fX7_frees_32 qfu 1 (n2 o) (n2 (bits8 (othS s o))) (n2 1) (mk I L c t) = some (match z with
  | none => -n2 1
  | some z => n2 z.1, 0, mk I' L' c t) ∧ W7 I' L' s h kp tx (match z with
  | none => row
  | some z => [(n2 z.2).toInt64]) cs ∧ Fw I I' := by
  refine lp_rk (α := Nat → Nat → Int32) (fun n k J => fX7_frees_32 n 1 (n2 o) (n2 (bits8 (othS s o))) (n2 k) (mk J L c t)) 8 (fun k J => (∀ n v, 1 ≤ n → n < k → 1 ≤ v → v < 256 → frOk s o n v = false) ∧ W7 J L s h kp tx row cs ∧ Fw I J) (fun r => ∃ z, FrR s o z ∧ ∃ I' L', r = some (match z with
  | none => -n2 1
  | some z => n2 z.1, 0, mk I' L' c t) ∧ W7 I' L' s h kp tx (match z with
  | none => row
  | some z => [(n2 z.2).toInt64]) cs ∧ Fw I I') (k0 := 1) (by omega) (by omega) I ⟨fun n v h1 h2 => by omega, hW, .rf I⟩ (fun n k J h1 hk hi => ?_) (fun n J hi => ?_)
  · obtain ⟨i1, i2, i3⟩ := hi
    have q3 : ¬ n2 8 ≤ n2 k := by rw [n2_le (by omega) (by omega)]; omega
    have key := lp_rk (α := Nat → Nat → Int32) (fun m q J => fX7_frees_37 (fX7_frees_32 n) m 1 (n2 o) (n2 (bits8 (othS s o))) (n2 k) (n2 q) (mk J L c t)) 256 (fun q J => (∀ v, 1 ≤ v → v < q → frOk s o k v = false) ∧ W7 J L s h kp tx row cs ∧ Fw I J) (fun r => (∃ z, FrR s o z ∧ ∃ I' L', r = some (match z with
  | none => -n2 1
  | some z => n2 z.1, 0, mk I' L' c t) ∧ W7 I' L' s h kp tx (match z with
  | none => row
  | some z => [(n2 z.2).toInt64]) cs ∧ Fw I I') ∨ ∃ J2, r = fX7_frees_32 n 1 (n2 o) (n2 (bits8 (othS s o))) (n2 (k + 1)) (mk J2 L c t) ∧ (∀ v, 1 ≤ v → v < 256 → frOk s o k v = false) ∧ W7 J2 L s h kp tx row cs ∧ Fw I J2) (k0 := 1) (by omega) (by omega) J ⟨fun v h1 h2 => by omega, i2, i3⟩ (fun m q K q1 hq hj => ?_) (fun m K hj => ?_)
    · have hh : fX7_frees_32 (n + 1) 1 (n2 o) (n2 (bits8 (othS s o))) (n2 k) (mk J L c t) = fX7_frees_37 (fX7_frees_32 n) qfu 1 (n2 o) (n2 (bits8 (othS s o))) (n2 k) (n2 1) (mk J L c t) := by
        rw [fX7_frees_32]
        dsimp only
        rw [l_8, if_neg q3, l_1]
      show (_ : Prop) ∨ ∃ a', fX7_frees_32 (n + 1) 1 (n2 o) (n2 (bits8 (othS s o))) (n2 k) (mk J L c t) = _ ∧ _
      rcases key with ⟨z, z1, I', L', z2, z3, z4⟩ | ⟨J2, z1, z2, z3, z4⟩
      · exact .inl ⟨z, z1, I', L', hh.trans z2, z3, z4⟩
      · refine .inr ⟨J2, hh.trans z1, fun n v n1 n2' v1 v2 => ?_, z3, z4⟩
        by_cases e : n = k
        · subst e
          exact z2 v v1 v2
        · exact i1 n v n1 (by omega) v1 v2
    · obtain ⟨j1, j2, j3⟩ := hj
      have q5 := n2_256 hq
      have hbits := vbs_bits hq
      have step : ∀ K2, frOk s o k q = false → W7 K2 L s h kp tx row cs → Fw I K2 → (∀ v, 1 ≤ v → v < q + 1 → frOk s o k v = false) ∧ W7 K2 L s h kp tx row cs ∧ Fw I K2 := fun K2 h1 h2 h3 => ⟨fun v v1 v2 => by
        by_cases e : v = q
        · subst e; exact h1
        · exact j1 v v1 (by omega), h2, h3⟩
      have head : fX7_frees_37 (fX7_frees_32 n) (m + 1) 1 (n2 o) (n2 (bits8 (othS s o))) (n2 k) (n2 q) (mk K L c t) = if (n2 q &&& (n2 (bits8 (othS s o)) ^^^ -n2 1)) = n2 0 then (if n2 (cnt8 (vbs q)) = n2 k then (qbnd (fX7_runsWithout 1 (n2 o) (n2 q) (mk K L c t)) fun r2 =>
          if r2.1 = n2 0 then
            fX7_frees_37 (fX7_frees_32 n) m 1 (n2 o) (n2 (bits8 (othS s o))) (n2 k) (n2 (q + 1)) r2.2.2
          else
            qbnd (oGetP r2.2.2 7 1 7) fun v3 =>
            qbnd (fX3_one v3 (n2 q).toInt64 r2.2.2) fun r4 =>
            some (n2 k, 0, r4.2.2)) else fX7_frees_37 (fX7_frees_32 n) m 1 (n2 o) (n2 (bits8 (othS s o))) (n2 k) (n2 (q + 1)) (mk K L c t)) else fX7_frees_37 (fX7_frees_32 n) m 1 (n2 o) (n2 (bits8 (othS s o))) (n2 k) (n2 (q + 1)) (mk K L c t) := by
        have hc := j6_cnt (vbs q) (mk K L c t)
        rw [hbits] at hc
        rw [fX7_frees_37]
        dsimp only
        rw [l_256, if_neg q5, hc, qbnd_s]
        dsimp only
        rw [l_1, l_0, n2_add]
      show (_ : Prop) ∨ ∃ a', fX7_frees_37 (fX7_frees_32 n) (m + 1) 1 (n2 o) (n2 (bits8 (othS s o))) (n2 k) (n2 q) (mk K L c t) = _ ∧ _
      rw [head]
      by_cases e1 : (n2 q &&& (n2 (bits8 (othS s o)) ^^^ -n2 1)) = n2 0
      · by_cases e2 : cnt8 (vbs q) = k
        · obtain ⟨K1, a1, a2, a3⟩ := x7_runsWithout (c := c) (t := t) j2 hG hN ho (vbs q)
          rw [hbits] at a1
          rw [if_pos e1, if_pos (by rw [e2]), a1, qbnd_s]
          dsimp only
          have hsub : (List.range 8).all (fun j => !(vbs q j) || othS s o j) = true := by
            rw [List.all_eq_true]
            intro j hj
            have hj8 := List.mem_range.mp hj
            have := (msk_sub hq).mp e1 j hj8
            rw [bits8_tb, decide_eq_true hj8, Bool.true_and] at this
            rcases bcs (vbs q j) with z | z
            · rw [z]; rfl
            · rw [this z, z]; rfl
          by_cases e3 : outAll (vbs q) s 85 o = 1
          · have hok : frOk s o k q = true := by
              unfold frOk
              rw [hsub, decide_eq_true e2, decide_eq_true e3]
              rfl
            rw [decide_eq_true e3, if_neg yes_zero]
            obtain ⟨I4, L4, o1, o2, o3⟩ := x3_oneW (c := c) (t := t) a2 (n2 q).toInt64
            refine .inl (.inl ⟨some (k, q), ⟨h1, hk, q1, hq, hok, i1, j1⟩, I4, L4, ?_, o2, (j3.trans a3).trans o3⟩)
            rw [g1_7, qbnd_s, o1, qbnd_s]
          · have hok : frOk s o k q = false := by
              unfold frOk
              rw [decide_eq_false e3, Bool.and_false]
            rw [decide_eq_false e3, if_pos no_zero]
            exact .inr ⟨K1, rfl, step K1 hok a2 (j3.trans a3)⟩
        · have hok : frOk s o k q = false := by
            unfold frOk
            rw [decide_eq_false e2, Bool.and_false, Bool.false_and]
          have hcl := cnt8_le (vbs q)
          rw [if_pos e1, if_neg (by rw [n2_eq (by omega) (by omega)]; exact e2)]
          exact .inr ⟨K, rfl, step K hok j2 j3⟩
      · have hok : frOk s o k q = false := by
          have hsub : (List.range 8).all (fun j => !(vbs q j) || othS s o j) = false := by
            rcases bcs ((List.range 8).all (fun j => !(vbs q j) || othS s o j)) with z | z
            · exact z
            · exfalso
              apply e1
              rw [msk_sub hq]
              intro i hi h1
              rw [List.all_eq_true] at z
              have := z i (List.mem_range.mpr hi)
              rw [bits8_tb, decide_eq_true hi, Bool.true_and]
              have h2 : vbs q i = true := h1
              rw [h2] at this
              simpa using this
          unfold frOk
          rw [hsub]
          rfl
        rw [if_neg e1]
        exact .inr ⟨K, rfl, step K hok j2 j3⟩
    · obtain ⟨j1, j2, j3⟩ := hj
      refine .inr ⟨K, ?_, j1, j2, j3⟩
      have q4 : n2 256 ≤ n2 256 := by rw [n2_le (by omega) (by omega)]; exact Nat.le_refl _
      show fX7_frees_37 (fX7_frees_32 n) (m + 1) 1 (n2 o) (n2 (bits8 (othS s o))) (n2 k) (n2 256) (mk K L c t) = _
      rw [fX7_frees_37]
      dsimp only
      rw [l_256, if_pos q4, l_1, n2_add]
  · obtain ⟨i1, i2, i3⟩ := hi
    have q4 : n2 8 ≤ n2 8 := by rw [n2_le (by omega) (by omega)]; exact Nat.le_refl _
    refine ⟨none, i1, J, L, ?_, i2, i3⟩
    show fX7_frees_32 (n + 1) 1 (n2 o) (n2 (bits8 (othS s o))) (n2 8) (mk J L c t) = _
    rw [fX7_frees_32]
    dsimp only
    rw [l_8, if_pos q4, l_1]
theorem x7_frees_y [FB] (hW : W7 I L s h kp tx row cs) (hG : Gd N s) (hN : N < 900000000) (x : Int32) (hx : nIx x < 8) : (s 85 (nIx x) ≠ 2 → fX7_frees 1 x (mk I L c t) = some (-n2 2, 0, mk I L c t)) ∧ (s 85 (nIx x) = 2 → ∃ z, FrR s (nIx x) z ∧ ∃ I' L', fX7_frees 1 x (mk I L c t) = some (match z with
  | none => -n2 1
  | some z => n2 z.1, 0, mk I' L' c t) ∧ W7 I' L' s h kp tx (match z with
  | none => row
  | some z => [(n2 z.2).toInt64]) cs ∧ Fw I I') := by
  have ex := nIx_eq (show nIx x < 2147483647 by omega)
  have hB := gd_bd hG (show N < 1000000000 by omega)
  obtain ⟨o, ho⟩ : ∃ o, nIx x = o := ⟨_, rfl⟩
  rw [ho] at hx ex ⊢
  have hR := hW.dw.1
  have hs : 3 ∈ stl := by decide
  have q0 : oLdI 20 (mk I L c t) 5 (n2 o) = some (n2 (s 85 o)) := (st_L1 hs hx).trans (congrArg some (hR.st hx))
  have hst := (hB.ow hx).1
  have b1 := x5_standing (L := L) (c := c) (t := t) hs hR hB (show 1 ≤ 2 by omega)
  have b2 := x5_standing (L := L) (c := c) (t := t) hs hR hB (Nat.le_refl 2)
  have hO : (n2 (bits8 fun o => decide (s 85 o = 1)) ||| n2 (bits8 fun o => decide (s 85 o = 2))) &&& ((n2 1 <<< n2 o) ^^^ -n2 1) = n2 (bits8 (othS s o)) := by
    rw [n2_or, bits8_or, n2_shl (by omega), bits8_clr _ hx]
    rfl
  have head : fX7_frees 1 x (mk I L c t) = if n2 (s 85 o) = n2 2 then fX7_frees_32 qfu 1 (n2 o) (n2 (bits8 (othS s o))) (n2 1) (mk I L c t) else some (-n2 2, 0, mk I L c t) := by
    rw [ex]
    unfold fX7_frees
    rw [if_pos (by rw [kk_1])]
    unfold gX7_frees
    rw [x7_isOwner_y hx, qbnd_s]
    dsimp only
    rw [l_0, l_1, l_2, l_31, if_neg (show ¬ n2 1 = n2 0 by decide +kernel), g1_2, qbnd_s, st_P1 hs, qbnd_s, q0, qbnd_s, qbnd_s, b1, qbnd_s]
    dsimp only
    rw [g1_2, qbnd_s, b2, qbnd_s]
    dsimp only
    rw [n2_31 (by omega), hO]
  rw [head]
  refine ⟨fun e => ?_, fun e => ?_⟩
  · rw [if_neg (by rw [n2_eq (by omega) (by omega)]; exact e)]
  · rw [if_pos (by rw [e])]
    exact fr_loop hG hN hx hW
end S7FS

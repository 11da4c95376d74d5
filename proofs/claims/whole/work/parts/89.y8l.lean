/-! PURE SIDE, THE REFERENCE: an owner goes -/
def gV (s : St) (o p : Nat) : Bool := decide (p < 85) && (decide (s p o ≠ 0) || decide (s 89 o = p))
theorem gV_lL (s : St) (o : Nat) : rk (gV s o) 0 = lL s o := by
  unfold rk lL
  rw [Nat.sub_zero, ← List.range_eq_range']
  apply List.filter_congr
  intro p hp
  rw [List.mem_range] at hp
  unfold gV
  rw [decide_eq_true hp, Bool.true_and]
/-- the row while all that it holds is put by -/
def awk (s : St) (o k : Nat) : St := fun a b => if b = o ∧ a < k then 0 else s a b
theorem awk_0 (s : St) (o : Nat) : awk s o 0 = s := by
  funext a b
  unfold awk
  rw [if_neg (by omega)]
theorem awk_s (s : St) (o k : Nat) : awk s o (k + 1) = su (awk s o k) k o 0 := by
  funext a b
  rw [su_at]
  unfold awk
  by_cases e : a = k ∧ b = o
  · rw [if_pos e, if_pos (by omega)]
  · rw [if_neg e]
    by_cases e2 : b = o ∧ a < k
    · rw [if_pos e2, if_pos (by omega)]
    · rw [if_neg e2, if_neg (by omega)]
theorem awk_85 (s : St) (o : Nat) : su (su (su (su (awk s o 85) (rwK 0) o 0) (rwK 4) o 85) (rwK 1) o 0) (rwK 2) o 0 = awy s o := by
  funext a b
  show su (su (su (su (awk s o 85) 85 o 0) 89 o 85) 86 o 0) 87 o 0 a b = _
  rw [su_at, su_at, su_at, su_at]
  unfold awk awy
  by_cases e1 : b = o
  · by_cases a1 : a < 85
    · rw [if_neg (by omega), if_neg (by omega), if_neg (by omega), if_neg (by omega), if_pos (by omega), if_pos (by omega)]
    · by_cases a2 : a = 85
      · rw [if_neg (by omega), if_neg (by omega), if_neg (by omega), if_pos (by omega), if_pos (by omega)]
      · by_cases a3 : a = 86
        · rw [if_neg (by omega), if_pos (by omega), if_pos (by omega)]
        · by_cases a4 : a = 87
          · rw [if_pos (by omega), if_pos (by omega)]
          · by_cases a5 : a = 89
            · rw [if_neg (by omega), if_neg (by omega), if_pos (by omega), if_neg (by omega), if_pos (by omega)]
            · rw [if_neg (by omega), if_neg (by omega), if_neg (by omega), if_neg (by omega), if_neg (by omega), if_neg (by omega), if_neg (by omega)]
  · rw [if_neg (by omega), if_neg (by omega), if_neg (by omega), if_neg (by omega), if_neg (by omega), if_neg (by omega), if_neg (by omega)]
section S8K
variable {I : Nat → Nat → Int32} {L : Nat → Nat → Int64} {c t r N T n : Nat} {s : St} {μ : qM} {R : qF}
theorem x8_goes60 (hr : r = 217 ∨ r = 218) {o m : Nat} (hT : T < 1000000000) (ho : o < 8) {x y : Int64} (hx : MkW x 0 (gV s o)) (hy : MkW y 64 (gV s o)) (hR : R8 (I r) s) {G : Nat → Bool} (hG : I 210 16 = n2 (bits8 G)) (h : Iv T s) (hB : Blk s []) :
    ∃ I' G', fX8_goes_60 qfu 210 r (n2 o) x y (n2 m) (n2 0) (mk I L c t) = some (n2 m, 0, mk I' L c t) ∧ R8 (I' r) (leaveS s o) ∧ I' 210 16 = n2 (bits8 G') ∧ F8 I I' r := by
  refine lp_rk (α := Nat → Nat → Int32) (fun f k J => fX8_goes_60 f 210 r (n2 o) x y (n2 m) (n2 k) (mk J L c t)) 85 (fun k J => R8 (J r) (awk s o k) ∧ Fx I J r) (fun q => ∃ I' G', q = some (n2 m, 0, mk I' L c t) ∧ R8 (I' r) (leaveS s o) ∧ I' 210 16 = n2 (bits8 G') ∧ F8 I I' r) (k0 := 0) (by omega) (by omega) I ⟨by rw [awk_0]; exact hR, .rf _ _⟩ (fun f k J hk0 hk hi => Or.inr ?_) (fun f J hi => ?_)
  · obtain ⟨i1, i2⟩ := hi
    refine ⟨upI J r (85 * o + k) (n2 0), ?_, by rw [awk_s]; exact i1.h ho hk, i2.trans .up⟩
    show fX8_goes_60 (f + 1) 210 r (n2 o) x y (n2 m) (n2 k) (mk J L c t) = _
    rw [fX8_goes_60]
    dsimp only
    rw [l_85, if_neg (by rw [n2_le (by omega) (by omega)]; omega), l_0, x8_holdsNow hr ho hk, qbnd_s, l_1, n2_add]
  · obtain ⟨i1, i2⟩ := hi
    have w1 := R8.own (k := 0) (v := 0) i1 ho (by omega) (fun _ => by omega)
    have w2 := R8.own (k := 4) (v := 85) w1 ho (by omega) (fun z => by omega)
    have w3 := R8.own (k := 1) (v := 0) w2 ho (by omega) (fun z => by omega)
    have w4 := R8.own (k := 2) (v := 0) w3 ho (by omega) (fun z => by omega)
    rw [awk_85] at w4
    have hrk := gV_lL s o
    have hG2 : (upI (upI (upI (upI J r (680 + 8 * 0 + o) (n2 0)) r (680 + 8 * 4 + o) (n2 85)) r (680 + 8 * 1 + o) (n2 0)) r (680 + 8 * 2 + o) (n2 0)) 210 16 = n2 (bits8 G) := by
      rw [upI_ne (by omega), upI_ne (by omega), upI_ne (by omega), upI_ne (by omega), i2 _ _ (by omega)]
      exact hG
    obtain ⟨I', G', a1, a2, a3, a4, a5⟩ := x8_servesAll (L := L) (c := c) (t := t) (n := 17) (U := []) (R := sX8_serves qdp) hr (sv8_ok hr qdp 17 (by rw [qdp_eq]; omega)) hT hx hy w4 hG2 (iv_awy h ho) (by rw [hrk, List.append_nil]; exact blk_awy h hB) (Or.inr (by omega))
    rw [hrk] at a2
    refine ⟨I', G', ?_, a2, a3, (i2.trans (((Fx.up.trans .up).trans .up).trans .up)).f8.trans a5⟩
    show fX8_goes_60 (f + 1) 210 r (n2 o) x y (n2 m) (n2 85) (mk J L c t) = _
    rw [fX8_goes_60]
    dsimp only
    rw [l_85, if_pos (by rw [n2_le (by omega) (by omega)]; omega), l_680, l_0, n2_add, rw_S hr (by omega), qbnd_s, l_712, n2_add, rw_S hr (by omega), qbnd_s, l_688, n2_add, rw_S hr (by omega), qbnd_s, l_696, n2_add, rw_S hr (by omega), qbnd_s]
    rw [show 680 + o = 680 + 8 * 0 + o by omega, show 712 + o = 680 + 8 * 4 + o by omega, show 688 + o = 680 + 8 * 1 + o by omega, show 696 + o = 680 + 8 * 2 + o by omega, a1, qbnd_s]
theorem x8_goes (hr : r = 217 ∨ r = 218) {o : Nat} (hT : T < 1000000000) (ho : o < 8) (hR : R8 (I r) s) {G : Nat → Bool} (hG : I 210 16 = n2 (bits8 G)) (h : Iv T s) (hB : Blk s []) :
    ∃ I' G', fX8_goes 210 r (n2 o) (mk I L c t) = some (n2 (hol s o 0), 0, mk I' L c t) ∧ R8 (I' r) (leaveS s o) ∧ I' 210 16 = n2 (bits8 G') ∧ F8 I I' r := by
  have hBd := h.bd hT
  unfold fX8_goes
  rw [if_pos (by rw [kk_210])]
  unfold gX8_goes
  rw [l_0]
  have cG : ∀ k q, (decide (q < k + 1) && gV s o q) = (decide (q < k) && gV s o q || decide (q = k) && gV s o k) := by
    intro k q
    by_cases e1 : q < k
    · simp [e1, show q < k + 1 by omega, show ¬ q = k by omega]
    · by_cases e2 : q = k
      · subst e2
        simp
      · simp [e1, e2, show ¬ q < k + 1 by omega]
  have mk0 : ∀ b, MkW 0 b (fun q => decide (q < 0) && gV s o q) := by
    intro b
    refine (mk_0 b).cg fun j hj => ?_
    rw [decide_eq_false (by omega), Bool.false_and]
  have cS : ∀ k, (List.range (k + 1)).foldl (fun n p => n + bn (decide (s p o ≠ 0) && (decide (0 = 0) || decide (s p o = 0)))) 0 = (List.range k).foldl (fun n p => n + bn (decide (s p o ≠ 0) && (decide (0 = 0) || decide (s p o = 0)))) 0 + bn (decide (s k o ≠ 0)) := by
    intro k
    rw [List.range_succ, List.foldl_append]
    simp only [List.foldl_cons, List.foldl_nil]
    congr 2
    simp
  refine lp_rk (α := Int64 × Int64) (fun f k z => fX8_goes_8 f 210 r (n2 o) z.1 z.2 (n2 ((List.range k).foldl (fun n p => n + bn (decide (s p o ≠ 0) && (decide (0 = 0) || decide (s p o = 0)))) 0)) (n2 k) (mk I L c t)) 85 (fun k z => MkW z.1 0 (fun q => decide (q < k) && gV s o q) ∧ MkW z.2 64 (fun q => decide (q < k) && gV s o q)) (fun q => ∃ I' G', q = some (n2 (hol s o 0), 0, mk I' L c t) ∧ R8 (I' r) (leaveS s o) ∧ I' 210 16 = n2 (bits8 G') ∧ F8 I I' r) (k0 := 0) (by omega) (by omega) (0, 0) ⟨mk0 0, mk0 64⟩ (fun f k z hk0 hk hi => Or.inr ?_) (fun f z hi => ?_)
  · obtain ⟨x, y⟩ := z
    obtain ⟨i3, i4⟩ := hi
    dsimp only at i3 i4
    obtain ⟨v, hv⟩ : ∃ v, (List.range k).foldl (fun n p => n + bn (decide (s p o ≠ 0) && (decide (0 = 0) || decide (s p o = 0)))) 0 = v := ⟨_, rfl⟩
    have hcs := cS k
    rw [hv] at hcs
    have hm := hBd.md hk ho
    have f0 : ∀ {μ : qM}, fX8_flag (n2 0) μ = some (n2 0, 0, μ) := fun {μ} => x8_flag0
    have f1 : ∀ {μ : qM}, fX8_flag (n2 1) μ = some (n2 1, 0, μ) := fun {μ} => x8_flag1
    have head : fX8_goes_8 (f + 1) 210 r (n2 o) x y (n2 v) (n2 k) (mk I L c t) = if gV s o k = true then (if 64 ≤ k then fX8_goes_8 f 210 r (n2 o) (x ||| 0) (y ||| ((1 : Int64) <<< ((n2 (k - 64)).toInt64 &&& 63))) (n2 (v + bn (decide (s k o ≠ 0)))) (n2 (k + 1)) (mk I L c t) else fX8_goes_8 f 210 r (n2 o) (x ||| ((1 : Int64) <<< ((n2 k).toInt64 &&& 63))) (y ||| 0) (n2 (v + bn (decide (s k o ≠ 0)))) (n2 (k + 1)) (mk I L c t)) else fX8_goes_8 f 210 r (n2 o) x y (n2 (v + bn (decide (s k o ≠ 0)))) (n2 (k + 1)) (mk I L c t) := by
      have hF : ∀ b : Bool, fX8_goes_27 (fX8_goes_8 f) 210 r (n2 o) x y (n2 v) (n2 k) (n2 (bn b)) (mk I L c t) = (if 64 ≤ k then fX8_goes_8 f 210 r (n2 o) (x ||| 0) (y ||| ((1 : Int64) <<< ((n2 (k - 64)).toInt64 &&& 63))) (n2 (v + bn b)) (n2 (k + 1)) (mk I L c t) else fX8_goes_8 f 210 r (n2 o) (x ||| ((1 : Int64) <<< ((n2 k).toInt64 &&& 63))) (y ||| 0) (n2 (v + bn b)) (n2 (k + 1)) (mk I L c t)) := by
        intro b
        unfold fX8_goes_27 fX8_goes_36 fX8_goes_49
        rw [l_64, l_1]
        by_cases e3 : 64 ≤ k
        · have q3 : n2 64 ≤ n2 k := by rw [n2_le (by omega) (by omega)]; exact e3
          rw [if_pos q3, if_pos q3, if_pos e3, n2_sub e3, x8_flag, qbnd_s, n2_add, n2_add]
        · have q3 : ¬ n2 64 ≤ n2 k := by rw [n2_le (by omega) (by omega)]; exact e3
          rw [if_neg q3, if_neg q3, if_neg e3, x8_flag, qbnd_s, n2_add, n2_add]
      rw [fX8_goes_8]
      dsimp only
      rw [l_85, if_neg (by rw [n2_le (by omega) (by omega)]; omega), x8_held hr hR ho hk, qbnd_s]
      dsimp only
      unfold fX8_goes_19 gV
      rw [l_0, l_1, decide_eq_true hk, Bool.true_and]
      by_cases e1 : s k o = 0
      · have d0 : decide (s k o ≠ 0) = false := decide_eq_false fun z => z e1
        rw [if_pos (by rw [n2_le (by omega) (by omega)]; omega), d0, Bool.false_or, if_pos rfl, x8_isIn hr hR hBd ho hk, qbnd_s]
        dsimp only
        by_cases e2 : s 89 o = k
        · rw [decide_eq_true e2, if_neg yes_zero, if_pos rfl]
          exact hF false
        · rw [decide_eq_false e2, if_pos no_zero, if_neg Bool.false_ne_true, f0, qbnd_s, n2_add, n2_add]
          rfl
      · have d0 : decide (s k o ≠ 0) = true := decide_eq_true e1
        rw [if_neg (by rw [n2_le (by omega) (by omega)]; omega), d0, Bool.true_or, if_neg one_ne, if_pos rfl]
        exact hF true
    rcases bcs (gV s o k) with e1 | e1
    · refine ⟨(x, y), ?_, i3.cg fun j hj => ?_, i4.cg fun j hj => ?_⟩
      · show fX8_goes_8 (f + 1) 210 r (n2 o) x y (n2 _) (n2 k) (mk I L c t) = fX8_goes_8 f 210 r (n2 o) x y (n2 _) (n2 (k + 1)) (mk I L c t)
        rw [hv, head, e1, if_neg Bool.false_ne_true, hcs]
      · rw [cG k, e1, Bool.and_false, Bool.or_false]
      · rw [cG k, e1, Bool.and_false, Bool.or_false]
    · by_cases e3 : 64 ≤ k
      · refine ⟨(x ||| 0, y ||| ((1 : Int64) <<< ((n2 (k - 64)).toInt64 &&& 63))), ?_, (mk_or0 i3).cg fun j hj => ?_, (mk_or (p := k - 64) i4 (by omega)).cg fun j hj => ?_⟩
        · show fX8_goes_8 (f + 1) 210 r (n2 o) x y (n2 _) (n2 k) (mk I L c t) = fX8_goes_8 f 210 r (n2 o) (x ||| 0) (y ||| ((1 : Int64) <<< ((n2 (k - 64)).toInt64 &&& 63))) (n2 _) (n2 (k + 1)) (mk I L c t)
          rw [hv, head, if_pos e1, if_pos e3, hcs]
        · rw [cG k, show decide (0 + j = k) = false from decide_eq_false (by omega), Bool.false_and, Bool.or_false]
        · rw [cG k, e1, Bool.and_true, show 64 + (k - 64) = k by omega]
      · refine ⟨(x ||| ((1 : Int64) <<< ((n2 k).toInt64 &&& 63)), y ||| 0), ?_, (mk_or (p := k) i3 (by omega)).cg fun j hj => ?_, (mk_or0 i4).cg fun j hj => ?_⟩
        · show fX8_goes_8 (f + 1) 210 r (n2 o) x y (n2 _) (n2 k) (mk I L c t) = fX8_goes_8 f 210 r (n2 o) (x ||| ((1 : Int64) <<< ((n2 k).toInt64 &&& 63))) (y ||| 0) (n2 _) (n2 (k + 1)) (mk I L c t)
          rw [hv, head, if_pos e1, if_neg e3, hcs]
        · rw [cG k, e1, Bool.and_true, Nat.zero_add, Nat.zero_add]
        · rw [cG k, show decide (64 + j = k) = false from decide_eq_false (by omega), Bool.false_and, Bool.or_false]
  · obtain ⟨x, y⟩ := z
    obtain ⟨i3, i4⟩ := hi
    dsimp only at i3 i4
    have e85 : ∀ q, (decide (q < 85) && gV s o q) = gV s o q := fun q => by
      by_cases e1 : q < 85
      · rw [decide_eq_true e1, Bool.true_and]
      · unfold gV
        rw [decide_eq_false e1, Bool.false_and, Bool.false_and]
    obtain ⟨I', G', a1, a2, a3, a4⟩ := x8_goes60 (L := L) (c := c) (t := t) (m := hol s o 0) hr hT ho (i3.cg fun j hj => e85 _) (i4.cg fun j hj => e85 _) hR hG h hB
    refine ⟨I', G', ?_, a2, a3, a4⟩
    show fX8_goes_8 (f + 1) 210 r (n2 o) x y (n2 (hol s o 0)) (n2 85) (mk I L c t) = _
    rw [fX8_goes_8]
    dsimp only
    rw [l_85, if_pos (by rw [n2_le (by omega) (by omega)]; omega), l_0]
    exact a1
end S8K

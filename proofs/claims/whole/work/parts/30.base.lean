/-! PURE SIDE, BASE: small numbers, the memory after the beginning (printed by pure/gen30.py) -/
theorem qbnd_s {α : Type} (a : α) (f : α → Option qR) : qbnd (some a) f = f a := rfl
def n2 (k : Nat) : Int32 := Int32.ofNat k
def bn (b : Bool) : Nat := if b = true then 1 else 0
theorem n2_bv (k : Nat) : (n2 k).toBitVec = BitVec.ofNat 32 k := rfl
theorem l_0 : (0 : Int32) = n2 0 := rfl
theorem l_1 : (1 : Int32) = n2 1 := rfl
theorem l_2 : (2 : Int32) = n2 2 := rfl
theorem l_3 : (3 : Int32) = n2 3 := rfl
theorem l_4 : (4 : Int32) = n2 4 := rfl
theorem l_5 : (5 : Int32) = n2 5 := rfl
theorem l_6 : (6 : Int32) = n2 6 := rfl
theorem l_7 : (7 : Int32) = n2 7 := rfl
theorem l_8 : (8 : Int32) = n2 8 := rfl
theorem l_9 : (9 : Int32) = n2 9 := rfl
theorem l_10 : (10 : Int32) = n2 10 := rfl
theorem l_11 : (11 : Int32) = n2 11 := rfl
theorem l_12 : (12 : Int32) = n2 12 := rfl
theorem l_15 : (15 : Int32) = n2 15 := rfl
theorem l_16 : (16 : Int32) = n2 16 := rfl
theorem l_21 : (21 : Int32) = n2 21 := rfl
theorem l_24 : (24 : Int32) = n2 24 := rfl
theorem l_31 : (31 : Int32) = n2 31 := rfl
theorem l_32 : (32 : Int32) = n2 32 := rfl
theorem l_40 : (40 : Int32) = n2 40 := rfl
theorem l_64 : (64 : Int32) = n2 64 := rfl
theorem l_76 : (76 : Int32) = n2 76 := rfl
theorem l_80 : (80 : Int32) = n2 80 := rfl
theorem l_84 : (84 : Int32) = n2 84 := rfl
theorem l_85 : (85 : Int32) = n2 85 := rfl
theorem l_99 : (99 : Int32) = n2 99 := rfl
theorem l_255 : (255 : Int32) = n2 255 := rfl
theorem l_256 : (256 : Int32) = n2 256 := rfl
theorem l_680 : (680 : Int32) = n2 680 := rfl
theorem l_688 : (688 : Int32) = n2 688 := rfl
theorem l_696 : (696 : Int32) = n2 696 := rfl
theorem l_704 : (704 : Int32) = n2 704 := rfl
theorem l_712 : (712 : Int32) = n2 712 := rfl
theorem l_720 : (720 : Int32) = n2 720 := rfl
theorem l_728 : (728 : Int32) = n2 728 := rfl
theorem l_736 : (736 : Int32) = n2 736 := rfl
theorem l_744 : (744 : Int32) = n2 744 := rfl
theorem l_752 : (752 : Int32) = n2 752 := rfl
theorem l_753 : (753 : Int32) = n2 753 := rfl
theorem l_754 : (754 : Int32) = n2 754 := rfl
theorem l_755 : (755 : Int32) = n2 755 := rfl
theorem l_1000 : (1000 : Int32) = n2 1000 := rfl
theorem l_2000 : (2000 : Int32) = n2 2000 := rfl
theorem l_3000 : (3000 : Int32) = n2 3000 := rfl
theorem l_7550 : (7550 : Int32) = n2 7550 := rfl
theorem l_1000000 : (1000000 : Int32) = n2 1000000 := rfl
theorem l_41 : (41 : Int32) = n2 41 := rfl
theorem l_42 : (42 : Int32) = n2 42 := rfl
theorem l_43 : (43 : Int32) = n2 43 := rfl
theorem l_45 : (45 : Int32) = n2 45 := rfl
theorem l_47 : (47 : Int32) = n2 47 := rfl
theorem l_48 : (48 : Int32) = n2 48 := rfl
theorem l_56 : (56 : Int32) = n2 56 := rfl
theorem l_57 : (57 : Int32) = n2 57 := rfl
theorem l_60 : (60 : Int32) = n2 60 := rfl
theorem l_61 : (61 : Int32) = n2 61 := rfl
theorem l_62 : (62 : Int32) = n2 62 := rfl
theorem l_63 : (63 : Int32) = n2 63 := rfl
theorem l_73 : (73 : Int32) = n2 73 := rfl
theorem l_83 : (83 : Int32) = n2 83 := rfl
theorem l_88 : (88 : Int32) = n2 88 := rfl
theorem l_97 : (97 : Int32) = n2 97 := rfl
theorem l_98 : (98 : Int32) = n2 98 := rfl
theorem l_100 : (100 : Int32) = n2 100 := rfl
theorem l_101 : (101 : Int32) = n2 101 := rfl
theorem l_102 : (102 : Int32) = n2 102 := rfl
theorem l_103 : (103 : Int32) = n2 103 := rfl
theorem l_104 : (104 : Int32) = n2 104 := rfl
theorem l_105 : (105 : Int32) = n2 105 := rfl
theorem l_108 : (108 : Int32) = n2 108 := rfl
theorem l_111 : (111 : Int32) = n2 111 := rfl
theorem l_113 : (113 : Int32) = n2 113 := rfl
theorem l_117 : (117 : Int32) = n2 117 := rfl
theorem l_118 : (118 : Int32) = n2 118 := rfl
theorem l_119 : (119 : Int32) = n2 119 := rfl
theorem l_120 : (120 : Int32) = n2 120 := rfl
theorem l_65536 : (65536 : Int32) = n2 65536 := rfl
theorem n2_add (a b : Nat) : n2 a + n2 b = n2 (a + b) := (Int32.ofNat_add a b).symm
theorem n2_mul (a b : Nat) : n2 a * n2 b = n2 (a * b) := (Int32.ofNat_mul a b).symm
theorem n2_sub {a b : Nat} (h : b ≤ a) : n2 a - n2 b = n2 (a - b) := (Int32.ofNat_sub a b h).symm
theorem n2_dec {a : Nat} (h : 1 ≤ a) : n2 a + -n2 1 = n2 (a - 1) := by
  rw [← n2_sub h, Int32.sub_eq_add_neg]
theorem n2_cl {a : Nat} (h : a < 2147483648) : (n2 a).toNatClampNeg = a := Int32.toNatClampNeg_ofNat_of_lt (by omega)
theorem n2_ti {a : Nat} (h : a < 2147483648) : (n2 a).toInt = (a : Int) := Int32.toInt_ofNat_of_lt (by omega)
theorem n2_eq {a b : Nat} (ha : a < 2147483648) (hb : b < 2147483648) : (n2 a = n2 b) = (a = b) := propext ⟨fun h => by
  have h1 := congrArg Int32.toNatClampNeg h
  rwa [n2_cl ha, n2_cl hb] at h1, fun h => by rw [h]⟩
theorem n2_le {a b : Nat} (ha : a < 2147483648) (hb : b < 2147483648) : (n2 a ≤ n2 b) = (a ≤ b) := propext (Int32.ofNat_le_iff_le (by omega) (by omega))
theorem n2_lt {a b : Nat} (ha : a < 2147483648) (hb : b < 2147483648) : (n2 a < n2 b) = (a < b) := propext (Int32.ofNat_lt_iff_lt (by omega) (by omega))
theorem n2_div {a b : Nat} (ha : a < 2147483648) (hb : b < 2147483648) : n2 a / n2 b = n2 (a / b) := (Int32.ofNat_div (by omega) (by omega)).symm
theorem n2_ltm {a : Nat} (ha : a < 2147483648) : (n2 a < -n2 1) = False := by
  apply propext
  constructor
  · intro h
    rw [Int32.lt_iff_toInt_lt, n2_ti ha, show (-n2 1).toInt = -1 from rfl] at h
    omega
  · exact False.elim
theorem n2_mlt {a : Nat} (ha : a < 2147483648) : (-n2 1 < n2 a) = True := by
  apply eq_true
  rw [Int32.lt_iff_toInt_lt, n2_ti ha, show (-n2 1).toInt = -1 from rfl]
  omega
theorem n2_lem {a : Nat} (ha : a < 2147483648) : (n2 a ≤ -n2 1) = False := by
  apply propext
  constructor
  · intro h
    rw [Int32.le_iff_toInt_le, n2_ti ha, show (-n2 1).toInt = -1 from rfl] at h
    omega
  · exact False.elim
theorem n2_mle {a : Nat} (ha : a < 2147483648) : (-n2 1 ≤ n2 a) = True := by
  apply eq_true
  rw [Int32.le_iff_toInt_le, n2_ti ha, show (-n2 1).toInt = -1 from rfl]
  omega
theorem n2_eqm {a : Nat} (ha : a < 2147483648) : (n2 a = -n2 1) = False := by
  apply propext
  constructor
  · intro h
    have h1 := congrArg Int32.toInt h
    rw [n2_ti ha, show (-n2 1).toInt = -1 from rfl] at h1
    omega
  · exact False.elim
theorem n2_meq {a : Nat} (ha : a < 2147483648) : (-n2 1 = n2 a) = False := by rw [← n2_eqm ha]; exact propext eq_comm
theorem n2_and (a b : Nat) : n2 a &&& n2 b = n2 (a &&& b) := Int32.toBitVec_inj.1 (by
  rw [Int32.toBitVec_and, n2_bv, n2_bv, n2_bv, BitVec.ofNat_and])
theorem n2_or (a b : Nat) : n2 a ||| n2 b = n2 (a ||| b) := Int32.toBitVec_inj.1 (by
  rw [Int32.toBitVec_or, n2_bv, n2_bv, n2_bv, BitVec.ofNat_or])
theorem n2_31 {k : Nat} (h : k < 32) : n2 k &&& n2 31 = n2 k := by
  rw [n2_and, show k &&& 31 = k from by
    have : k % 2 ^ 5 = k := Nat.mod_eq_of_lt (by omega)
    rw [← Nat.and_two_pow_sub_one_eq_mod] at this
    exact this]
theorem n2_smod : ∀ k, k < 32 → (BitVec.ofNat 32 k).smod 32 = BitVec.ofNat 32 k := by decide +kernel
theorem n2_shl {a k : Nat} (h : k < 32) : n2 a <<< n2 k = n2 (a <<< k) := Int32.toBitVec_inj.1 (by
  rw [Int32.toBitVec_shiftLeft, n2_bv, n2_bv, n2_bv]
  have e : ((32 : Nat) : BitVec 32) = 32 := rfl
  rw [show (BitVec.ofNat 32 k).smod 32 = BitVec.ofNat 32 k from n2_smod k h]
  apply BitVec.eq_of_toNat_eq
  rw [BitVec.shiftLeft_eq', BitVec.toNat_shiftLeft, BitVec.toNat_ofNat, BitVec.toNat_ofNat, BitVec.toNat_ofNat, Nat.mod_eq_of_lt (show k < 2 ^ 32 by omega), Nat.shiftLeft_eq, Nat.shiftLeft_eq, Nat.mod_mul_mod])
theorem n2_shr {a k : Nat} (ha : a < 2147483648) (h : k < 32) : n2 a >>> n2 k = n2 (a >>> k) := Int32.toBitVec_inj.1 (by
  rw [Int32.toBitVec_shiftRight, n2_bv, n2_bv, n2_bv]
  rw [show (BitVec.ofNat 32 k).smod 32 = BitVec.ofNat 32 k from n2_smod k h]
  have h0 : (BitVec.ofNat 32 a).msb = false := by
    rw [BitVec.msb_eq_decide, BitVec.toNat_ofNat, Nat.mod_eq_of_lt (by omega)]
    exact decide_eq_false (by omega)
  rw [BitVec.sshiftRight_eq', BitVec.toNat_ofNat, Nat.mod_eq_of_lt (show k < 2 ^ 32 by omega), BitVec.sshiftRight_eq_of_msb_false h0]
  apply BitVec.eq_of_toNat_eq
  rw [BitVec.toNat_ushiftRight, BitVec.toNat_ofNat, BitVec.toNat_ofNat, Nat.mod_eq_of_lt (show a < 2 ^ 32 by omega), Nat.mod_eq_of_lt]
  exact Nat.lt_of_le_of_lt (Nat.shiftRight_le a k) (by omega))
theorem n2_umod : ∀ k, k < 32 → ((n2 k).toUInt32 &&& Int32.toUInt32 31).toBitVec % 32 = BitVec.ofNat 32 k := by decide +kernel
theorem qush_bv (x : Int32) {k : Nat} (h : k < 32) : (qush x (n2 k)).toBitVec = x.toBitVec >>> k := by
  show x.toBitVec >>> (((n2 k).toUInt32 &&& Int32.toUInt32 31).toBitVec % 32) = _
  rw [n2_umod k h, BitVec.ushiftRight_eq', BitVec.toNat_ofNat, Nat.mod_eq_of_lt (show k < 2 ^ 32 by omega)]
theorem qush_n2 {a k : Nat} (ha : a < 4294967296) (h : k < 32) : qush (n2 a) (n2 k) = n2 (a >>> k) := Int32.toBitVec_inj.1 (by
  rw [qush_bv _ h, n2_bv, n2_bv]
  apply BitVec.eq_of_toNat_eq
  rw [BitVec.toNat_ushiftRight, BitVec.toNat_ofNat, BitVec.toNat_ofNat, Nat.mod_eq_of_lt (show a < 2 ^ 32 by omega), Nat.mod_eq_of_lt]
  exact Nat.lt_of_le_of_lt (Nat.shiftRight_le a k) (by omega))
theorem n2_qz0 : (qnz (n2 0) = n2 0) = True := eq_true (by decide +kernel)
theorem n2_qz1 : (qnz (n2 1) = n2 1) = True := eq_true (by decide +kernel)
theorem bn_lt (b : Bool) : bn b < 2 := by cases b <;> decide
theorem bn_le (b : Bool) : bn b ≤ 1 := by cases b <;> decide
theorem n2_qzb (b : Bool) : (qnz (n2 (bn b)) = n2 (bn b)) = True := by cases b; exact n2_qz0; exact n2_qz1
theorem bn_t : bn true = 1 := rfl
theorem bn_f : bn false = 0 := rfl
theorem bn_0 (b : Bool) : (n2 (bn b) = n2 0) = (b = false) := by cases b <;> exact propext (by decide +kernel)
theorem bn_1 (b : Bool) : (n2 (bn b) = n2 1) = (b = true) := by cases b <;> exact propext (by decide +kernel)
theorem bn_n0 (b : Bool) : (bn b = 0) = (b = false) := by cases b <;> exact propext (by decide)
theorem bn_n1 (b : Bool) : (bn b = 1) = (b = true) := by cases b <;> exact propext (by decide)
theorem n2_nn {k : Nat} (h : k < 2147483648) : (n2 k < n2 0) = False := by rw [n2_lt h (by omega)]; exact propext ⟨fun h => by omega, False.elim⟩
theorem n2_pos {k : Nat} (h : k < 2147483648) : (n2 k ≤ n2 0) = (k = 0) := by rw [n2_le h (by omega)]; exact propext ⟨fun h => by omega, fun h => by omega⟩
/-- any int is a small number of a range, or none -/
theorem n2_cases (N : Nat) (hN : N < 2147483648) (x : Int32) : (∃ k, k < N ∧ x = n2 k) ∨ x < n2 0 ∨ (¬ x < n2 0 ∧ n2 N ≤ x) := by
  by_cases h0 : x < n2 0
  · exact Or.inr (Or.inl h0)
  by_cases h1 : n2 N ≤ x
  · exact Or.inr (Or.inr ⟨h0, h1⟩)
  · refine Or.inl ⟨x.toNatClampNeg, ?_, ?_⟩
    · rw [Int32.not_le, Int32.lt_iff_toInt_lt, n2_ti hN] at h1
      have : (x.toNatClampNeg : Int) = x.toInt := Int32.cast_toNatClampNeg x (by rw [Int32.not_lt] at h0; exact h0)
      omega
    · exact (Int32.ofNat_toNatClampNeg x (by rw [Int32.not_lt] at h0; exact h0)).symm
/-! four bits of a word -/
def nib (w : Int32) (o : Nat) : Int32 := qush w (n2 (4 * o)) &&& n2 15
def nst (w : Int32) (o m : Nat) : Int32 := (w &&& ((n2 15 <<< n2 (4 * o)) ^^^ -n2 1)) ||| (n2 m <<< n2 (4 * o))
def ncl (w : Int32) (o : Nat) : Int32 := w &&& ((n2 15 <<< n2 (4 * o)) ^^^ -n2 1)
theorem tb15 (i : Nat) : Nat.testBit 15 i = decide (i < 4) := by
  rw [show (15 : Nat) = 2 ^ 4 - 1 from rfl, Nat.testBit_two_pow_sub_one]
theorem nib_bit (w : Int32) {o : Nat} (ho : o < 8) (i : Nat) : (nib w o).toBitVec.getLsbD i = (decide (i < 4) && w.toBitVec.getLsbD (4 * o + i)) := by
  rw [nib, Int32.toBitVec_and, BitVec.getLsbD_and, qush_bv _ (by omega), BitVec.getLsbD_ushiftRight, n2_bv, BitVec.getLsbD_ofNat, tb15]
  by_cases h : i < 4
  · have : i < 32 := by omega
    simp [h, this]
  · simp [h]
theorem ncl_bit (w : Int32) {o : Nat} (ho : o < 8) (i : Nat) : (ncl w o).toBitVec.getLsbD i = (w.toBitVec.getLsbD i && !(decide (4 * o ≤ i) && decide (i < 4 * o + 4))) := by
  rw [ncl, n2_shl (by omega), Int32.toBitVec_and, Int32.toBitVec_xor, BitVec.getLsbD_and, BitVec.getLsbD_xor, n2_bv, BitVec.getLsbD_ofNat, Nat.testBit_shiftLeft, tb15, show (-n2 1).toBitVec = BitVec.allOnes 32 from rfl, BitVec.getLsbD_allOnes]
  by_cases hi : i < 32
  · by_cases h1 : 4 * o ≤ i
    · by_cases h2 : i < 4 * o + 4
      · have : i - 4 * o < 4 := by omega
        simp [hi, h1, h2, this]
      · have : ¬ i - 4 * o < 4 := by omega
        simp [hi, h1, h2, this]
    · simp [hi, h1]
  · rw [BitVec.getLsbD_of_ge w.toBitVec i (by omega)]
    simp
theorem nst_bit (w : Int32) {o m : Nat} (ho : o < 8) (hm : m < 16) (i : Nat) : (nst w o m).toBitVec.getLsbD i = if 4 * o ≤ i ∧ i < 4 * o + 4 then m.testBit (i - 4 * o) else w.toBitVec.getLsbD i := by
  rw [show nst w o m = ncl w o ||| (n2 m <<< n2 (4 * o)) from rfl, n2_shl (by omega), Int32.toBitVec_or, BitVec.getLsbD_or, ncl_bit w ho, n2_bv, BitVec.getLsbD_ofNat, Nat.testBit_shiftLeft]
  by_cases h1 : 4 * o ≤ i
  · by_cases h2 : i < 4 * o + 4
    · have : i < 32 := by omega
      simp [h1, h2, this]
    · have h3 : m.testBit (i - 4 * o) = false := Nat.testBit_lt_two_pow (Nat.lt_of_lt_of_le hm (Nat.pow_le_pow_right (n := 2) (i := 4) (by omega) (by omega)))
      simp [h1, h2, h3]
  · simp [h1]
theorem n2_bit {m : Nat} (hm : m < 16) (i : Nat) : (n2 m).toBitVec.getLsbD i = (decide (i < 4) && m.testBit i) := by
  rw [n2_bv, BitVec.getLsbD_ofNat]
  by_cases h : i < 4
  · have : i < 32 := by omega
    simp [h, this]
  · have h3 : m.testBit i = false := Nat.testBit_lt_two_pow (Nat.lt_of_lt_of_le hm (Nat.pow_le_pow_right (n := 2) (i := 4) (by omega) (by omega)))
    simp [h, h3]
theorem i32_ext {x y : Int32} (h : ∀ i, i < 32 → x.toBitVec.getLsbD i = y.toBitVec.getLsbD i) : x = y := Int32.toBitVec_inj.1 (BitVec.eq_of_getLsbD_eq h)
theorem nib_nst (w : Int32) {o m p : Nat} (ho : o < 8) (hm : m < 16) (hp : p < 8) : nib (nst w o m) p = if p = o then n2 m else nib w p := by
  apply i32_ext
  intro i _
  rw [nib_bit _ hp, nst_bit _ ho hm]
  by_cases h : i < 4
  · by_cases e : p = o
    · subst e
      rw [if_pos ⟨by omega, by omega⟩, if_pos rfl, n2_bit hm, Nat.add_sub_cancel_left]
    · rw [if_neg (by omega), if_neg e, nib_bit _ hp]
  · by_cases e : p = o
    · rw [if_pos e, n2_bit hm]; simp [h]
    · rw [if_neg e, nib_bit _ hp]; simp [h]
theorem nib_ncl (w : Int32) {o p : Nat} (ho : o < 8) (hp : p < 8) : nib (ncl w o) p = if p = o then n2 0 else nib w p := by
  apply i32_ext
  intro i _
  rw [nib_bit _ hp, ncl_bit _ ho]
  by_cases h : i < 4
  · by_cases e : p = o
    · subst e
      rw [if_pos rfl, n2_bit (by omega)]
      have h1 : 4 * p ≤ 4 * p + i := by omega
      have h2 : 4 * p + i < 4 * p + 4 := by omega
      simp [h1, h2]
    · rw [if_neg e, nib_bit _ hp]
      have h1 : ¬ (4 * o ≤ 4 * p + i ∧ 4 * p + i < 4 * o + 4) := by omega
      by_cases h2 : 4 * o ≤ 4 * p + i
      · have h3 : ¬ 4 * p + i < 4 * o + 4 := by omega
        simp [h, h2, h3]
      · simp [h, h2]
  · by_cases e : p = o
    · rw [if_pos e, n2_bit (by omega)]; simp [h]
    · rw [if_neg e, nib_bit _ hp]; simp [h]
/-- whether an owner's four bits are all 0 -/
theorem nib_zero (w : Int32) {o : Nat} (ho : o < 8) : (w &&& (n2 15 <<< n2 (4 * o)) = n2 0) = (nib w o = n2 0) := by
  have hb : ∀ i, (w &&& (n2 15 <<< n2 (4 * o))).toBitVec.getLsbD i = (w.toBitVec.getLsbD i && (decide (i < 32) && (decide (4 * o ≤ i) && decide (i - 4 * o < 4)))) := by
    intro i
    rw [n2_shl (by omega), Int32.toBitVec_and, BitVec.getLsbD_and, n2_bv, BitVec.getLsbD_ofNat, Nat.testBit_shiftLeft, tb15]
  have h0 : ∀ i, (n2 0).toBitVec.getLsbD i = false := fun i => by rw [n2_bit (by omega)]; simp
  apply propext
  constructor
  · intro h
    apply i32_ext
    intro i _
    rw [nib_bit _ ho, h0]
    by_cases hi : i < 4
    · have h1 := hb (4 * o + i)
      rw [h, h0] at h1
      have h2 : 4 * o + i < 32 := by omega
      simpa [h2, hi] using h1
    · simp [hi]
  · intro h
    apply i32_ext
    intro i hi
    rw [hb, h0]
    by_cases h1 : 4 * o ≤ i
    · by_cases h2 : i - 4 * o < 4
      · have h3 := nib_bit w ho (i - 4 * o)
        rw [h, h0, show 4 * o + (i - 4 * o) = i by omega] at h3
        simpa [hi, h1, h2] using h3.symm
      · simp [h2]
    · simp [h1]
/-! the memory -/
def K1 : List (Nat × Nat) := [(7, 10), (0, 5), (5, 13), (20, 85), (20, 8), (20, 8), (20, 8), (20, 8), (20, 8), (20, 8), (20, 8), (20, 8), (20, 8), (2, 4), (20, 8), (20, 8), (20, 8), (20, 8), (20, 8), (20, 85), (0, 5), (5, 13), (20, 85), (20, 8), (20, 8), (20, 8), (20, 8), (20, 8), (20, 8), (20, 8), (20, 8), (20, 8), (2, 4), (20, 8), (20, 8), (20, 8), (20, 8), (20, 8), (20, 85), (1, 3), (24, 11), (5, 13), (20, 85), (20, 8), (20, 8), (20, 8), (20, 8), (20, 8), (20, 8), (20, 8), (20, 8), (20, 8), (5, 13), (20, 85), (20, 8), (20, 8), (20, 8), (20, 8), (20, 8), (20, 8), (20, 8), (20, 8), (20, 8), (5, 13), (20, 85), (20, 8), (20, 8), (20, 8), (20, 8), (20, 8), (20, 8), (20, 8), (20, 8), (20, 8), (5, 13), (20, 85), (20, 8), (20, 8), (20, 8), (20, 8), (20, 8), (20, 8), (20, 8), (20, 8), (20, 8), (5, 13), (20, 85), (20, 8), (20, 8), (20, 8), (20, 8), (20, 8), (20, 8), (20, 8), (20, 8), (20, 8), (5, 13), (20, 85), (20, 8), (20, 8), (20, 8), (20, 8), (20, 8), (20, 8), (20, 8), (20, 8), (20, 8), (5, 13), (20, 85), (20, 8), (20, 8), (20, 8), (20, 8), (20, 8), (20, 8), (20, 8), (20, 8), (20, 8), (5, 13), (20, 85), (20, 8), (20, 8), (20, 8), (20, 8), (20, 8), (20, 8), (20, 8), (20, 8), (20, 8), (5, 13), (20, 85), (20, 8), (20, 8), (20, 8), (20, 8), (20, 8), (20, 8), (20, 8), (20, 8), (20, 8), (5, 13), (20, 85), (20, 8), (20, 8), (20, 8), (20, 8), (20, 8), (20, 8), (20, 8), (20, 8), (20, 8), (5, 13), (20, 85), (20, 8), (20, 8), (20, 8), (20, 8), (20, 8), (20, 8), (20, 8), (20, 8), (20, 8), (24, 3), (5, 13), (20, 85), (20, 8), (20, 8), (20, 8), (20, 8), (20, 8), (20, 8), (20, 8), (20, 8), (20, 8), (5, 13), (20, 85), (20, 8), (20, 8), (20, 8), (20, 8), (20, 8), (20, 8), (20, 8), (20, 8), (20, 8), (5, 13), (20, 85), (20, 8), (20, 8), (20, 8), (20, 8), (20, 8), (20, 8), (20, 8), (20, 8), (20, 8), (23, 3), (6, 2), (22, 80), (3, 2), (21, 13), (4, 9), (20, 40), (20, 40), (20, 40), (4, 9), (20, 40), (20, 40), (20, 40), (8, 31), (21, 24), (20, 80), (20, 80), (20, 80), (20, 80), (20, 7), (20, 755), (20, 755), (20, 8), (20, 8305), (20, 80), (20, 80), (20, 80), (20, 80), (20, 8), (20, 80), (23, 3), (20, 2265), (21, 1)]
theorem qM1_K : qM1.1 = K1 := qM1_kinds
noncomputable def P1 : Nat → Nat → Nat := Classical.choose (⟨qM1.2.2.2.1, rfl⟩ : ∃ f, f = qM1.2.2.2.1)
theorem P1_eq : P1 = qM1.2.2.2.1 := Classical.choose_spec (⟨qM1.2.2.2.1, rfl⟩ : ∃ f, f = qM1.2.2.2.1)
theorem P1_qP (a k : Nat) : P1 a k = qP qM1 a k := by rw [P1_eq]; rfl
theorem P1_at {a k b : Nat} (h : (qP1.contains (a, k, b)) = true) : P1 a k = b := by
  rw [P1_qP]
  have h2 : decide (qP qM1 a k = b) = true := List.all_eq_true.mp qM1_P (a, k, b) (List.contains_iff_mem.mp h)
  exact of_decide_eq_true h2
noncomputable def mk (I : Nat → Nat → Int32) (L : Nat → Nat → Int64) (c t : Nat) : qM := (K1, I, L, P1, c, t)
theorem qM1_mk : qM1 = mk qM1.2.1 qM1.2.2.1 229 16255 := by
  unfold mk
  rw [P1_eq, ← qM1_K, ← qM1_count.1, ← qM1_count.2]
def upI (I : Nat → Nat → Int32) (a i : Nat) (x : Int32) : Nat → Nat → Int32 := fun b j => if b = a ∧ j = i then x else I b j
def upL (I : Nat → Nat → Int64) (a i : Nat) (x : Int64) : Nat → Nat → Int64 := fun b j => if b = a ∧ j = i then x else I b j
def cpI (I : Nat → Nat → Int32) (a0 sp a1 dp n : Nat) : Nat → Nat → Int32 := fun b j => if b = a1 ∧ dp ≤ j ∧ j < dp + n then I a0 (sp + (j - dp)) else I b j
theorem upI_at (I : Nat → Nat → Int32) (a i : Nat) (x : Int32) (b j : Nat) : upI I a i x b j = if b = a ∧ j = i then x else I b j := rfl
theorem cpI_at (I : Nat → Nat → Int32) (a0 sp a1 dp n b j : Nat) : cpI I a0 sp a1 dp n b j = if b = a1 ∧ dp ≤ j ∧ j < dp + n then I a0 (sp + (j - dp)) else I b j := rfl
section MK
variable {I : Nat → Nat → Int32} {L : Nat → Nat → Int64} {c t : Nat}
theorem mk_k {a b : Nat} {z : Nat × Nat} (e : a = b + 1) (h : qnth K1 b = some z) : qk (mk I L c t) a = z := by
  subst e
  show (qnth K1 b).getD (99, 0) = z
  rw [h]; rfl
theorem n2_out {i n : Nat} (hi : i < n) (hn : n < 2147483648) : ¬ (n2 i < 0 ∨ n ≤ (n2 i).toNatClampNeg) := by
  rw [n2_cl (by omega), l_0, n2_nn (by omega), false_or]
  omega
theorem oGetI_mk {k a j n : Nat} (h : qk (mk I L c t) a = (k, n)) : oGetI (mk I L c t) k a j = some (I a j) := by
  unfold oGetI
  rw [h]
  exact if_pos rfl
theorem oGetP_mk {k a j n b : Nat} (h : qk (mk I L c t) a = (k, n)) (hb : P1 a j = b) : oGetP (mk I L c t) k a j = some b := by
  unfold oGetP
  rw [h, if_pos rfl]
  exact congrArg some hb
theorem oPutI_mk {k a j n : Nat} {x : Int32} (h : qk (mk I L c t) a = (k, n)) : oPutI (mk I L c t) k a j x = some (mk (upI I a j x) L c t) := by
  unfold oPutI
  rw [h]
  exact if_pos rfl
theorem oLdI_mk {k a i n : Nat} (h : qk (mk I L c t) a = (k, n)) (hn : n < 2147483648) (hi : i < n) : oLdI k (mk I L c t) a (n2 i) = some (I a i) := by
  unfold oLdI
  rw [h, if_pos ⟨rfl, n2_out hi hn⟩, n2_cl (by omega)]
  rfl
theorem oStI_mk {k a i n : Nat} {x : Int32} (h : qk (mk I L c t) a = (k, n)) (hn : n < 2147483648) (hi : i < n) : oStI k (mk I L c t) a (n2 i) x = some (mk (upI I a i x) L c t) := by
  unfold oStI
  rw [h, if_pos ⟨rfl, n2_out hi hn⟩, n2_cl (by omega)]
  rfl
theorem oLdL_mk {a i n : Nat} (h : qk (mk I L c t) a = (21, n)) (hn : n < 2147483648) (hi : i < n) : oLdL (mk I L c t) a (n2 i) = some (L a i) := by
  unfold oLdL
  rw [h, if_pos ⟨rfl, n2_out hi hn⟩, n2_cl (by omega)]
  rfl
theorem oStL_mk {a i n : Nat} {x : Int64} (h : qk (mk I L c t) a = (21, n)) (hn : n < 2147483648) (hi : i < n) : oStL (mk I L c t) a (n2 i) x = some (mk I (upL L a i x) c t) := by
  unfold oStL
  rw [h, if_pos ⟨rfl, n2_out hi hn⟩, n2_cl (by omega)]
  rfl
theorem oLdP_mk {a i n b : Nat} (h : qk (mk I L c t) a = (24, n)) (hn : n < 2147483648) (hi : i < n) (hb : P1 a i = b) : oLdP (mk I L c t) a (n2 i) = some b := by
  unfold oLdP
  rw [h, if_pos ⟨rfl, n2_out hi hn⟩, n2_cl (by omega)]
  exact congrArg some hb
theorem oLen_mk {k a n : Nat} (h : qk (mk I L c t) a = (k, n)) (hk : 20 ≤ k ∧ k ≤ 24) : oLen (mk I L c t) a = some (n2 n) := by
  unfold oLen
  rw [h, if_pos hk]
  rfl
theorem oCpy_mk {a0 a1 n0 n1 sp dp n : Nat} (h0 : qk (mk I L c t) a0 = (20, n0)) (h1 : qk (mk I L c t) a1 = (20, n1)) (hs : sp + n ≤ n0) (hd : dp + n ≤ n1) (hb : n0 < 2147483648) (hb1 : n1 < 2147483648) : oCpy (mk I L c t) a0 (n2 sp) a1 (n2 dp) (n2 n) = some (mk (cpI I a0 sp a1 dp n) L c t) := by
  unfold oCpy
  have e1 : sp + n ≤ n0 ∧ dp + n ≤ n1 := ⟨hs, hd⟩
  have z : ∀ x, x < 2147483648 → ¬ n2 x < 0 := fun x hx => by rw [l_0, n2_nn hx]; exact not_false
  rw [h0, h1, n2_cl (by omega), n2_cl (by omega), n2_cl (by omega), if_pos ⟨⟨rfl, rfl⟩, ⟨z _ (by omega), z _ (by omega), z _ (by omega)⟩, e1⟩]
  rfl
end MK
theorem all_of {α : Type} {l : List α} {p : α → Bool} (h : l.all p = true) {a : α} (ha : a ∈ l) : p a = true := List.all_eq_true.mp h a ha
/-- the State objects -/
def stl : List Nat := [3, 22, 42, 53, 64, 75, 86, 97, 108, 119, 130, 141, 152, 164, 175, 186]
theorem stl_c : (stl.all fun a => decide (1 ≤ a ∧ qnth K1 (a - 1) = some (5, 13) ∧ qnth K1 a = some (20, 85)) && (List.range 9).all (fun j => decide (qnth K1 (a + 1 + j) = some (20, 8))) && (List.range 10).all (fun j => qP1.contains (a, j, a + 1 + j))) = true := by decide +kernel
section MST
variable {I : Nat → Nat → Int32} {L : Nat → Nat → Int64} {c t a : Nat}
theorem st_k0 (ha : a ∈ stl) : qk (mk I L c t) a = (5, 13) := by
  have h := all_of stl_c ha
  simp only [Bool.and_eq_true, decide_eq_true_eq] at h
  exact mk_k (by omega) h.1.1.2.1
theorem st_kh (ha : a ∈ stl) : qk (mk I L c t) (a + 1) = (20, 85) := by
  have h := all_of stl_c ha
  simp only [Bool.and_eq_true, decide_eq_true_eq] at h
  exact mk_k rfl h.1.1.2.2
theorem st_ka {j : Nat} (ha : a ∈ stl) (hj : j < 9) : qk (mk I L c t) (a + 2 + j) = (20, 8) := by
  have h := all_of stl_c ha
  simp only [Bool.and_eq_true, decide_eq_true_eq] at h
  have h2 := of_decide_eq_true (all_of h.1.2 (List.mem_range.mpr hj))
  exact mk_k (show a + 2 + j = a + 1 + j + 1 by omega) h2
theorem st_p {j : Nat} (ha : a ∈ stl) (hj : j < 10) : P1 a j = a + 1 + j := by
  have h := all_of stl_c ha
  simp only [Bool.and_eq_true] at h
  exact P1_at (all_of h.2 (List.mem_range.mpr hj))
theorem st_P0 (ha : a ∈ stl) : oGetP (mk I L c t) 5 a 0 = some (a + 1) := oGetP_mk (st_k0 ha) (st_p ha (by omega))
theorem st_P1 (ha : a ∈ stl) : oGetP (mk I L c t) 5 a 1 = some (a + 2) := oGetP_mk (st_k0 ha) (st_p ha (by omega))
theorem st_P2 (ha : a ∈ stl) : oGetP (mk I L c t) 5 a 2 = some (a + 3) := oGetP_mk (st_k0 ha) (st_p ha (by omega))
theorem st_P3 (ha : a ∈ stl) : oGetP (mk I L c t) 5 a 3 = some (a + 4) := oGetP_mk (st_k0 ha) (st_p ha (by omega))
theorem st_P4 (ha : a ∈ stl) : oGetP (mk I L c t) 5 a 4 = some (a + 5) := oGetP_mk (st_k0 ha) (st_p ha (by omega))
theorem st_P5 (ha : a ∈ stl) : oGetP (mk I L c t) 5 a 5 = some (a + 6) := oGetP_mk (st_k0 ha) (st_p ha (by omega))
theorem st_P6 (ha : a ∈ stl) : oGetP (mk I L c t) 5 a 6 = some (a + 7) := oGetP_mk (st_k0 ha) (st_p ha (by omega))
theorem st_P7 (ha : a ∈ stl) : oGetP (mk I L c t) 5 a 7 = some (a + 8) := oGetP_mk (st_k0 ha) (st_p ha (by omega))
theorem st_P8 (ha : a ∈ stl) : oGetP (mk I L c t) 5 a 8 = some (a + 9) := oGetP_mk (st_k0 ha) (st_p ha (by omega))
theorem st_P9 (ha : a ∈ stl) : oGetP (mk I L c t) 5 a 9 = some (a + 10) := oGetP_mk (st_k0 ha) (st_p ha (by omega))
theorem st_L0 {p : Nat} (ha : a ∈ stl) (hp : p < 85) : oLdI 20 (mk I L c t) (a + 1) (n2 p) = some (I (a + 1) p) := oLdI_mk (st_kh ha) (by omega) hp
theorem st_S0 {p : Nat} {x : Int32} (ha : a ∈ stl) (hp : p < 85) : oStI 20 (mk I L c t) (a + 1) (n2 p) x = some (mk (upI I (a + 1) p x) L c t) := oStI_mk (st_kh ha) (by omega) hp
theorem st_L1 {p : Nat} (ha : a ∈ stl) (hp : p < 8) : oLdI 20 (mk I L c t) (a + 2) (n2 p) = some (I (a + 2) p) := oLdI_mk (st_ka (j := 0) ha (by omega)) (by omega) hp
theorem st_S1 {p : Nat} {x : Int32} (ha : a ∈ stl) (hp : p < 8) : oStI 20 (mk I L c t) (a + 2) (n2 p) x = some (mk (upI I (a + 2) p x) L c t) := oStI_mk (st_ka (j := 0) ha (by omega)) (by omega) hp
theorem st_L2 {p : Nat} (ha : a ∈ stl) (hp : p < 8) : oLdI 20 (mk I L c t) (a + 3) (n2 p) = some (I (a + 3) p) := oLdI_mk (st_ka (j := 1) ha (by omega)) (by omega) hp
theorem st_S2 {p : Nat} {x : Int32} (ha : a ∈ stl) (hp : p < 8) : oStI 20 (mk I L c t) (a + 3) (n2 p) x = some (mk (upI I (a + 3) p x) L c t) := oStI_mk (st_ka (j := 1) ha (by omega)) (by omega) hp
theorem st_L3 {p : Nat} (ha : a ∈ stl) (hp : p < 8) : oLdI 20 (mk I L c t) (a + 4) (n2 p) = some (I (a + 4) p) := oLdI_mk (st_ka (j := 2) ha (by omega)) (by omega) hp
theorem st_S3 {p : Nat} {x : Int32} (ha : a ∈ stl) (hp : p < 8) : oStI 20 (mk I L c t) (a + 4) (n2 p) x = some (mk (upI I (a + 4) p x) L c t) := oStI_mk (st_ka (j := 2) ha (by omega)) (by omega) hp
theorem st_L4 {p : Nat} (ha : a ∈ stl) (hp : p < 8) : oLdI 20 (mk I L c t) (a + 5) (n2 p) = some (I (a + 5) p) := oLdI_mk (st_ka (j := 3) ha (by omega)) (by omega) hp
theorem st_S4 {p : Nat} {x : Int32} (ha : a ∈ stl) (hp : p < 8) : oStI 20 (mk I L c t) (a + 5) (n2 p) x = some (mk (upI I (a + 5) p x) L c t) := oStI_mk (st_ka (j := 3) ha (by omega)) (by omega) hp
theorem st_L5 {p : Nat} (ha : a ∈ stl) (hp : p < 8) : oLdI 20 (mk I L c t) (a + 6) (n2 p) = some (I (a + 6) p) := oLdI_mk (st_ka (j := 4) ha (by omega)) (by omega) hp
theorem st_S5 {p : Nat} {x : Int32} (ha : a ∈ stl) (hp : p < 8) : oStI 20 (mk I L c t) (a + 6) (n2 p) x = some (mk (upI I (a + 6) p x) L c t) := oStI_mk (st_ka (j := 4) ha (by omega)) (by omega) hp
theorem st_L6 {p : Nat} (ha : a ∈ stl) (hp : p < 8) : oLdI 20 (mk I L c t) (a + 7) (n2 p) = some (I (a + 7) p) := oLdI_mk (st_ka (j := 5) ha (by omega)) (by omega) hp
theorem st_S6 {p : Nat} {x : Int32} (ha : a ∈ stl) (hp : p < 8) : oStI 20 (mk I L c t) (a + 7) (n2 p) x = some (mk (upI I (a + 7) p x) L c t) := oStI_mk (st_ka (j := 5) ha (by omega)) (by omega) hp
theorem st_L7 {p : Nat} (ha : a ∈ stl) (hp : p < 8) : oLdI 20 (mk I L c t) (a + 8) (n2 p) = some (I (a + 8) p) := oLdI_mk (st_ka (j := 6) ha (by omega)) (by omega) hp
theorem st_S7 {p : Nat} {x : Int32} (ha : a ∈ stl) (hp : p < 8) : oStI 20 (mk I L c t) (a + 8) (n2 p) x = some (mk (upI I (a + 8) p x) L c t) := oStI_mk (st_ka (j := 6) ha (by omega)) (by omega) hp
theorem st_L8 {p : Nat} (ha : a ∈ stl) (hp : p < 8) : oLdI 20 (mk I L c t) (a + 9) (n2 p) = some (I (a + 9) p) := oLdI_mk (st_ka (j := 7) ha (by omega)) (by omega) hp
theorem st_S8 {p : Nat} {x : Int32} (ha : a ∈ stl) (hp : p < 8) : oStI 20 (mk I L c t) (a + 9) (n2 p) x = some (mk (upI I (a + 9) p x) L c t) := oStI_mk (st_ka (j := 7) ha (by omega)) (by omega) hp
theorem st_L9 {p : Nat} (ha : a ∈ stl) (hp : p < 8) : oLdI 20 (mk I L c t) (a + 10) (n2 p) = some (I (a + 10) p) := oLdI_mk (st_ka (j := 8) ha (by omega)) (by omega) hp
theorem st_S9 {p : Nat} {x : Int32} (ha : a ∈ stl) (hp : p < 8) : oStI 20 (mk I L c t) (a + 10) (n2 p) x = some (mk (upI I (a + 10) p x) L c t) := oStI_mk (st_ka (j := 8) ha (by omega)) (by omega) hp
theorem st_q (ha : a ∈ stl) : ((qk (mk I L c t) a).1 = 5) = True := eq_true (by rw [st_k0 ha])
theorem st_I10 (ha : a ∈ stl) : oGetI (mk I L c t) 5 a 10 = some (I a 10) := oGetI_mk (st_k0 ha)
theorem st_U10 {x : Int32} (ha : a ∈ stl) : oPutI (mk I L c t) 5 a 10 x = some (mk (upI I a 10 x) L c t) := oPutI_mk (st_k0 ha)
theorem st_I11 (ha : a ∈ stl) : oGetI (mk I L c t) 5 a 11 = some (I a 11) := oGetI_mk (st_k0 ha)
theorem st_U11 {x : Int32} (ha : a ∈ stl) : oPutI (mk I L c t) 5 a 11 x = some (mk (upI I a 11 x) L c t) := oPutI_mk (st_k0 ha)
theorem st_I12 (ha : a ∈ stl) : oGetI (mk I L c t) 5 a 12 = some (I a 12) := oGetI_mk (st_k0 ha)
theorem st_U12 {x : Int32} (ha : a ∈ stl) : oPutI (mk I L c t) 5 a 12 x = some (mk (upI I a 12 x) L c t) := oPutI_mk (st_k0 ha)
end MST
/-- the two desks: what can be done on them -/
def dkl : List Nat := [2, 21]
theorem dkl_c : (dkl.all fun d => decide (1 ≤ d ∧ qnth K1 (d - 1) = some (0, 5) ∧ d + 1 ∈ stl ∧ qnth K1 (d + 11) = some (2, 4) ∧ qnth K1 (d + 16) = some (20, 8) ∧ qnth K1 (d + 17) = some (20, 85)) && (List.range 4).all (fun j => decide (qnth K1 (d + 12 + j) = some (20, 8))) && (List.range 4).all (fun j => qP1.contains (d + 12, j, d + 13 + j)) && qP1.contains (d, 0, d + 1) && qP1.contains (d, 1, d + 12) && qP1.contains (d, 2, d + 17) && qP1.contains (d, 3, d + 18)) = true := by decide +kernel
section MDK
variable {I : Nat → Nat → Int32} {L : Nat → Nat → Int64} {c t d : Nat}
theorem dk_c (hd : d ∈ dkl) : (1 ≤ d ∧ qnth K1 (d - 1) = some (0, 5) ∧ d + 1 ∈ stl ∧ qnth K1 (d + 11) = some (2, 4) ∧ qnth K1 (d + 16) = some (20, 8) ∧ qnth K1 (d + 17) = some (20, 85)) ∧ (∀ j, j < 4 → qnth K1 (d + 12 + j) = some (20, 8)) ∧ (∀ j, j < 4 → P1 (d + 12) j = d + 13 + j) ∧ P1 d 0 = d + 1 ∧ P1 d 1 = d + 12 ∧ P1 d 2 = d + 17 ∧ P1 d 3 = d + 18 := by
  have h := all_of dkl_c hd
  simp only [Bool.and_eq_true] at h
  obtain ⟨⟨⟨⟨⟨⟨h1, h2⟩, h3⟩, h4⟩, h5⟩, h6⟩, h7⟩ := h
  exact ⟨of_decide_eq_true h1, fun j hj => of_decide_eq_true (all_of h2 (List.mem_range.mpr hj)), fun j hj => P1_at (all_of h3 (List.mem_range.mpr hj)), P1_at h4, P1_at h5, P1_at h6, P1_at h7⟩
theorem dk_st (hd : d ∈ dkl) : d + 1 ∈ stl := (dk_c hd).1.2.2.1
theorem dk_k (hd : d ∈ dkl) : qk (mk I L c t) d = (0, 5) := mk_k (by have := (dk_c hd).1.1; omega) (dk_c hd).1.2.1
theorem dk_kl (hd : d ∈ dkl) : qk (mk I L c t) (d + 12) = (2, 4) := mk_k rfl (dk_c hd).1.2.2.2.1
theorem dk_kg (hd : d ∈ dkl) : qk (mk I L c t) (d + 17) = (20, 8) := mk_k rfl (dk_c hd).1.2.2.2.2.1
theorem dk_kd (hd : d ∈ dkl) : qk (mk I L c t) (d + 18) = (20, 85) := mk_k rfl (dk_c hd).1.2.2.2.2.2
theorem dk_ka {j : Nat} (hd : d ∈ dkl) (hj : j < 4) : qk (mk I L c t) (d + 13 + j) = (20, 8) := mk_k (show d + 13 + j = d + 12 + j + 1 by omega) ((dk_c hd).2.1 j hj)
theorem dk_q (hd : d ∈ dkl) : ((qk (mk I L c t) d).1 = 0) = True := eq_true (by rw [dk_k hd])
theorem lk_q (hd : d ∈ dkl) : ((qk (mk I L c t) (d + 12)).1 = 2) = True := eq_true (by rw [dk_kl hd])
theorem dk_P0 (hd : d ∈ dkl) : oGetP (mk I L c t) 0 d 0 = some (d + 1) := oGetP_mk (dk_k hd) (dk_c hd).2.2.2.1
theorem dk_P1 (hd : d ∈ dkl) : oGetP (mk I L c t) 0 d 1 = some (d + 12) := oGetP_mk (dk_k hd) (dk_c hd).2.2.2.2.1
theorem dk_P2 (hd : d ∈ dkl) : oGetP (mk I L c t) 0 d 2 = some (d + 17) := oGetP_mk (dk_k hd) (dk_c hd).2.2.2.2.2.1
theorem dk_P3 (hd : d ∈ dkl) : oGetP (mk I L c t) 0 d 3 = some (d + 18) := oGetP_mk (dk_k hd) (dk_c hd).2.2.2.2.2.2
theorem dk_I4 (hd : d ∈ dkl) : oGetI (mk I L c t) 0 d 4 = some (I d 4) := oGetI_mk (dk_k hd)
theorem dk_U4 {x : Int32} (hd : d ∈ dkl) : oPutI (mk I L c t) 0 d 4 x = some (mk (upI I d 4 x) L c t) := oPutI_mk (dk_k hd)
theorem dk_gL {p : Nat} (hd : d ∈ dkl) (hp : p < 8) : oLdI 20 (mk I L c t) (d + 17) (n2 p) = some (I (d + 17) p) := oLdI_mk (dk_kg hd) (by omega) hp
theorem dk_gS {p : Nat} {x : Int32} (hd : d ∈ dkl) (hp : p < 8) : oStI 20 (mk I L c t) (d + 17) (n2 p) x = some (mk (upI I (d + 17) p x) L c t) := oStI_mk (dk_kg hd) (by omega) hp
theorem dk_dL {p : Nat} (hd : d ∈ dkl) (hp : p < 85) : oLdI 20 (mk I L c t) (d + 18) (n2 p) = some (I (d + 18) p) := oLdI_mk (dk_kd hd) (by omega) hp
theorem dk_dS {p : Nat} {x : Int32} (hd : d ∈ dkl) (hp : p < 85) : oStI 20 (mk I L c t) (d + 18) (n2 p) x = some (mk (upI I (d + 18) p x) L c t) := oStI_mk (dk_kd hd) (by omega) hp
theorem lk_P0 (hd : d ∈ dkl) : oGetP (mk I L c t) 2 (d + 12) 0 = some (d + 13) := oGetP_mk (dk_kl hd) ((dk_c hd).2.2.1 0 (by omega))
theorem lk_L0 {p : Nat} (hd : d ∈ dkl) (hp : p < 8) : oLdI 20 (mk I L c t) (d + 13) (n2 p) = some (I (d + 13) p) := oLdI_mk (dk_ka (j := 0) hd (by omega)) (by omega) hp
theorem lk_S0 {p : Nat} {x : Int32} (hd : d ∈ dkl) (hp : p < 8) : oStI 20 (mk I L c t) (d + 13) (n2 p) x = some (mk (upI I (d + 13) p x) L c t) := oStI_mk (dk_ka (j := 0) hd (by omega)) (by omega) hp
theorem lk_P1 (hd : d ∈ dkl) : oGetP (mk I L c t) 2 (d + 12) 1 = some (d + 14) := oGetP_mk (dk_kl hd) ((dk_c hd).2.2.1 1 (by omega))
theorem lk_L1 {p : Nat} (hd : d ∈ dkl) (hp : p < 8) : oLdI 20 (mk I L c t) (d + 14) (n2 p) = some (I (d + 14) p) := oLdI_mk (dk_ka (j := 1) hd (by omega)) (by omega) hp
theorem lk_S1 {p : Nat} {x : Int32} (hd : d ∈ dkl) (hp : p < 8) : oStI 20 (mk I L c t) (d + 14) (n2 p) x = some (mk (upI I (d + 14) p x) L c t) := oStI_mk (dk_ka (j := 1) hd (by omega)) (by omega) hp
theorem lk_P2 (hd : d ∈ dkl) : oGetP (mk I L c t) 2 (d + 12) 2 = some (d + 15) := oGetP_mk (dk_kl hd) ((dk_c hd).2.2.1 2 (by omega))
theorem lk_L2 {p : Nat} (hd : d ∈ dkl) (hp : p < 8) : oLdI 20 (mk I L c t) (d + 15) (n2 p) = some (I (d + 15) p) := oLdI_mk (dk_ka (j := 2) hd (by omega)) (by omega) hp
theorem lk_S2 {p : Nat} {x : Int32} (hd : d ∈ dkl) (hp : p < 8) : oStI 20 (mk I L c t) (d + 15) (n2 p) x = some (mk (upI I (d + 15) p x) L c t) := oStI_mk (dk_ka (j := 2) hd (by omega)) (by omega) hp
theorem lk_P3 (hd : d ∈ dkl) : oGetP (mk I L c t) 2 (d + 12) 3 = some (d + 16) := oGetP_mk (dk_kl hd) ((dk_c hd).2.2.1 3 (by omega))
theorem lk_L3 {p : Nat} (hd : d ∈ dkl) (hp : p < 8) : oLdI 20 (mk I L c t) (d + 16) (n2 p) = some (I (d + 16) p) := oLdI_mk (dk_ka (j := 3) hd (by omega)) (by omega) hp
theorem lk_S3 {p : Nat} {x : Int32} (hd : d ∈ dkl) (hp : p < 8) : oStI 20 (mk I L c t) (d + 16) (n2 p) x = some (mk (upI I (d + 16) p x) L c t) := oStI_mk (dk_ka (j := 3) hd (by omega)) (by omega) hp
end MDK
def rul : List Nat := [202, 206]
theorem rul_c : (rul.all fun a => decide (1 ≤ a ∧ qnth K1 (a - 1) = some (4, 9)) && (List.range 3).all (fun j => decide (qnth K1 (a + j) = some (20, 40)) && qP1.contains (a, j, a + 1 + j))) = true := by decide +kernel
section MRU
variable {I : Nat → Nat → Int32} {L : Nat → Nat → Int64} {c t a : Nat}
theorem ru_k (ha : a ∈ rul) : qk (mk I L c t) a = (4, 9) := by
  have h := all_of rul_c ha
  simp only [Bool.and_eq_true, decide_eq_true_eq] at h
  exact mk_k (by omega) h.1.2
theorem ru_ck {j : Nat} (ha : a ∈ rul) (hj : j < 3) : qk (mk I L c t) (a + 1 + j) = (20, 40) := by
  have h := all_of rul_c ha
  simp only [Bool.and_eq_true] at h
  have h2 := all_of h.2 (List.mem_range.mpr hj)
  simp only [Bool.and_eq_true, decide_eq_true_eq] at h2
  exact mk_k (show a + 1 + j = a + j + 1 by omega) h2.1
theorem ru_cp {j : Nat} (ha : a ∈ rul) (hj : j < 3) : P1 a j = a + 1 + j := by
  have h := all_of rul_c ha
  simp only [Bool.and_eq_true] at h
  have h2 := all_of h.2 (List.mem_range.mpr hj)
  simp only [Bool.and_eq_true, decide_eq_true_eq] at h2
  exact P1_at h2.2
theorem ru_q (ha : a ∈ rul) : ((qk (mk I L c t) a).1 = 4) = True := eq_true (by rw [ru_k ha])
theorem ru_P0 (ha : a ∈ rul) : oGetP (mk I L c t) 4 a 0 = some (a + 1) := oGetP_mk (ru_k ha) (ru_cp ha (by omega))
theorem ru_L0 {p : Nat} (ha : a ∈ rul) (hp : p < 40) : oLdI 20 (mk I L c t) (a + 1) (n2 p) = some (I (a + 1) p) := oLdI_mk (ru_ck (j := 0) ha (by omega)) (by omega) hp
theorem ru_S0 {p : Nat} {x : Int32} (ha : a ∈ rul) (hp : p < 40) : oStI 20 (mk I L c t) (a + 1) (n2 p) x = some (mk (upI I (a + 1) p x) L c t) := oStI_mk (ru_ck (j := 0) ha (by omega)) (by omega) hp
theorem ru_P1 (ha : a ∈ rul) : oGetP (mk I L c t) 4 a 1 = some (a + 2) := oGetP_mk (ru_k ha) (ru_cp ha (by omega))
theorem ru_L1 {p : Nat} (ha : a ∈ rul) (hp : p < 40) : oLdI 20 (mk I L c t) (a + 2) (n2 p) = some (I (a + 2) p) := oLdI_mk (ru_ck (j := 1) ha (by omega)) (by omega) hp
theorem ru_S1 {p : Nat} {x : Int32} (ha : a ∈ rul) (hp : p < 40) : oStI 20 (mk I L c t) (a + 2) (n2 p) x = some (mk (upI I (a + 2) p x) L c t) := oStI_mk (ru_ck (j := 1) ha (by omega)) (by omega) hp
theorem ru_P2 (ha : a ∈ rul) : oGetP (mk I L c t) 4 a 2 = some (a + 3) := oGetP_mk (ru_k ha) (ru_cp ha (by omega))
theorem ru_L2 {p : Nat} (ha : a ∈ rul) (hp : p < 40) : oLdI 20 (mk I L c t) (a + 3) (n2 p) = some (I (a + 3) p) := oLdI_mk (ru_ck (j := 2) ha (by omega)) (by omega) hp
theorem ru_S2 {p : Nat} {x : Int32} (ha : a ∈ rul) (hp : p < 40) : oStI 20 (mk I L c t) (a + 3) (n2 p) x = some (mk (upI I (a + 3) p x) L c t) := oStI_mk (ru_ck (j := 2) ha (by omega)) (by omega) hp
theorem ru_I3 (ha : a ∈ rul) : oGetI (mk I L c t) 4 a 3 = some (I a 3) := oGetI_mk (ru_k ha)
theorem ru_U3 {x : Int32} (ha : a ∈ rul) : oPutI (mk I L c t) 4 a 3 x = some (mk (upI I a 3 x) L c t) := oPutI_mk (ru_k ha)
theorem ru_I4 (ha : a ∈ rul) : oGetI (mk I L c t) 4 a 4 = some (I a 4) := oGetI_mk (ru_k ha)
theorem ru_U4 {x : Int32} (ha : a ∈ rul) : oPutI (mk I L c t) 4 a 4 x = some (mk (upI I a 4 x) L c t) := oPutI_mk (ru_k ha)
theorem ru_I5 (ha : a ∈ rul) : oGetI (mk I L c t) 4 a 5 = some (I a 5) := oGetI_mk (ru_k ha)
theorem ru_U5 {x : Int32} (ha : a ∈ rul) : oPutI (mk I L c t) 4 a 5 x = some (mk (upI I a 5 x) L c t) := oPutI_mk (ru_k ha)
theorem ru_I6 (ha : a ∈ rul) : oGetI (mk I L c t) 4 a 6 = some (I a 6) := oGetI_mk (ru_k ha)
theorem ru_U6 {x : Int32} (ha : a ∈ rul) : oPutI (mk I L c t) 4 a 6 x = some (mk (upI I a 6 x) L c t) := oPutI_mk (ru_k ha)
theorem ru_I7 (ha : a ∈ rul) : oGetI (mk I L c t) 4 a 7 = some (I a 7) := oGetI_mk (ru_k ha)
theorem ru_U7 {x : Int32} (ha : a ∈ rul) : oPutI (mk I L c t) 4 a 7 x = some (mk (upI I a 7 x) L c t) := oPutI_mk (ru_k ha)
theorem ru_I8 (ha : a ∈ rul) : oGetI (mk I L c t) 4 a 8 = some (I a 8) := oGetI_mk (ru_k ha)
theorem ru_U8 {x : Int32} (ha : a ∈ rul) : oPutI (mk I L c t) 4 a 8 x = some (mk (upI I a 8 x) L c t) := oPutI_mk (ru_k ha)
end MRU
section MSG
variable {I : Nat → Nat → Int32} {L : Nat → Nat → Int64} {c t : Nat}
theorem kk_1 : qk (mk I L c t) 1 = (7, 10) := mk_k (b := 0) rfl (by decide +kernel)
theorem q_1 : ((qk (mk I L c t) 1).1 = 7) = True := eq_true (by rw [kk_1])
theorem g1_0 : oGetP (mk I L c t) 7 1 0 = some 2 := oGetP_mk kk_1 (P1_at (by decide +kernel))
theorem g1_1 : oGetP (mk I L c t) 7 1 1 = some 21 := oGetP_mk kk_1 (P1_at (by decide +kernel))
theorem g1_2 : oGetP (mk I L c t) 7 1 2 = some 3 := oGetP_mk kk_1 (P1_at (by decide +kernel))
theorem g1_3 : oGetP (mk I L c t) 7 1 3 = some 40 := oGetP_mk kk_1 (P1_at (by decide +kernel))
theorem g1_4 : oGetP (mk I L c t) 7 1 4 = some 163 := oGetP_mk kk_1 (P1_at (by decide +kernel))
theorem g1_5 : oGetP (mk I L c t) 7 1 5 = some 197 := oGetP_mk kk_1 (P1_at (by decide +kernel))
theorem g1_6 : oGetP (mk I L c t) 7 1 6 = some 198 := oGetP_mk kk_1 (P1_at (by decide +kernel))
theorem g1_7 : oGetP (mk I L c t) 7 1 7 = some 200 := oGetP_mk kk_1 (P1_at (by decide +kernel))
theorem g1_8 : oGetP (mk I L c t) 7 1 8 = some 202 := oGetP_mk kk_1 (P1_at (by decide +kernel))
theorem g1_9 : oGetP (mk I L c t) 7 1 9 = some 206 := oGetP_mk kk_1 (P1_at (by decide +kernel))
theorem kk_40 : qk (mk I L c t) 40 = (1, 3) := mk_k (b := 39) rfl (by decide +kernel)
theorem q_40 : ((qk (mk I L c t) 40).1 = 1) = True := eq_true (by rw [kk_40])
theorem g40_0 : oGetP (mk I L c t) 1 40 0 = some 41 := oGetP_mk kk_40 (P1_at (by decide +kernel))
theorem g40_1 : oGetI (mk I L c t) 1 40 1 = some (I 40 1) := oGetI_mk kk_40
theorem u40_1 {x : Int32} : oPutI (mk I L c t) 1 40 1 x = some (mk (upI I 40 1 x) L c t) := oPutI_mk kk_40
theorem g40_2 : oGetI (mk I L c t) 1 40 2 = some (I 40 2) := oGetI_mk kk_40
theorem u40_2 {x : Int32} : oPutI (mk I L c t) 1 40 2 x = some (mk (upI I 40 2 x) L c t) := oPutI_mk kk_40
theorem kk_198 : qk (mk I L c t) 198 = (6, 2) := mk_k (b := 197) rfl (by decide +kernel)
theorem q_198 : ((qk (mk I L c t) 198).1 = 6) = True := eq_true (by rw [kk_198])
theorem g198_0 : oGetP (mk I L c t) 6 198 0 = some 199 := oGetP_mk kk_198 (P1_at (by decide +kernel))
theorem g198_1 : oGetI (mk I L c t) 6 198 1 = some (I 198 1) := oGetI_mk kk_198
theorem u198_1 {x : Int32} : oPutI (mk I L c t) 6 198 1 x = some (mk (upI I 198 1 x) L c t) := oPutI_mk kk_198
theorem kk_200 : qk (mk I L c t) 200 = (3, 2) := mk_k (b := 199) rfl (by decide +kernel)
theorem q_200 : ((qk (mk I L c t) 200).1 = 3) = True := eq_true (by rw [kk_200])
theorem g200_0 : oGetP (mk I L c t) 3 200 0 = some 201 := oGetP_mk kk_200 (P1_at (by decide +kernel))
theorem g200_1 : oGetI (mk I L c t) 3 200 1 = some (I 200 1) := oGetI_mk kk_200
theorem u200_1 {x : Int32} : oPutI (mk I L c t) 3 200 1 x = some (mk (upI I 200 1 x) L c t) := oPutI_mk kk_200
theorem kk_210 : qk (mk I L c t) 210 = (8, 31) := mk_k (b := 209) rfl (by decide +kernel)
theorem q_210 : ((qk (mk I L c t) 210).1 = 8) = True := eq_true (by rw [kk_210])
theorem g210_0 : oGetI (mk I L c t) 8 210 0 = some (I 210 0) := oGetI_mk kk_210
theorem u210_0 {x : Int32} : oPutI (mk I L c t) 8 210 0 x = some (mk (upI I 210 0 x) L c t) := oPutI_mk kk_210
theorem g210_1 : oGetI (mk I L c t) 8 210 1 = some (I 210 1) := oGetI_mk kk_210
theorem u210_1 {x : Int32} : oPutI (mk I L c t) 8 210 1 x = some (mk (upI I 210 1 x) L c t) := oPutI_mk kk_210
theorem g210_2 : oGetP (mk I L c t) 8 210 2 = some 211 := oGetP_mk kk_210 (P1_at (by decide +kernel))
theorem g210_3 : oGetP (mk I L c t) 8 210 3 = some 212 := oGetP_mk kk_210 (P1_at (by decide +kernel))
theorem g210_4 : oGetI (mk I L c t) 8 210 4 = some (I 210 4) := oGetI_mk kk_210
theorem u210_4 {x : Int32} : oPutI (mk I L c t) 8 210 4 x = some (mk (upI I 210 4 x) L c t) := oPutI_mk kk_210
theorem g210_5 : oGetI (mk I L c t) 8 210 5 = some (I 210 5) := oGetI_mk kk_210
theorem u210_5 {x : Int32} : oPutI (mk I L c t) 8 210 5 x = some (mk (upI I 210 5 x) L c t) := oPutI_mk kk_210
theorem g210_6 : oGetI (mk I L c t) 8 210 6 = some (I 210 6) := oGetI_mk kk_210
theorem u210_6 {x : Int32} : oPutI (mk I L c t) 8 210 6 x = some (mk (upI I 210 6 x) L c t) := oPutI_mk kk_210
theorem g210_7 : oGetI (mk I L c t) 8 210 7 = some (I 210 7) := oGetI_mk kk_210
theorem u210_7 {x : Int32} : oPutI (mk I L c t) 8 210 7 x = some (mk (upI I 210 7 x) L c t) := oPutI_mk kk_210
theorem g210_8 : oGetP (mk I L c t) 8 210 8 = some 213 := oGetP_mk kk_210 (P1_at (by decide +kernel))
theorem g210_9 : oGetP (mk I L c t) 8 210 9 = some 214 := oGetP_mk kk_210 (P1_at (by decide +kernel))
theorem g210_10 : oGetI (mk I L c t) 8 210 10 = some (I 210 10) := oGetI_mk kk_210
theorem u210_10 {x : Int32} : oPutI (mk I L c t) 8 210 10 x = some (mk (upI I 210 10 x) L c t) := oPutI_mk kk_210
theorem g210_11 : oGetI (mk I L c t) 8 210 11 = some (I 210 11) := oGetI_mk kk_210
theorem u210_11 {x : Int32} : oPutI (mk I L c t) 8 210 11 x = some (mk (upI I 210 11 x) L c t) := oPutI_mk kk_210
theorem g210_12 : oGetP (mk I L c t) 8 210 12 = some 215 := oGetP_mk kk_210 (P1_at (by decide +kernel))
theorem g210_13 : oGetP (mk I L c t) 8 210 13 = some 216 := oGetP_mk kk_210 (P1_at (by decide +kernel))
theorem g210_14 : oGetP (mk I L c t) 8 210 14 = some 217 := oGetP_mk kk_210 (P1_at (by decide +kernel))
theorem g210_15 : oGetP (mk I L c t) 8 210 15 = some 218 := oGetP_mk kk_210 (P1_at (by decide +kernel))
theorem g210_16 : oGetI (mk I L c t) 8 210 16 = some (I 210 16) := oGetI_mk kk_210
theorem u210_16 {x : Int32} : oPutI (mk I L c t) 8 210 16 x = some (mk (upI I 210 16 x) L c t) := oPutI_mk kk_210
theorem g210_17 : oGetP (mk I L c t) 8 210 17 = some 219 := oGetP_mk kk_210 (P1_at (by decide +kernel))
theorem g210_18 : oGetI (mk I L c t) 8 210 18 = some (I 210 18) := oGetI_mk kk_210
theorem u210_18 {x : Int32} : oPutI (mk I L c t) 8 210 18 x = some (mk (upI I 210 18 x) L c t) := oPutI_mk kk_210
theorem g210_19 : oGetP (mk I L c t) 8 210 19 = some 220 := oGetP_mk kk_210 (P1_at (by decide +kernel))
theorem g210_20 : oGetP (mk I L c t) 8 210 20 = some 221 := oGetP_mk kk_210 (P1_at (by decide +kernel))
theorem g210_21 : oGetP (mk I L c t) 8 210 21 = some 222 := oGetP_mk kk_210 (P1_at (by decide +kernel))
theorem g210_22 : oGetP (mk I L c t) 8 210 22 = some 223 := oGetP_mk kk_210 (P1_at (by decide +kernel))
theorem g210_23 : oGetP (mk I L c t) 8 210 23 = some 224 := oGetP_mk kk_210 (P1_at (by decide +kernel))
theorem g210_24 : oGetI (mk I L c t) 8 210 24 = some (I 210 24) := oGetI_mk kk_210
theorem u210_24 {x : Int32} : oPutI (mk I L c t) 8 210 24 x = some (mk (upI I 210 24 x) L c t) := oPutI_mk kk_210
theorem g210_25 : oGetI (mk I L c t) 8 210 25 = some (I 210 25) := oGetI_mk kk_210
theorem u210_25 {x : Int32} : oPutI (mk I L c t) 8 210 25 x = some (mk (upI I 210 25 x) L c t) := oPutI_mk kk_210
theorem g210_26 : oGetP (mk I L c t) 8 210 26 = some 225 := oGetP_mk kk_210 (P1_at (by decide +kernel))
theorem g210_27 : oGetP (mk I L c t) 8 210 27 = some 226 := oGetP_mk kk_210 (P1_at (by decide +kernel))
theorem g210_28 : oGetI (mk I L c t) 8 210 28 = some (I 210 28) := oGetI_mk kk_210
theorem u210_28 {x : Int32} : oPutI (mk I L c t) 8 210 28 x = some (mk (upI I 210 28 x) L c t) := oPutI_mk kk_210
theorem g210_29 : oGetP (mk I L c t) 8 210 29 = some 227 := oGetP_mk kk_210 (P1_at (by decide +kernel))
theorem g210_30 : oGetP (mk I L c t) 8 210 30 = some 228 := oGetP_mk kk_210 (P1_at (by decide +kernel))
theorem kk_41 : qk (mk I L c t) 41 = (24, 11) := mk_k (b := 40) rfl (by decide +kernel)
theorem kk_163 : qk (mk I L c t) 163 = (24, 3) := mk_k (b := 162) rfl (by decide +kernel)
theorem kk_197 : qk (mk I L c t) 197 = (23, 3) := mk_k (b := 196) rfl (by decide +kernel)
theorem ld197 {p : Nat} (hp : p < 3) : oLdI 23 (mk I L c t) 197 (n2 p) = some (I 197 p) := oLdI_mk kk_197 (by omega) hp
theorem sd197 {p : Nat} {x : Int32} (hp : p < 3) : oStI 23 (mk I L c t) 197 (n2 p) x = some (mk (upI I 197 p x) L c t) := oStI_mk kk_197 (by omega) hp
theorem kk_199 : qk (mk I L c t) 199 = (22, 80) := mk_k (b := 198) rfl (by decide +kernel)
theorem ld199 {p : Nat} (hp : p < 80) : oLdI 22 (mk I L c t) 199 (n2 p) = some (I 199 p) := oLdI_mk kk_199 (by omega) hp
theorem sd199 {p : Nat} {x : Int32} (hp : p < 80) : oStI 22 (mk I L c t) 199 (n2 p) x = some (mk (upI I 199 p x) L c t) := oStI_mk kk_199 (by omega) hp
theorem kk_201 : qk (mk I L c t) 201 = (21, 13) := mk_k (b := 200) rfl (by decide +kernel)
theorem ld201 {p : Nat} (hp : p < 13) : oLdL (mk I L c t) 201 (n2 p) = some (L 201 p) := oLdL_mk kk_201 (by omega) hp
theorem sd201 {p : Nat} {x : Int64} (hp : p < 13) : oStL (mk I L c t) 201 (n2 p) x = some (mk I (upL L 201 p x) c t) := oStL_mk kk_201 (by omega) hp
theorem kk_211 : qk (mk I L c t) 211 = (21, 24) := mk_k (b := 210) rfl (by decide +kernel)
theorem ld211 {p : Nat} (hp : p < 24) : oLdL (mk I L c t) 211 (n2 p) = some (L 211 p) := oLdL_mk kk_211 (by omega) hp
theorem sd211 {p : Nat} {x : Int64} (hp : p < 24) : oStL (mk I L c t) 211 (n2 p) x = some (mk I (upL L 211 p x) c t) := oStL_mk kk_211 (by omega) hp
theorem kk_212 : qk (mk I L c t) 212 = (20, 80) := mk_k (b := 211) rfl (by decide +kernel)
theorem ld212 {p : Nat} (hp : p < 80) : oLdI 20 (mk I L c t) 212 (n2 p) = some (I 212 p) := oLdI_mk kk_212 (by omega) hp
theorem sd212 {p : Nat} {x : Int32} (hp : p < 80) : oStI 20 (mk I L c t) 212 (n2 p) x = some (mk (upI I 212 p x) L c t) := oStI_mk kk_212 (by omega) hp
theorem kk_213 : qk (mk I L c t) 213 = (20, 80) := mk_k (b := 212) rfl (by decide +kernel)
theorem ld213 {p : Nat} (hp : p < 80) : oLdI 20 (mk I L c t) 213 (n2 p) = some (I 213 p) := oLdI_mk kk_213 (by omega) hp
theorem sd213 {p : Nat} {x : Int32} (hp : p < 80) : oStI 20 (mk I L c t) 213 (n2 p) x = some (mk (upI I 213 p x) L c t) := oStI_mk kk_213 (by omega) hp
theorem kk_214 : qk (mk I L c t) 214 = (20, 80) := mk_k (b := 213) rfl (by decide +kernel)
theorem ld214 {p : Nat} (hp : p < 80) : oLdI 20 (mk I L c t) 214 (n2 p) = some (I 214 p) := oLdI_mk kk_214 (by omega) hp
theorem sd214 {p : Nat} {x : Int32} (hp : p < 80) : oStI 20 (mk I L c t) 214 (n2 p) x = some (mk (upI I 214 p x) L c t) := oStI_mk kk_214 (by omega) hp
theorem kk_215 : qk (mk I L c t) 215 = (20, 80) := mk_k (b := 214) rfl (by decide +kernel)
theorem ld215 {p : Nat} (hp : p < 80) : oLdI 20 (mk I L c t) 215 (n2 p) = some (I 215 p) := oLdI_mk kk_215 (by omega) hp
theorem sd215 {p : Nat} {x : Int32} (hp : p < 80) : oStI 20 (mk I L c t) 215 (n2 p) x = some (mk (upI I 215 p x) L c t) := oStI_mk kk_215 (by omega) hp
theorem kk_216 : qk (mk I L c t) 216 = (20, 7) := mk_k (b := 215) rfl (by decide +kernel)
theorem ld216 {p : Nat} (hp : p < 7) : oLdI 20 (mk I L c t) 216 (n2 p) = some (I 216 p) := oLdI_mk kk_216 (by omega) hp
theorem sd216 {p : Nat} {x : Int32} (hp : p < 7) : oStI 20 (mk I L c t) 216 (n2 p) x = some (mk (upI I 216 p x) L c t) := oStI_mk kk_216 (by omega) hp
theorem kk_217 : qk (mk I L c t) 217 = (20, 755) := mk_k (b := 216) rfl (by decide +kernel)
theorem ld217 {p : Nat} (hp : p < 755) : oLdI 20 (mk I L c t) 217 (n2 p) = some (I 217 p) := oLdI_mk kk_217 (by omega) hp
theorem sd217 {p : Nat} {x : Int32} (hp : p < 755) : oStI 20 (mk I L c t) 217 (n2 p) x = some (mk (upI I 217 p x) L c t) := oStI_mk kk_217 (by omega) hp
theorem kk_218 : qk (mk I L c t) 218 = (20, 755) := mk_k (b := 217) rfl (by decide +kernel)
theorem ld218 {p : Nat} (hp : p < 755) : oLdI 20 (mk I L c t) 218 (n2 p) = some (I 218 p) := oLdI_mk kk_218 (by omega) hp
theorem sd218 {p : Nat} {x : Int32} (hp : p < 755) : oStI 20 (mk I L c t) 218 (n2 p) x = some (mk (upI I 218 p x) L c t) := oStI_mk kk_218 (by omega) hp
theorem kk_219 : qk (mk I L c t) 219 = (20, 8) := mk_k (b := 218) rfl (by decide +kernel)
theorem ld219 {p : Nat} (hp : p < 8) : oLdI 20 (mk I L c t) 219 (n2 p) = some (I 219 p) := oLdI_mk kk_219 (by omega) hp
theorem sd219 {p : Nat} {x : Int32} (hp : p < 8) : oStI 20 (mk I L c t) 219 (n2 p) x = some (mk (upI I 219 p x) L c t) := oStI_mk kk_219 (by omega) hp
theorem kk_220 : qk (mk I L c t) 220 = (20, 8305) := mk_k (b := 219) rfl (by decide +kernel)
theorem ld220 {p : Nat} (hp : p < 8305) : oLdI 20 (mk I L c t) 220 (n2 p) = some (I 220 p) := oLdI_mk kk_220 (by omega) hp
theorem sd220 {p : Nat} {x : Int32} (hp : p < 8305) : oStI 20 (mk I L c t) 220 (n2 p) x = some (mk (upI I 220 p x) L c t) := oStI_mk kk_220 (by omega) hp
theorem kk_221 : qk (mk I L c t) 221 = (20, 80) := mk_k (b := 220) rfl (by decide +kernel)
theorem ld221 {p : Nat} (hp : p < 80) : oLdI 20 (mk I L c t) 221 (n2 p) = some (I 221 p) := oLdI_mk kk_221 (by omega) hp
theorem sd221 {p : Nat} {x : Int32} (hp : p < 80) : oStI 20 (mk I L c t) 221 (n2 p) x = some (mk (upI I 221 p x) L c t) := oStI_mk kk_221 (by omega) hp
theorem kk_222 : qk (mk I L c t) 222 = (20, 80) := mk_k (b := 221) rfl (by decide +kernel)
theorem ld222 {p : Nat} (hp : p < 80) : oLdI 20 (mk I L c t) 222 (n2 p) = some (I 222 p) := oLdI_mk kk_222 (by omega) hp
theorem sd222 {p : Nat} {x : Int32} (hp : p < 80) : oStI 20 (mk I L c t) 222 (n2 p) x = some (mk (upI I 222 p x) L c t) := oStI_mk kk_222 (by omega) hp
theorem kk_223 : qk (mk I L c t) 223 = (20, 80) := mk_k (b := 222) rfl (by decide +kernel)
theorem ld223 {p : Nat} (hp : p < 80) : oLdI 20 (mk I L c t) 223 (n2 p) = some (I 223 p) := oLdI_mk kk_223 (by omega) hp
theorem sd223 {p : Nat} {x : Int32} (hp : p < 80) : oStI 20 (mk I L c t) 223 (n2 p) x = some (mk (upI I 223 p x) L c t) := oStI_mk kk_223 (by omega) hp
theorem kk_224 : qk (mk I L c t) 224 = (20, 80) := mk_k (b := 223) rfl (by decide +kernel)
theorem ld224 {p : Nat} (hp : p < 80) : oLdI 20 (mk I L c t) 224 (n2 p) = some (I 224 p) := oLdI_mk kk_224 (by omega) hp
theorem sd224 {p : Nat} {x : Int32} (hp : p < 80) : oStI 20 (mk I L c t) 224 (n2 p) x = some (mk (upI I 224 p x) L c t) := oStI_mk kk_224 (by omega) hp
theorem kk_225 : qk (mk I L c t) 225 = (20, 8) := mk_k (b := 224) rfl (by decide +kernel)
theorem ld225 {p : Nat} (hp : p < 8) : oLdI 20 (mk I L c t) 225 (n2 p) = some (I 225 p) := oLdI_mk kk_225 (by omega) hp
theorem sd225 {p : Nat} {x : Int32} (hp : p < 8) : oStI 20 (mk I L c t) 225 (n2 p) x = some (mk (upI I 225 p x) L c t) := oStI_mk kk_225 (by omega) hp
theorem kk_226 : qk (mk I L c t) 226 = (20, 80) := mk_k (b := 225) rfl (by decide +kernel)
theorem ld226 {p : Nat} (hp : p < 80) : oLdI 20 (mk I L c t) 226 (n2 p) = some (I 226 p) := oLdI_mk kk_226 (by omega) hp
theorem sd226 {p : Nat} {x : Int32} (hp : p < 80) : oStI 20 (mk I L c t) 226 (n2 p) x = some (mk (upI I 226 p x) L c t) := oStI_mk kk_226 (by omega) hp
theorem kk_227 : qk (mk I L c t) 227 = (23, 3) := mk_k (b := 226) rfl (by decide +kernel)
theorem ld227 {p : Nat} (hp : p < 3) : oLdI 23 (mk I L c t) 227 (n2 p) = some (I 227 p) := oLdI_mk kk_227 (by omega) hp
theorem sd227 {p : Nat} {x : Int32} (hp : p < 3) : oStI 23 (mk I L c t) 227 (n2 p) x = some (mk (upI I 227 p x) L c t) := oStI_mk kk_227 (by omega) hp
theorem kk_228 : qk (mk I L c t) 228 = (20, 2265) := mk_k (b := 227) rfl (by decide +kernel)
theorem ld228 {p : Nat} (hp : p < 2265) : oLdI 20 (mk I L c t) 228 (n2 p) = some (I 228 p) := oLdI_mk kk_228 (by omega) hp
theorem sd228 {p : Nat} {x : Int32} (hp : p < 2265) : oStI 20 (mk I L c t) 228 (n2 p) x = some (mk (upI I 228 p x) L c t) := oStI_mk kk_228 (by omega) hp
theorem kk_229 : qk (mk I L c t) 229 = (21, 1) := mk_k (b := 228) rfl (by decide +kernel)
theorem ld229 {p : Nat} (hp : p < 1) : oLdL (mk I L c t) 229 (n2 p) = some (L 229 p) := oLdL_mk kk_229 (by omega) hp
theorem sd229 {p : Nat} {x : Int64} (hp : p < 1) : oStL (mk I L c t) 229 (n2 p) x = some (mk I (upL L 229 p x) c t) := oStL_mk kk_229 (by omega) hp
theorem ln201 : oLen (mk I L c t) 201 = some (n2 13) := oLen_mk kk_201 (by omega)
theorem sl_41 : ((List.range 11).all fun k => qP1.contains (41, k, 42 + 11 * k)) = true := by decide +kernel
theorem ld41 {p : Nat} (hp : p < 11) : oLdP (mk I L c t) 41 (n2 p) = some (42 + 11 * p) := oLdP_mk kk_41 (by omega) hp (P1_at (all_of sl_41 (List.mem_range.mpr hp)))
theorem sl_163 : ((List.range 3).all fun k => qP1.contains (163, k, 164 + 11 * k)) = true := by decide +kernel
theorem ld163 {p : Nat} (hp : p < 3) : oLdP (mk I L c t) 163 (n2 p) = some (164 + 11 * p) := oLdP_mk kk_163 (by omega) hp (P1_at (all_of sl_163 (List.mem_range.mpr hp)))
/-- the reference's two rows of numbers: now, then -/
theorem rw_k {r : Nat} (hr : r = 217 ∨ r = 218) : qk (mk I L c t) r = (20, 755) := by rcases hr with rfl | rfl; exact kk_217; exact kk_218
theorem rw_L {r p : Nat} (hr : r = 217 ∨ r = 218) (hp : p < 755) : oLdI 20 (mk I L c t) r (n2 p) = some (I r p) := oLdI_mk (rw_k hr) (by omega) hp
theorem rw_S {r p : Nat} {x : Int32} (hr : r = 217 ∨ r = 218) (hp : p < 755) : oStI 20 (mk I L c t) r (n2 p) x = some (mk (upI I r p x) L c t) := oStI_mk (rw_k hr) (by omega) hp
end MSG
theorem tab_0 : ∀ k, k < 7 → oTab 1 0 (n2 k) = some (n2 ([127, 63, 7, 43, 3, 11, 1].getD k 0)) := by decide +kernel
theorem tab_1 : ∀ k, k < 7 → oTab 1 1 (n2 k) = some (n2 ([1, 3, 7, 11, 31, 43, 127].getD k 0)) := by decide +kernel
theorem tab_2 : ∀ k, k < 49 → oTab 1 2 (n2 k) = some (n2 ([0, 1, 2, 3, 4, 5, 6, 1, 1, 2, 3, 4, 5, 6, 2, 2, 2, 4, 4, 6, 6, 3, 3, 4, 3, 4, 5, 6, 4, 4, 4, 4, 4, 6, 6, 5, 5, 6, 5, 6, 5, 6, 6, 6, 6, 6, 6, 6, 6].getD k 0)) := by decide +kernel
theorem tab_3 : ∀ k, k < 7 → oTab 1 3 (n2 k) = some (n2 ([127, 63, 7, 43, 3, 11, 1].getD k 0)) := by decide +kernel
theorem tab_4 : ∀ k, k < 7 → oTab 1 4 (n2 k) = some (n2 ([1, 3, 7, 11, 31, 43, 127].getD k 0)) := by decide +kernel
/-! loops -/
theorem lp_r {α : Type} (F : Nat → Nat → α → Option qR) (N : Nat) (Inv : Nat → α → Prop) (Q : Option qR → Prop) (hs : ∀ n k a, k < N → Inv k a → Q (F (n + 1) k a) ∨ ∃ a', F (n + 1) k a = F n (k + 1) a' ∧ Inv (k + 1) a') (he : ∀ n a, Inv N a → Q (F (n + 1) N a)) : ∀ d k n a, k + d = N → d < n → Inv k a → Q (F n k a) := by
  intro d
  induction d with
  | zero =>
    intro k n a hk hn hi
    obtain ⟨n, rfl⟩ : ∃ n', n = n' + 1 := ⟨n - 1, by omega⟩
    obtain rfl : k = N := by omega
    exact he n a hi
  | succ d ih =>
    intro k n a hk hn hi
    obtain ⟨n, rfl⟩ : ∃ n', n = n' + 1 := ⟨n - 1, by omega⟩
    rcases hs n k a (by omega) hi with h | ⟨a', h1, h2⟩
    · exact h
    · rw [h1]
      exact ih (k + 1) n a' (by omega) (by omega) h2
/-- a loop over 0 .. N - 1, from its beginning -/
theorem lp_r0 {α : Type} (F : Nat → Nat → α → Option qR) (N : Nat) (hN : N < 10000) (Inv : Nat → α → Prop) (Q : Option qR → Prop) (a0 : α) (h0 : Inv 0 a0) (hs : ∀ n k a, k < N → Inv k a → Q (F (n + 1) k a) ∨ ∃ a', F (n + 1) k a = F n (k + 1) a' ∧ Inv (k + 1) a') (he : ∀ n a, Inv N a → Q (F (n + 1) N a)) : Q (F qfu 0 a0) :=
  lp_r F N Inv Q hs he N 0 qfu a0 (by omega) (by rw [qfu_eq]; exact hN) h0
/-- a loop with a sum -/
theorem lp_f {α : Type} (F : Nat → Nat → α → Option qR) (N : Nat) (f : α → Nat → α) (fin : α → Option qR) (hs : ∀ n k a, k < N → F (n + 1) k a = F n (k + 1) (f a k)) (he : ∀ n a, F (n + 1) N a = fin a) : ∀ d k n a, k + d = N → d < n → F n k a = fin ((List.range' k d).foldl f a) := by
  intro d
  induction d with
  | zero =>
    intro k n a hk hn
    obtain ⟨n, rfl⟩ : ∃ n', n = n' + 1 := ⟨n - 1, by omega⟩
    obtain rfl : k = N := by omega
    exact he n a
  | succ d ih =>
    intro k n a hk hn
    obtain ⟨n, rfl⟩ : ∃ n', n = n' + 1 := ⟨n - 1, by omega⟩
    rw [hs n k a (by omega), ih (k + 1) n (f a k) (by omega) (by omega)]
    rfl
theorem lp_f0 {α : Type} (F : Nat → Nat → α → Option qR) (N : Nat) (hN : N < 10000) (f : α → Nat → α) (fin : α → Option qR) (a0 : α) (hs : ∀ n k a, k < N → F (n + 1) k a = F n (k + 1) (f a k)) (he : ∀ n a, F (n + 1) N a = fin a) : F qfu 0 a0 = fin ((List.range N).foldl f a0) := by
  rw [lp_f F N f fin hs he N 0 qfu a0 (by omega) (by rw [qfu_eq]; exact hN), List.range_eq_range']
/-- a loop that ends early -/
theorem lp_x {α : Type} (F : Nat → Nat → Option qR) (N : Nat) (p : Nat → Bool) (ex : Nat → Option qR) (fin : Option qR) (hs : ∀ n k, k < N → F (n + 1) k = if p k = true then ex k else F n (k + 1)) (he : ∀ n, F (n + 1) N = fin) : ∀ d k n, k + d = N → d < n → F n k = match (List.range' k d).find? p with
    | some k => ex k
    | none => fin := by
  intro d
  induction d with
  | zero =>
    intro k n hk hn
    obtain ⟨n, rfl⟩ : ∃ n', n = n' + 1 := ⟨n - 1, by omega⟩
    obtain rfl : k = N := by omega
    exact he n
  | succ d ih =>
    intro k n hk hn
    obtain ⟨n, rfl⟩ : ∃ n', n = n' + 1 := ⟨n - 1, by omega⟩
    rw [hs n k (by omega), List.range'_succ, List.find?_cons]
    cases hp : p k with
    | true => rfl
    | false => exact ih (k + 1) n (by omega) (by omega)
theorem lp_x0 {α : Type} (F : Nat → Nat → Option qR) (N : Nat) (hN : N < 10000) (p : Nat → Bool) (ex : Nat → Option qR) (fin : Option qR) (hs : ∀ n k, k < N → F (n + 1) k = if p k = true then ex k else F n (k + 1)) (he : ∀ n, F (n + 1) N = fin) : F qfu 0 = match (List.range N).find? p with
    | some k => ex k
    | none => fin := by
  rw [lp_x (α := α) F N p ex fin hs he N 0 qfu (by omega) (by rw [qfu_eq]; exact hN), List.range_eq_range']

/-! PURE SIDE, THE REFERENCE: sets of places as two longs; owners as digits of a long -/
def MkW (x : Int64) (b : Nat) (V : Nat → Bool) : Prop := ∀ j, j < 64 → x.toBitVec.getLsbD j = V (b + j)
theorem sm64 : ∀ p, p < 64 → (((n2 p).toInt64 &&& 63).toBitVec.smod 64).toNat = p := by decide +kernel
theorem shl64 (x : Int64) {p : Nat} (hp : p < 64) : (x <<< ((n2 p).toInt64 &&& 63)).toBitVec = x.toBitVec <<< p := by
  rw [Int64.toBitVec_shiftLeft, BitVec.shiftLeft_eq']
  rw [sm64 p hp]
theorem shr64 (x : Int64) {p : Nat} (hp : p < 64) : (x >>> ((n2 p).toInt64 &&& 63)).toBitVec = x.toBitVec.sshiftRight p := by
  rw [Int64.toBitVec_shiftRight, BitVec.sshiftRight_eq']
  rw [sm64 p hp]
theorem mk_0 (b : Nat) : MkW 0 b fun _ => false := fun j hj => by
  show (0#64).getLsbD j = false
  exact BitVec.getLsbD_zero
theorem mk_or {x : Int64} {b p : Nat} {V : Nat → Bool} (h : MkW x b V) (hp : p < 64) : MkW (x ||| ((1 : Int64) <<< ((n2 p).toInt64 &&& 63))) b fun q => V q || decide (q = b + p) := fun j hj => by
  rw [Int64.toBitVec_or, shl64 _ hp, BitVec.getLsbD_or, h j hj, BitVec.getLsbD_shiftLeft]
  congr 1
  have h1 : (1 : Int64).toBitVec = 1#64 := rfl
  rw [h1, BitVec.getLsbD_one]
  by_cases e : j = p
  · subst e
    simp [hj]
  · by_cases e2 : j < p
    · simp [hj, e2, show ¬ b + j = b + p by omega, e]
    · simp [hj, e2, show ¬ b + j = b + p by omega]
      omega
theorem mk_or0 {x : Int64} {b : Nat} {V : Nat → Bool} (h : MkW x b V) : MkW (x ||| 0) b V := by
  have : x ||| 0 = x := by
    apply Int64.toBitVec_inj.1
    rw [Int64.toBitVec_or]
    show x.toBitVec ||| 0#64 = _
    rw [BitVec.or_zero]
  rw [this]
  exact h
theorem lg_eq (x y : Int64) : (lg_cmp x y = 0) = (x = y) := by
  apply propext
  unfold lg_cmp
  by_cases e1 : x > y
  · rw [if_pos e1]
    refine ⟨fun z => absurd z (by decide), fun z => ?_⟩
    subst z
    exact absurd e1 Int64.lt_irrefl
  · rw [if_neg e1]
    by_cases e2 : x = y
    · rw [if_pos e2]
      exact ⟨fun _ => e2, fun _ => rfl⟩
    · rw [if_neg e2]
      exact ⟨fun z => absurd z (by decide), fun z => absurd z e2⟩
theorem mk_t {x : Int64} {b p : Nat} {V : Nat → Bool} (h : MkW x b V) (hp : p < 64) : (lg_cmp ((x >>> ((n2 p).toInt64 &&& 63)) &&& (1 : Int64)) (1 : Int64) = 0) = (V (b + p) = true) := by
  rw [lg_eq]
  have h1 : (1 : Int64).toBitVec = 1#64 := rfl
  have hb : ((x >>> ((n2 p).toInt64 &&& 63)) &&& (1 : Int64)).toBitVec.getLsbD 0 = V (b + p) := by
    rw [Int64.toBitVec_and, shr64 _ hp, BitVec.getLsbD_and, BitVec.getLsbD_sshiftRight, h1, BitVec.getLsbD_one, ← h p hp]
    simp [hp]
  apply propext
  constructor
  · intro z
    rw [z] at hb
    rw [← hb]
    rfl
  · intro z
    apply Int64.toBitVec_inj.1
    apply BitVec.eq_of_getLsbD_eq
    intro i hi
    by_cases e : i = 0
    · subst e
      rw [hb, z]
      rfl
    · rw [Int64.toBitVec_and, BitVec.getLsbD_and, h1, BitVec.getLsbD_one]
      simp [e]
/-- owners as digits -/
def nmL : List Nat → Nat
  | [] => 0
  | o :: l => o + 16 * nmL l
theorem nmL_lt : ∀ (l : List Nat), (∀ o ∈ l, o < 16) → nmL l < 2 ^ (4 * l.length)
  | [], _ => by decide
  | o :: l, h => by
    have h1 := nmL_lt l fun q hq => h q (List.mem_cons_of_mem o hq)
    have h2 := h o (List.mem_cons_self ..)
    rw [nmL, List.length_cons, show 4 * (l.length + 1) = 4 * l.length + 4 by omega, Nat.pow_add]
    omega
theorem nmL_app : ∀ (l : List Nat) (o : Nat), nmL (l ++ [o]) = nmL l + o * 2 ^ (4 * l.length)
  | [], o => by simp [nmL]
  | q :: l, o => by
    rw [List.cons_append, nmL, nmL_app l o, nmL, List.length_cons, show 4 * (l.length + 1) = 4 * l.length + 4 by omega, Nat.pow_add, Nat.mul_add, show 16 * (o * 2 ^ (4 * l.length)) = o * (2 ^ (4 * l.length) * 2 ^ 4) by rw [Nat.mul_comm, Nat.mul_assoc]]
    omega
theorem nmL_get : ∀ (l : List Nat) (i : Nat), (∀ o ∈ l, o < 16) → nmL l / 2 ^ (4 * i) % 16 = l.getD i 0
  | [], i, _ => by simp [nmL]
  | o :: l, 0, h => by
    have h2 := h o (List.mem_cons_self ..)
    rw [nmL]
    simp
    omega
  | o :: l, i + 1, h => by
    have h2 := h o (List.mem_cons_self ..)
    have ih := nmL_get l i fun q hq => h q (List.mem_cons_of_mem o hq)
    rw [nmL, show 4 * (i + 1) = 4 + 4 * i by omega, Nat.pow_add, ← Nat.div_div_eq_div_mul, show (o + 16 * nmL l) / 2 ^ 4 = nmL l by omega, ih]
    simp
theorem i64_15 : ∀ v, v < 16 → (Int64.ofNat v).toInt32 = n2 v := by decide +kernel
theorem i64_8 : ∀ v, v < 8 → (n2 v).toInt64 = Int64.ofNat v := by decide +kernel
theorem i64_bv (k : Nat) : (Int64.ofNat k).toBitVec = BitVec.ofNat 64 k := rfl
theorem dig_get {l : List Nat} {i : Nat} (hl : l.length ≤ 8) (hi : i < 8) (h : ∀ o ∈ l, o < 16) : (((Int64.ofNat (nmL l)) >>> ((n2 4 * n2 i).toInt64 &&& 63)) &&& (15 : Int64)).toInt32 = n2 (l.getD i 0) := by
  have h1 := nmL_lt l h
  have h2 : nmL l < 2 ^ 32 := Nat.lt_of_lt_of_le h1 (Nat.pow_le_pow_right (by omega) (by omega))
  have hv : l.getD i 0 < 16 := by
    rw [← nmL_get l i h]
    omega
  rw [n2_mul, ← i64_15 _ hv]
  congr 1
  apply Int64.toBitVec_inj.1
  have h15 : (15 : Int64).toBitVec = BitVec.ofNat 64 15 := rfl
  rw [Int64.toBitVec_and, shr64 _ (by omega), h15, i64_bv, i64_bv]
  have hm : (BitVec.ofNat 64 (nmL l)).msb = false := by
    rw [BitVec.msb_eq_decide, BitVec.toNat_ofNat, Nat.mod_eq_of_lt (by omega)]
    simp
    omega
  rw [BitVec.sshiftRight_eq_of_msb_false hm]
  apply BitVec.eq_of_toNat_eq
  rw [BitVec.toNat_and, BitVec.toNat_ushiftRight, BitVec.toNat_ofNat, BitVec.toNat_ofNat, BitVec.toNat_ofNat, Nat.mod_eq_of_lt (show nmL l < 2 ^ 64 by omega), Nat.mod_eq_of_lt (show 15 < 2 ^ 64 by omega), Nat.mod_eq_of_lt (show l.getD i 0 < 2 ^ 64 by omega), Nat.shiftRight_eq_div_pow, show (15 : Nat) = 2 ^ 4 - 1 by omega, Nat.and_two_pow_sub_one_eq_mod, ← nmL_get l i h]
theorem dig_put {l : List Nat} {o : Nat} (hl : l.length < 8) (ho : o < 8) (h : ∀ o ∈ l, o < 16) : Int64.ofNat (nmL l) ||| ((n2 o).toInt64 <<< ((n2 4 * n2 l.length).toInt64 &&& 63)) = Int64.ofNat (nmL (l ++ [o])) := by
  have h1 := nmL_lt l h
  have h2 : nmL l < 2 ^ 32 := Nat.lt_of_lt_of_le h1 (Nat.pow_le_pow_right (by omega) (by omega))
  rw [n2_mul, i64_8 o ho, nmL_app]
  apply Int64.toBitVec_inj.1
  rw [Int64.toBitVec_or, shl64 _ (by omega), i64_bv, i64_bv, i64_bv]
  have h3 : o * 2 ^ (4 * l.length) < 2 ^ 32 := by
    have : 2 ^ (4 * l.length) ≤ 2 ^ 28 := Nat.pow_le_pow_right (by omega) (by omega)
    calc o * 2 ^ (4 * l.length) ≤ 7 * 2 ^ 28 := Nat.mul_le_mul (by omega) this
      _ < 2 ^ 32 := by decide
  apply BitVec.eq_of_toNat_eq
  rw [BitVec.toNat_or, BitVec.toNat_shiftLeft, BitVec.toNat_ofNat, BitVec.toNat_ofNat, BitVec.toNat_ofNat, Nat.mod_eq_of_lt (show nmL l < 2 ^ 64 by omega), Nat.mod_eq_of_lt (show o < 2 ^ 64 by omega), Nat.shiftLeft_eq, Nat.mod_eq_of_lt (show o * 2 ^ (4 * l.length) < 2 ^ 64 by omega), Nat.mod_eq_of_lt (show nmL l + o * 2 ^ (4 * l.length) < 2 ^ 64 by omega), Nat.or_comm, ← Nat.shiftLeft_eq, ← Nat.shiftLeft_add_eq_or_of_lt h1, Nat.add_comm]

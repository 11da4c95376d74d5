/-! PURE SIDE, THE STATE: what the rows of both sides mean -/
/-- rows 0 .. 84: the modes that owners hold at a place; 85 stand, 86 age, 87 work, 88 falls, 89 at, 90 want, 91 turn, 92 goal, 93 mode; 94: turns, began, bulk -/
abbrev St : Type := Nat → Nat → Nat
def su (s : St) (k j v : Nat) : St := fun a b => if a = k ∧ b = j then v else s a b
theorem su_at (s : St) (k j v a b : Nat) : su s k j v a b = if a = k ∧ b = j then v else s a b := rfl
def tgL : List Nat := [127, 63, 7, 43, 3, 11, 1]
def sgL : List Nat := [1, 3, 7, 11, 31, 43, 127]
def boL : List Nat := [0, 1, 2, 3, 4, 5, 6, 1, 1, 2, 3, 4, 5, 6, 2, 2, 2, 4, 4, 6, 6, 3, 3, 4, 3, 4, 5, 6, 4, 4, 4, 4, 4, 6, 6, 5, 5, 6, 5, 6, 5, 6, 6, 6, 6, 6, 6, 6, 6]
def tog (m k : Nat) : Bool := decide ((tgL.getD m 0 >>> k) &&& 1 = 1)
def stg (m k : Nat) : Bool := decide ((sgL.getD m 0 >>> k) &&& 1 = 1)
def both (a b : Nat) : Nat := boL.getD (7 * a + b) 0
theorem tog_n : ∀ m, m < 7 → ∀ k, k < 7 → (tgL.getD m 0 >>> k) &&& 1 = bn (tog m k) := by decide +kernel
theorem stg_n : ∀ m, m < 7 → ∀ k, k < 7 → (sgL.getD m 0 >>> k) &&& 1 = bn (stg m k) := by decide +kernel
theorem tgL_lt : ∀ m, m < 7 → tgL.getD m 0 < 128 := by decide +kernel
theorem sgL_lt : ∀ m, m < 7 → sgL.getD m 0 < 128 := by decide +kernel
theorem both_le7 : ∀ a, a < 7 → ∀ b, b < 7 → both a b ≤ 6 := by decide +kernel
theorem both_le {a b : Nat} (ha : a ≤ 6) (hb : b ≤ 6) : both a b ≤ 6 := both_le7 a (by omega) b (by omega)
theorem both_comm7 : ∀ a, a < 7 → ∀ b, b < 7 → both a b = both b a := by decide +kernel
theorem both_comm {a b : Nat} (ha : a ≤ 6) (hb : b ≤ 6) : both a b = both b a := both_comm7 a (by omega) b (by omega)
theorem tb0 {m : Nat} (hm : m ≤ 6) : oTab 1 0 (n2 m) = some (n2 (tgL.getD m 0)) := tab_0 m (by omega)
theorem tb1 {m : Nat} (hm : m ≤ 6) : oTab 1 1 (n2 m) = some (n2 (sgL.getD m 0)) := tab_1 m (by omega)
theorem tb2 {a b : Nat} (ha : a ≤ 6) (hb : b ≤ 6) : oTab 1 2 (n2 (7 * a + b)) = some (n2 (both a b)) := tab_2 (7 * a + b) (by omega)
theorem tb3 {m : Nat} (hm : m ≤ 6) : oTab 1 3 (n2 m) = some (n2 (tgL.getD m 0)) := tab_3 m (by omega)
theorem tb4 {m : Nat} (hm : m ≤ 6) : oTab 1 4 (n2 m) = some (n2 (sgL.getD m 0)) := tab_4 m (by omega)
theorem tb_tog {m k : Nat} (hm : m ≤ 6) (hk : k ≤ 6) : qush (n2 (tgL.getD m 0)) (n2 k) &&& n2 1 = n2 (bn (tog m k)) := by
  have := tgL_lt m (by omega)
  rw [qush_n2 (by omega) (by omega), n2_and, tog_n m (by omega) k (by omega)]
theorem tb_stg {m k : Nat} (hm : m ≤ 6) (hk : k ≤ 6) : qush (n2 (sgL.getD m 0)) (n2 k) &&& n2 1 = n2 (bn (stg m k)) := by
  have := sgL_lt m (by omega)
  rw [qush_n2 (by omega) (by omega), n2_and, stg_n m (by omega) k (by omega)]
theorem tb_togs {m k : Nat} (hm : m ≤ 6) (hk : k ≤ 6) : (n2 (tgL.getD m 0) >>> n2 k) &&& n2 1 = n2 (bn (tog m k)) := by
  have := tgL_lt m (by omega)
  rw [n2_shr (by omega) (by omega), n2_and, tog_n m (by omega) k (by omega)]
theorem tb_stgs {m k : Nat} (hm : m ≤ 6) (hk : k ≤ 6) : (n2 (sgL.getD m 0) >>> n2 k) &&& n2 1 = n2 (bn (stg m k)) := by
  have := sgL_lt m (by omega)
  rw [n2_shr (by omega) (by omega), n2_and, stg_n m (by omega) k (by omega)]
/-! places -/
def lev (p : Nat) : Nat := if p < 21 then if p < 5 then if p < 1 then 0 else 1 else 2 else 3
def upn : Nat → Nat → Nat
  | 0, p => p
  | n + 1, p => upn n ((p - 1) / 4)
def up (p l : Nat) : Nat := upn (lev p - l) p
def par (p : Nat) : Nat := (p - 1) / 4
def blw (q p : Nat) : Bool := (List.range (lev q)).any fun l => decide (up q l = p)
def stepm (g l m : Nat) : Nat := if l = lev g then m else if m = 1 ∨ m = 3 then 1 else 2
theorem lev_le (p : Nat) : lev p ≤ 3 := by unfold lev; split <;> (try split) <;> (try split) <;> omega
theorem up_lt85 : ∀ p, p < 85 → ∀ l, l < 4 → up p l < 85 := by decide +kernel
theorem up_lt {p : Nat} (hp : p < 85) (l : Nat) : up p l < 85 := by
  by_cases h : l < 4
  · exact up_lt85 p hp l h
  · have := lev_le p
    unfold up
    rw [show lev p - l = 0 by omega]
    exact hp
theorem stepm_le {g l m : Nat} (hm : m ≤ 6) : stepm g l m ≤ 6 := by unfold stepm; split <;> (try split) <;> omega
/-! bits of eight owners -/
def bits8 (P : Nat → Bool) : Nat := (List.range 8).foldl (fun b j => if P j = true then b ||| (1 <<< j) else b) 0
/-! who is ahead -/
def chg (s : St) (o : Nat) : Bool := decide (s 89 o ≠ 85) && decide (s (s 89 o) o ≠ 0)
def ahd (s : St) (a b : Nat) : Bool := if chg s a = chg s b then decide (s 91 a < s 91 b) else chg s a
def posn (s : St) (o : Nat) : Nat := (List.range 8).foldl (fun n j => n + bn (decide (j ≠ o) && decide (s 89 j = s 89 o) && ahd s j o)) 0
def fiq (s : St) (p : Nat) : Option Nat := (List.range 8).foldl (fun f j => if s 89 j = p then (match f with
  | none => some j
  | some i => if ahd s j i = true then some j else some i) else f) none
def fitb (s : St) (o p m : Nat) : Bool := (List.range 8).all fun j => decide (j = o) || tog m (s p j)
def opn (s : St) (o p m : Nat) : Bool := (List.range 8).all fun j => !(decide (s 89 j = p) && (decide (s p o = 0) || decide (s p j ≠ 0))) && (decide (j = o) || tog m (s p j))
def hol (s : St) (o m : Nat) : Nat := (List.range 85).foldl (fun n p => n + bn (decide (s p o ≠ 0) && (decide (m = 0) || decide (s p o = m)))) 0
def bel (p : Nat) : List Nat := (List.range 85).filter fun q => blw q p
def hbel (s : St) (o p : Nat) : Nat := (bel p).foldl (fun n q => n + bn (decide (s q o ≠ 0))) 0
def gmode (s : St) (o p : Nat) : Nat := if (bel p).any (fun q => !(decide (s q o = 0) || decide (s q o = 1) || decide (s q o = 3))) = true then 6 else both (s p o) 3
def reqs (s : St) (p : Nat) : Nat := (List.range 8).foldl (fun n j => n + bn (decide (s 89 j = p))) 0
def wfr (s : St) (i j : Nat) : Bool := decide (s 85 i = 2) && decide (j ≠ i) && (!(tog (s 90 i) (s (s 89 i) j)) || decide (s 89 j = s 89 i) && ahd s j i)
/-- bounds of all numbers -/
def Bd (s : St) : Prop := (∀ p o, p < 85 → o < 8 → s p o ≤ 6) ∧ (∀ o, o < 8 → s 85 o ≤ 2 ∧ s 87 o ≤ 99 ∧ s 88 o ≤ 99 ∧ s 89 o ≤ 85 ∧ s 90 o ≤ 6 ∧ s 91 o ≤ s 94 0 ∧ s 92 o ≤ 84 ∧ s 93 o ≤ 6 ∧ (s 85 o = 2 ↔ s 89 o < 85)) ∧ s 94 0 < 1000000000 ∧ s 94 1 < 1000000000 ∧ 2 ≤ s 94 2 ∧ s 94 2 ≤ 5
theorem Bd.md {s : St} (h : Bd s) {p o : Nat} (hp : p < 85) (ho : o < 8) : s p o ≤ 6 := h.1 p o hp ho
theorem Bd.ow {s : St} (h : Bd s) {o : Nat} (ho : o < 8) : s 85 o ≤ 2 ∧ s 87 o ≤ 99 ∧ s 88 o ≤ 99 ∧ s 89 o ≤ 85 ∧ s 90 o ≤ 6 ∧ s 91 o ≤ s 94 0 ∧ s 92 o ≤ 84 ∧ s 93 o ≤ 6 ∧ (s 85 o = 2 ↔ s 89 o < 85) := h.2.1 o ho
theorem Bd.nu {s : St} (h : Bd s) : s 94 0 < 1000000000 ∧ s 94 1 < 1000000000 ∧ 2 ≤ s 94 2 ∧ s 94 2 ≤ 5 := h.2.2
/-! the class' State objects -/
def R7 (I : Nat → Nat → Int32) (a : Nat) (s : St) : Prop := (∀ p o, p < 85 → o < 8 → nib (I (a + 1) p) o = n2 (s p o)) ∧ (∀ j o, j < 9 → o < 8 → I (a + 2 + j) o = n2 (s (85 + j) o)) ∧ I a 10 = n2 (s 94 0) ∧ I a 11 = n2 (s 94 1) ∧ I a 12 = n2 (s 94 2)
theorem R7.md {I : Nat → Nat → Int32} {a : Nat} {s : St} (h : R7 I a s) {p o : Nat} (hp : p < 85) (ho : o < 8) : qush (I (a + 1) p) (n2 (4 * o)) &&& n2 15 = n2 (s p o) := h.1 p o hp ho
theorem R7.st {I : Nat → Nat → Int32} {a : Nat} {s : St} (h : R7 I a s) {o : Nat} (ho : o < 8) : I (a + 2) o = n2 (s 85 o) := h.2.1 0 o (by omega) ho
theorem R7.ag {I : Nat → Nat → Int32} {a : Nat} {s : St} (h : R7 I a s) {o : Nat} (ho : o < 8) : I (a + 3) o = n2 (s 86 o) := h.2.1 1 o (by omega) ho
theorem R7.wk {I : Nat → Nat → Int32} {a : Nat} {s : St} (h : R7 I a s) {o : Nat} (ho : o < 8) : I (a + 4) o = n2 (s 87 o) := h.2.1 2 o (by omega) ho
theorem R7.fl {I : Nat → Nat → Int32} {a : Nat} {s : St} (h : R7 I a s) {o : Nat} (ho : o < 8) : I (a + 5) o = n2 (s 88 o) := h.2.1 3 o (by omega) ho
theorem R7.at {I : Nat → Nat → Int32} {a : Nat} {s : St} (h : R7 I a s) {o : Nat} (ho : o < 8) : I (a + 6) o = n2 (s 89 o) := h.2.1 4 o (by omega) ho
theorem R7.wa {I : Nat → Nat → Int32} {a : Nat} {s : St} (h : R7 I a s) {o : Nat} (ho : o < 8) : I (a + 7) o = n2 (s 90 o) := h.2.1 5 o (by omega) ho
theorem R7.tu {I : Nat → Nat → Int32} {a : Nat} {s : St} (h : R7 I a s) {o : Nat} (ho : o < 8) : I (a + 8) o = n2 (s 91 o) := h.2.1 6 o (by omega) ho
theorem R7.go {I : Nat → Nat → Int32} {a : Nat} {s : St} (h : R7 I a s) {o : Nat} (ho : o < 8) : I (a + 9) o = n2 (s 92 o) := h.2.1 7 o (by omega) ho
theorem R7.mo {I : Nat → Nat → Int32} {a : Nat} {s : St} (h : R7 I a s) {o : Nat} (ho : o < 8) : I (a + 10) o = n2 (s 93 o) := h.2.1 8 o (by omega) ho
theorem R7.tn {I : Nat → Nat → Int32} {a : Nat} {s : St} (h : R7 I a s) : I a 10 = n2 (s 94 0) := h.2.2.1
theorem R7.bg {I : Nat → Nat → Int32} {a : Nat} {s : St} (h : R7 I a s) : I a 11 = n2 (s 94 1) := h.2.2.2.1
theorem R7.gf {I : Nat → Nat → Int32} {a : Nat} {s : St} (h : R7 I a s) : I a 12 = n2 (s 94 2) := h.2.2.2.2
theorem lev_par : ∀ x, x < 85 → 1 ≤ x → lev ((x - 1) / 4) + 1 = lev x := by decide +kernel
theorem lev_pos : ∀ x, x < 85 → 1 ≤ lev x → 1 ≤ x := by decide +kernel
def tst (ms m : Nat) : Bool := decide ((ms >>> m) &&& 1 = 1)
def fab (s : St) (o p ms : Nat) : Nat := match (List.range (lev p)).find? (fun l => tst ms (s (up p l) o)) with
  | some l => up p l
  | none => 85
def covd (s : St) (o p m : Nat) : Bool := decide (fab s o p (if m = 1 ∨ m = 3 then 120 else 64) ≠ 85)
theorem tst_n {ms m : Nat} (h : ms < 128) (hm : m ≤ 6) : qush (n2 ms) (n2 m) &&& n2 1 = n2 (bn (tst ms m)) := by
  have k : ∀ ms, ms < 128 → ∀ m, m < 7 → qush (n2 ms) (n2 m) &&& n2 1 = n2 (bn (tst ms m)) := by decide +kernel
  exact k ms h m (by omega)
theorem fab_lt (s : St) {o p : Nat} (ms : Nat) (hp : p < 85) : fab s o p ms ≤ 85 := by
  unfold fab
  split
  · have := up_lt hp
    exact Nat.le_of_lt (this _)
  · exact Nat.le_refl _
/-- a lock's steps from a level on: the first that can't be done -/
def wnt (s : St) (o g m l : Nat) : Nat := both (s (up g l) o) (stepm g l m)
def stopl (s : St) (o g m : Nat) : Nat := match (List.range (lev g + 1)).find? (fun l => !(decide (wnt s o g m l = s (up g l) o) || opn s o (up g l) (wnt s o g m l))) with
  | some l => l
  | none => lev g + 1
def nsteps (s : St) (o g m ls : Nat) : Nat := (List.range ls).foldl (fun n l => n + bn (decide (wnt s o g m l ≠ s (up g l) o))) 0
/-! more loops -/
theorem lp_a {F : Nat → Nat → Option qR} {N : Nat} (hN : N < 10000) (q : Nat → Bool) (A B : Option qR) (hs : ∀ n k, k < N → F (n + 1) k = if q k = true then F n (k + 1) else A) (he : ∀ n, F (n + 1) N = B) : F qfu 0 = if (List.range N).all q = true then B else A := by
  have key : ∀ d k n, k + d = N → d < n → F n k = if (List.range' k d).all q = true then B else A := by
    intro d
    induction d with
    | zero =>
      intro k n hk hn
      obtain ⟨n, rfl⟩ : ∃ n', n = n' + 1 := ⟨n - 1, by omega⟩
      obtain rfl : k = N := by omega
      exact he n
    | succ d ih =>
      intro k n hk hn
      obtain ⟨n, rfl⟩ : ∃ n', n = n' + 1 := ⟨n - 1, by omega⟩
      rw [hs n k (by omega), List.range'_succ, List.all_cons]
      cases hp : q k with
      | true => exact ih (k + 1) n (by omega) (by omega)
      | false => rfl
  rw [key N 0 qfu (by omega) (by rw [qfu_eq]; exact hN), List.range_eq_range']
theorem lp_fi {α : Type} (F : Nat → Nat → α → Option qR) (N : Nat) (hN : N < 10000) (f : α → Nat → α) (J : α → Prop) (fin : α → Option qR) (a0 : α) (h0 : J a0) (hs : ∀ n k a, k < N → J a → F (n + 1) k a = F n (k + 1) (f a k) ∧ J (f a k)) (he : ∀ n a, J a → F (n + 1) N a = fin a) : F qfu 0 a0 = fin ((List.range N).foldl f a0) ∧ J ((List.range N).foldl f a0) := by
  have key : ∀ d k n a, k + d = N → d < n → J a → F n k a = fin ((List.range' k d).foldl f a) ∧ J ((List.range' k d).foldl f a) := by
    intro d
    induction d with
    | zero =>
      intro k n a hk hn hj
      obtain ⟨n, rfl⟩ : ∃ n', n = n' + 1 := ⟨n - 1, by omega⟩
      obtain rfl : k = N := by omega
      exact ⟨he n a hj, hj⟩
    | succ d ih =>
      intro k n a hk hn hj
      obtain ⟨n, rfl⟩ : ∃ n', n = n' + 1 := ⟨n - 1, by omega⟩
      obtain ⟨h1, h2⟩ := hs n k a (by omega) hj
      rw [h1]
      exact ih (k + 1) n (f a k) (by omega) (by omega) h2
  rw [List.range_eq_range']
  exact key N 0 qfu a0 (by omega) (by rw [qfu_eq]; exact hN) h0
/-! the loop over all that lies below a place: a level behind a level -/
def bls : Nat → Nat → Nat → List Nat
  | 0, _, _ => []
  | d + 1, f, l => if 85 ≤ f then [] else List.range' f (min l 84 + 1 - f) ++ bls d (4 * f + 1) (4 * l + 4)
def blB : Nat → Nat
  | 0 => 200000
  | d + 1 => blB d / 4
def blG : Nat → Nat → Nat
  | 0, f => f
  | d + 1, f => blG d (4 * f + 1)
theorem blB_le : ∀ d, blB d ≤ 200000
  | 0 => Nat.le_refl _
  | d + 1 => by
    have := blB_le d
    simp only [blB]
    omega
theorem bel_bls : ∀ p, p < 85 → bls 4 (4 * p + 1) (4 * p + 4) = bel p := by decide +kernel
theorem bl_r {α : Type} {p : Nat} (hp : p < 85) (F : Nat → α → Nat → Nat → Option qR) (Q : Option qR → Prop) (Inv : List Nat → α → Prop) (a0 : α) (h0 : Inv [] a0)
    (hs : ∀ n a l f vis, l < 1000000 → f < 85 → f ≤ l + 1 → (∃ rest, vis ++ List.range' f (min l 84 + 1 - f) ++ rest = bel p) → Inv vis a → Q (F (n + 1) a l f) ∨ ∃ a', F (n + 1) a l f = F n a' (4 * l + 4) (4 * f + 1) ∧ Inv (vis ++ List.range' f (min l 84 + 1 - f)) a')
    (he : ∀ n a l f, 85 ≤ f → f < 1000000 → Inv (bel p) a → Q (F (n + 1) a l f)) : Q (F qfu a0 (4 * p + 4) (4 * p + 1)) := by
  have key : ∀ d n a l f vis, d < n → 85 ≤ blG d f → l + 2 ≤ blB d → f ≤ l + 1 → vis ++ bls d f l = bel p → Inv vis a → Q (F n a l f) := by
    intro d
    induction d with
    | zero =>
      intro n a l f vis hn hg hl hf hv hi
      obtain ⟨n, rfl⟩ : ∃ n', n = n' + 1 := ⟨n - 1, by omega⟩
      rw [bls, List.append_nil] at hv
      rw [blG] at hg
      rw [blB] at hl
      rw [hv] at hi
      exact he n a l f hg (by omega) hi
    | succ d ih =>
      intro n a l f vis hn hg hl hf hv hi
      obtain ⟨n, rfl⟩ : ∃ n', n = n' + 1 := ⟨n - 1, by omega⟩
      have hB := blB_le d
      have hB2 := blB_le (d + 1)
      by_cases h85 : 85 ≤ f
      · rw [bls, if_pos h85, List.append_nil] at hv
        rw [hv] at hi
        exact he n a l f h85 (by omega) hi
      · rw [bls, if_neg h85, ← List.append_assoc] at hv
        rcases hs n a l f vis (by omega) (by omega) hf ⟨_, hv⟩ hi with h | ⟨a', h1, h2⟩
        · exact h
        · rw [h1]
          rw [blG] at hg
          rw [blB] at hl
          exact ih n a' _ _ _ (by omega) hg (by omega) (by omega) hv h2
  refine key 4 qfu a0 _ _ [] (by rw [qfu_eq]; omega) ?_ ?_ (by omega) (by rw [List.nil_append]; exact bel_bls p hp) h0
  · simp only [blG]
    omega
  · simp only [blB]
    omega
/-- a loop whose Q is an equation -/
theorem lp_rk {α : Type} (F : Nat → Nat → α → Option qR) (N : Nat) (Inv : Nat → α → Prop) (Q : Option qR → Prop) {k0 : Nat} (hk : k0 ≤ N) (hN : N < k0 + 10000) (a0 : α) (h0 : Inv k0 a0) (hs : ∀ n k a, k0 ≤ k → k < N → Inv k a → Q (F (n + 1) k a) ∨ ∃ a', F (n + 1) k a = F n (k + 1) a' ∧ Inv (k + 1) a') (he : ∀ n a, Inv N a → Q (F (n + 1) N a)) : Q (F qfu k0 a0) :=
  lp_r F N (fun k a => k0 ≤ k ∧ Inv k a) Q (fun n k a h1 h2 => by
    rcases hs n k a h2.1 h1 h2.2 with h | ⟨a', h3, h4⟩
    · exact Or.inl h
    · exact Or.inr ⟨a', h3, by omega, h4⟩) (fun n a h => he n a h.2) (N - k0) k0 qfu a0 (by omega) (by rw [qfu_eq]; omega) ⟨Nat.le_refl _, h0⟩

/-! PURE SIDE, THE DESK: steps, going on, serving -/
theorem stepm_pos {g l m : Nat} (h : 1 ≤ m) : 1 ≤ stepm g l m := by unfold stepm; split <;> (try split) <;> omega
def StOk (T : Nat) (U : List Nat) (o g m l : Nat) (s : St) (z : St × Bool) : Prop :=
  Iv (T + (4 - l)) z.1 ∧ Blk z.1 U ∧ (∀ j, j ≠ o → Cf s z.1 j) ∧ z.1 92 o = g ∧ z.1 93 o = m ∧ (∀ j, j ≠ 0 → z.1 94 j = s 94 j) ∧ (z.2 = true → Iv T z.1 ∧ z.1 85 o = 1 ∧ ∀ k, 85 ≤ k → z.1 k = s k) ∧ (z.2 = false → z.1 85 o = 2 ∧ l ≤ lev g)
theorem steps_ok {T : Nat} {U : List Nat} {o g m : Nat} (ho : o < 8) (hm : 1 ≤ m) : ∀ (d l : Nat) (s : St), Iv T s → Blk s U → s 85 o = 1 → s 92 o = g → s 93 o = m → d + l = lev g + 1 → (1 ≤ l → s (up g (l - 1)) o ≠ 0) → StOk T U o g m l s (stepsS d s o g m l) := by
  intro d
  induction d with
  | zero =>
    intro l s h hB hr hg hm2 hd hp
    exact ⟨h.mono (by omega), hB, fun j _ => Cf.rf _ _, hg, hm2, fun _ _ => rfl, fun _ => ⟨h, hr, fun _ _ => rfl⟩, fun z => by cases z⟩
  | succ d ih =>
    intro l s h hB hr hg hm2 hd hp
    have hg85 : g < 85 := by have := (h.2.1 o ho).2.2.2.2.2.1; omega
    have hm6 : m ≤ 6 := by have := (h.2.1 o ho).2.2.2.2.2.2; omega
    have hq := up_lt hg85 l
    have hpu := par_up _ hg85 l (by omega)
    have hmd := h.1 (up g l) o hq ho
    have hst := stepm_le (g := g) (l := l) hm6
    have hsp := stepm_pos (g := g) (l := l) hm
    have hw6 := both_le hmd hst
    have hw1 := both_pos7 (s (up g l) o) (by omega) (stepm g l m) (by omega) hsp
    have hws := (stg_both7 (s (up g l) o) (by omega) (stepm g l m) (by omega)).1
    have hl3 := lev_le g
    simp only [stepsS]
    by_cases e1 : wnt s o g m l = s (up g l) o
    · rw [if_pos e1]
      obtain ⟨a1, a2, a3, a4, a5, a6, a7, a8⟩ := ih (l + 1) s h hB hr hg hm2 (by omega) (fun _ => by
        rw [Nat.add_sub_cancel]
        unfold wnt at e1
        omega)
      exact ⟨a1.mono (by omega), a2, a3, a4, a5, a6, a7, fun z => ⟨(a8 z).1, by have := (a8 z).2; omega⟩⟩
    · rw [if_neg e1]
      rcases bcs (opn s o (up g l) (wnt s o g m l)) with e2 | e2
      · rw [if_neg (by rw [e2]; simp)]
        have i1 := iv_enq (l := l) (w := wnt s o g m l) h ho hr (by rw [hg]; omega) (by omega) hw1 hw6 (by rw [hg]; exact hp)
        rw [hg] at i1
        refine ⟨i1, blk_enq h ho (by omega) hq e2 hB, fun j hj k hk => enq_ne hk hj, ?_, ?_, fun j hj => ?_, (fun z => by cases z), fun _ => ⟨?_, by omega⟩⟩
        · show enq s o (up g l) (wnt s o g m l) 92 o = g
          simp [enq_at]; exact hg
        · show enq s o (up g l) (wnt s o g m l) 93 o = m
          simp [enq_at]; exact hm2
        · show enq s o (up g l) (wnt s o g m l) 94 j = s 94 j
          simp [enq_at, hj]
        · show enq s o (up g l) (wnt s o g m l) 85 o = 2
          simp [enq_at]
      · rw [if_pos e2]
        have i1 := iv_raise (q := up g l) (w := wnt s o g m l) h ho hr hq hw1 hw6 (fun z => by
          rw [hpu.2 (hpu.1.mpr z)]
          exact hp (hpu.1.mpr z))
        have i2 := blk_raise (q := up g l) (w := wnt s o g m l) h ho (by omega) hq hws hw6 hB
        have e : ∀ k j, 85 ≤ k → su s (up g l) o (wnt s o g m l) k j = s k j := fun k j hk => su_ne (by omega)
        obtain ⟨a1, a2, a3, a4, a5, a6, a7, a8⟩ := ih (l + 1) _ i1 i2 (by rw [e 85 o (by omega)]; exact hr) (by rw [e 92 o (by omega)]; exact hg) (by rw [e 93 o (by omega)]; exact hm2) (by omega) (fun _ => by
          rw [Nat.add_sub_cancel, su_eq]
          unfold wnt
          omega)
        refine ⟨a1.mono (by omega), a2, fun j hj k hk => ?_, a4, a5, fun j hj => ?_, fun z => ?_, fun z => ⟨(a8 z).1, by have := (a8 z).2; omega⟩⟩
        · rw [a3 j hj k hk, su_nj hj]
        · rw [a6 j hj, e 94 j (by omega)]
        · obtain ⟨b1, b2, b3⟩ := a7 z
          refine ⟨b1, b2, fun k hk => ?_⟩
          rw [b3 k hk]
          funext j
          exact e k j hk
/-! serving -/
def need (s : St) (p : Nat) : Nat := if p < 21 then 10 else Wt s + 1
def RS (T : Nat) (U : List Nat) (s s' : St) (rows : Prop) : Prop :=
  Iv T s' ∧ Blk s' U ∧ (∀ j, j < 8 → s 85 j ≠ 2 → Cf s s' j) ∧ (∀ j, j < 8 → s 85 j ≠ 0 → s' 85 j ≠ 0) ∧ (rows → ∀ j, j < 8 → s' 85 j = 2 → s 85 j = 2) ∧ (∀ j, j ≠ 0 → s' 94 j = s 94 j)
theorem RS.trans {T T' : Nat} {U U' : List Nat} {s s1 s2 : St} {r1 r2 r : Prop} (h1 : RS T' U' s s1 r1) (h2 : RS T U s1 s2 r2) (hr : r → r1 ∧ r2) : RS T U s s2 r := by
  obtain ⟨a1, a2, a3, a4, a5, a6⟩ := h1
  obtain ⟨b1, b2, b3, b4, b5, b6⟩ := h2
  refine ⟨b1, b2, fun j hj hw => ?_, fun j hj hz => b4 j hj (a4 j hj hz), fun z j hj hw => a5 (hr z).1 j hj (b5 (hr z).2 j hj hw), fun j hj => (b6 j hj).trans (a6 j hj)⟩
  have := a3 j hj hw
  exact this.trans (b3 j hj (by rw [this 85 (by omega)]; exact hw))
theorem Wt_mono {s s' : St} (h : ∀ j, j < 8 → s' 85 j = 2 → s 85 j = 2) : Wt s' ≤ Wt s := sum8_mono fun j hj => by
  by_cases e : s' 85 j = 2
  · rw [e, h j hj e]; exact Nat.le_refl _
  · simp [e, bn]
def SrvOk (n : Nat) : Prop := ∀ (s : St) (p : Nat) (U : List Nat) (T : Nat), p < 85 → Iv T s → Blk s (p :: U) → need s p ≤ n → RS T U s (srvS n s p) (21 ≤ p)
def FuelOk (n : Nat) (s : St) (l : List Nat) : Prop := ((∀ q ∈ l, 21 ≤ q) ∧ Wt s + 1 ≤ n) ∨ 10 ≤ n
theorem fuel_need {n : Nat} {s : St} {q : Nat} {l : List Nat} (h : FuelOk n s (q :: l)) : need s q ≤ n := by
  unfold need
  rcases h with ⟨h1, h2⟩ | h
  · rw [if_neg (by have := h1 q List.mem_cons_self; omega)]
    exact h2
  · have := Wt_le s
    split <;> omega
theorem FuelOk.next {n T : Nat} {s s' : St} {U : List Nat} {q : Nat} {l : List Nat} (h : FuelOk n s (q :: l)) (hs : RS T U s s' (21 ≤ q)) : FuelOk n s' l := by
  rcases h with ⟨h1, h2⟩ | h
  · left
    refine ⟨fun x hx => h1 x (List.mem_cons_of_mem _ hx), ?_⟩
    have := Wt_mono (hs.2.2.2.2.1 (h1 q List.mem_cons_self))
    omega
  · exact Or.inr h
theorem fold_ok {n : Nat} (hP : SrvOk n) : ∀ (l U : List Nat) (s : St) (T : Nat), (∀ q ∈ l, q < 85) → Iv T s → Blk s (l ++ U) → FuelOk n s l → RS T U s (l.foldl (srvS n) s) (∀ q ∈ l, 21 ≤ q)
  | [], U, s, T, _, h, hB, _ => ⟨h, hB, fun _ _ _ => Cf.rf _ _, fun _ _ z => z, fun _ _ _ z => z, fun _ _ => rfl⟩
  | q :: l, U, s, T, hl, h, hB, hf => by
    have h1 := hP s q (l ++ U) T (hl q List.mem_cons_self) h hB (fuel_need hf)
    have h2 := fold_ok hP l U (srvS n s q) T (fun x hx => hl x (List.mem_cons_of_mem _ hx)) h1.1 h1.2.1 (hf.next h1)
    exact h1.trans h2 fun z => ⟨z q List.mem_cons_self, fun x hx => z x (List.mem_cons_of_mem _ hx)⟩
theorem canG_iff {s : St} {o g : Nat} : canG s o g = true ↔ hbel s o g ≠ 0 ∧ opn s o g (gmode s o g) = true := by
  unfold canG
  rw [Bool.and_eq_true, decide_eq_true_eq]
theorem Wt_row {s s' : St} (h : ∀ j, s' 85 j = s 85 j) : Wt s' = Wt s := sum8_eq fun j _ => by rw [h j]
theorem gath_ok {n : Nat} (hP : SrvOk n) {T : Nat} {U : List Nat} {s : St} {o g : Nat} (h : Iv T s) (hB : Blk s U) (ho : o < 8) (hr : s 85 o = 1) (hg : g < 85) (hc : canG s o g = true) (hf : FuelOk n s (gL s o g)) : RS T U (clr s o g (gmode s o g)) ((gL s o g).foldl (srvS n) (clr s o g (gmode s o g))) (∀ q ∈ gL s o g, 21 ≤ q) := by
  refine fold_ok hP _ _ _ _ (fun q hq => (gL_iff.mp hq).1) (iv_clr h ho hr hg hc) (blk_clr h ho hr hg hB) ?_
  rcases hf with ⟨h1, h2⟩ | hf
  · exact Or.inl ⟨h1, by rw [Wt_row fun j => clr_hi hg (by omega)]; exact h2⟩
  · exact Or.inr hf
theorem blw_lev : ∀ q, q < 85 → ∀ p, p < 85 → blw q p = true → lev p < lev q := by decide +kernel
def GoOk (T : Nat) (U : List Nat) (o l : Nat) (s s' : St) : Prop :=
  Iv (T + (4 - l)) s' ∧ Blk s' U ∧ (∀ j, j < 8 → j ≠ o → s 85 j ≠ 2 → Cf s s' j) ∧ (∀ j, j < 8 → s 85 j ≠ 0 → s' 85 j ≠ 0) ∧ (l = 4 → ∀ j, j < 8 → s' 85 j = 2 → s 85 j = 2) ∧ (∀ j, j ≠ 0 → s' 94 j = s 94 j)
/-- a step of a page: all below are rows -/
theorem page_rows {s : St} {o g : Nat} (hg : g < 85) (h3 : lev g = 3) : up g 2 < 85 ∧ lev (up g 2) = 2 ∧ ∀ q ∈ gL s o (up g 2), 21 ≤ q := by
  have h1 := up_lt hg 2
  have h2 := lev_up g hg 2 (by omega)
  refine ⟨h1, h2, fun q hq => ?_⟩
  have := blw_lev q (gL_iff.mp hq).1 _ h1 (gL_iff.mp hq).2.1
  have h5 := lev_le q
  exact (lev_3 q (gL_iff.mp hq).1).mp (by omega)
theorem bulk_ok {n : Nat} (hP : SrvOk n) {T : Nat} {U : List Nat} {s : St} {o g : Nat} (h : Iv T s) (hB : Blk s U) (ho : o < 8) (hr : s 85 o = 1) (hg : g < 85) (hf : Wt s + 1 ≤ n) :
    Iv T (bulkS (srvS n) s o g).1 ∧ Blk (bulkS (srvS n) s o g).1 U ∧ (∀ j, j < 8 → j ≠ o → s 85 j ≠ 2 → Cf s (bulkS (srvS n) s o g).1 j) ∧ (∀ j, j < 8 → s 85 j ≠ 0 → (bulkS (srvS n) s o g).1 85 j ≠ 0) ∧ (∀ j, j < 8 → (bulkS (srvS n) s o g).1 85 j = 2 → s 85 j = 2) ∧ (∀ j, j ≠ 0 → (bulkS (srvS n) s o g).1 94 j = s 94 j) := by
  have triv : Iv T s ∧ Blk s U ∧ (∀ j, j < 8 → j ≠ o → s 85 j ≠ 2 → Cf s s j) ∧ (∀ j, j < 8 → s 85 j ≠ 0 → s 85 j ≠ 0) ∧ (∀ j, j < 8 → s 85 j = 2 → s 85 j = 2) ∧ (∀ j, j ≠ 0 → s 94 j = s 94 j) := ⟨h, hB, fun _ _ _ _ => Cf.rf _ _, fun _ _ z => z, fun _ _ z => z, fun _ _ => rfl⟩
  unfold bulkS
  by_cases h3 : lev g ≠ 3
  · rw [if_pos h3]; exact triv
  rw [if_neg h3]
  have h3 : lev g = 3 := Decidable.not_not.mp h3
  by_cases h4 : s 94 2 ≤ hbel s o (up g 2)
  · rw [if_pos h4]
    obtain ⟨p1, p2, p3⟩ := page_rows (s := s) (o := o) hg h3
    unfold gathS
    rcases bcs (canG s o (up g 2)) with hc | hc
    · simp only [hc, Bool.false_eq_true, if_false]
      exact ⟨h, hB, fun _ _ _ _ => Cf.rf _ _, fun _ _ z => z, fun _ _ z => z, fun _ _ => trivial⟩
    · rw [if_pos hc, if_pos rfl]
      obtain ⟨a1, a2, a3, a4, a5, a6⟩ := gath_ok hP h hB ho hr p1 hc (Or.inl ⟨p3, hf⟩)
      have e : ∀ k j, 85 ≤ k → clr s o (up g 2) (gmode s o (up g 2)) k j = s k j := fun k j hk => clr_hi p1 hk
      refine ⟨a1, a2, fun j hj hjo hw k hk => ?_, fun j hj hz => a4 j hj (by rw [e 85 j (by omega)]; exact hz), fun j hj hw => ?_, fun j hj => ?_⟩
      · exact (a3 j hj (by rw [e 85 j (by omega)]; exact hw) k hk).trans (clr_ne hjo)
      · have := a5 p3 j hj hw
        rw [e 85 j (by omega)] at this
        exact this
      · exact (a6 j hj).trans (e 94 j (by omega))
  · rw [if_neg h4]; exact triv
theorem goOn_ok {n : Nat} (hP : SrvOk n) {T : Nat} {U : List Nat} {s : St} {o l : Nat} (h : Iv T s) (hB : Blk s U) (ho : o < 8) (hr : s 85 o = 1) (hm : 1 ≤ s 93 o) (hl : l ≤ lev (s 92 o) + 1) (hp : 1 ≤ l → s (up (s 92 o) (l - 1)) o ≠ 0) (hf : Wt s + 1 ≤ n) : GoOk T U o l s (goOnS (srvS n) s o l).1 := by
  have hg : s 92 o < 85 := by have := (h.2.1 o ho).2.2.2.2.2.1; omega
  have hl3 := lev_le (s 92 o)
  obtain ⟨a1, a2, a3, a4, a5, a6, a7, a8⟩ := steps_ok (U := U) (g := s 92 o) (m := s 93 o) ho hm (lev (s 92 o) + 1 - l) l s h hB hr rfl rfl (by omega) hp
  unfold goOnS
  generalize stepsS (lev (s 92 o) + 1 - l) s o (s 92 o) (s 93 o) l = z at *
  rcases bcs z.2 with e | e
  · rw [if_pos e]
    obtain ⟨b1, b2⟩ := a8 e
    refine ⟨a1, a2, fun j hj hjo _ => a3 j hjo, fun j hj hz => ?_, fun hl4 => by omega, a6⟩
    by_cases hjo : j = o
    · rw [hjo, b1]; omega
    · rw [a3 j hjo 85 (by omega)]; exact hz
  · rw [if_neg (by rw [e]; simp)]
    obtain ⟨b1, b2, b3⟩ := a7 e
    have e85 : ∀ j, z.1 85 j = s 85 j := fun j => congrFun (b3 85 (by omega)) j
    obtain ⟨c1, c2, c3, c4, c5, c6⟩ := bulk_ok hP b1 a2 ho b2 hg (by rw [Wt_row e85]; exact hf)
    refine ⟨c1.mono (by omega), c2, fun j hj hjo hw => ?_, fun j hj hz => c4 j hj (by rw [e85]; exact hz), fun _ j hj hw => ?_, fun j hj => (c6 j hj).trans (a6 j hj)⟩
    · exact (a3 j hjo).trans (c3 j hj hjo (by rw [e85]; exact hw))
    · rw [← e85]; exact c5 j hj hw
/-- those that were granted go on, in turn -/
def Pd (s : St) (p o : Nat) : Prop := o < 8 ∧ s 85 o = 1 ∧ 1 ≤ s 93 o ∧ lev p ≤ lev (s 92 o) ∧ p = up (s 92 o) (lev p) ∧ s p o ≠ 0
theorem Pd.cf {s s' : St} {p o : Nat} (hp : p < 85) (h : Pd s p o) (hc : Cf s s' o) : Pd s' p o := by
  obtain ⟨h1, h2, h3, h4, h5, h6⟩ := h
  refine ⟨h1, ?_, ?_, ?_, ?_, ?_⟩
  · rw [hc 85 (by omega)]; exact h2
  · rw [hc 93 (by omega)]; exact h3
  · rw [hc 92 (by omega)]; exact h4
  · rw [hc 92 (by omega)]; exact h5
  · rw [hc p (by omega)]; exact h6
theorem goes_ok {n : Nat} (hP : SrvOk n) {U : List Nat} {p : Nat} (hp : p < 85) : ∀ (gl : List Nat) (s : St) (T T0 : Nat), Iv T0 s → Blk s U → gl.Nodup → (∀ o ∈ gl, Pd s p o) → T0 + gl.length * (3 - lev p) ≤ T → (21 ≤ p ∧ Wt s + 1 ≤ n ∨ 9 ≤ n) →
    Iv T (gl.foldl (fun s o => (goOnS (srvS n) s o (lev p + 1)).1) s) ∧ Blk (gl.foldl (fun s o => (goOnS (srvS n) s o (lev p + 1)).1) s) U ∧ (∀ j, j < 8 → j ∉ gl → s 85 j ≠ 2 → Cf s (gl.foldl (fun s o => (goOnS (srvS n) s o (lev p + 1)).1) s) j) ∧ (∀ j, j < 8 → s 85 j ≠ 0 → (gl.foldl (fun s o => (goOnS (srvS n) s o (lev p + 1)).1) s) 85 j ≠ 0) ∧ (21 ≤ p → ∀ j, j < 8 → (gl.foldl (fun s o => (goOnS (srvS n) s o (lev p + 1)).1) s) 85 j = 2 → s 85 j = 2) ∧ (∀ j, j ≠ 0 → (gl.foldl (fun s o => (goOnS (srvS n) s o (lev p + 1)).1) s) 94 j = s 94 j)
  | [], s, T, T0, h, hB, _, _, hT, _ => ⟨h.mono (by simpa using hT), hB, fun _ _ _ _ => Cf.rf _ _, fun _ _ z => z, fun _ _ _ z => z, fun _ _ => rfl⟩
  | o :: gl, s, T, T0, h, hB, hnd, hpd, hT, hf => by
    obtain ⟨p1, p2, p3, p4, p5, p6⟩ := hpd o List.mem_cons_self
    have hl3 := lev_le p
    have hf1 : Wt s + 1 ≤ n := by
      have := Wt_le s
      omega
    obtain ⟨a1, a2, a3, a4, a5, a6⟩ := goOn_ok hP (l := lev p + 1) h hB p1 p2 p3 (by omega) (fun _ => by
      rw [Nat.add_sub_cancel, ← p5]; exact p6) hf1
    rw [List.nodup_cons] at hnd
    simp only [List.length_cons, Nat.succ_mul] at hT
    obtain ⟨b1, b2, b3, b4, b5, b6⟩ := goes_ok hP hp gl _ T _ a1 a2 hnd.2 (fun x hx => by
      have hx2 := hpd x (List.mem_cons_of_mem _ hx)
      exact hx2.cf hp (a3 x hx2.1 (fun z => hnd.1 (z ▸ hx)) (by rw [hx2.2.1]; omega))) (by omega) (by
      rcases hf with ⟨f1, f2⟩ | f
      · left
        have := Wt_mono (a5 (by have := (lev_3 p hp).mpr f1; omega))
        exact ⟨f1, by omega⟩
      · exact Or.inr f)
    rw [List.foldl_cons]
    refine ⟨b1, b2, fun j hj hjn hw => ?_, fun j hj hz => b4 j hj (a4 j hj hz), fun hr j hj hw => a5 (by have := (lev_3 p hp).mpr hr; omega) j hj (b5 hr j hj hw), fun j hj => (b6 j hj).trans (a6 j hj)⟩
    rw [List.mem_cons, not_or] at hjn
    have h1 := a3 j hj hjn.1 hw
    exact h1.trans (b3 j hj hjn.2 (by rw [h1 85 (by omega)]; exact hw))
theorem pend_of {T c : Nat} {U : List Nat} {p : Nat} {s : St} {z : St × List Nat} (h : Iv T s) (hp : p < 85) (hz : GrOk T c U p s z) : ∀ o ∈ z.2, Pd z.1 p o ∧ s 85 o = 2 := by
  intro o ho
  obtain ⟨b1, b2, b3, b4, b5⟩ := hz.2.2.2.2.1 o ho
  have hw := h.w b1 hp b2
  obtain ⟨w1, ⟨l, w2, w3⟩, w4, -, -⟩ := h.2.2.1 o b1 hw
  have hg : s 92 o < 85 := by have := (h.2.1 o b1).2.2.2.2.2.1; omega
  have hl := lev_up _ hg l w2
  rw [b2] at w3
  rw [← w3] at hl
  refine ⟨⟨b1, b3, ?_, ?_, ?_, b4⟩, hw⟩
  · rw [b5 93 (by omega) (by omega) (by omega)]; exact w4
  · rw [b5 92 (by omega) (by omega) (by omega), hl]; exact w2
  · rw [b5 92 (by omega) (by omega) (by omega), hl]; exact w3
theorem srv_ok : ∀ n, SrvOk n := by
  intro n
  induction n with
  | zero =>
    intro s p U T hp h hB hn
    unfold need at hn
    split at hn <;> omega
  | succ n ih =>
    intro s p U T hp h hB hn
    have hz := grants_ok hp 8 T (s 94 0 + pot s) s h hB (Wt_le s) (Nat.le_refl _) h.2.2.2.2.2.2.2.1
    have hpd := pend_of h hp hz
    obtain ⟨g1, g2, g3, g4, g5, g6, g7, g8⟩ := hz
    simp only [srvS]
    generalize grantsS 8 s p = z at *
    have hT := h.2.2.2.2.2.2.2.1
    have h0 : Iv (T - z.2.length * (3 - lev p)) z.1 := by
      obtain ⟨i1, i2, i3, i4, i5, i6, i7, i8, i9, i10, i11⟩ := g1
      exact ⟨i1, i2, i3, i4, i5, i6, i7, by omega, i9, i10, i11⟩
    by_cases hgl : z.2 = []
    · rw [hgl, List.foldl_nil]
      refine ⟨g1, g2, fun j hj _ => g6 j (by rw [hgl]; exact List.not_mem_nil), fun j hj hz => ?_, fun _ j hj hw => ?_, g8⟩
      · rw [g6 j (by rw [hgl]; exact List.not_mem_nil) 85 (by omega)]; exact hz
      · rw [← g6 j (by rw [hgl]; exact List.not_mem_nil) 85 (by omega)]; exact hw
    have hlen : 1 ≤ z.2.length := List.length_pos_iff.mpr hgl
    obtain ⟨b1, b2, b3, b4, b5, b6⟩ := goes_ok ih hp z.2 z.1 T _ h0 g2 g7 (fun o ho => (hpd o ho).1) (by omega) (by
      unfold need at hn
      split at hn
      · right; omega
      · left; exact ⟨by omega, by omega⟩)
    refine ⟨b1, b2, fun j hj hw => ?_, fun j hj hz => b4 j hj ?_, fun hr j hj hw => ?_, fun j hj => (b6 j hj).trans (g8 j hj)⟩
    · have hjn : j ∉ z.2 := fun z => hw (hpd j z).2
      have h1 := g6 j hjn
      exact h1.trans (b3 j hj hjn (by rw [h1 85 (by omega)]; exact hw))
    · by_cases hjn : j ∈ z.2
      · rw [(hpd j hjn).1.2.1]; omega
      · rw [g6 j hjn 85 (by omega)]; exact hz
    · have h1 := b5 hr j hj hw
      have hjn : j ∉ z.2 := fun z => by rw [(hpd j z).1.2.1] at h1; cases h1
      rw [← g6 j hjn 85 (by omega)]; exact h1

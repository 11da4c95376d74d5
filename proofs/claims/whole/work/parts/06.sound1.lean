/-! SOUNDNESS, FIRST PART: locals, writes, new objects -/
def qal (base : Nat) (cv : Nat → Value) (L : List Value) : List (Nat × Value) := (List.range L.length).filterMap fun i => match qnth L i with
  | some .null => none
  | some v => some (i, qtr base cv v)
  | none => none
theorem qal_mem {base : Nat} {cv : Nat → Value} {L : List Value} {i : Nat} {w : Value} : (i, w) ∈ qal base cv L ↔ ∃ v, qnth L i = some v ∧ v ≠ .null ∧ w = qtr base cv v := by
  unfold qal
  rw [List.mem_filterMap]
  constructor
  · rintro ⟨j, hj, h⟩
    split at h
    · cases h
    · rename_i v hn he
      simp only [Option.some.injEq, Prod.mk.injEq] at h
      obtain ⟨rfl, rfl⟩ := h
      exact ⟨v, he, fun z => hn (by rw [z]), rfl⟩
    · cases h
  · rintro ⟨v, h1, h2, rfl⟩
    refine ⟨i, List.mem_range.mpr (qnth_lt h1), ?_⟩
    rw [h1]
    split
    · rename_i h; exact absurd (Option.some.inj h) h2
    · rename_i v' _ h; rw [Option.some.inj h]
    · rename_i h; cases h
theorem qLs.has {base : Nat} {cv : Nat → Value} {ls : Array Slot} {nL : Nat} {L : List Value} (h : qLs base cv ls nL L) : lv_has ls nL (qal base cv L) := by
  refine ⟨h.1, h.2.2.1, fun q hq => ?_⟩
  obtain ⟨i, w⟩ := q
  obtain ⟨v, h1, h2, rfl⟩ := qal_mem.mp hq
  exact h.2.2.2 i v h1 h2
theorem qLs.at {base : Nat} {cv : Nat → Value} {ls : Array Slot} {nL : Nat} {L : List Value} (h : qLs base cv ls nL L) {i : Nat} {v : Value} (h1 : qnth L i = some v) (h2 : v ≠ .null) : ls[i]? = some (.val (qtr base cv v)) := h.2.2.2 i v h1 h2
def qtwo (v : Value) : Prop := (∃ x, v = .long x) ∨ ∃ x, v = .double x
theorem qtr_cat {base : Nat} {cv : Nat → Value} (hcv : ∀ j, (cv j).category = 1) {v : Value} (h : ¬ qtwo v) : (qtr base cv v).category = 1 := by
  cases v with
  | long x => exact absurd (Or.inl ⟨x, rfl⟩) h
  | double x => exact absurd (Or.inr ⟨x, rfl⟩) h
  | ref a => cases a <;> rfl
  | retAddr j => exact hcv j
  | _ => rfl
theorem qnth_set {α : Type} {l : List α} {i j : Nat} {a : α} (h : j ≠ i) : qnth (l.set i a) j = qnth l j := by
  rw [qnth_eq, qnth_eq, List.getElem?_set_ne (fun e => h e.symm)]
theorem qnth_set_self {α : Type} {l : List α} {i : Nat} {a b : α} (h : qnth (l.set i a) i = some b) : b = a := by
  rw [qnth_eq, List.getElem?_set_self'] at h
  cases hq : l[i]? with
  | none => rw [hq] at h; cases h
  | some z => rw [hq] at h; exact (Option.some.inj h).symm
theorem qst_len (L : List Value) (i : Nat) (v : Value) : (qst L i v).length = L.length := by
  unfold qst
  split
  · simp
  · split <;> simp
theorem qst_self {L : List Value} {i : Nat} {v w : Value} (h : qnth (qst L i v) i = some w) : w = v := by
  unfold qst at h
  split at h
  · exact qnth_set_self h
  · split at h <;> exact qnth_set_self h
theorem qst_ne {L : List Value} {i j : Nat} {v w : Value} (hj : j ≠ i) (h : qnth (qst L i v) j = some w) (hw : w ≠ .null) : qnth L j = some w ∧ (j + 1 = i → ¬ qtwo w) := by
  unfold qst at h
  split at h
  · rw [qnth_set hj] at h
    exact ⟨h, fun e => by omega⟩
  · rename_i i
    split at h
    · rw [qnth_set hj] at h
      by_cases hi : j = i
      · subst hi; exact absurd (qnth_set_self h) hw
      · rw [qnth_set hi] at h
        exact ⟨h, fun e => by omega⟩
    · rw [qnth_set hj] at h
      by_cases hi : j = i
      · subst hi; exact absurd (qnth_set_self h) hw
      · rw [qnth_set hi] at h
        exact ⟨h, fun e => by omega⟩
    · rename_i h1 h2
      rw [qnth_set hj] at h
      refine ⟨h, fun e q => ?_⟩
      have e2 : j = i := by omega
      subst e2
      rcases q with ⟨x, rfl⟩ | ⟨x, rfl⟩
      · exact h1 x h
      · exact h2 x h
theorem qLs.st1 {base : Nat} {cv : Nat → Value} {ls ls' : Array Slot} {nL i : Nat} {L : List Value} {v : Value} (hcv : ∀ j, (cv j).category = 1) (h : qLs base cv ls nL L)
    (h' : lv_has ls' nL ((i, qtr base cv v) :: (qal base cv L).filter (fun q => !(q.1 == i) && !(q.1 + 1 == i && q.2.category == 2)))) : qLs base cv ls' nL (qst L i v) := by
  refine ⟨h'.1, by rw [qst_len]; exact h.2.1, h'.2.1, fun j w hj hw => ?_⟩
  refine h'.2.2 (j, qtr base cv w) ?_
  by_cases hji : j = i
  · subst hji
    rw [qst_self hj]
    exact List.mem_cons_self
  · obtain ⟨g1, g2⟩ := qst_ne hji hj hw
    refine List.mem_cons_of_mem _ (List.mem_filter.mpr ⟨qal_mem.mpr ⟨w, g1, hw, rfl⟩, ?_⟩)
    by_cases hjj : j + 1 = i
    · simp [hji, qtr_cat hcv (g2 hjj)]
    · simp [hji, hjj]
theorem qLs.st2 {base : Nat} {cv : Nat → Value} {ls ls' : Array Slot} {nL i : Nat} {L : List Value} {x : Int64} (hcv : ∀ j, (cv j).category = 1) (h : qLs base cv ls nL L)
    (h' : lv_has ls' nL ((i, Value.long x) :: (qal base cv L).filter (fun q => !(q.1 == i) && (!(q.1 == i + 1) && !(q.1 + 1 == i && q.2.category == 2))))) : qLs base cv ls' nL (qst (L.set (i + 1) .null) i (.long x)) := by
  refine ⟨h'.1, by rw [qst_len, List.length_set]; exact h.2.1, h'.2.1, fun j w hj hw => ?_⟩
  refine h'.2.2 (j, qtr base cv w) ?_
  by_cases hji : j = i
  · subst hji
    rw [qst_self hj]
    exact List.mem_cons_self
  · obtain ⟨g1, g2⟩ := qst_ne hji hj hw
    by_cases hj1 : j = i + 1
    · subst hj1; exact absurd (qnth_set_self g1) hw
    · rw [qnth_set hj1] at g1
      refine List.mem_cons_of_mem _ (List.mem_filter.mpr ⟨qal_mem.mpr ⟨w, g1, hw, rfl⟩, ?_⟩)
      by_cases hjj : j + 1 = i
      · simp [hji, hj1, qtr_cat hcv (g2 hjj)]
      · simp [hji, hj1, hjj]
/-- fewer locals are known -/
def qle : List Value → List Value → Prop
  | [], _ => True
  | _ :: _, [] => False
  | v :: l, w :: k => (v = .null ∨ v = w) ∧ qle l k
theorem qle_nth : ∀ {L L' : List Value} {i : Nat} {v : Value}, qle L L' → qnth L i = some v → v ≠ .null → qnth L' i = some v := by
  intro L
  induction L with
  | nil => intro L' i v _ h; cases i <;> cases h
  | cons a L ih =>
    intro L' i v h h1 h2
    cases L' with
    | nil => exact h.elim
    | cons b L' =>
      cases i with
      | zero =>
        simp only [qnth, Option.some.injEq] at h1 ⊢
        rcases h.1 with e | e
        · exact absurd (h1.symm.trans e) h2
        · rw [← e]; exact h1
      | succ i => exact (show qnth L' i = some v from ih h.2 (show qnth L i = some v from h1) h2)
theorem qLs.le {base : Nat} {cv : Nat → Value} {ls : Array Slot} {nL : Nat} {L L' : List Value} (h : qLs base cv ls nL L') (hn : L.length = L'.length) (hq : qle L L') : qLs base cv ls nL L :=
  ⟨h.1, hn.trans h.2.1, h.2.2.1, fun i v h1 h2 => h.2.2.2 i v (qle_nth hq h1 h2) h2⟩
theorem qtys_ok : ∀ c, c < 9 → ∀ j, j < qfn c → (qfty c j = 0 ∧ qtyF c j = .int) ∨ (qfty c j = 3 ∧ qtyF c j = .boolean) ∨ (qfty c j = 2 ∧ ((∃ n, qtyF c j = .object n) ∨ ∃ t, qtyF c j = .array t)) := by
  intro c hc j hj
  have key : ∀ c, c < 9 → ∀ j, j < qfn c → (qfty c j = 0 ∧ qtyF c j = .int) ∨ (qfty c j = 3 ∧ qtyF c j = .boolean) ∨ (qfty c j = 2 ∧ (match qtyF c j with | .object _ => true | .array _ => true | _ => false) = true) := by decide +kernel
  rcases key c hc j hj with h | h | h
  · exact Or.inl h
  · exact Or.inr (Or.inl h)
  · refine Or.inr (Or.inr ⟨h.1, ?_⟩)
    have h2 := h.2
    revert h2
    cases qtyF c j with
    | object n => exact fun _ => Or.inl ⟨n, rfl⟩
    | array t => exact fun _ => Or.inr ⟨t, rfl⟩
    | _ => exact fun h => by cases h
theorem qE_obj {base : Nat} {ca : Nat → ClassId} {cv : Nat → Value} {μ : qM} {k c n : Nat} (h : qnth μ.1 k = some (c, n)) (hc : c < 20) : qE base ca cv μ k = .inr (c, (List.range (qfn c)).map (qslot base cv μ k c)) := by
  unfold qE; rw [h]; simp [hc]
theorem qE_int {base : Nat} {ca : Nat → ClassId} {cv : Nat → Value} {μ : qM} {k c n : Nat} (h : qnth μ.1 k = some (c, n)) (h1 : ¬ c < 20) (h2 : c ≠ 21) (h3 : c ≠ 24) : qE base ca cv μ k = .inl (ca c, n, .inl (qI μ (k + 1))) := by
  unfold qE; rw [h]; simp [h1, h2, h3]
theorem qE_long {base : Nat} {ca : Nat → ClassId} {cv : Nat → Value} {μ : qM} {k n : Nat} (h : qnth μ.1 k = some (21, n)) : qE base ca cv μ k = .inl (ca 21, n, .inr (.inl (qL μ (k + 1)))) := by
  unfold qE; rw [h]; simp
theorem qE_ref {base : Nat} {ca : Nat → ClassId} {cv : Nat → Value} {μ : qM} {k n : Nat} (h : qnth μ.1 k = some (24, n)) : qE base ca cv μ k = .inl (ca 24, n, .inr (.inr (.inr (.inr fun j => qopt base (qP μ (k + 1) j))))) := by
  unfold qE; rw [h]; simp
theorem qE_setI {base : Nat} {ca : Nat → ClassId} {cv : Nat → Value} {μ : qM} {k c n j : Nat} {x : Int32} (h : qnth μ.1 k = some (c, n)) (hc : c < 20) (hj : qfty c j ≠ 2) : qE base ca cv (qsI μ (k + 1) j x) k = .inr (c, ((List.range (qfn c)).map (qslot base cv μ k c)).set j (.int x)) := by
  rw [qE_obj (μ := qsI μ (k + 1) j x) h hc]
  congr 2
  apply List.ext_getElem?
  intro i
  rw [List.getElem?_set]
  by_cases hi : i < qfn c
  · by_cases hij : j = i
    · subst hij
      simp [hi, qslot, hj, qI, qsI]
    · have hij' : ¬ i = j := fun e => hij e.symm
      simp only [hij, if_false, List.getElem?_map, List.getElem?_range hi, Option.map_some]
      congr 1
      simp [qslot, qI, qsI, hij', qP]
  · by_cases hij : j = i
    · subst hij; simp [hi]
    · simp [hij, Nat.not_lt.mp hi]
theorem qE_setP {base : Nat} {ca : Nat → ClassId} {cv : Nat → Value} {μ : qM} {k c n j x : Nat} (h : qnth μ.1 k = some (c, n)) (hc : c < 20) (hj : qfty c j = 2) : qE base ca cv (qsP μ (k + 1) j x) k = .inr (c, ((List.range (qfn c)).map (qslot base cv μ k c)).set j (qtr base cv (.ref x))) := by
  rw [qE_obj (μ := qsP μ (k + 1) j x) h hc]
  congr 2
  apply List.ext_getElem?
  intro i
  rw [List.getElem?_set]
  by_cases hi : i < qfn c
  · by_cases hij : j = i
    · subst hij
      simp [hi, qslot, hj, qP, qsP]
    · have hij' : ¬ i = j := fun e => hij e.symm
      simp only [hij, if_false, List.getElem?_map, List.getElem?_range hi, Option.map_some]
      congr 1
      simp [qslot, qI, qsP, hij', qP]
  · by_cases hij : j = i
    · subst hij; simp [hi]
    · simp [hij, Nat.not_lt.mp hi]
theorem qfits_ref {base : Nat} {cv : Nat → Value} {ty : FieldType} (h : (∃ n, ty = .object n) ∨ ∃ t, ty = .array t) (x : Nat) : narrow ty (qtr base cv (.ref x)) = qtr base cv (.ref x) ∧ fits ty (qtr base cv (.ref x)) = true := by
  rcases h with ⟨n, rfl⟩ | ⟨t, rfl⟩ <;> cases x <;> exact ⟨rfl, rfl⟩
theorem qfits_bool {x : Int32} (h : x = 0 ∨ x = 1) : narrow .boolean (.int x) = .int x ∧ fits .boolean (.int x) = true := by
  rcases h with rfl | rfl <;> exact ⟨by decide +kernel, by decide +kernel⟩
theorem qfits_int (x : Int32) : narrow .int (.int x) = .int x ∧ fits .int (.int x) = true := ⟨rfl, rfl⟩
section QPUT
variable {p : Program} {l : Launch} {e : Env} {R : Room} {s : State} {m : MethodId} {args : Array Value} {below : List Frame} {meth : Method} {c : Code} {H : Heap} {locs : List Loc} {cells slots : Nat} {Q : State → Prop}
variable {cc : ByteArray} {pc : Nat} {ls : Array Slot} {rest : List Value} {D : va_G} {A : Nat → Prop} {ws : va_W} {tys : List (ClassId × FieldType)} {H0 : Heap}
/-- a field of ours is written; how large the heap is stays -/
theorem qr_put (hx : p.tables.exec = Jvm.exec) (hb : c.code = cc) {own : String} {ci index : Nat} (hts : ∀ w ∈ qG, w.before args s = true) (hci : ci < 9) (hown : s.vm.findClass own = some m.cls) (hK : va_K D vwCl tys s) (hP : va_P D vwCl ws H) (hD : va_D A ws) (hS0 : va_S A H0 H locs)
    (q0 : Nat) {a : Nat} {fs : List Value} (he : ws[q0]? = some (a, .inr (ci, fs))) (k : Nat) (hk : k < qfn ci) (hlink : (Cond.fieldLink own index ((qcl ci).2.1 k).1 ((qcl ci).2.1 k).2.1 ((qcl ci).2.1 k).2.2.1).before args s = true) (hfin : ((qcl ci).2.1 k).2.2.2 = false ∨ (meth.name = "<init>" ∧ ((qcl ci).2.1 k).1 = own)) {v : Value} (hn : narrow (qtyF ci k) v = v) (hfit : fits (qtyF ci k) v = true) (hl : k < fs.length)
    (hdg : decode cc pc = .ok (.putfield index, 3)) (kk : ∀ (H1 : Heap) (locs1 : List Loc), va_P D vwCl (ws.set q0 (a, .inr (ci, fs.set k v))) H1 → va_S A H0 H1 locs1 → H1.size = H.size → W p l e R s m args below meth c H1 locs1 cells slots Q (F0 m (pc + 3) ls rest)) : W p l e R s m args below meth c H locs cells slots Q (F0 m pc ls (v :: .ref a :: rest)) := by
  obtain ⟨hc, hin, hty, hnm, hfn⟩ := qin_cl ci hci
  rw [hfn] at hk
  have hap := va_apart (own := own) hts hin (qtyF ci) hty hnm hK hc
  obtain ⟨r, h1, cell, q1, q2, q3, q4⟩ := hP q0 _ he
  have hr : r = qcl ci := Option.some.inj (h1.symm.trans hc)
  subst hr
  obtain ⟨hSl, hfc, kC, hkC, hkind⟩ := hK.1 ci _ hc
  obtain ⟨cf, kf, fi, f, hi, hsl⟩ := hSl k hk
  have hd := hty k hk
  have hall := u_lays hts hin hk
  have hst := (u_facts hfc hkC hall hi).1
  have fin : ∀ H' : Heap, H'[a]? = some (cell.setSlot f.slot v) → (∀ q, q ≠ a → H'[q]? = H[q]?) → va_P D vwCl (ws.set q0 (a, .inr (ci, fs.set k v))) H' := by
    intro H' e1 e3
    rw [hsl] at e1
    exact hP.set hD he ⟨_, hc, t_OB.to (V := updV (vp_V fs) k v) ⟨_, e1, q2, q3, t_set q4 hap hk v⟩ (fun j _ => vp_updV_set hl v j)⟩ e3
  have h6 := u_fits hfc hkC hkind hall hi hd hn hfit
  rcases hfin with hfin | ⟨hini, hdecl⟩
  · have hlay := hts _ (hin _ (u_in_lay hk))
    unfold u_lay at hlay
    rw [if_neg (by rw [hfin]; decide)] at hlay
    have h7 := u_store hfc hkC hkind hlay hi hd hn hfit
    exact W.putK hx hb (f := f) ⟨hown, hlink, ⟨_, _, _, hi⟩, hst⟩ (by rw [q2]; exact h7) q1 q3 (by rw [hsl]; exact k2_hasslot (q4 k hk)) rfl rfl hdg fun H' e1 e2 e3 => kk H' _ (fin H' e1 e3) (hS0.put e2 e3 (hD.2 q0 _ he)) e2
  · by_cases hf2 : ((qcl ci).2.1 k).2.2.2 = true
    · have hlay := hts _ (hin _ (u_in_lay hk))
      unfold u_lay at hlay
      rw [if_pos hf2] at hlay
      have hcf : m.cls = cf := by
        obtain ⟨_, _, c', _, _, _, -, -, hf', -, -, -, hown2, -⟩ := Cond.laysFinal_spec hlay
        have e1 : c' = cf := by have := hi.symm.trans hf'; simp at this; exact this.1.symm
        rw [hdecl] at hown2
        rw [← e1]; exact Option.some.inj (hown.symm.trans hown2)
      exact W.putFinK hx hb hown hlink hi hst hcf hini (by rw [q2]; exact h6) q1 q3 (by rw [hsl]; exact k2_hasslot (q4 k hk)) rfl rfl hdg fun H' e1 e2 e3 => kk H' _ (fin H' e1 e3) (hS0.put e2 e3 (hD.2 q0 _ he)) e2
    · have hlay := hts _ (hin _ (u_in_lay hk))
      unfold u_lay at hlay
      rw [if_neg hf2] at hlay
      have h7 := u_store hfc hkC hkind hlay hi hd hn hfit
      exact W.putK hx hb (f := f) ⟨hown, hlink, ⟨_, _, _, hi⟩, hst⟩ (by rw [q2]; exact h7) q1 q3 (by rw [hsl]; exact k2_hasslot (q4 k hk)) rfl rfl hdg fun H' e1 e2 e3 => kk H' _ (fin H' e1 e3) (hS0.put e2 e3 (hD.2 q0 _ he)) e2
theorem qr_ist (hx : p.tables.exec = Jvm.exec) (hb : c.code = cc) (hK : va_K D vwCl tys s) (hP : va_P D vwCl ws H) (hD : va_D A ws) (hS : va_S A H0 H locs) (q0 t0 : Nat) {a : Nat} {cA : ClassId} {n : Nat} {f : Nat → Int32} (ha : ws[q0]? = some (a, .inl (cA, n, .inl f))) (ht : tys[t0]? = some (cA, .int)) {i x : Int32} (hin : vp_in i n) (hdg : decode cc pc = .ok (.iastore, 1))
    (kk : ∀ (H1 : Heap) (locs1 : List Loc), va_P D vwCl (ws.set q0 (a, .inl (cA, n, .inl (upd f i.toNatClampNeg x)))) H1 → va_S A H0 H1 locs1 → H1.size = H.size → W p l e R s m args below meth c H1 locs1 cells slots Q (F0 m (pc + 1) ls rest)) : W p l e R s m args below meth c H locs cells slots Q (F0 m pc ls (.int x :: .int i :: .ref a :: rest)) := by
  refine W.iast hx hb (hP q0 _ ha) ((hK.2 t0 _ ht).1 n (fun j => .int (f j))) (fun q => by cases q) (by show ¬ (i < 0 ∨ (arrV _ _ _).slots.size ≤ _); rw [arrV_size]; exact hin) rfl rfl hdg fun H1 ee z oq => ?_
  refine kk H1 _ (hP.set hD ha ?_ oq) (hS.put z oq (hD.2 q0 _ ha)) z
  show H1[a]? = some (vp_cell _ _)
  rw [ee, vp_cell_i, vp_cell_i, arrV_store]
  congr 2
  funext q
  by_cases hq : q = i.toNatClampNeg
  · simp [updV, upd, hq]
  · simp [updV, upd, hq]
theorem qr_ast (hx : p.tables.exec = Jvm.exec) (hb : c.code = cc) (hK : va_K D vwCl tys s) (hP : va_P D vwCl ws H) (hD : va_D A ws) (hS : va_S A H0 H locs) (q0 t0 qk ci : Nat) {a : Nat} {cA : ClassId} {r : vw_C} {n v : Nat} {vs : List Value} {f : Nat → Option Nat} (ha : ws[q0]? = some (a, .inl (cA, n, .inr (.inr (.inr (.inr f)))))) (ht : tys[t0]? = some (cA, .object r.1)) (hv : ws[qk]? = some (v, .inr (ci, vs))) (hc : vwCl[ci]? = some r) {i : Int32} (hin : vp_in i n) (hdg : decode cc pc = .ok (.aastore, 1))
    (kk : ∀ (H1 : Heap) (locs1 : List Loc), va_P D vwCl (ws.set q0 (a, .inl (cA, n, .inr (.inr (.inr (.inr (va_up f i.toNatClampNeg (some v)))))))) H1 → va_S A H0 H1 locs1 → H1.size = H.size → W p l e R s m args below meth c H1 locs1 cells slots Q (F0 m (pc + 1) ls rest)) : W p l e R s m args below meth c H locs cells slots Q (F0 m pc ls (.ref v :: .int i :: .ref a :: rest)) := by
  have hlt : i.toNatClampNeg < n := Nat.not_le.mp fun q => hin (Or.inr q)
  have h0 : ¬ i < 0 := fun q => hin (Or.inl q)
  obtain ⟨r', hr', cellV, g1, g2, g3, -⟩ := hP qk _ hv
  have hcls := (hK.1 ci r hc).2
  obtain ⟨kA, comp, k1, k2, k3, -⟩ := (hK.2 t0 _ ht).2
  have hcomp : comp = D.1 ci := Option.some.inj (k3.symm.trans hcls.1)
  subst hcomp
  obtain ⟨kC, hkC, -⟩ := hcls.2
  refine W.aast hx hb (hP q0 _ ha) (fun q h => by cases h) (fun h => by cases h) k1 k2 rfl hkC ⟨h0, by show _ < (arrV _ _ _).slots.size; rw [arrV_size]; exact hlt⟩ g1 (fun q h => by rw [g3] at h; cases h) (by rw [g2]; exact hkC) (by rw [g2]; exact va_assign hcls) rfl rfl hdg fun H1 ee z oq => ?_
  refine kk H1 _ (hP.set hD ha ?_ oq) (hS.put z oq (hD.2 q0 _ ha)) z
  show H1[a]? = some (vp_cell _ _)
  rw [ee, vp_cell_q, vp_cell_q, arrV_store]
  congr 2
  funext q
  by_cases hq : q = i.toNatClampNeg
  · simp [updV, va_up, va_rf, hq]
  · simp [updV, va_up, hq]
end QPUT

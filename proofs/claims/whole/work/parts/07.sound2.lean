/-! SOUNDNESS, SECOND PART: what the pure machine does in a step the machine does -/
section QSND
variable {p : Program} {l : Launch} {e : Env} {R : Room} {s : State} {m : MethodId} {args : Array Value} {below : List Frame} {meth : Method} {c : Code} {Q : State → Prop}
variable {al : Bool} {base : Nat} {D : va_G} {ca : Nat → ClassId} {cv : Nat → Value} {o : Nat} {cc : ByteArray} {cd : qC} {nL rc rs mc ms : Nat}
/-- what stands fast in a method -/
def qCtx (p : Program) (R : Room) (s : State) (m : MethodId) (args : Array Value) (meth : Method) (c : Code) (base : Nat) (D : va_G) (ca : Nat → ClassId) (cv : Nat → Value) (o : Nat) (ini : Bool) (cc : ByteArray) (nL mc ms d : Nat) : Prop :=
  p.tables.exec = Jvm.exec ∧ c.code = cc ∧ c.maxLocals = nL ∧ s.vm.findClass (qown o) = some m.cls ∧ (∀ w ∈ qG, w.before args s = true) ∧ va_K D vwCl (qtys ca) s ∧ qSt base cv s s.heap ∧ base ≤ s.heap.size ∧ (∀ j, (cv j).category = 1) ∧ (ini = true → meth.name = "<init>") ∧ 1 ≤ d ∧ d ≤ R.frames ∧ 40 * d ≤ R.locals ∧ mc ≤ R.cells ∧ ms ≤ R.slots
/-- from these rows, locals, stack and memory the machine comes to Q; rc, rs: the cells and slots made in the end, mc, ms: those that the method may make -/
def qGo (al : Bool) (p : Program) (l : Launch) (e : Env) (R : Room) (s : State) (m : MethodId) (args : Array Value) (below : List Frame) (meth : Method) (c : Code) (Q : State → Prop) (base : Nat) (D : va_G) (ca : Nat → ClassId) (cv : Nat → Value) (cd : qC) (nL rc rs mc ms : Nat) (pc : Nat) (L S : List Value) (μ : qM) : Prop :=
  (μ.2.2.2.2.1 ≤ rc ∧ μ.2.2.2.2.2 ≤ rs) ∧ ∀ (H : Heap) (locs : List Loc) (cells slots : Nat) (ls : Array Slot), va_P D vwCl (qW base ca cv μ) H → va_S (qA base) s.heap H locs → (al = true → H.size = base + μ.1.length) → qLs base cv ls nL L → cells + (rc - μ.2.2.2.2.1) = mc → slots + (rs - μ.2.2.2.2.2) = ms → W p l e R s m args below meth c H locs cells slots Q (F0 m (qbpc cd pc) ls (S.map (qtr base cv)))
theorem qGo.same {pc pc' : Nat} {L L' S S' : List Value} {μ : qM} (hk : qGo al p l e R s m args below meth c Q base D ca cv cd nL rc rs mc ms pc' L' S' μ)
    (st : ∀ (H : Heap) (locs : List Loc) (cells slots : Nat) (ls : Array Slot), va_P D vwCl (qW base ca cv μ) H → va_S (qA base) s.heap H locs → qLs base cv ls nL L → cells ≤ mc → slots ≤ ms → (∀ ls', qLs base cv ls' nL L' → W p l e R s m args below meth c H locs cells slots Q (F0 m (qbpc cd pc') ls' (S'.map (qtr base cv)))) → W p l e R s m args below meth c H locs cells slots Q (F0 m (qbpc cd pc) ls (S.map (qtr base cv)))) : qGo al p l e R s m args below meth c Q base D ca cv cd nL rc rs mc ms pc L S μ :=
  ⟨hk.1, fun H locs cells slots ls hP hS hz hl e1 e2 => st H locs cells slots ls hP hS hl (by omega) (by omega) (fun ls' hl' => hk.2 H locs cells slots ls' hP hS hz hl' e1 e2)⟩
/-- the memory changes, nothing is made -/
theorem qGo.mem {pc pc' : Nat} {L L' S S' : List Value} {μ μ' : qM} (hk : qGo al p l e R s m args below meth c Q base D ca cv cd nL rc rs mc ms pc' L' S' μ') (h1 : μ'.1 = μ.1) (h2 : μ'.2.2.2.2 = μ.2.2.2.2)
    (st : ∀ (H : Heap) (locs : List Loc) (cells slots : Nat) (ls : Array Slot), va_P D vwCl (qW base ca cv μ) H → va_S (qA base) s.heap H locs → qLs base cv ls nL L → cells ≤ mc → slots ≤ ms → (∀ H1 locs1 ls', va_P D vwCl (qW base ca cv μ') H1 → va_S (qA base) s.heap H1 locs1 → (al = true → H1.size = H.size) → qLs base cv ls' nL L' → W p l e R s m args below meth c H1 locs1 cells slots Q (F0 m (qbpc cd pc') ls' (S'.map (qtr base cv)))) → W p l e R s m args below meth c H locs cells slots Q (F0 m (qbpc cd pc) ls (S.map (qtr base cv)))) : qGo al p l e R s m args below meth c Q base D ca cv cd nL rc rs mc ms pc L S μ := by
  obtain ⟨g1, g2⟩ := hk
  rw [h2] at g1
  refine ⟨g1, fun H locs cells slots ls hP hS hz hl e1 e2 => st H locs cells slots ls hP hS hl (by omega) (by omega) (fun H1 locs1 ls' hP1 hS1 hz1 hl' => g2 H1 locs1 cells slots ls' hP1 hS1 (fun ha => ?_) hl' ?_ ?_)⟩
  · rw [hz1 ha, hz ha, h1]
  · rw [h2]; exact e1
  · rw [h2]; exact e2
theorem qcats_tr (hcv : ∀ j, (cv j).category = 1) (S : List Value) : ((S.map (qtr base cv)).map fun v => v.category).sum ≤ qcats S := by
  unfold qcats
  induction S with
  | nil => exact Nat.le_refl _
  | cons a S ih =>
    simp only [List.map_cons, List.sum_cons]
    have : (qtr base cv a).category ≤ a.category := by
      cases a with
      | ref x => cases x <;> exact Nat.le_refl _
      | retAddr j => rw [show qtr base cv (.retAddr j) = cv j from rfl, hcv j]; exact Nat.le_refl _
      | _ => exact Nat.le_refl _
    omega
variable {d : Nat} {ini : Bool} {k : qK} {cf : qF} {r : qR} {pc : Nat} {L S : List Value} {μ : qM}

theorem qs_iadd (C : qCtx p R s m args meth c base D ca cv o ini cc nL mc ms d)  (hd : decode cc (qbpc cd pc) = .ok (.iadd, 1)) (hn : qbpc cd (pc + 1) = qbpc cd pc + 1) (hk : ∀ pc L S μ, k pc L S μ = some r → qGo al p l e R s m args below meth c Q base D ca cv cd nL rc rs mc ms pc L S μ) (h : qop al cf (.iadd) pc L S μ k = some r) : qGo al p l e R s m args below meth c Q base D ca cv cd nL rc rs mc ms pc L S μ := by
  obtain ⟨hx, hb, hml, hown, hts, hK, hSt, hbs, hcv, hini, hd1, hfr, hlo, hmc, hms⟩ := C
  simp only [qop, q2] at h
  split at h
  · rename_i y x S1
    exact (hk _ _ _ _ h).same fun H locs cells slots ls hP hS hl hc hs kk => lv_iadd hx hb hd (by rw [← hn]; exact kk ls hl)
  · cases h
theorem qs_isub (C : qCtx p R s m args meth c base D ca cv o ini cc nL mc ms d)  (hd : decode cc (qbpc cd pc) = .ok (.isub, 1)) (hn : qbpc cd (pc + 1) = qbpc cd pc + 1) (hk : ∀ pc L S μ, k pc L S μ = some r → qGo al p l e R s m args below meth c Q base D ca cv cd nL rc rs mc ms pc L S μ) (h : qop al cf (.isub) pc L S μ k = some r) : qGo al p l e R s m args below meth c Q base D ca cv cd nL rc rs mc ms pc L S μ := by
  obtain ⟨hx, hb, hml, hown, hts, hK, hSt, hbs, hcv, hini, hd1, hfr, hlo, hmc, hms⟩ := C
  simp only [qop, q2] at h
  split at h
  · rename_i y x S1
    exact (hk _ _ _ _ h).same fun H locs cells slots ls hP hS hl hc hs kk => lv_isub hx hb hd (by rw [← hn]; exact kk ls hl)
  · cases h
theorem qs_imul (C : qCtx p R s m args meth c base D ca cv o ini cc nL mc ms d)  (hd : decode cc (qbpc cd pc) = .ok (.imul, 1)) (hn : qbpc cd (pc + 1) = qbpc cd pc + 1) (hk : ∀ pc L S μ, k pc L S μ = some r → qGo al p l e R s m args below meth c Q base D ca cv cd nL rc rs mc ms pc L S μ) (h : qop al cf (.imul) pc L S μ k = some r) : qGo al p l e R s m args below meth c Q base D ca cv cd nL rc rs mc ms pc L S μ := by
  obtain ⟨hx, hb, hml, hown, hts, hK, hSt, hbs, hcv, hini, hd1, hfr, hlo, hmc, hms⟩ := C
  simp only [qop, q2] at h
  split at h
  · rename_i y x S1
    exact (hk _ _ _ _ h).same fun H locs cells slots ls hP hS hl hc hs kk => lv_imul hx hb hd (by rw [← hn]; exact kk ls hl)
  · cases h
theorem qs_iand (C : qCtx p R s m args meth c base D ca cv o ini cc nL mc ms d)  (hd : decode cc (qbpc cd pc) = .ok (.iand, 1)) (hn : qbpc cd (pc + 1) = qbpc cd pc + 1) (hk : ∀ pc L S μ, k pc L S μ = some r → qGo al p l e R s m args below meth c Q base D ca cv cd nL rc rs mc ms pc L S μ) (h : qop al cf (.iand) pc L S μ k = some r) : qGo al p l e R s m args below meth c Q base D ca cv cd nL rc rs mc ms pc L S μ := by
  obtain ⟨hx, hb, hml, hown, hts, hK, hSt, hbs, hcv, hini, hd1, hfr, hlo, hmc, hms⟩ := C
  simp only [qop, q2] at h
  split at h
  · rename_i y x S1
    exact (hk _ _ _ _ h).same fun H locs cells slots ls hP hS hl hc hs kk => lv_iand hx hb hd (by rw [← hn]; exact kk ls hl)
  · cases h
theorem qs_ior (C : qCtx p R s m args meth c base D ca cv o ini cc nL mc ms d)  (hd : decode cc (qbpc cd pc) = .ok (.ior, 1)) (hn : qbpc cd (pc + 1) = qbpc cd pc + 1) (hk : ∀ pc L S μ, k pc L S μ = some r → qGo al p l e R s m args below meth c Q base D ca cv cd nL rc rs mc ms pc L S μ) (h : qop al cf (.ior) pc L S μ k = some r) : qGo al p l e R s m args below meth c Q base D ca cv cd nL rc rs mc ms pc L S μ := by
  obtain ⟨hx, hb, hml, hown, hts, hK, hSt, hbs, hcv, hini, hd1, hfr, hlo, hmc, hms⟩ := C
  simp only [qop, q2] at h
  split at h
  · rename_i y x S1
    exact (hk _ _ _ _ h).same fun H locs cells slots ls hP hS hl hc hs kk => lv_ior hx hb hd (by rw [← hn]; exact kk ls hl)
  · cases h
theorem qs_ixor (C : qCtx p R s m args meth c base D ca cv o ini cc nL mc ms d)  (hd : decode cc (qbpc cd pc) = .ok (.ixor, 1)) (hn : qbpc cd (pc + 1) = qbpc cd pc + 1) (hk : ∀ pc L S μ, k pc L S μ = some r → qGo al p l e R s m args below meth c Q base D ca cv cd nL rc rs mc ms pc L S μ) (h : qop al cf (.ixor) pc L S μ k = some r) : qGo al p l e R s m args below meth c Q base D ca cv cd nL rc rs mc ms pc L S μ := by
  obtain ⟨hx, hb, hml, hown, hts, hK, hSt, hbs, hcv, hini, hd1, hfr, hlo, hmc, hms⟩ := C
  simp only [qop, q2] at h
  split at h
  · rename_i y x S1
    exact (hk _ _ _ _ h).same fun H locs cells slots ls hP hS hl hc hs kk => lv_ixor hx hb hd (by rw [← hn]; exact kk ls hl)
  · cases h
theorem qs_ishl (C : qCtx p R s m args meth c base D ca cv o ini cc nL mc ms d)  (hd : decode cc (qbpc cd pc) = .ok (.ishl, 1)) (hn : qbpc cd (pc + 1) = qbpc cd pc + 1) (hk : ∀ pc L S μ, k pc L S μ = some r → qGo al p l e R s m args below meth c Q base D ca cv cd nL rc rs mc ms pc L S μ) (h : qop al cf (.ishl) pc L S μ k = some r) : qGo al p l e R s m args below meth c Q base D ca cv cd nL rc rs mc ms pc L S μ := by
  obtain ⟨hx, hb, hml, hown, hts, hK, hSt, hbs, hcv, hini, hd1, hfr, hlo, hmc, hms⟩ := C
  simp only [qop, q2] at h
  split at h
  · rename_i y x S1
    exact (hk _ _ _ _ h).same fun H locs cells slots ls hP hS hl hc hs kk => lv_ishl hx hb hd (by rw [← hn]; exact kk ls hl)
  · cases h
theorem qs_ishr (C : qCtx p R s m args meth c base D ca cv o ini cc nL mc ms d)  (hd : decode cc (qbpc cd pc) = .ok (.ishr, 1)) (hn : qbpc cd (pc + 1) = qbpc cd pc + 1) (hk : ∀ pc L S μ, k pc L S μ = some r → qGo al p l e R s m args below meth c Q base D ca cv cd nL rc rs mc ms pc L S μ) (h : qop al cf (.ishr) pc L S μ k = some r) : qGo al p l e R s m args below meth c Q base D ca cv cd nL rc rs mc ms pc L S μ := by
  obtain ⟨hx, hb, hml, hown, hts, hK, hSt, hbs, hcv, hini, hd1, hfr, hlo, hmc, hms⟩ := C
  simp only [qop, q2] at h
  split at h
  · rename_i y x S1
    exact (hk _ _ _ _ h).same fun H locs cells slots ls hP hS hl hc hs kk => lv_ishr hx hb hd (by rw [← hn]; exact kk ls hl)
  · cases h
theorem qs_iushr (C : qCtx p R s m args meth c base D ca cv o ini cc nL mc ms d)  (hd : decode cc (qbpc cd pc) = .ok (.iushr, 1)) (hn : qbpc cd (pc + 1) = qbpc cd pc + 1) (hk : ∀ pc L S μ, k pc L S μ = some r → qGo al p l e R s m args below meth c Q base D ca cv cd nL rc rs mc ms pc L S μ) (h : qop al cf (.iushr) pc L S μ k = some r) : qGo al p l e R s m args below meth c Q base D ca cv cd nL rc rs mc ms pc L S μ := by
  obtain ⟨hx, hb, hml, hown, hts, hK, hSt, hbs, hcv, hini, hd1, hfr, hlo, hmc, hms⟩ := C
  simp only [qop, q2] at h
  split at h
  · exact (hk _ _ _ _ h).same fun H locs cells slots ls hP hS hl hc hs kk => lv_iushr hx hb hd rfl (by rw [← hn]; exact kk ls hl)
  · cases h
theorem qs_idiv (C : qCtx p R s m args meth c base D ca cv o ini cc nL mc ms d)  (hd : decode cc (qbpc cd pc) = .ok (.idiv, 1)) (hn : qbpc cd (pc + 1) = qbpc cd pc + 1) (hk : ∀ pc L S μ, k pc L S μ = some r → qGo al p l e R s m args below meth c Q base D ca cv cd nL rc rs mc ms pc L S μ) (h : qop al cf (.idiv) pc L S μ k = some r) : qGo al p l e R s m args below meth c Q base D ca cv cd nL rc rs mc ms pc L S μ := by
  obtain ⟨hx, hb, hml, hown, hts, hK, hSt, hbs, hcv, hini, hd1, hfr, hlo, hmc, hms⟩ := C
  simp only [qop, q2] at h
  split at h
  · split at h
    · cases h
    · rename_i hne
      exact (hk _ _ _ _ h).same fun H locs cells slots ls hP hS hl hc hs kk => lv_idiv hx hb hd hne (by rw [← hn]; exact kk ls hl)
  · cases h
theorem qs_irem (C : qCtx p R s m args meth c base D ca cv o ini cc nL mc ms d)  (hd : decode cc (qbpc cd pc) = .ok (.irem, 1)) (hn : qbpc cd (pc + 1) = qbpc cd pc + 1) (hk : ∀ pc L S μ, k pc L S μ = some r → qGo al p l e R s m args below meth c Q base D ca cv cd nL rc rs mc ms pc L S μ) (h : qop al cf (.irem) pc L S μ k = some r) : qGo al p l e R s m args below meth c Q base D ca cv cd nL rc rs mc ms pc L S μ := by
  obtain ⟨hx, hb, hml, hown, hts, hK, hSt, hbs, hcv, hini, hd1, hfr, hlo, hmc, hms⟩ := C
  simp only [qop, q2] at h
  split at h
  · split at h
    · cases h
    · rename_i hne
      exact (hk _ _ _ _ h).same fun H locs cells slots ls hP hS hl hc hs kk => lv_irem hx hb hd hne (by rw [← hn]; exact kk ls hl)
  · cases h
theorem qs_ineg (C : qCtx p R s m args meth c base D ca cv o ini cc nL mc ms d)  (hd : decode cc (qbpc cd pc) = .ok (.ineg, 1)) (hn : qbpc cd (pc + 1) = qbpc cd pc + 1) (hk : ∀ pc L S μ, k pc L S μ = some r → qGo al p l e R s m args below meth c Q base D ca cv cd nL rc rs mc ms pc L S μ) (h : qop al cf (.ineg) pc L S μ k = some r) : qGo al p l e R s m args below meth c Q base D ca cv cd nL rc rs mc ms pc L S μ := by
  obtain ⟨hx, hb, hml, hown, hts, hK, hSt, hbs, hcv, hini, hd1, hfr, hlo, hmc, hms⟩ := C
  simp only [qop, q1] at h
  split at h
  · rename_i x S1
    exact (hk _ _ _ _ h).same fun H locs cells slots ls hP hS hl hc hs kk => lv_ineg hx hb hd (by rw [← hn]; exact kk ls hl)
  · cases h
theorem qs_land (C : qCtx p R s m args meth c base D ca cv o ini cc nL mc ms d)  (hd : decode cc (qbpc cd pc) = .ok (.land, 1)) (hn : qbpc cd (pc + 1) = qbpc cd pc + 1) (hk : ∀ pc L S μ, k pc L S μ = some r → qGo al p l e R s m args below meth c Q base D ca cv cd nL rc rs mc ms pc L S μ) (h : qop al cf (.land) pc L S μ k = some r) : qGo al p l e R s m args below meth c Q base D ca cv cd nL rc rs mc ms pc L S μ := by
  obtain ⟨hx, hb, hml, hown, hts, hK, hSt, hbs, hcv, hini, hd1, hfr, hlo, hmc, hms⟩ := C
  simp only [qop, ql2] at h
  split at h
  · rename_i y x S1
    exact (hk _ _ _ _ h).same fun H locs cells slots ls hP hS hl hc hs kk => lv_land hx hb hd (by rw [← hn]; exact kk ls hl)
  · cases h
theorem qs_lor (C : qCtx p R s m args meth c base D ca cv o ini cc nL mc ms d)  (hd : decode cc (qbpc cd pc) = .ok (.lor, 1)) (hn : qbpc cd (pc + 1) = qbpc cd pc + 1) (hk : ∀ pc L S μ, k pc L S μ = some r → qGo al p l e R s m args below meth c Q base D ca cv cd nL rc rs mc ms pc L S μ) (h : qop al cf (.lor) pc L S μ k = some r) : qGo al p l e R s m args below meth c Q base D ca cv cd nL rc rs mc ms pc L S μ := by
  obtain ⟨hx, hb, hml, hown, hts, hK, hSt, hbs, hcv, hini, hd1, hfr, hlo, hmc, hms⟩ := C
  simp only [qop, ql2] at h
  split at h
  · rename_i y x S1
    exact (hk _ _ _ _ h).same fun H locs cells slots ls hP hS hl hc hs kk => lv_lor hx hb hd (by rw [← hn]; exact kk ls hl)
  · cases h
theorem qs_lshl (C : qCtx p R s m args meth c base D ca cv o ini cc nL mc ms d)  (hd : decode cc (qbpc cd pc) = .ok (.lshl, 1)) (hn : qbpc cd (pc + 1) = qbpc cd pc + 1) (hk : ∀ pc L S μ, k pc L S μ = some r → qGo al p l e R s m args below meth c Q base D ca cv cd nL rc rs mc ms pc L S μ) (h : qop al cf (.lshl) pc L S μ k = some r) : qGo al p l e R s m args below meth c Q base D ca cv cd nL rc rs mc ms pc L S μ := by
  obtain ⟨hx, hb, hml, hown, hts, hK, hSt, hbs, hcv, hini, hd1, hfr, hlo, hmc, hms⟩ := C
  simp only [qop, qli] at h
  split at h
  · exact (hk _ _ _ _ h).same fun H locs cells slots ls hP hS hl hc hs kk => lv_lshl hx hb hd rfl (by rw [← hn]; exact kk ls hl)
  · cases h
theorem qs_lshr (C : qCtx p R s m args meth c base D ca cv o ini cc nL mc ms d)  (hd : decode cc (qbpc cd pc) = .ok (.lshr, 1)) (hn : qbpc cd (pc + 1) = qbpc cd pc + 1) (hk : ∀ pc L S μ, k pc L S μ = some r → qGo al p l e R s m args below meth c Q base D ca cv cd nL rc rs mc ms pc L S μ) (h : qop al cf (.lshr) pc L S μ k = some r) : qGo al p l e R s m args below meth c Q base D ca cv cd nL rc rs mc ms pc L S μ := by
  obtain ⟨hx, hb, hml, hown, hts, hK, hSt, hbs, hcv, hini, hd1, hfr, hlo, hmc, hms⟩ := C
  simp only [qop, qli] at h
  split at h
  · exact (hk _ _ _ _ h).same fun H locs cells slots ls hP hS hl hc hs kk => lv_lshr hx hb hd rfl (by rw [← hn]; exact kk ls hl)
  · cases h
theorem qs_lcmp (C : qCtx p R s m args meth c base D ca cv o ini cc nL mc ms d)  (hd : decode cc (qbpc cd pc) = .ok (.lcmp, 1)) (hn : qbpc cd (pc + 1) = qbpc cd pc + 1) (hk : ∀ pc L S μ, k pc L S μ = some r → qGo al p l e R s m args below meth c Q base D ca cv cd nL rc rs mc ms pc L S μ) (h : qop al cf (.lcmp) pc L S μ k = some r) : qGo al p l e R s m args below meth c Q base D ca cv cd nL rc rs mc ms pc L S μ := by
  obtain ⟨hx, hb, hml, hown, hts, hK, hSt, hbs, hcv, hini, hd1, hfr, hlo, hmc, hms⟩ := C
  simp only [qop, ql2] at h
  split at h
  · exact (hk _ _ _ _ h).same fun H locs cells slots ls hP hS hl hc hs kk => W.lcmp hx hb hd (by rw [← hn]; exact kk ls hl)
  · cases h
theorem qs_i2l (C : qCtx p R s m args meth c base D ca cv o ini cc nL mc ms d)  (hd : decode cc (qbpc cd pc) = .ok (.i2l, 1)) (hn : qbpc cd (pc + 1) = qbpc cd pc + 1) (hk : ∀ pc L S μ, k pc L S μ = some r → qGo al p l e R s m args below meth c Q base D ca cv cd nL rc rs mc ms pc L S μ) (h : qop al cf (.i2l) pc L S μ k = some r) : qGo al p l e R s m args below meth c Q base D ca cv cd nL rc rs mc ms pc L S μ := by
  obtain ⟨hx, hb, hml, hown, hts, hK, hSt, hbs, hcv, hini, hd1, hfr, hlo, hmc, hms⟩ := C
  simp only [qop, q1] at h
  split at h
  · exact (hk _ _ _ _ h).same fun H locs cells slots ls hP hS hl hc hs kk => lv_i2l hx hb hd rfl (by rw [← hn]; exact kk ls hl)
  · cases h
theorem qs_l2i (C : qCtx p R s m args meth c base D ca cv o ini cc nL mc ms d)  (hd : decode cc (qbpc cd pc) = .ok (.l2i, 1)) (hn : qbpc cd (pc + 1) = qbpc cd pc + 1) (hk : ∀ pc L S μ, k pc L S μ = some r → qGo al p l e R s m args below meth c Q base D ca cv cd nL rc rs mc ms pc L S μ) (h : qop al cf (.l2i) pc L S μ k = some r) : qGo al p l e R s m args below meth c Q base D ca cv cd nL rc rs mc ms pc L S μ := by
  obtain ⟨hx, hb, hml, hown, hts, hK, hSt, hbs, hcv, hini, hd1, hfr, hlo, hmc, hms⟩ := C
  simp only [qop, ql1] at h
  split at h
  · exact (hk _ _ _ _ h).same fun H locs cells slots ls hP hS hl hc hs kk => lv_l2i hx hb hd rfl (by rw [← hn]; exact kk ls hl)
  · cases h
theorem qs_i2c (C : qCtx p R s m args meth c base D ca cv o ini cc nL mc ms d)  (hd : decode cc (qbpc cd pc) = .ok (.i2c, 1)) (hn : qbpc cd (pc + 1) = qbpc cd pc + 1) (hk : ∀ pc L S μ, k pc L S μ = some r → qGo al p l e R s m args below meth c Q base D ca cv cd nL rc rs mc ms pc L S μ) (h : qop al cf (.i2c) pc L S μ k = some r) : qGo al p l e R s m args below meth c Q base D ca cv cd nL rc rs mc ms pc L S μ := by
  obtain ⟨hx, hb, hml, hown, hts, hK, hSt, hbs, hcv, hini, hd1, hfr, hlo, hmc, hms⟩ := C
  simp only [qop, q1] at h
  split at h
  · exact (hk _ _ _ _ h).same fun H locs cells slots ls hP hS hl hc hs kk => lv_i2c hx hb hd rfl (by rw [← hn]; exact kk ls hl)
  · cases h
theorem qs_iconst (C : qCtx p R s m args meth c base D ca cv o ini cc nL mc ms d) {n : Int} (hd : decode cc (qbpc cd pc) = .ok (.iconst n, 1)) (hn : qbpc cd (pc + 1) = qbpc cd pc + 1) (hk : ∀ pc L S μ, k pc L S μ = some r → qGo al p l e R s m args below meth c Q base D ca cv cd nL rc rs mc ms pc L S μ) (h : qop al cf (.iconst n) pc L S μ k = some r) : qGo al p l e R s m args below meth c Q base D ca cv cd nL rc rs mc ms pc L S μ := by
  obtain ⟨hx, hb, hml, hown, hts, hK, hSt, hbs, hcv, hini, hd1, hfr, hlo, hmc, hms⟩ := C
  exact (hk _ _ _ _ h).same fun H locs cells slots ls hP hS hl hc hs kk => lv_iconst hx hb hd rfl (by rw [← hn]; exact kk ls hl)
theorem qs_bipush (C : qCtx p R s m args meth c base D ca cv o ini cc nL mc ms d) {n z : Int} (hz : (Int8.ofInt n).toInt32 = Int32.ofInt z) (hd : decode cc (qbpc cd pc) = .ok (.bipush n, 2)) (hn : qbpc cd (pc + 1) = qbpc cd pc + 2) (hk : ∀ pc L S μ, k pc L S μ = some r → qGo al p l e R s m args below meth c Q base D ca cv cd nL rc rs mc ms pc L S μ) (h : qop al cf (.iconst z) pc L S μ k = some r) : qGo al p l e R s m args below meth c Q base D ca cv cd nL rc rs mc ms pc L S μ := by
  obtain ⟨hx, hb, hml, hown, hts, hK, hSt, hbs, hcv, hini, hd1, hfr, hlo, hmc, hms⟩ := C
  exact (hk _ _ _ _ h).same fun H locs cells slots ls hP hS hl hc hs kk => lv_bipush hx hb hd hz (by rw [← hn]; exact kk ls hl)
theorem qs_sipush (C : qCtx p R s m args meth c base D ca cv o ini cc nL mc ms d) {n z : Int} (hz : (Int16.ofInt n).toInt32 = Int32.ofInt z) (hd : decode cc (qbpc cd pc) = .ok (.sipush n, 3)) (hn : qbpc cd (pc + 1) = qbpc cd pc + 3) (hk : ∀ pc L S μ, k pc L S μ = some r → qGo al p l e R s m args below meth c Q base D ca cv cd nL rc rs mc ms pc L S μ) (h : qop al cf (.iconst z) pc L S μ k = some r) : qGo al p l e R s m args below meth c Q base D ca cv cd nL rc rs mc ms pc L S μ := by
  obtain ⟨hx, hb, hml, hown, hts, hK, hSt, hbs, hcv, hini, hd1, hfr, hlo, hmc, hms⟩ := C
  exact (hk _ _ _ _ h).same fun H locs cells slots ls hP hS hl hc hs kk => lv_sipush hx hb hd hz (by rw [← hn]; exact kk ls hl)
theorem qs_lconst (C : qCtx p R s m args meth c base D ca cv o ini cc nL mc ms d) {n : Fin 2} {z : Int} (hz : Int64.ofNat (n : Nat) = Int64.ofInt z) (hd : decode cc (qbpc cd pc) = .ok (.lconst n, 1)) (hn : qbpc cd (pc + 1) = qbpc cd pc + 1) (hk : ∀ pc L S μ, k pc L S μ = some r → qGo al p l e R s m args below meth c Q base D ca cv cd nL rc rs mc ms pc L S μ) (h : qop al cf (.goto_w z) pc L S μ k = some r) : qGo al p l e R s m args below meth c Q base D ca cv cd nL rc rs mc ms pc L S μ := by
  obtain ⟨hx, hb, hml, hown, hts, hK, hSt, hbs, hcv, hini, hd1, hfr, hlo, hmc, hms⟩ := C
  exact (hk _ _ _ _ h).same fun H locs cells slots ls hP hS hl hc hs kk => lv_lconst hx hb hd hz (by rw [← hn]; exact kk ls hl)
theorem qs_ldci (C : qCtx p R s m args meth c base D ca cv o ini cc nL mc ms d) {j : Nat} {z : Int} (hq : qcpl o j = (2, z)) (hd : decode cc (qbpc cd pc) = .ok (.ldc j, 2)) (hn : qbpc cd (pc + 1) = qbpc cd pc + 2) (hk : ∀ pc L S μ, k pc L S μ = some r → qGo al p l e R s m args below meth c Q base D ca cv cd nL rc rs mc ms pc L S μ) (h : qop al cf (.iconst z) pc L S μ k = some r) : qGo al p l e R s m args below meth c Q base D ca cv cd nL rc rs mc ms pc L S μ := by
  obtain ⟨hx, hb, hml, hown, hts, hK, hSt, hbs, hcv, hini, hd1, hfr, hlo, hmc, hms⟩ := C
  have hw := (qcp_ok hq (by decide)).1 (.constant (qown o) j (Int32.ofInt z)) (by simp [qcw])
  exact (hk _ _ _ _ h).same fun H locs cells slots ls hP hS hl hc hs kk => lv_ldc hx hb hown (hts _ hw) hd (by rw [← hn]; exact kk ls hl)
theorem qs_ldc_wi (C : qCtx p R s m args meth c base D ca cv o ini cc nL mc ms d) {j : Nat} {z : Int} (hq : qcpl o j = (2, z)) (hd : decode cc (qbpc cd pc) = .ok (.ldc_w j, 3)) (hn : qbpc cd (pc + 1) = qbpc cd pc + 3) (hk : ∀ pc L S μ, k pc L S μ = some r → qGo al p l e R s m args below meth c Q base D ca cv cd nL rc rs mc ms pc L S μ) (h : qop al cf (.iconst z) pc L S μ k = some r) : qGo al p l e R s m args below meth c Q base D ca cv cd nL rc rs mc ms pc L S μ := by
  obtain ⟨hx, hb, hml, hown, hts, hK, hSt, hbs, hcv, hini, hd1, hfr, hlo, hmc, hms⟩ := C
  have hw := (qcp_ok hq (by decide)).1 (.constant (qown o) j (Int32.ofInt z)) (by simp [qcw])
  exact (hk _ _ _ _ h).same fun H locs cells slots ls hP hS hl hc hs kk => lv_ldcw hx hb hown (hts _ hw) hd (by rw [← hn]; exact kk ls hl)
theorem qs_ldc2 (C : qCtx p R s m args meth c base D ca cv o ini cc nL mc ms d) {j : Nat} {z : Int} (hq : qcpl o j = (3, z)) (hd : decode cc (qbpc cd pc) = .ok (.ldc2_w j, 3)) (hn : qbpc cd (pc + 1) = qbpc cd pc + 3) (hk : ∀ pc L S μ, k pc L S μ = some r → qGo al p l e R s m args below meth c Q base D ca cv cd nL rc rs mc ms pc L S μ) (h : qop al cf (.goto_w z) pc L S μ k = some r) : qGo al p l e R s m args below meth c Q base D ca cv cd nL rc rs mc ms pc L S μ := by
  obtain ⟨hx, hb, hml, hown, hts, hK, hSt, hbs, hcv, hini, hd1, hfr, hlo, hmc, hms⟩ := C
  have hw := (qcp_ok hq (by decide)).1 (.constantLong (qown o) j (Int64.ofInt z)) (by simp [qcw])
  exact (hk _ _ _ _ h).same fun H locs cells slots ls hP hS hl hc hs kk => lv_ldc2 hx hb hown (hts _ hw) hd (by rw [← hn]; exact kk ls hl)
theorem qs_ldcs (C : qCtx p R s m args meth c base D ca cv o ini cc nL mc ms d) {j : Nat} {z : Int} (hq : qcpl o j = (4, z)) (hd : decode cc (qbpc cd pc) = .ok (.ldc j, 2)) (hn : qbpc cd (pc + 1) = qbpc cd pc + 2) (hk : ∀ pc L S μ, k pc L S μ = some r → qGo al p l e R s m args below meth c Q base D ca cv cd nL rc rs mc ms pc L S μ) (h : qop al cf (.jsr z) pc L S μ k = some r) : qGo al p l e R s m args below meth c Q base D ca cv cd nL rc rs mc ms pc L S μ := by
  obtain ⟨hx, hb, hml, hown, hts, hK, hSt, hbs, hcv, hini, hd1, hfr, hlo, hmc, hms⟩ := C
  have hcb := (qcp_ok hq (by decide)).2.2
  simp only [qcb, Bool.and_eq_true, decide_eq_true_eq] at hcb
  obtain ⟨-, hz1, hz2, hz3, hz4⟩ := hcb
  obtain ⟨q, v, e1, e2, e3, -⟩ := hSt.2.1 (z.toNat - 10) (by omega)
  rw [hz3, hz4] at e3
  rw [show 10 + (z.toNat - 10) = z.toNat by omega] at e1
  have hcv2 : qtr base cv (.retAddr z.toNat) = .ref q := e1
  simp only [qop] at h
  refine (hk _ _ _ _ h).same fun H locs cells slots ls hP hS hl hc hs kk => ?_
  have kk2 := kk ls hl
  rw [List.map_cons, hcv2, hn] at kk2
  exact va_ldcS hx hb hown e3 hd kk2
theorem qs_ldc_ws (C : qCtx p R s m args meth c base D ca cv o ini cc nL mc ms d) {j : Nat} {z : Int} (hq : qcpl o j = (4, z)) (hd : decode cc (qbpc cd pc) = .ok (.ldc_w j, 3)) (hn : qbpc cd (pc + 1) = qbpc cd pc + 3) (hk : ∀ pc L S μ, k pc L S μ = some r → qGo al p l e R s m args below meth c Q base D ca cv cd nL rc rs mc ms pc L S μ) (h : qop al cf (.jsr z) pc L S μ k = some r) : qGo al p l e R s m args below meth c Q base D ca cv cd nL rc rs mc ms pc L S μ := by
  obtain ⟨hx, hb, hml, hown, hts, hK, hSt, hbs, hcv, hini, hd1, hfr, hlo, hmc, hms⟩ := C
  have hcb := (qcp_ok hq (by decide)).2.2
  simp only [qcb, Bool.and_eq_true, decide_eq_true_eq] at hcb
  obtain ⟨-, hz1, hz2, hz3, hz4⟩ := hcb
  obtain ⟨q, v, e1, e2, e3, -⟩ := hSt.2.1 (z.toNat - 10) (by omega)
  rw [hz3, hz4] at e3
  rw [show 10 + (z.toNat - 10) = z.toNat by omega] at e1
  have hcv2 : qtr base cv (.retAddr z.toNat) = .ref q := e1
  simp only [qop] at h
  refine (hk _ _ _ _ h).same fun H locs cells slots ls hP hS hl hc hs kk => ?_
  have kk2 := kk ls hl
  rw [List.map_cons, hcv2, hn] at kk2
  intro T hT X
  obtain ⟨t, a1, b1⟩ := kk2 T hT X
  exact ⟨t, X.ldcStringW hx hown (a := q) e3.1 e3.2 (g := F0 m (qbpc cd pc) ls (S.map (qtr base cv))) rfl (by rw [hb]; exact hd) t a1, b1⟩
theorem qs_iload (C : qCtx p R s m args meth c base D ca cv o ini cc nL mc ms d) {j : Nat} (hd : decode cc (qbpc cd pc) = .ok (.iload j, 2)) (hn : qbpc cd (pc + 1) = qbpc cd pc + 2) (hk : ∀ pc L S μ, k pc L S μ = some r → qGo al p l e R s m args below meth c Q base D ca cv cd nL rc rs mc ms pc L S μ) (h : qop al cf (.iload j) pc L S μ k = some r) : qGo al p l e R s m args below meth c Q base D ca cv cd nL rc rs mc ms pc L S μ := by
  obtain ⟨hx, hb, hml, hown, hts, hK, hSt, hbs, hcv, hini, hd1, hfr, hlo, hmc, hms⟩ := C
  simp only [qop] at h
  split at h
  · rename_i x hq
    exact (hk _ _ _ _ h).same fun H locs cells slots ls hP hS hl hc hs kk => lv_iload hx hb hd (hl.at hq (by simp)) (by rw [← hn]; exact kk ls hl)
  · cases h
theorem qs_iload_n (C : qCtx p R s m args meth c base D ca cv o ini cc nL mc ms d) {j : Fin 4} (hd : decode cc (qbpc cd pc) = .ok (.iload_n j, 1)) (hn : qbpc cd (pc + 1) = qbpc cd pc + 1) (hk : ∀ pc L S μ, k pc L S μ = some r → qGo al p l e R s m args below meth c Q base D ca cv cd nL rc rs mc ms pc L S μ) (h : qop al cf (.iload j) pc L S μ k = some r) : qGo al p l e R s m args below meth c Q base D ca cv cd nL rc rs mc ms pc L S μ := by
  obtain ⟨hx, hb, hml, hown, hts, hK, hSt, hbs, hcv, hini, hd1, hfr, hlo, hmc, hms⟩ := C
  simp only [qop] at h
  split at h
  · rename_i x hq
    exact (hk _ _ _ _ h).same fun H locs cells slots ls hP hS hl hc hs kk => lv_iload_n hx hb hd rfl (hl.at hq (by simp)) (by rw [← hn]; exact kk ls hl)
  · cases h
theorem qs_lload (C : qCtx p R s m args meth c base D ca cv o ini cc nL mc ms d) {j : Nat} (hd : decode cc (qbpc cd pc) = .ok (.lload j, 2)) (hn : qbpc cd (pc + 1) = qbpc cd pc + 2) (hk : ∀ pc L S μ, k pc L S μ = some r → qGo al p l e R s m args below meth c Q base D ca cv cd nL rc rs mc ms pc L S μ) (h : qop al cf (.lload j) pc L S μ k = some r) : qGo al p l e R s m args below meth c Q base D ca cv cd nL rc rs mc ms pc L S μ := by
  obtain ⟨hx, hb, hml, hown, hts, hK, hSt, hbs, hcv, hini, hd1, hfr, hlo, hmc, hms⟩ := C
  simp only [qop] at h
  split at h
  · rename_i x hq
    exact (hk _ _ _ _ h).same fun H locs cells slots ls hP hS hl hc hs kk => lv_lload hx hb hd (hl.at hq (by simp)) (by rw [← hn]; exact kk ls hl)
  · cases h
theorem qs_lload_n (C : qCtx p R s m args meth c base D ca cv o ini cc nL mc ms d) {j : Fin 4} (hd : decode cc (qbpc cd pc) = .ok (.lload_n j, 1)) (hn : qbpc cd (pc + 1) = qbpc cd pc + 1) (hk : ∀ pc L S μ, k pc L S μ = some r → qGo al p l e R s m args below meth c Q base D ca cv cd nL rc rs mc ms pc L S μ) (h : qop al cf (.lload j) pc L S μ k = some r) : qGo al p l e R s m args below meth c Q base D ca cv cd nL rc rs mc ms pc L S μ := by
  obtain ⟨hx, hb, hml, hown, hts, hK, hSt, hbs, hcv, hini, hd1, hfr, hlo, hmc, hms⟩ := C
  simp only [qop] at h
  split at h
  · rename_i x hq
    exact (hk _ _ _ _ h).same fun H locs cells slots ls hP hS hl hc hs kk => lv_lload_n hx hb hd rfl (hl.at hq (by simp)) (by rw [← hn]; exact kk ls hl)
  · cases h
theorem qs_aload (C : qCtx p R s m args meth c base D ca cv o ini cc nL mc ms d) {j : Nat} (hd : decode cc (qbpc cd pc) = .ok (.aload j, 2)) (hn : qbpc cd (pc + 1) = qbpc cd pc + 2) (hk : ∀ pc L S μ, k pc L S μ = some r → qGo al p l e R s m args below meth c Q base D ca cv cd nL rc rs mc ms pc L S μ) (h : qop al cf (.aload j) pc L S μ k = some r) : qGo al p l e R s m args below meth c Q base D ca cv cd nL rc rs mc ms pc L S μ := by
  obtain ⟨hx, hb, hml, hown, hts, hK, hSt, hbs, hcv, hini, hd1, hfr, hlo, hmc, hms⟩ := C
  simp only [qop] at h
  have key : ∀ v : Value, qnth L j = some v → v ≠ .null → (qtr base cv v = .null ∨ ∃ a, qtr base cv v = .ref a) → qGo al p l e R s m args below meth c Q base D ca cv cd nL rc rs mc ms (pc + 1) L (v :: S) μ → qGo al p l e R s m args below meth c Q base D ca cv cd nL rc rs mc ms pc L S μ := by
    intro v hq hv hr hgo
    refine hgo.same fun H locs cells slots ls hP hS hl hc hs kk => ?_
    have g1 := hl.at hq hv
    have kk2 := kk ls hl
    rw [List.map_cons, hn] at kk2
    rcases hr with hr | ⟨a, hr⟩
    · rw [hr] at g1 kk2
      exact lv_aloadN hx hb hd g1 kk2
    · rw [hr] at g1 kk2
      exact lv_aload hx hb hd g1 kk2
  split at h
  · rename_i x hq
    refine key _ hq (by simp) ?_ (hk _ _ _ _ h)
    cases x with
    | zero => exact Or.inl rfl
    | succ x => exact Or.inr ⟨_, rfl⟩
  · rename_i x hq
    exact key _ hq (by simp) (qSt_cv hSt x) (hk _ _ _ _ h)
  · cases h
theorem qs_aload_n (C : qCtx p R s m args meth c base D ca cv o ini cc nL mc ms d) {j : Fin 4} (hd : decode cc (qbpc cd pc) = .ok (.aload_n j, 1)) (hn : qbpc cd (pc + 1) = qbpc cd pc + 1) (hk : ∀ pc L S μ, k pc L S μ = some r → qGo al p l e R s m args below meth c Q base D ca cv cd nL rc rs mc ms pc L S μ) (h : qop al cf (.aload j) pc L S μ k = some r) : qGo al p l e R s m args below meth c Q base D ca cv cd nL rc rs mc ms pc L S μ := by
  obtain ⟨hx, hb, hml, hown, hts, hK, hSt, hbs, hcv, hini, hd1, hfr, hlo, hmc, hms⟩ := C
  simp only [qop] at h
  have key : ∀ v : Value, qnth L j = some v → v ≠ .null → (qtr base cv v = .null ∨ ∃ a, qtr base cv v = .ref a) → qGo al p l e R s m args below meth c Q base D ca cv cd nL rc rs mc ms (pc + 1) L (v :: S) μ → qGo al p l e R s m args below meth c Q base D ca cv cd nL rc rs mc ms pc L S μ := by
    intro v hq hv hr hgo
    refine hgo.same fun H locs cells slots ls hP hS hl hc hs kk => ?_
    have g1 := hl.at hq hv
    have kk2 := kk ls hl
    rw [List.map_cons, hn] at kk2
    rcases hr with hr | ⟨a, hr⟩
    · rw [hr] at g1 kk2
      exact lv_aload_nN hx hb hd rfl g1 kk2
    · rw [hr] at g1 kk2
      exact lv_aload_n hx hb hd rfl g1 kk2
  split at h
  · rename_i x hq
    refine key _ hq (by simp) ?_ (hk _ _ _ _ h)
    cases x with
    | zero => exact Or.inl rfl
    | succ x => exact Or.inr ⟨_, rfl⟩
  · rename_i x hq
    exact key _ hq (by simp) (qSt_cv hSt x) (hk _ _ _ _ h)
  · cases h
theorem qs_istore (C : qCtx p R s m args meth c base D ca cv o ini cc nL mc ms d) {j : Nat} (hj : (j : Nat) < nL) (hd : decode cc (qbpc cd pc) = .ok (.istore j, 2)) (hn : qbpc cd (pc + 1) = qbpc cd pc + 2) (hk : ∀ pc L S μ, k pc L S μ = some r → qGo al p l e R s m args below meth c Q base D ca cv cd nL rc rs mc ms pc L S μ) (h : qop al cf (.istore j) pc L S μ k = some r) : qGo al p l e R s m args below meth c Q base D ca cv cd nL rc rs mc ms pc L S μ := by
  obtain ⟨hx, hb, hml, hown, hts, hK, hSt, hbs, hcv, hini, hd1, hfr, hlo, hmc, hms⟩ := C
  simp only [qop, q1] at h
  split at h
  · exact (hk _ _ _ _ h).same fun H locs cells slots ls hP hS hl hc hs kk => lv_istore hx hb hd hl.has hj rfl (fun ls' hl' => by rw [← hn]; exact kk ls' (hl.st1 hcv hl'))
  · cases h
theorem qs_istore_n (C : qCtx p R s m args meth c base D ca cv o ini cc nL mc ms d) {j : Fin 4} (hj : (j : Nat) < nL) (hd : decode cc (qbpc cd pc) = .ok (.istore_n j, 1)) (hn : qbpc cd (pc + 1) = qbpc cd pc + 1) (hk : ∀ pc L S μ, k pc L S μ = some r → qGo al p l e R s m args below meth c Q base D ca cv cd nL rc rs mc ms pc L S μ) (h : qop al cf (.istore j) pc L S μ k = some r) : qGo al p l e R s m args below meth c Q base D ca cv cd nL rc rs mc ms pc L S μ := by
  obtain ⟨hx, hb, hml, hown, hts, hK, hSt, hbs, hcv, hini, hd1, hfr, hlo, hmc, hms⟩ := C
  simp only [qop, q1] at h
  split at h
  · exact (hk _ _ _ _ h).same fun H locs cells slots ls hP hS hl hc hs kk => lv_istore_n hx hb hd rfl hl.has hj rfl (fun ls' hl' => by rw [← hn]; exact kk ls' (hl.st1 hcv hl'))
  · cases h
theorem qs_lstore (C : qCtx p R s m args meth c base D ca cv o ini cc nL mc ms d) {j : Nat} (hj : (j : Nat) + 1 < nL) (hd : decode cc (qbpc cd pc) = .ok (.lstore j, 2)) (hn : qbpc cd (pc + 1) = qbpc cd pc + 2) (hk : ∀ pc L S μ, k pc L S μ = some r → qGo al p l e R s m args below meth c Q base D ca cv cd nL rc rs mc ms pc L S μ) (h : qop al cf (.lstore j) pc L S μ k = some r) : qGo al p l e R s m args below meth c Q base D ca cv cd nL rc rs mc ms pc L S μ := by
  obtain ⟨hx, hb, hml, hown, hts, hK, hSt, hbs, hcv, hini, hd1, hfr, hlo, hmc, hms⟩ := C
  simp only [qop, ql1] at h
  split at h
  · exact (hk _ _ _ _ h).same fun H locs cells slots ls hP hS hl hc hs kk => lv_lstore hx hb hd hl.has hj rfl (fun ls' hl' => by rw [← hn]; exact kk ls' (hl.st2 hcv hl'))
  · cases h
theorem qs_lstore_n (C : qCtx p R s m args meth c base D ca cv o ini cc nL mc ms d) {j : Fin 4} (hj : (j : Nat) + 1 < nL) (hd : decode cc (qbpc cd pc) = .ok (.lstore_n j, 1)) (hn : qbpc cd (pc + 1) = qbpc cd pc + 1) (hk : ∀ pc L S μ, k pc L S μ = some r → qGo al p l e R s m args below meth c Q base D ca cv cd nL rc rs mc ms pc L S μ) (h : qop al cf (.lstore j) pc L S μ k = some r) : qGo al p l e R s m args below meth c Q base D ca cv cd nL rc rs mc ms pc L S μ := by
  obtain ⟨hx, hb, hml, hown, hts, hK, hSt, hbs, hcv, hini, hd1, hfr, hlo, hmc, hms⟩ := C
  simp only [qop, ql1] at h
  split at h
  · exact (hk _ _ _ _ h).same fun H locs cells slots ls hP hS hl hc hs kk => lv_lstore_n hx hb hd rfl hl.has hj rfl (fun ls' hl' => by rw [← hn]; exact kk ls' (hl.st2 hcv hl'))
  · cases h
theorem qs_astore (C : qCtx p R s m args meth c base D ca cv o ini cc nL mc ms d) {j : Nat} (hj : (j : Nat) < nL) (hd : decode cc (qbpc cd pc) = .ok (.astore j, 2)) (hn : qbpc cd (pc + 1) = qbpc cd pc + 2) (hk : ∀ pc L S μ, k pc L S μ = some r → qGo al p l e R s m args below meth c Q base D ca cv cd nL rc rs mc ms pc L S μ) (h : qop al cf (.astore j) pc L S μ k = some r) : qGo al p l e R s m args below meth c Q base D ca cv cd nL rc rs mc ms pc L S μ := by
  obtain ⟨hx, hb, hml, hown, hts, hK, hSt, hbs, hcv, hini, hd1, hfr, hlo, hmc, hms⟩ := C
  simp only [qop] at h
  have key : ∀ (v : Value) (S1 : List Value), (qtr base cv v = .null ∨ ∃ a, qtr base cv v = .ref a) → qGo al p l e R s m args below meth c Q base D ca cv cd nL rc rs mc ms (pc + 1) (qst L j v) S1 μ → qGo al p l e R s m args below meth c Q base D ca cv cd nL rc rs mc ms pc L (v :: S1) μ := by
    intro v S1 hr hgo
    refine hgo.same fun H locs cells slots ls hP hS hl hc hs kk => ?_
    rw [List.map_cons]
    rcases hr with hr | ⟨a, hr⟩
    · rw [hr]
      exact lv_astoreN hx hb hd hl.has hj rfl (fun ls' hl' => by rw [← hn]; exact kk ls' (hl.st1 hcv (by rw [hr]; exact hl')))
    · rw [hr]
      exact lv_astore hx hb hd hl.has hj rfl (fun ls' hl' => by rw [← hn]; exact kk ls' (hl.st1 hcv (by rw [hr]; exact hl')))
  split at h
  · rename_i x S1
    refine key _ _ ?_ (hk _ _ _ _ h)
    cases x with
    | zero => exact Or.inl rfl
    | succ x => exact Or.inr ⟨_, rfl⟩
  · rename_i x S1
    exact key _ _ (qSt_cv hSt x) (hk _ _ _ _ h)
  · cases h
theorem qs_astore_n (C : qCtx p R s m args meth c base D ca cv o ini cc nL mc ms d) {j : Fin 4} (hj : (j : Nat) < nL) (hd : decode cc (qbpc cd pc) = .ok (.astore_n j, 1)) (hn : qbpc cd (pc + 1) = qbpc cd pc + 1) (hk : ∀ pc L S μ, k pc L S μ = some r → qGo al p l e R s m args below meth c Q base D ca cv cd nL rc rs mc ms pc L S μ) (h : qop al cf (.astore j) pc L S μ k = some r) : qGo al p l e R s m args below meth c Q base D ca cv cd nL rc rs mc ms pc L S μ := by
  obtain ⟨hx, hb, hml, hown, hts, hK, hSt, hbs, hcv, hini, hd1, hfr, hlo, hmc, hms⟩ := C
  simp only [qop] at h
  have key : ∀ (v : Value) (S1 : List Value), (qtr base cv v = .null ∨ ∃ a, qtr base cv v = .ref a) → qGo al p l e R s m args below meth c Q base D ca cv cd nL rc rs mc ms (pc + 1) (qst L j v) S1 μ → qGo al p l e R s m args below meth c Q base D ca cv cd nL rc rs mc ms pc L (v :: S1) μ := by
    intro v S1 hr hgo
    refine hgo.same fun H locs cells slots ls hP hS hl hc hs kk => ?_
    rw [List.map_cons]
    rcases hr with hr | ⟨a, hr⟩
    · rw [hr]
      exact lv_astore_nN hx hb hd rfl hl.has hj rfl (fun ls' hl' => by rw [← hn]; exact kk ls' (hl.st1 hcv (by rw [hr]; exact hl')))
    · rw [hr]
      exact lv_astore_n hx hb hd rfl hl.has hj rfl (fun ls' hl' => by rw [← hn]; exact kk ls' (hl.st1 hcv (by rw [hr]; exact hl')))
  split at h
  · rename_i x S1
    refine key _ _ ?_ (hk _ _ _ _ h)
    cases x with
    | zero => exact Or.inl rfl
    | succ x => exact Or.inr ⟨_, rfl⟩
  · rename_i x S1
    exact key _ _ (qSt_cv hSt x) (hk _ _ _ _ h)
  · cases h
theorem qs_iinc (C : qCtx p R s m args meth c base D ca cv o ini cc nL mc ms d) {j : Nat} {n : Int} (hj : j < nL) (hd : decode cc (qbpc cd pc) = .ok (.iinc j n, 3)) (hn : qbpc cd (pc + 1) = qbpc cd pc + 3) (hk : ∀ pc L S μ, k pc L S μ = some r → qGo al p l e R s m args below meth c Q base D ca cv cd nL rc rs mc ms pc L S μ) (h : qop al cf (.iinc j n) pc L S μ k = some r) : qGo al p l e R s m args below meth c Q base D ca cv cd nL rc rs mc ms pc L S μ := by
  obtain ⟨hx, hb, hml, hown, hts, hK, hSt, hbs, hcv, hini, hd1, hfr, hlo, hmc, hms⟩ := C
  simp only [qop] at h
  split at h
  · rename_i x hq
    refine (hk _ _ _ _ h).same fun H locs cells slots ls hP hS hl hc hs kk => ?_
    obtain ⟨i, hi⟩ := List.getElem?_of_mem (qal_mem (base := base) (cv := cv).mpr ⟨_, hq, by simp, rfl⟩)
    exact lv_iinc hx hb hd hl.has hi rfl hj rfl (fun ls' hl' => by rw [← hn]; exact kk ls' (hl.st1 hcv hl'))
  · cases h
theorem qs_dup (C : qCtx p R s m args meth c base D ca cv o ini cc nL mc ms d)  (hd : decode cc (qbpc cd pc) = .ok (.dup, 1)) (hn : qbpc cd (pc + 1) = qbpc cd pc + 1) (hk : ∀ pc L S μ, k pc L S μ = some r → qGo al p l e R s m args below meth c Q base D ca cv cd nL rc rs mc ms pc L S μ) (h : qop al cf (.dup) pc L S μ k = some r) : qGo al p l e R s m args below meth c Q base D ca cv cd nL rc rs mc ms pc L S μ := by
  obtain ⟨hx, hb, hml, hown, hts, hK, hSt, hbs, hcv, hini, hd1, hfr, hlo, hmc, hms⟩ := C
  simp only [qop] at h
  split at h
  · exact (hk _ _ _ _ h).same fun H locs cells slots ls hP hS hl hc hs kk => lv_dup hx hb hd rfl (by rw [← hn]; exact kk ls hl)
  · rename_i x S1
    exact (hk _ _ _ _ h).same fun H locs cells slots ls hP hS hl hc hs kk => lv_dup hx hb hd (by cases x <;> rfl) (by rw [← hn]; exact kk ls hl)
  · cases h
theorem qs_dup2 (C : qCtx p R s m args meth c base D ca cv o ini cc nL mc ms d)  (hd : decode cc (qbpc cd pc) = .ok (.dup2, 1)) (hn : qbpc cd (pc + 1) = qbpc cd pc + 1) (hk : ∀ pc L S μ, k pc L S μ = some r → qGo al p l e R s m args below meth c Q base D ca cv cd nL rc rs mc ms pc L S μ) (h : qop al cf (.dup2) pc L S μ k = some r) : qGo al p l e R s m args below meth c Q base D ca cv cd nL rc rs mc ms pc L S μ := by
  obtain ⟨hx, hb, hml, hown, hts, hK, hSt, hbs, hcv, hini, hd1, hfr, hlo, hmc, hms⟩ := C
  simp only [qop] at h
  split at h
  · rename_i x y S1
    exact (hk _ _ _ _ h).same fun H locs cells slots ls hP hS hl hc hs kk => lv_dup2_11 hx hb hd rfl (by cases y <;> rfl) (by rw [← hn]; exact kk ls hl)
  · cases h
theorem qs_pop (C : qCtx p R s m args meth c base D ca cv o ini cc nL mc ms d)  (hd : decode cc (qbpc cd pc) = .ok (.pop, 1)) (hn : qbpc cd (pc + 1) = qbpc cd pc + 1) (hk : ∀ pc L S μ, k pc L S μ = some r → qGo al p l e R s m args below meth c Q base D ca cv cd nL rc rs mc ms pc L S μ) (h : qop al cf (.pop) pc L S μ k = some r) : qGo al p l e R s m args below meth c Q base D ca cv cd nL rc rs mc ms pc L S μ := by
  obtain ⟨hx, hb, hml, hown, hts, hK, hSt, hbs, hcv, hini, hd1, hfr, hlo, hmc, hms⟩ := C
  simp only [qop] at h
  split at h
  · exact (hk _ _ _ _ h).same fun H locs cells slots ls hP hS hl hc hs kk => lv_pop hx hb hd rfl (by rw [← hn]; exact kk ls hl)
  · rename_i x S1
    exact (hk _ _ _ _ h).same fun H locs cells slots ls hP hS hl hc hs kk => lv_pop hx hb hd (by cases x <;> rfl) (by rw [← hn]; exact kk ls hl)
  · cases h
theorem qs_ifCond (C : qCtx p R s m args meth c base D ca cv o ini cc nL mc ms d) {cn : ClassFile.Cond} {off t : Int} (ht : (qbpc cd pc : Int) + off = (qbpc cd t.toNat : Int)) (hd : decode cc (qbpc cd pc) = .ok (.ifCond cn off, 3)) (hn : qbpc cd (pc + 1) = qbpc cd pc + 3) (hk : ∀ pc L S μ, k pc L S μ = some r → qGo al p l e R s m args below meth c Q base D ca cv cd nL rc rs mc ms pc L S μ) (h : qop al cf (.ifCond cn t) pc L S μ k = some r) : qGo al p l e R s m args below meth c Q base D ca cv cd nL rc rs mc ms pc L S μ := by
  obtain ⟨hx, hb, hml, hown, hts, hK, hSt, hbs, hcv, hini, hd1, hfr, hlo, hmc, hms⟩ := C
  simp only [qop, q1] at h
  split at h
  · rename_i x S1
    cases cn <;> simp only [qcond] at h <;> split at h
    · rename_i hc0; exact (hk _ _ _ _ h).same fun H locs cells slots ls hP hS hl hc hs kk => lv_if_eq hx hb hd ht (fun _ => kk ls hl) (fun y => absurd hc0 y)
    · rename_i hc0; exact (hk _ _ _ _ h).same fun H locs cells slots ls hP hS hl hc hs kk => lv_if_eq hx hb hd ht (fun y => absurd y hc0) (fun _ => by rw [← hn]; exact kk ls hl)
    · rename_i hc0; exact (hk _ _ _ _ h).same fun H locs cells slots ls hP hS hl hc hs kk => lv_if_ne hx hb hd ht (fun y => absurd hc0 y) (fun _ => by rw [← hn]; exact kk ls hl)
    · rename_i hc0; exact (hk _ _ _ _ h).same fun H locs cells slots ls hP hS hl hc hs kk => lv_if_ne hx hb hd ht (fun _ => kk ls hl) (fun y => absurd y hc0)
    · rename_i hc0; exact (hk _ _ _ _ h).same fun H locs cells slots ls hP hS hl hc hs kk => lv_if_lt hx hb hd ht (fun _ => kk ls hl) (fun y => absurd hc0 y)
    · rename_i hc0; exact (hk _ _ _ _ h).same fun H locs cells slots ls hP hS hl hc hs kk => lv_if_lt hx hb hd ht (fun y => absurd y hc0) (fun _ => by rw [← hn]; exact kk ls hl)
    · rename_i hc0; exact (hk _ _ _ _ h).same fun H locs cells slots ls hP hS hl hc hs kk => lv_if_ge hx hb hd ht (fun _ => kk ls hl) (fun y => absurd hc0 y)
    · rename_i hc0; exact (hk _ _ _ _ h).same fun H locs cells slots ls hP hS hl hc hs kk => lv_if_ge hx hb hd ht (fun y => absurd y hc0) (fun _ => by rw [← hn]; exact kk ls hl)
    · rename_i hc0; exact (hk _ _ _ _ h).same fun H locs cells slots ls hP hS hl hc hs kk => lv_if_gt hx hb hd ht (fun _ => kk ls hl) (fun y => absurd hc0 y)
    · rename_i hc0; exact (hk _ _ _ _ h).same fun H locs cells slots ls hP hS hl hc hs kk => lv_if_gt hx hb hd ht (fun y => absurd y hc0) (fun _ => by rw [← hn]; exact kk ls hl)
    · rename_i hc0; exact (hk _ _ _ _ h).same fun H locs cells slots ls hP hS hl hc hs kk => lv_if_le hx hb hd ht (fun _ => kk ls hl) (fun y => absurd hc0 y)
    · rename_i hc0; exact (hk _ _ _ _ h).same fun H locs cells slots ls hP hS hl hc hs kk => lv_if_le hx hb hd ht (fun y => absurd y hc0) (fun _ => by rw [← hn]; exact kk ls hl)
  · cases h
theorem qs_if_icmp (C : qCtx p R s m args meth c base D ca cv o ini cc nL mc ms d) {cn : ClassFile.Cond} {off t : Int} (ht : (qbpc cd pc : Int) + off = (qbpc cd t.toNat : Int)) (hd : decode cc (qbpc cd pc) = .ok (.if_icmp cn off, 3)) (hn : qbpc cd (pc + 1) = qbpc cd pc + 3) (hk : ∀ pc L S μ, k pc L S μ = some r → qGo al p l e R s m args below meth c Q base D ca cv cd nL rc rs mc ms pc L S μ) (h : qop al cf (.if_icmp cn t) pc L S μ k = some r) : qGo al p l e R s m args below meth c Q base D ca cv cd nL rc rs mc ms pc L S μ := by
  obtain ⟨hx, hb, hml, hown, hts, hK, hSt, hbs, hcv, hini, hd1, hfr, hlo, hmc, hms⟩ := C
  simp only [qop, q2] at h
  split at h
  · rename_i y x S1
    cases cn <;> simp only [qcond] at h <;> split at h
    · rename_i hc0; exact (hk _ _ _ _ h).same fun H locs cells slots ls hP hS hl hc hs kk => lv_icmp_eq hx hb hd ht (fun _ => kk ls hl) (fun y => absurd hc0 y)
    · rename_i hc0; exact (hk _ _ _ _ h).same fun H locs cells slots ls hP hS hl hc hs kk => lv_icmp_eq hx hb hd ht (fun y => absurd y hc0) (fun _ => by rw [← hn]; exact kk ls hl)
    · rename_i hc0; exact (hk _ _ _ _ h).same fun H locs cells slots ls hP hS hl hc hs kk => lv_icmp_ne hx hb hd ht (fun y => absurd hc0 y) (fun _ => by rw [← hn]; exact kk ls hl)
    · rename_i hc0; exact (hk _ _ _ _ h).same fun H locs cells slots ls hP hS hl hc hs kk => lv_icmp_ne hx hb hd ht (fun _ => kk ls hl) (fun y => absurd y hc0)
    · rename_i hc0; exact (hk _ _ _ _ h).same fun H locs cells slots ls hP hS hl hc hs kk => lv_icmp_lt hx hb hd ht (fun _ => kk ls hl) (fun y => absurd hc0 y)
    · rename_i hc0; exact (hk _ _ _ _ h).same fun H locs cells slots ls hP hS hl hc hs kk => lv_icmp_lt hx hb hd ht (fun y => absurd y hc0) (fun _ => by rw [← hn]; exact kk ls hl)
    · rename_i hc0; exact (hk _ _ _ _ h).same fun H locs cells slots ls hP hS hl hc hs kk => lv_icmp_ge hx hb hd ht (fun _ => kk ls hl) (fun y => absurd hc0 y)
    · rename_i hc0; exact (hk _ _ _ _ h).same fun H locs cells slots ls hP hS hl hc hs kk => lv_icmp_ge hx hb hd ht (fun y => absurd y hc0) (fun _ => by rw [← hn]; exact kk ls hl)
    · rename_i hc0; exact (hk _ _ _ _ h).same fun H locs cells slots ls hP hS hl hc hs kk => lv_icmp_gt hx hb hd ht (fun _ => kk ls hl) (fun y => absurd hc0 y)
    · rename_i hc0; exact (hk _ _ _ _ h).same fun H locs cells slots ls hP hS hl hc hs kk => lv_icmp_gt hx hb hd ht (fun y => absurd y hc0) (fun _ => by rw [← hn]; exact kk ls hl)
    · rename_i hc0; exact (hk _ _ _ _ h).same fun H locs cells slots ls hP hS hl hc hs kk => lv_icmp_le hx hb hd ht (fun _ => kk ls hl) (fun y => absurd hc0 y)
    · rename_i hc0; exact (hk _ _ _ _ h).same fun H locs cells slots ls hP hS hl hc hs kk => lv_icmp_le hx hb hd ht (fun y => absurd y hc0) (fun _ => by rw [← hn]; exact kk ls hl)
  · cases h
theorem qs_goto (C : qCtx p R s m args meth c base D ca cv o ini cc nL mc ms d) {off t : Int} (ht : (qbpc cd pc : Int) + off = (qbpc cd t.toNat : Int)) (hd : decode cc (qbpc cd pc) = .ok (.goto off, 3)) (hk : ∀ pc L S μ, k pc L S μ = some r → qGo al p l e R s m args below meth c Q base D ca cv cd nL rc rs mc ms pc L S μ) (h : qop al cf (.goto t) pc L S μ k = some r) : qGo al p l e R s m args below meth c Q base D ca cv cd nL rc rs mc ms pc L S μ := by
  obtain ⟨hx, hb, hml, hown, hts, hK, hSt, hbs, hcv, hini, hd1, hfr, hlo, hmc, hms⟩ := C
  exact (hk _ _ _ _ h).same fun H locs cells slots ls hP hS hl hc hs kk => lv_goto hx hb hd ht (kk ls hl)
end QSND

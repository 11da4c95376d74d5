/-! WHAT THROWS AND WHAT CATCHES -/
def qretq : Instr → Bool
  | .ireturn => true
  | .freturn => true
  | .dreturn => true
  | .areturn => true
  | .lreturn => true
  | .return_ => true
  | _ => false
theorem qretq_of {o : Nat} {ret : Option FieldType} {ini : Bool} {nL : Nat} {cd : qC} {b : Nat} {di i : Instr} (hdi : di = .ireturn ∨ di = .lreturn ∨ di = .return_) (h : qrel o ret ini nL cd b di i = true) : qretq i = true := by
  rcases hdi with rfl | rfl | rfl
  · cases i <;> first | rfl | cases h
  · simp only [qrel, decide_eq_true_eq] at h
    rw [h.1]
    rfl
  · simp only [qrel, decide_eq_true_eq] at h
    rw [h.1]
    rfl
theorem qblk_cnt {al : Bool} {cf : qF} {cd : qC} {st : Nat → Bool} {K : qK} {r : qR} (hcf : ∀ M as μ r1, cf M as μ = some r1 → qcnt μ r1.2.2) (hK : ∀ pc L S μ, K pc L S μ = some r → qcnt μ r.2.2) : ∀ (n : Nat) {pc : Nat} {L S : List Value} {μ : qM}, qblk al cf cd st K n pc L S μ = some r → qcnt μ r.2.2 := by
  intro n
  induction n with
  | zero => intro pc L S μ h; cases h
  | succ n ih =>
    intro pc L S μ h
    simp only [qblk, qstep] at h
    split at h
    · refine qop_cnt hcf (fun pc' L' S' μ' h' => ?_) h
      split at h'
      · exact hK _ _ _ _ h'
      · exact ih h'
    · cases h
section QWR
variable {p : Program} {l : Launch} {e : Env} {R : Room} {s : State} {m : MethodId} {args : Array Value} {below : List Frame} {meth : Method} {c : Code} {Q : State → Prop}
variable {al : Bool} {base : Nat} {D : va_G} {ca : Nat → ClassId} {cv : Nat → Value} {o : Nat} {cc : ByteArray} {cd : qC} {nL rc rs mc ms : Nat}
variable {d : Nat} {ini : Bool} {cf : qF} {r : qR}
/-- a block, whatever is owed at its end -/
theorem qblk_go (C : qCtx p R s m args meth c base D ca cv o ini cc nL mc ms d) {ret : Option FieldType} {st : Nat → Bool} {K : qK} (hok : qcodes o ret ini nL cc cd 0 cd = true) {d0 : Nat} (hd0 : d0 + 1 ≤ d) (hcf : ∀ M as μ r1, cf M as μ = some r1 → qGood al base D ca cv d0 M as μ r1)
    (hret : ∀ (pc : Nat) (L S : List Value) (μ : qM) (di i : Instr) (k : qK) (bb ln : Nat), qnth cd pc = some (bb, ln, i) → decode cc (qbpc cd pc) = .ok (di, 1) → (di = .ireturn ∨ di = .lreturn ∨ di = .return_) → qrel o ret ini nL cd (qbpc cd pc) di i = true → qop al cf i pc L S μ k = some r → qGo al p l e R s m args below meth c Q base D ca cv cd nL rc rs mc ms pc L S μ)
    (hK : ∀ pc L S μ, K pc L S μ = some r → qGo al p l e R s m args below meth c Q base D ca cv cd nL rc rs mc ms pc L S μ) : ∀ (n : Nat) {pc : Nat} {L S : List Value} {μ : qM}, qblk al cf cd st K n pc L S μ = some r → qGo al p l e R s m args below meth c Q base D ca cv cd nL rc rs mc ms pc L S μ := by
  intro n
  induction n with
  | zero => intro pc L S μ h; cases h
  | succ n ih =>
    intro pc L S μ h
    simp only [qblk, qstep] at h
    split at h
    · rename_i b ln i hrow
      have hrk := qcodes_at (i := pc) hok hrow
      rw [Nat.zero_add] at hrk
      refine qs_op C hrow hrk hd0 hcf (fun pc' L' S' μ' h' => ?_) (fun di hdi hdd hrel => hret pc L S μ di i _ b ln hrow hdi hdd hrel h) h
      split at h'
      · exact hK _ _ _ _ h'
      · exact ih h'
    · cases h
end QWR
def qXE : String := "java/util/NoSuchElementException"
def qxn : List String := ["java/lang/RuntimeException", "java/lang/Exception"]
/-- the words of what is thrown: good ones, and those the world keeps -/
theorem qx_two : ∀ w ∈ vx_at0 RX7 111 qXE qxn, goodWord w = true ∨ (w ∈ qnest ∧ w.onTables = true) := by
  have h : ((vx_at0 RX7 111 qXE qxn).all fun w => goodWord w || (decide (w ∈ qnest) && w.onTables)) = true := by decide +kernel
  intro w hw
  have := List.all_eq_true.mp h w hw
  simp only [Bool.or_eq_true, Bool.and_eq_true, decide_eq_true_eq] at this
  exact this
theorem qx_ot : ∀ w ∈ Cond.classLink RX7 109 qXE :: Cond.initialized qXE :: vx_at0 RX7 111 qXE qxn, vx_ot w = true := by
  have h : ((Cond.classLink RX7 109 qXE :: Cond.initialized qXE :: vx_at0 RX7 111 qXE qxn).all vx_ot) = true := by decide +kernel
  exact fun w hw => List.all_eq_true.mp h w hw
theorem qx_tbl : ∀ w ∈ (vx_at0 RX7 111 qXE qxn).filter goodWord, w ∈ lw_tbl := by decide +kernel
/-- the memory, once the exception's object is made -/
def qthr (μ : qM) : qM := (μ.1, μ.2.1, μ.2.2.1, μ.2.2.2.1, μ.2.2.2.2.1 + 1, μ.2.2.2.2.2 + 6)
def qXC (base : Nat) (D : va_G) (ca : Nat → ClassId) (cv : Nat → Value) (μ : qM) : String → State → State → Prop := vx_X (S := Unit) (fun _ => True) (fun E _ t => E = qXE ∧ va_P D vwCl (qW base ca cv μ) t.heap) (qA base)
/-- at the row where the throwing begins -/
def qKt (pt : Nat) : qK := fun pc _ S μ => if pc = pt then (match S with
  | [] => some (1, 0, qthr μ)
  | _ => none) else none
/-- the method M throws in this memory; afterwards the memory is r's -/
def qThrows (base : Nat) (D : va_G) (ca : Nat → ClassId) (cv : Nat → Value) (d M : Nat) (as : List Value) (μ : qM) (r : qR) : Prop :=
  qcnt μ r.2.2 ∧ qrecv M as μ ∧ qargn M as ∧ ∀ (l : Launch) (Qc : Array Value → State → Outcome → State → Prop), l.stackTraces = false → vx_Met l (qmy M) (qmw M) (qrm d (r.2.2.2.2.2.2.1 - μ.2.2.2.2.1) (r.2.2.2.2.2.2.2 - μ.2.2.2.2.2)) (va_Pc (as.map (qtr base cv)) (qRep false base D ca cv μ)) Qc (qXC base D ca cv r.2.2) (r.2.2.2.2.2.2.1 - μ.2.2.2.2.1) (r.2.2.2.2.2.2.2 - μ.2.2.2.2.2) (qA base)
theorem qthrow_of {base : Nat} {D : va_G} {ca : Nat → ClassId} {cv : Nat → Value} (hcvj : ∀ j, (cv j).category = 1) {M pt : Nat} {cd : qC} {cf : qF} {stl : List Nat} {as : List Value} {μ : qM} {r : qR} {d0 : Nat} (hM : M < 279) (hd0 : 20 ≤ d0) (how : qmo M = 7)
    (hok : qcodes 7 (qmret M) (qmi M) (qmL M) (qmb M) cd 0 cd = true) (hnr : (cd.all fun row => !qretq row.2.2) = true) (hcf : ∀ M as μ r1, cf M as μ = some r1 → qGood false base D ca cv d0 M as μ r1)
    (hdd : decode (qmb M) (qbpc cd pt) = .ok (.new 109, 3) ∧ decode (qmb M) (qbpc cd pt + 3) = .ok (.dup, 1) ∧ decode (qmb M) (qbpc cd pt + 4) = .ok (.invokespecial 111, 3) ∧ decode (qmb M) (qbpc cd pt + 7) = .ok (.athrow, 1))
    (hrv : qrecv M as μ) (hag : qargn M as) (hnd : qnodb as = true) (hsl : qslots as ≤ qmL M) (h0 : qbpc cd 0 = 0) {n : Nat}
    (h : qblk false cf cd (fun n => qin stl n) (qKt pt) n 0 (qent as (qmL M)) [] μ = some r) : qThrows base D ca cv (d0 + 1) M as μ r := by
  have hmok := qm_ok hM
  have hKc : ∀ pc L S μ', qKt pt pc L S μ' = some r → pc = pt ∧ S = [] ∧ r = (1, 0, qthr μ') := by
    intro pc L S μ' z
    unfold qKt at z
    split at z
    · rename_i e
      split at z
      · cases z; exact ⟨e, rfl, rfl⟩
      · cases z
    · cases z
  refine ⟨qblk_cnt (fun M as μ r1 h1 => (hcf M as μ r1 h1).1) (fun pc L S μ' z => ?_) n h, hrv, hag, fun l Qc hst => ?_⟩
  · obtain ⟨-, -, rfl⟩ := hKc _ _ _ _ z
    exact ⟨Nat.le_succ _, Nat.le_add_right _ _⟩
  refine vx_ofW (cc := qmb M) (maxL := qmL M) (ret := qmret M) hmok.2.2.1 rfl ?_
  intro p e s m args below meth c s₁ B hml htab hv
  obtain ⟨rfl, hrep⟩ := hv
  obtain ⟨hP, hK, hSt, hbs, hz⟩ := hrep
  have hts : ∀ w ∈ qmw M, w.before _ s = true := atoms_spec (ws := qmw M) B.pre
  have htG : ∀ w ∈ qG, w.before (as.map (qtr base cv)).toArray s = true := fun w hw => hts w (List.mem_cons_of_mem _ hw)
  have hown : s.vm.findClass (qown 7) = some m.cls := by
    rw [← how, ← hmok.2.2.2.2]; exact findClass_of_methodNamed B.named
  have hini : qmi M = true → meth.name = "<init>" := by
    intro hi
    rw [(name_of_methodNamed B.named B.method).1]
    exact of_decide_eq_true hi
  have C : qCtx p (headSpec (qmw M) (qrm (d0 + 1) (r.2.2.2.2.2.2.1 - μ.2.2.2.2.1) (r.2.2.2.2.2.2.2 - μ.2.2.2.2.2))).room s m (as.map (qtr base cv)).toArray meth c base D ca cv 7 (qmi M) (qmb M) (qmL M) (r.2.2.2.2.2.2.1 - μ.2.2.2.2.1) (r.2.2.2.2.2.2.2 - μ.2.2.2.2.2) (d0 + 1) :=
    ⟨B.exec, B.bytes, hml, hown, htG, hK, hSt, hbs, hcvj, hini, by omega, Nat.le_refl _, Nat.le_refl _, Nat.le_refl _, Nat.le_refl _⟩
  have hgo : qGo false p l e (headSpec (qmw M) (qrm (d0 + 1) (r.2.2.2.2.2.2.1 - μ.2.2.2.2.1) (r.2.2.2.2.2.2.2 - μ.2.2.2.2.2))).room s m (as.map (qtr base cv)).toArray below meth c (vx_MQ below Qc (qXC base D ca cv r.2.2) (as.map (qtr base cv)).toArray s (r.2.2.2.2.2.2.1 - μ.2.2.2.2.1) (r.2.2.2.2.2.2.2 - μ.2.2.2.2.2) (qA base)) base D ca cv cd (qmL M) r.2.2.2.2.2.2.1 r.2.2.2.2.2.2.2 (r.2.2.2.2.2.2.1 - μ.2.2.2.2.1) (r.2.2.2.2.2.2.2 - μ.2.2.2.2.2) 0 (qent as (qmL M)) [] μ := by
    refine qblk_go C hok (Nat.le_refl _) hcf (fun pc L S μ' di i k bb ln hrow hdec hdi hrel _ => ?_) (fun pc L S μ' z => ?_) n h
    · exfalso
      have h1 := qretq_of hdi hrel
      have h2 := List.all_eq_true.mp hnr (bb, ln, i) (by rw [qnth_eq] at hrow; exact List.mem_of_getElem? hrow)
      rw [h1] at h2
      cases h2
    · obtain ⟨rfl, rfl, hr⟩ := hKc _ _ _ _ z
      have hr1 : r.2.2.2.2.2.2.1 = μ'.2.2.2.2.1 + 1 := by rw [hr]; rfl
      have hr2 : r.2.2.2.2.2.2.2 = μ'.2.2.2.2.2 + 6 := by rw [hr]; rfl
      have hrW : qW base ca cv r.2.2 = qW base ca cv μ' := by rw [hr]; rfl
      refine ⟨⟨by omega, by omega⟩, fun H locs cells slots ls hP hS hz hl e1 e2 => ?_⟩
      obtain ⟨d0', d3, d4, d7⟩ := hdd
      refine vx_throw0 (own := RX7) (cls := qXE) (names := qxn) (ik := 109) (ic := 111) (A := qA base) B.exec B.bytes hst hown (by decide +kernel) (by decide +kernel) (htG _ (qt4 178 rfl rfl)) (htG _ (qt1 19 rfl rfl)) (fun w hw => ?_) qx_ot hSt.2.2.2.2.2.2.2.1 hSt.2.2.2.2.2.2.2.2 hS (by rw [hl.1, hml]) d0' d3 d4 d7 (fun x hx => (htab x hx).elim) ?_ ?_ ?_ ?_ B.notSynchronized (fun t ha hz1 hk1 => ?_) hS.2.2 ?_ ?_
      · rcases qx_two w hw with z | ⟨z1, z2⟩
        · exact htG w (qG_in (qx_tbl w (List.mem_filter.mpr ⟨hw, z⟩)) z)
        · exact va_Nw.use z2 (hSt.2.2.2.2.2.1 w z1)
      · show 2 + 3 < d0 + 1
        omega
      · show 0 + (13 * (2 + 1) + 42) ≤ 40 * (d0 + 1)
        omega
      · show cells + 1 ≤ r.2.2.2.2.2.2.1 - μ.2.2.2.2.1
        omega
      · show slots + 6 ≤ r.2.2.2.2.2.2.2 - μ.2.2.2.2.2
        omega
      · refine ⟨(), trivial, ⟨rfl, ?_⟩, Nat.le_trans hS.1 hz1, fun q hq hnq => ?_⟩
        · rw [hrW]
          exact hP.kept fun k q hq => hk1 q.1 (va_at.lt (hP k q hq))
        · rw [hk1 q (Nat.lt_of_lt_of_le hq hS.1)]
          exact hS.2.1 q hq hnq
      · omega
      · omega
  have hsl2 : (lg_sl (as.map (qtr base cv))).length ≤ qmL M := Nat.le_trans (qslots_le hcvj as hnd) hsl
  have hl := lv_entry (as.map (qtr base cv)) (n := qmL M) hsl2
  rw [lg_entry_eq]
  obtain ⟨i1, i2⟩ := qent_at (base := base) hcvj as (qmL M) 0 hnd hsl2
  have hls : qLs base cv ((lg_sl (as.map (qtr base cv)) ++ List.replicate (qmL M - (lg_sl (as.map (qtr base cv))).length) Slot.unset).toArray) (qmL M) (qent as (qmL M)) := by
    refine ⟨hl.1, i1, hl.2.1, fun i v h1 h2 => ?_⟩
    have := i2 i v h1 h2
    rw [Nat.zero_add] at this
    exact hl.2.2 _ this
  have fin := hgo.2 s.heap [] 0 0 _ hP va_S.rf (fun z => by cases z) hls (by omega) (by omega)
  rw [h0] at fin
  exact fin
/-- a method with an exception table that returns -/
theorem lw_ofWH {l : Launch} {y : MethodName} {ws ws' : List Cond} {rm : Room} {Pc : Array Value → State → Prop} {Qc : Array Value → State → Outcome → State → Prop} {mc ms : Nat} {free : Addr → Prop} {cc : ByteArray} {maxL : Nat} {ret : Option FieldType} {hh : List (Nat × Nat × Nat × Nat)}
    (hy : plainName y.cls = true) (hw : ws = Cond.codeWith y cc maxL ret hh :: ws')
    (body : ∀ p e s m args below meth c s₁, BodyLoose p l y (headSpec ws rm) cc maxL ret e s m args below meth c s₁ → c.maxLocals = maxL → c.exceptionTable.toList = tableOf hh → Pc args s →
      W p l e (headSpec ws rm).room s m args below meth c s.heap [] 0 0 (MQ below Qc args s mc ms free) (entryFrame m args maxL)) : Met l y ws rm Pc Qc mc ms free := by
  refine MetFree.of_bodyS (code := cc) (maxLocals := maxL) (ret := ret) hy ?_ ?_
  · intro args s m h hn
    obtain ⟨m9, meth, c, hn9, h1, h2, h3, h4, -, h5, h6, -⟩ := Cond.codeWith_spec (atoms_spec (ws := ws) h _ (by rw [hw]; exact List.mem_cons_self))
    cases hn.symm.trans hn9
    exact ⟨meth, c, h1, h2, h3, h4, h5, h6⟩
  · intro p e s m args below meth c s₁ B hml hP _
    have hh0 : s₁.heap = s.heap := by rw [B.state]; rfl
    have htb := vx_table (x := y) B (atoms_spec (ws := ws) B.pre _ (by rw [hw]; exact List.mem_cons_self))
    obtain ⟨t, a1, o, b1, b2, b3⟩ := body p e s m args below meth c s₁ B hml htb hP s₁ hh0 (Stand.of_body B)
    exact ⟨t, o, a1, b1, b2, ⟨b3.1, b3.2⟩⟩
theorem lGood.mono {base : Nat} {D : va_G} {ca : Nat → ClassId} {cv : Nat → Value} {d d2 w : Nat} {as : List Value} {μ : qM} {r : qR} (h : lGood base D ca cv d w as μ r) (hd : d ≤ d2) : lGood base D ca cv d2 w as μ r := by
  obtain ⟨h1, h2, d', h3, h4⟩ := h
  exact ⟨h1, h2, d', Nat.le_trans h3 hd, h4⟩
theorem lwrap_of {base : Nat} {D : va_G} {ca : Nat → ClassId} {cv : Nat → Value} (hcvj : ∀ j, (cv j).category = 1) {w : Nat} (hw : w < 3) {cd : qC} {as : List Value} {μ : qM} {r : qR} {d : Nat} (hd : 1 ≤ d) (hcnt : qcnt μ r.2.2) (hlen : as.length = (if w = 2 then 3 else 4)) (hnd : qnodb as = true) (hsl : qslots as ≤ lwL w) (h0 : qbpc cd 0 = 0)
    (h : ∀ (p : Program) (l : Launch) (e : Env) (R : Room) (s : State) (m : MethodId) (args : Array Value) (below : List Frame) (meth : Method) (c : Code), l.stackTraces = false → qCtx p R s m args meth c base D ca cv 9 false (lwb w) (lwL w) (r.2.2.2.2.2.2.1 - μ.2.2.2.2.1) (r.2.2.2.2.2.2.2 - μ.2.2.2.2.2) d → meth.sig.returnType = some .int → meth.locks = false → c.exceptionTable.toList = tableOf (lwh w) →
      qGo false p l e R s m args below meth c (MQ below (qQ false base D ca cv (some .int) r) args s (r.2.2.2.2.2.2.1 - μ.2.2.2.2.1) (r.2.2.2.2.2.2.2 - μ.2.2.2.2.2) (qA base)) base D ca cv cd (lwL w) r.2.2.2.2.2.2.1 r.2.2.2.2.2.2.2 (r.2.2.2.2.2.2.1 - μ.2.2.2.2.1) (r.2.2.2.2.2.2.2 - μ.2.2.2.2.2) 0 (qent as (lwL w)) [] μ) : lGood base D ca cv d w as μ r := by
  refine ⟨hcnt, hlen, d, Nat.le_refl _, fun l hst => ?_⟩
  have hpl : plainName (lwy w).cls = true ∧ (lwy w).cls = qown 9 := by
    match w, hw with
    | 0, _ => exact ⟨by decide +kernel, rfl⟩
    | 1, _ => exact ⟨by decide +kernel, rfl⟩
    | 2, _ => exact ⟨by decide +kernel, rfl⟩
    | n + 3, h => exact absurd h (by omega)
  refine lw_ofWH (cc := lwb w) (maxL := lwL w) (ret := some .int) (hh := lwh w) hpl.1 rfl ?_
  intro p e s m args below meth c s₁ B hml htab hv
  obtain ⟨rfl, hrep⟩ := hv
  obtain ⟨hP, hK, hSt, hbs, hz⟩ := hrep
  have hts : ∀ z ∈ lww w, z.before _ s = true := atoms_spec (ws := lww w) B.pre
  have hown : s.vm.findClass (qown 9) = some m.cls := by
    have := findClass_of_methodNamed B.named
    rw [hpl.2] at this
    exact this
  have C : qCtx p (headSpec (lww w) (qrm d (r.2.2.2.2.2.2.1 - μ.2.2.2.2.1) (r.2.2.2.2.2.2.2 - μ.2.2.2.2.2))).room s m (as.map (qtr base cv)).toArray meth c base D ca cv 9 false (lwb w) (lwL w) (r.2.2.2.2.2.2.1 - μ.2.2.2.2.1) (r.2.2.2.2.2.2.2 - μ.2.2.2.2.2) d :=
    ⟨B.exec, B.bytes, hml, hown, fun z hz => hts z (List.mem_cons_of_mem _ hz), hK, hSt, hbs, hcvj, (fun z => by cases z), hd, Nat.le_refl _, Nat.le_refl _, Nat.le_refl _, Nat.le_refl _⟩
  have hgo := h p l e _ s m _ below meth c hst C B.returns B.notSynchronized htab
  have hsl2 : (lg_sl (as.map (qtr base cv))).length ≤ lwL w := Nat.le_trans (qslots_le hcvj as hnd) hsl
  have hl := lv_entry (as.map (qtr base cv)) (n := lwL w) hsl2
  rw [lg_entry_eq]
  obtain ⟨i1, i2⟩ := qent_at (base := base) hcvj as (lwL w) 0 hnd hsl2
  have hls : qLs base cv ((lg_sl (as.map (qtr base cv)) ++ List.replicate (lwL w - (lg_sl (as.map (qtr base cv))).length) Slot.unset).toArray) (lwL w) (qent as (lwL w)) := by
    refine ⟨hl.1, i1, hl.2.1, fun i v h1 h2 => ?_⟩
    have := i2 i v h1 h2
    rw [Nat.zero_add] at this
    exact hl.2.2 _ this
  have fin := hgo.2 s.heap [] 0 0 _ hP va_S.rf (fun z => by cases z) hls (by omega) (by omega)
  rw [h0] at fin
  exact fin
/-- the wrapper's way where nothing is thrown -/
theorem lwn_of {base : Nat} {D : va_G} {ca : Nat → ClassId} {cv : Nat → Value} (hcvj : ∀ j, (cv j).category = 1) {w : Nat} (hw : w < 3) {cd : qC} {cf : qF} {as : List Value} {μ : qM} {r : qR} {d0 : Nat} (hok : qcodes 9 (some .int) false (lwL w) (lwb w) cd 0 cd = true) (hlen : as.length = (if w = 2 then 3 else 4)) (hnd : qnodb as = true) (hsl : qslots as ≤ lwL w) (h0 : qbpc cd 0 = 0)
    (hcf : ∀ M as μ r1, cf M as μ = some r1 → qGood false base D ca cv d0 M as μ r1) {n : Nat} (h : qblk false cf cd (fun _ => false) (fun _ _ _ _ => none) n 0 (qent as (lwL w)) [] μ = some r) : lGood base D ca cv (d0 + 1) w as μ r := by
  refine lwrap_of hcvj hw (Nat.succ_le_succ (Nat.zero_le _)) (qblk_cnt (fun M as μ r1 h1 => (hcf M as μ r1 h1).1) (fun pc L S μ' z => by cases z) n h) hlen hnd hsl h0 (fun p l e R s m args below meth c hst C hrt hlk htab => ?_)
  exact qblk_go C hok (Nat.le_refl _) hcf (fun pc L S μ' di i k bb ln hrow hdec hdi hrel z => qret_sound C hrt hlk hdec hdi hrel z) (fun pc L S μ' z => by cases z) n h
/-- at the row of the call that throws -/
def qKw (pi na : Nat) (tf : List Value → qM → Option qR) : qK := fun pc _ S μ => if pc = pi then (if qcats (S.drop na) ≤ 8 then qbnd (tf (S.take na).reverse μ) fun r => some (1, 0, r.2.2) else none) else none
/-- the wrapper's way where its callee throws -/
theorem lwt_of {base : Nat} {D : va_G} {ca : Nat → ClassId} {cv : Nat → Value} (hcvj : ∀ j, (cv j).category = 1) {w : Nat} (hw : w < 3) {cd : qC} {as : List Value} {μ : qM} {r : qR} {d0 : Nat} (hok : qcodes 9 (some .int) false (lwL w) (lwb w) cd 0 cd = true) (hlen : as.length = (if w = 2 then 3 else 4)) (hnd : qnodb as = true) (hsl : qslots as ≤ lwL w) (h0 : qbpc cd 0 = 0)
    {pi na : Nat} {tf : List Value → qM → Option qR} {j M ph n9 : Nat} (hM9 : M = n9 / 100) (hM7 : (qm M).1 = 7) (hq : qcpl 9 j = (11, (n9 : Int))) (hd : decode (lwb w) (qbpc cd pi) = .ok (.invokevirtual j, 3))
    (hcov : ∃ x : ExceptionTableEntry, tableOf (lwh w) = [x] ∧ covers x (qbpc cd pi) = true ∧ x.catchType = 13 ∧ (decode (lwb w) x.handlerPc = .ok (.astore 4, 2) ∧ x.handlerPc + 2 = qbpc cd ph ∧ 4 < lwL w ∨ decode (lwb w) x.handlerPc = .ok (.astore_n 3, 1) ∧ x.handlerPc + 1 = qbpc cd ph ∧ 3 < lwL w))
    (hph : ∀ μ : qM, qblk false (fun _ _ _ => none) cd (fun _ => false) (fun _ _ _ _ => none) 4 ph (List.replicate (lwL w) .null) [] μ = some (1, 0, μ))
    (htf : ∀ as μ r1, tf as μ = some r1 → qThrows base D ca cv d0 M as μ r1) {n : Nat} (h : qblk false (fun _ _ _ => none) cd (fun n => n = pi) (qKw pi na tf) n 0 (qent as (lwL w)) [] μ = some r) : lGood base D ca cv (d0 + 1) w as μ r := by
  have hKc : ∀ pc L S μ', qKw pi na tf pc L S μ' = some r → pc = pi ∧ qcats (S.drop na) ≤ 8 ∧ ∃ r1, tf (S.take na).reverse μ' = some r1 ∧ r = (1, 0, r1.2.2) := by
    intro pc L S μ' z
    unfold qKw at z
    split at z
    · rename_i e
      split at z
      · rename_i hc
        obtain ⟨r1, z1, z2⟩ := qbnd_some z
        exact ⟨e, hc, r1, z1, (Option.some.inj z2).symm⟩
      · cases z
    · cases z
  subst hM9
  refine lwrap_of hcvj hw (Nat.succ_le_succ (Nat.zero_le _)) (qblk_cnt (fun M as μ r1 h1 => by cases h1) (fun pc L S μ' z => ?_) n h) hlen hnd hsl h0 (fun p l e R s m args below meth c hst C hrt hlk htab => ?_)
  · obtain ⟨-, -, r1, z1, rfl⟩ := hKc _ _ _ _ z
    exact (htf _ _ _ z1).1
  refine qblk_go C hok (Nat.le_refl _) (fun M as μ r1 h1 => by cases h1) (fun pc L S μ' di i k bb ln hrow hdec hdi hrel z => qret_sound C hrt hlk hdec hdi hrel z) (fun pc L S μ' z => ?_) n h
  obtain ⟨rfl, hcat, r1, z1, hr⟩ := hKc _ _ _ _ z
  obtain ⟨⟨g1, g2⟩, hrv, hag, hMet⟩ := htf _ _ _ z1
  have hrr : r.2.2 = r1.2.2 := by rw [hr]
  have hrc : r.2.2.2.2.2.2.1 = r1.2.2.2.2.2.2.1 := by rw [hrr]
  have hrs : r.2.2.2.2.2.2.2 = r1.2.2.2.2.2.2.2 := by rw [hrr]
  obtain ⟨hx, hb, hml, hown, hts, hK, hSt, hbs, hcv, hini, hd1, hfr, hlo, hmc, hms⟩ := id C
  obtain ⟨hwq, hnw, hcb⟩ := qcp_ok hq (by omega)
  simp only [qcb, Int.toNat_natCast, Bool.and_eq_true, decide_eq_true_eq] at hcb
  obtain ⟨-, ⟨hsg, hcls⟩, ho⟩ := hcb
  simp only [qsig, Bool.and_eq_true, decide_eq_true_eq] at hsg
  obtain ⟨⟨⟨⟨⟨s1, s2⟩, s3⟩, s4⟩, s5⟩, s6⟩ := hsg
  have hmok := qm_ok s6
  have hst3 : (qm (n9 / 100)).2.1 = false := s3
  unfold qargn at hag
  rw [hst3] at hag
  simp only [Bool.false_eq_true, if_false] at hag
  -- the receiver
  have hrec : ∃ k1 as', (S.take na).reverse = .ref (k1 + 1) :: as' ∧ qnth μ'.1 k1 = some (7, (qk μ' (k1 + 1)).2) := by
    rcases hrv with zz | zz
    · rw [hst3] at zz; cases zz
    · cases hS9 : (S.take na).reverse with
      | nil => rw [hS9] at zz; exact zz.elim
      | cons v as9 =>
        rw [hS9] at zz
        cases v with
        | ref a =>
          obtain ⟨y1, y2⟩ := zz
          rw [hM7] at y2
          obtain ⟨k1, rfl, hk1⟩ := qk_at y2 (by omega)
          exact ⟨k1, as9, rfl, hk1⟩
        | retAddr jj =>
          obtain ⟨y1, -⟩ := zz
          rw [hM7] at y1
          cases y1
        | _ => exact zz.elim
  obtain ⟨k1, as', hSr, hk1⟩ := hrec
  have hmap : ((S.take na).reverse).map (qtr base cv) = .ref (base + k1) :: as'.map (qtr base cv) := by rw [hSr]; rfl
  have hstk : S.map (qtr base cv) = (as'.map (qtr base cv)).reverse ++ .ref (base + k1) :: (S.drop na).map (qtr base cv) := by
    have e1 : S.map (qtr base cv) = (((S.take na).reverse).map (qtr base cv)).reverse ++ (S.drop na).map (qtr base cv) := by
      rw [← List.map_reverse, List.reverse_reverse, ← List.map_append, List.take_append_drop]
    rw [e1, hmap]
    simp
  have hlen9 : (as'.map (qtr base cv)).length = (S.take na).reverse.length - 1 := by rw [hSr]; simp
  have hcat2 := Nat.le_trans (qcats_tr (base := base) hcv (S.drop na)) hcat
  rw [hmap] at hMet
  refine ⟨⟨by rw [hrr]; exact g1, by rw [hrr]; exact g2⟩, fun H locs cells slots ls hP hS hz hl e1 e2 => ?_⟩
  rw [hrr] at e1 e2
  have hPc : ∀ U : State, U.heap = H → s.WarmedH U.vm → va_Pc (.ref (base + k1) :: as'.map (qtr base cv)) (qRep false base D ca cv μ') (Value.ref (base + k1) :: as'.map (qtr base cv)).toArray U := fun U hU hW => ⟨rfl, qrep_of hK hSt hbs hP hS hz hU hW⟩
  have he := qW_get (base := base) (ca := ca) (cv := cv) hk1
  rw [qE_obj hk1 (by omega)] at he
  have hcell : ∃ cellB : Cell, H[base + k1]? = some cellB ∧ cellB.vm.isStatics = false ∧ s.vm.findClass (qmy (n9 / 100)).cls = some cellB.cls := by
    rw [hcls, if_pos (by rw [hM7]; decide), hM7]
    exact va_recv hK hP (qin_cl _ (by omega)).1 he
  have hp : PreV s H (qmy (n9 / 100)).cls (base + k1) (va_Pc (Value.ref (base + k1) :: as'.map (qtr base cv)) (qRep false base D ca cv μ')) (as'.map (qtr base cv)) := ⟨qblind, hcell, hPc⟩
  have hT : GoodIn qG (wsV (qown 9) j (qmy (n9 / 100)).cls (qmy (n9 / 100)) (qmw (n9 / 100))) := qG_sub _ (fun w9 hw2 => by
    unfold wsV at hw2
    rcases List.mem_append.mp hw2 with z9 | z9
    · exact hwq w9 z9
    · exact qmw_in hmok w9 z9)
  have hfix : CallFix p m c (lwb w) (lwL w) s args qG (qown 9) := ⟨hx, hb, hml, hown, hts⟩
  have hW8 : 2 * (F0 m (qbpc cd pc) ls (S.map (qtr base cv))).monitorRoom + (((S.drop na).map (qtr base cv)).map fun v => v.category).sum ≤ 8 := by show 2 * 0 + _ ≤ 8; omega
  obtain ⟨x, hxt, hxc, hx13, hxh⟩ := hcov
  have hcw := cwV (R := R) (s := s) (args := args) (own := qown 9) (C := (qmy (n9 / 100)).cls) (index := j) (bytes := qmb (n9 / 100)) (maxL := qmL (n9 / 100)) (ret := qmret (n9 / 100)) (rm := qrm d0 (r1.2.2.2.2.2.2.1 - μ'.2.2.2.2.1) (r1.2.2.2.2.2.2.2 - μ'.2.2.2.2.2)) (mc := r1.2.2.2.2.2.2.1 - μ'.2.2.2.2.1) (ms := r1.2.2.2.2.2.2.2 - μ'.2.2.2.2.2) ((S.take na).reverse.length - 1) hts hT rfl rfl rfl ⟨rfl, hmok.2.2.2.1.1, hmok.2.2.2.1.2, hag⟩ ⟨by show d0 + 1 ≤ _; omega, by show 8 + (qmL (n9 / 100) + 11) + 40 * d0 ≤ _; have : qmL (n9 / 100) ≤ 21 := s5; omega⟩
  -- the handler
  have kx : ∀ (ce : Cell) (q9 : Addr) (H1 : Heap) (locs1 : List Loc), va_P D vwCl (qW base ca cv r1.2.2) H1 → va_S (qA base) s.heap H1 locs1 → H1[q9]? = some ce → ce.vm = .none → s.vm.findClass qXE = some ce.cls → vx_W p l e R s m args below meth c H1 locs1 (cells + (r1.2.2.2.2.2.2.1 - μ'.2.2.2.2.1)) (slots + (r1.2.2.2.2.2.2.2 - μ'.2.2.2.2.2)) (MQ below (qQ false base D ca cv (some .int) r) args s (r.2.2.2.2.2.2.1 - μ.2.2.2.2.1) (r.2.2.2.2.2.2.2 - μ.2.2.2.2.2) (qA base)) (F0 m (qbpc cd pc) ls ((S.drop na).map (qtr base cv))) q9 := by
    intro ce q9 H1 locs1 hP1 hS1 hc9 hv9 hcl9
    refine vx_catch (own := qown 9) (name := qXE) (E := qXE) hown [] x [] (by rw [htab, hxt]; rfl) (fun z hz => absurd hz List.not_mem_nil) hxc (by rw [hx13]; decide) (by rw [hx13]; exact hts _ (qt4 173 rfl rfl)) (va_Nw.use rfl (hSt.2.2.2.2.2.1 _ (qtn 19 rfl))) hc9 hv9 hcl9 ?_
    have hend : ∀ ls' : Array Slot, ls'.size = lwL w → lv_wf ls' → W p l e R s m args below meth c H1 locs1 (cells + (r1.2.2.2.2.2.2.1 - μ'.2.2.2.2.1)) (slots + (r1.2.2.2.2.2.2.2 - μ'.2.2.2.2.2)) (MQ below (qQ false base D ca cv (some .int) r) args s (r.2.2.2.2.2.2.1 - μ.2.2.2.2.1) (r.2.2.2.2.2.2.2 - μ.2.2.2.2.2) (qA base)) (F0 m (qbpc cd ph) ls' []) := by
      intro ls' z1 z2
      have hph9 : qblk false (fun _ _ _ => none) cd (fun _ => false) (fun _ _ _ _ => none) 4 ph (List.replicate (lwL w) .null) [] r1.2.2 = some r := by rw [hr]; exact hph r1.2.2
      have hgo := qblk_go (p := p) (l := l) (e := e) (below := below) (Q := MQ below (qQ false base D ca cv (some .int) r) args s (r.2.2.2.2.2.2.1 - μ.2.2.2.2.1) (r.2.2.2.2.2.2.2 - μ.2.2.2.2.2) (qA base)) (rc := r.2.2.2.2.2.2.1) (rs := r.2.2.2.2.2.2.2) (r := r) C hok (Nat.le_refl _) (fun M as μ r1 h1 => by cases h1) (fun pc L S μ' di i k bb ln hrow hdec hdi hrel z => qret_sound C hrt hlk hdec hdi hrel z) (fun pc L S μ' z => by cases z) 4 hph9
      have := hgo.2 H1 locs1 (cells + (r1.2.2.2.2.2.2.1 - μ'.2.2.2.2.1)) (slots + (r1.2.2.2.2.2.2.2 - μ'.2.2.2.2.2)) ls' hP1 hS1 (fun z => by cases z) ⟨z1, by simp, z2, fun i v h1 h2 => by
        rw [qnth_eq, List.getElem?_replicate] at h1
        split at h1
        · exact absurd (Option.some.inj h1).symm h2
        · cases h1⟩ (by omega) (by omega)
      exact this
    rcases hxh with ⟨y1, y2, y3⟩ | ⟨y1, y2, y3⟩
    · exact lv_astore hx hb y1 hl.has y3 rfl (fun ls' hl' => by rw [y2]; exact hend ls' hl'.1 hl'.2.1)
    · exact lv_astore_n hx hb y1 rfl hl.has y3 rfl (fun ls' hl' => by rw [y2]; exact hend ls' hl'.1 hl'.2.1)
  have hAs : (as'.map (qtr base cv)).length = (S.take na).reverse.length - 1 := hlen9
  by_cases hw2 : w = 2
  · have hrun : vx_Run p l e R s m args below meth c H locs cells slots (r1.2.2.2.2.2.2.1 - μ'.2.2.2.2.1) (r1.2.2.2.2.2.2.2 - μ'.2.2.2.2.2) (F0 m (qbpc cd pc) ls (S.map (qtr base cv))) ((S.drop na).map (qtr base cv)) (va_Ql (S := Unit) (fun _ _ => False) (fun _ _ => False) (qA base) (Value.ref (base + k1) :: as'.map (qtr base cv)).toArray) (qXC base D ca cv r1.2.2) (qA base) :=
      vx_runV hfix (hMet l (va_Ql (S := Unit) (fun _ _ => False) (fun _ _ => False) (qA base)) hst) hcw hp rfl hAs hl.1 hstk hW8 hd ⟨by omega, by omega⟩
    exact vx_calll hrun hS (fun q _ h => h) (fun q h => h) (fun q _ h => h) (fun E ce q9 u t H1 locs1 ht hvm _ hB hz1 hk9 hS1 hc9 hv9 hcl9 => by
      obtain ⟨rfl, hP1⟩ := hB
      subst ht
      exact kx ce q9 _ locs1 hP1 hS1 hc9 hv9 hcl9) (fun rr u t H1 locs1 ht hvm hpo hB hz1 hk9 hS1 => hpo.elim)
  · have hrun : vx_Run p l e R s m args below meth c H locs cells slots (r1.2.2.2.2.2.2.1 - μ'.2.2.2.2.1) (r1.2.2.2.2.2.2.2 - μ'.2.2.2.2.2) (F0 m (qbpc cd pc) ls (S.map (qtr base cv))) ((S.drop na).map (qtr base cv)) (va_Qi (S := Unit) (fun _ _ => False) (fun _ _ => False) (qA base) (Value.ref (base + k1) :: as'.map (qtr base cv)).toArray) (qXC base D ca cv r1.2.2) (qA base) :=
      vx_runV hfix (hMet l (va_Qi (S := Unit) (fun _ _ => False) (fun _ _ => False) (qA base)) hst) hcw hp rfl hAs hl.1 hstk hW8 hd ⟨by omega, by omega⟩
    exact vx_calli hrun hS (fun q _ h => h) (fun q h => h) (fun q _ h => h) (fun E ce q9 u t H1 locs1 ht hvm _ hB hz1 hk9 hS1 hc9 hv9 hcl9 => by
      obtain ⟨rfl, hP1⟩ := hB
      subst ht
      exact kx ce q9 _ locs1 hP1 hS1 hc9 hv9 hcl9) (fun rr u t H1 locs1 ht hvm hpo hB hz1 hk9 hS1 => hpo.elim)
def cdT0 : qC := [(0, 1, .iload 1), (1, 3, .invokestatic 13111), (4, 3, .ifCond .eq 8), (7, 1, .iload 2), (8, 3, .ifCond .lt 8), (11, 1, .iload 2), (12, 1, .iconst 5), (13, 3, .if_icmp .le 12), (16, 3, .nop), (19, 1, .dup), (20, 3, .nop), (23, 1, .nop), (24, 1, .iload 2), (25, 35, .lookupswitch 44 #[(0, 14), (1, 20), (2, 26), (3, 32), (4, 38)]), (60, 1, .aload 0), (61, 3, .getfield 7022), (64, 3, .getfield 5012), (67, 1, .iload 1), (68, 1, .iaload), (69, 1, .nop), (70, 1, .aload 0), (71, 3, .getfield 7022), (74, 3, .getfield 5022), (77, 1, .iload 1), (78, 1, .iaload), (79, 1, .nop), (80, 1, .aload 0), (81, 3, .getfield 7022), (84, 3, .getfield 5032), (87, 1, .iload 1), (88, 1, .iaload), (89, 1, .nop), (90, 1, .aload 0), (91, 3, .getfield 7022), (94, 3, .getfield 5042), (97, 1, .iload 1), (98, 1, .iaload), (99, 1, .nop), (100, 1, .aload 0), (101, 3, .getfield 7022), (104, 1, .iload 1), (105, 1, .iconst 0), (106, 3, .invokestatic 5831), (109, 1, .nop), (110, 1, .aload 0), (111, 3, .getfield 7002), (114, 1, .iload 1), (115, 1, .aload 0), (116, 3, .getfield 7082), (119, 3, .invokestatic 1231), (122, 1, .nop)]
noncomputable def tX7_owner (a0 : Nat) (a1 : Int32) (a2 : Int32) (μ : qM) : Option qR := if (qk μ a0).1 = 7 then (
  qbnd (fX7_isOwner a1 μ) fun r1 =>
  if r1.1 = 0 then some (1, 0, qthr r1.2.2) else
  if a2 < 0 then some (1, 0, qthr r1.2.2) else
  if a2 ≤ (5 : Int32) then none else some (1, 0, qthr r1.2.2)) else none
noncomputable def atX7_owner : List Value → qM → Option qR := fun l μ => match l with
  | [.ref x0, .int x1, .int x2] => tX7_owner x0 x1 x2 μ
  | _ => none
set_option maxRecDepth 100000 in
theorem gtX7_owner {base : Nat} {D : va_G} {ca : Nat → ClassId} {cv : Nat → Value} (hcv : ∀ j, (cv j).category = 1) {l : List Value} {μ : qM} {r : qR} (h : atX7_owner l μ = some r) : qThrows base D ca cv 21 93 l μ r := by
  unfold atX7_owner at h
  split at h
  · unfold tX7_owner at h
    split at h
    · rename_i hk0
      exact qthrow_of (cd := cdT0) (cf := cfX7_owner) (stl := [8, 12]) (pt := 8) (d0 := 20) hcv (by decide) (by omega) (by decide +kernel) (by decide +kernel) (by decide +kernel) (fun M as μ r1 h1 => (hcX7_owner hcv M as μ r1 h1).mono (by omega)) ⟨by decide +kernel, by decide +kernel, by decide +kernel, by decide +kernel⟩ (Or.inr ⟨by decide +kernel, hk0⟩) npX7_owner rfl (Nat.le_of_ble_eq_true rfl) rfl (n := 400) h
    · cases h
  · cases h
def cdW0 : qC := [(0, 1, .aload 3), (1, 1, .iconst 0), (2, 1, .aload 0), (3, 1, .iload 1), (4, 1, .iload 2), (5, 3, .invokestatic 9331), (8, 1, .i2l), (9, 1, .lastore), (10, 3, .goto 12), (13, 2, .astore 4), (15, 1, .iconst 1), (16, 1, .ireturn), (17, 1, .iconst 0), (18, 1, .ireturn)]
set_option maxRecDepth 100000 in
theorem cdWok0 : qcodes 9 (some .int) false (lwL 0) (lwb 0) cdW0 0 cdW0 = true := by decide +kernel
noncomputable def nwf0 (a0 : Nat) (a1 : Int32) (a2 : Int32) (a3 : Nat) (μ : qM) : Option qR :=
  qbnd (fX7_owner a0 a1 a2 μ) fun r1 =>
  qbnd (oStL r1.2.2 a3 (0 : Int32) (r1.1).toInt64) fun μ2 =>
  some ((0 : Int32), 0, μ2)
noncomputable def lwf0 (a0 : Nat) (a1 : Int32) (a2 : Int32) (a3 : Nat) (μ : qM) : Option qR := match nwf0 a0 a1 a2 a3 μ with
  | some r => some r
  | none => qbnd (tX7_owner a0 a1 a2 μ) fun r => some (1, 0, r.2.2)
set_option maxRecDepth 100000 in
theorem gl0 {base : Nat} {D : va_G} {ca : Nat → ClassId} {cv : Nat → Value} (hcv : ∀ j, (cv j).category = 1) {a0 : Nat}{a1 : Int32}{a2 : Int32}{a3 : Nat} {μ : qM} {r : qR} (h : lwf0 a0 a1 a2 a3 μ = some r) : lGood base D ca cv 22 0 [.ref a0, .int a1, .int a2, .ref a3] μ r := by
  unfold lwf0 at h
  split at h
  · rename_i r9 hn
    cases h
    exact (lwn_of (as := [.ref a0, .int a1, .int a2, .ref a3]) (μ := μ) (w := 0) (cd := cdW0) (cf := fun n l μ => if n = 93 then aX7_owner l μ else none) (d0 := 20) hcv (by decide) cdWok0 rfl rfl (Nat.le_of_ble_eq_true rfl) rfl (fun M as μ r1 h1 => by
      split at h1
      · rename_i e; subst e; exact (gaX7_owner hcv h1).mono (by omega)
      · cases h1) (n := 400) hn).mono (by omega)
  · exact lwt_of (w := 0) (cd := cdW0) (d0 := 21) (pi := 5) (na := 3) (tf := atX7_owner) (j := 7) (M := 93) (n9 := 9331) (ph := 10) hcv (by decide) cdWok0 rfl rfl (Nat.le_of_ble_eq_true rfl) rfl rfl (by decide +kernel) (by decide +kernel) (by decide +kernel) ⟨⟨0, 10, 13, 13⟩, rfl, by decide, rfl, Or.inl ⟨by decide +kernel, by decide +kernel, by decide +kernel⟩⟩ (fun μ => rfl) (fun as μ r1 h1 => gtX7_owner hcv h1) (n := 400) h
def cdT1 : qC := [(0, 1, .iload 1), (1, 3, .invokestatic 13111), (4, 3, .ifCond .eq 6), (7, 1, .iload 2), (8, 3, .invokestatic 13211), (11, 3, .ifCond .ne 10), (14, 3, .nop), (17, 1, .dup), (18, 3, .nop), (21, 1, .nop), (22, 1, .aload 0), (23, 3, .getfield 7022), (26, 1, .iload 1), (27, 1, .iload 2), (28, 3, .invokestatic 5431), (31, 1, .nop)]
noncomputable def tX7_held (a0 : Nat) (a1 : Int32) (a2 : Int32) (μ : qM) : Option qR := if (qk μ a0).1 = 7 then (
  qbnd (fX7_isOwner a1 μ) fun r1 =>
  if r1.1 = 0 then some (1, 0, qthr r1.2.2) else
  qbnd (fX7_isPlace a2 r1.2.2) fun r2 =>
  if r2.1 = 0 then some (1, 0, qthr r2.2.2) else none) else none
noncomputable def atX7_held : List Value → qM → Option qR := fun l μ => match l with
  | [.ref x0, .int x1, .int x2] => tX7_held x0 x1 x2 μ
  | _ => none
set_option maxRecDepth 100000 in
theorem gtX7_held {base : Nat} {D : va_G} {ca : Nat → ClassId} {cv : Nat → Value} (hcv : ∀ j, (cv j).category = 1) {l : List Value} {μ : qM} {r : qR} (h : atX7_held l μ = some r) : qThrows base D ca cv 21 94 l μ r := by
  unfold atX7_held at h
  split at h
  · unfold tX7_held at h
    split at h
    · rename_i hk0
      exact qthrow_of (cd := cdT1) (cf := cfX7_held) (stl := [6, 10]) (pt := 6) (d0 := 20) hcv (by decide) (by omega) (by decide +kernel) (by decide +kernel) (by decide +kernel) (fun M as μ r1 h1 => (hcX7_held hcv M as μ r1 h1).mono (by omega)) ⟨by decide +kernel, by decide +kernel, by decide +kernel, by decide +kernel⟩ (Or.inr ⟨by decide +kernel, hk0⟩) npX7_held rfl (Nat.le_of_ble_eq_true rfl) rfl (n := 400) h
    · cases h
  · cases h
def cdW1 : qC := [(0, 1, .aload 3), (1, 1, .iconst 0), (2, 1, .aload 0), (3, 1, .iload 1), (4, 1, .iload 2), (5, 3, .invokestatic 9431), (8, 1, .i2l), (9, 1, .lastore), (10, 3, .goto 12), (13, 2, .astore 4), (15, 1, .iconst 1), (16, 1, .ireturn), (17, 1, .iconst 0), (18, 1, .ireturn)]
set_option maxRecDepth 100000 in
theorem cdWok1 : qcodes 9 (some .int) false (lwL 1) (lwb 1) cdW1 0 cdW1 = true := by decide +kernel
noncomputable def nwf1 (a0 : Nat) (a1 : Int32) (a2 : Int32) (a3 : Nat) (μ : qM) : Option qR :=
  qbnd (fX7_held a0 a1 a2 μ) fun r1 =>
  qbnd (oStL r1.2.2 a3 (0 : Int32) (r1.1).toInt64) fun μ2 =>
  some ((0 : Int32), 0, μ2)
noncomputable def lwf1 (a0 : Nat) (a1 : Int32) (a2 : Int32) (a3 : Nat) (μ : qM) : Option qR := match nwf1 a0 a1 a2 a3 μ with
  | some r => some r
  | none => qbnd (tX7_held a0 a1 a2 μ) fun r => some (1, 0, r.2.2)
set_option maxRecDepth 100000 in
theorem gl1 {base : Nat} {D : va_G} {ca : Nat → ClassId} {cv : Nat → Value} (hcv : ∀ j, (cv j).category = 1) {a0 : Nat}{a1 : Int32}{a2 : Int32}{a3 : Nat} {μ : qM} {r : qR} (h : lwf1 a0 a1 a2 a3 μ = some r) : lGood base D ca cv 22 1 [.ref a0, .int a1, .int a2, .ref a3] μ r := by
  unfold lwf1 at h
  split at h
  · rename_i r9 hn
    cases h
    exact (lwn_of (as := [.ref a0, .int a1, .int a2, .ref a3]) (μ := μ) (w := 1) (cd := cdW1) (cf := fun n l μ => if n = 94 then aX7_held l μ else none) (d0 := 20) hcv (by decide) cdWok1 rfl rfl (Nat.le_of_ble_eq_true rfl) rfl (fun M as μ r1 h1 => by
      split at h1
      · rename_i e; subst e; exact (gaX7_held hcv h1).mono (by omega)
      · cases h1) (n := 400) hn).mono (by omega)
  · exact lwt_of (w := 1) (cd := cdW1) (d0 := 21) (pi := 5) (na := 3) (tf := atX7_held) (j := 15) (M := 94) (n9 := 9431) (ph := 10) hcv (by decide) cdWok1 rfl rfl (Nat.le_of_ble_eq_true rfl) rfl rfl (by decide +kernel) (by decide +kernel) (by decide +kernel) ⟨⟨0, 10, 13, 13⟩, rfl, by decide, rfl, Or.inl ⟨by decide +kernel, by decide +kernel, by decide +kernel⟩⟩ (fun μ => rfl) (fun as μ r1 h1 => gtX7_held hcv h1) (n := 400) h
def cdT2 : qC := [(0, 1, .iload 1), (1, 3, .ifCond .lt 7), (4, 1, .iload 1), (5, 1, .aload 0), (6, 3, .getfield 7072), (9, 3, .getfield 3010), (12, 3, .if_icmp .lt 11), (15, 3, .nop), (18, 1, .dup), (19, 3, .nop), (22, 1, .nop), (23, 1, .aload 0), (24, 3, .getfield 7072), (27, 3, .getfield 3002), (30, 1, .iload 1), (31, 1, .laload), (32, 1, .nop)]
noncomputable def tX7_row (a0 : Nat) (a1 : Int32) (μ : qM) : Option qR := if (qk μ a0).1 = 7 then (
  if a1 < 0 then some (1, 0, qthr μ) else
  qbnd (oGetP μ 7 a0 7) fun v1 =>
  qbnd (oGetI μ 3 v1 1) fun v2 =>
  if a1 < v2 then none else some (1, 0, qthr μ)) else none
noncomputable def atX7_row : List Value → qM → Option qR := fun l μ => match l with
  | [.ref x0, .int x1] => tX7_row x0 x1 μ
  | _ => none
set_option maxRecDepth 100000 in
theorem gtX7_row {base : Nat} {D : va_G} {ca : Nat → ClassId} {cv : Nat → Value} (hcv : ∀ j, (cv j).category = 1) {l : List Value} {μ : qM} {r : qR} (h : atX7_row l μ = some r) : qThrows base D ca cv 21 128 l μ r := by
  unfold atX7_row at h
  split at h
  · unfold tX7_row at h
    split at h
    · rename_i hk0
      exact qthrow_of (cd := cdT2) (cf := cfX7_row) (stl := [7, 11]) (pt := 7) (d0 := 20) hcv (by decide) (by omega) (by decide +kernel) (by decide +kernel) (by decide +kernel) (fun M as μ r1 h1 => (hcX7_row hcv M as μ r1 h1).mono (by omega)) ⟨by decide +kernel, by decide +kernel, by decide +kernel, by decide +kernel⟩ (Or.inr ⟨by decide +kernel, hk0⟩) npX7_row rfl (Nat.le_of_ble_eq_true rfl) rfl (n := 400) h
    · cases h
  · cases h
def cdW2 : qC := [(0, 1, .aload 2), (1, 1, .iconst 0), (2, 1, .aload 0), (3, 1, .iload 1), (4, 3, .invokestatic 12822), (7, 1, .lastore), (8, 3, .goto 10), (11, 1, .astore 3), (12, 1, .iconst 1), (13, 1, .ireturn), (14, 1, .iconst 0), (15, 1, .ireturn)]
set_option maxRecDepth 100000 in
theorem cdWok2 : qcodes 9 (some .int) false (lwL 2) (lwb 2) cdW2 0 cdW2 = true := by decide +kernel
noncomputable def nwf2 (a0 : Nat) (a1 : Int32) (a2 : Nat) (μ : qM) : Option qR :=
  qbnd (fX7_row a0 a1 μ) fun r1 =>
  qbnd (oStL r1.2.2 a2 (0 : Int32) r1.2.1) fun μ2 =>
  some ((0 : Int32), 0, μ2)
noncomputable def lwf2 (a0 : Nat) (a1 : Int32) (a2 : Nat) (μ : qM) : Option qR := match nwf2 a0 a1 a2 μ with
  | some r => some r
  | none => qbnd (tX7_row a0 a1 μ) fun r => some (1, 0, r.2.2)
set_option maxRecDepth 100000 in
theorem gl2 {base : Nat} {D : va_G} {ca : Nat → ClassId} {cv : Nat → Value} (hcv : ∀ j, (cv j).category = 1) {a0 : Nat}{a1 : Int32}{a2 : Nat} {μ : qM} {r : qR} (h : lwf2 a0 a1 a2 μ = some r) : lGood base D ca cv 22 2 [.ref a0, .int a1, .ref a2] μ r := by
  unfold lwf2 at h
  split at h
  · rename_i r9 hn
    cases h
    exact (lwn_of (as := [.ref a0, .int a1, .ref a2]) (μ := μ) (w := 2) (cd := cdW2) (cf := fun n l μ => if n = 128 then aX7_row l μ else none) (d0 := 20) hcv (by decide) cdWok2 rfl rfl (Nat.le_of_ble_eq_true rfl) rfl (fun M as μ r1 h1 => by
      split at h1
      · rename_i e; subst e; exact (gaX7_row hcv h1).mono (by omega)
      · cases h1) (n := 400) hn).mono (by omega)
  · exact lwt_of (w := 2) (cd := cdW2) (d0 := 21) (pi := 4) (na := 2) (tf := atX7_row) (j := 18) (M := 128) (n9 := 12822) (ph := 8) hcv (by decide) cdWok2 rfl rfl (Nat.le_of_ble_eq_true rfl) rfl rfl (by decide +kernel) (by decide +kernel) (by decide +kernel) ⟨⟨0, 8, 11, 13⟩, rfl, by decide, rfl, Or.inr ⟨by decide +kernel, by decide +kernel, by decide +kernel⟩⟩ (fun μ => rfl) (fun as μ r1 h1 => gtX7_row hcv h1) (n := 400) h

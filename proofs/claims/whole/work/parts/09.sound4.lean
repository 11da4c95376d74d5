/-! SOUNDNESS, FOURTH PART: calls, ends, new objects; all instructions; blocks and methods -/
/-- the receiver is of the method's class -/
def qrecv (M : Nat) (as : List Value) (μ : qM) : Prop := (qm M).2.1 = true ∨ match as with
  | .ref a :: _ => (qm M).1 < 9 ∧ (qk μ a).1 = (qm M).1
  | .retAddr j :: _ => (qm M).1 = 10 ∧ qtk j = 2
  | _ => False
def qQ (al : Bool) (base : Nat) (D : va_G) (ca : Nat → ClassId) (cv : Nat → Value) (ret : Option FieldType) (r : qR) : Array Value → State → Outcome → State → Prop := match ret with
  | none => va_Qv (S := Unit) (fun _ => True) (fun _ t => qRep al base D ca cv r.2.2 t) (qA base)
  | some .long => va_Ql (S := Unit) (fun x _ => x = r.2.1) (fun _ t => qRep al base D ca cv r.2.2 t) (qA base)
  | some _ => va_Qi (S := Unit) (fun x _ => x = r.1) (fun _ t => qRep al base D ca cv r.2.2 t) (qA base)
abbrev qmw (M : Nat) : List Cond := .code (qmy M) (qm M).2.2.2.1 (qm M).2.2.2.2.1 (qm M).2.2.2.2.2.1 :: qG
def qrm (d mc ms : Nat) : Room := { frames := d, cells := mc, slots := ms, locals := 40 * d }
def qargn (M : Nat) (as : List Value) : Prop := (parseMethodDescriptor (qmy M).desc).map (fun d => d.parameters.length) = some (if (qm M).2.1 = true then as.length else as.length - 1)
/-- the method M, called at depth d with these values in this memory, answers r -/
def qGood (al : Bool) (base : Nat) (D : va_G) (ca : Nat → ClassId) (cv : Nat → Value) (d M : Nat) (as : List Value) (μ : qM) (r : qR) : Prop :=
  (μ.2.2.2.2.1 ≤ r.2.2.2.2.2.2.1 ∧ μ.2.2.2.2.2 ≤ r.2.2.2.2.2.2.2) ∧ qrecv M as μ ∧ qargn M as ∧ ∃ d', d' ≤ d ∧ ∀ l : Launch, Met l (qmy M) (qmw M) (qrm d' (r.2.2.2.2.2.2.1 - μ.2.2.2.2.1) (r.2.2.2.2.2.2.2 - μ.2.2.2.2.2)) (va_Pc (as.map (qtr base cv)) (qRep al base D ca cv μ)) (qQ al base D ca cv (qm M).2.2.2.2.2.1 r) (r.2.2.2.2.2.2.1 - μ.2.2.2.2.1) (r.2.2.2.2.2.2.2 - μ.2.2.2.2.2) (qA base)
theorem qGood.mono {al : Bool} {base : Nat} {D : va_G} {ca : Nat → ClassId} {cv : Nat → Value} {d d2 M : Nat} {as : List Value} {μ : qM} {r : qR} (h : qGood al base D ca cv d M as μ r) (hd : d ≤ d2) : qGood al base D ca cv d2 M as μ r := by
  obtain ⟨h1, h2, h3, d', h4, h5⟩ := h
  exact ⟨h1, h2, h3, d', Nat.le_trans h4 hd, h5⟩
theorem qblind {al : Bool} {base : Nat} {D : va_G} {ca : Nat → ClassId} {cv : Nat → Value} {as : List Value} {μ : qM} : FrameBlind (va_Pc as (qRep al base D ca cv μ)) := by
  intro a U g mk h
  obtain ⟨h1, h2, h3, h4, h5, h6⟩ := h
  exact ⟨h1, h2, va_K.moved (u := U) (U := U.calling g mk a) (Vm.Alike.refl U.vm) h3, qSt.same (u := U) (U := U.calling g mk a) rfl h4, h5, h6⟩
section QFOUR
variable {p : Program} {l : Launch} {e : Env} {R : Room} {s : State} {m : MethodId} {args : Array Value} {below : List Frame} {meth : Method} {c : Code} {Q : State → Prop}
variable {al : Bool} {base : Nat} {D : va_G} {ca : Nat → ClassId} {cv : Nat → Value} {o : Nat} {cc : ByteArray} {cd : qC} {nL rc rs mc ms : Nat}
variable {d : Nat} {ini : Bool} {k : qK} {cf : qF} {r : qR} {pc : Nat} {L S : List Value} {μ : qM}
theorem qrep_of (hK : va_K D vwCl (qtys ca) s) (hSt : qSt base cv s s.heap) (hbs : base ≤ s.heap.size) {H : Heap} {locs : List Loc} (hP : va_P D vwCl (qW base ca cv μ) H) (hS : va_S (qA base) s.heap H locs) (hz : al = true → H.size = base + μ.1.length) {U : State} (hU : U.heap = H) (hW : s.WarmedH U.vm) : qRep al base D ca cv μ U := by
  refine ⟨by rw [hU]; exact hP, va_K.moved hW.alike hK, ?_, by rw [hU]; exact Nat.le_trans hbs hS.1, by rw [hU]; exact hz⟩
  rw [hU]
  exact qSt.moved hW (qSt.kept hS.2.1 hSt)
theorem qmw_in {M : Nat} (h : qMOK M) : ∀ w ∈ qmw M, w ∈ qG := List.forall_mem_cons.mpr ⟨h.1, fun w h => h⟩
/-- what a call does, by what kind it is -/
theorem qs_run (C : qCtx p R s m args meth c base D ca cv o ini cc nL mc ms d) {M n tag j : Nat} {di : Instr} {as : List Value} {rest : List Value} {r1 : qR} (hM : M = n / 100) (htag : (tag = 11 ∨ tag = 14) ∧ di = .invokevirtual j ∨ (tag = 12 ∨ tag = 15) ∧ di = .invokestatic j ∨ (tag = 13 ∨ tag = 16) ∧ di = .invokespecial j) (hq : qcpl o j = (tag, (n : Int)))
    (hd : decode cc (qbpc cd pc) = .ok (di, 3)) {d0 : Nat} (hd0 : d0 + 1 ≤ d) (hg : qGood al base D ca cv d0 M as μ r1) (hcat : (rest.map fun v => v.category).sum ≤ 8)
    {H : Heap} {locs : List Loc} {cells slots : Nat} {ls : Array Slot} (hP : va_P D vwCl (qW base ca cv μ) H) (hS : va_S (qA base) s.heap H locs) (hz : al = true → H.size = base + μ.1.length) (hl : qLs base cv ls nL L) (hc1 : cells + (r1.2.2.2.2.2.2.1 - μ.2.2.2.2.1) ≤ mc) (hs1 : slots + (r1.2.2.2.2.2.2.2 - μ.2.2.2.2.2) ≤ ms) :
    va_Run p l e R s m args below meth c H locs cells slots (r1.2.2.2.2.2.2.1 - μ.2.2.2.2.1) (r1.2.2.2.2.2.2.2 - μ.2.2.2.2.2) (F0 m (qbpc cd pc) ls ((as.map (qtr base cv)).reverse ++ rest)) rest (qQ al base D ca cv (qm M).2.2.2.2.2.1 r1 (as.map (qtr base cv)).toArray) (qA base) := by
  subst hM
  obtain ⟨hx, hb, hml, hown, hts, hK, hSt, hbs, hcv, hini, hd1, hfr, hlo, hmc, hms⟩ := C
  obtain ⟨hcs, hrv, hag, d', hd', hMet⟩ := hg
  obtain ⟨hw, hnw, hcb⟩ := qcp_ok hq (by rcases htag with ⟨z | z, -⟩ | ⟨z | z, -⟩ | ⟨z | z, -⟩ <;> omega)
  have hPc : ∀ U : State, U.heap = H → s.WarmedH U.vm → va_Pc (as.map (qtr base cv)) (qRep al base D ca cv μ) (as.map (qtr base cv)).toArray U := fun U hU hW => ⟨rfl, qrep_of hK hSt hbs hP hS hz hU hW⟩
  have hfix : CallFix p m c cc nL s args qG (qown o) := ⟨hx, hb, hml, hown, hts⟩
  have hsigof : ∀ st, qsig st n = true → (parseMethodDescriptor (qmy (n / 100)).desc).map (fun d => d.parameters.length) = some (if st = true then as.length else as.length - 1) ∧ (qm (n / 100)).2.1 = st ∧ (qm (n / 100)).2.2.2.2.1 ≤ 21 ∧ n / 100 < 279 := by
    intro st h
    simp only [qsig, Bool.and_eq_true, decide_eq_true_eq] at h
    obtain ⟨⟨⟨⟨⟨h1, h2⟩, h3⟩, h4⟩, h5⟩, h6⟩ := h
    refine ⟨?_, h3, h5, h6⟩
    unfold qargn at hag
    rw [h3] at hag
    exact hag
  -- static and special calls, calls of an instance
  have hlo2 : 8 + (21 + 11) + 40 * d' ≤ R.locals := by omega
  have room : ∀ nl : Nat, nl ≤ 21 → (qrm d' (r1.2.2.2.2.2.2.1 - μ.2.2.2.2.1) (r1.2.2.2.2.2.2.2 - μ.2.2.2.2.2)).frames + 1 ≤ R.frames ∧ 8 + (nl + 11) + (qrm d' (r1.2.2.2.2.2.2.1 - μ.2.2.2.2.1) (r1.2.2.2.2.2.2.2 - μ.2.2.2.2.2)).locals ≤ R.locals := by
    intro nl hnl
    show d' + 1 ≤ R.frames ∧ 8 + (nl + 11) + 40 * d' ≤ R.locals
    omega
  have hf : cells + (r1.2.2.2.2.2.2.1 - μ.2.2.2.2.1) ≤ R.cells ∧ slots + (r1.2.2.2.2.2.2.2 - μ.2.2.2.2.2) ≤ R.slots := ⟨by omega, by omega⟩
  have hW8 : 2 * (F0 m (qbpc cd pc) ls ((as.map (qtr base cv)).reverse ++ rest)).monitorRoom + (rest.map fun v => v.category).sum ≤ 8 := by show 2 * 0 + _ ≤ 8; omega
  rcases htag with ⟨htag, rfl⟩ | ⟨htag, rfl⟩ | ⟨htag, rfl⟩
  · -- an instance
    have hcb2 : qsig false n = true ∧ (qmy (n / 100)).cls = (if (qm (n / 100)).1 < 9 then (qcl (qm (n / 100)).1).1 else "java/lang/String") ∧ ((qm (n / 100)).1 < 9 ∨ (qm (n / 100)).1 = 10) := by
      rcases htag with rfl | rfl <;> (simp only [qcb, Int.toNat_natCast, Bool.and_eq_true, decide_eq_true_eq] at hcb; exact ⟨hcb.2.1.1, hcb.2.1.2, hcb.2.2⟩)
    obtain ⟨hsg, hcls, ho⟩ := hcb2
    obtain ⟨hnp, hst, hnl, hMlt⟩ := hsigof false hsg
    simp only [Bool.false_eq_true, if_false] at hnp
    have hmok := qm_ok hMlt
    -- the receiver
    have hrec : ∃ b as', as.map (qtr base cv) = .ref b :: as' ∧ as'.length = as.length - 1 ∧ ∃ cellB : Cell, H[b]? = some cellB ∧ cellB.vm.isStatics = false ∧ s.vm.findClass (qmy (n / 100)).cls = some cellB.cls := by
      rcases hrv with z | z
      · rw [hst] at z; cases z
      · cases as with
        | nil => exact z.elim
        | cons v as =>
          cases v with
          | ref a =>
            obtain ⟨z1, z2⟩ := z
            obtain ⟨k1, rfl, hk1⟩ := qk_at z2 (by omega)
            have he := qW_get (base := base) (ca := ca) (cv := cv) hk1
            rw [qE_obj hk1 (by omega)] at he
            refine ⟨base + k1, as.map (qtr base cv), rfl, by simp, ?_⟩
            rw [hcls, if_pos z1]
            exact va_recv hK hP (qin_cl _ z1).1 he
          | retAddr jj =>
            obtain ⟨z1, z2⟩ := z
            have hk3 : 10 ≤ jj ∧ jj < 23 := by
              simp only [qtk] at z2
              split at z2
              · cases z2
              · split at z2
                · rename_i z; exact z
                · split at z2 <;> cases z2
            obtain ⟨q, v, e1, e2, e3, e4, e5⟩ := hSt.2.1 (jj - 10) (by omega)
            rw [show 10 + (jj - 10) = jj by omega] at e1
            obtain ⟨cell, f1, f2, f3, -⟩ := e4.kept hS.2.1
            refine ⟨q, as.map (qtr base cv), by rw [List.map_cons, show qtr base cv (.retAddr jj) = .ref q from e1], by simp, cell, f1, f2, ?_⟩
            rw [hcls, if_neg (by omega)]
            exact f3
          | _ => exact z.elim
    obtain ⟨b, as', has, hlen, hcell⟩ := hrec
    rw [has] at hPc hMet ⊢
    have hstk : ((Value.ref b :: as').reverse ++ rest) = as'.reverse ++ Value.ref b :: rest := by simp
    have hp : PreV s H (qmy (n / 100)).cls b (va_Pc (Value.ref b :: as') (qRep al base D ca cv μ)) as' := ⟨qblind, hcell, hPc⟩
    rcases htag with rfl | rfl
    · have hT : GoodIn qG (wsV (qown o) j (qmy (n / 100)).cls (qmy (n / 100)) (qmw (n / 100))) := qG_sub _ (fun w hw2 => by
        unfold wsV at hw2
        rcases List.mem_append.mp hw2 with z | z
        · exact hw w z
        · exact qmw_in hmok w z)
      exact va_runV hfix (hMet l) (cwV (as.length - 1) hts hT rfl rfl rfl ⟨rfl, hmok.2.2.2.1.1, hmok.2.2.2.1.2, hnp⟩ (room _ hnl)) hp rfl hlen hl.1 hstk hW8 hd hf
    · have hT : GoodIn qG (qmw (n / 100)) := qG_sub _ (qmw_in hmok)
      have hn1 := hSt.2.2.2.2.2.1 _ (hnw (.methodLinkNest (qown o) j (qmy (n / 100)) "LockLadder") (by simp [qcnw]))
      exact va_runVN hfix (hMet l) ⟨va_cnB (as.length - 1) hts hT rfl rfl rfl hn1 (hts _ hmok.2.1) ⟨hmok.2.2.2.1.1, hmok.2.2.2.1.2, hnp⟩ (room _ hnl), hts _ (hw _ (by simp only [qcw]; exact List.mem_cons_self)), hts _ (hw _ (by simp only [qcw]; exact List.mem_cons_of_mem _ List.mem_cons_self))⟩ hp rfl hlen hl.1 hstk hW8 hd hf
  · -- static
    have hcb2 : qsig true n = true := by
      rcases htag with rfl | rfl <;> (simp only [qcb, Bool.and_eq_true] at hcb; exact hcb.2)
    obtain ⟨hnp, hst, hnl, hMlt⟩ := hsigof true hcb2
    simp only [if_true] at hnp
    have hmok := qm_ok hMlt
    have hp : PreS s H (va_Pc (as.map (qtr base cv)) (qRep al base D ca cv μ)) (as.map (qtr base cv)) := ⟨qblind, hPc⟩
    rcases htag with rfl | rfl
    · have hT : GoodIn qG (va_wsS (qown o) j (qmy (n / 100)) (qmw (n / 100))) := qG_sub _ (fun w hw2 => by
        unfold va_wsS at hw2
        rcases List.mem_append.mp hw2 with z | z
        · exact hw w z
        · exact qmw_in hmok w z)
      exact va_runS hfix (hMet l) (va_cwS as.length hts hT rfl rfl rfl ⟨hmok.2.2.2.1.1, hmok.2.2.2.1.2, hnp⟩ (room _ hnl)) hp rfl (by simp) hl.1 rfl hW8 hd hf
    · have hT : GoodIn qG (qmw (n / 100)) := qG_sub _ (qmw_in hmok)
      have hn1 := hSt.2.2.2.2.2.1 _ (hnw (.methodLinkNest (qown o) j (qmy (n / 100)) "LockLadder") (by simp [qcnw]))
      exact va_runSN hfix (hMet l) ⟨va_cnB as.length hts hT rfl rfl rfl hn1 (hts _ hmok.2.1) ⟨hmok.2.2.2.1.1, hmok.2.2.2.1.2, hnp⟩ (room _ hnl), hts _ (hw _ (by simp only [qcw]; exact List.mem_cons_self)), trivial⟩ hp rfl (by simp) hl.1 rfl hW8 hd hf
  · -- a constructor
    have hcb2 : qsig false n = true ∧ (qmy (n / 100)).name = "<init>" ∧ (qm (n / 100)).2.2.2.2.2.1 = none := by
      rcases htag with rfl | rfl <;> (simp only [qcb, Bool.and_eq_true, decide_eq_true_eq] at hcb; exact ⟨hcb.2.1, hcb.2.2.1, hcb.2.2.2⟩)
    obtain ⟨hsg, hnm, hret⟩ := hcb2
    obtain ⟨hnp, hst, hnl, hMlt⟩ := hsigof false hsg
    simp only [Bool.false_eq_true, if_false] at hnp
    have hmok := qm_ok hMlt
    have hrec : ∃ b as', as.map (qtr base cv) = .ref b :: as' ∧ as'.length = as.length - 1 := by
      rcases hrv with z | z
      · rw [hst] at z; cases z
      · cases as with
        | nil => exact z.elim
        | cons v as =>
          cases v with
          | ref a =>
            obtain ⟨z1, z2⟩ := z
            obtain ⟨k1, rfl, hk1⟩ := qk_at z2 (by omega)
            exact ⟨base + k1, as.map (qtr base cv), rfl, by simp⟩
          | retAddr jj =>
            obtain ⟨z1, z2⟩ := z
            have hk3 : 10 ≤ jj ∧ jj < 23 := by
              simp only [qtk] at z2
              split at z2
              · cases z2
              · split at z2
                · rename_i z; exact z
                · split at z2 <;> cases z2
            obtain ⟨q, v, e1, -⟩ := hSt.2.1 (jj - 10) (by omega)
            rw [show 10 + (jj - 10) = jj by omega] at e1
            exact ⟨q, as.map (qtr base cv), by rw [List.map_cons, show qtr base cv (.retAddr jj) = .ref q from e1], by simp⟩
          | _ => exact z.elim
    obtain ⟨b, as', has, hlen⟩ := hrec
    rw [has] at hPc hMet ⊢
    have hstk : ((Value.ref b :: as').reverse ++ rest) = as'.reverse ++ Value.ref b :: rest := by simp
    have hp : PreS s H (va_Pc (Value.ref b :: as') (qRep al base D ca cv μ)) (Value.ref b :: as') := ⟨qblind, hPc⟩
    have hM2 := hMet l
    have hqm : qmw (n / 100) = .code (qmy (n / 100)) (qm (n / 100)).2.2.2.1 (qm (n / 100)).2.2.2.2.1 none :: qG := by simp only [qmw, hret]
    have hT : GoodIn qG (qmw (n / 100)) := qG_sub _ (qmw_in hmok)
    rcases htag with rfl | rfl
    · exact va_runI hfix hM2 (cwI (as.length - 1) hts hT hqm rfl rfl (hts _ hmok.2.1) (hts _ (hw _ (by simp only [qcw]; exact List.mem_cons_self))) (hts _ (hw _ (by simp only [qcw]; exact List.mem_cons_of_mem _ List.mem_cons_self))) hnm ⟨hmok.2.2.2.1.1, hmok.2.2.2.1.2, hnp⟩ (room _ hnl)) hp rfl hlen hl.1 hstk hW8 hd hf
    · have hn1 := hSt.2.2.2.2.2.1 _ (hnw (.methodLinkNest (qown o) j (qmy (n / 100)) "LockLadder") (by simp [qcnw]))
      exact va_runIN hfix hM2 ⟨va_cnB (as.length - 1) hts hT hqm rfl rfl hn1 (hts _ hmok.2.1) ⟨hmok.2.2.2.1.1, hmok.2.2.2.1.2, hnp⟩ (room _ hnl), hnm, hts _ (hw _ (by simp only [qcw]; exact List.mem_cons_self))⟩ hp rfl hlen hl.1 hstk hW8 hd hf
theorem qs_call (C : qCtx p R s m args meth c base D ca cv o ini cc nL mc ms d) {n tag j : Nat} {di : Instr} (htag : (tag = 11 ∨ tag = 14) ∧ di = .invokevirtual j ∨ (tag = 12 ∨ tag = 15) ∧ di = .invokestatic j ∨ (tag = 13 ∨ tag = 16) ∧ di = .invokespecial j) (hq : qcpl o j = (tag, (n : Int)))
    (hd : decode cc (qbpc cd pc) = .ok (di, 3)) (hn : qbpc cd (pc + 1) = qbpc cd pc + 3) {d0 : Nat} (hd0 : d0 + 1 ≤ d) (hcf : ∀ M as μ r1, cf M as μ = some r1 → qGood al base D ca cv d0 M as μ r1)
    (hk : ∀ pc L S μ, k pc L S μ = some r → qGo al p l e R s m args below meth c Q base D ca cv cd nL rc rs mc ms pc L S μ) (h : qop al cf (.invokestatic n) pc L S μ k = some r) : qGo al p l e R s m args below meth c Q base D ca cv cd nL rc rs mc ms pc L S μ := by
  simp only [qop, qcall] at h
  split at h
  · rename_i hcat
    obtain ⟨r1, e1, e2⟩ := qbnd_some h
    have hg := hcf _ _ _ _ e1
    have hcv := C.2.2.2.2.2.2.2.2.1
    have hcat2 := Nat.le_trans (qcats_tr (base := base) hcv (S.drop (n % 100 / 10))) hcat
    have hstk : ((((S.take (n % 100 / 10)).reverse).map (qtr base cv)).reverse ++ (S.drop (n % 100 / 10)).map (qtr base cv)) = S.map (qtr base cv) := by
      rw [← List.map_reverse, List.reverse_reverse, ← List.map_append, List.take_append_drop]
    have hmcR := C.2.2.2.2.2.2.2.2.2.2.2.2.2
    -- by what it answers
    have hret : (n % 10 = 0 ∧ (qm (n / 100)).2.2.2.2.2.1 = none) ∨ (n % 10 = 2 ∧ (qm (n / 100)).2.2.2.2.2.1 = some .long) ∨ (n % 10 = 1 ∧ ∃ ty, (qm (n / 100)).2.2.2.2.2.1 = some ty ∧ ty ≠ .long) := by
      obtain ⟨-, -, hcb⟩ := qcp_ok hq (by rcases htag with ⟨z | z, -⟩ | ⟨z | z, -⟩ | ⟨z | z, -⟩ <;> omega)
      have hsg : ∃ st, qsig st n = true := by
        rcases htag with ⟨z | z, -⟩ | ⟨z | z, -⟩ | ⟨z | z, -⟩ <;> subst z <;> simp only [qcb, Int.toNat_natCast, Bool.and_eq_true] at hcb
        · exact ⟨_, hcb.2.1.1⟩
        · exact ⟨_, hcb.2.1.1⟩
        · exact ⟨_, hcb.2⟩
        · exact ⟨_, hcb.2⟩
        · exact ⟨_, hcb.2.1⟩
        · exact ⟨_, hcb.2.1⟩
      obtain ⟨st, hsg⟩ := hsg
      simp only [qsig, Bool.and_eq_true] at hsg
      have h4 := hsg.1.1.2
      split at h4
      · rename_i hr; exact Or.inl ⟨by simpa using h4, hr⟩
      · rename_i hr; exact Or.inr (Or.inl ⟨by simpa using h4, hr⟩)
      · rename_i ty hne hr; exact Or.inr (Or.inr ⟨by simpa using h4, ty, hr, fun z => hne z⟩)
    have hgo : ∀ S1, k (pc + 1) L S1 r1.2.2 = some r → ((r1.2.2.2.2.2.2.1 ≤ rc ∧ r1.2.2.2.2.2.2.2 ≤ rs) ∧ ∀ (H1 : Heap) (locs1 : List Loc) (cells slots : Nat) (ls : Array Slot), va_P D vwCl (qW base ca cv r1.2.2) H1 → va_S (qA base) s.heap H1 locs1 → (al = true → H1.size = base + r1.2.2.1.length) → qLs base cv ls nL L → cells + (rc - r1.2.2.2.2.2.2.1) = mc → slots + (rs - r1.2.2.2.2.2.2.2) = ms → W p l e R s m args below meth c H1 locs1 cells slots Q (F0 m (qbpc cd pc + 3) ls (S1.map (qtr base cv)))) := by
      intro S1 h1
      have := hk _ _ _ _ h1
      rw [qGo, hn] at this
      exact this
    obtain ⟨⟨g1, g2⟩, -⟩ := id hg
    rcases hret with ⟨hr, hrt⟩ | ⟨hr, hrt⟩ | ⟨hr, ty, hrt, hty⟩
    · rw [hr] at e2
      obtain ⟨⟨b1, b2⟩, hgo⟩ := hgo _ e2
      refine ⟨⟨by omega, by omega⟩, fun H locs cells slots ls hP hS hz hl q1 q2 => ?_⟩
      have hrun := qs_run (l := l) (e := e) (below := below) C rfl htag hq hd hd0 hg hcat2 hP hS hz hl (cells := cells) (slots := slots) (by omega) (by omega)
      rw [hstk, hrt] at hrun
      have hrun2 : va_Run p l e R s m args below meth c H locs cells slots (r1.2.2.2.2.2.2.1 - μ.2.2.2.2.1) (r1.2.2.2.2.2.2.2 - μ.2.2.2.2.2) (F0 m (qbpc cd pc) ls (S.map (qtr base cv))) ((S.drop (n % 100 / 10)).map (qtr base cv)) (va_Qv (S := Unit) (fun _ => True) (fun _ t => qRep al base D ca cv r1.2.2 t) (qA base) (((S.take (n % 100 / 10)).reverse).map (qtr base cv)).toArray) (qA base) := hrun
      exact va_callv hrun2 hS (fun q _ h => h) (fun q h => h) (fun u t H1 locs1 ht hvm hpo hB hz1 hk1 hS1 => hgo H1 locs1 _ _ ls (by rw [← ht]; exact hB.1) hS1 (fun ha => by rw [← ht]; exact hB.2.2.2.2 ha) hl (by omega) (by omega))
    · rw [hr] at e2
      obtain ⟨⟨b1, b2⟩, hgo⟩ := hgo _ e2
      refine ⟨⟨by omega, by omega⟩, fun H locs cells slots ls hP hS hz hl q1 q2 => ?_⟩
      have hrun := qs_run (l := l) (e := e) (below := below) C rfl htag hq hd hd0 hg hcat2 hP hS hz hl (cells := cells) (slots := slots) (by omega) (by omega)
      rw [hstk, hrt] at hrun
      have hrun2 : va_Run p l e R s m args below meth c H locs cells slots (r1.2.2.2.2.2.2.1 - μ.2.2.2.2.1) (r1.2.2.2.2.2.2.2 - μ.2.2.2.2.2) (F0 m (qbpc cd pc) ls (S.map (qtr base cv))) ((S.drop (n % 100 / 10)).map (qtr base cv)) (va_Ql (S := Unit) (fun x _ => x = r1.2.1) (fun _ t => qRep al base D ca cv r1.2.2 t) (qA base) (((S.take (n % 100 / 10)).reverse).map (qtr base cv)).toArray) (qA base) := hrun
      exact va_calll hrun2 hS (fun q _ h => h) (fun q h => h) (fun rr u t H1 locs1 ht hvm hpo hB hz1 hk1 hS1 => by subst hpo; exact hgo H1 locs1 _ _ ls (by rw [← ht]; exact hB.1) hS1 (fun ha => by rw [← ht]; exact hB.2.2.2.2 ha) hl (by omega) (by omega))
    · rw [hr] at e2
      obtain ⟨⟨b1, b2⟩, hgo⟩ := hgo _ e2
      refine ⟨⟨by omega, by omega⟩, fun H locs cells slots ls hP hS hz hl q1 q2 => ?_⟩
      have hrun := qs_run (l := l) (e := e) (below := below) C rfl htag hq hd hd0 hg hcat2 hP hS hz hl (cells := cells) (slots := slots) (by omega) (by omega)
      rw [hstk, hrt] at hrun
      have hrun2 : va_Run p l e R s m args below meth c H locs cells slots (r1.2.2.2.2.2.2.1 - μ.2.2.2.2.1) (r1.2.2.2.2.2.2.2 - μ.2.2.2.2.2) (F0 m (qbpc cd pc) ls (S.map (qtr base cv))) ((S.drop (n % 100 / 10)).map (qtr base cv)) (va_Qi (S := Unit) (fun x _ => x = r1.1) (fun _ t => qRep al base D ca cv r1.2.2 t) (qA base) (((S.take (n % 100 / 10)).reverse).map (qtr base cv)).toArray) (qA base) := by
        cases ty with
        | long => exact absurd rfl hty
        | _ => exact hrun
      exact va_calli hrun2 hS (fun q _ h => h) (fun q h => h) (fun rr u t H1 locs1 ht hvm hpo hB hz1 hk1 hS1 => by subst hpo; exact hgo H1 locs1 _ _ ls (by rw [← ht]; exact hB.1) hS1 (fun ha => by rw [← ht]; exact hB.2.2.2.2 ha) hl (by omega) (by omega))
  · cases h
end QFOUR

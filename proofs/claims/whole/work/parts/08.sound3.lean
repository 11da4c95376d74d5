/-! SOUNDNESS, THIRD PART: switches, fields, arrays, new objects, ends -/
theorem qbnd_some {α : Type} {o : Option α} {f : α → Option qR} {r : qR} (h : qbnd o f = some r) : ∃ a, o = some a ∧ f a = some r := by
  cases o with
  | none => cases h
  | some a => exact ⟨a, rfl, h⟩
theorem ite_some {P : Prop} [Decidable P] {α : Type} {a r : α} (h : (if P then some a else none) = some r) : P ∧ a = r := by
  by_cases hp : P
  · rw [if_pos hp] at h; exact ⟨hp, Option.some.inj h⟩
  · rw [if_neg hp] at h; cases h
theorem qlook_swt {d : Int} {x : Int32} {k : Nat → Option qR} : ∀ {ps : List (Int × Int)}, qkeys ps = true → qlook d ps x k = k (qswt d ps x.toInt).toNat := by
  intro ps
  induction ps with
  | nil => intro _; rfl
  | cons a ps ih =>
    obtain ⟨a, t⟩ := a
    intro hk
    simp only [qkeys, List.all_cons, Bool.and_eq_true, decide_eq_true_eq] at hk
    simp only [qlook, qswt]
    by_cases hxa : x = Int32.ofInt a
    · rw [if_pos hxa, if_pos (by rw [hxa]; exact hk.1)]
    · rw [if_neg hxa, if_neg (fun q => hxa (Int32.toInt_inj.mp (by rw [hk.1]; exact q)))]
      exact ih hk.2
theorem qlk_swt {cd : qC} {b : Nat} {d d' : Int} (hd : (b : Int) + d = (qbpc cd d'.toNat : Int)) (x : Int) : ∀ {ps qs : List (Int × Int)}, qlk cd b ps qs = true → (b : Int) + Op.lookupswitch.offset ps d x = (qbpc cd (qswt d' qs x).toNat : Int) := by
  intro ps
  induction ps with
  | nil => intro qs h; cases qs with
    | nil => exact hd
    | cons _ _ => cases h
  | cons a ps ih =>
    obtain ⟨a, t⟩ := a
    intro qs h
    cases qs with
    | nil => cases h
    | cons z qs =>
      obtain ⟨a', t'⟩ := z
      simp only [qlk, qtgt, Bool.and_eq_true, decide_eq_true_eq] at h
      obtain ⟨⟨rfl, h2⟩, h3⟩ := h
      rw [Op.lookupswitch.offset_cons]
      simp only [qswt]
      by_cases hxa : x = a
      · rw [if_pos hxa.symm, if_pos hxa]; exact h2
      · rw [if_neg (fun q => hxa q.symm), if_neg hxa]; exact ih h3
theorem qswt_out {d : Int} {lo hi x : Int} (hx : x < lo ∨ hi < x) : ∀ {ps : List (Int × Int)}, (ps.all fun z => decide (lo ≤ z.1 ∧ z.1 ≤ hi)) = true → qswt d ps x = d := by
  intro ps
  induction ps with
  | nil => intro _; rfl
  | cons a ps ih =>
    obtain ⟨a, t⟩ := a
    intro h
    simp only [List.all_cons, Bool.and_eq_true, decide_eq_true_eq] at h
    simp only [qswt]
    rw [if_neg (by omega)]
    exact ih h.2
section QTHR
variable {p : Program} {l : Launch} {e : Env} {R : Room} {s : State} {m : MethodId} {args : Array Value} {below : List Frame} {meth : Method} {c : Code} {Q : State → Prop}
variable {al : Bool} {base : Nat} {D : va_G} {ca : Nat → ClassId} {cv : Nat → Value} {o : Nat} {cc : ByteArray} {cd : qC} {nL rc rs mc ms : Nat}
variable {d : Nat} {ini : Bool} {k : qK} {cf : qF} {r : qR} {pc : Nat} {L S : List Value} {μ : qM}
theorem qs_tableswitch (C : qCtx p R s m args meth c base D ca cv o ini cc nL mc ms d) {df lo hi df2 : Int} {offs : Array Int} {ps : Array (Int × Int)} {ln : Nat} (ht : qtgt cd (qbpc cd pc) df df2 = true) (hks : qkeys ps.toList = true) (hb2 : (ps.toList.all fun z => decide (lo ≤ z.1 ∧ z.1 ≤ hi)) = true) (hsz : (offs.size : Int) = hi - lo + 1) (hall : ((List.range offs.size).all fun k => match offs[k]? with | some off => qtgt cd (qbpc cd pc) off (qswt df2 ps.toList (lo + (k : Int))) | none => false) = true) (hd : decode cc (qbpc cd pc) = .ok (.tableswitch df lo hi offs, ln)) (hk : ∀ pc L S μ, k pc L S μ = some r → qGo al p l e R s m args below meth c Q base D ca cv cd nL rc rs mc ms pc L S μ) (h : qop al cf (.lookupswitch df2 ps) pc L S μ k = some r) : qGo al p l e R s m args below meth c Q base D ca cv cd nL rc rs mc ms pc L S μ := by
  obtain ⟨hx, hb, hml, hown, hts, hK, hSt, hbs, hcv, hini, hd1, hfr, hlo, hmc, hms⟩ := C
  simp only [qop, q1] at h
  split at h
  · rename_i x S1
    rw [qlook_swt hks] at h
    refine (hk _ _ _ _ h).same fun H locs cells slots ls hP hS hl hc hs kk => ?_
    by_cases hout : x.toInt < lo ∨ hi < x.toInt
    · rw [qswt_out hout hb2] at kk
      exact lv_tableOut hx hb hd hout (of_decide_eq_true ht) (kk ls hl)
    · have h1 : ¬ x.toInt < lo := fun q => hout (Or.inl q)
      have h2 : ¬ hi < x.toInt := fun q => hout (Or.inr q)
      have hi2 : (x.toInt - lo).toNat < offs.size := by omega
      have hq := List.all_eq_true.mp hall (x.toInt - lo).toNat (List.mem_range.mpr hi2)
      rw [Array.getElem?_eq_getElem hi2] at hq
      simp only at hq
      rw [show lo + ((x.toInt - lo).toNat : Int) = x.toInt by omega] at hq
      exact lv_tableIn hx hb hd h1 h2 (Array.getElem?_eq_getElem hi2) (of_decide_eq_true hq) (kk ls hl)
  · cases h
theorem qs_lookupswitch (C : qCtx p R s m args meth c base D ca cv o ini cc nL mc ms d) {df df2 : Int} {ps qs : Array (Int × Int)} {ln : Nat} (ht : qtgt cd (qbpc cd pc) df df2 = true) (hks : qkeys qs.toList = true) (hlk : qlk cd (qbpc cd pc) ps.toList qs.toList = true) (hsort : (ps.toList.zip (ps.toList.drop 1)).all (fun (a, next) => a.1 < next.1) = true) (hd : decode cc (qbpc cd pc) = .ok (.lookupswitch df ps, ln)) (hk : ∀ pc L S μ, k pc L S μ = some r → qGo al p l e R s m args below meth c Q base D ca cv cd nL rc rs mc ms pc L S μ) (h : qop al cf (.lookupswitch df2 qs) pc L S μ k = some r) : qGo al p l e R s m args below meth c Q base D ca cv cd nL rc rs mc ms pc L S μ := by
  obtain ⟨hx, hb, hml, hown, hts, hK, hSt, hbs, hcv, hini, hd1, hfr, hlo, hmc, hms⟩ := C
  simp only [qop, q1] at h
  split at h
  · rename_i x S1
    rw [qlook_swt hks] at h
    exact (hk _ _ _ _ h).same fun H locs cells slots ls hP hS hl hc hs kk => lv_lookup hx hb hd hsort rfl (qlk_swt (of_decide_eq_true ht) x.toInt hlk) (kk ls hl)
  · cases h
theorem qs_getfield (C : qCtx p R s m args meth c base D ca cv o ini cc nL mc ms d) {j n : Nat} (hq : qcpl o j = (1, (n : Int))) (hd : decode cc (qbpc cd pc) = .ok (.getfield j, 3)) (hn : qbpc cd (pc + 1) = qbpc cd pc + 3) (hk : ∀ pc L S μ, k pc L S μ = some r → qGo al p l e R s m args below meth c Q base D ca cv cd nL rc rs mc ms pc L S μ) (h : qop al cf (.getfield n) pc L S μ k = some r) : qGo al p l e R s m args below meth c Q base D ca cv cd nL rc rs mc ms pc L S μ := by
  obtain ⟨hx, hb, hml, hown, hts, hK, hSt, hbs, hcv, hini, hd1, hfr, hlo, hmc, hms⟩ := C
  obtain ⟨hw, -, hcb⟩ := qcp_ok hq (by decide)
  have hw := hw (.fieldLink (qown o) j (qfT n).1 (qfT n).2.1 (qfT n).2.2.1) (by simp [qcw])
  simp only [qcb, Int.toNat_natCast, Bool.and_eq_true, decide_eq_true_eq] at hcb
  obtain ⟨-, hc9, hkf, hty, hn2⟩ := hcb
  obtain ⟨hcl, hin, htyF, hnm, hfn⟩ := qin_cl _ hc9
  have key : ∀ (a : Nat) (S1 : List Value) (v : Value), (qk μ a).1 = n / 1000 → (∀ k1, a = k1 + 1 → qtr base cv v = qslot base cv μ k1 (n / 1000) (n % 1000 / 10)) → qGo al p l e R s m args below meth c Q base D ca cv cd nL rc rs mc ms (pc + 1) L (v :: S1) μ → qGo al p l e R s m args below meth c Q base D ca cv cd nL rc rs mc ms pc L (.ref a :: S1) μ := by
    intro a S1 v ha hv hgo
    obtain ⟨k1, rfl, hk1⟩ := qk_at ha (by omega)
    refine hgo.same fun H locs cells slots ls hP hS hl hc hs kk => ?_
    have he := qW_get (base := base) (ca := ca) (cv := cv) hk1
    rw [qE_obj hk1 (by omega)] at he
    have kk2 := kk ls hl
    rw [List.map_cons, hn] at kk2
    exact va_get (D := D) (C := (qcl (n / 1000)).1) (T := (qcl (n / 1000)).2.1) (N := (qcl (n / 1000)).2.2) hx hb hts hin hown hK hP k1 he hcl (n % 1000 / 10) (by rw [← hfn]; exact hkf) (hts _ hw) (fun _ h9 => h9) (v := qtr base cv v) (by rw [hv k1 rfl, List.getElem?_map, List.getElem?_range hkf]; rfl) hd kk2
  simp only [qop, qget] at h
  split at h
  · rename_i a S1
    rw [if_neg (by omega)] at h
    split at h
    · rename_i h2
      obtain ⟨x, e1, e2⟩ := qbnd_some h
      obtain ⟨g1, rfl⟩ := ite_some e1
      refine key a S1 _ g1 (fun k1 hk1 => ?_) (hk _ _ _ _ e2)
      subst hk1
      simp only [qslot]
      rw [if_pos (by rw [← hty]; exact h2)]
    · rename_i h2
      obtain ⟨x, e1, e2⟩ := qbnd_some h
      obtain ⟨g1, rfl⟩ := ite_some e1
      refine key a S1 _ g1 (fun k1 hk1 => ?_) (hk _ _ _ _ e2)
      subst hk1
      simp only [qslot]
      rw [if_neg (by rw [← hty]; exact h2)]
      rfl
  · split at h
    · split at h
      · omega
      · omega
      · cases h
    · cases h
  · cases h
theorem qs_gets_value (C : qCtx p R s m args meth c base D ca cv o ini cc nL mc ms d) {j : Nat} (hq : qcpl o j = (19, 0)) (hd : decode cc (qbpc cd pc) = .ok (.getfield j, 3)) (hn : qbpc cd (pc + 1) = qbpc cd pc + 3) (hk : ∀ pc L S μ, k pc L S μ = some r → qGo al p l e R s m args below meth c Q base D ca cv cd nL rc rs mc ms pc L S μ) (h : qop al cf (.getfield 0) pc L S μ k = some r) : qGo al p l e R s m args below meth c Q base D ca cv cd nL rc rs mc ms pc L S μ := by
  obtain ⟨hx, hb, hml, hown, hts, hK, hSt, hbs, hcv, hini, hd1, hfr, hlo, hmc, hms⟩ := C
  obtain ⟨hw, -, -⟩ := qcp_ok hq (by decide)
  have hw := hw (.fieldLink (qown o) j "java/lang/String" "value" "[B") (by simp [qcw])
  simp only [qop, qget] at h
  split at h
  · rw [if_pos (by decide)] at h; cases h
  · rename_i jj S1
    split at h
    · rename_i hk2
      have hk3 : 10 ≤ jj ∧ jj < 23 := by
        simp only [qtk] at hk2
        split at hk2
        · cases hk2
        · split at hk2
          · rename_i z; exact z
          · split at hk2 <;> cases hk2
      obtain ⟨q, v, e1, e2, e3, e4, e5, e6, e7⟩ := hSt.2.1 (jj - 10) (by omega)
      rw [show 10 + (jj - 10) = jj by omega] at e1
      rw [show 30 + (jj - 10) = jj + 20 by omega] at e2
      refine (hk _ _ _ _ h).same fun H locs cells slots ls hP hS hl hc hs kk => ?_
      have kk2 := kk ls hl
      rw [List.map_cons, hn] at kk2
      rw [List.map_cons, show qtr base cv (.retAddr jj) = .ref q from e1]
      exact vk_getf hx hb e6 hS hown (hts _ hw) (fun _ h9 => h9) hd (by rw [show qtr base cv (.retAddr (jj + 20)) = .ref v from e2] at kk2; exact kk2)
    · cases h
  · cases h
theorem qs_gets_coder (C : qCtx p R s m args meth c base D ca cv o ini cc nL mc ms d) {j : Nat} (hq : qcpl o j = (20, 1)) (hd : decode cc (qbpc cd pc) = .ok (.getfield j, 3)) (hn : qbpc cd (pc + 1) = qbpc cd pc + 3) (hk : ∀ pc L S μ, k pc L S μ = some r → qGo al p l e R s m args below meth c Q base D ca cv cd nL rc rs mc ms pc L S μ) (h : qop al cf (.getfield 1) pc L S μ k = some r) : qGo al p l e R s m args below meth c Q base D ca cv cd nL rc rs mc ms pc L S μ := by
  obtain ⟨hx, hb, hml, hown, hts, hK, hSt, hbs, hcv, hini, hd1, hfr, hlo, hmc, hms⟩ := C
  obtain ⟨hw, -, -⟩ := qcp_ok hq (by decide)
  have hw := hw (.fieldLink (qown o) j "java/lang/String" "coder" "B") (by simp [qcw])
  simp only [qop, qget] at h
  split at h
  · rw [if_pos (by decide)] at h; cases h
  · rename_i jj S1
    split at h
    · rename_i hk2
      have hk3 : 10 ≤ jj ∧ jj < 23 := by
        simp only [qtk] at hk2
        split at hk2
        · cases hk2
        · split at hk2
          · rename_i z; exact z
          · split at hk2 <;> cases hk2
      obtain ⟨q, v, e1, e2, e3, e4, e5, e6, e7⟩ := hSt.2.1 (jj - 10) (by omega)
      rw [show 10 + (jj - 10) = jj by omega] at e1
      rw [show 30 + (jj - 10) = jj + 20 by omega] at e2
      refine (hk _ _ _ _ h).same fun H locs cells slots ls hP hS hl hc hs kk => ?_
      have kk2 := kk ls hl
      rw [List.map_cons, hn] at kk2
      rw [List.map_cons, show qtr base cv (.retAddr jj) = .ref q from e1]
      exact vk_getf hx hb e5 hS hown (hts _ hw) (fun _ h9 => h9) hd kk2
    · cases h
  · cases h
theorem qs_putfield (C : qCtx p R s m args meth c base D ca cv o ini cc nL mc ms d) {j n : Nat} (hq : qcpl o j = (1, (n : Int))) (hfi : (!(qfT n).2.2.2 || (ini && decide ((qfT n).1 = qown o))) = true) (hd : decode cc (qbpc cd pc) = .ok (.putfield j, 3)) (hn : qbpc cd (pc + 1) = qbpc cd pc + 3) (hk : ∀ pc L S μ, k pc L S μ = some r → qGo al p l e R s m args below meth c Q base D ca cv cd nL rc rs mc ms pc L S μ) (h : qop al cf (.putfield n) pc L S μ k = some r) : qGo al p l e R s m args below meth c Q base D ca cv cd nL rc rs mc ms pc L S μ := by
  obtain ⟨hx, hb, hml, hown, hts, hK, hSt, hbs, hcv, hini, hd1, hfr, hlo, hmc, hms⟩ := C
  obtain ⟨hw, -, hcb⟩ := qcp_ok hq (by decide)
  have hw := hw (.fieldLink (qown o) j (qfT n).1 (qfT n).2.1 (qfT n).2.2.1) (by simp [qcw])
  simp only [qcb, Int.toNat_natCast, Bool.and_eq_true, decide_eq_true_eq] at hcb
  obtain ⟨-, hc9, hkf, hty, hn2⟩ := hcb
  have hfin : ((qcl (n / 1000)).2.1 (n % 1000 / 10)).2.2.2 = false ∨ (meth.name = "<init>" ∧ ((qcl (n / 1000)).2.1 (n % 1000 / 10)).1 = qown o) := by
    simp only [Bool.or_eq_true, Bool.not_eq_true', Bool.and_eq_true, decide_eq_true_eq] at hfi
    rcases hfi with z | ⟨z1, z2⟩
    · exact Or.inl z
    · exact Or.inr ⟨hini z1, z2⟩
  have key : ∀ (a : Nat) (S1 : List Value) (v : Value) (μ' : qM), (qk μ a).1 = n / 1000 → narrow (qtyF (n / 1000) (n % 1000 / 10)) (qtr base cv v) = qtr base cv v → fits (qtyF (n / 1000) (n % 1000 / 10)) (qtr base cv v) = true → μ'.1 = μ.1 → μ'.2.2.2.2 = μ.2.2.2.2 →
      (∀ k1 nn, a = k1 + 1 → qnth μ.1 k1 = some (n / 1000, nn) → qE base ca cv μ' k1 = .inr (n / 1000, ((List.range (qfn (n / 1000))).map (qslot base cv μ k1 (n / 1000))).set (n % 1000 / 10) (qtr base cv v)) ∧ ∀ i, i ≠ k1 → qE base ca cv μ' i = qE base ca cv μ i) → qGo al p l e R s m args below meth c Q base D ca cv cd nL rc rs mc ms (pc + 1) L S1 μ' → qGo al p l e R s m args below meth c Q base D ca cv cd nL rc rs mc ms pc L (v :: .ref a :: S1) μ := by
    intro a S1 v μ' ha hnr hft h1 h2 hset hgo
    obtain ⟨k1, rfl, hk1⟩ := qk_at ha (by omega)
    obtain ⟨hs1, hs2⟩ := hset k1 _ rfl hk1
    refine hgo.mem h1 h2 fun H locs cells slots ls hP hS hl hc hs kk => ?_
    have he := qW_get (base := base) (ca := ca) (cv := cv) hk1
    rw [qE_obj hk1 (by omega)] at he
    refine qr_put (D := D) hx hb hts hc9 hown hK hP (qD base ca cv μ) hS k1 he (n % 1000 / 10) hkf (hts _ hw) hfin hnr hft (by simp [hkf]) hd (fun H1 locs1 hP1 hS1 hz => ?_)
    rw [qW_set h1 hs1 hs2] at hP1
    rw [← hn]
    exact kk H1 locs1 ls hP1 hS1 (fun _ => hz) hl
  simp only [qop, qput] at h
  split at h
  · rename_i x a S1
    split at h
    · rename_i h0
      obtain ⟨μ1, e1, e2⟩ := qbnd_some h
      obtain ⟨g1, rfl⟩ := ite_some e1
      have hq0 : qfty (n / 1000) (n % 1000 / 10) = 0 := by rw [← hty]; exact h0
      have hT : qtyF (n / 1000) (n % 1000 / 10) = .int := by
        rcases qtys_ok _ hc9 _ hkf with z | z | z
        · exact z.2
        · omega
        · omega
      refine key a S1 (.int x) (qsI μ a (n % 1000 / 10) x) g1 (by rw [hT]; rfl) (by rw [hT]; rfl) rfl rfl (fun k1 nn hk1 hk2 => ?_) (hk _ _ _ _ e2)
      subst hk1
      exact ⟨qE_setI hk2 (by omega) (by omega), fun i hi => qE_I (by omega)⟩
    · rename_i h0
      split at h
      · rename_i hx01
        obtain ⟨μ1, e1, e2⟩ := qbnd_some h
        obtain ⟨g1, rfl⟩ := ite_some e1
        have hT : qtyF (n / 1000) (n % 1000 / 10) = .boolean := by
          rcases qtys_ok _ hc9 _ hkf with z | z | z
          · omega
          · exact z.2
          · omega
        refine key a S1 (.int x) (qsI μ a (n % 1000 / 10) x) g1 (by rw [hT]; exact (qfits_bool hx01).1) (by rw [hT]; exact (qfits_bool hx01).2) rfl rfl (fun k1 nn hk1 hk2 => ?_) (hk _ _ _ _ e2)
        subst hk1
        exact ⟨qE_setI hk2 (by omega) (by omega), fun i hi => qE_I (by omega)⟩
      · cases h
    · cases h
  · rename_i x a S1
    split at h
    · rename_i h0
      obtain ⟨μ1, e1, e2⟩ := qbnd_some h
      obtain ⟨g1, rfl⟩ := ite_some e1
      have hT : (∃ n', qtyF (n / 1000) (n % 1000 / 10) = .object n') ∨ ∃ t, qtyF (n / 1000) (n % 1000 / 10) = .array t := by
        rcases qtys_ok _ hc9 _ hkf with z | z | z
        · omega
        · omega
        · exact z.2
      refine key a S1 (.ref x) (qsP μ a (n % 1000 / 10) x) g1 (qfits_ref hT x).1 (qfits_ref hT x).2 rfl rfl (fun k1 nn hk1 hk2 => ?_) (hk _ _ _ _ e2)
      subst hk1
      exact ⟨qE_setP hk2 (by omega) (by omega), fun i hi => qE_P (by omega)⟩
    · cases h
  · cases h
theorem qs_getstatic (C : qCtx p R s m args meth c base D ca cv o ini cc nL mc ms d) {j tag : Nat} {z : Int} (hq : qcpl o j = (tag, z)) (htag : tag = 5 ∨ tag = 6 ∨ tag = 8) (hd : decode cc (qbpc cd pc) = .ok (.getstatic j, 3)) (hn : qbpc cd (pc + 1) = qbpc cd pc + 3) (hk : ∀ pc L S μ, k pc L S μ = some r → qGo al p l e R s m args below meth c Q base D ca cv cd nL rc rs mc ms pc L S μ) (h : qop al cf (.jsr z) pc L S μ k = some r) : qGo al p l e R s m args below meth c Q base D ca cv cd nL rc rs mc ms pc L S μ := by
  obtain ⟨hx, hb, hml, hown, hts, hK, hSt, hbs, hcv, hini, hd1, hfr, hlo, hmc, hms⟩ := C
  obtain ⟨hw, hnw, hcb⟩ := qcp_ok hq (by omega)
  simp only [qop] at h
  refine (hk _ _ _ _ h).same fun H locs cells slots ls hP hS hl hc hs kk => ?_
  have kk2 := kk ls hl
  rw [List.map_cons, hn] at kk2
  rcases htag with rfl | rfl | rfl
  · simp only [qcb, Bool.and_eq_true, decide_eq_true_eq] at hcb
    exact va_gets hx hb (hSt.1 z.toNat hcb.2).1 hS hown (hts _ (hw _ (by simp only [qcw]; exact List.mem_cons_self))) (fun _ h9 => h9) hd kk2
  · simp only [qcb, Bool.and_eq_true, decide_eq_true_eq] at hcb
    have hnw := hSt.2.2.2.2.2.1 _ (hnw _ (by simp only [qcnw]; exact List.mem_cons_self))
    exact va_getsN hx hb (hSt.1 z.toNat hcb.2).1 hS hown (va_Nw.use rfl hnw) (fun _ h9 => h9) hd kk2
  · simp only [qcb, Bool.and_eq_true, decide_eq_true_eq] at hcb
    have kk3 : W p l e R s m args below meth c H locs cells slots Q (F0 m (qbpc cd pc + 3) ls (cv 50 :: S.map (qtr base cv))) := by
      have : qtr base cv (.retAddr z.toNat) = cv 50 := by rw [hcb.2]; rfl
      rw [← this]; exact kk2
    exact va_gets hx hb hSt.2.2.2.1.2 hS hown (hts _ (hw _ (by simp only [qcw]; exact List.mem_cons_self))) (fun _ h9 => h9) hd kk3
theorem qs_getstaticC (C : qCtx p R s m args meth c base D ca cv o ini cc nL mc ms d) {j : Nat} (hq : qcpl o j = (7, 1)) (hd : decode cc (qbpc cd pc) = .ok (.getstatic j, 3)) (hn : qbpc cd (pc + 1) = qbpc cd pc + 3) (hk : ∀ pc L S μ, k pc L S μ = some r → qGo al p l e R s m args below meth c Q base D ca cv cd nL rc rs mc ms pc L S μ) (h : qop al cf (.iconst 1) pc L S μ k = some r) : qGo al p l e R s m args below meth c Q base D ca cv cd nL rc rs mc ms pc L S μ := by
  obtain ⟨hx, hb, hml, hown, hts, hK, hSt, hbs, hcv, hini, hd1, hfr, hlo, hmc, hms⟩ := C
  obtain ⟨hw, -, -⟩ := qcp_ok hq (by decide)
  simp only [qop] at h
  refine (hk _ _ _ _ h).same fun H locs cells slots ls hP hS hl hc hs kk => ?_
  have kk2 := kk ls hl
  rw [List.map_cons, hn] at kk2
  exact va_gets hx hb hSt.2.2.1 hS hown (hts _ (hw _ (by simp only [qcw]; exact List.mem_cons_self))) (fun _ h9 => h9) hd kk2
theorem qs_iaload (C : qCtx p R s m args meth c base D ca cv o ini cc nL mc ms d)  (hd : decode cc (qbpc cd pc) = .ok (.iaload, 1)) (hn : qbpc cd (pc + 1) = qbpc cd pc + 1) (hk : ∀ pc L S μ, k pc L S μ = some r → qGo al p l e R s m args below meth c Q base D ca cv cd nL rc rs mc ms pc L S μ) (h : qop al cf (.iaload) pc L S μ k = some r) : qGo al p l e R s m args below meth c Q base D ca cv cd nL rc rs mc ms pc L S μ := by
  obtain ⟨hx, hb, hml, hown, hts, hK, hSt, hbs, hcv, hini, hd1, hfr, hlo, hmc, hms⟩ := C
  simp only [qop, qld] at h
  split at h
  · rename_i i a S1
    obtain ⟨x, e1, e2⟩ := qbnd_some h
    obtain ⟨⟨g1, g2⟩, rfl⟩ := ite_some e1
    obtain ⟨k1, rfl, hk1⟩ := qk_at g1 (by decide)
    refine (hk _ _ _ _ e2).same fun H locs cells slots ls hP hS hl hc hs kk => ?_
    have he := qW_get (base := base) (ca := ca) (cv := cv) hk1
    rw [qE_int hk1 (by decide) (by decide) (by decide)] at he
    exact va_iald (D := D) hx hb hK hP k1 0 he rfl g2 hd (by rw [← hn]; exact kk ls hl)
  · rename_i i j S1
    obtain ⟨x, e1, e2⟩ := qbnd_some h
    obtain ⟨⟨g1, g2⟩, rfl⟩ := ite_some e1
    have hj : j < 5 := by
      simp only [qtk] at g1
      split at g1
      · assumption
      · split at g1
        · cases g1
        · split at g1 <;> cases g1
    obtain ⟨t, e3, e4⟩ := (hSt.1 j hj).2
    refine (hk _ _ _ _ e2).same fun H locs cells slots ls hP hS hl hc hs kk => ?_
    have kk2 := kk ls hl
    rw [List.map_cons, hn] at kk2
    rw [List.map_cons, List.map_cons, show qtr base cv (.retAddr j) = .ref t from e3]
    exact va_ti hx hb e4 hS g2 rfl hd kk2
  · cases h
theorem qs_baload (C : qCtx p R s m args meth c base D ca cv o ini cc nL mc ms d)  (hd : decode cc (qbpc cd pc) = .ok (.baload, 1)) (hn : qbpc cd (pc + 1) = qbpc cd pc + 1) (hk : ∀ pc L S μ, k pc L S μ = some r → qGo al p l e R s m args below meth c Q base D ca cv cd nL rc rs mc ms pc L S μ) (h : qop al cf (.baload) pc L S μ k = some r) : qGo al p l e R s m args below meth c Q base D ca cv cd nL rc rs mc ms pc L S μ := by
  obtain ⟨hx, hb, hml, hown, hts, hK, hSt, hbs, hcv, hini, hd1, hfr, hlo, hmc, hms⟩ := C
  simp only [qop, qld] at h
  split at h
  · rename_i i a S1
    obtain ⟨x, e1, e2⟩ := qbnd_some h
    obtain ⟨⟨g1, g2⟩, rfl⟩ := ite_some e1
    obtain ⟨k1, rfl, hk1⟩ := qk_at g1 (by decide)
    refine (hk _ _ _ _ e2).same fun H locs cells slots ls hP hS hl hc hs kk => ?_
    have he := qW_get (base := base) (ca := ca) (cv := cv) hk1
    rw [qE_int hk1 (by decide) (by decide) (by decide)] at he
    exact va_zald (D := D) hx hb hK hP k1 3 he rfl g2 hd (by rw [← hn]; exact kk ls hl)
  · rename_i i j S1
    obtain ⟨x, e1, e2⟩ := qbnd_some h
    obtain ⟨⟨g1, g2⟩, rfl⟩ := ite_some e1
    have hj : 30 ≤ j ∧ j < 43 := by
      simp only [qtk] at g1
      split at g1
      · cases g1
      · split at g1
        · cases g1
        · split at g1
          · rename_i z; exact z
          · cases g1
    obtain ⟨q, v, e3, e4, e5, e6, e7, e8, e9⟩ := hSt.2.1 (j - 30) (by omega)
    rw [show 30 + (j - 30) = j by omega] at e4 e9
    refine (hk _ _ _ _ e2).same fun H locs cells slots ls hP hS hl hc hs kk => ?_
    have kk2 := kk ls hl
    rw [List.map_cons, hn] at kk2
    rw [List.map_cons, List.map_cons, show qtr base cv (.retAddr j) = .ref v from e4]
    exact va_tb hx hb e9 hS g2 rfl hd kk2
  · cases h
theorem qs_caload (C : qCtx p R s m args meth c base D ca cv o ini cc nL mc ms d)  (hd : decode cc (qbpc cd pc) = .ok (.caload, 1)) (hn : qbpc cd (pc + 1) = qbpc cd pc + 1) (hk : ∀ pc L S μ, k pc L S μ = some r → qGo al p l e R s m args below meth c Q base D ca cv cd nL rc rs mc ms pc L S μ) (h : qop al cf (.caload) pc L S μ k = some r) : qGo al p l e R s m args below meth c Q base D ca cv cd nL rc rs mc ms pc L S μ := by
  obtain ⟨hx, hb, hml, hown, hts, hK, hSt, hbs, hcv, hini, hd1, hfr, hlo, hmc, hms⟩ := C
  simp only [qop, qld] at h
  split at h
  · rename_i i a S1
    obtain ⟨x, e1, e2⟩ := qbnd_some h
    obtain ⟨⟨g1, g2⟩, rfl⟩ := ite_some e1
    obtain ⟨k1, rfl, hk1⟩ := qk_at g1 (by decide)
    refine (hk _ _ _ _ e2).same fun H locs cells slots ls hP hS hl hc hs kk => ?_
    have he := qW_get (base := base) (ca := ca) (cv := cv) hk1
    rw [qE_int hk1 (by decide) (by decide) (by decide)] at he
    exact va_cald (D := D) hx hb hK hP k1 2 he rfl g2 hd (by rw [← hn]; exact kk ls hl)
  · rename_i i j S1
    obtain ⟨x, e1, e2⟩ := qbnd_some h
    obtain ⟨⟨g1, g2⟩, rfl⟩ := ite_some e1
    exfalso
    simp only [qtk] at g1
    split at g1
    · cases g1
    · split at g1
      · cases g1
      · split at g1 <;> cases g1
  · cases h
theorem qs_laload (C : qCtx p R s m args meth c base D ca cv o ini cc nL mc ms d)  (hd : decode cc (qbpc cd pc) = .ok (.laload, 1)) (hn : qbpc cd (pc + 1) = qbpc cd pc + 1) (hk : ∀ pc L S μ, k pc L S μ = some r → qGo al p l e R s m args below meth c Q base D ca cv cd nL rc rs mc ms pc L S μ) (h : qop al cf (.laload) pc L S μ k = some r) : qGo al p l e R s m args below meth c Q base D ca cv cd nL rc rs mc ms pc L S μ := by
  obtain ⟨hx, hb, hml, hown, hts, hK, hSt, hbs, hcv, hini, hd1, hfr, hlo, hmc, hms⟩ := C
  simp only [qop] at h
  split at h
  · rename_i i a S1
    obtain ⟨x, e1, e2⟩ := qbnd_some h
    obtain ⟨⟨g1, g2⟩, rfl⟩ := ite_some e1
    obtain ⟨k1, rfl, hk1⟩ := qk_at g1 (by decide)
    refine (hk _ _ _ _ e2).same fun H locs cells slots ls hP hS hl hc hs kk => ?_
    have he := qW_get (base := base) (ca := ca) (cv := cv) hk1
    rw [qE_long hk1] at he
    exact va_lald (D := D) hx hb hK hP k1 1 he rfl g2 hd (by rw [← hn]; exact kk ls hl)
  · cases h
theorem qs_aaload (C : qCtx p R s m args meth c base D ca cv o ini cc nL mc ms d)  (hd : decode cc (qbpc cd pc) = .ok (.aaload, 1)) (hn : qbpc cd (pc + 1) = qbpc cd pc + 1) (hk : ∀ pc L S μ, k pc L S μ = some r → qGo al p l e R s m args below meth c Q base D ca cv cd nL rc rs mc ms pc L S μ) (h : qop al cf (.aaload) pc L S μ k = some r) : qGo al p l e R s m args below meth c Q base D ca cv cd nL rc rs mc ms pc L S μ := by
  obtain ⟨hx, hb, hml, hown, hts, hK, hSt, hbs, hcv, hini, hd1, hfr, hlo, hmc, hms⟩ := C
  simp only [qop] at h
  split at h
  · rename_i i a S1
    obtain ⟨x, e1, e2⟩ := qbnd_some h
    obtain ⟨⟨g1, g2⟩, rfl⟩ := ite_some e1
    obtain ⟨k1, rfl, hk1⟩ := qk_at g1 (by decide)
    refine (hk _ _ _ _ e2).same fun H locs cells slots ls hP hS hl hc hs kk => ?_
    have he := qW_get (base := base) (ca := ca) (cv := cv) hk1
    rw [qE_ref hk1] at he
    have kk2 := kk ls hl
    rw [List.map_cons, hn, ← qopt_tr] at kk2
    exact va_aldq (D := D) hx hb hK hP k1 4 he rfl g2 hd kk2
  · cases h
theorem qs_iastore (C : qCtx p R s m args meth c base D ca cv o ini cc nL mc ms d)  (hd : decode cc (qbpc cd pc) = .ok (.iastore, 1)) (hn : qbpc cd (pc + 1) = qbpc cd pc + 1) (hk : ∀ pc L S μ, k pc L S μ = some r → qGo al p l e R s m args below meth c Q base D ca cv cd nL rc rs mc ms pc L S μ) (h : qop al cf (.iastore) pc L S μ k = some r) : qGo al p l e R s m args below meth c Q base D ca cv cd nL rc rs mc ms pc L S μ := by
  obtain ⟨hx, hb, hml, hown, hts, hK, hSt, hbs, hcv, hini, hd1, hfr, hlo, hmc, hms⟩ := C
  simp only [qop, qsto] at h
  split at h
  · rename_i x i a S1
    obtain ⟨μ1, e1, e2⟩ := qbnd_some h
    obtain ⟨⟨g1, g2⟩, rfl⟩ := ite_some e1
    obtain ⟨k1, rfl, hk1⟩ := qk_at g1 (by decide)
    refine (hk _ _ _ _ e2).mem rfl rfl fun H locs cells slots ls hP hS hl hc hs kk => ?_
    have he := qW_get (base := base) (ca := ca) (cv := cv) hk1
    rw [qE_int hk1 (by decide) (by decide) (by decide)] at he
    refine qr_ist (D := D) hx hb hK hP (qD base ca cv μ) hS k1 0 he rfl g2 hd (fun H1 locs1 hP1 hS1 hz => ?_)
    rw [qW_set (base := base) (ca := ca) (cv := cv) (μ := μ) (k := k1) (μ' := qsI μ (k1 + 1) i.toNatClampNeg (x)) rfl ?_ (fun i' hi' => qE_I (by omega))] at hP1
    · rw [← hn]
      exact kk H1 locs1 ls hP1 hS1 (fun _ => hz) hl
    · rw [qE_int (μ := qsI μ (k1 + 1) i.toNatClampNeg (x)) (c := 20) hk1 (by decide) (by decide) (by decide)]
      congr 4
      funext q
      by_cases hq : q = i.toNatClampNeg
      · simp [qI, qsI, upd, hq]
      · simp [qI, qsI, upd, hq]
  · cases h
theorem qs_castore (C : qCtx p R s m args meth c base D ca cv o ini cc nL mc ms d)  (hd : decode cc (qbpc cd pc) = .ok (.castore, 1)) (hn : qbpc cd (pc + 1) = qbpc cd pc + 1) (hk : ∀ pc L S μ, k pc L S μ = some r → qGo al p l e R s m args below meth c Q base D ca cv cd nL rc rs mc ms pc L S μ) (h : qop al cf (.castore) pc L S μ k = some r) : qGo al p l e R s m args below meth c Q base D ca cv cd nL rc rs mc ms pc L S μ := by
  obtain ⟨hx, hb, hml, hown, hts, hK, hSt, hbs, hcv, hini, hd1, hfr, hlo, hmc, hms⟩ := C
  simp only [qop, qsto] at h
  by_cases hal : al = true
  · rw [if_pos hal] at h; cases h
  rw [if_neg hal] at h
  split at h
  · rename_i x i a S1
    obtain ⟨μ1, e1, e2⟩ := qbnd_some h
    obtain ⟨⟨g1, g2⟩, rfl⟩ := ite_some e1
    obtain ⟨k1, rfl, hk1⟩ := qk_at g1 (by decide)
    refine (hk _ _ _ _ e2).mem rfl rfl fun H locs cells slots ls hP hS hl hc hs kk => ?_
    have he := qW_get (base := base) (ca := ca) (cv := cv) hk1
    rw [qE_int hk1 (by decide) (by decide) (by decide)] at he
    refine va_cast (D := D) hx hb hK hP (qD base ca cv μ) hS k1 2 he rfl g2 hd (fun H1 locs1 hP1 hD1 hS1 => ?_)
    rw [qW_set (base := base) (ca := ca) (cv := cv) (μ := μ) (k := k1) (μ' := qsI μ (k1 + 1) i.toNatClampNeg (qnc x)) rfl ?_ (fun i' hi' => qE_I (by omega))] at hP1
    · rw [← hn]
      exact kk H1 locs1 ls hP1 hS1 (fun ha => absurd ha hal) hl
    · rw [qE_int (μ := qsI μ (k1 + 1) i.toNatClampNeg (qnc x)) (c := 22) hk1 (by decide) (by decide) (by decide)]
      congr 4
      funext q
      by_cases hq : q = i.toNatClampNeg
      · simp [qI, qsI, upd, hq, qnc]
      · simp [qI, qsI, upd, hq]
  · cases h
theorem qs_bastore (C : qCtx p R s m args meth c base D ca cv o ini cc nL mc ms d)  (hd : decode cc (qbpc cd pc) = .ok (.bastore, 1)) (hn : qbpc cd (pc + 1) = qbpc cd pc + 1) (hk : ∀ pc L S μ, k pc L S μ = some r → qGo al p l e R s m args below meth c Q base D ca cv cd nL rc rs mc ms pc L S μ) (h : qop al cf (.bastore) pc L S μ k = some r) : qGo al p l e R s m args below meth c Q base D ca cv cd nL rc rs mc ms pc L S μ := by
  obtain ⟨hx, hb, hml, hown, hts, hK, hSt, hbs, hcv, hini, hd1, hfr, hlo, hmc, hms⟩ := C
  simp only [qop, qsto] at h
  by_cases hal : al = true
  · rw [if_pos hal] at h; cases h
  rw [if_neg hal] at h
  split at h
  · rename_i x i a S1
    obtain ⟨μ1, e1, e2⟩ := qbnd_some h
    obtain ⟨⟨g1, g2⟩, rfl⟩ := ite_some e1
    obtain ⟨k1, rfl, hk1⟩ := qk_at g1 (by decide)
    refine (hk _ _ _ _ e2).mem rfl rfl fun H locs cells slots ls hP hS hl hc hs kk => ?_
    have he := qW_get (base := base) (ca := ca) (cv := cv) hk1
    rw [qE_int hk1 (by decide) (by decide) (by decide)] at he
    refine va_zast (D := D) hx hb hK hP (qD base ca cv μ) hS k1 3 he rfl g2 hd (fun H1 locs1 hP1 hD1 hS1 => ?_)
    rw [qW_set (base := base) (ca := ca) (cv := cv) (μ := μ) (k := k1) (μ' := qsI μ (k1 + 1) i.toNatClampNeg (qnz x)) rfl ?_ (fun i' hi' => qE_I (by omega))] at hP1
    · rw [← hn]
      exact kk H1 locs1 ls hP1 hS1 (fun ha => absurd ha hal) hl
    · rw [qE_int (μ := qsI μ (k1 + 1) i.toNatClampNeg (qnz x)) (c := 23) hk1 (by decide) (by decide) (by decide)]
      congr 4
      funext q
      by_cases hq : q = i.toNatClampNeg
      · simp [qI, qsI, upd, hq, qnz]
      · simp [qI, qsI, upd, hq]
  · cases h
theorem qs_lastore (C : qCtx p R s m args meth c base D ca cv o ini cc nL mc ms d)  (hd : decode cc (qbpc cd pc) = .ok (.lastore, 1)) (hn : qbpc cd (pc + 1) = qbpc cd pc + 1) (hk : ∀ pc L S μ, k pc L S μ = some r → qGo al p l e R s m args below meth c Q base D ca cv cd nL rc rs mc ms pc L S μ) (h : qop al cf (.lastore) pc L S μ k = some r) : qGo al p l e R s m args below meth c Q base D ca cv cd nL rc rs mc ms pc L S μ := by
  obtain ⟨hx, hb, hml, hown, hts, hK, hSt, hbs, hcv, hini, hd1, hfr, hlo, hmc, hms⟩ := C
  simp only [qop] at h
  split at h
  · rename_i x i a S1
    by_cases hal : al = true
    · rw [if_pos hal] at h; cases h
    rw [if_neg hal] at h
    obtain ⟨μ1, e1, e2⟩ := qbnd_some h
    obtain ⟨⟨g1, g2⟩, rfl⟩ := ite_some e1
    obtain ⟨k1, rfl, hk1⟩ := qk_at g1 (by decide)
    refine (hk _ _ _ _ e2).mem rfl rfl fun H locs cells slots ls hP hS hl hc hs kk => ?_
    have he := qW_get (base := base) (ca := ca) (cv := cv) hk1
    rw [qE_long hk1] at he
    refine va_last (D := D) hx hb hK hP (qD base ca cv μ) hS k1 1 he rfl g2 hd (fun H1 locs1 hP1 hD1 hS1 => ?_)
    rw [qW_set (base := base) (ca := ca) (cv := cv) (μ := μ) (k := k1) (μ' := qsL μ (k1 + 1) i.toNatClampNeg x) rfl ?_ (fun i' hi' => qE_L (by omega))] at hP1
    · rw [← hn]
      exact kk H1 locs1 ls hP1 hS1 (fun ha => absurd ha hal) hl
    · rw [qE_long (μ := qsL μ (k1 + 1) i.toNatClampNeg x) hk1]
      congr 5
      funext q
      by_cases hq : q = i.toNatClampNeg
      · simp [qL, qsL, vp_updL, hq]
      · simp [qL, qsL, vp_updL, hq]
  · cases h
theorem qs_aastore (C : qCtx p R s m args meth c base D ca cv o ini cc nL mc ms d)  (hd : decode cc (qbpc cd pc) = .ok (.aastore, 1)) (hn : qbpc cd (pc + 1) = qbpc cd pc + 1) (hk : ∀ pc L S μ, k pc L S μ = some r → qGo al p l e R s m args below meth c Q base D ca cv cd nL rc rs mc ms pc L S μ) (h : qop al cf (.aastore) pc L S μ k = some r) : qGo al p l e R s m args below meth c Q base D ca cv cd nL rc rs mc ms pc L S μ := by
  obtain ⟨hx, hb, hml, hown, hts, hK, hSt, hbs, hcv, hini, hd1, hfr, hlo, hmc, hms⟩ := C
  simp only [qop] at h
  split at h
  · rename_i x i a S1
    obtain ⟨μ1, e1, e2⟩ := qbnd_some h
    obtain ⟨⟨g1, g2, g3⟩, rfl⟩ := ite_some e1
    obtain ⟨k1, rfl, hk1⟩ := qk_at g1 (by decide)
    obtain ⟨k2, rfl, hk2⟩ := qk_at g3 (by decide)
    refine (hk _ _ _ _ e2).mem rfl rfl fun H locs cells slots ls hP hS hl hc hs kk => ?_
    have he := qW_get (base := base) (ca := ca) (cv := cv) hk1
    rw [qE_ref hk1] at he
    have he2 := qW_get (base := base) (ca := ca) (cv := cv) hk2
    rw [qE_obj hk2 (by decide)] at he2
    refine qr_ast (D := D) hx hb hK hP (qD base ca cv μ) hS k1 4 k2 5 he (r := qcl 5) rfl he2 (qin_cl 5 (by decide)).1 g2 hd (fun H1 locs1 hP1 hS1 hz => ?_)
    rw [qW_set (base := base) (ca := ca) (cv := cv) (μ := μ) (k := k1) (μ' := qsP μ (k1 + 1) i.toNatClampNeg (k2 + 1)) rfl ?_ (fun i' hi' => qE_P (by omega))] at hP1
    · rw [← hn]
      exact kk H1 locs1 ls hP1 hS1 (fun _ => hz) hl
    · rw [qE_ref (μ := qsP μ (k1 + 1) i.toNatClampNeg (k2 + 1)) hk1]
      congr 8
      funext q
      by_cases hq : q = i.toNatClampNeg
      · simp [qP, qsP, va_up, hq, qopt]
      · simp [qP, qsP, va_up, hq]
  · cases h
theorem qs_arraylength (C : qCtx p R s m args meth c base D ca cv o ini cc nL mc ms d)  (hd : decode cc (qbpc cd pc) = .ok (.arraylength, 1)) (hn : qbpc cd (pc + 1) = qbpc cd pc + 1) (hk : ∀ pc L S μ, k pc L S μ = some r → qGo al p l e R s m args below meth c Q base D ca cv cd nL rc rs mc ms pc L S μ) (h : qop al cf (.arraylength) pc L S μ k = some r) : qGo al p l e R s m args below meth c Q base D ca cv cd nL rc rs mc ms pc L S μ := by
  obtain ⟨hx, hb, hml, hown, hts, hK, hSt, hbs, hcv, hini, hd1, hfr, hlo, hmc, hms⟩ := C
  simp only [qop] at h
  split at h
  · rename_i a S1
    obtain ⟨x, e1, e2⟩ := qbnd_some h
    obtain ⟨⟨g1, g2⟩, rfl⟩ := ite_some e1
    obtain ⟨k1, rfl, hk1⟩ := qk_some (μ := μ) (a := a) (c := (qk μ a).1) (n := (qk μ a).2) rfl (by omega)
    refine (hk _ _ _ _ e2).same fun H locs cells slots ls hP hS hl hc hs kk => ?_
    have he := qW_get (base := base) (ca := ca) (cv := cv) hk1
    have kk2 := kk ls hl
    rw [List.map_cons, hn] at kk2
    generalize hcc : (qk μ (k1 + 1)).1 = c1 at *
    have : c1 = 20 ∨ c1 = 21 ∨ c1 = 22 ∨ c1 = 23 ∨ c1 = 24 := by omega
    rcases this with rfl | rfl | rfl | rfl | rfl
    · rw [qE_int hk1 (by decide) (by decide) (by decide)] at he
      exact va_alen (D := D) hx hb hK hP k1 0 he rfl rfl hd kk2
    · rw [qE_long hk1] at he
      exact va_alen (D := D) hx hb hK hP k1 1 he rfl rfl hd kk2
    · rw [qE_int hk1 (by decide) (by decide) (by decide)] at he
      exact va_alen (D := D) hx hb hK hP k1 2 he rfl rfl hd kk2
    · rw [qE_int hk1 (by decide) (by decide) (by decide)] at he
      exact va_alen (D := D) hx hb hK hP k1 3 he rfl rfl hd kk2
    · rw [qE_ref hk1] at he
      exact va_alen (D := D) hx hb hK hP k1 4 he rfl rfl hd kk2
  · rename_i j S1
    split at h
    · rename_i hj
      refine (hk _ _ _ _ h).same fun H locs cells slots ls hP hS hl hc hs kk => ?_
      have kk2 := kk ls hl
      rw [List.map_cons, hn] at kk2
      have hj2 : j < 5 ∨ (30 ≤ j ∧ j < 43) := by
        simp only [qtk] at hj
        split at hj
        · rename_i z; exact Or.inl z
        · split at hj
          · rcases hj with z | z <;> cases z
          · split at hj
            · rename_i z; exact Or.inr z
            · rcases hj with z | z <;> cases z
      rw [List.map_cons]
      rcases hj2 with hj2 | hj2
      · obtain ⟨t, e3, e4⟩ := (hSt.1 j hj2).2
        rw [show qtr base cv (.retAddr j) = .ref t from e3]
        exact va_tlen hx hb e4 hS rfl hd kk2
      · obtain ⟨q, v, e3, e4, e5, e6, e7, e8, e9⟩ := hSt.2.1 (j - 30) (by omega)
        rw [show 30 + (j - 30) = j by omega] at e4 e9
        rw [show qtr base cv (.retAddr j) = .ref v from e4]
        exact va_tlen hx hb e9 hS rfl hd kk2
    · cases h
  · cases h
theorem qs_objinit (C : qCtx p R s m args meth c base D ca cv o ini cc nL mc ms d) {j : Nat} (hq : qcpl o j = (17, 0)) (hd : decode cc (qbpc cd pc) = .ok (.invokespecial j, 3)) (hn : qbpc cd (pc + 1) = qbpc cd pc + 3) (hk : ∀ pc L S μ, k pc L S μ = some r → qGo al p l e R s m args below meth c Q base D ca cv cd nL rc rs mc ms pc L S μ) (h : qop al cf (.pop2) pc L S μ k = some r) : qGo al p l e R s m args below meth c Q base D ca cv cd nL rc rs mc ms pc L S μ := by
  obtain ⟨hx, hb, hml, hown, hts, hK, hSt, hbs, hcv, hini, hd1, hfr, hlo, hmc, hms⟩ := C
  obtain ⟨hw, -, -⟩ := qcp_ok hq (by decide)
  have w1 := hts _ (hw (.methodLink (qown o) j Lib.objectInit) (by simp [qcw]))
  have w2 := hts _ (hw (.instanceMethod Lib.objectInit) (by simp [qcw]))
  have w3 := hts _ (hw (.code Lib.objectInit ⟨#[0xb1]⟩ 1 none) (by simp [qcw]))
  simp only [qop] at h
  split at h
  · rename_i a S1
    split at h
    · rename_i ha
      obtain ⟨ha1, ha2⟩ := ha
      obtain ⟨k1, hk1⟩ := Nat.exists_eq_succ_of_ne_zero (Nat.ne_of_gt ha1)
      subst hk1
      refine (hk _ _ _ _ h).same fun H locs cells slots ls hP hS hl hc hs kk => ?_
      have hcs := qcats_tr (base := base) hcv S1
      refine W.objInit hx hb hown w1 w2 w3 (g := F0 m (qbpc cd pc) ls (.ref (base + k1) :: S1.map (qtr base cv))) rfl (by rw [hml]; exact hl.1) rfl hd (by omega) (by show 2 * 0 + _ + 12 ≤ _; omega) ?_
      have kk2 := kk ls hl
      rw [hn] at kk2
      exact kk2
    · cases h
  · cases h
theorem qs_min (C : qCtx p R s m args meth c base D ca cv o ini cc nL mc ms d) {j : Nat} (hq : qcpl o j = (21, 0)) (hd : decode cc (qbpc cd pc) = .ok (.invokestatic j, 3)) (hn : qbpc cd (pc + 1) = qbpc cd pc + 3) (hk : ∀ pc L S μ, k pc L S μ = some r → qGo al p l e R s m args below meth c Q base D ca cv cd nL rc rs mc ms pc L S μ) (h : qop al cf (.fmul) pc L S μ k = some r) : qGo al p l e R s m args below meth c Q base D ca cv cd nL rc rs mc ms pc L S μ := by
  obtain ⟨hx, hb, hml, hown, hts, hK, hSt, hbs, hcv, hini, hd1, hfr, hlo, hmc, hms⟩ := C
  obtain ⟨hw, -, -⟩ := qcp_ok hq (by decide)
  have w1 := hts _ (hw (.methodLink (qown o) j Lib.Math.min.name) (by simp [qcw]))
  have w2 := hts _ (hw (.static Lib.Math.min.name) (by simp [qcw]))
  have w3 := hts _ (hw (.initialized "java/lang/Math") (by simp [qcw]))
  have w4 := hts _ (hw (.code Lib.Math.min.name Lib.Math.min.code 2 (some .int)) (by simp [qcw]))
  simp only [qop, q2] at h
  split at h
  · rename_i y x S1
    split at h
    · rename_i ha
      refine (hk _ _ _ _ h).same fun H locs cells slots ls hP hS hl hc hs kk => ?_
      have hcs := qcats_tr (base := base) hcv S1
      exact va_mmin hx hb (by rw [hml]; exact hl.1.symm) hown w1 w2 w3 w4 (by omega) (by omega) (by omega) (by omega) hd (by rw [← hn]; exact kk ls hl)
    · cases h
  · cases h
theorem qs_max (C : qCtx p R s m args meth c base D ca cv o ini cc nL mc ms d) {j : Nat} (hq : qcpl o j = (22, 0)) (hd : decode cc (qbpc cd pc) = .ok (.invokestatic j, 3)) (hn : qbpc cd (pc + 1) = qbpc cd pc + 3) (hk : ∀ pc L S μ, k pc L S μ = some r → qGo al p l e R s m args below meth c Q base D ca cv cd nL rc rs mc ms pc L S μ) (h : qop al cf (.fadd) pc L S μ k = some r) : qGo al p l e R s m args below meth c Q base D ca cv cd nL rc rs mc ms pc L S μ := by
  obtain ⟨hx, hb, hml, hown, hts, hK, hSt, hbs, hcv, hini, hd1, hfr, hlo, hmc, hms⟩ := C
  obtain ⟨hw, -, -⟩ := qcp_ok hq (by decide)
  have w1 := hts _ (hw (.methodLink (qown o) j Lib.Math.max.name) (by simp [qcw]))
  have w2 := hts _ (hw (.static Lib.Math.max.name) (by simp [qcw]))
  have w3 := hts _ (hw (.initialized "java/lang/Math") (by simp [qcw]))
  have w4 := hts _ (hw (.code Lib.Math.max.name Lib.Math.max.code 2 (some .int)) (by simp [qcw]))
  simp only [qop, q2] at h
  split at h
  · rename_i y x S1
    split at h
    · rename_i ha
      refine (hk _ _ _ _ h).same fun H locs cells slots ls hP hS hl hc hs kk => ?_
      have hcs := qcats_tr (base := base) hcv S1
      exact va_mmax hx hb (by rw [hml]; exact hl.1.symm) hown w1 w2 w3 w4 (by omega) (by omega) (by omega) (by omega) hd (by rw [← hn]; exact kk ls hl)
    · cases h
  · cases h
theorem qs_copy (C : qCtx p R s m args meth c base D ca cv o ini cc nL mc ms d) {j z1 z2 : Nat} (hq : qcpl o j = (18, 0)) (hd : decode cc (qbpc cd pc) = .ok (.invokestatic j, 3)) (hn : qbpc cd (pc + 1) = qbpc cd pc + 3) (hk : ∀ pc L S μ, k pc L S μ = some r → qGo al p l e R s m args below meth c Q base D ca cv cd nL rc rs mc ms pc L S μ) (h : qop al cf (.multianewarray z1 z2) pc L S μ k = some r) : qGo al p l e R s m args below meth c Q base D ca cv cd nL rc rs mc ms pc L S μ := by
  obtain ⟨hx, hb, hml, hown, hts, hK, hSt, hbs, hcv, hini, hd1, hfr, hlo, hmc, hms⟩ := C
  obtain ⟨hw, -, -⟩ := qcp_ok hq (by decide)
  have w1 := hts _ (hw (.methodLink (qown o) j arraycopyName) (by simp [qcw]))
  have w2 := hts _ (hw (.native arraycopyName) (by simp [qcw]))
  have w3 := hts _ (hw (.static arraycopyName) (by simp [qcw]))
  have w4 := hts _ (hw (.initialized "java/lang/System") (by simp [qcw]))
  simp only [qop] at h
  split at h
  · rename_i n dp a1 sp a0 S1
    split at h
    · rename_i ha
      obtain ⟨μ1, e1, e2⟩ := qbnd_some h
      obtain ⟨⟨⟨g1, g2⟩, ⟨g3, g4, g5⟩, g6, g7⟩, rfl⟩ := ite_some e1
      obtain ⟨k0, rfl, hk0⟩ := qk_at g1 (by decide)
      obtain ⟨k1, rfl, hk1⟩ := qk_at g2 (by decide)
      refine (hk _ _ _ _ e2).mem rfl rfl fun H locs cells slots ls hP hS hl hc hs kk => ?_
      have hcs := qcats_tr (base := base) hcv S1
      have he0 := qW_get (base := base) (ca := ca) (cv := cv) hk0
      rw [qE_int hk0 (by decide) (by decide) (by decide)] at he0
      have he1 := qW_get (base := base) (ca := ca) (cv := cv) hk1
      rw [qE_int hk1 (by decide) (by decide) (by decide)] at he1
      refine va_copyi (D := D) hx hb (by rw [hml]; exact hl.1.symm) hown w1 w2 w3 w4 hK hP (qD base ca cv μ) hS k0 k1 0 0 (ty := .int) he0 he1 rfl rfl rfl g3 g4 g5 g6 g7 (fun i hi => rfl) (by omega) (by rw [show nativeFrameWords "java/lang/System" "arraycopy" 5 = 7 by decide +kernel]; omega) hd (fun H1 locs1 hP1 hD1 hS1 => ?_)
      rw [qW_set (base := base) (ca := ca) (cv := cv) (μ := μ) (k := k1) (μ' := qcpy μ (k0 + 1) sp.toNatClampNeg (k1 + 1) dp.toNatClampNeg n.toNatClampNeg) rfl ?_ (fun i' hi' => qE_C (by omega))] at hP1
      · rw [← hn]
        exact kk H1 locs1 ls hP1 hS1 (fun hal => by rw [ha.1] at hal; cases hal) hl
      · rw [qE_int (μ := qcpy μ (k0 + 1) sp.toNatClampNeg (k1 + 1) dp.toNatClampNeg n.toNatClampNeg) (c := 20) hk1 (by decide) (by decide) (by decide)]
        congr 4
        funext q
        simp [qI, qcpy, va_cpy]
    · cases h
  · cases h
end QTHR

/-! SOUNDNESS, FIFTH PART: new objects, ends, all instructions, blocks, methods -/
section QFIVE
variable {p : Program} {l : Launch} {e : Env} {R : Room} {s : State} {m : MethodId} {args : Array Value} {below : List Frame} {meth : Method} {c : Code} {Q : State → Prop}
variable {al : Bool} {base : Nat} {D : va_G} {ca : Nat → ClassId} {cv : Nat → Value} {o : Nat} {cc : ByteArray} {cd : qC} {nL rc rs mc ms : Nat}
variable {d : Nat} {ini : Bool} {k : qK} {cf : qF} {r : qR} {pc : Nat} {L S : List Value} {μ : qM}
theorem qnth_app {α : Type} {l : List α} {a : α} {i : Nat} (h : i < l.length) : qnth (l ++ [a]) i = qnth l i := by
  rw [qnth_eq, qnth_eq, List.getElem?_append_left h]
theorem qnth_last {α : Type} {l : List α} {a : α} : qnth (l ++ [a]) l.length = some a := by
  rw [qnth_eq]; simp
/-- the world grows -/
theorem qW_new {e1 : va_E} {kc kn : Nat} (he : qE base ca cv (qnew μ kc kn) μ.1.length = e1) (hold : ∀ i, i < μ.1.length → qE base ca cv (qnew μ kc kn) i = qE base ca cv μ i) : qW base ca cv (qnew μ kc kn) = qW base ca cv μ ++ [(base + μ.1.length, e1)] := by
  apply List.ext_getElem?
  intro i
  by_cases hi : i < μ.1.length
  · rw [List.getElem?_append_left (by simp [qW, hi])]
    simp only [qW, List.getElem?_map]
    rw [List.getElem?_range (by show i < (μ.1 ++ [(kc, kn)]).length; simp; omega), List.getElem?_range hi]
    simp only [Option.map_some]
    rw [hold i hi]
  · rw [List.getElem?_append_right (by simp [qW]; omega)]
    by_cases h2 : i = μ.1.length
    · subst h2
      simp only [qW, List.getElem?_map]
      rw [List.getElem?_range (by show μ.1.length < (μ.1 ++ [(kc, kn)]).length; simp)]
      simp [he]
    · have h3 : (μ.1 ++ [(kc, kn)]).length ≤ i := by simp; omega
      have h4 : ¬ i < (qnew μ kc kn).1.length := Nat.not_lt.mpr h3
      have h5 : ¬ i - (qW base ca cv μ).length < 1 := by simp [qW]; omega
      rw [List.getElem?_eq_none (by simp [qW]; exact h3), List.getElem?_eq_none (by simp; omega)]
theorem qE_new_old {kc kn i : Nat} (hi : i < μ.1.length) : qE base ca cv (qnew μ kc kn) i = qE base ca cv μ i := by
  have h1 : qnth (qnew μ kc kn).1 i = qnth μ.1 i := qnth_app hi
  have hne : ¬ i + 1 = μ.1.length + 1 := by omega
  have hI : qI (qnew μ kc kn) (i + 1) = qI μ (i + 1) := funext fun j => by simp [qI, qnew]; omega
  have hL : qL (qnew μ kc kn) (i + 1) = qL μ (i + 1) := funext fun j => by simp [qL, qnew]; omega
  have hPp : qP (qnew μ kc kn) (i + 1) = qP μ (i + 1) := funext fun j => by simp [qP, qnew]; omega
  have hs : qslot base cv (qnew μ kc kn) i = qslot base cv μ i := by
    funext c j
    simp only [qslot, hI, hPp]
  unfold qE
  rw [h1, hI, hL, hPp, hs]
theorem qI_new {kc kn : Nat} : qI (qnew μ kc kn) (μ.1.length + 1) = fun _ => 0 := funext fun j => by simp [qI, qnew]
theorem qL_new {kc kn : Nat} : qL (qnew μ kc kn) (μ.1.length + 1) = fun _ => 0 := funext fun j => by simp [qL, qnew]
theorem qP_new {kc kn : Nat} : qP (qnew μ kc kn) (μ.1.length + 1) = fun _ => 0 := funext fun j => by simp [qP, qnew]
theorem qdefault : ∀ c, c < 9 → ∀ j, j < qfn c → defaultValue (qtyF c j) = (if qfty c j = 2 then .null else .int 0) := by
  intro c hc j hj
  rcases qtys_ok c hc j hj with ⟨h1, h2⟩ | ⟨h1, h2⟩ | ⟨h1, ⟨n, h2⟩ | ⟨n, h2⟩⟩ <;> rw [h1, h2] <;> rfl
theorem qs_new (C : qCtx p R s m args meth c base D ca cv o ini cc nL mc ms d) {j n : Nat} (hq : qcpl o j = (9, (n : Int))) (hd : decode cc (qbpc cd pc) = .ok (.new j, 3)) (hn : qbpc cd (pc + 1) = qbpc cd pc + 3) (hk : ∀ pc L S μ, k pc L S μ = some r → qGo al p l e R s m args below meth c Q base D ca cv cd nL rc rs mc ms pc L S μ) (h : qop al cf (.new n) pc L S μ k = some r) : qGo al p l e R s m args below meth c Q base D ca cv cd nL rc rs mc ms pc L S μ := by
  obtain ⟨hx, hb, hml, hown, hts, hK, hSt, hbs, hcv, hini, hd1, hfr, hlo, hmc, hms⟩ := C
  obtain ⟨hw, -, hcb⟩ := qcp_ok hq (by decide)
  simp only [qcb, Int.toNat_natCast, Bool.and_eq_true, decide_eq_true_eq] at hcb
  obtain ⟨-, hc9, hnn⟩ := hcb
  have w1 := hts _ (hw (.classLink (qown o) j (qcl (n / 100)).1) (by simp [qcw]))
  have w2 := hts _ (hw (.instantiable (qcl (n / 100)).1 (n % 100)) (by simp [qcw]))
  have w3 := hts _ (hw (.initialized (qcl (n / 100)).1) (by simp [qcw]))
  obtain ⟨hcl, hin, htyF, hnm, hfn⟩ := qin_cl _ hc9
  rw [hnn, hfn] at w2
  simp only [qop] at h
  obtain ⟨r0, e1, e2⟩ := qbnd_some h
  obtain ⟨hal, rfl⟩ := ite_some e1
  simp only at e2
  have hgo := hk _ _ _ _ e2
  obtain ⟨⟨b1, b2⟩, hgo⟩ := hgo
  have c1 : (qnew μ (n / 100) (n % 100)).2.2.2.2.1 = μ.2.2.2.2.1 + 1 := rfl
  have c2 : (qnew μ (n / 100) (n % 100)).2.2.2.2.2 = μ.2.2.2.2.2 + n % 100 := rfl
  rw [c1] at b1 hgo
  rw [c2] at b2 hgo
  refine ⟨⟨by omega, by omega⟩, fun H locs cells slots ls hP hS hz hl q1 q2 => ?_⟩
  have hKn := hK.1 (n / 100) _ hcl
  have hzz := hz hal
  refine W.newcK hx hb hown w1 w2 w3 rfl hd (by omega) (by rw [← hfn, ← hnn]; omega) hKn.2.1 rfl fun H1 kC hkC ee1 z1 o1 => ?_
  have hkp : ∀ (k1 : Nat) (x : Nat × va_E), (qW base ca cv μ)[k1]? = some x → H1[x.1]? = H[x.1]? := fun k1 x hx => o1 x.1 ((hP k1 x hx).lt)
  have hE : qE base ca cv (qnew μ (n / 100) (n % 100)) μ.1.length = .inr (n / 100, (List.range (qfn (n / 100))).map fun j => if qfty (n / 100) j = 2 then .null else .int 0) := by
    rw [qE_obj (c := n / 100) (n := n % 100) qnth_last (by omega)]
    congr 2
    apply List.map_congr_left
    intro j hj
    simp only [qslot, qI_new, qP_new]
    rfl
  have hPn : va_P D vwCl (qW base ca cv (qnew μ (n / 100) (n % 100))) H1 := by
    rw [qW_new hE (fun i hi => qE_new_old hi)]
    refine (hP.kept hkp).app (fun k1 x hx => ?_)
    have hz : k1 < 1 := (List.getElem?_eq_some_iff.mp hx).1
    rw [show k1 = 0 by omega] at hx
    cases hx
    refine ⟨_, hcl, (u_born (qtyF (n / 100)) hts hin hKn hkC (by rw [hzz] at ee1; exact ee1) htyF).to (fun j hj => ?_)⟩
    rw [← hfn] at hj
    rw [qdefault _ hc9 j hj]
    simp [vp_V, hj]
  have hS1 : va_S (qA base) s.heap H1 locs := ⟨Nat.le_trans hS.1 (by omega), fun x h1 h2 => (o1 x (Nat.lt_of_lt_of_le h1 hS.1)).trans (hS.2.1 x h1 h2), hS.2.2⟩
  have fin := hgo H1 locs (cells + 1) (slots + n % 100) ls hPn hS1 (fun _ => by rw [z1, hzz]; show _ = base + (μ.1 ++ [(n / 100, n % 100)]).length; simp; omega) hl (by omega) (by omega)
  rw [hn, hnn, hfn, List.map_cons, show qtr base cv (.ref (μ.1.length + 1)) = .ref (base + μ.1.length) from rfl, ← hzz] at fin
  exact fin
theorem qarr_data {t n : Nat} (h : t = 20 ∨ t = 21 ∨ t = 22 ∨ t = 23) : ∃ (a0 : vp_A) (ty : FieldType) (t0 : Nat), qE base ca cv (qnew μ t n) μ.1.length = .inl (ca t, a0) ∧ (∀ cA : ClassId, vp_cell cA a0 = arrV cA n (fun _ => defaultValue ty)) ∧ (qtys ca)[t0]? = some (ca t, ty) ∧ ((t = 20 ∧ ty = .int) ∨ (t = 21 ∧ ty = .long) ∨ (t = 22 ∧ ty = .char) ∨ (t = 23 ∧ ty = .boolean)) := by
  rcases h with rfl | rfl | rfl | rfl
  · exact ⟨_, .int, 0, by rw [qE_int (c := 20) qnth_last (by decide) (by decide) (by decide), qI_new], fun cA => by rw [vp_cell_i]; rfl, rfl, Or.inl ⟨rfl, rfl⟩⟩
  · exact ⟨_, .long, 1, by rw [qE_long qnth_last, qL_new], fun cA => by rw [vp_cell_l]; rfl, rfl, Or.inr (Or.inl ⟨rfl, rfl⟩)⟩
  · exact ⟨_, .char, 2, by rw [qE_int (c := 22) qnth_last (by decide) (by decide) (by decide), qI_new], fun cA => by rw [vp_cell_i]; rfl, rfl, Or.inr (Or.inr (Or.inl ⟨rfl, rfl⟩))⟩
  · exact ⟨_, .boolean, 3, by rw [qE_int (c := 23) qnth_last (by decide) (by decide) (by decide), qI_new], fun cA => by rw [vp_cell_i]; rfl, rfl, Or.inr (Or.inr (Or.inr ⟨rfl, rfl⟩))⟩
theorem qarr_words : Cond.arrayClass .int ∈ qG ∧ Cond.arrayClass .long ∈ qG ∧ Cond.arrayClass .char ∈ qG ∧ Cond.arrayClass .boolean ∈ qG := ⟨qt1 105 rfl rfl, qt1 200 rfl rfl, qt1 184 rfl rfl, qt1 183 rfl rfl⟩
theorem qs_newarray (C : qCtx p R s m args meth c base D ca cv o ini cc nL mc ms d) {at0 : ArrayType} {t : Nat} (hat : (at0 = .int ∧ t = 20) ∨ (at0 = .long ∧ t = 21) ∨ (at0 = .char ∧ t = 22) ∨ (at0 = .boolean ∧ t = 23)) (hd : decode cc (qbpc cd pc) = .ok (.newarray at0, 2)) (hn : qbpc cd (pc + 1) = qbpc cd pc + 2) (hk : ∀ pc L S μ, k pc L S μ = some r → qGo al p l e R s m args below meth c Q base D ca cv cd nL rc rs mc ms pc L S μ) (h : qop al cf (.anewarray t) pc L S μ k = some r) : qGo al p l e R s m args below meth c Q base D ca cv cd nL rc rs mc ms pc L S μ := by
  obtain ⟨hx, hb, hml, hown, hts, hK, hSt, hbs, hcv, hini, hd1, hfr, hlo, hmc, hms⟩ := C
  simp only [qop, q1] at h
  split at h
  · rename_i n S1
    obtain ⟨r0, e1, e2⟩ := qbnd_some h
    have e3 : (¬ n < 0 ∧ n.toNatClampNeg < 100000 ∧ al = true) ∧ (μ.1.length + 1, qnew μ t n.toNatClampNeg) = r0 := by
      unfold oArr at e1
      split at e1
      · cases e1
      · rename_i hh
        refine ⟨⟨fun z => hh (Or.inl (Or.inl z)), Nat.lt_of_not_le fun z => hh (Or.inl (Or.inr z)), ?_⟩, Option.some.inj e1⟩
        cases al with
        | true => rfl
        | false => exact absurd (Or.inr rfl) hh
    obtain ⟨⟨g1, g2, hal⟩, rfl⟩ := e3
    simp only at e2
    obtain ⟨⟨b1, b2⟩, hgo⟩ := hk _ _ _ _ e2
    have c1 : (qnew μ t n.toNatClampNeg).2.2.2.2.1 = μ.2.2.2.2.1 + 1 := rfl
    have c2 : (qnew μ t n.toNatClampNeg).2.2.2.2.2 = μ.2.2.2.2.2 + n.toNatClampNeg := rfl
    rw [c1] at b1 hgo
    rw [c2] at b2 hgo
    refine ⟨⟨by omega, by omega⟩, fun H locs cells slots ls hP hS hz hl q1 q2 => ?_⟩
    have hzz := hz hal
    obtain ⟨a0, ty, t0, hE, ha0, hty, htt⟩ := qarr_data (base := base) (ca := ca) (cv := cv) (μ := μ) (t := t) (n := n.toNatClampNeg) (by rcases hat with ⟨-, z⟩ | ⟨-, z⟩ | ⟨-, z⟩ | ⟨-, z⟩ <;> omega)
    have hto : newarray.typeOf at0 = ty := by
      rcases hat with ⟨rfl, z⟩ | ⟨rfl, z⟩ | ⟨rfl, z⟩ | ⟨rfl, z⟩ <;> rcases htt with ⟨y, rfl⟩ | ⟨y, rfl⟩ | ⟨y, rfl⟩ | ⟨y, rfl⟩ <;> first | rfl | omega
    have hword : (Cond.arrayClass (newarray.typeOf at0)).before args s = true := by
      rcases hat with ⟨rfl, z⟩ | ⟨rfl, z⟩ | ⟨rfl, z⟩ | ⟨rfl, z⟩
      · exact hts _ qarr_words.1
      · exact hts _ qarr_words.2.1
      · exact hts _ qarr_words.2.2.1
      · exact hts _ qarr_words.2.2.2
    have hby : n.toNatClampNeg * componentBytes (newarray.typeOf at0) ≤ 536870912 := by
      rcases hat with ⟨rfl, z⟩ | ⟨rfl, z⟩ | ⟨rfl, z⟩ | ⟨rfl, z⟩
      · show _ * 4 ≤ _; omega
      · show _ * 8 ≤ _; omega
      · show _ * 2 ≤ _; omega
      · show _ * 1 ≤ _; omega
    have hS0 : S1.map (qtr base cv) = S1.map (qtr base cv) := rfl
    refine va_newaK hx hb hword (g := F0 m (qbpc cd pc) ls (.int n :: S1.map (qtr base cv))) rfl hd rfl g1 rfl hby (by omega) (by omega) rfl fun H1 cA ee1 z1 o1 hAr hNm => ?_
    have hcA : cA = ca t := by
      have h9 := (hK.2 t0 _ hty).2
      rw [hto] at hNm
      have : va_RA s (ca t) ty := h9
      rcases htt with ⟨-, rfl⟩ | ⟨-, rfl⟩ | ⟨-, rfl⟩ | ⟨-, rfl⟩ <;> exact Option.some.inj (hNm.symm.trans this)
    subst hcA
    have hkp : ∀ (k1 : Nat) (x : Nat × va_E), (qW base ca cv μ)[k1]? = some x → H1[x.1]? = H[x.1]? := fun k1 x hx => o1 x.1 ((hP k1 x hx).lt)
    have hPn : va_P D vwCl (qW base ca cv (qnew μ t n.toNatClampNeg)) H1 := by
      rw [qW_new hE (fun i hi => qE_new_old hi)]
      refine (hP.kept hkp).app (fun k1 x hx => ?_)
      have hz : k1 < 1 := (List.getElem?_eq_some_iff.mp hx).1
      rw [show k1 = 0 by omega] at hx
      cases hx
      show H1[base + μ.1.length]? = some (vp_cell _ _)
      rw [ha0, ← hto, ← hzz]
      exact ee1
    have hS1 : va_S (qA base) s.heap H1 locs := ⟨Nat.le_trans hS.1 (by omega), fun x h1 h2 => (o1 x (Nat.lt_of_lt_of_le h1 hS.1)).trans (hS.2.1 x h1 h2), hS.2.2⟩
    have fin := hgo H1 locs (cells + 1) (slots + n.toNatClampNeg) ls hPn hS1 (fun _ => by rw [z1, hzz]; show _ = base + (μ.1 ++ [(t, n.toNatClampNeg)]).length; simp; omega) hl (by omega) (by omega)
    rw [hn, List.map_cons, show qtr base cv (.ref (μ.1.length + 1)) = .ref (base + μ.1.length) from rfl, ← hzz] at fin
    exact fin
  · cases h
theorem qs_anewarray (C : qCtx p R s m args meth c base D ca cv o ini cc nL mc ms d) {j : Nat} (hq : qcpl o j = (9, 513)) (hd : decode cc (qbpc cd pc) = .ok (.anewarray j, 3)) (hn : qbpc cd (pc + 1) = qbpc cd pc + 3) (hk : ∀ pc L S μ, k pc L S μ = some r → qGo al p l e R s m args below meth c Q base D ca cv cd nL rc rs mc ms pc L S μ) (h : qop al cf (.anewarray 24) pc L S μ k = some r) : qGo al p l e R s m args below meth c Q base D ca cv cd nL rc rs mc ms pc L S μ := by
  obtain ⟨hx, hb, hml, hown, hts, hK, hSt, hbs, hcv, hini, hd1, hfr, hlo, hmc, hms⟩ := C
  obtain ⟨hw, -, -⟩ := qcp_ok hq (by decide)
  have w1 := hts _ (hw (.classLink (qown o) j "LockLadder$State") (by simp only [qcw]; exact List.mem_cons_self))
  simp only [qop, q1] at h
  split at h
  · rename_i n S1
    obtain ⟨r0, e1, e2⟩ := qbnd_some h
    have e3 : (¬ n < 0 ∧ n.toNatClampNeg < 100000 ∧ al = true) ∧ (μ.1.length + 1, qnew μ 24 n.toNatClampNeg) = r0 := by
      unfold oArr at e1
      split at e1
      · cases e1
      · rename_i hh
        refine ⟨⟨fun z => hh (Or.inl (Or.inl z)), Nat.lt_of_not_le fun z => hh (Or.inl (Or.inr z)), ?_⟩, Option.some.inj e1⟩
        cases al with
        | true => rfl
        | false => exact absurd (Or.inr rfl) hh
    obtain ⟨⟨g1, g2, hal⟩, rfl⟩ := e3
    simp only at e2
    obtain ⟨⟨b1, b2⟩, hgo⟩ := hk _ _ _ _ e2
    have c1 : (qnew μ 24 n.toNatClampNeg).2.2.2.2.1 = μ.2.2.2.2.1 + 1 := rfl
    have c2 : (qnew μ 24 n.toNatClampNeg).2.2.2.2.2 = μ.2.2.2.2.2 + n.toNatClampNeg := rfl
    rw [c1] at b1 hgo
    rw [c2] at b2 hgo
    refine ⟨⟨by omega, by omega⟩, fun H locs cells slots ls hP hS hz hl q1 q2 => ?_⟩
    have hzz := hz hal
    have hE : qE base ca cv (qnew μ 24 n.toNatClampNeg) μ.1.length = .inl (ca 24, n.toNatClampNeg, .inr (.inr (.inr (.inr fun _ => none)))) := by
      rw [qE_ref qnth_last, qP_new]
      rfl
    refine W.anew hx hb hown w1 (va_AO.use hSt.2.2.2.2.2.2.1) rfl hd rfl g1 (by omega) (by omega) (by omega) fun cA kA comp f1 f2 f3 f4 => ?_
    generalize hH1 : H.push ({ cls := cA, slots := Array.replicate n.toNatClampNeg .null, vm := .none } : Cell) = H1
    have z1 : H1.size = H.size + 1 := by rw [← hH1, Array.size_push]
    have ee1 : H1[H.size]? = some (arrV cA n.toNatClampNeg (fun _ => .null)) := by rw [← hH1, Array.getElem?_push_size, ← arrV_new]
    have o1 : ∀ q : Nat, q < H.size → H1[q]? = H[q]? := fun q hq => by rw [← hH1, Array.getElem?_push, if_neg (Nat.ne_of_lt hq)]
    have hcA : cA = ca 24 := by
      obtain ⟨kA', comp', y1, y2, y3, y4⟩ := (hK.2 4 _ rfl).2
      exact Option.some.inj (f1.symm.trans y4)
    subst hcA
    have hkp : ∀ (k1 : Nat) (x : Nat × va_E), (qW base ca cv μ)[k1]? = some x → H1[x.1]? = H[x.1]? := fun k1 x hx => o1 x.1 ((hP k1 x hx).lt)
    have hPn : va_P D vwCl (qW base ca cv (qnew μ 24 n.toNatClampNeg)) H1 := by
      rw [qW_new hE (fun i hi => qE_new_old hi)]
      refine (hP.kept hkp).app (fun k1 x hx => ?_)
      have hz : k1 < 1 := (List.getElem?_eq_some_iff.mp hx).1
      rw [show k1 = 0 by omega] at hx
      cases hx
      show H1[base + μ.1.length]? = some (vp_cell _ _)
      rw [vp_cell_q, ← hzz]
      exact ee1
    have hS1 : va_S (qA base) s.heap H1 locs := ⟨Nat.le_trans hS.1 (by omega), fun x h1 h2 => (o1 x (Nat.lt_of_lt_of_le h1 hS.1)).trans (hS.2.1 x h1 h2), hS.2.2⟩
    have fin := hgo H1 locs (cells + 1) (slots + n.toNatClampNeg) ls hPn hS1 (fun _ => by rw [z1, hzz]; show _ = base + (μ.1 ++ [(24, n.toNatClampNeg)]).length; simp; omega) hl (by omega) (by omega)
    rw [hn, List.map_cons, show qtr base cv (.ref (μ.1.length + 1)) = .ref (base + μ.1.length) from rfl, ← hzz] at fin
    exact fin
  · cases h
end QFIVE

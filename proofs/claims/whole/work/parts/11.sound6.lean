/-! SOUNDNESS, SIXTH PART: every instruction; blocks; methods -/
section QSIX
variable {p : Program} {l : Launch} {e : Env} {R : Room} {s : State} {m : MethodId} {args : Array Value} {below : List Frame} {meth : Method} {c : Code} {Q : State → Prop}
variable {al : Bool} {base : Nat} {D : va_G} {ca : Nat → ClassId} {cv : Nat → Value} {o : Nat} {cc : ByteArray} {cd : qC} {nL rc rs mc ms : Nat}
variable {d : Nat} {ini : Bool} {k : qK} {cf : qF} {r : qR} {pc : Nat} {L S : List Value} {μ : qM}
theorem qis_eq {j tag v : Nat} (h : qis o j tag v = true) : qcpl o j = (tag, (v : Int)) := of_decide_eq_true h
theorem qentry_cases {j : Nat} {i : Instr} (h : qentry o j i = true) : (∃ z, i = .iconst z ∧ qcpl o j = (2, z)) ∨ ∃ z, i = .jsr z ∧ qcpl o j = (4, z) := by
  unfold qentry at h
  split at h
  · rename_i hh; exact Or.inl ⟨_, of_decide_eq_true h, by rw [← hh]⟩
  · rename_i hh; exact Or.inr ⟨_, of_decide_eq_true h, by rw [← hh]⟩
  · cases h
set_option maxHeartbeats 4000000 in
theorem qs_op (C : qCtx p R s m args meth c base D ca cv o ini cc nL mc ms d) {ret : Option FieldType} {i : Instr} {b ln : Nat} (hrow : qnth cd pc = some (b, ln, i)) (hok : qrowok o ret ini nL cc cd pc (b, ln, i) = true)
    {d0 : Nat} (hd0 : d0 + 1 ≤ d) (hcf : ∀ M as μ r1, cf M as μ = some r1 → qGood al base D ca cv d0 M as μ r1)
    (hk : ∀ pc L S μ, k pc L S μ = some r → qGo al p l e R s m args below meth c Q base D ca cv cd nL rc rs mc ms pc L S μ)
    (hret : ∀ di, decode cc (qbpc cd pc) = .ok (di, 1) → (di = .ireturn ∨ di = .lreturn ∨ di = .return_) → qrel o ret ini nL cd (qbpc cd pc) di i = true → qGo al p l e R s m args below meth c Q base D ca cv cd nL rc rs mc ms pc L S μ)
    (h : qop al cf i pc L S μ k = some r) : qGo al p l e R s m args below meth c Q base D ca cv cd nL rc rs mc ms pc L S μ := by
  have hb0 : b = qbpc cd pc := by unfold qbpc; rw [hrow]
  subst hb0
  unfold qrowok at hok
  rw [Bool.or_eq_true] at hok
  rcases hok with hnop | hok
  · have := of_decide_eq_true hnop
    simp only at this
    subst this
    cases h
  simp only at hok
  cases hdec : decode cc (qbpc cd pc) with
  | error z => rw [hdec] at hok; cases hok
  | ok z =>
    obtain ⟨di, len⟩ := z
    rw [hdec] at hok
    simp only [Bool.and_eq_true] at hok
    obtain ⟨⟨hrel, hlen⟩, hterm⟩ := hok
    have hgen : qterm di = false → len = qlen di ∧ qbpc cd (pc + 1) = qbpc cd pc + len := by
      intro ht
      rw [ht, Bool.false_or, Bool.and_eq_true] at hlen
      refine ⟨of_decide_eq_true hlen.1, ?_⟩
      have h2 := hlen.2
      split at h2
      · rename_i nx hnx
        unfold qbpc at h2 ⊢
        rw [hnx]
        exact of_decide_eq_true h2
      · cases h2
    clear hlen
    cases di with
    | iadd =>
      obtain ⟨rfl, hnx⟩ := hgen rfl
      simp only [qrel, decide_eq_true_eq] at hrel
      subst hrel
      exact qs_iadd C hdec hnx hk h
    | isub =>
      obtain ⟨rfl, hnx⟩ := hgen rfl
      simp only [qrel, decide_eq_true_eq] at hrel
      subst hrel
      exact qs_isub C hdec hnx hk h
    | imul =>
      obtain ⟨rfl, hnx⟩ := hgen rfl
      simp only [qrel, decide_eq_true_eq] at hrel
      subst hrel
      exact qs_imul C hdec hnx hk h
    | iand =>
      obtain ⟨rfl, hnx⟩ := hgen rfl
      simp only [qrel, decide_eq_true_eq] at hrel
      subst hrel
      exact qs_iand C hdec hnx hk h
    | ior =>
      obtain ⟨rfl, hnx⟩ := hgen rfl
      simp only [qrel, decide_eq_true_eq] at hrel
      subst hrel
      exact qs_ior C hdec hnx hk h
    | ixor =>
      obtain ⟨rfl, hnx⟩ := hgen rfl
      simp only [qrel, decide_eq_true_eq] at hrel
      subst hrel
      exact qs_ixor C hdec hnx hk h
    | ishl =>
      obtain ⟨rfl, hnx⟩ := hgen rfl
      simp only [qrel, decide_eq_true_eq] at hrel
      subst hrel
      exact qs_ishl C hdec hnx hk h
    | ishr =>
      obtain ⟨rfl, hnx⟩ := hgen rfl
      simp only [qrel, decide_eq_true_eq] at hrel
      subst hrel
      exact qs_ishr C hdec hnx hk h
    | iushr =>
      obtain ⟨rfl, hnx⟩ := hgen rfl
      simp only [qrel, decide_eq_true_eq] at hrel
      subst hrel
      exact qs_iushr C hdec hnx hk h
    | idiv =>
      obtain ⟨rfl, hnx⟩ := hgen rfl
      simp only [qrel, decide_eq_true_eq] at hrel
      subst hrel
      exact qs_idiv C hdec hnx hk h
    | irem =>
      obtain ⟨rfl, hnx⟩ := hgen rfl
      simp only [qrel, decide_eq_true_eq] at hrel
      subst hrel
      exact qs_irem C hdec hnx hk h
    | ineg =>
      obtain ⟨rfl, hnx⟩ := hgen rfl
      simp only [qrel, decide_eq_true_eq] at hrel
      subst hrel
      exact qs_ineg C hdec hnx hk h
    | land =>
      obtain ⟨rfl, hnx⟩ := hgen rfl
      simp only [qrel, decide_eq_true_eq] at hrel
      subst hrel
      exact qs_land C hdec hnx hk h
    | lor =>
      obtain ⟨rfl, hnx⟩ := hgen rfl
      simp only [qrel, decide_eq_true_eq] at hrel
      subst hrel
      exact qs_lor C hdec hnx hk h
    | lshl =>
      obtain ⟨rfl, hnx⟩ := hgen rfl
      simp only [qrel, decide_eq_true_eq] at hrel
      subst hrel
      exact qs_lshl C hdec hnx hk h
    | lshr =>
      obtain ⟨rfl, hnx⟩ := hgen rfl
      simp only [qrel, decide_eq_true_eq] at hrel
      subst hrel
      exact qs_lshr C hdec hnx hk h
    | lcmp =>
      obtain ⟨rfl, hnx⟩ := hgen rfl
      simp only [qrel, decide_eq_true_eq] at hrel
      subst hrel
      exact qs_lcmp C hdec hnx hk h
    | i2l =>
      obtain ⟨rfl, hnx⟩ := hgen rfl
      simp only [qrel, decide_eq_true_eq] at hrel
      subst hrel
      exact qs_i2l C hdec hnx hk h
    | l2i =>
      obtain ⟨rfl, hnx⟩ := hgen rfl
      simp only [qrel, decide_eq_true_eq] at hrel
      subst hrel
      exact qs_l2i C hdec hnx hk h
    | i2c =>
      obtain ⟨rfl, hnx⟩ := hgen rfl
      simp only [qrel, decide_eq_true_eq] at hrel
      subst hrel
      exact qs_i2c C hdec hnx hk h
    | dup =>
      obtain ⟨rfl, hnx⟩ := hgen rfl
      simp only [qrel, decide_eq_true_eq] at hrel
      subst hrel
      exact qs_dup C hdec hnx hk h
    | dup2 =>
      obtain ⟨rfl, hnx⟩ := hgen rfl
      simp only [qrel, decide_eq_true_eq] at hrel
      subst hrel
      exact qs_dup2 C hdec hnx hk h
    | pop =>
      obtain ⟨rfl, hnx⟩ := hgen rfl
      simp only [qrel, decide_eq_true_eq] at hrel
      subst hrel
      exact qs_pop C hdec hnx hk h
    | iaload =>
      obtain ⟨rfl, hnx⟩ := hgen rfl
      simp only [qrel, decide_eq_true_eq] at hrel
      subst hrel
      exact qs_iaload C hdec hnx hk h
    | caload =>
      obtain ⟨rfl, hnx⟩ := hgen rfl
      simp only [qrel, decide_eq_true_eq] at hrel
      subst hrel
      exact qs_caload C hdec hnx hk h
    | baload =>
      obtain ⟨rfl, hnx⟩ := hgen rfl
      simp only [qrel, decide_eq_true_eq] at hrel
      subst hrel
      exact qs_baload C hdec hnx hk h
    | laload =>
      obtain ⟨rfl, hnx⟩ := hgen rfl
      simp only [qrel, decide_eq_true_eq] at hrel
      subst hrel
      exact qs_laload C hdec hnx hk h
    | aaload =>
      obtain ⟨rfl, hnx⟩ := hgen rfl
      simp only [qrel, decide_eq_true_eq] at hrel
      subst hrel
      exact qs_aaload C hdec hnx hk h
    | iastore =>
      obtain ⟨rfl, hnx⟩ := hgen rfl
      simp only [qrel, decide_eq_true_eq] at hrel
      subst hrel
      exact qs_iastore C hdec hnx hk h
    | castore =>
      obtain ⟨rfl, hnx⟩ := hgen rfl
      simp only [qrel, decide_eq_true_eq] at hrel
      subst hrel
      exact qs_castore C hdec hnx hk h
    | bastore =>
      obtain ⟨rfl, hnx⟩ := hgen rfl
      simp only [qrel, decide_eq_true_eq] at hrel
      subst hrel
      exact qs_bastore C hdec hnx hk h
    | lastore =>
      obtain ⟨rfl, hnx⟩ := hgen rfl
      simp only [qrel, decide_eq_true_eq] at hrel
      subst hrel
      exact qs_lastore C hdec hnx hk h
    | aastore =>
      obtain ⟨rfl, hnx⟩ := hgen rfl
      simp only [qrel, decide_eq_true_eq] at hrel
      subst hrel
      exact qs_aastore C hdec hnx hk h
    | arraylength =>
      obtain ⟨rfl, hnx⟩ := hgen rfl
      simp only [qrel, decide_eq_true_eq] at hrel
      subst hrel
      exact qs_arraylength C hdec hnx hk h
    | iconst n =>
      obtain ⟨rfl, hnx⟩ := hgen rfl
      simp only [qrel, decide_eq_true_eq] at hrel
      subst hrel
      exact qs_iconst C hdec hnx hk h
    | iload j =>
      obtain ⟨rfl, hnx⟩ := hgen rfl
      simp only [qrel, decide_eq_true_eq] at hrel
      subst hrel
      exact qs_iload C hdec hnx hk h
    | iload_n j =>
      obtain ⟨rfl, hnx⟩ := hgen rfl
      simp only [qrel, decide_eq_true_eq] at hrel
      subst hrel
      exact qs_iload_n C hdec hnx hk h
    | lload j =>
      obtain ⟨rfl, hnx⟩ := hgen rfl
      simp only [qrel, decide_eq_true_eq] at hrel
      subst hrel
      exact qs_lload C hdec hnx hk h
    | lload_n j =>
      obtain ⟨rfl, hnx⟩ := hgen rfl
      simp only [qrel, decide_eq_true_eq] at hrel
      subst hrel
      exact qs_lload_n C hdec hnx hk h
    | aload j =>
      obtain ⟨rfl, hnx⟩ := hgen rfl
      simp only [qrel, decide_eq_true_eq] at hrel
      subst hrel
      exact qs_aload C hdec hnx hk h
    | aload_n j =>
      obtain ⟨rfl, hnx⟩ := hgen rfl
      simp only [qrel, decide_eq_true_eq] at hrel
      subst hrel
      exact qs_aload_n C hdec hnx hk h
    | istore j =>
      obtain ⟨rfl, hnx⟩ := hgen rfl
      simp only [qrel, Bool.and_eq_true, decide_eq_true_eq] at hrel
      obtain ⟨rfl, hj⟩ := hrel
      exact qs_istore C hj hdec hnx hk h
    | istore_n j =>
      obtain ⟨rfl, hnx⟩ := hgen rfl
      simp only [qrel, Bool.and_eq_true, decide_eq_true_eq] at hrel
      obtain ⟨rfl, hj⟩ := hrel
      exact qs_istore_n C hj hdec hnx hk h
    | lstore j =>
      obtain ⟨rfl, hnx⟩ := hgen rfl
      simp only [qrel, Bool.and_eq_true, decide_eq_true_eq] at hrel
      obtain ⟨rfl, hj⟩ := hrel
      exact qs_lstore C hj hdec hnx hk h
    | lstore_n j =>
      obtain ⟨rfl, hnx⟩ := hgen rfl
      simp only [qrel, Bool.and_eq_true, decide_eq_true_eq] at hrel
      obtain ⟨rfl, hj⟩ := hrel
      exact qs_lstore_n C hj hdec hnx hk h
    | astore j =>
      obtain ⟨rfl, hnx⟩ := hgen rfl
      simp only [qrel, Bool.and_eq_true, decide_eq_true_eq] at hrel
      obtain ⟨rfl, hj⟩ := hrel
      exact qs_astore C hj hdec hnx hk h
    | astore_n j =>
      obtain ⟨rfl, hnx⟩ := hgen rfl
      simp only [qrel, Bool.and_eq_true, decide_eq_true_eq] at hrel
      obtain ⟨rfl, hj⟩ := hrel
      exact qs_astore_n C hj hdec hnx hk h
    | iinc j n =>
      obtain ⟨rfl, hnx⟩ := hgen rfl
      simp only [qrel, Bool.and_eq_true, decide_eq_true_eq] at hrel
      obtain ⟨rfl, hj⟩ := hrel
      exact qs_iinc C hj hdec hnx hk h
    | bipush n =>
      obtain ⟨rfl, hnx⟩ := hgen rfl
      simp only [qrel] at hrel
      split at hrel
      · exact qs_bipush C (of_decide_eq_true hrel) hdec hnx hk h
      · cases hrel
    | sipush n =>
      obtain ⟨rfl, hnx⟩ := hgen rfl
      simp only [qrel] at hrel
      split at hrel
      · exact qs_sipush C (of_decide_eq_true hrel) hdec hnx hk h
      · cases hrel
    | lconst n =>
      obtain ⟨rfl, hnx⟩ := hgen rfl
      simp only [qrel] at hrel
      split at hrel
      · exact qs_lconst C (of_decide_eq_true hrel) hdec hnx hk h
      · cases hrel
    | ldc j =>
      obtain ⟨rfl, hnx⟩ := hgen rfl
      rcases qentry_cases hrel with ⟨z, rfl, hq⟩ | ⟨z, rfl, hq⟩
      · exact qs_ldci C hq hdec hnx hk h
      · exact qs_ldcs C hq hdec hnx hk h
    | ldc_w j =>
      obtain ⟨rfl, hnx⟩ := hgen rfl
      rcases qentry_cases hrel with ⟨z, rfl, hq⟩ | ⟨z, rfl, hq⟩
      · exact qs_ldc_wi C hq hdec hnx hk h
      · exact qs_ldc_ws C hq hdec hnx hk h
    | ldc2_w j =>
      obtain ⟨rfl, hnx⟩ := hgen rfl
      simp only [qrel, decide_eq_true_eq] at hrel
      obtain ⟨h1, rfl⟩ := hrel
      exact qs_ldc2 C (by rw [← h1]) hdec hnx hk h
    | ifCond cn off =>
      obtain ⟨rfl, hnx⟩ := hgen rfl
      simp only [qrel] at hrel
      split at hrel
      · simp only [Bool.and_eq_true, decide_eq_true_eq] at hrel
        obtain ⟨rfl, h2⟩ := hrel
        exact qs_ifCond C (of_decide_eq_true h2) hdec hnx hk h
      · cases hrel
    | if_icmp cn off =>
      obtain ⟨rfl, hnx⟩ := hgen rfl
      simp only [qrel] at hrel
      split at hrel
      · simp only [Bool.and_eq_true, decide_eq_true_eq] at hrel
        obtain ⟨rfl, h2⟩ := hrel
        exact qs_if_icmp C (of_decide_eq_true h2) hdec hnx hk h
      · cases hrel
    | goto off =>
      simp only [decide_eq_true_eq] at hterm
      subst hterm
      simp only [qrel] at hrel
      split at hrel
      · exact qs_goto C (of_decide_eq_true hrel) hdec hk h
      · cases hrel
    | tableswitch df lo hi offs =>
      simp only [qrel] at hrel
      split at hrel
      · simp only [Bool.and_eq_true, decide_eq_true_eq] at hrel
        obtain ⟨⟨⟨⟨h1, h2⟩, h3⟩, h4⟩, h5⟩ := hrel
        exact qs_tableswitch C h1 h2 h3 h4 h5 hdec hk h
      · cases hrel
    | lookupswitch df ps =>
      simp only [qrel] at hrel
      split at hrel
      · simp only [Bool.and_eq_true] at hrel
        obtain ⟨⟨⟨h1, h2⟩, h3⟩, h4⟩ := hrel
        exact qs_lookupswitch C h1 h2 h3 h4 hdec hk h
      · cases hrel
    | getfield j =>
      obtain ⟨rfl, hnx⟩ := hgen rfl
      simp only [qrel] at hrel
      split at hrel
      · simp only [Bool.or_eq_true, Bool.and_eq_true, decide_eq_true_eq] at hrel
        rcases hrel with (h1 | ⟨rfl, h1⟩) | ⟨rfl, h1⟩
        · exact qs_getfield C (qis_eq h1) hdec hnx hk h
        · exact qs_gets_value C (qis_eq h1) hdec hnx hk h
        · exact qs_gets_coder C (qis_eq h1) hdec hnx hk h
      · cases hrel
    | putfield j =>
      obtain ⟨rfl, hnx⟩ := hgen rfl
      simp only [qrel] at hrel
      split at hrel
      · rw [Bool.and_eq_true] at hrel
        exact qs_putfield C (qis_eq hrel.1) hrel.2 hdec hnx hk h
      · cases hrel
    | getstatic j =>
      obtain ⟨rfl, hnx⟩ := hgen rfl
      simp only [qrel] at hrel
      split at hrel
      · simp only [Bool.and_eq_true, decide_eq_true_eq] at hrel
        obtain ⟨rfl, h2⟩ := hrel
        exact qs_getstatic C (tag := (qcpl o j).1) rfl h2 hdec hnx hk h
      · simp only [Bool.and_eq_true, decide_eq_true_eq] at hrel
        obtain ⟨rfl, h2⟩ := hrel
        exact qs_getstaticC C (qis_eq h2) hdec hnx hk h
      · cases hrel
    | new j =>
      obtain ⟨rfl, hnx⟩ := hgen rfl
      simp only [qrel] at hrel
      split at hrel
      · exact qs_new C (qis_eq hrel) hdec hnx hk h
      · cases hrel
    | newarray t =>
      obtain ⟨rfl, hnx⟩ := hgen rfl
      simp only [qrel] at hrel
      split at hrel
      · refine qs_newarray C ?_ hdec hnx hk h
        split at hrel
        · exact Or.inl ⟨rfl, by simpa using hrel⟩
        · exact Or.inr (Or.inl ⟨rfl, by simpa using hrel⟩)
        · exact Or.inr (Or.inr (Or.inl ⟨rfl, by simpa using hrel⟩))
        · exact Or.inr (Or.inr (Or.inr ⟨rfl, by simpa using hrel⟩))
        · cases hrel
      · cases hrel
    | anewarray j =>
      obtain ⟨rfl, hnx⟩ := hgen rfl
      simp only [qrel, Bool.and_eq_true, decide_eq_true_eq] at hrel
      obtain ⟨rfl, h1⟩ := hrel
      exact qs_anewarray C (qis_eq h1) hdec hnx hk h
    | invokevirtual j =>
      obtain ⟨rfl, hnx⟩ := hgen rfl
      simp only [qrel] at hrel
      split at hrel
      · rw [Bool.or_eq_true] at hrel
        rcases hrel with h1 | h1
        · exact qs_call C (Or.inl ⟨Or.inl rfl, rfl⟩) (qis_eq h1) hdec hnx hd0 hcf hk h
        · exact qs_call C (Or.inl ⟨Or.inr rfl, rfl⟩) (qis_eq h1) hdec hnx hd0 hcf hk h
      · cases hrel
    | invokestatic j =>
      obtain ⟨rfl, hnx⟩ := hgen rfl
      simp only [qrel] at hrel
      split at hrel
      · rw [Bool.or_eq_true] at hrel
        rcases hrel with h1 | h1
        · exact qs_call C (Or.inr (Or.inl ⟨Or.inl rfl, rfl⟩)) (qis_eq h1) hdec hnx hd0 hcf hk h
        · exact qs_call C (Or.inr (Or.inl ⟨Or.inr rfl, rfl⟩)) (qis_eq h1) hdec hnx hd0 hcf hk h
      · exact qs_copy C (qis_eq hrel) hdec hnx hk h
      · exact qs_min C (qis_eq hrel) hdec hnx hk h
      · exact qs_max C (qis_eq hrel) hdec hnx hk h
      · cases hrel
    | invokespecial j =>
      obtain ⟨rfl, hnx⟩ := hgen rfl
      simp only [qrel] at hrel
      split at hrel
      · rw [Bool.or_eq_true] at hrel
        rcases hrel with h1 | h1
        · exact qs_call C (Or.inr (Or.inr ⟨Or.inl rfl, rfl⟩)) (qis_eq h1) hdec hnx hd0 hcf hk h
        · exact qs_call C (Or.inr (Or.inr ⟨Or.inr rfl, rfl⟩)) (qis_eq h1) hdec hnx hd0 hcf hk h
      · exact qs_objinit C (qis_eq hrel) hdec hnx hk h
      · cases hrel
    | ireturn =>
      simp only [decide_eq_true_eq] at hterm
      subst hterm
      exact hret _ hdec (Or.inl rfl) hrel
    | lreturn =>
      simp only [decide_eq_true_eq] at hterm
      subst hterm
      exact hret _ hdec (Or.inr (Or.inl rfl)) hrel
    | return_ =>
      simp only [decide_eq_true_eq] at hterm
      subst hterm
      exact hret _ hdec (Or.inr (Or.inr rfl)) hrel
    | _ => exact absurd hrel (by simp [qrel])
end QSIX
/-- a narrowed int stays -/
theorem qnar_z (x : Int32) : narrow .boolean (.int x) = .int (qnz x) := by
  unfold qnz vp_nar
  cases h : narrow .boolean (.int x) with
  | int y => rfl
  | _ => simp [narrow] at h
theorem qnar_c (x : Int32) : narrow .char (.int x) = .int (qnc x) := by
  unfold qnc vp_nar
  cases h : narrow .char (.int x) with
  | int y => rfl
  | _ => simp [narrow] at h
theorem qnar_b (x : Int32) : narrow .byte (.int x) = .int (qnb x) := by
  unfold qnb vp_nar
  cases h : narrow .byte (.int x) with
  | int y => rfl
  | _ => simp [narrow] at h
def qcnt (μ μ' : qM) : Prop := μ.2.2.2.2.1 ≤ μ'.2.2.2.2.1 ∧ μ.2.2.2.2.2 ≤ μ'.2.2.2.2.2
theorem qcnt.rf {μ : qM} : qcnt μ μ := ⟨Nat.le_refl _, Nat.le_refl _⟩
theorem qcnt.tr {a b c : qM} (h : qcnt a b) (h2 : qcnt b c) : qcnt a c := ⟨Nat.le_trans h.1 h2.1, Nat.le_trans h.2 h2.2⟩
theorem qcnt.eq {a a' b : qM} (e : a'.2.2.2.2 = a.2.2.2.2) (h : qcnt a' b) : qcnt a b := by unfold qcnt at *; rw [e] at h; exact h
theorem qlook_some {d : Int} {x : Int32} {k : Nat → Option qR} {r : qR} : ∀ {ps : List (Int × Int)}, qlook d ps x k = some r → ∃ t, k t = some r := by
  intro ps
  induction ps with
  | nil => intro h; exact ⟨_, h⟩
  | cons a ps ih =>
    intro h
    simp only [qlook] at h
    split at h
    · exact ⟨_, h⟩
    · exact ih h
set_option maxHeartbeats 4000000 in
theorem qop_cnt {al : Bool} {cf : qF} {i : Instr} {pc : Nat} {L S : List Value} {μ : qM} {k : qK} {r : qR} (hcf : ∀ M as μ r1, cf M as μ = some r1 → qcnt μ r1.2.2) (hk : ∀ pc L S μ, k pc L S μ = some r → qcnt μ r.2.2) (h : qop al cf i pc L S μ k = some r) : qcnt μ r.2.2 := by
  have hb : ∀ {α : Type} {o : Option α} {f : α → Option qR}, qbnd o f = some r → ∃ a, o = some a ∧ f a = some r := fun h => qbnd_some h
  have put : ∀ {μ' : qM} {pc : Nat} {L S : List Value} {P : Prop} [Decidable P] {a : qM}, (if P then some a else none) = some μ' → a.2.2.2.2 = μ.2.2.2.2 → k pc L S μ' = some r → qcnt μ r.2.2 := by
    intro μ' pc L S P _ a h1 h2 h3
    obtain ⟨-, rfl⟩ := ite_some h1
    exact qcnt.eq h2 (hk _ _ _ _ h3)
  have new : ∀ {c n : Nat}, qcnt (qnew μ c n) r.2.2 → qcnt μ r.2.2 := fun h => ⟨Nat.le_trans (Nat.le_succ _) h.1, Nat.le_trans (Nat.le_add_right _ _) h.2⟩
  cases i with
  | invokestatic n =>
    simp only [qop, qcall] at h
    split at h
    · obtain ⟨r1, e1, e2⟩ := hb h
      refine (hcf _ _ _ _ e1).tr ?_
      split at e2 <;> exact hk _ _ _ _ e2
    · cases h
  | getfield n =>
    simp only [qop, qget] at h
    split at h
    · split at h
      · cases h
      · split at h <;> (obtain ⟨x, e1, e2⟩ := hb h; exact hk _ _ _ _ e2)
    · split at h
      · split at h
        · exact hk _ _ _ _ h
        · exact hk _ _ _ _ h
        · cases h
      · cases h
    · cases h
  | putfield n =>
    simp only [qop, qput] at h
    split at h
    · split at h
      · obtain ⟨x, e1, e2⟩ := hb h; exact put e1 rfl e2
      · split at h
        · obtain ⟨x, e1, e2⟩ := hb h; exact put e1 rfl e2
        · cases h
      · cases h
    · split at h
      · obtain ⟨x, e1, e2⟩ := hb h; exact put e1 rfl e2
      · cases h
    · cases h
  | iastore =>
    simp only [qop, qsto] at h
    split at h
    all_goals try split at h
    all_goals first | (cases h; done) | exact hk _ _ _ _ h | (obtain ⟨x, e1, e2⟩ := hb h; first | exact put e1 rfl e2 | exact hk _ _ _ _ e2) | (cases h; exact qcnt.rf) | (obtain ⟨-, rfl⟩ := ite_some h; exact qcnt.rf)
  | castore =>
    simp only [qop, qsto] at h
    split at h
    all_goals try split at h
    all_goals first | (cases h; done) | exact hk _ _ _ _ h | (obtain ⟨x, e1, e2⟩ := hb h; first | exact put e1 rfl e2 | exact hk _ _ _ _ e2) | (cases h; exact qcnt.rf) | (obtain ⟨-, rfl⟩ := ite_some h; exact qcnt.rf)
  | bastore =>
    simp only [qop, qsto] at h
    split at h
    all_goals try split at h
    all_goals first | (cases h; done) | exact hk _ _ _ _ h | (obtain ⟨x, e1, e2⟩ := hb h; first | exact put e1 rfl e2 | exact hk _ _ _ _ e2) | (cases h; exact qcnt.rf) | (obtain ⟨-, rfl⟩ := ite_some h; exact qcnt.rf)
  | lastore =>
    simp only [qop] at h
    split at h
    all_goals try split at h
    all_goals first | (cases h; done) | exact hk _ _ _ _ h | (obtain ⟨x, e1, e2⟩ := hb h; first | exact put e1 rfl e2 | exact hk _ _ _ _ e2) | (cases h; exact qcnt.rf) | (obtain ⟨-, rfl⟩ := ite_some h; exact qcnt.rf)
  | aastore =>
    simp only [qop] at h
    split at h
    all_goals try split at h
    all_goals first | (cases h; done) | exact hk _ _ _ _ h | (obtain ⟨x, e1, e2⟩ := hb h; first | exact put e1 rfl e2 | exact hk _ _ _ _ e2) | (cases h; exact qcnt.rf) | (obtain ⟨-, rfl⟩ := ite_some h; exact qcnt.rf)
  | multianewarray a b =>
    simp only [qop] at h
    split at h
    all_goals try split at h
    all_goals first | (cases h; done) | exact hk _ _ _ _ h | (obtain ⟨x, e1, e2⟩ := hb h; first | exact put e1 rfl e2 | exact hk _ _ _ _ e2) | (cases h; exact qcnt.rf) | (obtain ⟨-, rfl⟩ := ite_some h; exact qcnt.rf)
  | new n =>
    simp only [qop] at h
    obtain ⟨x, e1, e2⟩ := hb h
    obtain ⟨-, rfl⟩ := ite_some e1
    exact new (hk _ _ _ _ e2)
  | anewarray n =>
    simp only [qop, q1] at h
    split at h
    · obtain ⟨x, e1, e2⟩ := hb h
      unfold oArr at e1
      split at e1
      · cases e1
      · cases e1; exact new (hk _ _ _ _ e2)
    · cases h
  | lookupswitch d ps =>
    simp only [qop, q1] at h
    split at h
    · obtain ⟨t, e⟩ := qlook_some h; exact hk _ _ _ _ e
    · cases h
  | ifCond c t =>
    simp only [qop, q1] at h
    split at h
    · cases c <;> simp only [qcond] at h <;> split at h <;> exact hk _ _ _ _ h
    · cases h
  | if_icmp c t =>
    simp only [qop, q2] at h
    split at h
    · cases c <;> simp only [qcond] at h <;> split at h <;> exact hk _ _ _ _ h
    · cases h
  | iaload =>
    simp only [qop, qld] at h
    split at h
    all_goals try split at h
    all_goals first | (cases h; done) | exact hk _ _ _ _ h | (obtain ⟨x, e1, e2⟩ := hb h; first | exact put e1 rfl e2 | exact hk _ _ _ _ e2) | (cases h; exact qcnt.rf) | (obtain ⟨-, rfl⟩ := ite_some h; exact qcnt.rf)
  | caload =>
    simp only [qop, qld] at h
    split at h
    all_goals try split at h
    all_goals first | (cases h; done) | exact hk _ _ _ _ h | (obtain ⟨x, e1, e2⟩ := hb h; first | exact put e1 rfl e2 | exact hk _ _ _ _ e2) | (cases h; exact qcnt.rf) | (obtain ⟨-, rfl⟩ := ite_some h; exact qcnt.rf)
  | baload =>
    simp only [qop, qld] at h
    split at h
    all_goals try split at h
    all_goals first | (cases h; done) | exact hk _ _ _ _ h | (obtain ⟨x, e1, e2⟩ := hb h; first | exact put e1 rfl e2 | exact hk _ _ _ _ e2) | (cases h; exact qcnt.rf) | (obtain ⟨-, rfl⟩ := ite_some h; exact qcnt.rf)
  | laload =>
    simp only [qop] at h
    split at h
    all_goals try split at h
    all_goals first | (cases h; done) | exact hk _ _ _ _ h | (obtain ⟨x, e1, e2⟩ := hb h; first | exact put e1 rfl e2 | exact hk _ _ _ _ e2) | (cases h; exact qcnt.rf) | (obtain ⟨-, rfl⟩ := ite_some h; exact qcnt.rf)
  | aaload =>
    simp only [qop] at h
    split at h
    all_goals try split at h
    all_goals first | (cases h; done) | exact hk _ _ _ _ h | (obtain ⟨x, e1, e2⟩ := hb h; first | exact put e1 rfl e2 | exact hk _ _ _ _ e2) | (cases h; exact qcnt.rf) | (obtain ⟨-, rfl⟩ := ite_some h; exact qcnt.rf)
  | arraylength =>
    simp only [qop] at h
    split at h
    all_goals try split at h
    all_goals first | (cases h; done) | exact hk _ _ _ _ h | (obtain ⟨x, e1, e2⟩ := hb h; first | exact put e1 rfl e2 | exact hk _ _ _ _ e2) | (cases h; exact qcnt.rf) | (obtain ⟨-, rfl⟩ := ite_some h; exact qcnt.rf)
  | ireturn =>
    simp only [qop] at h
    split at h
    all_goals try split at h
    all_goals first | (cases h; done) | exact hk _ _ _ _ h | (obtain ⟨x, e1, e2⟩ := hb h; first | exact put e1 rfl e2 | exact hk _ _ _ _ e2) | (cases h; exact qcnt.rf) | (obtain ⟨-, rfl⟩ := ite_some h; exact qcnt.rf)
  | lreturn =>
    simp only [qop] at h
    split at h
    all_goals try split at h
    all_goals first | (cases h; done) | exact hk _ _ _ _ h | (obtain ⟨x, e1, e2⟩ := hb h; first | exact put e1 rfl e2 | exact hk _ _ _ _ e2) | (cases h; exact qcnt.rf) | (obtain ⟨-, rfl⟩ := ite_some h; exact qcnt.rf)
  | return_ =>
    simp only [qop] at h
    split at h
    all_goals try split at h
    all_goals first | (cases h; done) | exact hk _ _ _ _ h | (obtain ⟨x, e1, e2⟩ := hb h; first | exact put e1 rfl e2 | exact hk _ _ _ _ e2) | (cases h; exact qcnt.rf) | (obtain ⟨-, rfl⟩ := ite_some h; exact qcnt.rf)
  | freturn =>
    simp only [qop] at h
    split at h
    all_goals try split at h
    all_goals first | (cases h; done) | exact hk _ _ _ _ h | (obtain ⟨x, e1, e2⟩ := hb h; first | exact put e1 rfl e2 | exact hk _ _ _ _ e2) | (cases h; exact qcnt.rf) | (obtain ⟨-, rfl⟩ := ite_some h; exact qcnt.rf)
  | dreturn =>
    simp only [qop] at h
    split at h
    all_goals try split at h
    all_goals first | (cases h; done) | exact hk _ _ _ _ h | (obtain ⟨x, e1, e2⟩ := hb h; first | exact put e1 rfl e2 | exact hk _ _ _ _ e2) | (cases h; exact qcnt.rf) | (obtain ⟨-, rfl⟩ := ite_some h; exact qcnt.rf)
  | areturn =>
    simp only [qop] at h
    split at h
    all_goals try split at h
    all_goals first | (cases h; done) | exact hk _ _ _ _ h | (obtain ⟨x, e1, e2⟩ := hb h; first | exact put e1 rfl e2 | exact hk _ _ _ _ e2) | (cases h; exact qcnt.rf) | (obtain ⟨-, rfl⟩ := ite_some h; exact qcnt.rf)
  | idiv =>
    simp only [qop, q2] at h
    split at h
    all_goals try split at h
    all_goals first | (cases h; done) | exact hk _ _ _ _ h | (obtain ⟨x, e1, e2⟩ := hb h; first | exact put e1 rfl e2 | exact hk _ _ _ _ e2) | (cases h; exact qcnt.rf) | (obtain ⟨-, rfl⟩ := ite_some h; exact qcnt.rf)
  | irem =>
    simp only [qop, q2] at h
    split at h
    all_goals try split at h
    all_goals first | (cases h; done) | exact hk _ _ _ _ h | (obtain ⟨x, e1, e2⟩ := hb h; first | exact put e1 rfl e2 | exact hk _ _ _ _ e2) | (cases h; exact qcnt.rf) | (obtain ⟨-, rfl⟩ := ite_some h; exact qcnt.rf)
  | pop2 =>
    simp only [qop] at h
    split at h
    all_goals try split at h
    all_goals first | (cases h; done) | exact hk _ _ _ _ h | (obtain ⟨x, e1, e2⟩ := hb h; first | exact put e1 rfl e2 | exact hk _ _ _ _ e2) | (cases h; exact qcnt.rf) | (obtain ⟨-, rfl⟩ := ite_some h; exact qcnt.rf)
  | fmul =>
    simp only [qop, q2] at h
    split at h
    all_goals try split at h
    all_goals first | (cases h; done) | exact hk _ _ _ _ h | (obtain ⟨x, e1, e2⟩ := hb h; first | exact put e1 rfl e2 | exact hk _ _ _ _ e2) | (cases h; exact qcnt.rf) | (obtain ⟨-, rfl⟩ := ite_some h; exact qcnt.rf)
  | fadd =>
    simp only [qop, q2] at h
    split at h
    all_goals try split at h
    all_goals first | (cases h; done) | exact hk _ _ _ _ h | (obtain ⟨x, e1, e2⟩ := hb h; first | exact put e1 rfl e2 | exact hk _ _ _ _ e2) | (cases h; exact qcnt.rf) | (obtain ⟨-, rfl⟩ := ite_some h; exact qcnt.rf)
  | iconst n => exact hk _ _ _ _ h
  | goto_w n => exact hk _ _ _ _ h
  | jsr n => exact hk _ _ _ _ h
  | goto n => exact hk _ _ _ _ h
  | _ => first | (cases h; done) | (simp only [qop, q1, q2, ql1, ql2, qli] at h; split at h <;> first | exact hk _ _ _ _ h | cases h)
theorem qmw_last {x : Int32} {μ : qM} {r : qR} {z : Int32} (h : (if z = x then some ((x, 0, μ) : qR) else none) = some r) : z = x ∧ r = (x, 0, μ) := by
  by_cases hz : z = x
  · rw [if_pos hz] at h; exact ⟨hz, (Option.some.inj h).symm⟩
  · rw [if_neg hz] at h; cases h
section QSEV
variable {p : Program} {l : Launch} {e : Env} {R : Room} {s : State} {m : MethodId} {args : Array Value} {below : List Frame} {meth : Method} {c : Code}
variable {al : Bool} {base : Nat} {D : va_G} {ca : Nat → ClassId} {cv : Nat → Value} {o : Nat} {cc : ByteArray} {cd : qC} {nL mc ms : Nat}
variable {d : Nat} {ini : Bool} {k : qK} {cf : qF} {r : qR} {pc : Nat} {L S : List Value} {μ : qM}
/-- a method's end -/
theorem qret_sound (C : qCtx p R s m args meth c base D ca cv o ini cc nL mc ms d) {ret : Option FieldType} (hrt : meth.sig.returnType = ret) (hlocks : meth.locks = false) {i di : Instr}
    (hd : decode cc (qbpc cd pc) = .ok (di, 1)) (hdi : di = .ireturn ∨ di = .lreturn ∨ di = .return_) (hrel : qrel o ret ini nL cd (qbpc cd pc) di i = true) (h : qop al cf i pc L S μ k = some r) :
    qGo al p l e R s m args below meth c (MQ below (qQ al base D ca cv ret r) args s mc ms (qA base)) base D ca cv cd nL r.2.2.2.2.2.2.1 r.2.2.2.2.2.2.2 mc ms pc L S μ := by
  obtain ⟨hx, hb, hml, hown, hts, hK, hSt, hbs, hcv, hini, hd1, hfr, hlo, hmc, hms⟩ := C
  have kint : ∀ (x : Int32) (ty : FieldType), ret = some ty → ty ≠ .long → narrow ty (.int x) = .int x → S = [.int x] → r = (x, 0, μ) → di = .ireturn → qGo al p l e R s m args below meth c (MQ below (qQ al base D ca cv ret r) args s mc ms (qA base)) base D ca cv cd nL r.2.2.2.2.2.2.1 r.2.2.2.2.2.2.2 mc ms pc L S μ := by
    intro x ty e1 e2 e3 e4 e5 e6
    subst e1; subst e4; subst e5; subst e6
    refine ⟨⟨Nat.le_refl _, Nat.le_refl _⟩, fun H locs cells slots ls hP hS hz hl q1 q2 => ?_⟩
    have hc : cells = mc := by simpa using q1
    have hs : slots = ms := by simpa using q2
    subst hc; subst hs
    refine W.zret (v := x) hx hb hrt e3 (fun t ht hW => ?_) hS.2.2 hd hlocks
    have hq : va_Qi (S := Unit) (fun y _ => y = x) (fun _ t => qRep al base D ca cv μ t) (qA base) args s (.returned (some (.int x))) t := ⟨⟨x, (), rfl, rfl, qrep_of hK hSt hbs hP hS hz ht hW⟩, hS.F ht⟩
    cases ty with
    | long => exact absurd rfl e2
    | _ => exact hq
  rcases hdi with rfl | rfl | rfl
  · simp only [qrel] at hrel
    split at hrel
    · have hr := of_decide_eq_true hrel
      simp only [qop] at h
      split at h
      · rename_i x; exact kint x .int hr (fun z => by cases z) rfl rfl (Option.some.inj h).symm rfl
      · cases h
    · have hr := of_decide_eq_true hrel
      simp only [qop] at h
      split at h
      · rename_i x
        obtain ⟨h1, h2⟩ := qmw_last h
        exact kint x .boolean hr (fun z => by cases z) (by rw [qnar_z, h1]) rfl h2 rfl
      · cases h
    · have hr := of_decide_eq_true hrel
      simp only [qop] at h
      split at h
      · rename_i x
        obtain ⟨h1, h2⟩ := qmw_last h
        exact kint x .char hr (fun z => by cases z) (by rw [qnar_c, h1]) rfl h2 rfl
      · cases h
    · have hr := of_decide_eq_true hrel
      simp only [qop] at h
      split at h
      · rename_i x
        obtain ⟨h1, h2⟩ := qmw_last h
        exact kint x .byte hr (fun z => by cases z) (by rw [qnar_b, h1]) rfl h2 rfl
      · cases h
    · cases hrel
  · simp only [qrel, decide_eq_true_eq] at hrel
    obtain ⟨rfl, hr⟩ := hrel
    subst hr
    simp only [qop] at h
    split at h
    · rename_i x
      have h2 := (Option.some.inj h).symm
      subst h2
      refine ⟨⟨Nat.le_refl _, Nat.le_refl _⟩, fun H locs cells slots ls hP hS hz hl q1 q2 => ?_⟩
      have hc : cells = mc := by simpa using q1
      have hs : slots = ms := by simpa using q2
      subst hc; subst hs
      exact W.lret (v := x) hx hb hrt (fun t ht hW => ⟨⟨x, (), rfl, rfl, qrep_of hK hSt hbs hP hS hz ht hW⟩, hS.F ht⟩) hS.2.2 hd hlocks
    · cases h
  · simp only [qrel, decide_eq_true_eq] at hrel
    obtain ⟨rfl, hr⟩ := hrel
    subst hr
    simp only [qop] at h
    split at h
    · have h2 := (Option.some.inj h).symm
      subst h2
      refine ⟨⟨Nat.le_refl _, Nat.le_refl _⟩, fun H locs cells slots ls hP hS hz hl q1 q2 => ?_⟩
      have hc : cells = mc := by simpa using q1
      have hs : slots = ms := by simpa using q2
      subst hc; subst hs
      exact W.vret hx hb hrt (fun t ht hW => ⟨⟨(), rfl, trivial, qrep_of hK hSt hbs hP hS hz ht hW⟩, hS.F ht⟩) hS.2.2 hd hlocks
    · cases h
end QSEV
abbrev qmo (M : Nat) : Nat := (qm M).1
abbrev qmret (M : Nat) : Option FieldType := (qm M).2.2.2.2.2.1
abbrev qmc (M : Nat) : qC := (qm M).2.2.2.2.2.2
abbrev qmL (M : Nat) : Nat := (qm M).2.2.2.2.1
abbrev qmb (M : Nat) : ByteArray := (qm M).2.2.2.1
abbrev qmi (M : Nat) : Bool := decide ((qmy M).name = "<init>")
/-- in the method M, from this row on, with these locals, stack and memory, the machine ends with the answer r -/
def qEv (al : Bool) (base : Nat) (D : va_G) (ca : Nat → ClassId) (cv : Nat → Value) (d M : Nat) (r : qR) (pc : Nat) (L S : List Value) (μ : qM) : Prop :=
  qcnt μ r.2.2 ∧ ∀ (p : Program) (l : Launch) (e : Env) (R : Room) (s : State) (m : MethodId) (args : Array Value) (below : List Frame) (meth : Method) (c : Code) (mc ms : Nat), qCtx p R s m args meth c base D ca cv (qmo M) (qmi M) (qmb M) (qmL M) mc ms d → meth.sig.returnType = qmret M → meth.locks = false →
    qGo al p l e R s m args below meth c (MQ below (qQ al base D ca cv (qmret M) r) args s mc ms (qA base)) base D ca cv (qmc M) (qmL M) r.2.2.2.2.2.2.1 r.2.2.2.2.2.2.2 mc ms pc L S μ
theorem qEv.le {al : Bool} {base : Nat} {D : va_G} {ca : Nat → ClassId} {cv : Nat → Value} {d M : Nat} {r : qR} {pc : Nat} {L L' S : List Value} {μ : qM} (h : qEv al base D ca cv d M r pc L S μ) (hn : L.length = L'.length) (hq : qle L L') : qEv al base D ca cv d M r pc L' S μ := by
  refine ⟨h.1, ?_⟩
  intro p l e R s m args below meth c mc ms C hrt hlk
  obtain ⟨h1, h2⟩ := h.2 p l e R s m args below meth c mc ms C hrt hlk
  exact ⟨h1, fun H locs cells slots ls hP hS hz hl q1 q2 => h2 H locs cells slots ls hP hS hz (hl.le hn hq) q1 q2⟩
/-- A BLOCK: where the pure machine comes to an answer, the machine does -/
theorem qblk_ev {al : Bool} {base : Nat} {D : va_G} {ca : Nat → ClassId} {cv : Nat → Value} {d d0 M : Nat} {cf : qF} {st : Nat → Bool} {K : qK} (hok : qcodeok M) (hd0 : d0 + 1 ≤ d) (hcf : ∀ M' as μ r1, cf M' as μ = some r1 → qGood al base D ca cv d0 M' as μ r1)
    (hK : ∀ pc L S μ r, K pc L S μ = some r → qEv al base D ca cv d M r pc L S μ) : ∀ (n : Nat) {pc : Nat} {L S : List Value} {μ : qM} {r : qR}, qblk al cf (qmc M) st K n pc L S μ = some r → qEv al base D ca cv d M r pc L S μ := by
  intro n
  induction n with
  | zero => intro pc L S μ r h; cases h
  | succ n ih =>
    intro pc L S μ r h
    simp only [qblk, qstep] at h
    split at h
    · rename_i b ln i hrow
      refine ⟨qop_cnt (fun M as μ r1 h1 => (hcf M as μ r1 h1).1) (fun pc' L' S' μ' h' => ?_) h, ?_⟩
      · split at h'
        · exact (hK _ _ _ _ _ h').1
        · exact (ih h').1
      intro p l e R s m args below meth c mc ms C hrt hlk
      have hrk := qcodes_at (i := pc) hok hrow
      rw [Nat.zero_add] at hrk
      refine qs_op C hrow hrk hd0 hcf (fun pc' L' S' μ' h' => ?_) (fun di hdi hdd hrel => qret_sound C hrt hlk hdi hdd hrel h) h
      split at h'
      · exact (hK _ _ _ _ _ h').2 p l e R s m args below meth c mc ms C hrt hlk
      · exact (ih h').2 p l e R s m args below meth c mc ms C hrt hlk
    · cases h
theorem qblk_ev2 {al : Bool} {base : Nat} {D : va_G} {ca : Nat → ClassId} {cv : Nat → Value} {d d0 M : Nat} {cd : qC} {cf : qF} {st : Nat → Bool} {K : qK} (hcd : qmc M = cd) (hok : qcodeok M) (hd0 : d0 + 1 ≤ d) (hcf : ∀ M' as μ r1, cf M' as μ = some r1 → qGood al base D ca cv d0 M' as μ r1)
    (hK : ∀ pc L S μ r, K pc L S μ = some r → qEv al base D ca cv d M r pc L S μ) (n : Nat) {pc : Nat} {L S : List Value} {μ : qM} {r : qR} (h : qblk al cf cd st K n pc L S μ = some r) : qEv al base D ca cv d M r pc L S μ := by
  subst hcd
  exact qblk_ev hok hd0 hcf hK n h
def qnodb : List Value → Bool
  | [] => true
  | .double _ :: _ => false
  | .float _ :: _ => false
  | .null :: _ => false
  | _ :: l => qnodb l
theorem qent_at {base : Nat} {cv : Nat → Value} (hcv : ∀ j, (cv j).category = 1) : ∀ (as : List Value) (n k : Nat), qnodb as = true → (lg_sl (as.map (qtr base cv))).length ≤ n → (qent as n).length = n ∧ ∀ i v, qnth (qent as n) i = some v → v ≠ .null → (k + i, qtr base cv v) ∈ lv_args k (as.map (qtr base cv)) := by
  intro as
  induction as with
  | nil =>
    intro n k _ _
    refine ⟨by simp [qent], fun i v h hv => ?_⟩
    rw [qent, qnth_eq, List.getElem?_replicate] at h
    split at h
    · exact absurd (Option.some.inj h).symm hv
    · cases h
  | cons a as ih =>
    intro n k hnd hsl
    have one : ∀ (w : Value), qtr base cv a = w → w.category = 1 → (∀ x, a ≠ .long x) → qnodb as = true → a ≠ .null → (qent (a :: as) n).length = n ∧ ∀ i v, qnth (qent (a :: as) n) i = some v → v ≠ .null → (k + i, qtr base cv v) ∈ lv_args k ((a :: as).map (qtr base cv)) := by
      intro w hw hcat hnl hnd2 hnn
      have he : qent (a :: as) n = a :: qent as (n - 1) := by
        cases a with
        | long x => exact absurd rfl (hnl x)
        | _ => rfl
      have hs2 : (lg_sl (as.map (qtr base cv))).length + 1 ≤ n := by
        have h1 : lg_sl ((a :: as).map (qtr base cv)) = [Slot.val w] ++ lg_sl (as.map (qtr base cv)) := by
          rw [List.map_cons, hw]
          simp [lg_sl, hcat]
        rw [h1] at hsl
        simp at hsl
        omega
      obtain ⟨i1, i2⟩ := ih (n - 1) (k + 1) hnd2 (by omega)
      rw [he]
      refine ⟨by simp [i1]; omega, fun i v h hv => ?_⟩
      rw [List.map_cons, lv_args, hw, if_neg (by rw [hcat]; decide)]
      cases i with
      | zero =>
        simp only [qnth, Option.some.injEq] at h
        subst h
        rw [hw]
        exact List.mem_cons_self
      | succ i =>
        have := i2 i v h hv
        rw [show k + 1 + i = k + (i + 1) by omega] at this
        exact List.mem_cons_of_mem _ this
    cases a with
    | long x =>
      have hs2 : (lg_sl (as.map (qtr base cv))).length + 2 ≤ n := by
        have h1 : lg_sl ((Value.long x :: as).map (qtr base cv)) = [Slot.val (.long x), Slot.second] ++ lg_sl (as.map (qtr base cv)) := by
          rw [List.map_cons, show qtr base cv (.long x) = .long x from rfl]
          simp [lg_sl, Value.category]
        rw [h1] at hsl
        simp at hsl
        omega
      obtain ⟨i1, i2⟩ := ih (n - 2) (k + 2) hnd (by omega)
      refine ⟨by simp [qent, i1]; omega, fun i v h hv => ?_⟩
      rw [List.map_cons, lv_args, show qtr base cv (.long x) = .long x from rfl, if_pos (show (Value.long x).category = 2 from rfl)]
      match i, h with
      | 0, h =>
        simp only [qent, qnth, Option.some.injEq] at h
        subst h
        exact List.mem_cons_self
      | 1, h =>
        simp only [qent, qnth, Option.some.injEq] at h
        exact absurd h.symm hv
      | i + 2, h =>
        have := i2 i v h hv
        rw [show k + 2 + i = k + (i + 2) by omega] at this
        exact List.mem_cons_of_mem _ this
    | double x => cases hnd
    | float x => cases hnd
    | null => cases hnd
    | int x => exact one _ rfl rfl (fun y h => by cases h) hnd (fun h => by cases h)
    | ref x => exact one _ rfl (by cases x <;> rfl) (fun y h => by cases h) hnd (fun h => by cases h)
    | retAddr j => exact one _ rfl (hcv j) (fun y h => by cases h) hnd (fun h => by cases h)
def qslots : List Value → Nat
  | [] => 0
  | .long _ :: l => qslots l + 2
  | _ :: l => qslots l + 1
theorem qslots_le {base : Nat} {cv : Nat → Value} (hcv : ∀ j, (cv j).category = 1) : ∀ (as : List Value), qnodb as = true → (lg_sl (as.map (qtr base cv))).length ≤ qslots as := by
  intro as
  induction as with
  | nil => intro _; exact Nat.le_refl _
  | cons a as ih =>
    intro h
    have hc : ∀ w : Value, (lg_sl (w :: as.map (qtr base cv))).length ≤ w.category + (lg_sl (as.map (qtr base cv))).length := by
      intro w
      simp only [lg_sl, List.flatMap_cons, List.length_append]
      rcases lv_cat w with h1 | h1 <;> simp [h1]
    rw [List.map_cons]
    cases a with
    | long x => have := hc (.long x); have := ih h; simp only [qslots, Value.category, qtr] at *; omega
    | double x => cases h
    | float x => cases h
    | null => cases h
    | int x => have := hc (.int x); have := ih h; simp only [qslots, Value.category, qtr] at *; omega
    | ref x =>
      have h1 := hc (qtr base cv (.ref x))
      have h2 : (qtr base cv (.ref x)).category = 1 := by cases x <;> rfl
      have := ih h
      simp only [qslots]
      omega
    | retAddr j =>
      have h1 := hc (qtr base cv (.retAddr j))
      have h2 : (qtr base cv (.retAddr j)).category = 1 := hcv j
      have := ih h
      simp only [qslots]
      omega
/-- A METHOD: from its entry on -/
theorem qgood_of {al : Bool} {base : Nat} {D : va_G} {ca : Nat → ClassId} {cv : Nat → Value} {d M : Nat} {as : List Value} {μ : qM} {r : qR} (hM : M < 279) (hd : 1 ≤ d) (hcvj : ∀ j, (cv j).category = 1) (hrv : qrecv M as μ) (hag : qargn M as) (hnd : qnodb as = true) (hsl : qslots as ≤ qmL M) (h0 : qbpc (qmc M) 0 = 0)
    (h : qEv al base D ca cv d M r 0 (qent as (qmL M)) [] μ) : qGood al base D ca cv d M as μ r := by
  have hmok := qm_ok hM
  refine ⟨h.1, hrv, hag, d, Nat.le_refl _, fun l => ?_⟩
  refine Met.ofW (cc := qmb M) (maxL := qmL M) (ret := qmret M) hmok.2.2.1 rfl ?_
  intro p e s m args below meth c s₁ B hml hv
  obtain ⟨rfl, hrep⟩ := hv
  obtain ⟨hP, hK, hSt, hbs, hz⟩ := hrep
  have hts : ∀ w ∈ qmw M, w.before _ s = true := atoms_spec (ws := qmw M) B.pre
  have hown : s.vm.findClass (qown (qmo M)) = some m.cls := by
    rw [← hmok.2.2.2.2]; exact findClass_of_methodNamed B.named
  have hini : qmi M = true → meth.name = "<init>" := by
    intro hi
    rw [(name_of_methodNamed B.named B.method).1]
    exact of_decide_eq_true hi
  have C : qCtx p (headSpec (qmw M) (qrm d (r.2.2.2.2.2.2.1 - μ.2.2.2.2.1) (r.2.2.2.2.2.2.2 - μ.2.2.2.2.2))).room s m (as.map (qtr base cv)).toArray meth c base D ca cv (qmo M) (qmi M) (qmb M) (qmL M) (r.2.2.2.2.2.2.1 - μ.2.2.2.2.1) (r.2.2.2.2.2.2.2 - μ.2.2.2.2.2) d :=
    ⟨B.exec, B.bytes, hml, hown, fun w hw => hts w (List.mem_cons_of_mem _ hw), hK, hSt, hbs, hcvj, hini, hd, Nat.le_refl _, Nat.le_refl _, Nat.le_refl _, Nat.le_refl _⟩
  have hgo := h.2 p l e _ s m _ below meth c _ _ C B.returns B.notSynchronized
  have hsl2 : (lg_sl (as.map (qtr base cv))).length ≤ qmL M := Nat.le_trans (qslots_le hcvj as hnd) hsl
  have hl := lv_entry (as.map (qtr base cv)) (n := qmL M) hsl2
  rw [lg_entry_eq]
  obtain ⟨i1, i2⟩ := qent_at (base := base) hcvj as (qmL M) 0 hnd hsl2
  have hls : qLs base cv ((lg_sl (as.map (qtr base cv)) ++ List.replicate (qmL M - (lg_sl (as.map (qtr base cv))).length) Slot.unset).toArray) (qmL M) (qent as (qmL M)) := by
    refine ⟨hl.1, i1, hl.2.1, fun i v h1 h2 => ?_⟩
    have := i2 i v h1 h2
    rw [Nat.zero_add] at this
    exact hl.2.2 _ this
  have fin := hgo.2 s.heap [] 0 0 _ hP va_S.rf hz hls (by omega) (by omega)
  rw [h0] at fin
  exact fin

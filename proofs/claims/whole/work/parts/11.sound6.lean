/-! SOUNDNESS, SIXTH PART: every instruction; blocks; methods -/
section QSIX
variable {p : Program} {l : Launch} {e : Env} {R : Room} {s : State} {m : MethodId} {args : Array Value} {below : List Frame} {meth : Method} {c : Code} {Q : State → Prop}
variable {al : Bool} {base : Nat} {D : va_G} {ca : Nat → ClassId} {cv : Nat → Value} {o : Nat} {cc : ByteArray} {cd : qC} {nL rc rs mc ms : Nat}
variable {d : Nat} {ini : Bool} {k : qK} {cf : qF} {r : qR} {pc : Nat} {L S : List Value} {μ : qM}
theorem qis_eq {j tag v : Nat} (h : qis o j tag v = true) : qcpl o j = (tag, (v : Int)) := of_decide_eq_true h
theorem qentry_cases {j : Nat} {i : Instr} (h : qentry o j i = true) : (∃ z, i = .iconst z ∧ qcpl o j = (2, z)) ∨ ∃ z, i = .jsr z ∧ qcpl o j = (4, z) := by
  unfold qentry at h
  split at h
  · rename_i hh; exact Or.inl ⟨_, of_decide_eq_true h, by rw [← hh]⟩
  · rename_i hh; exact Or.inr ⟨_, of_decide_eq_true h, by rw [← hh]⟩
  · cases h
set_option maxHeartbeats 4000000 in
theorem qs_op (C : qCtx p R s m args meth c base D ca cv o ini cc nL mc ms d) {ret : Option FieldType} {i : Instr} {b ln : Nat} (hrow : qnth cd pc = some (b, ln, i)) (hok : qrowok o ret ini nL cc cd pc (b, ln, i) = true)
    {d0 : Nat} (hd0 : d0 + 1 ≤ d) (hcf : ∀ M as μ r1, cf M as μ = some r1 → qGood al base D ca cv d0 M as μ r1)
    (hk : ∀ pc L S μ, k pc L S μ = some r → qGo al p l e R s m args below meth c Q base D ca cv cd nL rc rs mc ms pc L S μ)
    (hret : ∀ di, decode cc (qbpc cd pc) = .ok (di, 1) → (di = .ireturn ∨ di = .lreturn ∨ di = .return_) → qrel o ret ini nL cd (qbpc cd pc) di i = true → qGo al p l e R s m args below meth c Q base D ca cv cd nL rc rs mc ms pc L S μ)
    (h : qop al cf i pc L S μ k = some r) : qGo al p l e R s m args below meth c Q base D ca cv cd nL rc rs mc ms pc L S μ := by
  have hb0 : b = qbpc cd pc := by unfold qbpc; rw [hrow]
  subst hb0
  unfold qrowok at hok
  rw [Bool.or_eq_true] at hok
  rcases hok with hnop | hok
  · have := of_decide_eq_true hnop
    simp only at this
    subst this
    cases h
  simp only at hok
  cases hdec : decode cc (qbpc cd pc) with
  | error z => rw [hdec] at hok; cases hok
  | ok z =>
    obtain ⟨di, len⟩ := z
    rw [hdec] at hok
    simp only [Bool.and_eq_true] at hok
    obtain ⟨⟨hrel, hlen⟩, hterm⟩ := hok
    have hgen : qterm di = false → len = qlen di ∧ qbpc cd (pc + 1) = qbpc cd pc + len := by
      intro ht
      rw [ht, Bool.false_or, Bool.and_eq_true] at hlen
      refine ⟨of_decide_eq_true hlen.1, ?_⟩
      have h2 := hlen.2
      split at h2
      · rename_i nx hnx
        unfold qbpc at h2 ⊢
        rw [hnx]
        exact of_decide_eq_true h2
      · cases h2
    clear hlen
    cases di with
    | iadd =>
      obtain ⟨rfl, hnx⟩ := hgen rfl
      simp only [qrel, decide_eq_true_eq] at hrel
      subst hrel
      exact qs_iadd C hdec hnx hk h
    | isub =>
      obtain ⟨rfl, hnx⟩ := hgen rfl
      simp only [qrel, decide_eq_true_eq] at hrel
      subst hrel
      exact qs_isub C hdec hnx hk h
    | imul =>
      obtain ⟨rfl, hnx⟩ := hgen rfl
      simp only [qrel, decide_eq_true_eq] at hrel
      subst hrel
      exact qs_imul C hdec hnx hk h
    | iand =>
      obtain ⟨rfl, hnx⟩ := hgen rfl
      simp only [qrel, decide_eq_true_eq] at hrel
      subst hrel
      exact qs_iand C hdec hnx hk h
    | ior =>
      obtain ⟨rfl, hnx⟩ := hgen rfl
      simp only [qrel, decide_eq_true_eq] at hrel
      subst hrel
      exact qs_ior C hdec hnx hk h
    | ixor =>
      obtain ⟨rfl, hnx⟩ := hgen rfl
      simp only [qrel, decide_eq_true_eq] at hrel
      subst hrel
      exact qs_ixor C hdec hnx hk h
    | ishl =>
      obtain ⟨rfl, hnx⟩ := hgen rfl
      simp only [qrel, decide_eq_true_eq] at hrel
      subst hrel
      exact qs_ishl C hdec hnx hk h
    | ishr =>
      obtain ⟨rfl, hnx⟩ := hgen rfl
      simp only [qrel, decide_eq_true_eq] at hrel
      subst hrel
      exact qs_ishr C hdec hnx hk h
    | iushr =>
      obtain ⟨rfl, hnx⟩ := hgen rfl
      simp only [qrel, decide_eq_true_eq] at hrel
      subst hrel
      exact qs_iushr C hdec hnx hk h
    | idiv =>
      obtain ⟨rfl, hnx⟩ := hgen rfl
      simp only [qrel, decide_eq_true_eq] at hrel
      subst hrel
      exact qs_idiv C hdec hnx hk h
    | irem =>
      obtain ⟨rfl, hnx⟩ := hgen rfl
      simp only [qrel, decide_eq_true_eq] at hrel
      subst hrel
      exact qs_irem C hdec hnx hk h
    | ineg =>
      obtain ⟨rfl, hnx⟩ := hgen rfl
      simp only [qrel, decide_eq_true_eq] at hrel
      subst hrel
      exact qs_ineg C hdec hnx hk h
    | land =>
      obtain ⟨rfl, hnx⟩ := hgen rfl
      simp only [qrel, decide_eq_true_eq] at hrel
      subst hrel
      exact qs_land C hdec hnx hk h
    | lor =>
      obtain ⟨rfl, hnx⟩ := hgen rfl
      simp only [qrel, decide_eq_true_eq] at hrel
      subst hrel
      exact qs_lor C hdec hnx hk h
    | lshl =>
      obtain ⟨rfl, hnx⟩ := hgen rfl
      simp only [qrel, decide_eq_true_eq] at hrel
      subst hrel
      exact qs_lshl C hdec hnx hk h
    | lshr =>
      obtain ⟨rfl, hnx⟩ := hgen rfl
      simp only [qrel, decide_eq_true_eq] at hrel
      subst hrel
      exact qs_lshr C hdec hnx hk h
    | lcmp =>
      obtain ⟨rfl, hnx⟩ := hgen rfl
      simp only [qrel, decide_eq_true_eq] at hrel
      subst hrel
      exact qs_lcmp C hdec hnx hk h
    | i2l =>
      obtain ⟨rfl, hnx⟩ := hgen rfl
      simp only [qrel, decide_eq_true_eq] at hrel
      subst hrel
      exact qs_i2l C hdec hnx hk h
    | l2i =>
      obtain ⟨rfl, hnx⟩ := hgen rfl
      simp only [qrel, decide_eq_true_eq] at hrel
      subst hrel
      exact qs_l2i C hdec hnx hk h
    | i2c =>
      obtain ⟨rfl, hnx⟩ := hgen rfl
      simp only [qrel, decide_eq_true_eq] at hrel
      subst hrel
      exact qs_i2c C hdec hnx hk h
    | dup =>
      obtain ⟨rfl, hnx⟩ := hgen rfl
      simp only [qrel, decide_eq_true_eq] at hrel
      subst hrel
      exact qs_dup C hdec hnx hk h
    | dup2 =>
      obtain ⟨rfl, hnx⟩ := hgen rfl
      simp only [qrel, decide_eq_true_eq] at hrel
      subst hrel
      exact qs_dup2 C hdec hnx hk h
    | pop =>
      obtain ⟨rfl, hnx⟩ := hgen rfl
      simp only [qrel, decide_eq_true_eq] at hrel
      subst hrel
      exact qs_pop C hdec hnx hk h
    | iaload =>
      obtain ⟨rfl, hnx⟩ := hgen rfl
      simp only [qrel, decide_eq_true_eq] at hrel
      subst hrel
      exact qs_iaload C hdec hnx hk h
    | caload =>
      obtain ⟨rfl, hnx⟩ := hgen rfl
      simp only [qrel, decide_eq_true_eq] at hrel
      subst hrel
      exact qs_caload C hdec hnx hk h
    | baload =>
      obtain ⟨rfl, hnx⟩ := hgen rfl
      simp only [qrel, decide_eq_true_eq] at hrel
      subst hrel
      exact qs_baload C hdec hnx hk h
    | laload =>
      obtain ⟨rfl, hnx⟩ := hgen rfl
      simp only [qrel, decide_eq_true_eq] at hrel
      subst hrel
      exact qs_laload C hdec hnx hk h
    | aaload =>
      obtain ⟨rfl, hnx⟩ := hgen rfl
      simp only [qrel, decide_eq_true_eq] at hrel
      subst hrel
      exact qs_aaload C hdec hnx hk h
    | iastore =>
      obtain ⟨rfl, hnx⟩ := hgen rfl
      simp only [qrel, decide_eq_true_eq] at hrel
      subst hrel
      exact qs_iastore C hdec hnx hk h
    | castore =>
      obtain ⟨rfl, hnx⟩ := hgen rfl
      simp only [qrel, decide_eq_true_eq] at hrel
      subst hrel
      exact qs_castore C hdec hnx hk h
    | bastore =>
      obtain ⟨rfl, hnx⟩ := hgen rfl
      simp only [qrel, decide_eq_true_eq] at hrel
      subst hrel
      exact qs_bastore C hdec hnx hk h
    | lastore =>
      obtain ⟨rfl, hnx⟩ := hgen rfl
      simp only [qrel, decide_eq_true_eq] at hrel
      subst hrel
      exact qs_lastore C hdec hnx hk h
    | aastore =>
      obtain ⟨rfl, hnx⟩ := hgen rfl
      simp only [qrel, decide_eq_true_eq] at hrel
      subst hrel
      exact qs_aastore C hdec hnx hk h
    | arraylength =>
      obtain ⟨rfl, hnx⟩ := hgen rfl
      simp only [qrel, decide_eq_true_eq] at hrel
      subst hrel
      exact qs_arraylength C hdec hnx hk h
    | iconst n =>
      obtain ⟨rfl, hnx⟩ := hgen rfl
      simp only [qrel, decide_eq_true_eq] at hrel
      subst hrel
      exact qs_iconst C hdec hnx hk h
    | iload j =>
      obtain ⟨rfl, hnx⟩ := hgen rfl
      simp only [qrel, decide_eq_true_eq] at hrel
      subst hrel
      exact qs_iload C hdec hnx hk h
    | iload_n j =>
      obtain ⟨rfl, hnx⟩ := hgen rfl
      simp only [qrel, decide_eq_true_eq] at hrel
      subst hrel
      exact qs_iload_n C hdec hnx hk h
    | lload j =>
      obtain ⟨rfl, hnx⟩ := hgen rfl
      simp only [qrel, decide_eq_true_eq] at hrel
      subst hrel
      exact qs_lload C hdec hnx hk h
    | lload_n j =>
      obtain ⟨rfl, hnx⟩ := hgen rfl
      simp only [qrel, decide_eq_true_eq] at hrel
      subst hrel
      exact qs_lload_n C hdec hnx hk h
    | aload j =>
      obtain ⟨rfl, hnx⟩ := hgen rfl
      simp only [qrel, decide_eq_true_eq] at hrel
      subst hrel
      exact qs_aload C hdec hnx hk h
    | aload_n j =>
      obtain ⟨rfl, hnx⟩ := hgen rfl
      simp only [qrel, decide_eq_true_eq] at hrel
      subst hrel
      exact qs_aload_n C hdec hnx hk h
    | istore j =>
      obtain ⟨rfl, hnx⟩ := hgen rfl
      simp only [qrel, Bool.and_eq_true, decide_eq_true_eq] at hrel
      obtain ⟨rfl, hj⟩ := hrel
      exact qs_istore C hj hdec hnx hk h
    | istore_n j =>
      obtain ⟨rfl, hnx⟩ := hgen rfl
      simp only [qrel, Bool.and_eq_true, decide_eq_true_eq] at hrel
      obtain ⟨rfl, hj⟩ := hrel
      exact qs_istore_n C hj hdec hnx hk h
    | lstore j =>
      obtain ⟨rfl, hnx⟩ := hgen rfl
      simp only [qrel, Bool.and_eq_true, decide_eq_true_eq] at hrel
      obtain ⟨rfl, hj⟩ := hrel
      exact qs_lstore C hj hdec hnx hk h
    | lstore_n j =>
      obtain ⟨rfl, hnx⟩ := hgen rfl
      simp only [qrel, Bool.and_eq_true, decide_eq_true_eq] at hrel
      obtain ⟨rfl, hj⟩ := hrel
      exact qs_lstore_n C hj hdec hnx hk h
    | astore j =>
      obtain ⟨rfl, hnx⟩ := hgen rfl
      simp only [qrel, Bool.and_eq_true, decide_eq_true_eq] at hrel
      obtain ⟨rfl, hj⟩ := hrel
      exact qs_astore C hj hdec hnx hk h
    | astore_n j =>
      obtain ⟨rfl, hnx⟩ := hgen rfl
      simp only [qrel, Bool.and_eq_true, decide_eq_true_eq] at hrel
      obtain ⟨rfl, hj⟩ := hrel
      exact qs_astore_n C hj hdec hnx hk h
    | iinc j n =>
      obtain ⟨rfl, hnx⟩ := hgen rfl
      simp only [qrel, Bool.and_eq_true, decide_eq_true_eq] at hrel
      obtain ⟨rfl, hj⟩ := hrel
      exact qs_iinc C hj hdec hnx hk h
    | bipush n =>
      obtain ⟨rfl, hnx⟩ := hgen rfl
      simp only [qrel] at hrel
      split at hrel
      · exact qs_bipush C (of_decide_eq_true hrel) hdec hnx hk h
      · cases hrel
    | sipush n =>
      obtain ⟨rfl, hnx⟩ := hgen rfl
      simp only [qrel] at hrel
      split at hrel
      · exact qs_sipush C (of_decide_eq_true hrel) hdec hnx hk h
      · cases hrel
    | lconst n =>
      obtain ⟨rfl, hnx⟩ := hgen rfl
      simp only [qrel] at hrel
      split at hrel
      · exact qs_lconst C (of_decide_eq_true hrel) hdec hnx hk h
      · cases hrel
    | ldc j =>
      obtain ⟨rfl, hnx⟩ := hgen rfl
      rcases qentry_cases hrel with ⟨z, rfl, hq⟩ | ⟨z, rfl, hq⟩
      · exact qs_ldci C hq hdec hnx hk h
      · exact qs_ldcs C hq hdec hnx hk h
    | ldc_w j =>
      obtain ⟨rfl, hnx⟩ := hgen rfl
      rcases qentry_cases hrel with ⟨z, rfl, hq⟩ | ⟨z, rfl, hq⟩
      · exact qs_ldc_wi C hq hdec hnx hk h
      · exact qs_ldc_ws C hq hdec hnx hk h
    | ldc2_w j =>
      obtain ⟨rfl, hnx⟩ := hgen rfl
      simp only [qrel, decide_eq_true_eq] at hrel
      obtain ⟨h1, rfl⟩ := hrel
      exact qs_ldc2 C (by rw [← h1]) hdec hnx hk h
    | ifCond cn off =>
      obtain ⟨rfl, hnx⟩ := hgen rfl
      simp only [qrel] at hrel
      split at hrel
      · simp only [Bool.and_eq_true, decide_eq_true_eq] at hrel
        obtain ⟨rfl, h2⟩ := hrel
        exact qs_ifCond C (of_decide_eq_true h2) hdec hnx hk h
      · cases hrel
    | if_icmp cn off =>
      obtain ⟨rfl, hnx⟩ := hgen rfl
      simp only [qrel] at hrel
      split at hrel
      · simp only [Bool.and_eq_true, decide_eq_true_eq] at hrel
        obtain ⟨rfl, h2⟩ := hrel
        exact qs_if_icmp C (of_decide_eq_true h2) hdec hnx hk h
      · cases hrel
    | goto off =>
      simp only [decide_eq_true_eq] at hterm
      subst hterm
      simp only [qrel] at hrel
      split at hrel
      · exact qs_goto C (of_decide_eq_true hrel) hdec hk h
      · cases hrel
    | tableswitch df lo hi offs =>
      simp only [qrel] at hrel
      split at hrel
      · simp only [Bool.and_eq_true, decide_eq_true_eq] at hrel
        obtain ⟨⟨⟨⟨h1, h2⟩, h3⟩, h4⟩, h5⟩ := hrel
        exact qs_tableswitch C h1 h2 h3 h4 h5 hdec hk h
      · cases hrel
    | lookupswitch df ps =>
      simp only [qrel] at hrel
      split at hrel
      · simp only [Bool.and_eq_true] at hrel
        obtain ⟨⟨⟨h1, h2⟩, h3⟩, h4⟩ := hrel
        exact qs_lookupswitch C h1 h2 h3 h4 hdec hk h
      · cases hrel
    | getfield j =>
      obtain ⟨rfl, hnx⟩ := hgen rfl
      simp only [qrel] at hrel
      split at hrel
      · simp only [Bool.or_eq_true, Bool.and_eq_true, decide_eq_true_eq] at hrel
        rcases hrel with (h1 | ⟨rfl, h1⟩) | ⟨rfl, h1⟩
        · exact qs_getfield C (qis_eq h1) hdec hnx hk h
        · exact qs_gets_value C (qis_eq h1) hdec hnx hk h
        · exact qs_gets_coder C (qis_eq h1) hdec hnx hk h
      · cases hrel
    | putfield j =>
      obtain ⟨rfl, hnx⟩ := hgen rfl
      simp only [qrel] at hrel
      split at hrel
      · rw [Bool.and_eq_true] at hrel
        exact qs_putfield C (qis_eq hrel.1) hrel.2 hdec hnx hk h
      · cases hrel
    | getstatic j =>
      obtain ⟨rfl, hnx⟩ := hgen rfl
      simp only [qrel] at hrel
      split at hrel
      · simp only [Bool.and_eq_true, decide_eq_true_eq] at hrel
        obtain ⟨rfl, h2⟩ := hrel
        exact qs_getstatic C (tag := (qcpl o j).1) rfl h2 hdec hnx hk h
      · simp only [Bool.and_eq_true, decide_eq_true_eq] at hrel
        obtain ⟨rfl, h2⟩ := hrel
        exact qs_getstaticC C (qis_eq h2) hdec hnx hk h
      · cases hrel
    | new j =>
      obtain ⟨rfl, hnx⟩ := hgen rfl
      simp only [qrel] at hrel
      split at hrel
      · exact qs_new C (qis_eq hrel) hdec hnx hk h
      · cases hrel
    | newarray t =>
      obtain ⟨rfl, hnx⟩ := hgen rfl
      simp only [qrel] at hrel
      split at hrel
      · refine qs_newarray C ?_ hdec hnx hk h
        split at hrel
        · exact Or.inl ⟨rfl, by simpa using hrel⟩
        · exact Or.inr (Or.inl ⟨rfl, by simpa using hrel⟩)
        · exact Or.inr (Or.inr (Or.inl ⟨rfl, by simpa using hrel⟩))
        · exact Or.inr (Or.inr (Or.inr ⟨rfl, by simpa using hrel⟩))
        · cases hrel
      · cases hrel
    | anewarray j =>
      obtain ⟨rfl, hnx⟩ := hgen rfl
      simp only [qrel, Bool.and_eq_true, decide_eq_true_eq] at hrel
      obtain ⟨rfl, h1⟩ := hrel
      exact qs_anewarray C (qis_eq h1) hdec hnx hk h
    | invokevirtual j =>
      obtain ⟨rfl, hnx⟩ := hgen rfl
      simp only [qrel] at hrel
      split at hrel
      · rw [Bool.or_eq_true] at hrel
        rcases hrel with h1 | h1
        · exact qs_call C (Or.inl ⟨Or.inl rfl, rfl⟩) (qis_eq h1) hdec hnx hd0 hcf hk h
        · exact qs_call C (Or.inl ⟨Or.inr rfl, rfl⟩) (qis_eq h1) hdec hnx hd0 hcf hk h
      · cases hrel
    | invokestatic j =>
      obtain ⟨rfl, hnx⟩ := hgen rfl
      simp only [qrel] at hrel
      split at hrel
      · rw [Bool.or_eq_true] at hrel
        rcases hrel with h1 | h1
        · exact qs_call C (Or.inr (Or.inl ⟨Or.inl rfl, rfl⟩)) (qis_eq h1) hdec hnx hd0 hcf hk h
        · exact qs_call C (Or.inr (Or.inl ⟨Or.inr rfl, rfl⟩)) (qis_eq h1) hdec hnx hd0 hcf hk h
      · exact qs_copy C (qis_eq hrel) hdec hnx hk h
      · exact qs_min C (qis_eq hrel) hdec hnx hk h
      · exact qs_max C (qis_eq hrel) hdec hnx hk h
      · cases hrel
    | invokespecial j =>
      obtain ⟨rfl, hnx⟩ := hgen rfl
      simp only [qrel] at hrel
      split at hrel
      · rw [Bool.or_eq_true] at hrel
        rcases hrel with h1 | h1
        · exact qs_call C (Or.inr (Or.inr ⟨Or.inl rfl, rfl⟩)) (qis_eq h1) hdec hnx hd0 hcf hk h
        · exact qs_call C (Or.inr (Or.inr ⟨Or.inr rfl, rfl⟩)) (qis_eq h1) hdec hnx hd0 hcf hk h
      · exact qs_objinit C (qis_eq hrel) hdec hnx hk h
      · cases hrel
    | ireturn =>
      simp only [decide_eq_true_eq] at hterm
      subst hterm
      exact hret _ hdec (Or.inl rfl) hrel
    | lreturn =>
      simp only [decide_eq_true_eq] at hterm
      subst hterm
      exact hret _ hdec (Or.inr (Or.inl rfl)) hrel
    | return_ =>
      simp only [decide_eq_true_eq] at hterm
      subst hterm
      exact hret _ hdec (Or.inr (Or.inr rfl)) hrel
    | _ => exact absurd hrel (by simp [qrel])
end QSIX
/-- a narrowed int stays -/
theorem qnar_z (x : Int32) : narrow .boolean (.int x) = .int (qnz x) := by
  unfold qnz vp_nar
  cases h : narrow .boolean (.int x) with
  | int y => rfl
  | _ => simp [narrow] at h
theorem qnar_c (x : Int32) : narrow .char (.int x) = .int (qnc x) := by
  unfold qnc vp_nar
  cases h : narrow .char (.int x) with
  | int y => rfl
  | _ => simp [narrow] at h
theorem qnar_b (x : Int32) : narrow .byte (.int x) = .int (qnb x) := by
  unfold qnb vp_nar
  cases h : narrow .byte (.int x) with
  | int y => rfl
  | _ => simp [narrow] at h

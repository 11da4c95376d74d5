/-! PURE SIDE: the acts on numbers, and that the class' desk does them -/
def Gd (N : Nat) (s : St) : Prop := Iv N s ∧ Blk s [] ∧ s 94 1 ≤ N
theorem Gd.mono {N N' : Nat} {s : St} (h : Gd N s) (hN : N ≤ N') : Gd N' s := ⟨h.1.mono hN, h.2.1, by have := h.2.2; omega⟩
def idl (s : St) (o : Nat) : Int32 := if s 85 o = 0 then -n2 2 else -n2 3
def startS (s : St) (o : Nat) : Int32 × St := if 8 ≤ o then (-n2 1, s) else if s 85 o = 0 then (n2 (s 94 1 + 1), su (su (su s 94 1 (s 94 1 + 1)) 85 o 1) 86 o (s 94 1 + 1)) else (-n2 2, s)
def wk99 (s : St) (o n : Nat) : Nat := if s 87 o + n < 99 then s 87 o + n else 99
def labourS (s : St) (o n : Nat) : Int32 × St := if 8 ≤ o ∨ n < 1 ∨ 9 < n then (-n2 1, s) else if s 85 o = 1 then (n2 (wk99 s o n), su s 87 o (wk99 s o n)) else (idl s o, s)
def lockS (s : St) (o p m : Nat) : Int32 × St := if 8 ≤ o ∨ 85 ≤ p ∨ m < 1 ∨ 6 < m then (-n2 1, s) else if s 85 o = 1 then (if covd s o p m = true then (n2 1, s) else (n2 (goOnS (srvS 16) (su (su s 92 o p) 93 o m) o 0).2, (goOnS (srvS 16) (su (su s 92 o p) 93 o m) o 0).1)) else (idl s o, s)
def unlockS (s : St) (o p : Nat) : Int32 × St := if 8 ≤ o ∨ 85 ≤ p then (-n2 1, s) else if s 85 o = 1 then (if s p o = 0 then (-n2 4, s) else if hbel s o p = 0 then (n2 0, srvS 17 (su s p o 0) p) else (-n2 5, s)) else (idl s o, s)
def finishS (s : St) (o : Nat) : Int32 × St := if 8 ≤ o then (-n2 1, s) else if s 85 o = 0 then (-n2 2, s) else (n2 (hol s o 0), leaveS s o)
def collectS (s : St) (o g : Nat) : Int32 × St := if 8 ≤ o ∨ 21 ≤ g then (-n2 1, s) else if s 85 o = 1 then (if canG s o g = true then (n2 (hbel s o g), (gathS (srvS 16) s o g).1) else (-n2 4, s)) else (idl s o, s)
def setbS (s : St) (v : Nat) : Int32 × St := if v < 2 ∨ 5 < v then (-n2 1, s) else if v = s 94 2 then (-n2 2, s) else (n2 (10 + s 94 2), su s 94 2 v)
/-! they keep what always holds -/
theorem gd_num {N : Nat} {s s' : St} {o : Nat} (h : Gd N s) (h1 : ∀ k j, k ≠ 86 → k ≠ 87 → k ≠ 88 → s' k j = s k j) (h2 : ∀ j, j < 8 → s' 87 j ≤ 99 ∧ s' 88 j ≤ 99) : Gd N s' := by
  obtain ⟨⟨i1, i2, i3, i4, i5, i6, i7, i8, i9, i10, i11⟩, hB, hn⟩ := h
  have e : ∀ k j, k ≠ 86 → k ≠ 87 → k ≠ 88 → s' k j = s k j := h1
  have hp : pot s' = pot s := sum8_eq fun j _ => by rw [e 89 j (by omega) (by omega) (by omega)]
  have hc : ∀ j, s 89 j ≤ 85 → chg s' j = chg s j := fun j hj => by
    unfold chg
    rw [e 89 j (by omega) (by omega) (by omega), e (s 89 j) j (by omega) (by omega) (by omega)]
  have h85 : ∀ j, j < 8 → s 89 j ≤ 85 := fun j hj => by
    by_cases z : s 85 j = 2
    · have := (i3 j hj z).1; omega
    · rw [i4 j hj z]; omega
  refine ⟨⟨fun p j hp hj => ?_, fun j hj => ?_, fun j hj hw => ?_, fun j hj hw => ?_, fun i j hi hj hwi hwj ht => ?_, fun q j hq1 hq2 hj hz => ?_, fun p j hp hj hz => ?_, ?_, ?_, ?_, ?_⟩, fun p x hp hpU hx => ?_, ?_⟩
  · rw [e p j (by omega) (by omega) (by omega)]; exact i1 p j hp hj
  · have := i2 j hj
    have := h2 j hj
    rw [e 85 j (by omega) (by omega) (by omega), e 90 j (by omega) (by omega) (by omega), e 91 j (by omega) (by omega) (by omega), e 92 j (by omega) (by omega) (by omega), e 93 j (by omega) (by omega) (by omega), e 94 0 (by omega) (by omega) (by omega)]
    omega
  · rw [e 85 j (by omega) (by omega) (by omega)] at hw
    rw [e 89 j (by omega) (by omega) (by omega), e 90 j (by omega) (by omega) (by omega), e 91 j (by omega) (by omega) (by omega), e 92 j (by omega) (by omega) (by omega), e 93 j (by omega) (by omega) (by omega), e 94 0 (by omega) (by omega) (by omega)]
    exact i3 j hj hw
  · rw [e 85 j (by omega) (by omega) (by omega)] at hw
    rw [e 89 j (by omega) (by omega) (by omega)]
    exact i4 j hj hw
  · rw [e 85 i (by omega) (by omega) (by omega)] at hwi
    rw [e 85 j (by omega) (by omega) (by omega)] at hwj
    rw [e 91 i (by omega) (by omega) (by omega), e 91 j (by omega) (by omega) (by omega)] at ht
    exact i5 i j hi hj hwi hwj ht
  · have := par_lt hq2
    rw [e 89 j (by omega) (by omega) (by omega), e q j (by omega) (by omega) (by omega)] at hz
    rw [e (par q) j (by omega) (by omega) (by omega)]
    exact i6 q j hq1 hq2 hj hz
  · rw [e 85 j (by omega) (by omega) (by omega)] at hz
    rw [e p j (by omega) (by omega) (by omega)]
    exact i7 p j hp hj hz
  · rw [hp, e 94 0 (by omega) (by omega) (by omega)]; exact i8
  · rw [e 94 1 (by omega) (by omega) (by omega)]; exact i9
  · rw [e 94 2 (by omega) (by omega) (by omega)]; exact i10
  · rw [e 94 2 (by omega) (by omega) (by omega)]; exact i11
  · have hx0 : Hd s p x := hx.congr (fun j hj hj2 => by
      rw [e 89 j (by omega) (by omega) (by omega)] at hj2
      exact ⟨hj2, e 91 j (by omega) (by omega) (by omega), hc j (h85 j hj)⟩) (fun j hj hj2 => Or.inl (by
      rw [e 89 j (by omega) (by omega) (by omega)]; exact hj2))
    obtain ⟨j, j1, j2, j3⟩ := fitb_iff.mp (hB p x hp hpU hx0)
    refine fitb_iff.mpr ⟨j, j1, j2, ?_⟩
    rw [e 90 x (by omega) (by omega) (by omega), e p j (by omega) (by omega) (by omega)]
    exact j3
  · rw [e 94 1 (by omega) (by omega) (by omega)]; exact hn
/-- rows of one that runs, or of all, that only numbers of its own stand in -/
theorem gd_own {N : Nat} {s s' : St} {o : Nat} (h : Gd N s) (ho : o < 8) (hr : s 85 o ≠ 2) (h1 : ∀ k j, (k ≤ 93 → j ≠ o) → (k ≠ 94 ∨ j = 0) → s' k j = s k j) (h2 : ∀ p, p < 85 → s' p o = s p o) (h3 : s' 85 o = 1) (h4 : s' 89 o = s 89 o) (h5 : s' 87 o ≤ 99 ∧ s' 88 o ≤ 99 ∧ s' 90 o ≤ 6 ∧ s' 91 o ≤ s 94 0 ∧ s' 92 o ≤ 84 ∧ s' 93 o ≤ 6) (h6 : s' 94 1 ≤ N + 4 ∧ s' 94 1 < 1000000000 ∧ 2 ≤ s' 94 2 ∧ s' 94 2 ≤ 5) : Gd (N + 4) s' := by
  obtain ⟨⟨i1, i2, i3, i4, i5, i6, i7, i8, i9, i10, i11⟩, hB, hn⟩ := h
  have e : ∀ k j, k ≤ 93 → j ≠ o → s' k j = s k j := fun k j hk hj => h1 k j (fun _ => hj) (Or.inl (by omega))
  have e94 : s' 94 0 = s 94 0 := h1 94 0 (fun z => by omega) (Or.inr rfl)
  have at85 : s 89 o = 85 := i4 o ho hr
  have hp : pot s' = pot s := sum8_eq fun j _ => by
    by_cases z : j = o
    · rw [z, h4]
    · rw [e 89 j (by omega) z]
  refine ⟨⟨fun p j hp hj => ?_, fun j hj => ?_, fun j hj hw => ?_, fun j hj hw => ?_, fun i j hi hj hwi hwj ht => ?_, fun q j hq1 hq2 hj hz => ?_, fun p j hp hj hz => ?_, ?_, h6.2.1, h6.2.2.1, h6.2.2.2⟩, ?_, h6.1⟩
  · by_cases z : j = o
    · rw [z, h2 p hp]; exact i1 p o hp ho
    · rw [e p j (by omega) z]; exact i1 p j hp hj
  · rw [e94]
    by_cases z : j = o
    · rw [z, h3]
      exact ⟨by omega, h5⟩
    · rw [e 85 j (by omega) z, e 87 j (by omega) z, e 88 j (by omega) z, e 90 j (by omega) z, e 91 j (by omega) z, e 92 j (by omega) z, e 93 j (by omega) z]
      exact i2 j hj
  · have z : j ≠ o := fun z => by rw [z, h3] at hw; omega
    rw [e 85 j (by omega) z] at hw
    rw [e94, e 89 j (by omega) z, e 90 j (by omega) z, e 91 j (by omega) z, e 92 j (by omega) z, e 93 j (by omega) z]
    exact i3 j hj hw
  · by_cases z : j = o
    · rw [z, h4]; exact at85
    · rw [e 85 j (by omega) z] at hw
      rw [e 89 j (by omega) z]
      exact i4 j hj hw
  · have zi : i ≠ o := fun z => by rw [z, h3] at hwi; omega
    have zj : j ≠ o := fun z => by rw [z, h3] at hwj; omega
    rw [e 85 i (by omega) zi] at hwi
    rw [e 85 j (by omega) zj] at hwj
    rw [e 91 i (by omega) zi, e 91 j (by omega) zj] at ht
    exact i5 i j hi hj hwi hwj ht
  · have hpq := par_lt hq2
    by_cases z : j = o
    · subst z
      rw [h2 q hq2, h4] at hz
      rw [h2 (par q) hpq]
      exact i6 q j hq1 hq2 hj hz
    · rw [e q j (by omega) z, e 89 j (by omega) z] at hz
      rw [e (par q) j (by omega) z]
      exact i6 q j hq1 hq2 hj hz
  · have z : j ≠ o := fun z => by rw [z, h3] at hz; omega
    rw [e 85 j (by omega) z] at hz
    rw [e p j (by omega) z]
    exact i7 p j hp hj hz
  · rw [hp, e94]; omega
  · exact blk_col ⟨i1, i2, i3, i4, i5, i6, i7, i8, i9, i10, i11⟩ ho hr (fun k j hk hj => e k j hk hj) (by rw [h4]; exact at85) (fun p hp _ => by
      rw [h2 p hp]
      have := i1 p o hp ho
      exact ⟨stg_self7 _ (by omega), this⟩) hB
theorem gd_start {N : Nat} {s : St} {o : Nat} (h : Gd N s) (hN : N < 900000000) : Gd (N + 4) (startS s o).2 := by
  unfold startS
  by_cases e1 : 8 ≤ o
  · rw [if_pos e1]; exact h.mono (by omega)
  rw [if_neg e1]
  by_cases e2 : s 85 o = 0
  · rw [if_pos e2]
    have how := h.1.2.1 o (by omega)
    have hn := h.2.2
    have hb := h.1.2.2.2.2.2.2.2.2.2
    refine gd_own h (show o < 8 by omega) (by omega) (fun k j h1 h2 => ?_) (fun p hp => ?_) ?_ ?_ ?_ ?_
    · show su (su (su s 94 1 (s 94 1 + 1)) 85 o 1) 86 o (s 94 1 + 1) k j = s k j
      rw [su_at, if_neg (by omega), su_at, if_neg (by omega), su_at, if_neg (by omega)]
    · show su (su (su s 94 1 (s 94 1 + 1)) 85 o 1) 86 o (s 94 1 + 1) p o = s p o
      rw [su_at, if_neg (by omega), su_at, if_neg (by omega), su_at, if_neg (by omega)]
    · simp [su_at]
    · simp [su_at]
    · simp [su_at]; omega
    · simp [su_at]; omega
  · rw [if_neg e2]; exact h.mono (by omega)
theorem gd_labour {N : Nat} {s : St} {o n : Nat} (h : Gd N s) : Gd N (labourS s o n).2 := by
  unfold labourS
  by_cases e1 : 8 ≤ o ∨ n < 1 ∨ 9 < n
  · rw [if_pos e1]; exact h
  rw [if_neg e1]
  by_cases e2 : s 85 o = 1
  · rw [if_pos e2]
    refine gd_num (o := o) h (fun k j h1 h2 h3 => su_ne h2) (fun j hj => ?_)
    have := h.1.2.1 j hj
    show su s 87 o (wk99 s o n) 87 j ≤ 99 ∧ su s 87 o (wk99 s o n) 88 j ≤ 99
    rw [su_at, su_ne (by omega)]
    refine ⟨?_, by omega⟩
    split
    · unfold wk99; split <;> omega
    · omega
  · rw [if_neg e2]; exact h
theorem gd_lockpre {N : Nat} {s : St} {o p m : Nat} (h : Gd N s) (ho : o < 8) (hr : s 85 o = 1) (hp : p < 85) (hm : m ≤ 6) : Iv N (su (su s 92 o p) 93 o m) ∧ Blk (su (su s 92 o p) 93 o m) [] ∧ (su (su s 92 o p) 93 o m) 94 1 ≤ N := by
  have hg : Gd (N + 4) (su (su s 92 o p) 93 o m) := by
    have how := h.1.2.1 o ho
    have hn := h.2.2
    have hb := h.1.2.2.2.2.2.2.2.2.2
    have hb9 := h.1.2.2.2.2.2.2.2.2.1
    refine gd_own h ho (by omega) (fun k j h1 h2 => ?_) (fun q hq => ?_) ?_ ?_ ?_ ?_
    · rw [su_at, if_neg (by omega), su_at, if_neg (by omega)]
    · rw [su_ne (by omega), su_ne (by omega)]
    · rw [su_ne (by omega), su_ne (by omega)]; exact hr
    · rw [su_ne (by omega), su_ne (by omega)]
    · simp [su_at]; omega
    · simp [su_at]; omega
  obtain ⟨⟨i1, i2, i3, i4, i5, i6, i7, i8, i9, i10, i11⟩, hB, hn⟩ := hg
  refine ⟨⟨i1, i2, i3, i4, i5, i6, i7, ?_, i9, i10, i11⟩, hB, ?_⟩
  · have hp : pot (su (su s 92 o p) 93 o m) = pot s := sum8_eq fun j _ => by rw [su_ne (by omega), su_ne (by omega)]
    rw [hp, su_ne (by omega), su_ne (by omega)]
    exact h.1.2.2.2.2.2.2.2.1
  · rw [su_ne (by omega), su_ne (by omega)]; exact h.2.2
theorem gd_lock {N : Nat} {s : St} {o p m : Nat} (h : Gd N s) : Gd (N + 4) (lockS s o p m).2 := by
  unfold lockS
  by_cases e1 : 8 ≤ o ∨ 85 ≤ p ∨ m < 1 ∨ 6 < m
  · rw [if_pos e1]; exact h.mono (by omega)
  rw [if_neg e1]
  by_cases e2 : s 85 o = 1
  · rw [if_pos e2]
    rcases bcs (covd s o p m) with e3 | e3
    · rw [if_neg (by rw [e3]; simp)]
      obtain ⟨a1, a2, a3⟩ := gd_lockpre (p := p) (m := m) h (show o < 8 by omega) e2 (by omega) (by omega)
      have hW := Wt_le (su (su s 92 o p) 93 o m)
      obtain ⟨b1, b2, b3, b4, b5, b6⟩ := goOn_ok (srv_ok 16) (l := 0) a1 a2 (show o < 8 by omega) (by rw [su_ne (by omega), su_ne (by omega)]; exact e2) (by rw [su_eq]; omega) (by omega) (fun z => by omega) (by omega)
      refine ⟨b1, b2, ?_⟩
      have := b6 1 (by omega)
      show (goOnS (srvS 16) (su (su s 92 o p) 93 o m) o 0).1 94 1 ≤ N + 4
      omega
    · rw [if_pos e3]; exact h.mono (by omega)
  · rw [if_neg e2]; exact h.mono (by omega)
theorem blw_par_iff : ∀ q, q < 85 → 1 ≤ q → blw q (par q) = true := by decide +kernel
theorem gd_unl {N : Nat} {s : St} {o p : Nat} (h : Gd N s) (ho : o < 8) (hr : s 85 o = 1) (hp : p < 85) (hb : hbel s o p = 0) : Iv N (su s p o 0) ∧ Blk (su s p o 0) [p] := by
  have hnb : ∀ q, q < 85 → blw q p = true → s q o = 0 := by
    intro q hq hbq
    rw [hbel_cnt, List.countP_eq_zero] at hb
    have := hb q (bel_iff.mpr ⟨hq, hbq⟩)
    simpa using this
  obtain ⟨⟨i1, i2, i3, i4, i5, i6, i7, i8, i9, i10, i11⟩, hB, hn⟩ := h
  have e : ∀ k j, 85 ≤ k → su s p o 0 k j = s k j := fun k j hk => su_ne (by omega)
  have at85 := i4 o ho (by omega)
  refine ⟨⟨fun q j hq hj => ?_, fun j hj => ?_, fun j hj hw => ?_, fun j hj hw => ?_, fun i j hi hj hwi hwj ht => ?_, fun q j hq1 hq2 hj hz => ?_, fun q j hq hj hz => ?_, ?_, ?_, ?_, ?_⟩, ?_⟩
  · rw [su_at]; split
    · omega
    · exact i1 q j hq hj
  · rw [e 85 j (by omega), e 87 j (by omega), e 88 j (by omega), e 90 j (by omega), e 91 j (by omega), e 92 j (by omega), e 93 j (by omega), e 94 0 (by omega)]
    exact i2 j hj
  · rw [e 85 j (by omega)] at hw
    rw [e 89 j (by omega), e 90 j (by omega), e 91 j (by omega), e 92 j (by omega), e 93 j (by omega), e 94 0 (by omega)]
    exact i3 j hj hw
  · rw [e 85 j (by omega)] at hw
    rw [e 89 j (by omega)]
    exact i4 j hj hw
  · rw [e 85 i (by omega)] at hwi
    rw [e 85 j (by omega)] at hwj
    rw [e 91 i (by omega), e 91 j (by omega)] at ht
    exact i5 i j hi hj hwi hwj ht
  · rw [e 89 j (by omega)] at hz
    have hz2 : s q j ≠ 0 ∨ s 89 j = q := by
      rcases hz with hz | hz
      · rw [su_at] at hz
        split at hz
        · exact absurd rfl hz
        · exact Or.inl hz
      · exact Or.inr hz
    have h3 := i6 q j hq1 hq2 hj hz2
    rw [su_at]
    split
    · rename_i hc
      exfalso
      rw [hc.2] at hz2
      have hbq : blw q p = true := by rw [← hc.1]; exact blw_par_iff q hq2 hq1
      rcases hz2 with hz2 | hz2
      · exact hz2 (hnb q hq2 hbq)
      · omega
    · exact h3
  · rw [e 85 j (by omega)] at hz
    have := i7 q j hq hj hz
    rw [su_at]
    split
    · rfl
    · exact this
  · have : pot (su s p o 0) = pot s := sum8_eq fun j hj => by rw [e 89 j (by omega)]
    rw [this, e 94 0 (by omega)]
    exact i8
  · rw [e 94 1 (by omega)]; exact i9
  · rw [e 94 2 (by omega)]; exact i10
  · rw [e 94 2 (by omega)]; exact i11
  · refine blk_col ⟨i1, i2, i3, i4, i5, i6, i7, i8, i9, i10, i11⟩ ho (by omega) (fun k j hk hj => su_nj hj) (by rw [e 89 o (by omega)]; exact at85) (fun q hq hqU => ?_) (fun q x hq hqU hx => hB q x hq List.not_mem_nil hx)
    rw [List.mem_singleton] at hqU
    rw [su_ne hqU]
    have := i1 q o hq ho
    exact ⟨stg_self7 _ (by omega), this⟩
theorem need_17 {s : St} {p n : Nat} (h : 10 ≤ n) : need s p ≤ n := by
  have := Wt_le s
  unfold need
  split <;> omega
theorem gd_unlock {N : Nat} {s : St} {o p : Nat} (h : Gd N s) : Gd N (unlockS s o p).2 := by
  unfold unlockS
  by_cases e1 : 8 ≤ o ∨ 85 ≤ p
  · rw [if_pos e1]; exact h
  rw [if_neg e1]
  by_cases e2 : s 85 o = 1
  · rw [if_pos e2]
    by_cases e3 : s p o = 0
    · rw [if_pos e3]; exact h
    rw [if_neg e3]
    by_cases e4 : hbel s o p = 0
    · rw [if_pos e4]
      obtain ⟨a1, a2⟩ := gd_unl h (show o < 8 by omega) e2 (show p < 85 by omega) e4
      obtain ⟨b1, b2, b3, b4, b5, b6⟩ := srv_ok 17 _ p [] N (by omega) a1 a2 (need_17 (by omega))
      refine ⟨b1, b2, ?_⟩
      have h1 := b6 1 (by omega)
      have h2 := h.2.2
      rw [su_ne (by omega)] at h1
      show srvS 17 (su s p o 0) p 94 1 ≤ N
      omega
    · rw [if_neg e4]; exact h
  · rw [if_neg e2]; exact h
theorem gd_leave {N : Nat} {s : St} {o : Nat} (h : Gd N s) (ho : o < 8) : Gd N (leaveS s o) := by
  obtain ⟨b1, b2, b3, b4, b5, b6⟩ := leave_ok h.1 h.2.1 ho
  refine ⟨b1, b2, ?_⟩
  have h1 := b6 1 (by omega)
  rw [awy_hi (by omega) (by omega)] at h1
  have := h.2.2
  omega
theorem gd_finish {N : Nat} {s : St} {o : Nat} (h : Gd N s) : Gd N (finishS s o).2 := by
  unfold finishS
  by_cases e1 : 8 ≤ o
  · rw [if_pos e1]; exact h
  rw [if_neg e1]
  by_cases e2 : s 85 o = 0
  · rw [if_pos e2]; exact h
  · rw [if_neg e2]; exact gd_leave h (by omega)
theorem gd_collect {N : Nat} {s : St} {o g : Nat} (h : Gd N s) : Gd N (collectS s o g).2 := by
  unfold collectS
  by_cases e1 : 8 ≤ o ∨ 21 ≤ g
  · rw [if_pos e1]; exact h
  rw [if_neg e1]
  by_cases e2 : s 85 o = 1
  · rw [if_pos e2]
    rcases bcs (canG s o g) with e3 | e3
    · rw [if_neg (by rw [e3]; simp)]; exact h
    · rw [if_pos e3]
      unfold gathS
      rw [if_pos e3]
      obtain ⟨b1, b2, b3, b4, b5, b6⟩ := gath_ok (srv_ok 16) h.1 h.2.1 (show o < 8 by omega) e2 (show g < 85 by omega) e3 (Or.inr (by omega))
      refine ⟨b1, b2, ?_⟩
      have h1 := b6 1 (by omega)
      rw [clr_hi (by omega) (by omega)] at h1
      have := h.2.2
      show (gL s o g).foldl (srvS 16) (clr s o g (gmode s o g)) 94 1 ≤ N
      omega
  · rw [if_neg e2]; exact h
theorem gd_setb {N : Nat} {s : St} {v : Nat} (h : Gd N s) : Gd N (setbS s v).2 := by
  unfold setbS
  by_cases e1 : v < 2 ∨ 5 < v
  · rw [if_pos e1]; exact h
  rw [if_neg e1]
  by_cases e2 : v = s 94 2
  · rw [if_pos e2]; exact h
  rw [if_neg e2]
  show Gd N (su s 94 2 v)
  obtain ⟨⟨i1, i2, i3, i4, i5, i6, i7, i8, i9, i10, i11⟩, hB, hn⟩ := h
  have e : ∀ k j, k ≠ 94 → su s 94 2 v k j = s k j := fun k j hk => su_ne hk
  have e0 : ∀ j, j ≠ 2 → su s 94 2 v 94 j = s 94 j := fun j hj => su_nj hj
  have hp : pot (su s 94 2 v) = pot s := sum8_eq fun j _ => by rw [e 89 j (by omega)]
  refine ⟨⟨fun p j hp hj => ?_, fun j hj => ?_, fun j hj hw => ?_, fun j hj hw => ?_, fun i j hi hj hwi hwj ht => ?_, fun q j hq1 hq2 hj hz => ?_, fun p j hp hj hz => ?_, ?_, ?_, ?_, ?_⟩, fun p x hp hpU hx => ?_, ?_⟩
  · show su s 94 2 v p j ≤ 6
    rw [e p j (by omega)]; exact i1 p j hp hj
  · rw [e 85 j (by omega), e 87 j (by omega), e 88 j (by omega), e 90 j (by omega), e 91 j (by omega), e 92 j (by omega), e 93 j (by omega), e0 0 (by omega)]
    exact i2 j hj
  · rw [e 85 j (by omega)] at hw
    rw [e 89 j (by omega), e 90 j (by omega), e 91 j (by omega), e 92 j (by omega), e 93 j (by omega), e0 0 (by omega)]
    exact i3 j hj hw
  · rw [e 85 j (by omega)] at hw
    rw [e 89 j (by omega)]
    exact i4 j hj hw
  · rw [e 85 i (by omega)] at hwi
    rw [e 85 j (by omega)] at hwj
    rw [e 91 i (by omega), e 91 j (by omega)] at ht
    exact i5 i j hi hj hwi hwj ht
  · have := par_lt hq2
    rw [e 89 j (by omega), e q j (by omega)] at hz
    rw [e (par q) j (by omega)]
    exact i6 q j hq1 hq2 hj hz
  · rw [e 85 j (by omega)] at hz
    show su s 94 2 v p j = 0
    rw [e p j (by omega)]
    exact i7 p j hp hj hz
  · show su s 94 2 v 94 0 + pot (su s 94 2 v) ≤ N
    rw [hp, e0 0 (by omega)]; exact i8
  · rw [e0 1 (by omega)]; exact i9
  · show 2 ≤ su s 94 2 v 94 2
    rw [su_eq]; omega
  · show su s 94 2 v 94 2 ≤ 5
    rw [su_eq]; omega
  · have h85 : ∀ j, j < 8 → s 89 j ≤ 85 := fun j hj => by
      by_cases z : s 85 j = 2
      · have := (i3 j hj z).1; omega
      · rw [i4 j hj z]; omega
    have hx0 : Hd s p x := hx.congr (fun j hj hj2 => by
      rw [e 89 j (by omega)] at hj2
      refine ⟨hj2, e 91 j (by omega), ?_⟩
      have := h85 j hj
      unfold chg
      rw [e 89 j (by omega), e (s 89 j) j (by omega)]) (fun j hj hj2 => Or.inl (by
      rw [e 89 j (by omega)]; exact hj2))
    obtain ⟨j, j1, j2, j3⟩ := fitb_iff.mp (hB p x hp hpU hx0)
    refine fitb_iff.mpr ⟨j, j1, j2, ?_⟩
    rw [e 90 x (by omega), e p j (by omega)]
    exact j3
  · rw [e0 1 (by omega)]; exact hn

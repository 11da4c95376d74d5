/-! FUNCTIONS out of the codes, and that the machine does as they do, 6 (printed by gen/emit6.py) -/
noncomputable def fX8_drains_15 : Nat → Nat → Int32 → Int32 → qM → Option qR
  | 0 => fun _ _ _ _ => none
  | n + 1 => fun x0 x1 x2 μ =>
    if x2 = 0 then
      qbnd (oGetP μ 8 x0 15) fun v1 =>
      qbnd (fX8_so v1 (2 : Int32) μ) fun r2 =>
      qbnd (fX8_enters x0 (r2.1).toInt64 r2.2.2) fun r3 =>
      some (x1, 0, r3.2.2)
    else
      qbnd (fJ6_numberOfTrailingZeros_0f7a4 x2 μ) fun r4 =>
      qbnd (oGetP r4.2.2 8 x0 15) fun v5 =>
      qbnd (fX8_goes x0 v5 r4.1 r4.2.2) fun r6 =>
      qbnd (fX8_enters x0 (r4.1).toInt64 r6.2.2) fun r7 =>
      qbnd (oGetP r7.2.2 8 x0 15) fun v8 =>
      qbnd (fX8_so v8 (1 : Int32) r7.2.2) fun r9 =>
      fX8_drains_15 n x0 (x1 + (1 : Int32)) r9.1 r9.2.2
noncomputable def gX8_drains (a0 : Nat) (μ : qM) : Option qR :=
  qbnd (oPutI μ 8 a0 0 (0 : Int32)) fun μ1 =>
  qbnd (fX8_copies a0 μ1) fun r2 =>
  qbnd (oPutI r2.2.2 8 a0 1 (0 : Int32)) fun μ3 =>
  qbnd (oGetP μ3 8 a0 15) fun v4 =>
  qbnd (fX8_so v4 (1 : Int32) μ3) fun r5 =>
  fX8_drains_15 qfu a0 (0 : Int32) r5.1 r5.2.2
noncomputable def fX8_drains (a0 : Nat) (μ : qM) : Option qR := if (qk μ a0).1 = 8 then gX8_drains a0 μ else none
noncomputable def aX8_drains (l : List Value) (μ : qM) : Option qR := match l with
  | [.ref x0] => fX8_drains x0 μ
  | _ => none
noncomputable def cfX8_drains : qF := fun n l μ => if n = 247 then aX8_copies l μ else if n = 175 then aX8_so l μ else if n = 266 then aJ6_numberOfTrailingZeros_0f7a4 l μ else if n = 210 then aX8_goes l μ else if n = 144 then aX8_enters l μ else none
theorem hcX8_drains {base : Nat} {D : va_G} {ca : Nat → ClassId} {cv : Nat → Value} (hcv : ∀ j, (cv j).category = 1) : ∀ M as μ r, cfX8_drains M as μ = some r → qGood false base D ca cv 1002 M as μ r := by
  intro M as μ r h
  unfold cfX8_drains at h
  split at h
  · rename_i e; subst e; exact (gaX8_copies hcv h).mono (by omega)
  split at h
  · rename_i e; subst e; exact (gaX8_so hcv h).mono (by omega)
  split at h
  · rename_i e; subst e; exact (gaJ6_numberOfTrailingZeros_0f7a4 hcv h).mono (by omega)
  split at h
  · rename_i e; subst e; exact (gaX8_goes hcv h).mono (by omega)
  split at h
  · rename_i e; subst e; exact (gaX8_enters hcv h).mono (by omega)
  cases h
def jX8_drains_15 (f : Nat → Int32 → Int32 → qM → Option qR) (L S : List Value) (μ : qM) : Option qR := match L, S with
  | [.ref x0, .int x1, .int x2, _], [] => f x0 x1 x2 μ
  | _, _ => none
theorem jeX8_drains_15 {base : Nat} {D : va_G} {ca : Nat → ClassId} {cv : Nat → Value} {d : Nat} {f : Nat → Int32 → Int32 → qM → Option qR} (hf : ∀ (x0 : Nat) (x1 : Int32) (x2 : Int32) (μ : qM) (r : qR), f x0 x1 x2 μ = some r → qEv false base D ca cv d 249 r 15 [.ref x0, .int x1, .int x2, .null] [] μ) {L S : List Value} {μ : qM} {r : qR} (h : jX8_drains_15 f L S μ = some r) : qEv false base D ca cv d 249 r 15 L S μ := by
  unfold jX8_drains_15 at h
  split at h
  · exact (hf _ _ _ _ _ h).le rfl ⟨Or.inr rfl, Or.inr rfl, Or.inr rfl, Or.inl rfl, trivial⟩
  · cases h
set_option maxRecDepth 100000 in
theorem lbX8_drains_15 {base : Nat} {D : va_G} {ca : Nat → ClassId} {cv : Nat → Value} (hcv : ∀ j, (cv j).category = 1) : ∀ (n : Nat) (x0 : Nat) (x1 : Int32) (x2 : Int32) (μ : qM) (r : qR), fX8_drains_15 n x0 x1 x2 μ = some r → qEv false base D ca cv 1003 249 r 15 [.ref x0, .int x1, .int x2, .null] [] μ := by
  intro n
  induction n with
  | zero => intro x0 x1 x2 μ r h; cases (show (none : Option qR) = some r from h)
  | succ n ih =>
    intro x0 x1 x2 μ r h
    exact qblk_ev2 (cf := cfX8_drains) (st := (fun n => qin [15] n)) (K := (fun pc L S μ => if pc = 15 then jX8_drains_15 (fX8_drains_15 n) L S μ else none)) (cd := qcX8_drains) (M := 249) (d0 := 1002) rfl qcok_X8_drains (Nat.le_refl _) (hcX8_drains hcv) (by
    intro pc L S μ r h
    split at h
    · rename_i e; subst e; exact jeX8_drains_15 ih h
    cases h) 400 (pc := 15) (L := [.ref x0, .int x1, .int x2, .null]) (S := []) h
theorem npX8_drains : (parseMethodDescriptor (qmy 249).desc).map (fun d => d.parameters.length) = some 0 := by decide +kernel
set_option maxRecDepth 100000 in
theorem gdX8_drains {base : Nat} {D : va_G} {ca : Nat → ClassId} {cv : Nat → Value} (hcv : ∀ j, (cv j).category = 1) {a0 : Nat} {μ : qM} {r : qR} (h : fX8_drains a0 μ = some r) : qGood false base D ca cv 1003 249 [.ref a0] μ r := by
  unfold fX8_drains at h
  split at h
  · rename_i hk0
    exact qgood_of (by decide) (by omega) hcv (Or.inr ⟨by decide +kernel, hk0⟩) npX8_drains rfl (Nat.le_of_ble_eq_true rfl) rfl (qblk_ev2 (cf := cfX8_drains) (st := (fun n => qin [15] n)) (K := (fun pc L S μ => if pc = 15 then jX8_drains_15 (fX8_drains_15 qfu) L S μ else none)) (cd := qcX8_drains) (M := 249) (d0 := 1002) rfl qcok_X8_drains (Nat.le_refl _) (hcX8_drains hcv) (by
    intro pc L S μ r h
    split at h
    · rename_i e; subst e; exact jeX8_drains_15 (lbX8_drains_15 hcv qfu) h
    cases h) 400 (pc := 0) (L := qent [.ref a0] 4) (S := []) h)
  · cases h
theorem gaX8_drains {base : Nat} {D : va_G} {ca : Nat → ClassId} {cv : Nat → Value} (hcv : ∀ j, (cv j).category = 1) {l : List Value} {μ : qM} {r : qR} (h : aX8_drains l μ = some r) : qGood false base D ca cv 1003 249 l μ r := by
  unfold aX8_drains at h
  split at h
  · exact gdX8_drains hcv h
  · cases h
noncomputable def fX8_saves_60 (x3 : Int32) (s0 : Int32) (s1 : Nat) (μ : qM) : Option qR :=
  qbnd (fX8_flag s0 μ) fun r1 =>
  qbnd (fX8_enters s1 (r1.1).toInt64 r1.2.2) fun r2 =>
  some (x3, 0, r2.2.2)
noncomputable def fX8_saves_59 (x3 : Int32) (s0 : Nat) (μ : qM) : Option qR :=
  fX8_saves_60 x3 (0 : Int32) s0 μ
noncomputable def gX8_saves (a0 : Nat) (a1 : Int32) (a2 : Int32) (μ : qM) : Option qR :=
  qbnd (oPutI μ 8 a0 0 (0 : Int32)) fun μ1 =>
  qbnd (fX8_isOwner a1 μ1) fun r2 =>
  if r2.1 = 0 then
    some ((-1 : Int32), 0, r2.2.2)
  else
    qbnd (fX8_in (a2).toInt64 (0 : Int64) (20 : Int64) r2.2.2) fun r3 =>
    if r3.1 = 0 then
      some ((-1 : Int32), 0, r3.2.2)
    else
      qbnd (oGetP r3.2.2 8 a0 14) fun v4 =>
      qbnd (fX8_belowMany v4 a1 a2 r3.2.2) fun r5 =>
      qbnd (oGetP r5.2.2 8 a0 14) fun v6 =>
      qbnd (oLdI 20 r5.2.2 v6 ((680 : Int32) + a1)) fun v7 =>
      if v7 = 0 then
        some ((-2 : Int32), 0, r5.2.2)
      else
        if r5.1 = 0 then
          some ((-2 : Int32), 0, r5.2.2)
        else
          qbnd (oPutI r5.2.2 8 a0 1 (0 : Int32)) fun μ8 =>
          qbnd (oGetP μ8 8 a0 14) fun v9 =>
          qbnd (fX8_gatheredMode v9 a1 a2 μ8) fun r10 =>
          qbnd (fX8_enters a0 (r10.1).toInt64 r10.2.2) fun r11 =>
          qbnd (oGetP r11.2.2 8 a0 14) fun v12 =>
          qbnd (oLdI 20 r11.2.2 v12 ((680 : Int32) + a1)) fun v13 =>
          if v13 = (1 : Int32) then
            qbnd (oGetP r11.2.2 8 a0 14) fun v14 =>
            qbnd (fX8_canGather v14 a1 a2 r11.2.2) fun r15 =>
            if r15.1 = 0 then
              fX8_saves_59 r5.1 a0 r15.2.2
            else
              fX8_saves_60 r5.1 (1 : Int32) a0 r15.2.2
          else
            fX8_saves_59 r5.1 a0 r11.2.2
noncomputable def fX8_saves (a0 : Nat) (a1 : Int32) (a2 : Int32) (μ : qM) : Option qR := if (qk μ a0).1 = 8 then gX8_saves a0 a1 a2 μ else none
noncomputable def aX8_saves (l : List Value) (μ : qM) : Option qR := match l with
  | [.ref x0, .int x1, .int x2] => fX8_saves x0 x1 x2 μ
  | _ => none
noncomputable def cfX8_saves : qF := fun n l μ => if n = 171 then aX8_isOwner l μ else if n = 141 then aX8_in l μ else if n = 200 then aX8_belowMany l μ else if n = 201 then aX8_gatheredMode l μ else if n = 144 then aX8_enters l μ else if n = 202 then aX8_canGather l μ else if n = 143 then aX8_flag l μ else none
theorem hcX8_saves {base : Nat} {D : va_G} {ca : Nat → ClassId} {cv : Nat → Value} (hcv : ∀ j, (cv j).category = 1) : ∀ M as μ r, cfX8_saves M as μ = some r → qGood false base D ca cv 4 M as μ r := by
  intro M as μ r h
  unfold cfX8_saves at h
  split at h
  · rename_i e; subst e; exact (gaX8_isOwner hcv h).mono (by omega)
  split at h
  · rename_i e; subst e; exact (gaX8_in hcv h).mono (by omega)
  split at h
  · rename_i e; subst e; exact (gaX8_belowMany hcv h).mono (by omega)
  split at h
  · rename_i e; subst e; exact (gaX8_gatheredMode hcv h).mono (by omega)
  split at h
  · rename_i e; subst e; exact (gaX8_enters hcv h).mono (by omega)
  split at h
  · rename_i e; subst e; exact (gaX8_canGather hcv h).mono (by omega)
  split at h
  · rename_i e; subst e; exact (gaX8_flag hcv h).mono (by omega)
  cases h
def jX8_saves_59 (f : Int32 → Nat → qM → Option qR) (L S : List Value) (μ : qM) : Option qR := match L, S with
  | [_, _, _, .int x3], [.ref s0] => f x3 s0 μ
  | _, _ => none
theorem jeX8_saves_59 {base : Nat} {D : va_G} {ca : Nat → ClassId} {cv : Nat → Value} {d : Nat} {f : Int32 → Nat → qM → Option qR} (hf : ∀ (x3 : Int32) (s0 : Nat) (μ : qM) (r : qR), f x3 s0 μ = some r → qEv false base D ca cv d 250 r 59 [.null, .null, .null, .int x3] [.ref s0] μ) {L S : List Value} {μ : qM} {r : qR} (h : jX8_saves_59 f L S μ = some r) : qEv false base D ca cv d 250 r 59 L S μ := by
  unfold jX8_saves_59 at h
  split at h
  · exact (hf _ _ _ _ h).le rfl ⟨Or.inl rfl, Or.inl rfl, Or.inl rfl, Or.inr rfl, trivial⟩
  · cases h
def jX8_saves_60 (f : Int32 → Int32 → Nat → qM → Option qR) (L S : List Value) (μ : qM) : Option qR := match L, S with
  | [_, _, _, .int x3], [.int s0, .ref s1] => f x3 s0 s1 μ
  | _, _ => none
theorem jeX8_saves_60 {base : Nat} {D : va_G} {ca : Nat → ClassId} {cv : Nat → Value} {d : Nat} {f : Int32 → Int32 → Nat → qM → Option qR} (hf : ∀ (x3 : Int32) (s0 : Int32) (s1 : Nat) (μ : qM) (r : qR), f x3 s0 s1 μ = some r → qEv false base D ca cv d 250 r 60 [.null, .null, .null, .int x3] [.int s0, .ref s1] μ) {L S : List Value} {μ : qM} {r : qR} (h : jX8_saves_60 f L S μ = some r) : qEv false base D ca cv d 250 r 60 L S μ := by
  unfold jX8_saves_60 at h
  split at h
  · exact (hf _ _ _ _ _ h).le rfl ⟨Or.inl rfl, Or.inl rfl, Or.inl rfl, Or.inr rfl, trivial⟩
  · cases h
set_option maxRecDepth 100000 in
theorem lbX8_saves_60 {base : Nat} {D : va_G} {ca : Nat → ClassId} {cv : Nat → Value} (hcv : ∀ j, (cv j).category = 1) (x3 : Int32) (s0 : Int32) (s1 : Nat) (μ : qM) (r : qR) (h : fX8_saves_60 x3 s0 s1 μ = some r) : qEv false base D ca cv 5 250 r 60 [.null, .null, .null, .int x3] [.int s0, .ref s1] μ := by
    exact qblk_ev2 (cf := cfX8_saves) (st := (fun n => qin [59, 60] n)) (K := (fun pc L S μ => none)) (cd := qcX8_saves) (M := 250) (d0 := 4) rfl qcok_X8_saves (Nat.le_refl _) (hcX8_saves hcv) (by
    intro pc L S μ r h
    cases h) 400 (pc := 60) (L := [.null, .null, .null, .int x3]) (S := [.int s0, .ref s1]) h
set_option maxRecDepth 100000 in
theorem lbX8_saves_59 {base : Nat} {D : va_G} {ca : Nat → ClassId} {cv : Nat → Value} (hcv : ∀ j, (cv j).category = 1) (x3 : Int32) (s0 : Nat) (μ : qM) (r : qR) (h : fX8_saves_59 x3 s0 μ = some r) : qEv false base D ca cv 5 250 r 59 [.null, .null, .null, .int x3] [.ref s0] μ := by
    exact qblk_ev2 (cf := cfX8_saves) (st := (fun n => qin [59, 60] n)) (K := (fun pc L S μ => if pc = 60 then jX8_saves_60 (fX8_saves_60) L S μ else none)) (cd := qcX8_saves) (M := 250) (d0 := 4) rfl qcok_X8_saves (Nat.le_refl _) (hcX8_saves hcv) (by
    intro pc L S μ r h
    split at h
    · rename_i e; subst e; exact jeX8_saves_60 (lbX8_saves_60 hcv) h
    cases h) 400 (pc := 59) (L := [.null, .null, .null, .int x3]) (S := [.ref s0]) h
theorem npX8_saves : (parseMethodDescriptor (qmy 250).desc).map (fun d => d.parameters.length) = some 2 := by decide +kernel
set_option maxRecDepth 100000 in
theorem gdX8_saves {base : Nat} {D : va_G} {ca : Nat → ClassId} {cv : Nat → Value} (hcv : ∀ j, (cv j).category = 1) {a0 : Nat} {a1 : Int32} {a2 : Int32} {μ : qM} {r : qR} (h : fX8_saves a0 a1 a2 μ = some r) : qGood false base D ca cv 5 250 [.ref a0, .int a1, .int a2] μ r := by
  unfold fX8_saves at h
  split at h
  · rename_i hk0
    exact qgood_of (by decide) (by omega) hcv (Or.inr ⟨by decide +kernel, hk0⟩) npX8_saves rfl (Nat.le_of_ble_eq_true rfl) rfl (qblk_ev2 (cf := cfX8_saves) (st := (fun n => qin [59, 60] n)) (K := (fun pc L S μ => if pc = 59 then jX8_saves_59 (fX8_saves_59) L S μ else if pc = 60 then jX8_saves_60 (fX8_saves_60) L S μ else none)) (cd := qcX8_saves) (M := 250) (d0 := 4) rfl qcok_X8_saves (Nat.le_refl _) (hcX8_saves hcv) (by
    intro pc L S μ r h
    split at h
    · rename_i e; subst e; exact jeX8_saves_59 (lbX8_saves_59 hcv) h
    split at h
    · rename_i e; subst e; exact jeX8_saves_60 (lbX8_saves_60 hcv) h
    cases h) 400 (pc := 0) (L := qent [.ref a0, .int a1, .int a2] 4) (S := []) h)
  · cases h
theorem gaX8_saves {base : Nat} {D : va_G} {ca : Nat → ClassId} {cv : Nat → Value} (hcv : ∀ j, (cv j).category = 1) {l : List Value} {μ : qM} {r : qR} (h : aX8_saves l μ = some r) : qGood false base D ca cv 5 250 l μ r := by
  unfold aX8_saves at h
  split at h
  · exact gdX8_saves hcv h
  · cases h
noncomputable def fX8_holds_30 (k18 : Nat → Int32 → Int32 → Int32 → qM → Option qR) (x0 : Nat) (x1 : Int32) (x3 : Int32) (x4 : Int32) (s0 : Int32) (μ : qM) : Option qR :=
  if s0 = 0 then
    qbnd (fX8_flag s0 μ) fun r1 =>
    k18 x0 x1 (x3 + r1.1) (x4 + (1 : Int32)) r1.2.2
  else
    if (12 : Int32) ≤ x3 then
      qbnd (fX8_flag s0 μ) fun r2 =>
      k18 x0 x1 (x3 + r2.1) (x4 + (1 : Int32)) r2.2.2
    else
      qbnd (fX8_enters x0 (x4).toInt64 μ) fun r3 =>
      qbnd (fX8_flag s0 r3.2.2) fun r4 =>
      k18 x0 x1 (x3 + r4.1) (x4 + (1 : Int32)) r4.2.2
noncomputable def fX8_holds_18 : Nat → Nat → Int32 → Int32 → Int32 → qM → Option qR
  | 0 => fun _ _ _ _ _ => none
  | n + 1 => fun x0 x1 x3 x4 μ =>
    if (85 : Int32) ≤ x4 then
      some (x3, 0, μ)
    else
      qbnd (oGetP μ 8 x0 14) fun v1 =>
      qbnd (fX8_held v1 x1 x4 μ) fun r2 =>
      if r2.1 ≤ 0 then
        fX8_holds_30 (fX8_holds_18 n) x0 x1 x3 x4 (0 : Int32) r2.2.2
      else
        fX8_holds_30 (fX8_holds_18 n) x0 x1 x3 x4 (1 : Int32) r2.2.2
noncomputable def gX8_holds (a0 : Nat) (a1 : Int32) (a2 : Int32) (μ : qM) : Option qR :=
  qbnd (oPutI μ 8 a0 0 (0 : Int32)) fun μ1 =>
  qbnd (fX8_isOwner a1 μ1) fun r2 =>
  if r2.1 = 0 then
    some ((-1 : Int32), 0, r2.2.2)
  else
    qbnd (fX8_isPlace a2 r2.2.2) fun r3 =>
    if r3.1 = 0 then
      some ((-1 : Int32), 0, r3.2.2)
    else
      qbnd (oPutI r3.2.2 8 a0 1 (0 : Int32)) fun μ4 =>
      fX8_holds_18 qfu a0 a1 (0 : Int32) a2 μ4
noncomputable def fX8_holds (a0 : Nat) (a1 : Int32) (a2 : Int32) (μ : qM) : Option qR := if (qk μ a0).1 = 8 then gX8_holds a0 a1 a2 μ else none
noncomputable def aX8_holds (l : List Value) (μ : qM) : Option qR := match l with
  | [.ref x0, .int x1, .int x2] => fX8_holds x0 x1 x2 μ
  | _ => none
noncomputable def cfX8_holds : qF := fun n l μ => if n = 171 then aX8_isOwner l μ else if n = 147 then aX8_isPlace l μ else if n = 172 then aX8_held l μ else if n = 144 then aX8_enters l μ else if n = 143 then aX8_flag l μ else none
theorem hcX8_holds {base : Nat} {D : va_G} {ca : Nat → ClassId} {cv : Nat → Value} (hcv : ∀ j, (cv j).category = 1) : ∀ M as μ r, cfX8_holds M as μ = some r → qGood false base D ca cv 2 M as μ r := by
  intro M as μ r h
  unfold cfX8_holds at h
  split at h
  · rename_i e; subst e; exact (gaX8_isOwner hcv h).mono (by omega)
  split at h
  · rename_i e; subst e; exact (gaX8_isPlace hcv h).mono (by omega)
  split at h
  · rename_i e; subst e; exact (gaX8_held hcv h).mono (by omega)
  split at h
  · rename_i e; subst e; exact (gaX8_enters hcv h).mono (by omega)
  split at h
  · rename_i e; subst e; exact (gaX8_flag hcv h).mono (by omega)
  cases h
def jX8_holds_18 (f : Nat → Int32 → Int32 → Int32 → qM → Option qR) (L S : List Value) (μ : qM) : Option qR := match L, S with
  | [.ref x0, .int x1, _, .int x3, .int x4, _], [] => f x0 x1 x3 x4 μ
  | _, _ => none
theorem jeX8_holds_18 {base : Nat} {D : va_G} {ca : Nat → ClassId} {cv : Nat → Value} {d : Nat} {f : Nat → Int32 → Int32 → Int32 → qM → Option qR} (hf : ∀ (x0 : Nat) (x1 : Int32) (x3 : Int32) (x4 : Int32) (μ : qM) (r : qR), f x0 x1 x3 x4 μ = some r → qEv false base D ca cv d 251 r 18 [.ref x0, .int x1, .null, .int x3, .int x4, .null] [] μ) {L S : List Value} {μ : qM} {r : qR} (h : jX8_holds_18 f L S μ = some r) : qEv false base D ca cv d 251 r 18 L S μ := by
  unfold jX8_holds_18 at h
  split at h
  · exact (hf _ _ _ _ _ _ h).le rfl ⟨Or.inr rfl, Or.inr rfl, Or.inl rfl, Or.inr rfl, Or.inr rfl, Or.inl rfl, trivial⟩
  · cases h
def jX8_holds_30 (f : Nat → Int32 → Int32 → Int32 → Int32 → qM → Option qR) (L S : List Value) (μ : qM) : Option qR := match L, S with
  | [.ref x0, .int x1, _, .int x3, .int x4, _], [.int s0] => f x0 x1 x3 x4 s0 μ
  | _, _ => none
theorem jeX8_holds_30 {base : Nat} {D : va_G} {ca : Nat → ClassId} {cv : Nat → Value} {d : Nat} {f : Nat → Int32 → Int32 → Int32 → Int32 → qM → Option qR} (hf : ∀ (x0 : Nat) (x1 : Int32) (x3 : Int32) (x4 : Int32) (s0 : Int32) (μ : qM) (r : qR), f x0 x1 x3 x4 s0 μ = some r → qEv false base D ca cv d 251 r 30 [.ref x0, .int x1, .null, .int x3, .int x4, .null] [.int s0] μ) {L S : List Value} {μ : qM} {r : qR} (h : jX8_holds_30 f L S μ = some r) : qEv false base D ca cv d 251 r 30 L S μ := by
  unfold jX8_holds_30 at h
  split at h
  · exact (hf _ _ _ _ _ _ _ h).le rfl ⟨Or.inr rfl, Or.inr rfl, Or.inl rfl, Or.inr rfl, Or.inr rfl, Or.inl rfl, trivial⟩
  · cases h
set_option maxRecDepth 100000 in
theorem lbX8_holds_30 {base : Nat} {D : va_G} {ca : Nat → ClassId} {cv : Nat → Value} (hcv : ∀ j, (cv j).category = 1) {k18 : Nat → Int32 → Int32 → Int32 → qM → Option qR} (hk18 : ∀ (y0 : Nat) (y1 : Int32) (y3 : Int32) (y4 : Int32) (μ : qM) (r : qR), k18 y0 y1 y3 y4 μ = some r → qEv false base D ca cv 3 251 r 18 [.ref y0, .int y1, .null, .int y3, .int y4, .null] [] μ) (x0 : Nat) (x1 : Int32) (x3 : Int32) (x4 : Int32) (s0 : Int32) (μ : qM) (r : qR) (h : fX8_holds_30 k18 x0 x1 x3 x4 s0 μ = some r) : qEv false base D ca cv 3 251 r 30 [.ref x0, .int x1, .null, .int x3, .int x4, .null] [.int s0] μ := by
    exact qblk_ev2 (cf := cfX8_holds) (st := (fun n => qin [18, 30] n)) (K := (fun pc L S μ => if pc = 18 then jX8_holds_18 k18 L S μ else none)) (cd := qcX8_holds) (M := 251) (d0 := 2) rfl qcok_X8_holds (Nat.le_refl _) (hcX8_holds hcv) (by
    intro pc L S μ r h
    split at h
    · rename_i e; subst e; exact jeX8_holds_18 hk18 h
    cases h) 400 (pc := 30) (L := [.ref x0, .int x1, .null, .int x3, .int x4, .null]) (S := [.int s0]) h
set_option maxRecDepth 100000 in
theorem lbX8_holds_18 {base : Nat} {D : va_G} {ca : Nat → ClassId} {cv : Nat → Value} (hcv : ∀ j, (cv j).category = 1) : ∀ (n : Nat) (x0 : Nat) (x1 : Int32) (x3 : Int32) (x4 : Int32) (μ : qM) (r : qR), fX8_holds_18 n x0 x1 x3 x4 μ = some r → qEv false base D ca cv 3 251 r 18 [.ref x0, .int x1, .null, .int x3, .int x4, .null] [] μ := by
  intro n
  induction n with
  | zero => intro x0 x1 x3 x4 μ r h; cases (show (none : Option qR) = some r from h)
  | succ n ih =>
    intro x0 x1 x3 x4 μ r h
    exact qblk_ev2 (cf := cfX8_holds) (st := (fun n => qin [18, 30] n)) (K := (fun pc L S μ => if pc = 30 then jX8_holds_30 (fX8_holds_30 (fX8_holds_18 n)) L S μ else none)) (cd := qcX8_holds) (M := 251) (d0 := 2) rfl qcok_X8_holds (Nat.le_refl _) (hcX8_holds hcv) (by
    intro pc L S μ r h
    split at h
    · rename_i e; subst e; exact jeX8_holds_30 (lbX8_holds_30 hcv ih) h
    cases h) 400 (pc := 18) (L := [.ref x0, .int x1, .null, .int x3, .int x4, .null]) (S := []) h
theorem npX8_holds : (parseMethodDescriptor (qmy 251).desc).map (fun d => d.parameters.length) = some 2 := by decide +kernel
set_option maxRecDepth 100000 in
theorem gdX8_holds {base : Nat} {D : va_G} {ca : Nat → ClassId} {cv : Nat → Value} (hcv : ∀ j, (cv j).category = 1) {a0 : Nat} {a1 : Int32} {a2 : Int32} {μ : qM} {r : qR} (h : fX8_holds a0 a1 a2 μ = some r) : qGood false base D ca cv 3 251 [.ref a0, .int a1, .int a2] μ r := by
  unfold fX8_holds at h
  split at h
  · rename_i hk0
    exact qgood_of (by decide) (by omega) hcv (Or.inr ⟨by decide +kernel, hk0⟩) npX8_holds rfl (Nat.le_of_ble_eq_true rfl) rfl (qblk_ev2 (cf := cfX8_holds) (st := (fun n => qin [18, 30] n)) (K := (fun pc L S μ => if pc = 18 then jX8_holds_18 (fX8_holds_18 qfu) L S μ else none)) (cd := qcX8_holds) (M := 251) (d0 := 2) rfl qcok_X8_holds (Nat.le_refl _) (hcX8_holds hcv) (by
    intro pc L S μ r h
    split at h
    · rename_i e; subst e; exact jeX8_holds_18 (lbX8_holds_18 hcv qfu) h
    cases h) 400 (pc := 0) (L := qent [.ref a0, .int a1, .int a2] 6) (S := []) h)
  · cases h
theorem gaX8_holds {base : Nat} {D : va_G} {ca : Nat → ClassId} {cv : Nat → Value} (hcv : ∀ j, (cv j).category = 1) {l : List Value} {μ : qM} {r : qR} (h : aX8_holds l μ = some r) : qGood false base D ca cv 3 251 l μ r := by
  unfold aX8_holds at h
  split at h
  · exact gdX8_holds hcv h
  · cases h
noncomputable def fX8_common_48 (k22 : Nat → Int32 → Int32 → Int32 → Int32 → Int32 → Int32 → qM → Option qR) (x0 : Nat) (x1 : Int32) (x2 : Int32) (x3 : Int32) (x5 : Int32) (x6 : Int32) (x7 : Int32) (s0 : Int32) (μ : qM) : Option qR :=
  qbnd (fX8_flag x7 μ) fun r1 =>
  if x7 = 0 then
    qbnd (fX8_flag (0 : Int32) r1.2.2) fun r2 =>
    k22 x0 x1 x2 (x3 + r1.1) s0 (x5 + r2.1) (x6 + (1 : Int32)) r2.2.2
  else
    qbnd (oGetP r1.2.2 8 x0 14) fun v3 =>
    qbnd (fX8_isIn v3 x1 x6 r1.2.2) fun r4 =>
    if r4.1 = 0 then
      qbnd (oGetP r4.2.2 8 x0 14) fun v6 =>
      qbnd (fX8_isIn v6 x2 x6 r4.2.2) fun r7 =>
      if r7.1 = 0 then
        qbnd (fX8_flag (0 : Int32) r7.2.2) fun r8 =>
        k22 x0 x1 x2 (x3 + r1.1) s0 (x5 + r8.1) (x6 + (1 : Int32)) r8.2.2
      else
        qbnd (fX8_flag (1 : Int32) r7.2.2) fun r9 =>
        k22 x0 x1 x2 (x3 + r1.1) s0 (x5 + r9.1) (x6 + (1 : Int32)) r9.2.2
    else
      qbnd (fX8_flag (1 : Int32) r4.2.2) fun r5 =>
      k22 x0 x1 x2 (x3 + r1.1) s0 (x5 + r5.1) (x6 + (1 : Int32)) r5.2.2
noncomputable def fX8_common_47 (k22 : Nat → Int32 → Int32 → Int32 → Int32 → Int32 → Int32 → qM → Option qR) (x0 : Nat) (x1 : Int32) (x2 : Int32) (x3 : Int32) (x4 : Int32) (x5 : Int32) (x6 : Int32) (x7 : Int32) (μ : qM) : Option qR :=
  fX8_common_48 k22 x0 x1 x2 x3 x5 x6 x7 x4 μ
noncomputable def fX8_common_40 (k22 : Nat → Int32 → Int32 → Int32 → Int32 → Int32 → Int32 → qM → Option qR) (x0 : Nat) (x1 : Int32) (x2 : Int32) (x3 : Int32) (x4 : Int32) (x5 : Int32) (x6 : Int32) (s0 : Int32) (μ : qM) : Option qR :=
  if s0 = 0 then
    fX8_common_47 k22 x0 x1 x2 x3 x4 x5 x6 s0 μ
  else
    if x3 = 0 then
      fX8_common_48 k22 x0 x1 x2 x3 x5 x6 s0 x6 μ
    else
      fX8_common_47 k22 x0 x1 x2 x3 x4 x5 x6 s0 μ
noncomputable def fX8_common_39 (k22 : Nat → Int32 → Int32 → Int32 → Int32 → Int32 → Int32 → qM → Option qR) (x0 : Nat) (x1 : Int32) (x2 : Int32) (x3 : Int32) (x4 : Int32) (x5 : Int32) (x6 : Int32) (μ : qM) : Option qR :=
  fX8_common_40 k22 x0 x1 x2 x3 x4 x5 x6 (0 : Int32) μ
noncomputable def fX8_common_22 : Nat → Nat → Int32 → Int32 → Int32 → Int32 → Int32 → Int32 → qM → Option qR
  | 0 => fun _ _ _ _ _ _ _ _ => none
  | n + 1 => fun x0 x1 x2 x3 x4 x5 x6 μ =>
    if (85 : Int32) ≤ x6 then
      qbnd (oPutI μ 8 x0 1 (0 : Int32)) fun μ1 =>
      qbnd (fX8_enters x0 (x4).toInt64 μ1) fun r2 =>
      qbnd (fX8_enters x0 (x5).toInt64 r2.2.2) fun r3 =>
      some (x3, 0, r3.2.2)
    else
      qbnd (oGetP μ 8 x0 14) fun v4 =>
      qbnd (fX8_held v4 x1 x6 μ) fun r5 =>
      if r5.1 ≤ 0 then
        fX8_common_39 (fX8_common_22 n) x0 x1 x2 x3 x4 x5 x6 r5.2.2
      else
        qbnd (oGetP r5.2.2 8 x0 14) fun v6 =>
        qbnd (fX8_held v6 x2 x6 r5.2.2) fun r7 =>
        if r7.1 ≤ 0 then
          fX8_common_39 (fX8_common_22 n) x0 x1 x2 x3 x4 x5 x6 r7.2.2
        else
          fX8_common_40 (fX8_common_22 n) x0 x1 x2 x3 x4 x5 x6 (1 : Int32) r7.2.2
noncomputable def gX8_common (a0 : Nat) (a1 : Int32) (a2 : Int32) (μ : qM) : Option qR :=
  qbnd (oPutI μ 8 a0 0 (0 : Int32)) fun μ1 =>
  qbnd (fX8_isOwner a1 μ1) fun r2 =>
  if r2.1 = 0 then
    some ((-1 : Int32), 0, r2.2.2)
  else
    qbnd (fX8_isOwner a2 r2.2.2) fun r3 =>
    if r3.1 = 0 then
      some ((-1 : Int32), 0, r3.2.2)
    else
      if a1 = a2 then
        some ((-1 : Int32), 0, r3.2.2)
      else
        fX8_common_22 qfu a0 a1 a2 (0 : Int32) (85 : Int32) (0 : Int32) (0 : Int32) r3.2.2
noncomputable def fX8_common (a0 : Nat) (a1 : Int32) (a2 : Int32) (μ : qM) : Option qR := if (qk μ a0).1 = 8 then gX8_common a0 a1 a2 μ else none
noncomputable def aX8_common (l : List Value) (μ : qM) : Option qR := match l with
  | [.ref x0, .int x1, .int x2] => fX8_common x0 x1 x2 μ
  | _ => none
noncomputable def cfX8_common : qF := fun n l μ => if n = 171 then aX8_isOwner l μ else if n = 172 then aX8_held l μ else if n = 143 then aX8_flag l μ else if n = 178 then aX8_isIn l μ else if n = 144 then aX8_enters l μ else none
theorem hcX8_common {base : Nat} {D : va_G} {ca : Nat → ClassId} {cv : Nat → Value} (hcv : ∀ j, (cv j).category = 1) : ∀ M as μ r, cfX8_common M as μ = some r → qGood false base D ca cv 2 M as μ r := by
  intro M as μ r h
  unfold cfX8_common at h
  split at h
  · rename_i e; subst e; exact (gaX8_isOwner hcv h).mono (by omega)
  split at h
  · rename_i e; subst e; exact (gaX8_held hcv h).mono (by omega)
  split at h
  · rename_i e; subst e; exact (gaX8_flag hcv h).mono (by omega)
  split at h
  · rename_i e; subst e; exact (gaX8_isIn hcv h).mono (by omega)
  split at h
  · rename_i e; subst e; exact (gaX8_enters hcv h).mono (by omega)
  cases h
def jX8_common_22 (f : Nat → Int32 → Int32 → Int32 → Int32 → Int32 → Int32 → qM → Option qR) (L S : List Value) (μ : qM) : Option qR := match L, S with
  | [.ref x0, .int x1, .int x2, .int x3, .int x4, .int x5, .int x6, _], [] => f x0 x1 x2 x3 x4 x5 x6 μ
  | _, _ => none
theorem jeX8_common_22 {base : Nat} {D : va_G} {ca : Nat → ClassId} {cv : Nat → Value} {d : Nat} {f : Nat → Int32 → Int32 → Int32 → Int32 → Int32 → Int32 → qM → Option qR} (hf : ∀ (x0 : Nat) (x1 : Int32) (x2 : Int32) (x3 : Int32) (x4 : Int32) (x5 : Int32) (x6 : Int32) (μ : qM) (r : qR), f x0 x1 x2 x3 x4 x5 x6 μ = some r → qEv false base D ca cv d 252 r 22 [.ref x0, .int x1, .int x2, .int x3, .int x4, .int x5, .int x6, .null] [] μ) {L S : List Value} {μ : qM} {r : qR} (h : jX8_common_22 f L S μ = some r) : qEv false base D ca cv d 252 r 22 L S μ := by
  unfold jX8_common_22 at h
  split at h
  · exact (hf _ _ _ _ _ _ _ _ _ h).le rfl ⟨Or.inr rfl, Or.inr rfl, Or.inr rfl, Or.inr rfl, Or.inr rfl, Or.inr rfl, Or.inr rfl, Or.inl rfl, trivial⟩
  · cases h
def jX8_common_39 (f : Nat → Int32 → Int32 → Int32 → Int32 → Int32 → Int32 → qM → Option qR) (L S : List Value) (μ : qM) : Option qR := match L, S with
  | [.ref x0, .int x1, .int x2, .int x3, .int x4, .int x5, .int x6, _], [] => f x0 x1 x2 x3 x4 x5 x6 μ
  | _, _ => none
theorem jeX8_common_39 {base : Nat} {D : va_G} {ca : Nat → ClassId} {cv : Nat → Value} {d : Nat} {f : Nat → Int32 → Int32 → Int32 → Int32 → Int32 → Int32 → qM → Option qR} (hf : ∀ (x0 : Nat) (x1 : Int32) (x2 : Int32) (x3 : Int32) (x4 : Int32) (x5 : Int32) (x6 : Int32) (μ : qM) (r : qR), f x0 x1 x2 x3 x4 x5 x6 μ = some r → qEv false base D ca cv d 252 r 39 [.ref x0, .int x1, .int x2, .int x3, .int x4, .int x5, .int x6, .null] [] μ) {L S : List Value} {μ : qM} {r : qR} (h : jX8_common_39 f L S μ = some r) : qEv false base D ca cv d 252 r 39 L S μ := by
  unfold jX8_common_39 at h
  split at h
  · exact (hf _ _ _ _ _ _ _ _ _ h).le rfl ⟨Or.inr rfl, Or.inr rfl, Or.inr rfl, Or.inr rfl, Or.inr rfl, Or.inr rfl, Or.inr rfl, Or.inl rfl, trivial⟩
  · cases h
def jX8_common_40 (f : Nat → Int32 → Int32 → Int32 → Int32 → Int32 → Int32 → Int32 → qM → Option qR) (L S : List Value) (μ : qM) : Option qR := match L, S with
  | [.ref x0, .int x1, .int x2, .int x3, .int x4, .int x5, .int x6, _], [.int s0] => f x0 x1 x2 x3 x4 x5 x6 s0 μ
  | _, _ => none
theorem jeX8_common_40 {base : Nat} {D : va_G} {ca : Nat → ClassId} {cv : Nat → Value} {d : Nat} {f : Nat → Int32 → Int32 → Int32 → Int32 → Int32 → Int32 → Int32 → qM → Option qR} (hf : ∀ (x0 : Nat) (x1 : Int32) (x2 : Int32) (x3 : Int32) (x4 : Int32) (x5 : Int32) (x6 : Int32) (s0 : Int32) (μ : qM) (r : qR), f x0 x1 x2 x3 x4 x5 x6 s0 μ = some r → qEv false base D ca cv d 252 r 40 [.ref x0, .int x1, .int x2, .int x3, .int x4, .int x5, .int x6, .null] [.int s0] μ) {L S : List Value} {μ : qM} {r : qR} (h : jX8_common_40 f L S μ = some r) : qEv false base D ca cv d 252 r 40 L S μ := by
  unfold jX8_common_40 at h
  split at h
  · exact (hf _ _ _ _ _ _ _ _ _ _ h).le rfl ⟨Or.inr rfl, Or.inr rfl, Or.inr rfl, Or.inr rfl, Or.inr rfl, Or.inr rfl, Or.inr rfl, Or.inl rfl, trivial⟩
  · cases h
def jX8_common_47 (f : Nat → Int32 → Int32 → Int32 → Int32 → Int32 → Int32 → Int32 → qM → Option qR) (L S : List Value) (μ : qM) : Option qR := match L, S with
  | [.ref x0, .int x1, .int x2, .int x3, .int x4, .int x5, .int x6, .int x7], [] => f x0 x1 x2 x3 x4 x5 x6 x7 μ
  | _, _ => none
theorem jeX8_common_47 {base : Nat} {D : va_G} {ca : Nat → ClassId} {cv : Nat → Value} {d : Nat} {f : Nat → Int32 → Int32 → Int32 → Int32 → Int32 → Int32 → Int32 → qM → Option qR} (hf : ∀ (x0 : Nat) (x1 : Int32) (x2 : Int32) (x3 : Int32) (x4 : Int32) (x5 : Int32) (x6 : Int32) (x7 : Int32) (μ : qM) (r : qR), f x0 x1 x2 x3 x4 x5 x6 x7 μ = some r → qEv false base D ca cv d 252 r 47 [.ref x0, .int x1, .int x2, .int x3, .int x4, .int x5, .int x6, .int x7] [] μ) {L S : List Value} {μ : qM} {r : qR} (h : jX8_common_47 f L S μ = some r) : qEv false base D ca cv d 252 r 47 L S μ := by
  unfold jX8_common_47 at h
  split at h
  · exact (hf _ _ _ _ _ _ _ _ _ _ h).le rfl ⟨Or.inr rfl, Or.inr rfl, Or.inr rfl, Or.inr rfl, Or.inr rfl, Or.inr rfl, Or.inr rfl, Or.inr rfl, trivial⟩
  · cases h
def jX8_common_48 (f : Nat → Int32 → Int32 → Int32 → Int32 → Int32 → Int32 → Int32 → qM → Option qR) (L S : List Value) (μ : qM) : Option qR := match L, S with
  | [.ref x0, .int x1, .int x2, .int x3, _, .int x5, .int x6, .int x7], [.int s0] => f x0 x1 x2 x3 x5 x6 x7 s0 μ
  | _, _ => none
theorem jeX8_common_48 {base : Nat} {D : va_G} {ca : Nat → ClassId} {cv : Nat → Value} {d : Nat} {f : Nat → Int32 → Int32 → Int32 → Int32 → Int32 → Int32 → Int32 → qM → Option qR} (hf : ∀ (x0 : Nat) (x1 : Int32) (x2 : Int32) (x3 : Int32) (x5 : Int32) (x6 : Int32) (x7 : Int32) (s0 : Int32) (μ : qM) (r : qR), f x0 x1 x2 x3 x5 x6 x7 s0 μ = some r → qEv false base D ca cv d 252 r 48 [.ref x0, .int x1, .int x2, .int x3, .null, .int x5, .int x6, .int x7] [.int s0] μ) {L S : List Value} {μ : qM} {r : qR} (h : jX8_common_48 f L S μ = some r) : qEv false base D ca cv d 252 r 48 L S μ := by
  unfold jX8_common_48 at h
  split at h
  · exact (hf _ _ _ _ _ _ _ _ _ _ h).le rfl ⟨Or.inr rfl, Or.inr rfl, Or.inr rfl, Or.inr rfl, Or.inl rfl, Or.inr rfl, Or.inr rfl, Or.inr rfl, trivial⟩
  · cases h
set_option maxRecDepth 100000 in
theorem lbX8_common_48 {base : Nat} {D : va_G} {ca : Nat → ClassId} {cv : Nat → Value} (hcv : ∀ j, (cv j).category = 1) {k22 : Nat → Int32 → Int32 → Int32 → Int32 → Int32 → Int32 → qM → Option qR} (hk22 : ∀ (y0 : Nat) (y1 : Int32) (y2 : Int32) (y3 : Int32) (y4 : Int32) (y5 : Int32) (y6 : Int32) (μ : qM) (r : qR), k22 y0 y1 y2 y3 y4 y5 y6 μ = some r → qEv false base D ca cv 3 252 r 22 [.ref y0, .int y1, .int y2, .int y3, .int y4, .int y5, .int y6, .null] [] μ) (x0 : Nat) (x1 : Int32) (x2 : Int32) (x3 : Int32) (x5 : Int32) (x6 : Int32) (x7 : Int32) (s0 : Int32) (μ : qM) (r : qR) (h : fX8_common_48 k22 x0 x1 x2 x3 x5 x6 x7 s0 μ = some r) : qEv false base D ca cv 3 252 r 48 [.ref x0, .int x1, .int x2, .int x3, .null, .int x5, .int x6, .int x7] [.int s0] μ := by
    exact qblk_ev2 (cf := cfX8_common) (st := (fun n => qin [22, 39, 40, 47, 48] n)) (K := (fun pc L S μ => if pc = 22 then jX8_common_22 k22 L S μ else none)) (cd := qcX8_common) (M := 252) (d0 := 2) rfl qcok_X8_common (Nat.le_refl _) (hcX8_common hcv) (by
    intro pc L S μ r h
    split at h
    · rename_i e; subst e; exact jeX8_common_22 hk22 h
    cases h) 400 (pc := 48) (L := [.ref x0, .int x1, .int x2, .int x3, .null, .int x5, .int x6, .int x7]) (S := [.int s0]) h
set_option maxRecDepth 100000 in
theorem lbX8_common_47 {base : Nat} {D : va_G} {ca : Nat → ClassId} {cv : Nat → Value} (hcv : ∀ j, (cv j).category = 1) {k22 : Nat → Int32 → Int32 → Int32 → Int32 → Int32 → Int32 → qM → Option qR} (hk22 : ∀ (y0 : Nat) (y1 : Int32) (y2 : Int32) (y3 : Int32) (y4 : Int32) (y5 : Int32) (y6 : Int32) (μ : qM) (r : qR), k22 y0 y1 y2 y3 y4 y5 y6 μ = some r → qEv false base D ca cv 3 252 r 22 [.ref y0, .int y1, .int y2, .int y3, .int y4, .int y5, .int y6, .null] [] μ) (x0 : Nat) (x1 : Int32) (x2 : Int32) (x3 : Int32) (x4 : Int32) (x5 : Int32) (x6 : Int32) (x7 : Int32) (μ : qM) (r : qR) (h : fX8_common_47 k22 x0 x1 x2 x3 x4 x5 x6 x7 μ = some r) : qEv false base D ca cv 3 252 r 47 [.ref x0, .int x1, .int x2, .int x3, .int x4, .int x5, .int x6, .int x7] [] μ := by
    exact qblk_ev2 (cf := cfX8_common) (st := (fun n => qin [22, 39, 40, 47, 48] n)) (K := (fun pc L S μ => if pc = 48 then jX8_common_48 (fX8_common_48 k22) L S μ else none)) (cd := qcX8_common) (M := 252) (d0 := 2) rfl qcok_X8_common (Nat.le_refl _) (hcX8_common hcv) (by
    intro pc L S μ r h
    split at h
    · rename_i e; subst e; exact jeX8_common_48 (lbX8_common_48 hcv hk22) h
    cases h) 400 (pc := 47) (L := [.ref x0, .int x1, .int x2, .int x3, .int x4, .int x5, .int x6, .int x7]) (S := []) h
set_option maxRecDepth 100000 in
theorem lbX8_common_40 {base : Nat} {D : va_G} {ca : Nat → ClassId} {cv : Nat → Value} (hcv : ∀ j, (cv j).category = 1) {k22 : Nat → Int32 → Int32 → Int32 → Int32 → Int32 → Int32 → qM → Option qR} (hk22 : ∀ (y0 : Nat) (y1 : Int32) (y2 : Int32) (y3 : Int32) (y4 : Int32) (y5 : Int32) (y6 : Int32) (μ : qM) (r : qR), k22 y0 y1 y2 y3 y4 y5 y6 μ = some r → qEv false base D ca cv 3 252 r 22 [.ref y0, .int y1, .int y2, .int y3, .int y4, .int y5, .int y6, .null] [] μ) (x0 : Nat) (x1 : Int32) (x2 : Int32) (x3 : Int32) (x4 : Int32) (x5 : Int32) (x6 : Int32) (s0 : Int32) (μ : qM) (r : qR) (h : fX8_common_40 k22 x0 x1 x2 x3 x4 x5 x6 s0 μ = some r) : qEv false base D ca cv 3 252 r 40 [.ref x0, .int x1, .int x2, .int x3, .int x4, .int x5, .int x6, .null] [.int s0] μ := by
    exact qblk_ev2 (cf := cfX8_common) (st := (fun n => qin [22, 39, 40, 47, 48] n)) (K := (fun pc L S μ => if pc = 47 then jX8_common_47 (fX8_common_47 k22) L S μ else if pc = 48 then jX8_common_48 (fX8_common_48 k22) L S μ else none)) (cd := qcX8_common) (M := 252) (d0 := 2) rfl qcok_X8_common (Nat.le_refl _) (hcX8_common hcv) (by
    intro pc L S μ r h
    split at h
    · rename_i e; subst e; exact jeX8_common_47 (lbX8_common_47 hcv hk22) h
    split at h
    · rename_i e; subst e; exact jeX8_common_48 (lbX8_common_48 hcv hk22) h
    cases h) 400 (pc := 40) (L := [.ref x0, .int x1, .int x2, .int x3, .int x4, .int x5, .int x6, .null]) (S := [.int s0]) h
set_option maxRecDepth 100000 in
theorem lbX8_common_39 {base : Nat} {D : va_G} {ca : Nat → ClassId} {cv : Nat → Value} (hcv : ∀ j, (cv j).category = 1) {k22 : Nat → Int32 → Int32 → Int32 → Int32 → Int32 → Int32 → qM → Option qR} (hk22 : ∀ (y0 : Nat) (y1 : Int32) (y2 : Int32) (y3 : Int32) (y4 : Int32) (y5 : Int32) (y6 : Int32) (μ : qM) (r : qR), k22 y0 y1 y2 y3 y4 y5 y6 μ = some r → qEv false base D ca cv 3 252 r 22 [.ref y0, .int y1, .int y2, .int y3, .int y4, .int y5, .int y6, .null] [] μ) (x0 : Nat) (x1 : Int32) (x2 : Int32) (x3 : Int32) (x4 : Int32) (x5 : Int32) (x6 : Int32) (μ : qM) (r : qR) (h : fX8_common_39 k22 x0 x1 x2 x3 x4 x5 x6 μ = some r) : qEv false base D ca cv 3 252 r 39 [.ref x0, .int x1, .int x2, .int x3, .int x4, .int x5, .int x6, .null] [] μ := by
    exact qblk_ev2 (cf := cfX8_common) (st := (fun n => qin [22, 39, 40, 47, 48] n)) (K := (fun pc L S μ => if pc = 40 then jX8_common_40 (fX8_common_40 k22) L S μ else none)) (cd := qcX8_common) (M := 252) (d0 := 2) rfl qcok_X8_common (Nat.le_refl _) (hcX8_common hcv) (by
    intro pc L S μ r h
    split at h
    · rename_i e; subst e; exact jeX8_common_40 (lbX8_common_40 hcv hk22) h
    cases h) 400 (pc := 39) (L := [.ref x0, .int x1, .int x2, .int x3, .int x4, .int x5, .int x6, .null]) (S := []) h
set_option maxRecDepth 100000 in
theorem lbX8_common_22 {base : Nat} {D : va_G} {ca : Nat → ClassId} {cv : Nat → Value} (hcv : ∀ j, (cv j).category = 1) : ∀ (n : Nat) (x0 : Nat) (x1 : Int32) (x2 : Int32) (x3 : Int32) (x4 : Int32) (x5 : Int32) (x6 : Int32) (μ : qM) (r : qR), fX8_common_22 n x0 x1 x2 x3 x4 x5 x6 μ = some r → qEv false base D ca cv 3 252 r 22 [.ref x0, .int x1, .int x2, .int x3, .int x4, .int x5, .int x6, .null] [] μ := by
  intro n
  induction n with
  | zero => intro x0 x1 x2 x3 x4 x5 x6 μ r h; cases (show (none : Option qR) = some r from h)
  | succ n ih =>
    intro x0 x1 x2 x3 x4 x5 x6 μ r h
    exact qblk_ev2 (cf := cfX8_common) (st := (fun n => qin [22, 39, 40, 47, 48] n)) (K := (fun pc L S μ => if pc = 39 then jX8_common_39 (fX8_common_39 (fX8_common_22 n)) L S μ else if pc = 40 then jX8_common_40 (fX8_common_40 (fX8_common_22 n)) L S μ else none)) (cd := qcX8_common) (M := 252) (d0 := 2) rfl qcok_X8_common (Nat.le_refl _) (hcX8_common hcv) (by
    intro pc L S μ r h
    split at h
    · rename_i e; subst e; exact jeX8_common_39 (lbX8_common_39 hcv ih) h
    split at h
    · rename_i e; subst e; exact jeX8_common_40 (lbX8_common_40 hcv ih) h
    cases h) 400 (pc := 22) (L := [.ref x0, .int x1, .int x2, .int x3, .int x4, .int x5, .int x6, .null]) (S := []) h
theorem npX8_common : (parseMethodDescriptor (qmy 252).desc).map (fun d => d.parameters.length) = some 2 := by decide +kernel
set_option maxRecDepth 100000 in
theorem gdX8_common {base : Nat} {D : va_G} {ca : Nat → ClassId} {cv : Nat → Value} (hcv : ∀ j, (cv j).category = 1) {a0 : Nat} {a1 : Int32} {a2 : Int32} {μ : qM} {r : qR} (h : fX8_common a0 a1 a2 μ = some r) : qGood false base D ca cv 3 252 [.ref a0, .int a1, .int a2] μ r := by
  unfold fX8_common at h
  split at h
  · rename_i hk0
    exact qgood_of (by decide) (by omega) hcv (Or.inr ⟨by decide +kernel, hk0⟩) npX8_common rfl (Nat.le_of_ble_eq_true rfl) rfl (qblk_ev2 (cf := cfX8_common) (st := (fun n => qin [22, 39, 40, 47, 48] n)) (K := (fun pc L S μ => if pc = 22 then jX8_common_22 (fX8_common_22 qfu) L S μ else none)) (cd := qcX8_common) (M := 252) (d0 := 2) rfl qcok_X8_common (Nat.le_refl _) (hcX8_common hcv) (by
    intro pc L S μ r h
    split at h
    · rename_i e; subst e; exact jeX8_common_22 (lbX8_common_22 hcv qfu) h
    cases h) 400 (pc := 0) (L := qent [.ref a0, .int a1, .int a2] 8) (S := []) h)
  · cases h
theorem gaX8_common {base : Nat} {D : va_G} {ca : Nat → ClassId} {cv : Nat → Value} (hcv : ∀ j, (cv j).category = 1) {l : List Value} {μ : qM} {r : qR} (h : aX8_common l μ = some r) : qGood false base D ca cv 3 252 l μ r := by
  unfold aX8_common at h
  split at h
  · exact gdX8_common hcv h
  · cases h
noncomputable def fX8_queues_25 (k11 : Nat → Int32 → Int32 → Int32 → Int32 → qM → Option qR) (x0 : Nat) (x2 : Int32) (x3 : Int32) (x4 : Int32) (x5 : Int32) (s0 : Int32) (s1 : Int32) (μ : qM) : Option qR :=
  qbnd (fX8_flag s0 μ) fun r1 =>
  if x5 ≤ x3 then
    k11 x0 (s1 + r1.1) x2 (if x3 < x5 then x5 else x3) (x4 + (1 : Int32)) r1.2.2
  else
    k11 x0 (s1 + r1.1) x4 (if x3 < x5 then x5 else x3) (x4 + (1 : Int32)) r1.2.2
noncomputable def fX8_queues_45 : Nat → Nat → Int32 → Int32 → Int32 → Int32 → qM → Option qR
  | 0 => fun _ _ _ _ _ _ => none
  | n + 1 => fun x0 x1 x2 x4 x5 μ =>
    if (8 : Int32) ≤ x5 then
      qbnd (oPutI μ 8 x0 1 (0 : Int32)) fun μ1 =>
      if x1 ≤ 0 then
        some (x1, 0, μ1)
      else
        qbnd (fX8_enters x0 (x2).toInt64 μ1) fun r2 =>
        qbnd (fX8_enters x0 (x4).toInt64 r2.2.2) fun r3 =>
        some (x1, 0, r3.2.2)
    else
      qbnd (oGetP μ 8 x0 14) fun v4 =>
      qbnd (oLdI 20 μ v4 ((680 : Int32) + x5)) fun v5 =>
      if v5 = (2 : Int32) then
        qbnd (oGetP μ 8 x0 14) fun v7 =>
        qbnd (fX8_isChange v7 x5 μ) fun r8 =>
        if r8.1 = 0 then
          qbnd (fX8_flag (0 : Int32) r8.2.2) fun r9 =>
          fX8_queues_45 n x0 x1 x2 (x4 + r9.1) (x5 + (1 : Int32)) r9.2.2
        else
          qbnd (fX8_flag (1 : Int32) r8.2.2) fun r10 =>
          fX8_queues_45 n x0 x1 x2 (x4 + r10.1) (x5 + (1 : Int32)) r10.2.2
      else
        qbnd (fX8_flag (0 : Int32) μ) fun r6 =>
        fX8_queues_45 n x0 x1 x2 (x4 + r6.1) (x5 + (1 : Int32)) r6.2.2
noncomputable def fX8_queues_11 : Nat → Nat → Int32 → Int32 → Int32 → Int32 → qM → Option qR
  | 0 => fun _ _ _ _ _ _ => none
  | n + 1 => fun x0 x1 x2 x3 x4 μ =>
    if (85 : Int32) ≤ x4 then
      fX8_queues_45 qfu x0 x1 x2 (0 : Int32) (0 : Int32) μ
    else
      qbnd (oGetP μ 8 x0 14) fun v1 =>
      qbnd (fX8_queued v1 x4 μ) fun r2 =>
      if r2.1 ≤ 0 then
        fX8_queues_25 (fX8_queues_11 n) x0 x2 x3 x4 r2.1 (0 : Int32) x1 r2.2.2
      else
        fX8_queues_25 (fX8_queues_11 n) x0 x2 x3 x4 r2.1 (1 : Int32) x1 r2.2.2
noncomputable def gX8_queues (a0 : Nat) (μ : qM) : Option qR :=
  qbnd (oPutI μ 8 a0 0 (0 : Int32)) fun μ1 =>
  fX8_queues_11 qfu a0 (0 : Int32) (0 : Int32) (0 : Int32) (0 : Int32) μ1
noncomputable def fX8_queues (a0 : Nat) (μ : qM) : Option qR := if (qk μ a0).1 = 8 then gX8_queues a0 μ else none
noncomputable def aX8_queues (l : List Value) (μ : qM) : Option qR := match l with
  | [.ref x0] => fX8_queues x0 μ
  | _ => none
noncomputable def cfX8_queues : qF := fun n l μ => if n = 179 then aX8_queued l μ else if n = 143 then aX8_flag l μ else if n = 176 then aX8_isChange l μ else if n = 144 then aX8_enters l μ else none
theorem hcX8_queues {base : Nat} {D : va_G} {ca : Nat → ClassId} {cv : Nat → Value} (hcv : ∀ j, (cv j).category = 1) : ∀ M as μ r, cfX8_queues M as μ = some r → qGood false base D ca cv 2 M as μ r := by
  intro M as μ r h
  unfold cfX8_queues at h
  split at h
  · rename_i e; subst e; exact (gaX8_queued hcv h).mono (by omega)
  split at h
  · rename_i e; subst e; exact (gaX8_flag hcv h).mono (by omega)
  split at h
  · rename_i e; subst e; exact (gaX8_isChange hcv h).mono (by omega)
  split at h
  · rename_i e; subst e; exact (gaX8_enters hcv h).mono (by omega)
  cases h
def jX8_queues_11 (f : Nat → Int32 → Int32 → Int32 → Int32 → qM → Option qR) (L S : List Value) (μ : qM) : Option qR := match L, S with
  | [.ref x0, .int x1, .int x2, .int x3, .int x4, _], [] => f x0 x1 x2 x3 x4 μ
  | _, _ => none
theorem jeX8_queues_11 {base : Nat} {D : va_G} {ca : Nat → ClassId} {cv : Nat → Value} {d : Nat} {f : Nat → Int32 → Int32 → Int32 → Int32 → qM → Option qR} (hf : ∀ (x0 : Nat) (x1 : Int32) (x2 : Int32) (x3 : Int32) (x4 : Int32) (μ : qM) (r : qR), f x0 x1 x2 x3 x4 μ = some r → qEv false base D ca cv d 253 r 11 [.ref x0, .int x1, .int x2, .int x3, .int x4, .null] [] μ) {L S : List Value} {μ : qM} {r : qR} (h : jX8_queues_11 f L S μ = some r) : qEv false base D ca cv d 253 r 11 L S μ := by
  unfold jX8_queues_11 at h
  split at h
  · exact (hf _ _ _ _ _ _ _ h).le rfl ⟨Or.inr rfl, Or.inr rfl, Or.inr rfl, Or.inr rfl, Or.inr rfl, Or.inl rfl, trivial⟩
  · cases h
def jX8_queues_25 (f : Nat → Int32 → Int32 → Int32 → Int32 → Int32 → Int32 → qM → Option qR) (L S : List Value) (μ : qM) : Option qR := match L, S with
  | [.ref x0, _, .int x2, .int x3, .int x4, .int x5], [.int s0, .int s1] => f x0 x2 x3 x4 x5 s0 s1 μ
  | _, _ => none
theorem jeX8_queues_25 {base : Nat} {D : va_G} {ca : Nat → ClassId} {cv : Nat → Value} {d : Nat} {f : Nat → Int32 → Int32 → Int32 → Int32 → Int32 → Int32 → qM → Option qR} (hf : ∀ (x0 : Nat) (x2 : Int32) (x3 : Int32) (x4 : Int32) (x5 : Int32) (s0 : Int32) (s1 : Int32) (μ : qM) (r : qR), f x0 x2 x3 x4 x5 s0 s1 μ = some r → qEv false base D ca cv d 253 r 25 [.ref x0, .null, .int x2, .int x3, .int x4, .int x5] [.int s0, .int s1] μ) {L S : List Value} {μ : qM} {r : qR} (h : jX8_queues_25 f L S μ = some r) : qEv false base D ca cv d 253 r 25 L S μ := by
  unfold jX8_queues_25 at h
  split at h
  · exact (hf _ _ _ _ _ _ _ _ _ h).le rfl ⟨Or.inr rfl, Or.inl rfl, Or.inr rfl, Or.inr rfl, Or.inr rfl, Or.inr rfl, trivial⟩
  · cases h
def jX8_queues_45 (f : Nat → Int32 → Int32 → Int32 → Int32 → qM → Option qR) (L S : List Value) (μ : qM) : Option qR := match L, S with
  | [.ref x0, .int x1, .int x2, _, .int x4, .int x5], [] => f x0 x1 x2 x4 x5 μ
  | _, _ => none
theorem jeX8_queues_45 {base : Nat} {D : va_G} {ca : Nat → ClassId} {cv : Nat → Value} {d : Nat} {f : Nat → Int32 → Int32 → Int32 → Int32 → qM → Option qR} (hf : ∀ (x0 : Nat) (x1 : Int32) (x2 : Int32) (x4 : Int32) (x5 : Int32) (μ : qM) (r : qR), f x0 x1 x2 x4 x5 μ = some r → qEv false base D ca cv d 253 r 45 [.ref x0, .int x1, .int x2, .null, .int x4, .int x5] [] μ) {L S : List Value} {μ : qM} {r : qR} (h : jX8_queues_45 f L S μ = some r) : qEv false base D ca cv d 253 r 45 L S μ := by
  unfold jX8_queues_45 at h
  split at h
  · exact (hf _ _ _ _ _ _ _ h).le rfl ⟨Or.inr rfl, Or.inr rfl, Or.inr rfl, Or.inl rfl, Or.inr rfl, Or.inr rfl, trivial⟩
  · cases h
set_option maxRecDepth 100000 in
theorem lbX8_queues_25 {base : Nat} {D : va_G} {ca : Nat → ClassId} {cv : Nat → Value} (hcv : ∀ j, (cv j).category = 1) {k11 : Nat → Int32 → Int32 → Int32 → Int32 → qM → Option qR} (hk11 : ∀ (y0 : Nat) (y1 : Int32) (y2 : Int32) (y3 : Int32) (y4 : Int32) (μ : qM) (r : qR), k11 y0 y1 y2 y3 y4 μ = some r → qEv false base D ca cv 3 253 r 11 [.ref y0, .int y1, .int y2, .int y3, .int y4, .null] [] μ) (x0 : Nat) (x2 : Int32) (x3 : Int32) (x4 : Int32) (x5 : Int32) (s0 : Int32) (s1 : Int32) (μ : qM) (r : qR) (h : fX8_queues_25 k11 x0 x2 x3 x4 x5 s0 s1 μ = some r) : qEv false base D ca cv 3 253 r 25 [.ref x0, .null, .int x2, .int x3, .int x4, .int x5] [.int s0, .int s1] μ := by
    exact qblk_ev2 (cf := cfX8_queues) (st := (fun n => qin [11, 25, 45] n)) (K := (fun pc L S μ => if pc = 11 then jX8_queues_11 k11 L S μ else none)) (cd := qcX8_queues) (M := 253) (d0 := 2) rfl qcok_X8_queues (Nat.le_refl _) (hcX8_queues hcv) (by
    intro pc L S μ r h
    split at h
    · rename_i e; subst e; exact jeX8_queues_11 hk11 h
    cases h) 400 (pc := 25) (L := [.ref x0, .null, .int x2, .int x3, .int x4, .int x5]) (S := [.int s0, .int s1]) h
set_option maxRecDepth 100000 in
theorem lbX8_queues_45 {base : Nat} {D : va_G} {ca : Nat → ClassId} {cv : Nat → Value} (hcv : ∀ j, (cv j).category = 1) : ∀ (n : Nat) (x0 : Nat) (x1 : Int32) (x2 : Int32) (x4 : Int32) (x5 : Int32) (μ : qM) (r : qR), fX8_queues_45 n x0 x1 x2 x4 x5 μ = some r → qEv false base D ca cv 3 253 r 45 [.ref x0, .int x1, .int x2, .null, .int x4, .int x5] [] μ := by
  intro n
  induction n with
  | zero => intro x0 x1 x2 x4 x5 μ r h; cases (show (none : Option qR) = some r from h)
  | succ n ih =>
    intro x0 x1 x2 x4 x5 μ r h
    exact qblk_ev2 (cf := cfX8_queues) (st := (fun n => qin [11, 25, 45] n)) (K := (fun pc L S μ => if pc = 45 then jX8_queues_45 (fX8_queues_45 n) L S μ else none)) (cd := qcX8_queues) (M := 253) (d0 := 2) rfl qcok_X8_queues (Nat.le_refl _) (hcX8_queues hcv) (by
    intro pc L S μ r h
    split at h
    · rename_i e; subst e; exact jeX8_queues_45 ih h
    cases h) 400 (pc := 45) (L := [.ref x0, .int x1, .int x2, .null, .int x4, .int x5]) (S := []) h
set_option maxRecDepth 100000 in
theorem lbX8_queues_11 {base : Nat} {D : va_G} {ca : Nat → ClassId} {cv : Nat → Value} (hcv : ∀ j, (cv j).category = 1) : ∀ (n : Nat) (x0 : Nat) (x1 : Int32) (x2 : Int32) (x3 : Int32) (x4 : Int32) (μ : qM) (r : qR), fX8_queues_11 n x0 x1 x2 x3 x4 μ = some r → qEv false base D ca cv 3 253 r 11 [.ref x0, .int x1, .int x2, .int x3, .int x4, .null] [] μ := by
  intro n
  induction n with
  | zero => intro x0 x1 x2 x3 x4 μ r h; cases (show (none : Option qR) = some r from h)
  | succ n ih =>
    intro x0 x1 x2 x3 x4 μ r h
    exact qblk_ev2 (cf := cfX8_queues) (st := (fun n => qin [11, 25, 45] n)) (K := (fun pc L S μ => if pc = 25 then jX8_queues_25 (fX8_queues_25 (fX8_queues_11 n)) L S μ else if pc = 45 then jX8_queues_45 (fX8_queues_45 qfu) L S μ else none)) (cd := qcX8_queues) (M := 253) (d0 := 2) rfl qcok_X8_queues (Nat.le_refl _) (hcX8_queues hcv) (by
    intro pc L S μ r h
    split at h
    · rename_i e; subst e; exact jeX8_queues_25 (lbX8_queues_25 hcv ih) h
    split at h
    · rename_i e; subst e; exact jeX8_queues_45 (lbX8_queues_45 hcv qfu) h
    cases h) 400 (pc := 11) (L := [.ref x0, .int x1, .int x2, .int x3, .int x4, .null]) (S := []) h
theorem npX8_queues : (parseMethodDescriptor (qmy 253).desc).map (fun d => d.parameters.length) = some 0 := by decide +kernel
set_option maxRecDepth 100000 in
theorem gdX8_queues {base : Nat} {D : va_G} {ca : Nat → ClassId} {cv : Nat → Value} (hcv : ∀ j, (cv j).category = 1) {a0 : Nat} {μ : qM} {r : qR} (h : fX8_queues a0 μ = some r) : qGood false base D ca cv 3 253 [.ref a0] μ r := by
  unfold fX8_queues at h
  split at h
  · rename_i hk0
    exact qgood_of (by decide) (by omega) hcv (Or.inr ⟨by decide +kernel, hk0⟩) npX8_queues rfl (Nat.le_of_ble_eq_true rfl) rfl (qblk_ev2 (cf := cfX8_queues) (st := (fun n => qin [11, 25, 45] n)) (K := (fun pc L S μ => if pc = 11 then jX8_queues_11 (fX8_queues_11 qfu) L S μ else none)) (cd := qcX8_queues) (M := 253) (d0 := 2) rfl qcok_X8_queues (Nat.le_refl _) (hcX8_queues hcv) (by
    intro pc L S μ r h
    split at h
    · rename_i e; subst e; exact jeX8_queues_11 (lbX8_queues_11 hcv qfu) h
    cases h) 400 (pc := 0) (L := qent [.ref a0] 6) (S := []) h)
  · cases h
theorem gaX8_queues {base : Nat} {D : va_G} {ca : Nat → ClassId} {cv : Nat → Value} (hcv : ∀ j, (cv j).category = 1) {l : List Value} {μ : qM} {r : qR} (h : aX8_queues l μ = some r) : qGood false base D ca cv 3 253 l μ r := by
  unfold aX8_queues at h
  split at h
  · exact gdX8_queues hcv h
  · cases h
noncomputable def fX8_sumOf_9 (k4 : Nat → Int32 → Int32 → qM → Option qR) : Nat → Nat → Int32 → Int32 → Int32 → qM → Option qR
  | 0 => fun _ _ _ _ _ => none
  | n + 1 => fun x0 x1 x2 x3 μ =>
    if (8 : Int32) ≤ x3 then
      k4 x0 x1 (x2 + (1 : Int32)) μ
    else
      qbnd (fX8_held x0 x3 x2 μ) fun r1 =>
      fX8_sumOf_9 k4 n x0 (((31 : Int32) * x1) + r1.1) x2 (x3 + (1 : Int32)) r1.2.2
noncomputable def fX8_sumOf_4 : Nat → Nat → Int32 → Int32 → qM → Option qR
  | 0 => fun _ _ _ _ => none
  | n + 1 => fun x0 x1 x2 μ =>
    if (85 : Int32) ≤ x2 then
      some (x1, 0, μ)
    else
      fX8_sumOf_9 (fX8_sumOf_4 n) qfu x0 x1 x2 (0 : Int32) μ
noncomputable def fX8_sumOf (a0 : Nat) (μ : qM) : Option qR :=
  fX8_sumOf_4 qfu a0 (7 : Int32) (0 : Int32) μ
noncomputable def aX8_sumOf (l : List Value) (μ : qM) : Option qR := match l with
  | [.ref x0] => fX8_sumOf x0 μ
  | _ => none
noncomputable def cfX8_sumOf : qF := fun n l μ => if n = 172 then aX8_held l μ else none
theorem hcX8_sumOf {base : Nat} {D : va_G} {ca : Nat → ClassId} {cv : Nat → Value} (hcv : ∀ j, (cv j).category = 1) : ∀ M as μ r, cfX8_sumOf M as μ = some r → qGood false base D ca cv 1 M as μ r := by
  intro M as μ r h
  unfold cfX8_sumOf at h
  split at h
  · rename_i e; subst e; exact (gaX8_held hcv h).mono (by omega)
  cases h
def jX8_sumOf_4 (f : Nat → Int32 → Int32 → qM → Option qR) (L S : List Value) (μ : qM) : Option qR := match L, S with
  | [.ref x0, .int x1, .int x2, _], [] => f x0 x1 x2 μ
  | _, _ => none
theorem jeX8_sumOf_4 {base : Nat} {D : va_G} {ca : Nat → ClassId} {cv : Nat → Value} {d : Nat} {f : Nat → Int32 → Int32 → qM → Option qR} (hf : ∀ (x0 : Nat) (x1 : Int32) (x2 : Int32) (μ : qM) (r : qR), f x0 x1 x2 μ = some r → qEv false base D ca cv d 254 r 4 [.ref x0, .int x1, .int x2, .null] [] μ) {L S : List Value} {μ : qM} {r : qR} (h : jX8_sumOf_4 f L S μ = some r) : qEv false base D ca cv d 254 r 4 L S μ := by
  unfold jX8_sumOf_4 at h
  split at h
  · exact (hf _ _ _ _ _ h).le rfl ⟨Or.inr rfl, Or.inr rfl, Or.inr rfl, Or.inl rfl, trivial⟩
  · cases h
def jX8_sumOf_9 (f : Nat → Int32 → Int32 → Int32 → qM → Option qR) (L S : List Value) (μ : qM) : Option qR := match L, S with
  | [.ref x0, .int x1, .int x2, .int x3], [] => f x0 x1 x2 x3 μ
  | _, _ => none
theorem jeX8_sumOf_9 {base : Nat} {D : va_G} {ca : Nat → ClassId} {cv : Nat → Value} {d : Nat} {f : Nat → Int32 → Int32 → Int32 → qM → Option qR} (hf : ∀ (x0 : Nat) (x1 : Int32) (x2 : Int32) (x3 : Int32) (μ : qM) (r : qR), f x0 x1 x2 x3 μ = some r → qEv false base D ca cv d 254 r 9 [.ref x0, .int x1, .int x2, .int x3] [] μ) {L S : List Value} {μ : qM} {r : qR} (h : jX8_sumOf_9 f L S μ = some r) : qEv false base D ca cv d 254 r 9 L S μ := by
  unfold jX8_sumOf_9 at h
  split at h
  · exact (hf _ _ _ _ _ _ h).le rfl ⟨Or.inr rfl, Or.inr rfl, Or.inr rfl, Or.inr rfl, trivial⟩
  · cases h
set_option maxRecDepth 100000 in
theorem lbX8_sumOf_9 {base : Nat} {D : va_G} {ca : Nat → ClassId} {cv : Nat → Value} (hcv : ∀ j, (cv j).category = 1) {k4 : Nat → Int32 → Int32 → qM → Option qR} (hk4 : ∀ (y0 : Nat) (y1 : Int32) (y2 : Int32) (μ : qM) (r : qR), k4 y0 y1 y2 μ = some r → qEv false base D ca cv 2 254 r 4 [.ref y0, .int y1, .int y2, .null] [] μ) : ∀ (n : Nat) (x0 : Nat) (x1 : Int32) (x2 : Int32) (x3 : Int32) (μ : qM) (r : qR), fX8_sumOf_9 k4 n x0 x1 x2 x3 μ = some r → qEv false base D ca cv 2 254 r 9 [.ref x0, .int x1, .int x2, .int x3] [] μ := by
  intro n
  induction n with
  | zero => intro x0 x1 x2 x3 μ r h; cases (show (none : Option qR) = some r from h)
  | succ n ih =>
    intro x0 x1 x2 x3 μ r h
    exact qblk_ev2 (cf := cfX8_sumOf) (st := (fun n => qin [4, 9] n)) (K := (fun pc L S μ => if pc = 4 then jX8_sumOf_4 k4 L S μ else if pc = 9 then jX8_sumOf_9 (fX8_sumOf_9 k4 n) L S μ else none)) (cd := qcX8_sumOf) (M := 254) (d0 := 1) rfl qcok_X8_sumOf (Nat.le_refl _) (hcX8_sumOf hcv) (by
    intro pc L S μ r h
    split at h
    · rename_i e; subst e; exact jeX8_sumOf_4 hk4 h
    split at h
    · rename_i e; subst e; exact jeX8_sumOf_9 ih h
    cases h) 400 (pc := 9) (L := [.ref x0, .int x1, .int x2, .int x3]) (S := []) h
set_option maxRecDepth 100000 in
theorem lbX8_sumOf_4 {base : Nat} {D : va_G} {ca : Nat → ClassId} {cv : Nat → Value} (hcv : ∀ j, (cv j).category = 1) : ∀ (n : Nat) (x0 : Nat) (x1 : Int32) (x2 : Int32) (μ : qM) (r : qR), fX8_sumOf_4 n x0 x1 x2 μ = some r → qEv false base D ca cv 2 254 r 4 [.ref x0, .int x1, .int x2, .null] [] μ := by
  intro n
  induction n with
  | zero => intro x0 x1 x2 μ r h; cases (show (none : Option qR) = some r from h)
  | succ n ih =>
    intro x0 x1 x2 μ r h
    exact qblk_ev2 (cf := cfX8_sumOf) (st := (fun n => qin [4, 9] n)) (K := (fun pc L S μ => if pc = 9 then jX8_sumOf_9 (fX8_sumOf_9 (fX8_sumOf_4 n) qfu) L S μ else none)) (cd := qcX8_sumOf) (M := 254) (d0 := 1) rfl qcok_X8_sumOf (Nat.le_refl _) (hcX8_sumOf hcv) (by
    intro pc L S μ r h
    split at h
    · rename_i e; subst e; exact jeX8_sumOf_9 (lbX8_sumOf_9 hcv ih qfu) h
    cases h) 400 (pc := 4) (L := [.ref x0, .int x1, .int x2, .null]) (S := []) h
theorem npX8_sumOf : (parseMethodDescriptor (qmy 254).desc).map (fun d => d.parameters.length) = some 1 := by decide +kernel
set_option maxRecDepth 100000 in
theorem gdX8_sumOf {base : Nat} {D : va_G} {ca : Nat → ClassId} {cv : Nat → Value} (hcv : ∀ j, (cv j).category = 1) {a0 : Nat} {μ : qM} {r : qR} (h : fX8_sumOf a0 μ = some r) : qGood false base D ca cv 2 254 [.ref a0] μ r := by
  exact qgood_of (by decide) (by omega) hcv (Or.inl rfl) npX8_sumOf rfl (Nat.le_of_ble_eq_true rfl) rfl (qblk_ev2 (cf := cfX8_sumOf) (st := (fun n => qin [4, 9] n)) (K := (fun pc L S μ => if pc = 4 then jX8_sumOf_4 (fX8_sumOf_4 qfu) L S μ else none)) (cd := qcX8_sumOf) (M := 254) (d0 := 1) rfl qcok_X8_sumOf (Nat.le_refl _) (hcX8_sumOf hcv) (by
    intro pc L S μ r h
    split at h
    · rename_i e; subst e; exact jeX8_sumOf_4 (lbX8_sumOf_4 hcv qfu) h
    cases h) 400 (pc := 0) (L := qent [.ref a0] 4) (S := []) h)
theorem gaX8_sumOf {base : Nat} {D : va_G} {ca : Nat → ClassId} {cv : Nat → Value} (hcv : ∀ j, (cv j).category = 1) {l : List Value} {μ : qM} {r : qR} (h : aX8_sumOf l μ = some r) : qGood false base D ca cv 2 254 l μ r := by
  unfold aX8_sumOf at h
  split at h
  · exact gdX8_sumOf hcv h
  · cases h
noncomputable def gX8_sum (a0 : Nat) (μ : qM) : Option qR :=
  qbnd (oPutI μ 8 a0 0 (0 : Int32)) fun μ1 =>
  qbnd (oPutI μ1 8 a0 1 (0 : Int32)) fun μ2 =>
  qbnd (oGetP μ2 8 a0 14) fun v3 =>
  qbnd (fX8_sumOf v3 μ2) fun r4 =>
  qbnd (fX8_enters a0 (r4.1).toInt64 r4.2.2) fun r5 =>
  some ((0 : Int32), 0, r5.2.2)
noncomputable def fX8_sum (a0 : Nat) (μ : qM) : Option qR := if (qk μ a0).1 = 8 then gX8_sum a0 μ else none
noncomputable def aX8_sum (l : List Value) (μ : qM) : Option qR := match l with
  | [.ref x0] => fX8_sum x0 μ
  | _ => none
noncomputable def cfX8_sum : qF := fun n l μ => if n = 254 then aX8_sumOf l μ else if n = 144 then aX8_enters l μ else none
theorem hcX8_sum {base : Nat} {D : va_G} {ca : Nat → ClassId} {cv : Nat → Value} (hcv : ∀ j, (cv j).category = 1) : ∀ M as μ r, cfX8_sum M as μ = some r → qGood false base D ca cv 2 M as μ r := by
  intro M as μ r h
  unfold cfX8_sum at h
  split at h
  · rename_i e; subst e; exact (gaX8_sumOf hcv h).mono (by omega)
  split at h
  · rename_i e; subst e; exact (gaX8_enters hcv h).mono (by omega)
  cases h
theorem npX8_sum : (parseMethodDescriptor (qmy 255).desc).map (fun d => d.parameters.length) = some 0 := by decide +kernel
set_option maxRecDepth 100000 in
theorem gdX8_sum {base : Nat} {D : va_G} {ca : Nat → ClassId} {cv : Nat → Value} (hcv : ∀ j, (cv j).category = 1) {a0 : Nat} {μ : qM} {r : qR} (h : fX8_sum a0 μ = some r) : qGood false base D ca cv 3 255 [.ref a0] μ r := by
  unfold fX8_sum at h
  split at h
  · rename_i hk0
    exact qgood_of (by decide) (by omega) hcv (Or.inr ⟨by decide +kernel, hk0⟩) npX8_sum rfl (Nat.le_of_ble_eq_true rfl) rfl (qblk_ev2 (cf := cfX8_sum) (st := (fun n => qin [] n)) (K := (fun pc L S μ => none)) (cd := qcX8_sum) (M := 255) (d0 := 2) rfl qcok_X8_sum (Nat.le_refl _) (hcX8_sum hcv) (by
    intro pc L S μ r h
    cases h) 400 (pc := 0) (L := qent [.ref a0] 1) (S := []) h)
  · cases h
theorem gaX8_sum {base : Nat} {D : va_G} {ca : Nat → ClassId} {cv : Nat → Value} (hcv : ∀ j, (cv j).category = 1) {l : List Value} {μ : qM} {r : qR} (h : aX8_sum l μ = some r) : qGood false base D ca cv 3 255 l μ r := by
  unfold aX8_sum at h
  split at h
  · exact gdX8_sum hcv h
  · cases h
noncomputable def fX8_law_60 (x0 : Nat) (x2 : Int32) (x3 : Int32) (x4 : Int32) (s0 : Int32) (μ : qM) : Option qR :=
  qbnd (fX8_copies x0 μ) fun r1 =>
  qbnd (oGetP r1.2.2 8 x0 15) fun v2 =>
  qbnd (fX8_fellsAll x0 v2 r1.2.2) fun r3 =>
  qbnd (oGetP r3.2.2 8 x0 27) fun v4 =>
  qbnd (fX8_laysCode x0 v4 x3 r3.2.2) fun r5 =>
  qbnd (oPutI r5.2.2 8 x0 1 (0 : Int32)) fun μ6 =>
  qbnd (fX8_enters x0 (s0).toInt64 μ6) fun r7 =>
  qbnd (fX8_enters x0 (r3.1).toInt64 r7.2.2) fun r8 =>
  qbnd (fX8_enters x0 (x2).toInt64 r8.2.2) fun r9 =>
  if 0 ≤ x4 then
    some (x4, 0, r9.2.2)
  else
    some ((8 : Int32), 0, r9.2.2)
noncomputable def fX8_law_26 : Nat → Nat → Int32 → Int32 → Int32 → qM → Option qR
  | 0 => fun _ _ _ _ _ => none
  | n + 1 => fun x0 x2 x3 x4 μ =>
    qbnd (oGetI μ 8 x0 10) fun v1 =>
    if v1 ≤ x4 then
      qbnd (oGetP μ 8 x0 9) fun v2 =>
      qbnd (oGetI μ 8 x0 11) fun v3 =>
      qbnd (fX8_laysCode x0 v2 v3 μ) fun r4 =>
      qbnd (oGetP r4.2.2 8 x0 14) fun v5 =>
      qbnd (fX8_cheapest x0 v5 r4.2.2) fun r6 =>
      if 0 ≤ r6.1 then
        qbnd (oGetP r6.2.2 8 x0 14) fun v7 =>
        qbnd (fX8_cost x0 v7 r6.1 r6.2.2) fun r8 =>
        fX8_law_60 x0 x2 x3 r6.1 r8.1 r8.2.2
      else
        fX8_law_60 x0 x2 x3 r6.1 (0 : Int32) r6.2.2
    else
      qbnd (oGetP μ 8 x0 27) fun v9 =>
      qbnd (oGetP μ 8 x0 8) fun v10 =>
      qbnd (oLdI 20 μ v10 x4) fun v11 =>
      qbnd (oStI 20 μ v9 x4 v11) fun μ12 =>
      fX8_law_26 n x0 x2 x3 (x4 + (1 : Int32)) μ12
noncomputable def gX8_law (a0 : Nat) (μ : qM) : Option qR :=
  qbnd (oPutI μ 8 a0 0 (0 : Int32)) fun μ1 =>
  qbnd (fX8_readsRule a0 μ1) fun r2 =>
  if 0 ≤ r2.1 then
    qbnd (fX8_copies a0 r2.2.2) fun r3 =>
    qbnd (oGetP r3.2.2 8 a0 15) fun v4 =>
    qbnd (fX8_fellsAll a0 v4 r3.2.2) fun r5 =>
    qbnd (oGetI r5.2.2 8 a0 10) fun v6 =>
    fX8_law_26 qfu a0 r5.1 v6 (0 : Int32) r5.2.2
  else
    some (((r2.1 + (1 : Int32)) - (100 : Int32)), 0, r2.2.2)
noncomputable def fX8_law (a0 : Nat) (μ : qM) : Option qR := if (qk μ a0).1 = 8 then gX8_law a0 μ else none
noncomputable def aX8_law (l : List Value) (μ : qM) : Option qR := match l with
  | [.ref x0] => fX8_law x0 μ
  | _ => none
noncomputable def cfX8_law : qF := fun n l μ => if n = 165 then aX8_readsRule l μ else if n = 247 then aX8_copies l μ else if n = 215 then aX8_fellsAll l μ else if n = 166 then aX8_laysCode l μ else if n = 214 then aX8_cheapest l μ else if n = 189 then aX8_cost l μ else if n = 144 then aX8_enters l μ else none
theorem hcX8_law {base : Nat} {D : va_G} {ca : Nat → ClassId} {cv : Nat → Value} (hcv : ∀ j, (cv j).category = 1) : ∀ M as μ r, cfX8_law M as μ = some r → qGood false base D ca cv 1003 M as μ r := by
  intro M as μ r h
  unfold cfX8_law at h
  split at h
  · rename_i e; subst e; exact (gaX8_readsRule hcv h).mono (by omega)
  split at h
  · rename_i e; subst e; exact (gaX8_copies hcv h).mono (by omega)
  split at h
  · rename_i e; subst e; exact (gaX8_fellsAll hcv h).mono (by omega)
  split at h
  · rename_i e; subst e; exact (gaX8_laysCode hcv h).mono (by omega)
  split at h
  · rename_i e; subst e; exact (gaX8_cheapest hcv h).mono (by omega)
  split at h
  · rename_i e; subst e; exact (gaX8_cost hcv h).mono (by omega)
  split at h
  · rename_i e; subst e; exact (gaX8_enters hcv h).mono (by omega)
  cases h
def jX8_law_26 (f : Nat → Int32 → Int32 → Int32 → qM → Option qR) (L S : List Value) (μ : qM) : Option qR := match L, S with
  | [.ref x0, _, .int x2, .int x3, .int x4, _, _], [] => f x0 x2 x3 x4 μ
  | _, _ => none
theorem jeX8_law_26 {base : Nat} {D : va_G} {ca : Nat → ClassId} {cv : Nat → Value} {d : Nat} {f : Nat → Int32 → Int32 → Int32 → qM → Option qR} (hf : ∀ (x0 : Nat) (x2 : Int32) (x3 : Int32) (x4 : Int32) (μ : qM) (r : qR), f x0 x2 x3 x4 μ = some r → qEv false base D ca cv d 256 r 26 [.ref x0, .null, .int x2, .int x3, .int x4, .null, .null] [] μ) {L S : List Value} {μ : qM} {r : qR} (h : jX8_law_26 f L S μ = some r) : qEv false base D ca cv d 256 r 26 L S μ := by
  unfold jX8_law_26 at h
  split at h
  · exact (hf _ _ _ _ _ _ h).le rfl ⟨Or.inr rfl, Or.inl rfl, Or.inr rfl, Or.inr rfl, Or.inr rfl, Or.inl rfl, Or.inl rfl, trivial⟩
  · cases h
def jX8_law_60 (f : Nat → Int32 → Int32 → Int32 → Int32 → qM → Option qR) (L S : List Value) (μ : qM) : Option qR := match L, S with
  | [.ref x0, _, .int x2, .int x3, .int x4, _, _], [.int s0] => f x0 x2 x3 x4 s0 μ
  | _, _ => none
theorem jeX8_law_60 {base : Nat} {D : va_G} {ca : Nat → ClassId} {cv : Nat → Value} {d : Nat} {f : Nat → Int32 → Int32 → Int32 → Int32 → qM → Option qR} (hf : ∀ (x0 : Nat) (x2 : Int32) (x3 : Int32) (x4 : Int32) (s0 : Int32) (μ : qM) (r : qR), f x0 x2 x3 x4 s0 μ = some r → qEv false base D ca cv d 256 r 60 [.ref x0, .null, .int x2, .int x3, .int x4, .null, .null] [.int s0] μ) {L S : List Value} {μ : qM} {r : qR} (h : jX8_law_60 f L S μ = some r) : qEv false base D ca cv d 256 r 60 L S μ := by
  unfold jX8_law_60 at h
  split at h
  · exact (hf _ _ _ _ _ _ _ h).le rfl ⟨Or.inr rfl, Or.inl rfl, Or.inr rfl, Or.inr rfl, Or.inr rfl, Or.inl rfl, Or.inl rfl, trivial⟩
  · cases h
set_option maxRecDepth 100000 in
theorem lbX8_law_60 {base : Nat} {D : va_G} {ca : Nat → ClassId} {cv : Nat → Value} (hcv : ∀ j, (cv j).category = 1) (x0 : Nat) (x2 : Int32) (x3 : Int32) (x4 : Int32) (s0 : Int32) (μ : qM) (r : qR) (h : fX8_law_60 x0 x2 x3 x4 s0 μ = some r) : qEv false base D ca cv 1004 256 r 60 [.ref x0, .null, .int x2, .int x3, .int x4, .null, .null] [.int s0] μ := by
    exact qblk_ev2 (cf := cfX8_law) (st := (fun n => qin [26, 60] n)) (K := (fun pc L S μ => none)) (cd := qcX8_law) (M := 256) (d0 := 1003) rfl qcok_X8_law (Nat.le_refl _) (hcX8_law hcv) (by
    intro pc L S μ r h
    cases h) 400 (pc := 60) (L := [.ref x0, .null, .int x2, .int x3, .int x4, .null, .null]) (S := [.int s0]) h
set_option maxRecDepth 100000 in
theorem lbX8_law_26 {base : Nat} {D : va_G} {ca : Nat → ClassId} {cv : Nat → Value} (hcv : ∀ j, (cv j).category = 1) : ∀ (n : Nat) (x0 : Nat) (x2 : Int32) (x3 : Int32) (x4 : Int32) (μ : qM) (r : qR), fX8_law_26 n x0 x2 x3 x4 μ = some r → qEv false base D ca cv 1004 256 r 26 [.ref x0, .null, .int x2, .int x3, .int x4, .null, .null] [] μ := by
  intro n
  induction n with
  | zero => intro x0 x2 x3 x4 μ r h; cases (show (none : Option qR) = some r from h)
  | succ n ih =>
    intro x0 x2 x3 x4 μ r h
    exact qblk_ev2 (cf := cfX8_law) (st := (fun n => qin [26, 60] n)) (K := (fun pc L S μ => if pc = 26 then jX8_law_26 (fX8_law_26 n) L S μ else if pc = 60 then jX8_law_60 (fX8_law_60) L S μ else none)) (cd := qcX8_law) (M := 256) (d0 := 1003) rfl qcok_X8_law (Nat.le_refl _) (hcX8_law hcv) (by
    intro pc L S μ r h
    split at h
    · rename_i e; subst e; exact jeX8_law_26 ih h
    split at h
    · rename_i e; subst e; exact jeX8_law_60 (lbX8_law_60 hcv) h
    cases h) 400 (pc := 26) (L := [.ref x0, .null, .int x2, .int x3, .int x4, .null, .null]) (S := []) h
theorem npX8_law : (parseMethodDescriptor (qmy 256).desc).map (fun d => d.parameters.length) = some 0 := by decide +kernel
set_option maxRecDepth 100000 in
theorem gdX8_law {base : Nat} {D : va_G} {ca : Nat → ClassId} {cv : Nat → Value} (hcv : ∀ j, (cv j).category = 1) {a0 : Nat} {μ : qM} {r : qR} (h : fX8_law a0 μ = some r) : qGood false base D ca cv 1004 256 [.ref a0] μ r := by
  unfold fX8_law at h
  split at h
  · rename_i hk0
    exact qgood_of (by decide) (by omega) hcv (Or.inr ⟨by decide +kernel, hk0⟩) npX8_law rfl (Nat.le_of_ble_eq_true rfl) rfl (qblk_ev2 (cf := cfX8_law) (st := (fun n => qin [26, 60] n)) (K := (fun pc L S μ => if pc = 26 then jX8_law_26 (fX8_law_26 qfu) L S μ else none)) (cd := qcX8_law) (M := 256) (d0 := 1003) rfl qcok_X8_law (Nat.le_refl _) (hcX8_law hcv) (by
    intro pc L S μ r h
    split at h
    · rename_i e; subst e; exact jeX8_law_26 (lbX8_law_26 hcv qfu) h
    cases h) 400 (pc := 0) (L := qent [.ref a0] 7) (S := []) h)
  · cases h
theorem gaX8_law {base : Nat} {D : va_G} {ca : Nat → ClassId} {cv : Nat → Value} (hcv : ∀ j, (cv j).category = 1) {l : List Value} {μ : qM} {r : qR} (h : aX8_law l μ = some r) : qGood false base D ca cv 1004 256 l μ r := by
  unfold aX8_law at h
  split at h
  · exact gdX8_law hcv h
  · cases h
noncomputable def gX8_draws (a0 : Nat) (a1 : Int32) (μ : qM) : Option qR :=
  qbnd (oGetI μ 8 a0 28) fun v1 =>
  qbnd (oPutI μ 8 a0 28 ((v1 * (1103515245 : Int32)) + (12345 : Int32))) fun μ2 =>
  qbnd (oGetI μ2 8 a0 28) fun v3 =>
  if a1 = 0 then none else
  some (((qush v3 (16 : Int32)) - (qush v3 (16 : Int32)) / a1 * a1), 0, μ2)
noncomputable def fX8_draws (a0 : Nat) (a1 : Int32) (μ : qM) : Option qR := if (qk μ a0).1 = 8 then gX8_draws a0 a1 μ else none
noncomputable def aX8_draws (l : List Value) (μ : qM) : Option qR := match l with
  | [.ref x0, .int x1] => fX8_draws x0 x1 μ
  | _ => none
noncomputable def cfX8_draws : qF := fun n l μ => none
theorem hcX8_draws {base : Nat} {D : va_G} {ca : Nat → ClassId} {cv : Nat → Value} (hcv : ∀ j, (cv j).category = 1) : ∀ M as μ r, cfX8_draws M as μ = some r → qGood false base D ca cv 0 M as μ r := by
  intro M as μ r h
  cases h
theorem npX8_draws : (parseMethodDescriptor (qmy 257).desc).map (fun d => d.parameters.length) = some 1 := by decide +kernel
set_option maxRecDepth 100000 in
theorem gdX8_draws {base : Nat} {D : va_G} {ca : Nat → ClassId} {cv : Nat → Value} (hcv : ∀ j, (cv j).category = 1) {a0 : Nat} {a1 : Int32} {μ : qM} {r : qR} (h : fX8_draws a0 a1 μ = some r) : qGood false base D ca cv 1 257 [.ref a0, .int a1] μ r := by
  unfold fX8_draws at h
  split at h
  · rename_i hk0
    exact qgood_of (by decide) (by omega) hcv (Or.inr ⟨by decide +kernel, hk0⟩) npX8_draws rfl (Nat.le_of_ble_eq_true rfl) rfl (qblk_ev2 (cf := cfX8_draws) (st := (fun n => qin [] n)) (K := (fun pc L S μ => none)) (cd := qcX8_draws) (M := 257) (d0 := 0) rfl qcok_X8_draws (Nat.le_refl _) (hcX8_draws hcv) (by
    intro pc L S μ r h
    cases h) 400 (pc := 0) (L := qent [.ref a0, .int a1] 2) (S := []) h)
  · cases h
theorem gaX8_draws {base : Nat} {D : va_G} {ca : Nat → ClassId} {cv : Nat → Value} (hcv : ∀ j, (cv j).category = 1) {l : List Value} {μ : qM} {r : qR} (h : aX8_draws l μ = some r) : qGood false base D ca cv 1 257 l μ r := by
  unfold aX8_draws at h
  split at h
  · exact gdX8_draws hcv h
  · cases h
noncomputable def gX8_drawnAct (a0 : Nat) (a1 : Int32) (a2 : Int32) (μ : qM) : Option qR :=
  if a1 = 0 then
    qbnd (oGetP μ 8 a0 15) fun v16 =>
    qbnd (fX8_beginsOne a0 v16 a2 μ) fun r17 =>
    some (0, 0, r17.2.2)
  else
    if (4 : Int32) ≤ a1 then
      if a1 = (4 : Int32) then
        qbnd (oGetP μ 8 a0 15) fun v9 =>
        qbnd (fX8_draws a0 (9 : Int32) μ) fun r10 =>
        qbnd (fX8_worksOne v9 a2 ((1 : Int32) + r10.1) r10.2.2) fun r11 =>
        some (0, 0, r11.2.2)
      else
        qbnd (fX8_draws a0 (3 : Int32) μ) fun r1 =>
        if r1.1 = 0 then
          qbnd (oGetP r1.2.2 8 a0 15) fun v7 =>
          qbnd (fX8_endsOne a0 v7 a2 r1.2.2) fun r8 =>
          some (0, 0, r8.2.2)
        else
          if r1.1 = (1 : Int32) then
            qbnd (oGetP r1.2.2 8 a0 15) fun v5 =>
            qbnd (fX8_fellsAll a0 v5 r1.2.2) fun r6 =>
            some (0, 0, r6.2.2)
          else
            qbnd (oGetP r1.2.2 8 a0 15) fun v2 =>
            qbnd (fX8_draws a0 (21 : Int32) r1.2.2) fun r3 =>
            qbnd (fX8_gathersAt a0 v2 a2 r3.1 r3.2.2) fun r4 =>
            some (0, 0, r4.2.2)
    else
      qbnd (fX8_draws a0 (85 : Int32) μ) fun r12 =>
      qbnd (oGetP r12.2.2 8 a0 15) fun v13 =>
      qbnd (fX8_draws a0 (6 : Int32) r12.2.2) fun r14 =>
      qbnd (fX8_locksOne a0 v13 a2 r12.1 ((1 : Int32) + r14.1) r14.2.2) fun r15 =>
      some (0, 0, r15.2.2)
noncomputable def fX8_drawnAct (a0 : Nat) (a1 : Int32) (a2 : Int32) (μ : qM) : Option qR := if (qk μ a0).1 = 8 then gX8_drawnAct a0 a1 a2 μ else none
noncomputable def aX8_drawnAct (l : List Value) (μ : qM) : Option qR := match l with
  | [.ref x0, .int x1, .int x2] => fX8_drawnAct x0 x1 x2 μ
  | _ => none
noncomputable def cfX8_drawnAct : qF := fun n l μ => if n = 207 then aX8_beginsOne l μ else if n = 257 then aX8_draws l μ else if n = 206 then aX8_locksOne l μ else if n = 208 then aX8_worksOne l μ else if n = 211 then aX8_endsOne l μ else if n = 215 then aX8_fellsAll l μ else if n = 212 then aX8_gathersAt l μ else none
theorem hcX8_drawnAct {base : Nat} {D : va_G} {ca : Nat → ClassId} {cv : Nat → Value} (hcv : ∀ j, (cv j).category = 1) : ∀ M as μ r, cfX8_drawnAct M as μ = some r → qGood false base D ca cv 1004 M as μ r := by
  intro M as μ r h
  unfold cfX8_drawnAct at h
  split at h
  · rename_i e; subst e; exact (gaX8_beginsOne hcv h).mono (by omega)
  split at h
  · rename_i e; subst e; exact (gaX8_draws hcv h).mono (by omega)
  split at h
  · rename_i e; subst e; exact (gaX8_locksOne hcv h).mono (by omega)
  split at h
  · rename_i e; subst e; exact (gaX8_worksOne hcv h).mono (by omega)
  split at h
  · rename_i e; subst e; exact (gaX8_endsOne hcv h).mono (by omega)
  split at h
  · rename_i e; subst e; exact (gaX8_fellsAll hcv h).mono (by omega)
  split at h
  · rename_i e; subst e; exact (gaX8_gathersAt hcv h).mono (by omega)
  cases h
theorem npX8_drawnAct : (parseMethodDescriptor (qmy 258).desc).map (fun d => d.parameters.length) = some 2 := by decide +kernel
set_option maxRecDepth 100000 in
theorem gdX8_drawnAct {base : Nat} {D : va_G} {ca : Nat → ClassId} {cv : Nat → Value} (hcv : ∀ j, (cv j).category = 1) {a0 : Nat} {a1 : Int32} {a2 : Int32} {μ : qM} {r : qR} (h : fX8_drawnAct a0 a1 a2 μ = some r) : qGood false base D ca cv 1005 258 [.ref a0, .int a1, .int a2] μ r := by
  unfold fX8_drawnAct at h
  split at h
  · rename_i hk0
    exact qgood_of (by decide) (by omega) hcv (Or.inr ⟨by decide +kernel, hk0⟩) npX8_drawnAct rfl (Nat.le_of_ble_eq_true rfl) rfl (qblk_ev2 (cf := cfX8_drawnAct) (st := (fun n => qin [] n)) (K := (fun pc L S μ => none)) (cd := qcX8_drawnAct) (M := 258) (d0 := 1004) rfl qcok_X8_drawnAct (Nat.le_refl _) (hcX8_drawnAct hcv) (by
    intro pc L S μ r h
    cases h) 400 (pc := 0) (L := qent [.ref a0, .int a1, .int a2] 4) (S := []) h)
  · cases h
theorem gaX8_drawnAct {base : Nat} {D : va_G} {ca : Nat → ClassId} {cv : Nat → Value} (hcv : ∀ j, (cv j).category = 1) {l : List Value} {μ : qM} {r : qR} (h : aX8_drawnAct l μ = some r) : qGood false base D ca cv 1005 258 l μ r := by
  unfold aX8_drawnAct at h
  split at h
  · exact gdX8_drawnAct hcv h
  · cases h
noncomputable def fX8_fallsOf_4 : Nat → Nat → Int32 → Int32 → qM → Option qR
  | 0 => fun _ _ _ _ => none
  | n + 1 => fun x0 x1 x2 μ =>
    if (8 : Int32) ≤ x2 then
      some (x1, 0, μ)
    else
      qbnd (oLdI 20 μ x0 ((704 : Int32) + x2)) fun v1 =>
      fX8_fallsOf_4 n x0 (x1 + v1) (x2 + (1 : Int32)) μ
noncomputable def fX8_fallsOf (a0 : Nat) (μ : qM) : Option qR :=
  fX8_fallsOf_4 qfu a0 (0 : Int32) (0 : Int32) μ
noncomputable def aX8_fallsOf (l : List Value) (μ : qM) : Option qR := match l with
  | [.ref x0] => fX8_fallsOf x0 μ
  | _ => none
noncomputable def cfX8_fallsOf : qF := fun n l μ => none
theorem hcX8_fallsOf {base : Nat} {D : va_G} {ca : Nat → ClassId} {cv : Nat → Value} (hcv : ∀ j, (cv j).category = 1) : ∀ M as μ r, cfX8_fallsOf M as μ = some r → qGood false base D ca cv 0 M as μ r := by
  intro M as μ r h
  cases h
def jX8_fallsOf_4 (f : Nat → Int32 → Int32 → qM → Option qR) (L S : List Value) (μ : qM) : Option qR := match L, S with
  | [.ref x0, .int x1, .int x2], [] => f x0 x1 x2 μ
  | _, _ => none
theorem jeX8_fallsOf_4 {base : Nat} {D : va_G} {ca : Nat → ClassId} {cv : Nat → Value} {d : Nat} {f : Nat → Int32 → Int32 → qM → Option qR} (hf : ∀ (x0 : Nat) (x1 : Int32) (x2 : Int32) (μ : qM) (r : qR), f x0 x1 x2 μ = some r → qEv false base D ca cv d 259 r 4 [.ref x0, .int x1, .int x2] [] μ) {L S : List Value} {μ : qM} {r : qR} (h : jX8_fallsOf_4 f L S μ = some r) : qEv false base D ca cv d 259 r 4 L S μ := by
  unfold jX8_fallsOf_4 at h
  split at h
  · exact (hf _ _ _ _ _ h).le rfl ⟨Or.inr rfl, Or.inr rfl, Or.inr rfl, trivial⟩
  · cases h
set_option maxRecDepth 100000 in
theorem lbX8_fallsOf_4 {base : Nat} {D : va_G} {ca : Nat → ClassId} {cv : Nat → Value} (hcv : ∀ j, (cv j).category = 1) : ∀ (n : Nat) (x0 : Nat) (x1 : Int32) (x2 : Int32) (μ : qM) (r : qR), fX8_fallsOf_4 n x0 x1 x2 μ = some r → qEv false base D ca cv 1 259 r 4 [.ref x0, .int x1, .int x2] [] μ := by
  intro n
  induction n with
  | zero => intro x0 x1 x2 μ r h; cases (show (none : Option qR) = some r from h)
  | succ n ih =>
    intro x0 x1 x2 μ r h
    exact qblk_ev2 (cf := cfX8_fallsOf) (st := (fun n => qin [4] n)) (K := (fun pc L S μ => if pc = 4 then jX8_fallsOf_4 (fX8_fallsOf_4 n) L S μ else none)) (cd := qcX8_fallsOf) (M := 259) (d0 := 0) rfl qcok_X8_fallsOf (Nat.le_refl _) (hcX8_fallsOf hcv) (by
    intro pc L S μ r h
    split at h
    · rename_i e; subst e; exact jeX8_fallsOf_4 ih h
    cases h) 400 (pc := 4) (L := [.ref x0, .int x1, .int x2]) (S := []) h
theorem npX8_fallsOf : (parseMethodDescriptor (qmy 259).desc).map (fun d => d.parameters.length) = some 1 := by decide +kernel
set_option maxRecDepth 100000 in
theorem gdX8_fallsOf {base : Nat} {D : va_G} {ca : Nat → ClassId} {cv : Nat → Value} (hcv : ∀ j, (cv j).category = 1) {a0 : Nat} {μ : qM} {r : qR} (h : fX8_fallsOf a0 μ = some r) : qGood false base D ca cv 1 259 [.ref a0] μ r := by
  exact qgood_of (by decide) (by omega) hcv (Or.inl rfl) npX8_fallsOf rfl (Nat.le_of_ble_eq_true rfl) rfl (qblk_ev2 (cf := cfX8_fallsOf) (st := (fun n => qin [4] n)) (K := (fun pc L S μ => if pc = 4 then jX8_fallsOf_4 (fX8_fallsOf_4 qfu) L S μ else none)) (cd := qcX8_fallsOf) (M := 259) (d0 := 0) rfl qcok_X8_fallsOf (Nat.le_refl _) (hcX8_fallsOf hcv) (by
    intro pc L S μ r h
    split at h
    · rename_i e; subst e; exact jeX8_fallsOf_4 (lbX8_fallsOf_4 hcv qfu) h
    cases h) 400 (pc := 0) (L := qent [.ref a0] 3) (S := []) h)
theorem gaX8_fallsOf {base : Nat} {D : va_G} {ca : Nat → ClassId} {cv : Nat → Value} (hcv : ∀ j, (cv j).category = 1) {l : List Value} {μ : qM} {r : qR} (h : aX8_fallsOf l μ = some r) : qGood false base D ca cv 1 259 l μ r := by
  unfold aX8_fallsOf at h
  split at h
  · exact gdX8_fallsOf hcv h
  · cases h
noncomputable def fX8_years_18 : Nat → Nat → Int32 → Int32 → qM → Option qR
  | 0 => fun _ _ _ _ => none
  | n + 1 => fun x0 x2 x3 μ =>
    if x2 ≤ x3 then
      qbnd (oPutI μ 8 x0 1 (0 : Int32)) fun μ1 =>
      qbnd (oGetP μ1 8 x0 15) fun v2 =>
      qbnd (fX8_sumOf v2 μ1) fun r3 =>
      qbnd (fX8_enters x0 (r3.1).toInt64 r3.2.2) fun r4 =>
      qbnd (oGetP r4.2.2 8 x0 15) fun v5 =>
      qbnd (fX8_so v5 (1 : Int32) r4.2.2) fun r6 =>
      qbnd (fX8_enters x0 (r6.1).toInt64 r6.2.2) fun r7 =>
      qbnd (oGetP r7.2.2 8 x0 15) fun v8 =>
      qbnd (fX8_fallsOf v8 r7.2.2) fun r9 =>
      qbnd (fX8_enters x0 (r9.1).toInt64 r9.2.2) fun r10 =>
      qbnd (oGetP r10.2.2 8 x0 15) fun v11 =>
      qbnd (fX8_so v11 (2 : Int32) r10.2.2) fun r12 =>
      qbnd (fJ6_bitCount_0f7a4 r12.1 r12.2.2) fun r13 =>
      some (r13.1, 0, r13.2.2)
    else
      qbnd (fX8_draws x0 (6 : Int32) μ) fun r14 =>
      qbnd (fX8_draws x0 (8 : Int32) r14.2.2) fun r15 =>
      qbnd (fX8_drawnAct x0 r14.1 r15.1 r15.2.2) fun r16 =>
      fX8_years_18 n x0 x2 (x3 + (1 : Int32)) r16.2.2
noncomputable def gX8_years (a0 : Nat) (a1 : Int32) (a2 : Int32) (μ : qM) : Option qR :=
  qbnd (oPutI μ 8 a0 0 (0 : Int32)) fun μ1 =>
  qbnd (fX8_in (a2).toInt64 (1 : Int64) (40 : Int64) μ1) fun r2 =>
  if r2.1 = 0 then
    some ((-1 : Int32), 0, r2.2.2)
  else
    qbnd (oPutI r2.2.2 8 a0 28 a1) fun μ3 =>
    qbnd (fX8_copies a0 μ3) fun r4 =>
    fX8_years_18 qfu a0 a2 (0 : Int32) r4.2.2
noncomputable def fX8_years (a0 : Nat) (a1 : Int32) (a2 : Int32) (μ : qM) : Option qR := if (qk μ a0).1 = 8 then gX8_years a0 a1 a2 μ else none
noncomputable def aX8_years (l : List Value) (μ : qM) : Option qR := match l with
  | [.ref x0, .int x1, .int x2] => fX8_years x0 x1 x2 μ
  | _ => none
noncomputable def cfX8_years : qF := fun n l μ => if n = 141 then aX8_in l μ else if n = 247 then aX8_copies l μ else if n = 257 then aX8_draws l μ else if n = 258 then aX8_drawnAct l μ else if n = 254 then aX8_sumOf l μ else if n = 144 then aX8_enters l μ else if n = 175 then aX8_so l μ else if n = 259 then aX8_fallsOf l μ else if n = 267 then aJ6_bitCount_0f7a4 l μ else none
theorem hcX8_years {base : Nat} {D : va_G} {ca : Nat → ClassId} {cv : Nat → Value} (hcv : ∀ j, (cv j).category = 1) : ∀ M as μ r, cfX8_years M as μ = some r → qGood false base D ca cv 1005 M as μ r := by
  intro M as μ r h
  unfold cfX8_years at h
  split at h
  · rename_i e; subst e; exact (gaX8_in hcv h).mono (by omega)
  split at h
  · rename_i e; subst e; exact (gaX8_copies hcv h).mono (by omega)
  split at h
  · rename_i e; subst e; exact (gaX8_draws hcv h).mono (by omega)
  split at h
  · rename_i e; subst e; exact (gaX8_drawnAct hcv h).mono (by omega)
  split at h
  · rename_i e; subst e; exact (gaX8_sumOf hcv h).mono (by omega)
  split at h
  · rename_i e; subst e; exact (gaX8_enters hcv h).mono (by omega)
  split at h
  · rename_i e; subst e; exact (gaX8_so hcv h).mono (by omega)
  split at h
  · rename_i e; subst e; exact (gaX8_fallsOf hcv h).mono (by omega)
  split at h
  · rename_i e; subst e; exact (gaJ6_bitCount_0f7a4 hcv h).mono (by omega)
  cases h
def jX8_years_18 (f : Nat → Int32 → Int32 → qM → Option qR) (L S : List Value) (μ : qM) : Option qR := match L, S with
  | [.ref x0, _, .int x2, .int x3, _], [] => f x0 x2 x3 μ
  | _, _ => none
theorem jeX8_years_18 {base : Nat} {D : va_G} {ca : Nat → ClassId} {cv : Nat → Value} {d : Nat} {f : Nat → Int32 → Int32 → qM → Option qR} (hf : ∀ (x0 : Nat) (x2 : Int32) (x3 : Int32) (μ : qM) (r : qR), f x0 x2 x3 μ = some r → qEv false base D ca cv d 260 r 18 [.ref x0, .null, .int x2, .int x3, .null] [] μ) {L S : List Value} {μ : qM} {r : qR} (h : jX8_years_18 f L S μ = some r) : qEv false base D ca cv d 260 r 18 L S μ := by
  unfold jX8_years_18 at h
  split at h
  · exact (hf _ _ _ _ _ h).le rfl ⟨Or.inr rfl, Or.inl rfl, Or.inr rfl, Or.inr rfl, Or.inl rfl, trivial⟩
  · cases h
set_option maxRecDepth 100000 in
theorem lbX8_years_18 {base : Nat} {D : va_G} {ca : Nat → ClassId} {cv : Nat → Value} (hcv : ∀ j, (cv j).category = 1) : ∀ (n : Nat) (x0 : Nat) (x2 : Int32) (x3 : Int32) (μ : qM) (r : qR), fX8_years_18 n x0 x2 x3 μ = some r → qEv false base D ca cv 1006 260 r 18 [.ref x0, .null, .int x2, .int x3, .null] [] μ := by
  intro n
  induction n with
  | zero => intro x0 x2 x3 μ r h; cases (show (none : Option qR) = some r from h)
  | succ n ih =>
    intro x0 x2 x3 μ r h
    exact qblk_ev2 (cf := cfX8_years) (st := (fun n => qin [18] n)) (K := (fun pc L S μ => if pc = 18 then jX8_years_18 (fX8_years_18 n) L S μ else none)) (cd := qcX8_years) (M := 260) (d0 := 1005) rfl qcok_X8_years (Nat.le_refl _) (hcX8_years hcv) (by
    intro pc L S μ r h
    split at h
    · rename_i e; subst e; exact jeX8_years_18 ih h
    cases h) 400 (pc := 18) (L := [.ref x0, .null, .int x2, .int x3, .null]) (S := []) h
theorem npX8_years : (parseMethodDescriptor (qmy 260).desc).map (fun d => d.parameters.length) = some 2 := by decide +kernel
set_option maxRecDepth 100000 in
theorem gdX8_years {base : Nat} {D : va_G} {ca : Nat → ClassId} {cv : Nat → Value} (hcv : ∀ j, (cv j).category = 1) {a0 : Nat} {a1 : Int32} {a2 : Int32} {μ : qM} {r : qR} (h : fX8_years a0 a1 a2 μ = some r) : qGood false base D ca cv 1006 260 [.ref a0, .int a1, .int a2] μ r := by
  unfold fX8_years at h
  split at h
  · rename_i hk0
    exact qgood_of (by decide) (by omega) hcv (Or.inr ⟨by decide +kernel, hk0⟩) npX8_years rfl (Nat.le_of_ble_eq_true rfl) rfl (qblk_ev2 (cf := cfX8_years) (st := (fun n => qin [18] n)) (K := (fun pc L S μ => if pc = 18 then jX8_years_18 (fX8_years_18 qfu) L S μ else none)) (cd := qcX8_years) (M := 260) (d0 := 1005) rfl qcok_X8_years (Nat.le_refl _) (hcX8_years hcv) (by
    intro pc L S μ r h
    split at h
    · rename_i e; subst e; exact jeX8_years_18 (lbX8_years_18 hcv qfu) h
    cases h) 400 (pc := 0) (L := qent [.ref a0, .int a1, .int a2] 5) (S := []) h)
  · cases h
theorem gaX8_years {base : Nat} {D : va_G} {ca : Nat → ClassId} {cv : Nat → Value} (hcv : ∀ j, (cv j).category = 1) {l : List Value} {μ : qM} {r : qR} (h : aX8_years l μ = some r) : qGood false base D ca cv 1006 260 l μ r := by
  unfold aX8_years at h
  split at h
  · exact gdX8_years hcv h
  · cases h
noncomputable def fX8_keep_18 : Nat → Nat → Int32 → Int32 → qM → Option qR
  | 0 => fun _ _ _ _ => none
  | n + 1 => fun x0 x1 x2 μ =>
    if (755 : Int32) ≤ x2 then
      if qnz (1 : Int32) = (1 : Int32) then some ((1 : Int32), 0, μ) else none
    else
      qbnd (oGetP μ 8 x0 30) fun v1 =>
      qbnd (oGetP μ 8 x0 14) fun v2 =>
      qbnd (oLdI 20 μ v2 x2) fun v3 =>
      qbnd (oStI 20 μ v1 (((755 : Int32) * x1) + x2) v3) fun μ4 =>
      fX8_keep_18 n x0 x1 (x2 + (1 : Int32)) μ4
noncomputable def gX8_keep (a0 : Nat) (a1 : Int32) (μ : qM) : Option qR :=
  qbnd (oPutI μ 8 a0 0 (0 : Int32)) fun μ1 =>
  qbnd (fX8_in (a1).toInt64 (0 : Int64) (2 : Int64) μ1) fun r2 =>
  if r2.1 = 0 then
    if qnz (0 : Int32) = (0 : Int32) then some ((0 : Int32), 0, r2.2.2) else none
  else
    qbnd (oGetP r2.2.2 8 a0 29) fun v3 =>
    qbnd (oStI 23 r2.2.2 v3 a1 (qnz (1 : Int32))) fun μ4 =>
    fX8_keep_18 qfu a0 a1 (0 : Int32) μ4
noncomputable def fX8_keep (a0 : Nat) (a1 : Int32) (μ : qM) : Option qR := if (qk μ a0).1 = 8 then gX8_keep a0 a1 μ else none
noncomputable def aX8_keep (l : List Value) (μ : qM) : Option qR := match l with
  | [.ref x0, .int x1] => fX8_keep x0 x1 μ
  | _ => none
noncomputable def cfX8_keep : qF := fun n l μ => if n = 141 then aX8_in l μ else none
theorem hcX8_keep {base : Nat} {D : va_G} {ca : Nat → ClassId} {cv : Nat → Value} (hcv : ∀ j, (cv j).category = 1) : ∀ M as μ r, cfX8_keep M as μ = some r → qGood false base D ca cv 1 M as μ r := by
  intro M as μ r h
  unfold cfX8_keep at h
  split at h
  · rename_i e; subst e; exact (gaX8_in hcv h).mono (by omega)
  cases h
def jX8_keep_18 (f : Nat → Int32 → Int32 → qM → Option qR) (L S : List Value) (μ : qM) : Option qR := match L, S with
  | [.ref x0, .int x1, .int x2], [] => f x0 x1 x2 μ
  | _, _ => none
theorem jeX8_keep_18 {base : Nat} {D : va_G} {ca : Nat → ClassId} {cv : Nat → Value} {d : Nat} {f : Nat → Int32 → Int32 → qM → Option qR} (hf : ∀ (x0 : Nat) (x1 : Int32) (x2 : Int32) (μ : qM) (r : qR), f x0 x1 x2 μ = some r → qEv false base D ca cv d 261 r 18 [.ref x0, .int x1, .int x2] [] μ) {L S : List Value} {μ : qM} {r : qR} (h : jX8_keep_18 f L S μ = some r) : qEv false base D ca cv d 261 r 18 L S μ := by
  unfold jX8_keep_18 at h
  split at h
  · exact (hf _ _ _ _ _ h).le rfl ⟨Or.inr rfl, Or.inr rfl, Or.inr rfl, trivial⟩
  · cases h
set_option maxRecDepth 100000 in
theorem lbX8_keep_18 {base : Nat} {D : va_G} {ca : Nat → ClassId} {cv : Nat → Value} (hcv : ∀ j, (cv j).category = 1) : ∀ (n : Nat) (x0 : Nat) (x1 : Int32) (x2 : Int32) (μ : qM) (r : qR), fX8_keep_18 n x0 x1 x2 μ = some r → qEv false base D ca cv 2 261 r 18 [.ref x0, .int x1, .int x2] [] μ := by
  intro n
  induction n with
  | zero => intro x0 x1 x2 μ r h; cases (show (none : Option qR) = some r from h)
  | succ n ih =>
    intro x0 x1 x2 μ r h
    exact qblk_ev2 (cf := cfX8_keep) (st := (fun n => qin [18] n)) (K := (fun pc L S μ => if pc = 18 then jX8_keep_18 (fX8_keep_18 n) L S μ else none)) (cd := qcX8_keep) (M := 261) (d0 := 1) rfl qcok_X8_keep (Nat.le_refl _) (hcX8_keep hcv) (by
    intro pc L S μ r h
    split at h
    · rename_i e; subst e; exact jeX8_keep_18 ih h
    cases h) 400 (pc := 18) (L := [.ref x0, .int x1, .int x2]) (S := []) h
theorem npX8_keep : (parseMethodDescriptor (qmy 261).desc).map (fun d => d.parameters.length) = some 1 := by decide +kernel
set_option maxRecDepth 100000 in
theorem gdX8_keep {base : Nat} {D : va_G} {ca : Nat → ClassId} {cv : Nat → Value} (hcv : ∀ j, (cv j).category = 1) {a0 : Nat} {a1 : Int32} {μ : qM} {r : qR} (h : fX8_keep a0 a1 μ = some r) : qGood false base D ca cv 2 261 [.ref a0, .int a1] μ r := by
  unfold fX8_keep at h
  split at h
  · rename_i hk0
    exact qgood_of (by decide) (by omega) hcv (Or.inr ⟨by decide +kernel, hk0⟩) npX8_keep rfl (Nat.le_of_ble_eq_true rfl) rfl (qblk_ev2 (cf := cfX8_keep) (st := (fun n => qin [18] n)) (K := (fun pc L S μ => if pc = 18 then jX8_keep_18 (fX8_keep_18 qfu) L S μ else none)) (cd := qcX8_keep) (M := 261) (d0 := 1) rfl qcok_X8_keep (Nat.le_refl _) (hcX8_keep hcv) (by
    intro pc L S μ r h
    split at h
    · rename_i e; subst e; exact jeX8_keep_18 (lbX8_keep_18 hcv qfu) h
    cases h) 400 (pc := 0) (L := qent [.ref a0, .int a1] 3) (S := []) h)
  · cases h
theorem gaX8_keep {base : Nat} {D : va_G} {ca : Nat → ClassId} {cv : Nat → Value} (hcv : ∀ j, (cv j).category = 1) {l : List Value} {μ : qM} {r : qR} (h : aX8_keep l μ = some r) : qGood false base D ca cv 2 261 l μ r := by
  unfold aX8_keep at h
  split at h
  · exact gdX8_keep hcv h
  · cases h
noncomputable def fX8_again_18 : Nat → Nat → Int32 → Int32 → qM → Option qR
  | 0 => fun _ _ _ _ => none
  | n + 1 => fun x0 x1 x2 μ =>
    if (755 : Int32) ≤ x2 then
      qbnd (oPutI μ 8 x0 18 (0 : Int32)) fun μ1 =>
      if qnz (1 : Int32) = (1 : Int32) then some ((1 : Int32), 0, μ1) else none
    else
      qbnd (oGetP μ 8 x0 14) fun v2 =>
      qbnd (oGetP μ 8 x0 30) fun v3 =>
      qbnd (oLdI 20 μ v3 (((755 : Int32) * x1) + x2)) fun v4 =>
      qbnd (oStI 20 μ v2 x2 v4) fun μ5 =>
      fX8_again_18 n x0 x1 (x2 + (1 : Int32)) μ5
noncomputable def gX8_again (a0 : Nat) (a1 : Int32) (μ : qM) : Option qR :=
  qbnd (oPutI μ 8 a0 0 (0 : Int32)) fun μ1 =>
  qbnd (fX8_in (a1).toInt64 (0 : Int64) (2 : Int64) μ1) fun r2 =>
  if r2.1 = 0 then
    if qnz (0 : Int32) = (0 : Int32) then some ((0 : Int32), 0, r2.2.2) else none
  else
    qbnd (oGetP r2.2.2 8 a0 29) fun v3 =>
    qbnd (oLdI 23 r2.2.2 v3 a1) fun v4 =>
    if v4 = 0 then
      if qnz (0 : Int32) = (0 : Int32) then some ((0 : Int32), 0, r2.2.2) else none
    else
      fX8_again_18 qfu a0 a1 (0 : Int32) r2.2.2
noncomputable def fX8_again (a0 : Nat) (a1 : Int32) (μ : qM) : Option qR := if (qk μ a0).1 = 8 then gX8_again a0 a1 μ else none
noncomputable def aX8_again (l : List Value) (μ : qM) : Option qR := match l with
  | [.ref x0, .int x1] => fX8_again x0 x1 μ
  | _ => none
noncomputable def cfX8_again : qF := fun n l μ => if n = 141 then aX8_in l μ else none
theorem hcX8_again {base : Nat} {D : va_G} {ca : Nat → ClassId} {cv : Nat → Value} (hcv : ∀ j, (cv j).category = 1) : ∀ M as μ r, cfX8_again M as μ = some r → qGood false base D ca cv 1 M as μ r := by
  intro M as μ r h
  unfold cfX8_again at h
  split at h
  · rename_i e; subst e; exact (gaX8_in hcv h).mono (by omega)
  cases h
def jX8_again_18 (f : Nat → Int32 → Int32 → qM → Option qR) (L S : List Value) (μ : qM) : Option qR := match L, S with
  | [.ref x0, .int x1, .int x2], [] => f x0 x1 x2 μ
  | _, _ => none
theorem jeX8_again_18 {base : Nat} {D : va_G} {ca : Nat → ClassId} {cv : Nat → Value} {d : Nat} {f : Nat → Int32 → Int32 → qM → Option qR} (hf : ∀ (x0 : Nat) (x1 : Int32) (x2 : Int32) (μ : qM) (r : qR), f x0 x1 x2 μ = some r → qEv false base D ca cv d 262 r 18 [.ref x0, .int x1, .int x2] [] μ) {L S : List Value} {μ : qM} {r : qR} (h : jX8_again_18 f L S μ = some r) : qEv false base D ca cv d 262 r 18 L S μ := by
  unfold jX8_again_18 at h
  split at h
  · exact (hf _ _ _ _ _ h).le rfl ⟨Or.inr rfl, Or.inr rfl, Or.inr rfl, trivial⟩
  · cases h
set_option maxRecDepth 100000 in
theorem lbX8_again_18 {base : Nat} {D : va_G} {ca : Nat → ClassId} {cv : Nat → Value} (hcv : ∀ j, (cv j).category = 1) : ∀ (n : Nat) (x0 : Nat) (x1 : Int32) (x2 : Int32) (μ : qM) (r : qR), fX8_again_18 n x0 x1 x2 μ = some r → qEv false base D ca cv 2 262 r 18 [.ref x0, .int x1, .int x2] [] μ := by
  intro n
  induction n with
  | zero => intro x0 x1 x2 μ r h; cases (show (none : Option qR) = some r from h)
  | succ n ih =>
    intro x0 x1 x2 μ r h
    exact qblk_ev2 (cf := cfX8_again) (st := (fun n => qin [18] n)) (K := (fun pc L S μ => if pc = 18 then jX8_again_18 (fX8_again_18 n) L S μ else none)) (cd := qcX8_again) (M := 262) (d0 := 1) rfl qcok_X8_again (Nat.le_refl _) (hcX8_again hcv) (by
    intro pc L S μ r h
    split at h
    · rename_i e; subst e; exact jeX8_again_18 ih h
    cases h) 400 (pc := 18) (L := [.ref x0, .int x1, .int x2]) (S := []) h
theorem npX8_again : (parseMethodDescriptor (qmy 262).desc).map (fun d => d.parameters.length) = some 1 := by decide +kernel
set_option maxRecDepth 100000 in
theorem gdX8_again {base : Nat} {D : va_G} {ca : Nat → ClassId} {cv : Nat → Value} (hcv : ∀ j, (cv j).category = 1) {a0 : Nat} {a1 : Int32} {μ : qM} {r : qR} (h : fX8_again a0 a1 μ = some r) : qGood false base D ca cv 2 262 [.ref a0, .int a1] μ r := by
  unfold fX8_again at h
  split at h
  · rename_i hk0
    exact qgood_of (by decide) (by omega) hcv (Or.inr ⟨by decide +kernel, hk0⟩) npX8_again rfl (Nat.le_of_ble_eq_true rfl) rfl (qblk_ev2 (cf := cfX8_again) (st := (fun n => qin [18] n)) (K := (fun pc L S μ => if pc = 18 then jX8_again_18 (fX8_again_18 qfu) L S μ else none)) (cd := qcX8_again) (M := 262) (d0 := 1) rfl qcok_X8_again (Nat.le_refl _) (hcX8_again hcv) (by
    intro pc L S μ r h
    split at h
    · rename_i e; subst e; exact jeX8_again_18 (lbX8_again_18 hcv qfu) h
    cases h) 400 (pc := 0) (L := qent [.ref a0, .int a1] 3) (S := []) h)
  · cases h
theorem gaX8_again {base : Nat} {D : va_G} {ca : Nat → ClassId} {cv : Nat → Value} (hcv : ∀ j, (cv j).category = 1) {l : List Value} {μ : qM} {r : qR} (h : aX8_again l μ = some r) : qGood false base D ca cv 2 262 l μ r := by
  unfold aX8_again at h
  split at h
  · exact gdX8_again hcv h
  · cases h
noncomputable def fX8_count_7 : Nat → Nat → Int32 → Int32 → Int32 → qM → Option qR
  | 0 => fun _ _ _ _ _ => none
  | n + 1 => fun x0 x1 x2 x3 μ =>
    if (8 : Int32) ≤ x3 then
      if x1 = (0 : Int32) then
        qbnd (oGetP μ 8 x0 14) fun v1 =>
        qbnd (fX8_so v1 (1 : Int32) μ) fun r2 =>
        some (r2.1, 0, r2.2.2)
      else
      if x1 = (1 : Int32) then
        qbnd (oGetP μ 8 x0 14) fun v3 =>
        qbnd (fX8_so v3 (2 : Int32) μ) fun r4 =>
        some (r4.1, 0, r4.2.2)
      else
      if x1 = (2 : Int32) then
        qbnd (oGetP μ 8 x0 14) fun v5 =>
        qbnd (oLdI 20 μ v5 (752 : Int32)) fun v6 =>
        some (v6, 0, μ)
      else
      if x1 = (3 : Int32) then
        qbnd (oGetP μ 8 x0 14) fun v7 =>
        qbnd (oLdI 20 μ v7 (753 : Int32)) fun v8 =>
        some (v8, 0, μ)
      else
      if x1 = (4 : Int32) then
        qbnd (oGetP μ 8 x0 14) fun v9 =>
        qbnd (fX8_so v9 (2 : Int32) μ) fun r10 =>
        qbnd (fJ6_bitCount_0f7a4 r10.1 r10.2.2) fun r11 =>
        some (r11.1, 0, r11.2.2)
      else
      if x1 = (5 : Int32) then
        some (x2, 0, μ)
      else
      if x1 = (6 : Int32) then
        qbnd (oGetP μ 8 x0 14) fun v12 =>
        qbnd (fX8_fallsOf v12 μ) fun r13 =>
        some (r13.1, 0, r13.2.2)
      else
      if x1 = (7 : Int32) then
        qbnd (oGetI μ 8 x0 18) fun v14 =>
        some (v14, 0, μ)
      else
      if x1 = (8 : Int32) then
        qbnd (oGetI μ 8 x0 1) fun v15 =>
        some (v15, 0, μ)
      else
      if x1 = (9 : Int32) then
        qbnd (oGetI μ 8 x0 4) fun v16 =>
        some (v16, 0, μ)
      else
        some ((-100 : Int32), 0, μ)
    else
      qbnd (oGetP μ 8 x0 14) fun v17 =>
      qbnd (fX8_heldMany v17 x3 μ) fun r18 =>
      fX8_count_7 n x0 x1 (x2 + r18.1) (x3 + (1 : Int32)) r18.2.2
noncomputable def gX8_count (a0 : Nat) (a1 : Int32) (μ : qM) : Option qR :=
  qbnd (oPutI μ 8 a0 0 (0 : Int32)) fun μ1 =>
  fX8_count_7 qfu a0 a1 (0 : Int32) (0 : Int32) μ1
noncomputable def fX8_count (a0 : Nat) (a1 : Int32) (μ : qM) : Option qR := if (qk μ a0).1 = 8 then gX8_count a0 a1 μ else none
noncomputable def aX8_count (l : List Value) (μ : qM) : Option qR := match l with
  | [.ref x0, .int x1] => fX8_count x0 x1 μ
  | _ => none
noncomputable def cfX8_count : qF := fun n l μ => if n = 173 then aX8_heldMany l μ else if n = 175 then aX8_so l μ else if n = 267 then aJ6_bitCount_0f7a4 l μ else if n = 259 then aX8_fallsOf l μ else none
theorem hcX8_count {base : Nat} {D : va_G} {ca : Nat → ClassId} {cv : Nat → Value} (hcv : ∀ j, (cv j).category = 1) : ∀ M as μ r, cfX8_count M as μ = some r → qGood false base D ca cv 2 M as μ r := by
  intro M as μ r h
  unfold cfX8_count at h
  split at h
  · rename_i e; subst e; exact (gaX8_heldMany hcv h).mono (by omega)
  split at h
  · rename_i e; subst e; exact (gaX8_so hcv h).mono (by omega)
  split at h
  · rename_i e; subst e; exact (gaJ6_bitCount_0f7a4 hcv h).mono (by omega)
  split at h
  · rename_i e; subst e; exact (gaX8_fallsOf hcv h).mono (by omega)
  cases h
def jX8_count_7 (f : Nat → Int32 → Int32 → Int32 → qM → Option qR) (L S : List Value) (μ : qM) : Option qR := match L, S with
  | [.ref x0, .int x1, .int x2, .int x3], [] => f x0 x1 x2 x3 μ
  | _, _ => none
theorem jeX8_count_7 {base : Nat} {D : va_G} {ca : Nat → ClassId} {cv : Nat → Value} {d : Nat} {f : Nat → Int32 → Int32 → Int32 → qM → Option qR} (hf : ∀ (x0 : Nat) (x1 : Int32) (x2 : Int32) (x3 : Int32) (μ : qM) (r : qR), f x0 x1 x2 x3 μ = some r → qEv false base D ca cv d 263 r 7 [.ref x0, .int x1, .int x2, .int x3] [] μ) {L S : List Value} {μ : qM} {r : qR} (h : jX8_count_7 f L S μ = some r) : qEv false base D ca cv d 263 r 7 L S μ := by
  unfold jX8_count_7 at h
  split at h
  · exact (hf _ _ _ _ _ _ h).le rfl ⟨Or.inr rfl, Or.inr rfl, Or.inr rfl, Or.inr rfl, trivial⟩
  · cases h
set_option maxRecDepth 100000 in
theorem lbX8_count_7 {base : Nat} {D : va_G} {ca : Nat → ClassId} {cv : Nat → Value} (hcv : ∀ j, (cv j).category = 1) : ∀ (n : Nat) (x0 : Nat) (x1 : Int32) (x2 : Int32) (x3 : Int32) (μ : qM) (r : qR), fX8_count_7 n x0 x1 x2 x3 μ = some r → qEv false base D ca cv 3 263 r 7 [.ref x0, .int x1, .int x2, .int x3] [] μ := by
  intro n
  induction n with
  | zero => intro x0 x1 x2 x3 μ r h; cases (show (none : Option qR) = some r from h)
  | succ n ih =>
    intro x0 x1 x2 x3 μ r h
    exact qblk_ev2 (cf := cfX8_count) (st := (fun n => qin [7] n)) (K := (fun pc L S μ => if pc = 7 then jX8_count_7 (fX8_count_7 n) L S μ else none)) (cd := qcX8_count) (M := 263) (d0 := 2) rfl qcok_X8_count (Nat.le_refl _) (hcX8_count hcv) (by
    intro pc L S μ r h
    split at h
    · rename_i e; subst e; exact jeX8_count_7 ih h
    cases h) 400 (pc := 7) (L := [.ref x0, .int x1, .int x2, .int x3]) (S := []) h
theorem npX8_count : (parseMethodDescriptor (qmy 263).desc).map (fun d => d.parameters.length) = some 1 := by decide +kernel
set_option maxRecDepth 100000 in
theorem gdX8_count {base : Nat} {D : va_G} {ca : Nat → ClassId} {cv : Nat → Value} (hcv : ∀ j, (cv j).category = 1) {a0 : Nat} {a1 : Int32} {μ : qM} {r : qR} (h : fX8_count a0 a1 μ = some r) : qGood false base D ca cv 3 263 [.ref a0, .int a1] μ r := by
  unfold fX8_count at h
  split at h
  · rename_i hk0
    exact qgood_of (by decide) (by omega) hcv (Or.inr ⟨by decide +kernel, hk0⟩) npX8_count rfl (Nat.le_of_ble_eq_true rfl) rfl (qblk_ev2 (cf := cfX8_count) (st := (fun n => qin [7] n)) (K := (fun pc L S μ => if pc = 7 then jX8_count_7 (fX8_count_7 qfu) L S μ else none)) (cd := qcX8_count) (M := 263) (d0 := 2) rfl qcok_X8_count (Nat.le_refl _) (hcX8_count hcv) (by
    intro pc L S μ r h
    split at h
    · rename_i e; subst e; exact jeX8_count_7 (lbX8_count_7 hcv qfu) h
    cases h) 400 (pc := 0) (L := qent [.ref a0, .int a1] 4) (S := []) h)
  · cases h
theorem gaX8_count {base : Nat} {D : va_G} {ca : Nat → ClassId} {cv : Nat → Value} (hcv : ∀ j, (cv j).category = 1) {l : List Value} {μ : qM} {r : qR} (h : aX8_count l μ = some r) : qGood false base D ca cv 3 263 l μ r := by
  unfold aX8_count at h
  split at h
  · exact gdX8_count hcv h
  · cases h
noncomputable def gX8_row (a0 : Nat) (a1 : Int32) (μ : qM) : Option qR :=
  qbnd (oPutI μ 8 a0 0 (0 : Int32)) fun μ1 =>
  qbnd (oGetI μ1 8 a0 1) fun v2 =>
  qbnd (fX8_in (a1).toInt64 (0 : Int64) ((v2 - (1 : Int32))).toInt64 μ1) fun r3 =>
  if r3.1 = 0 then
    qbnd (oPutI r3.2.2 8 a0 0 (1 : Int32)) fun μ6 =>
    some (0, (0 : Int64), μ6)
  else
    qbnd (oGetP r3.2.2 8 a0 2) fun v4 =>
    qbnd (oLdL r3.2.2 v4 a1) fun v5 =>
    some (0, v5, r3.2.2)
noncomputable def fX8_row (a0 : Nat) (a1 : Int32) (μ : qM) : Option qR := if (qk μ a0).1 = 8 then gX8_row a0 a1 μ else none
noncomputable def aX8_row (l : List Value) (μ : qM) : Option qR := match l with
  | [.ref x0, .int x1] => fX8_row x0 x1 μ
  | _ => none
noncomputable def cfX8_row : qF := fun n l μ => if n = 141 then aX8_in l μ else none
theorem hcX8_row {base : Nat} {D : va_G} {ca : Nat → ClassId} {cv : Nat → Value} (hcv : ∀ j, (cv j).category = 1) : ∀ M as μ r, cfX8_row M as μ = some r → qGood false base D ca cv 1 M as μ r := by
  intro M as μ r h
  unfold cfX8_row at h
  split at h
  · rename_i e; subst e; exact (gaX8_in hcv h).mono (by omega)
  cases h
theorem npX8_row : (parseMethodDescriptor (qmy 264).desc).map (fun d => d.parameters.length) = some 1 := by decide +kernel
set_option maxRecDepth 100000 in
theorem gdX8_row {base : Nat} {D : va_G} {ca : Nat → ClassId} {cv : Nat → Value} (hcv : ∀ j, (cv j).category = 1) {a0 : Nat} {a1 : Int32} {μ : qM} {r : qR} (h : fX8_row a0 a1 μ = some r) : qGood false base D ca cv 2 264 [.ref a0, .int a1] μ r := by
  unfold fX8_row at h
  split at h
  · rename_i hk0
    exact qgood_of (by decide) (by omega) hcv (Or.inr ⟨by decide +kernel, hk0⟩) npX8_row rfl (Nat.le_of_ble_eq_true rfl) rfl (qblk_ev2 (cf := cfX8_row) (st := (fun n => qin [] n)) (K := (fun pc L S μ => none)) (cd := qcX8_row) (M := 264) (d0 := 1) rfl qcok_X8_row (Nat.le_refl _) (hcX8_row hcv) (by
    intro pc L S μ r h
    cases h) 400 (pc := 0) (L := qent [.ref a0, .int a1] 2) (S := []) h)
  · cases h
theorem gaX8_row {base : Nat} {D : va_G} {ca : Nat → ClassId} {cv : Nat → Value} (hcv : ∀ j, (cv j).category = 1) {l : List Value} {μ : qM} {r : qR} (h : aX8_row l μ = some r) : qGood false base D ca cv 2 264 l μ r := by
  unfold aX8_row at h
  split at h
  · exact gdX8_row hcv h
  · cases h

/-! FUNCTIONS out of the codes, and that the machine does as they do, 2 (printed by gen/emit6.py) -/
noncomputable def fJ3_checkIndex_8e157 (a0 : Int32) (a1 : Int32) (a2 : Nat) (μ : qM) : Option qR :=
  if a0 < 0 then
    none
  else
    if a0 < a1 then
      some (a0, 0, μ)
    else
      none
noncomputable def aJ3_checkIndex_8e157 (l : List Value) (μ : qM) : Option qR := match l with
  | [.int x0, .int x1, .retAddr x2] => fJ3_checkIndex_8e157 x0 x1 x2 μ
  | _ => none
noncomputable def cfJ3_checkIndex_8e157 : qF := fun n l μ => none
theorem hcJ3_checkIndex_8e157 {base : Nat} {D : va_G} {ca : Nat → ClassId} {cv : Nat → Value} (hcv : ∀ j, (cv j).category = 1) : ∀ M as μ r, cfJ3_checkIndex_8e157 M as μ = some r → qGood false base D ca cv 0 M as μ r := by
  intro M as μ r h
  cases h
theorem npJ3_checkIndex_8e157 : (parseMethodDescriptor (qmy 278).desc).map (fun d => d.parameters.length) = some 3 := by decide +kernel
set_option maxRecDepth 100000 in
theorem gdJ3_checkIndex_8e157 {base : Nat} {D : va_G} {ca : Nat → ClassId} {cv : Nat → Value} (hcv : ∀ j, (cv j).category = 1) {a0 : Int32} {a1 : Int32} {a2 : Nat} {μ : qM} {r : qR} (h : fJ3_checkIndex_8e157 a0 a1 a2 μ = some r) : qGood false base D ca cv 1 278 [.int a0, .int a1, .retAddr a2] μ r := by
  exact qgood_of (by decide) (by omega) hcv (Or.inl rfl) npJ3_checkIndex_8e157 rfl (Nat.le_of_ble_eq_true rfl) rfl (qblk_ev2 (cf := cfJ3_checkIndex_8e157) (st := (fun n => qin [] n)) (K := (fun pc L S μ => none)) (cd := qcJ3_checkIndex_8e157) (M := 278) (d0 := 0) rfl qcok_J3_checkIndex_8e157 (Nat.le_refl _) (hcJ3_checkIndex_8e157 hcv) (by
    intro pc L S μ r h
    cases h) 400 (pc := 0) (L := qent [.int a0, .int a1, .retAddr a2] 3) (S := []) h)
theorem gaJ3_checkIndex_8e157 {base : Nat} {D : va_G} {ca : Nat → ClassId} {cv : Nat → Value} (hcv : ∀ j, (cv j).category = 1) {l : List Value} {μ : qM} {r : qR} (h : aJ3_checkIndex_8e157 l μ = some r) : qGood false base D ca cv 1 278 l μ r := by
  unfold aJ3_checkIndex_8e157 at h
  split at h
  · exact gdJ3_checkIndex_8e157 hcv h
  · cases h
noncomputable def fJ0_checkIndex_df160 (a0 : Int32) (a1 : Int32) (μ : qM) : Option qR :=
  qbnd (fJ3_checkIndex_8e157 a0 a1 50 μ) fun r1 =>
  some (0, 0, r1.2.2)
noncomputable def aJ0_checkIndex_df160 (l : List Value) (μ : qM) : Option qR := match l with
  | [.int x0, .int x1] => fJ0_checkIndex_df160 x0 x1 μ
  | _ => none
noncomputable def cfJ0_checkIndex_df160 : qF := fun n l μ => if n = 278 then aJ3_checkIndex_8e157 l μ else none
theorem hcJ0_checkIndex_df160 {base : Nat} {D : va_G} {ca : Nat → ClassId} {cv : Nat → Value} (hcv : ∀ j, (cv j).category = 1) : ∀ M as μ r, cfJ0_checkIndex_df160 M as μ = some r → qGood false base D ca cv 1 M as μ r := by
  intro M as μ r h
  unfold cfJ0_checkIndex_df160 at h
  split at h
  · rename_i e; subst e; exact (gaJ3_checkIndex_8e157 hcv h).mono (by omega)
  cases h
theorem npJ0_checkIndex_df160 : (parseMethodDescriptor (qmy 272).desc).map (fun d => d.parameters.length) = some 2 := by decide +kernel
set_option maxRecDepth 100000 in
theorem gdJ0_checkIndex_df160 {base : Nat} {D : va_G} {ca : Nat → ClassId} {cv : Nat → Value} (hcv : ∀ j, (cv j).category = 1) {a0 : Int32} {a1 : Int32} {μ : qM} {r : qR} (h : fJ0_checkIndex_df160 a0 a1 μ = some r) : qGood false base D ca cv 2 272 [.int a0, .int a1] μ r := by
  exact qgood_of (by decide) (by omega) hcv (Or.inl rfl) npJ0_checkIndex_df160 rfl (Nat.le_of_ble_eq_true rfl) rfl (qblk_ev2 (cf := cfJ0_checkIndex_df160) (st := (fun n => qin [] n)) (K := (fun pc L S μ => none)) (cd := qcJ0_checkIndex_df160) (M := 272) (d0 := 1) rfl qcok_J0_checkIndex_df160 (Nat.le_refl _) (hcJ0_checkIndex_df160 hcv) (by
    intro pc L S μ r h
    cases h) 400 (pc := 0) (L := qent [.int a0, .int a1] 2) (S := []) h)
theorem gaJ0_checkIndex_df160 {base : Nat} {D : va_G} {ca : Nat → ClassId} {cv : Nat → Value} (hcv : ∀ j, (cv j).category = 1) {l : List Value} {μ : qM} {r : qR} (h : aJ0_checkIndex_df160 l μ = some r) : qGood false base D ca cv 2 272 l μ r := by
  unfold aJ0_checkIndex_df160 at h
  split at h
  · exact gdJ0_checkIndex_df160 hcv h
  · cases h
noncomputable def fJ1_charAt_3b067 (a0 : Nat) (a1 : Int32) (μ : qM) : Option qR :=
  if qtk a0 = 1 ∨ qtk a0 = 3 then
    qbnd (fJ0_checkIndex_df160 a1 (Int32.ofNat (qtv a0).length) μ) fun r1 =>
    qbnd (oTab 3 a0 a1) fun v2 =>
    if qnc (((v2 &&& (255 : Int32))).toUInt32 % 65536).toInt32 = (((v2 &&& (255 : Int32))).toUInt32 % 65536).toInt32 then some ((((v2 &&& (255 : Int32))).toUInt32 % 65536).toInt32, 0, r1.2.2) else none
  else none
noncomputable def aJ1_charAt_3b067 (l : List Value) (μ : qM) : Option qR := match l with
  | [.retAddr x0, .int x1] => fJ1_charAt_3b067 x0 x1 μ
  | _ => none
noncomputable def cfJ1_charAt_3b067 : qF := fun n l μ => if n = 272 then aJ0_checkIndex_df160 l μ else none
theorem hcJ1_charAt_3b067 {base : Nat} {D : va_G} {ca : Nat → ClassId} {cv : Nat → Value} (hcv : ∀ j, (cv j).category = 1) : ∀ M as μ r, cfJ1_charAt_3b067 M as μ = some r → qGood false base D ca cv 2 M as μ r := by
  intro M as μ r h
  unfold cfJ1_charAt_3b067 at h
  split at h
  · rename_i e; subst e; exact (gaJ0_checkIndex_df160 hcv h).mono (by omega)
  cases h
theorem npJ1_charAt_3b067 : (parseMethodDescriptor (qmy 273).desc).map (fun d => d.parameters.length) = some 2 := by decide +kernel
set_option maxRecDepth 100000 in
theorem gdJ1_charAt_3b067 {base : Nat} {D : va_G} {ca : Nat → ClassId} {cv : Nat → Value} (hcv : ∀ j, (cv j).category = 1) {a0 : Nat} {a1 : Int32} {μ : qM} {r : qR} (h : fJ1_charAt_3b067 a0 a1 μ = some r) : qGood false base D ca cv 3 273 [.retAddr a0, .int a1] μ r := by
  exact qgood_of (by decide) (by omega) hcv (Or.inl rfl) npJ1_charAt_3b067 rfl (Nat.le_of_ble_eq_true rfl) rfl (qblk_ev2 (cf := cfJ1_charAt_3b067) (st := (fun n => qin [] n)) (K := (fun pc L S μ => none)) (cd := qcJ1_charAt_3b067) (M := 273) (d0 := 2) rfl qcok_J1_charAt_3b067 (Nat.le_refl _) (hcJ1_charAt_3b067 hcv) (by
    intro pc L S μ r h
    cases h) 400 (pc := 0) (L := qent [.retAddr a0, .int a1] 2) (S := []) h)
theorem gaJ1_charAt_3b067 {base : Nat} {D : va_G} {ca : Nat → ClassId} {cv : Nat → Value} (hcv : ∀ j, (cv j).category = 1) {l : List Value} {μ : qM} {r : qR} (h : aJ1_charAt_3b067 l μ = some r) : qGood false base D ca cv 3 273 l μ r := by
  unfold aJ1_charAt_3b067 at h
  split at h
  · exact gdJ1_charAt_3b067 hcv h
  · cases h
noncomputable def gJ0_charAt_5068e (a0 : Nat) (a1 : Int32) (μ : qM) : Option qR :=
  qbnd (fJ0_isLatin1_aae02 a0 μ) fun r1 =>
  if r1.1 = 0 then
    if qtk a0 = 2 then
      none
    else none
  else
    if qtk a0 = 2 then
      qbnd (fJ1_charAt_3b067 (a0 + 20) a1 r1.2.2) fun r3 =>
      if qnc r3.1 = r3.1 then some (r3.1, 0, r3.2.2) else none
    else none
noncomputable def fJ0_charAt_5068e (a0 : Nat) (a1 : Int32) (μ : qM) : Option qR := if qtk a0 = 2 then gJ0_charAt_5068e a0 a1 μ else none
noncomputable def aJ0_charAt_5068e (l : List Value) (μ : qM) : Option qR := match l with
  | [.retAddr x0, .int x1] => fJ0_charAt_5068e x0 x1 μ
  | _ => none
noncomputable def cfJ0_charAt_5068e : qF := fun n l μ => if n = 271 then aJ0_isLatin1_aae02 l μ else if n = 273 then aJ1_charAt_3b067 l μ else none
theorem hcJ0_charAt_5068e {base : Nat} {D : va_G} {ca : Nat → ClassId} {cv : Nat → Value} (hcv : ∀ j, (cv j).category = 1) : ∀ M as μ r, cfJ0_charAt_5068e M as μ = some r → qGood false base D ca cv 3 M as μ r := by
  intro M as μ r h
  unfold cfJ0_charAt_5068e at h
  split at h
  · rename_i e; subst e; exact (gaJ0_isLatin1_aae02 hcv h).mono (by omega)
  split at h
  · rename_i e; subst e; exact (gaJ1_charAt_3b067 hcv h).mono (by omega)
  cases h
theorem npJ0_charAt_5068e : (parseMethodDescriptor (qmy 269).desc).map (fun d => d.parameters.length) = some 1 := by decide +kernel
set_option maxRecDepth 100000 in
theorem gdJ0_charAt_5068e {base : Nat} {D : va_G} {ca : Nat → ClassId} {cv : Nat → Value} (hcv : ∀ j, (cv j).category = 1) {a0 : Nat} {a1 : Int32} {μ : qM} {r : qR} (h : fJ0_charAt_5068e a0 a1 μ = some r) : qGood false base D ca cv 4 269 [.retAddr a0, .int a1] μ r := by
  unfold fJ0_charAt_5068e at h
  split at h
  · rename_i hk0
    exact qgood_of (by decide) (by omega) hcv (Or.inr ⟨by decide +kernel, hk0⟩) npJ0_charAt_5068e rfl (Nat.le_of_ble_eq_true rfl) rfl (qblk_ev2 (cf := cfJ0_charAt_5068e) (st := (fun n => qin [] n)) (K := (fun pc L S μ => none)) (cd := qcJ0_charAt_5068e) (M := 269) (d0 := 3) rfl qcok_J0_charAt_5068e (Nat.le_refl _) (hcJ0_charAt_5068e hcv) (by
    intro pc L S μ r h
    cases h) 400 (pc := 0) (L := qent [.retAddr a0, .int a1] 2) (S := []) h)
  · cases h
theorem gaJ0_charAt_5068e {base : Nat} {D : va_G} {ca : Nat → ClassId} {cv : Nat → Value} (hcv : ∀ j, (cv j).category = 1) {l : List Value} {μ : qM} {r : qR} (h : aJ0_charAt_5068e l μ = some r) : qGood false base D ca cv 4 269 l μ r := by
  unfold aJ0_charAt_5068e at h
  split at h
  · exact gdJ0_charAt_5068e hcv h
  · cases h
noncomputable def fX6_says_9 : Nat → Nat → Nat → Int32 → qM → Option qR
  | 0 => fun _ _ _ _ => none
  | n + 1 => fun x0 x1 x2 μ =>
    qbnd (oGetI μ 6 x0 1) fun v1 =>
    if v1 ≤ x2 then
      if qnz (1 : Int32) = (1 : Int32) then some ((1 : Int32), 0, μ) else none
    else
      qbnd (oGetP μ 6 x0 0) fun v2 =>
      qbnd (oLdI 22 μ v2 x2) fun v3 =>
      qbnd (fJ0_charAt_5068e x1 x2 μ) fun r4 =>
      if v3 = r4.1 then
        fX6_says_9 n x0 x1 (x2 + (1 : Int32)) r4.2.2
      else
        if qnz (0 : Int32) = (0 : Int32) then some ((0 : Int32), 0, r4.2.2) else none
noncomputable def gX6_says (a0 : Nat) (a1 : Nat) (μ : qM) : Option qR :=
  qbnd (fJ0_length_8abf5 a1 μ) fun r1 =>
  qbnd (oGetI r1.2.2 6 a0 1) fun v2 =>
  if r1.1 = v2 then
    fX6_says_9 qfu a0 a1 (0 : Int32) r1.2.2
  else
    if qnz (0 : Int32) = (0 : Int32) then some ((0 : Int32), 0, r1.2.2) else none
noncomputable def fX6_says (a0 : Nat) (a1 : Nat) (μ : qM) : Option qR := if (qk μ a0).1 = 6 then gX6_says a0 a1 μ else none
noncomputable def aX6_says (l : List Value) (μ : qM) : Option qR := match l with
  | [.ref x0, .retAddr x1] => fX6_says x0 x1 μ
  | _ => none
noncomputable def cfX6_says : qF := fun n l μ => if n = 268 then aJ0_length_8abf5 l μ else if n = 269 then aJ0_charAt_5068e l μ else none
theorem hcX6_says {base : Nat} {D : va_G} {ca : Nat → ClassId} {cv : Nat → Value} (hcv : ∀ j, (cv j).category = 1) : ∀ M as μ r, cfX6_says M as μ = some r → qGood false base D ca cv 4 M as μ r := by
  intro M as μ r h
  unfold cfX6_says at h
  split at h
  · rename_i e; subst e; exact (gaJ0_length_8abf5 hcv h).mono (by omega)
  split at h
  · rename_i e; subst e; exact (gaJ0_charAt_5068e hcv h).mono (by omega)
  cases h
def jX6_says_9 (f : Nat → Nat → Int32 → qM → Option qR) (L S : List Value) (μ : qM) : Option qR := match L, S with
  | [.ref x0, .retAddr x1, .int x2], [] => f x0 x1 x2 μ
  | _, _ => none
theorem jeX6_says_9 {base : Nat} {D : va_G} {ca : Nat → ClassId} {cv : Nat → Value} {d : Nat} {f : Nat → Nat → Int32 → qM → Option qR} (hf : ∀ (x0 : Nat) (x1 : Nat) (x2 : Int32) (μ : qM) (r : qR), f x0 x1 x2 μ = some r → qEv false base D ca cv d 83 r 9 [.ref x0, .retAddr x1, .int x2] [] μ) {L S : List Value} {μ : qM} {r : qR} (h : jX6_says_9 f L S μ = some r) : qEv false base D ca cv d 83 r 9 L S μ := by
  unfold jX6_says_9 at h
  split at h
  · exact (hf _ _ _ _ _ h).le rfl ⟨Or.inr rfl, Or.inr rfl, Or.inr rfl, trivial⟩
  · cases h
set_option maxRecDepth 100000 in
theorem lbX6_says_9 {base : Nat} {D : va_G} {ca : Nat → ClassId} {cv : Nat → Value} (hcv : ∀ j, (cv j).category = 1) : ∀ (n : Nat) (x0 : Nat) (x1 : Nat) (x2 : Int32) (μ : qM) (r : qR), fX6_says_9 n x0 x1 x2 μ = some r → qEv false base D ca cv 5 83 r 9 [.ref x0, .retAddr x1, .int x2] [] μ := by
  intro n
  induction n with
  | zero => intro x0 x1 x2 μ r h; cases (show (none : Option qR) = some r from h)
  | succ n ih =>
    intro x0 x1 x2 μ r h
    exact qblk_ev2 (cf := cfX6_says) (st := (fun n => qin [9] n)) (K := (fun pc L S μ => if pc = 9 then jX6_says_9 (fX6_says_9 n) L S μ else none)) (cd := qcX6_says) (M := 83) (d0 := 4) rfl qcok_X6_says (Nat.le_refl _) (hcX6_says hcv) (by
    intro pc L S μ r h
    split at h
    · rename_i e; subst e; exact jeX6_says_9 ih h
    cases h) 400 (pc := 9) (L := [.ref x0, .retAddr x1, .int x2]) (S := []) h
theorem npX6_says : (parseMethodDescriptor (qmy 83).desc).map (fun d => d.parameters.length) = some 1 := by decide +kernel
set_option maxRecDepth 100000 in
theorem gdX6_says {base : Nat} {D : va_G} {ca : Nat → ClassId} {cv : Nat → Value} (hcv : ∀ j, (cv j).category = 1) {a0 : Nat} {a1 : Nat} {μ : qM} {r : qR} (h : fX6_says a0 a1 μ = some r) : qGood false base D ca cv 5 83 [.ref a0, .retAddr a1] μ r := by
  unfold fX6_says at h
  split at h
  · rename_i hk0
    exact qgood_of (by decide) (by omega) hcv (Or.inr ⟨by decide +kernel, hk0⟩) npX6_says rfl (Nat.le_of_ble_eq_true rfl) rfl (qblk_ev2 (cf := cfX6_says) (st := (fun n => qin [9] n)) (K := (fun pc L S μ => if pc = 9 then jX6_says_9 (fX6_says_9 qfu) L S μ else none)) (cd := qcX6_says) (M := 83) (d0 := 4) rfl qcok_X6_says (Nat.le_refl _) (hcX6_says hcv) (by
    intro pc L S μ r h
    split at h
    · rename_i e; subst e; exact jeX6_says_9 (lbX6_says_9 hcv qfu) h
    cases h) 400 (pc := 0) (L := qent [.ref a0, .retAddr a1] 3) (S := []) h)
  · cases h
theorem gaX6_says {base : Nat} {D : va_G} {ca : Nat → ClassId} {cv : Nat → Value} (hcv : ∀ j, (cv j).category = 1) {l : List Value} {μ : qM} {r : qR} (h : aX6_says l μ = some r) : qGood false base D ca cv 5 83 l μ r := by
  unfold aX6_says at h
  split at h
  · exact gdX6_says hcv h
  · cases h
noncomputable def gX6_modeName (a0 : Nat) (μ : qM) : Option qR :=
  qbnd (oGetI μ 6 a0 1) fun v1 =>
  if v1 = 0 then
    some ((0 : Int32), 0, μ)
  else
    qbnd (fX6_says a0 10 μ) fun r2 =>
    if r2.1 = 0 then
      qbnd (fX6_says a0 11 r2.2.2) fun r3 =>
      if r3.1 = 0 then
        qbnd (fX6_says a0 12 r3.2.2) fun r4 =>
        if r4.1 = 0 then
          qbnd (fX6_says a0 13 r4.2.2) fun r5 =>
          if r5.1 = 0 then
            qbnd (fX6_says a0 14 r5.2.2) fun r6 =>
            if r6.1 = 0 then
              qbnd (fX6_says a0 15 r6.2.2) fun r7 =>
              if r7.1 = 0 then
                some ((-1 : Int32), 0, r7.2.2)
              else
                some ((6 : Int32), 0, r7.2.2)
            else
              some ((5 : Int32), 0, r6.2.2)
          else
            some ((4 : Int32), 0, r5.2.2)
        else
          some ((3 : Int32), 0, r4.2.2)
      else
        some ((2 : Int32), 0, r3.2.2)
    else
      some ((1 : Int32), 0, r2.2.2)
noncomputable def fX6_modeName (a0 : Nat) (μ : qM) : Option qR := if (qk μ a0).1 = 6 then gX6_modeName a0 μ else none
noncomputable def aX6_modeName (l : List Value) (μ : qM) : Option qR := match l with
  | [.ref x0] => fX6_modeName x0 μ
  | _ => none
noncomputable def cfX6_modeName : qF := fun n l μ => if n = 83 then aX6_says l μ else none
theorem hcX6_modeName {base : Nat} {D : va_G} {ca : Nat → ClassId} {cv : Nat → Value} (hcv : ∀ j, (cv j).category = 1) : ∀ M as μ r, cfX6_modeName M as μ = some r → qGood false base D ca cv 5 M as μ r := by
  intro M as μ r h
  unfold cfX6_modeName at h
  split at h
  · rename_i e; subst e; exact (gaX6_says hcv h).mono (by omega)
  cases h
theorem npX6_modeName : (parseMethodDescriptor (qmy 84).desc).map (fun d => d.parameters.length) = some 0 := by decide +kernel
set_option maxRecDepth 100000 in
theorem gdX6_modeName {base : Nat} {D : va_G} {ca : Nat → ClassId} {cv : Nat → Value} (hcv : ∀ j, (cv j).category = 1) {a0 : Nat} {μ : qM} {r : qR} (h : fX6_modeName a0 μ = some r) : qGood false base D ca cv 6 84 [.ref a0] μ r := by
  unfold fX6_modeName at h
  split at h
  · rename_i hk0
    exact qgood_of (by decide) (by omega) hcv (Or.inr ⟨by decide +kernel, hk0⟩) npX6_modeName rfl (Nat.le_of_ble_eq_true rfl) rfl (qblk_ev2 (cf := cfX6_modeName) (st := (fun n => qin [] n)) (K := (fun pc L S μ => none)) (cd := qcX6_modeName) (M := 84) (d0 := 5) rfl qcok_X6_modeName (Nat.le_refl _) (hcX6_modeName hcv) (by
    intro pc L S μ r h
    cases h) 400 (pc := 0) (L := qent [.ref a0] 1) (S := []) h)
  · cases h
theorem gaX6_modeName {base : Nat} {D : va_G} {ca : Nat → ClassId} {cv : Nat → Value} (hcv : ∀ j, (cv j).category = 1) {l : List Value} {μ : qM} {r : qR} (h : aX6_modeName l μ = some r) : qGood false base D ca cv 6 84 l μ r := by
  unfold aX6_modeName at h
  split at h
  · exact gdX6_modeName hcv h
  · cases h
noncomputable def fX6_digitsOf (a0 : Int32) (μ : qM) : Option qR :=
  if a0 = (98 : Int32) then
    some ((1 : Int32), 0, μ)
  else
  if a0 = (101 : Int32) then
    some ((1 : Int32), 0, μ)
  else
  if a0 = (102 : Int32) then
    some ((0 : Int32), 0, μ)
  else
  if a0 = (103 : Int32) then
    some ((3 : Int32), 0, μ)
  else
  if a0 = (108 : Int32) then
    some ((4 : Int32), 0, μ)
  else
  if a0 = (117 : Int32) then
    some ((3 : Int32), 0, μ)
  else
  if a0 = (118 : Int32) then
    some ((1 : Int32), 0, μ)
  else
  if a0 = (119 : Int32) then
    some ((2 : Int32), 0, μ)
  else
    some ((-1 : Int32), 0, μ)
noncomputable def aX6_digitsOf (l : List Value) (μ : qM) : Option qR := match l with
  | [.int x0] => fX6_digitsOf x0 μ
  | _ => none
noncomputable def cfX6_digitsOf : qF := fun n l μ => none
theorem hcX6_digitsOf {base : Nat} {D : va_G} {ca : Nat → ClassId} {cv : Nat → Value} (hcv : ∀ j, (cv j).category = 1) : ∀ M as μ r, cfX6_digitsOf M as μ = some r → qGood false base D ca cv 0 M as μ r := by
  intro M as μ r h
  cases h
theorem npX6_digitsOf : (parseMethodDescriptor (qmy 86).desc).map (fun d => d.parameters.length) = some 1 := by decide +kernel
set_option maxRecDepth 100000 in
theorem gdX6_digitsOf {base : Nat} {D : va_G} {ca : Nat → ClassId} {cv : Nat → Value} (hcv : ∀ j, (cv j).category = 1) {a0 : Int32} {μ : qM} {r : qR} (h : fX6_digitsOf a0 μ = some r) : qGood false base D ca cv 1 86 [.int a0] μ r := by
  exact qgood_of (by decide) (by omega) hcv (Or.inl rfl) npX6_digitsOf rfl (Nat.le_of_ble_eq_true rfl) rfl (qblk_ev2 (cf := cfX6_digitsOf) (st := (fun n => qin [] n)) (K := (fun pc L S μ => none)) (cd := qcX6_digitsOf) (M := 86) (d0 := 0) rfl qcok_X6_digitsOf (Nat.le_refl _) (hcX6_digitsOf hcv) (by
    intro pc L S μ r h
    cases h) 400 (pc := 0) (L := qent [.int a0] 1) (S := []) h)
theorem gaX6_digitsOf {base : Nat} {D : va_G} {ca : Nat → ClassId} {cv : Nat → Value} (hcv : ∀ j, (cv j).category = 1) {l : List Value} {μ : qM} {r : qR} (h : aX6_digitsOf l μ = some r) : qGood false base D ca cv 1 86 l μ r := by
  unfold aX6_digitsOf at h
  split at h
  · exact gdX6_digitsOf hcv h
  · cases h
noncomputable def fX6_wrongInDay_4 : Nat → Nat → Int32 → Int32 → qM → Option qR
  | 0 => fun _ _ _ _ => none
  | n + 1 => fun x0 x1 x2 μ =>
    qbnd (oGetI μ 6 x0 1) fun v1 =>
    if v1 ≤ x2 then
      if x1 ≤ 0 then
        some ((-1 : Int32), 0, μ)
      else
        qbnd (oGetI μ 6 x0 1) fun v2 =>
        some (v2, 0, μ)
    else
      qbnd (oGetP μ 6 x0 0) fun v3 =>
      qbnd (oLdI 22 μ v3 x2) fun v4 =>
      if x1 ≤ 0 then
        qbnd (fX6_digitsOf v4 μ) fun r5 =>
        if r5.1 = (-1 : Int32) then
          some (x2, 0, r5.2.2)
        else
          fX6_wrongInDay_4 n x0 r5.1 (x2 + (1 : Int32)) r5.2.2
      else
        qbnd (fX7_isDigit v4 μ) fun r6 =>
        if r6.1 = 0 then
          some (x2, 0, r6.2.2)
        else
          fX6_wrongInDay_4 n x0 (x1 + (-1 : Int32)) (x2 + (1 : Int32)) r6.2.2
noncomputable def gX6_wrongInDay (a0 : Nat) (μ : qM) : Option qR :=
  fX6_wrongInDay_4 qfu a0 (0 : Int32) (0 : Int32) μ
noncomputable def fX6_wrongInDay (a0 : Nat) (μ : qM) : Option qR := if (qk μ a0).1 = 6 then gX6_wrongInDay a0 μ else none
noncomputable def aX6_wrongInDay (l : List Value) (μ : qM) : Option qR := match l with
  | [.ref x0] => fX6_wrongInDay x0 μ
  | _ => none
noncomputable def cfX6_wrongInDay : qF := fun n l μ => if n = 138 then aX7_isDigit l μ else if n = 86 then aX6_digitsOf l μ else none
theorem hcX6_wrongInDay {base : Nat} {D : va_G} {ca : Nat → ClassId} {cv : Nat → Value} (hcv : ∀ j, (cv j).category = 1) : ∀ M as μ r, cfX6_wrongInDay M as μ = some r → qGood false base D ca cv 1 M as μ r := by
  intro M as μ r h
  unfold cfX6_wrongInDay at h
  split at h
  · rename_i e; subst e; exact (gaX7_isDigit hcv h).mono (by omega)
  split at h
  · rename_i e; subst e; exact (gaX6_digitsOf hcv h).mono (by omega)
  cases h
def jX6_wrongInDay_4 (f : Nat → Int32 → Int32 → qM → Option qR) (L S : List Value) (μ : qM) : Option qR := match L, S with
  | [.ref x0, .int x1, .int x2, _], [] => f x0 x1 x2 μ
  | _, _ => none
theorem jeX6_wrongInDay_4 {base : Nat} {D : va_G} {ca : Nat → ClassId} {cv : Nat → Value} {d : Nat} {f : Nat → Int32 → Int32 → qM → Option qR} (hf : ∀ (x0 : Nat) (x1 : Int32) (x2 : Int32) (μ : qM) (r : qR), f x0 x1 x2 μ = some r → qEv false base D ca cv d 85 r 4 [.ref x0, .int x1, .int x2, .null] [] μ) {L S : List Value} {μ : qM} {r : qR} (h : jX6_wrongInDay_4 f L S μ = some r) : qEv false base D ca cv d 85 r 4 L S μ := by
  unfold jX6_wrongInDay_4 at h
  split at h
  · exact (hf _ _ _ _ _ h).le rfl ⟨Or.inr rfl, Or.inr rfl, Or.inr rfl, Or.inl rfl, trivial⟩
  · cases h
set_option maxRecDepth 100000 in
theorem lbX6_wrongInDay_4 {base : Nat} {D : va_G} {ca : Nat → ClassId} {cv : Nat → Value} (hcv : ∀ j, (cv j).category = 1) : ∀ (n : Nat) (x0 : Nat) (x1 : Int32) (x2 : Int32) (μ : qM) (r : qR), fX6_wrongInDay_4 n x0 x1 x2 μ = some r → qEv false base D ca cv 2 85 r 4 [.ref x0, .int x1, .int x2, .null] [] μ := by
  intro n
  induction n with
  | zero => intro x0 x1 x2 μ r h; cases (show (none : Option qR) = some r from h)
  | succ n ih =>
    intro x0 x1 x2 μ r h
    exact qblk_ev2 (cf := cfX6_wrongInDay) (st := (fun n => qin [4] n)) (K := (fun pc L S μ => if pc = 4 then jX6_wrongInDay_4 (fX6_wrongInDay_4 n) L S μ else none)) (cd := qcX6_wrongInDay) (M := 85) (d0 := 1) rfl qcok_X6_wrongInDay (Nat.le_refl _) (hcX6_wrongInDay hcv) (by
    intro pc L S μ r h
    split at h
    · rename_i e; subst e; exact jeX6_wrongInDay_4 ih h
    cases h) 400 (pc := 4) (L := [.ref x0, .int x1, .int x2, .null]) (S := []) h
theorem npX6_wrongInDay : (parseMethodDescriptor (qmy 85).desc).map (fun d => d.parameters.length) = some 0 := by decide +kernel
set_option maxRecDepth 100000 in
theorem gdX6_wrongInDay {base : Nat} {D : va_G} {ca : Nat → ClassId} {cv : Nat → Value} (hcv : ∀ j, (cv j).category = 1) {a0 : Nat} {μ : qM} {r : qR} (h : fX6_wrongInDay a0 μ = some r) : qGood false base D ca cv 2 85 [.ref a0] μ r := by
  unfold fX6_wrongInDay at h
  split at h
  · rename_i hk0
    exact qgood_of (by decide) (by omega) hcv (Or.inr ⟨by decide +kernel, hk0⟩) npX6_wrongInDay rfl (Nat.le_of_ble_eq_true rfl) rfl (qblk_ev2 (cf := cfX6_wrongInDay) (st := (fun n => qin [4] n)) (K := (fun pc L S μ => if pc = 4 then jX6_wrongInDay_4 (fX6_wrongInDay_4 qfu) L S μ else none)) (cd := qcX6_wrongInDay) (M := 85) (d0 := 1) rfl qcok_X6_wrongInDay (Nat.le_refl _) (hcX6_wrongInDay hcv) (by
    intro pc L S μ r h
    split at h
    · rename_i e; subst e; exact jeX6_wrongInDay_4 (lbX6_wrongInDay_4 hcv qfu) h
    cases h) 400 (pc := 0) (L := qent [.ref a0] 4) (S := []) h)
  · cases h
theorem gaX6_wrongInDay {base : Nat} {D : va_G} {ca : Nat → ClassId} {cv : Nat → Value} (hcv : ∀ j, (cv j).category = 1) {l : List Value} {μ : qM} {r : qR} (h : aX6_wrongInDay l μ = some r) : qGood false base D ca cv 2 85 l μ r := by
  unfold aX6_wrongInDay at h
  split at h
  · exact gdX6_wrongInDay hcv h
  · cases h
noncomputable def gX7_sign (a0 : Nat) (a1 : Int32) (μ : qM) : Option qR :=
  qbnd (oGetP μ 7 a0 6) fun v1 =>
  qbnd (fX6_addFour v1 a1 μ) fun r2 =>
  some (r2.1, 0, r2.2.2)
noncomputable def fX7_sign (a0 : Nat) (a1 : Int32) (μ : qM) : Option qR := if (qk μ a0).1 = 7 then gX7_sign a0 a1 μ else none
noncomputable def aX7_sign (l : List Value) (μ : qM) : Option qR := match l with
  | [.ref x0, .int x1] => fX7_sign x0 x1 μ
  | _ => none
noncomputable def cfX7_sign : qF := fun n l μ => if n = 80 then aX6_addFour l μ else none
theorem hcX7_sign {base : Nat} {D : va_G} {ca : Nat → ClassId} {cv : Nat → Value} (hcv : ∀ j, (cv j).category = 1) : ∀ M as μ r, cfX7_sign M as μ = some r → qGood false base D ca cv 1 M as μ r := by
  intro M as μ r h
  unfold cfX7_sign at h
  split at h
  · rename_i e; subst e; exact (gaX6_addFour hcv h).mono (by omega)
  cases h
theorem npX7_sign : (parseMethodDescriptor (qmy 88).desc).map (fun d => d.parameters.length) = some 1 := by decide +kernel
set_option maxRecDepth 100000 in
theorem gdX7_sign {base : Nat} {D : va_G} {ca : Nat → ClassId} {cv : Nat → Value} (hcv : ∀ j, (cv j).category = 1) {a0 : Nat} {a1 : Int32} {μ : qM} {r : qR} (h : fX7_sign a0 a1 μ = some r) : qGood false base D ca cv 2 88 [.ref a0, .int a1] μ r := by
  unfold fX7_sign at h
  split at h
  · rename_i hk0
    exact qgood_of (by decide) (by omega) hcv (Or.inr ⟨by decide +kernel, hk0⟩) npX7_sign rfl (Nat.le_of_ble_eq_true rfl) rfl (qblk_ev2 (cf := cfX7_sign) (st := (fun n => qin [] n)) (K := (fun pc L S μ => none)) (cd := qcX7_sign) (M := 88) (d0 := 1) rfl qcok_X7_sign (Nat.le_refl _) (hcX7_sign hcv) (by
    intro pc L S μ r h
    cases h) 400 (pc := 0) (L := qent [.ref a0, .int a1] 2) (S := []) h)
  · cases h
theorem gaX7_sign {base : Nat} {D : va_G} {ca : Nat → ClassId} {cv : Nat → Value} (hcv : ∀ j, (cv j).category = 1) {l : List Value} {μ : qM} {r : qR} (h : aX7_sign l μ = some r) : qGood false base D ca cv 2 88 l μ r := by
  unfold aX7_sign at h
  split at h
  · exact gdX7_sign hcv h
  · cases h
noncomputable def gX7_end (a0 : Nat) (a1 : Int32) (μ : qM) : Option qR :=
  if a1 < 0 then
    if qnz (0 : Int32) = (0 : Int32) then some ((0 : Int32), 0, μ) else none
  else
    qbnd (oGetP μ 7 a0 6) fun v1 =>
    qbnd (oGetI μ 6 v1 1) fun v2 =>
    if a1 ≤ v2 then
      qbnd (oGetP μ 7 a0 6) fun v3 =>
      qbnd (oPutI μ 6 v3 1 a1) fun μ4 =>
      if qnz (1 : Int32) = (1 : Int32) then some ((1 : Int32), 0, μ4) else none
    else
      if qnz (0 : Int32) = (0 : Int32) then some ((0 : Int32), 0, μ) else none
noncomputable def fX7_end (a0 : Nat) (a1 : Int32) (μ : qM) : Option qR := if (qk μ a0).1 = 7 then gX7_end a0 a1 μ else none
noncomputable def aX7_end (l : List Value) (μ : qM) : Option qR := match l with
  | [.ref x0, .int x1] => fX7_end x0 x1 μ
  | _ => none
noncomputable def cfX7_end : qF := fun n l μ => none
theorem hcX7_end {base : Nat} {D : va_G} {ca : Nat → ClassId} {cv : Nat → Value} (hcv : ∀ j, (cv j).category = 1) : ∀ M as μ r, cfX7_end M as μ = some r → qGood false base D ca cv 0 M as μ r := by
  intro M as μ r h
  cases h
theorem npX7_end : (parseMethodDescriptor (qmy 89).desc).map (fun d => d.parameters.length) = some 1 := by decide +kernel
set_option maxRecDepth 100000 in
theorem gdX7_end {base : Nat} {D : va_G} {ca : Nat → ClassId} {cv : Nat → Value} (hcv : ∀ j, (cv j).category = 1) {a0 : Nat} {a1 : Int32} {μ : qM} {r : qR} (h : fX7_end a0 a1 μ = some r) : qGood false base D ca cv 1 89 [.ref a0, .int a1] μ r := by
  unfold fX7_end at h
  split at h
  · rename_i hk0
    exact qgood_of (by decide) (by omega) hcv (Or.inr ⟨by decide +kernel, hk0⟩) npX7_end rfl (Nat.le_of_ble_eq_true rfl) rfl (qblk_ev2 (cf := cfX7_end) (st := (fun n => qin [] n)) (K := (fun pc L S μ => none)) (cd := qcX7_end) (M := 89) (d0 := 0) rfl qcok_X7_end (Nat.le_refl _) (hcX7_end hcv) (by
    intro pc L S μ r h
    cases h) 400 (pc := 0) (L := qent [.ref a0, .int a1] 2) (S := []) h)
  · cases h
theorem gaX7_end {base : Nat} {D : va_G} {ca : Nat → ClassId} {cv : Nat → Value} (hcv : ∀ j, (cv j).category = 1) {l : List Value} {μ : qM} {r : qR} (h : aX7_end l μ = some r) : qGood false base D ca cv 1 89 l μ r := by
  unfold aX7_end at h
  split at h
  · exact gdX7_end hcv h
  · cases h
noncomputable def gX7_rule (a0 : Nat) (μ : qM) : Option qR :=
  qbnd (oGetP μ 7 a0 9) fun v1 =>
  qbnd (oGetP μ 7 a0 6) fun v2 =>
  qbnd (fX4_read v1 v2 μ) fun r3 =>
  qbnd (oGetP r3.2.2 7 a0 6) fun v4 =>
  qbnd (oPutI r3.2.2 6 v4 1 (0 : Int32)) fun μ5 =>
  if r3.1 = (-1 : Int32) then
    qbnd (oGetP μ5 7 a0 8) fun v6 =>
    qbnd (oGetP μ5 7 a0 9) fun v7 =>
    qbnd (fX4_copy v6 v7 μ5) fun r8 =>
    some ((0 : Int32), 0, r8.2.2)
  else
    some (((-1 : Int32) - r3.1), 0, μ5)
noncomputable def fX7_rule (a0 : Nat) (μ : qM) : Option qR := if (qk μ a0).1 = 7 then gX7_rule a0 μ else none
noncomputable def aX7_rule (l : List Value) (μ : qM) : Option qR := match l with
  | [.ref x0] => fX7_rule x0 μ
  | _ => none
noncomputable def cfX7_rule : qF := fun n l μ => if n = 39 then aX4_read l μ else if n = 38 then aX4_copy l μ else none
theorem hcX7_rule {base : Nat} {D : va_G} {ca : Nat → ClassId} {cv : Nat → Value} (hcv : ∀ j, (cv j).category = 1) : ∀ M as μ r, cfX7_rule M as μ = some r → qGood false base D ca cv 5 M as μ r := by
  intro M as μ r h
  unfold cfX7_rule at h
  split at h
  · rename_i e; subst e; exact (gaX4_read hcv h).mono (by omega)
  split at h
  · rename_i e; subst e; exact (gaX4_copy hcv h).mono (by omega)
  cases h
theorem npX7_rule : (parseMethodDescriptor (qmy 90).desc).map (fun d => d.parameters.length) = some 0 := by decide +kernel
set_option maxRecDepth 100000 in
theorem gdX7_rule {base : Nat} {D : va_G} {ca : Nat → ClassId} {cv : Nat → Value} (hcv : ∀ j, (cv j).category = 1) {a0 : Nat} {μ : qM} {r : qR} (h : fX7_rule a0 μ = some r) : qGood false base D ca cv 6 90 [.ref a0] μ r := by
  unfold fX7_rule at h
  split at h
  · rename_i hk0
    exact qgood_of (by decide) (by omega) hcv (Or.inr ⟨by decide +kernel, hk0⟩) npX7_rule rfl (Nat.le_of_ble_eq_true rfl) rfl (qblk_ev2 (cf := cfX7_rule) (st := (fun n => qin [] n)) (K := (fun pc L S μ => none)) (cd := qcX7_rule) (M := 90) (d0 := 5) rfl qcok_X7_rule (Nat.le_refl _) (hcX7_rule hcv) (by
    intro pc L S μ r h
    cases h) 400 (pc := 0) (L := qent [.ref a0] 2) (S := []) h)
  · cases h
theorem gaX7_rule {base : Nat} {D : va_G} {ca : Nat → ClassId} {cv : Nat → Value} (hcv : ∀ j, (cv j).category = 1) {l : List Value} {μ : qM} {r : qR} (h : aX7_rule l μ = some r) : qGood false base D ca cv 6 90 l μ r := by
  unfold aX7_rule at h
  split at h
  · exact gdX7_rule hcv h
  · cases h
noncomputable def fX7_isMode (a0 : Int32) (μ : qM) : Option qR :=
  if a0 < 0 then
    if qnz (0 : Int32) = (0 : Int32) then some ((0 : Int32), 0, μ) else none
  else
    if (7 : Int32) ≤ a0 then
      if qnz (0 : Int32) = (0 : Int32) then some ((0 : Int32), 0, μ) else none
    else
      if qnz (1 : Int32) = (1 : Int32) then some ((1 : Int32), 0, μ) else none
noncomputable def aX7_isMode (l : List Value) (μ : qM) : Option qR := match l with
  | [.int x0] => fX7_isMode x0 μ
  | _ => none
noncomputable def cfX7_isMode : qF := fun n l μ => none
theorem hcX7_isMode {base : Nat} {D : va_G} {ca : Nat → ClassId} {cv : Nat → Value} (hcv : ∀ j, (cv j).category = 1) : ∀ M as μ r, cfX7_isMode M as μ = some r → qGood false base D ca cv 0 M as μ r := by
  intro M as μ r h
  cases h
theorem npX7_isMode : (parseMethodDescriptor (qmy 133).desc).map (fun d => d.parameters.length) = some 1 := by decide +kernel
set_option maxRecDepth 100000 in
theorem gdX7_isMode {base : Nat} {D : va_G} {ca : Nat → ClassId} {cv : Nat → Value} (hcv : ∀ j, (cv j).category = 1) {a0 : Int32} {μ : qM} {r : qR} (h : fX7_isMode a0 μ = some r) : qGood false base D ca cv 1 133 [.int a0] μ r := by
  exact qgood_of (by decide) (by omega) hcv (Or.inl rfl) npX7_isMode rfl (Nat.le_of_ble_eq_true rfl) rfl (qblk_ev2 (cf := cfX7_isMode) (st := (fun n => qin [] n)) (K := (fun pc L S μ => none)) (cd := qcX7_isMode) (M := 133) (d0 := 0) rfl qcok_X7_isMode (Nat.le_refl _) (hcX7_isMode hcv) (by
    intro pc L S μ r h
    cases h) 400 (pc := 0) (L := qent [.int a0] 1) (S := []) h)
theorem gaX7_isMode {base : Nat} {D : va_G} {ca : Nat → ClassId} {cv : Nat → Value} (hcv : ∀ j, (cv j).category = 1) {l : List Value} {μ : qM} {r : qR} (h : aX7_isMode l μ = some r) : qGood false base D ca cv 1 133 l μ r := by
  unfold aX7_isMode at h
  split at h
  · exact gdX7_isMode hcv h
  · cases h
noncomputable def gX7_modes (a0 : Nat) (a1 : Int32) (a2 : Int32) (μ : qM) : Option qR :=
  qbnd (fX7_isMode a1 μ) fun r1 =>
  if r1.1 = 0 then
    some ((-1 : Int32), 0, r1.2.2)
  else
    qbnd (fX7_isMode a2 r1.2.2) fun r2 =>
    if r2.1 = 0 then
      some ((-1 : Int32), 0, r2.2.2)
    else
      qbnd (oGetP r2.2.2 7 a0 7) fun v3 =>
      qbnd (oTab 1 2 (((7 : Int32) * a1) + a2)) fun v4 =>
      qbnd (oTab 1 1 a1) fun v5 =>
      qbnd (fX3_two v3 (v4).toInt64 (((qush v5 a2) &&& (1 : Int32))).toInt64 r2.2.2) fun r6 =>
      qbnd (oTab 1 0 a1) fun v7 =>
      some (((qush v7 a2) &&& (1 : Int32)), 0, r6.2.2)
noncomputable def fX7_modes (a0 : Nat) (a1 : Int32) (a2 : Int32) (μ : qM) : Option qR := if (qk μ a0).1 = 7 then gX7_modes a0 a1 a2 μ else none
noncomputable def aX7_modes (l : List Value) (μ : qM) : Option qR := match l with
  | [.ref x0, .int x1, .int x2] => fX7_modes x0 x1 x2 μ
  | _ => none
noncomputable def cfX7_modes : qF := fun n l μ => if n = 133 then aX7_isMode l μ else if n = 35 then aX3_two l μ else none
theorem hcX7_modes {base : Nat} {D : va_G} {ca : Nat → ClassId} {cv : Nat → Value} (hcv : ∀ j, (cv j).category = 1) : ∀ M as μ r, cfX7_modes M as μ = some r → qGood false base D ca cv 2 M as μ r := by
  intro M as μ r h
  unfold cfX7_modes at h
  split at h
  · rename_i e; subst e; exact (gaX7_isMode hcv h).mono (by omega)
  split at h
  · rename_i e; subst e; exact (gaX3_two hcv h).mono (by omega)
  cases h
theorem npX7_modes : (parseMethodDescriptor (qmy 91).desc).map (fun d => d.parameters.length) = some 2 := by decide +kernel
set_option maxRecDepth 100000 in
theorem gdX7_modes {base : Nat} {D : va_G} {ca : Nat → ClassId} {cv : Nat → Value} (hcv : ∀ j, (cv j).category = 1) {a0 : Nat} {a1 : Int32} {a2 : Int32} {μ : qM} {r : qR} (h : fX7_modes a0 a1 a2 μ = some r) : qGood false base D ca cv 3 91 [.ref a0, .int a1, .int a2] μ r := by
  unfold fX7_modes at h
  split at h
  · rename_i hk0
    exact qgood_of (by decide) (by omega) hcv (Or.inr ⟨by decide +kernel, hk0⟩) npX7_modes rfl (Nat.le_of_ble_eq_true rfl) rfl (qblk_ev2 (cf := cfX7_modes) (st := (fun n => qin [] n)) (K := (fun pc L S μ => none)) (cd := qcX7_modes) (M := 91) (d0 := 2) rfl qcok_X7_modes (Nat.le_refl _) (hcX7_modes hcv) (by
    intro pc L S μ r h
    cases h) 400 (pc := 0) (L := qent [.ref a0, .int a1, .int a2] 3) (S := []) h)
  · cases h
theorem gaX7_modes {base : Nat} {D : va_G} {ca : Nat → ClassId} {cv : Nat → Value} (hcv : ∀ j, (cv j).category = 1) {l : List Value} {μ : qM} {r : qR} (h : aX7_modes l μ = some r) : qGood false base D ca cv 3 91 l μ r := by
  unfold aX7_modes at h
  split at h
  · exact gdX7_modes hcv h
  · cases h
noncomputable def gX7_named (a0 : Nat) (μ : qM) : Option qR :=
  qbnd (oGetP μ 7 a0 6) fun v1 =>
  qbnd (fX6_modeName v1 μ) fun r2 =>
  qbnd (oGetP r2.2.2 7 a0 6) fun v3 =>
  qbnd (oPutI r2.2.2 6 v3 1 (0 : Int32)) fun μ4 =>
  some (r2.1, 0, μ4)
noncomputable def fX7_named (a0 : Nat) (μ : qM) : Option qR := if (qk μ a0).1 = 7 then gX7_named a0 μ else none
noncomputable def aX7_named (l : List Value) (μ : qM) : Option qR := match l with
  | [.ref x0] => fX7_named x0 μ
  | _ => none
noncomputable def cfX7_named : qF := fun n l μ => if n = 84 then aX6_modeName l μ else none
theorem hcX7_named {base : Nat} {D : va_G} {ca : Nat → ClassId} {cv : Nat → Value} (hcv : ∀ j, (cv j).category = 1) : ∀ M as μ r, cfX7_named M as μ = some r → qGood false base D ca cv 6 M as μ r := by
  intro M as μ r h
  unfold cfX7_named at h
  split at h
  · rename_i e; subst e; exact (gaX6_modeName hcv h).mono (by omega)
  cases h
theorem npX7_named : (parseMethodDescriptor (qmy 92).desc).map (fun d => d.parameters.length) = some 0 := by decide +kernel
set_option maxRecDepth 100000 in
theorem gdX7_named {base : Nat} {D : va_G} {ca : Nat → ClassId} {cv : Nat → Value} (hcv : ∀ j, (cv j).category = 1) {a0 : Nat} {μ : qM} {r : qR} (h : fX7_named a0 μ = some r) : qGood false base D ca cv 7 92 [.ref a0] μ r := by
  unfold fX7_named at h
  split at h
  · rename_i hk0
    exact qgood_of (by decide) (by omega) hcv (Or.inr ⟨by decide +kernel, hk0⟩) npX7_named rfl (Nat.le_of_ble_eq_true rfl) rfl (qblk_ev2 (cf := cfX7_named) (st := (fun n => qin [] n)) (K := (fun pc L S μ => none)) (cd := qcX7_named) (M := 92) (d0 := 6) rfl qcok_X7_named (Nat.le_refl _) (hcX7_named hcv) (by
    intro pc L S μ r h
    cases h) 400 (pc := 0) (L := qent [.ref a0] 2) (S := []) h)
  · cases h
theorem gaX7_named {base : Nat} {D : va_G} {ca : Nat → ClassId} {cv : Nat → Value} (hcv : ∀ j, (cv j).category = 1) {l : List Value} {μ : qM} {r : qR} (h : aX7_named l μ = some r) : qGood false base D ca cv 7 92 l μ r := by
  unfold aX7_named at h
  split at h
  · exact gdX7_named hcv h
  · cases h
noncomputable def gX7_owner (a0 : Nat) (a1 : Int32) (a2 : Int32) (μ : qM) : Option qR :=
  qbnd (fX7_isOwner a1 μ) fun r1 =>
  if r1.1 = 0 then
    none
  else
    if a2 < 0 then
      none
    else
      if a2 ≤ (5 : Int32) then
        if a2 = (0 : Int32) then
          qbnd (oGetP r1.2.2 7 a0 2) fun v2 =>
          qbnd (oGetP r1.2.2 5 v2 1) fun v3 =>
          qbnd (oLdI 20 r1.2.2 v3 a1) fun v4 =>
          some (v4, 0, r1.2.2)
        else
        if a2 = (1 : Int32) then
          qbnd (oGetP r1.2.2 7 a0 2) fun v5 =>
          qbnd (oGetP r1.2.2 5 v5 2) fun v6 =>
          qbnd (oLdI 20 r1.2.2 v6 a1) fun v7 =>
          some (v7, 0, r1.2.2)
        else
        if a2 = (2 : Int32) then
          qbnd (oGetP r1.2.2 7 a0 2) fun v8 =>
          qbnd (oGetP r1.2.2 5 v8 3) fun v9 =>
          qbnd (oLdI 20 r1.2.2 v9 a1) fun v10 =>
          some (v10, 0, r1.2.2)
        else
        if a2 = (3 : Int32) then
          qbnd (oGetP r1.2.2 7 a0 2) fun v11 =>
          qbnd (oGetP r1.2.2 5 v11 4) fun v12 =>
          qbnd (oLdI 20 r1.2.2 v12 a1) fun v13 =>
          some (v13, 0, r1.2.2)
        else
        if a2 = (4 : Int32) then
          qbnd (oGetP r1.2.2 7 a0 2) fun v14 =>
          qbnd (fX5_holdings v14 a1 (0 : Int32) r1.2.2) fun r15 =>
          some (r15.1, 0, r15.2.2)
        else
          qbnd (oGetP r1.2.2 7 a0 0) fun v16 =>
          qbnd (oGetP r1.2.2 7 a0 8) fun v17 =>
          qbnd (fX0_costOf v16 a1 v17 r1.2.2) fun r18 =>
          some (r18.1, 0, r18.2.2)
      else
        none
noncomputable def fX7_owner (a0 : Nat) (a1 : Int32) (a2 : Int32) (μ : qM) : Option qR := if (qk μ a0).1 = 7 then gX7_owner a0 a1 a2 μ else none
noncomputable def aX7_owner (l : List Value) (μ : qM) : Option qR := match l with
  | [.ref x0, .int x1, .int x2] => fX7_owner x0 x1 x2 μ
  | _ => none
noncomputable def cfX7_owner : qF := fun n l μ => if n = 131 then aX7_isOwner l μ else if n = 58 then aX5_holdings l μ else if n = 12 then aX0_costOf l μ else none
theorem hcX7_owner {base : Nat} {D : va_G} {ca : Nat → ClassId} {cv : Nat → Value} (hcv : ∀ j, (cv j).category = 1) : ∀ M as μ r, cfX7_owner M as μ = some r → qGood false base D ca cv 5 M as μ r := by
  intro M as μ r h
  unfold cfX7_owner at h
  split at h
  · rename_i e; subst e; exact (gaX7_isOwner hcv h).mono (by omega)
  split at h
  · rename_i e; subst e; exact (gaX5_holdings hcv h).mono (by omega)
  split at h
  · rename_i e; subst e; exact (gaX0_costOf hcv h).mono (by omega)
  cases h
theorem npX7_owner : (parseMethodDescriptor (qmy 93).desc).map (fun d => d.parameters.length) = some 2 := by decide +kernel
set_option maxRecDepth 100000 in
theorem gdX7_owner {base : Nat} {D : va_G} {ca : Nat → ClassId} {cv : Nat → Value} (hcv : ∀ j, (cv j).category = 1) {a0 : Nat} {a1 : Int32} {a2 : Int32} {μ : qM} {r : qR} (h : fX7_owner a0 a1 a2 μ = some r) : qGood false base D ca cv 6 93 [.ref a0, .int a1, .int a2] μ r := by
  unfold fX7_owner at h
  split at h
  · rename_i hk0
    exact qgood_of (by decide) (by omega) hcv (Or.inr ⟨by decide +kernel, hk0⟩) npX7_owner rfl (Nat.le_of_ble_eq_true rfl) rfl (qblk_ev2 (cf := cfX7_owner) (st := (fun n => qin [] n)) (K := (fun pc L S μ => none)) (cd := qcX7_owner) (M := 93) (d0 := 5) rfl qcok_X7_owner (Nat.le_refl _) (hcX7_owner hcv) (by
    intro pc L S μ r h
    cases h) 400 (pc := 0) (L := qent [.ref a0, .int a1, .int a2] 3) (S := []) h)
  · cases h
theorem gaX7_owner {base : Nat} {D : va_G} {ca : Nat → ClassId} {cv : Nat → Value} (hcv : ∀ j, (cv j).category = 1) {l : List Value} {μ : qM} {r : qR} (h : aX7_owner l μ = some r) : qGood false base D ca cv 6 93 l μ r := by
  unfold aX7_owner at h
  split at h
  · exact gdX7_owner hcv h
  · cases h
noncomputable def gX7_held (a0 : Nat) (a1 : Int32) (a2 : Int32) (μ : qM) : Option qR :=
  qbnd (fX7_isOwner a1 μ) fun r1 =>
  if r1.1 = 0 then
    none
  else
    qbnd (fX7_isPlace a2 r1.2.2) fun r2 =>
    if r2.1 = 0 then
      none
    else
      qbnd (oGetP r2.2.2 7 a0 2) fun v3 =>
      qbnd (fX5_modeAt v3 a1 a2 r2.2.2) fun r4 =>
      some (r4.1, 0, r4.2.2)
noncomputable def fX7_held (a0 : Nat) (a1 : Int32) (a2 : Int32) (μ : qM) : Option qR := if (qk μ a0).1 = 7 then gX7_held a0 a1 a2 μ else none
noncomputable def aX7_held (l : List Value) (μ : qM) : Option qR := match l with
  | [.ref x0, .int x1, .int x2] => fX7_held x0 x1 x2 μ
  | _ => none
noncomputable def cfX7_held : qF := fun n l μ => if n = 131 then aX7_isOwner l μ else if n = 132 then aX7_isPlace l μ else if n = 54 then aX5_modeAt l μ else none
theorem hcX7_held {base : Nat} {D : va_G} {ca : Nat → ClassId} {cv : Nat → Value} (hcv : ∀ j, (cv j).category = 1) : ∀ M as μ r, cfX7_held M as μ = some r → qGood false base D ca cv 1 M as μ r := by
  intro M as μ r h
  unfold cfX7_held at h
  split at h
  · rename_i e; subst e; exact (gaX7_isOwner hcv h).mono (by omega)
  split at h
  · rename_i e; subst e; exact (gaX7_isPlace hcv h).mono (by omega)
  split at h
  · rename_i e; subst e; exact (gaX5_modeAt hcv h).mono (by omega)
  cases h
theorem npX7_held : (parseMethodDescriptor (qmy 94).desc).map (fun d => d.parameters.length) = some 2 := by decide +kernel
set_option maxRecDepth 100000 in
theorem gdX7_held {base : Nat} {D : va_G} {ca : Nat → ClassId} {cv : Nat → Value} (hcv : ∀ j, (cv j).category = 1) {a0 : Nat} {a1 : Int32} {a2 : Int32} {μ : qM} {r : qR} (h : fX7_held a0 a1 a2 μ = some r) : qGood false base D ca cv 2 94 [.ref a0, .int a1, .int a2] μ r := by
  unfold fX7_held at h
  split at h
  · rename_i hk0
    exact qgood_of (by decide) (by omega) hcv (Or.inr ⟨by decide +kernel, hk0⟩) npX7_held rfl (Nat.le_of_ble_eq_true rfl) rfl (qblk_ev2 (cf := cfX7_held) (st := (fun n => qin [] n)) (K := (fun pc L S μ => none)) (cd := qcX7_held) (M := 94) (d0 := 1) rfl qcok_X7_held (Nat.le_refl _) (hcX7_held hcv) (by
    intro pc L S μ r h
    cases h) 400 (pc := 0) (L := qent [.ref a0, .int a1, .int a2] 3) (S := []) h)
  · cases h
theorem gaX7_held {base : Nat} {D : va_G} {ca : Nat → ClassId} {cv : Nat → Value} (hcv : ∀ j, (cv j).category = 1) {l : List Value} {μ : qM} {r : qR} (h : aX7_held l μ = some r) : qGood false base D ca cv 2 94 l μ r := by
  unfold aX7_held at h
  split at h
  · exact gdX7_held hcv h
  · cases h
noncomputable def gX7_noted (a0 : Nat) (a1 : Int32) (μ : qM) : Option qR :=
  if a1 < 0 then
    some (a1, 0, μ)
  else
    qbnd (oGetP μ 7 a0 3) fun v1 =>
    qbnd (fX1_commit v1 μ) fun r2 =>
    some (a1, 0, r2.2.2)
noncomputable def fX7_noted (a0 : Nat) (a1 : Int32) (μ : qM) : Option qR := if (qk μ a0).1 = 7 then gX7_noted a0 a1 μ else none
noncomputable def aX7_noted (l : List Value) (μ : qM) : Option qR := match l with
  | [.ref x0, .int x1] => fX7_noted x0 x1 μ
  | _ => none
noncomputable def cfX7_noted : qF := fun n l μ => if n = 22 then aX1_commit l μ else none
theorem hcX7_noted {base : Nat} {D : va_G} {ca : Nat → ClassId} {cv : Nat → Value} (hcv : ∀ j, (cv j).category = 1) : ∀ M as μ r, cfX7_noted M as μ = some r → qGood false base D ca cv 1 M as μ r := by
  intro M as μ r h
  unfold cfX7_noted at h
  split at h
  · rename_i e; subst e; exact (gaX1_commit hcv h).mono (by omega)
  cases h
theorem npX7_noted : (parseMethodDescriptor (qmy 129).desc).map (fun d => d.parameters.length) = some 1 := by decide +kernel
set_option maxRecDepth 100000 in
theorem gdX7_noted {base : Nat} {D : va_G} {ca : Nat → ClassId} {cv : Nat → Value} (hcv : ∀ j, (cv j).category = 1) {a0 : Nat} {a1 : Int32} {μ : qM} {r : qR} (h : fX7_noted a0 a1 μ = some r) : qGood false base D ca cv 2 129 [.ref a0, .int a1] μ r := by
  unfold fX7_noted at h
  split at h
  · rename_i hk0
    exact qgood_of (by decide) (by omega) hcv (Or.inr ⟨by decide +kernel, hk0⟩) npX7_noted rfl (Nat.le_of_ble_eq_true rfl) rfl (qblk_ev2 (cf := cfX7_noted) (st := (fun n => qin [] n)) (K := (fun pc L S μ => none)) (cd := qcX7_noted) (M := 129) (d0 := 1) rfl qcok_X7_noted (Nat.le_refl _) (hcX7_noted hcv) (by
    intro pc L S μ r h
    cases h) 400 (pc := 0) (L := qent [.ref a0, .int a1] 2) (S := []) h)
  · cases h
theorem gaX7_noted {base : Nat} {D : va_G} {ca : Nat → ClassId} {cv : Nat → Value} (hcv : ∀ j, (cv j).category = 1) {l : List Value} {μ : qM} {r : qR} (h : aX7_noted l μ = some r) : qGood false base D ca cv 2 129 l μ r := by
  unfold aX7_noted at h
  split at h
  · exact gdX7_noted hcv h
  · cases h
noncomputable def gX7_begins (a0 : Nat) (a1 : Int32) (μ : qM) : Option qR :=
  qbnd (oGetP μ 7 a0 3) fun v1 =>
  qbnd (oGetP μ 7 a0 2) fun v2 =>
  qbnd (fX1_mark v1 v2 μ) fun r3 =>
  qbnd (oGetP r3.2.2 7 a0 0) fun v4 =>
  qbnd (fX0_start v4 a1 r3.2.2) fun r5 =>
  qbnd (fX7_noted a0 r5.1 r5.2.2) fun r6 =>
  some (r6.1, 0, r6.2.2)
noncomputable def fX7_begins (a0 : Nat) (a1 : Int32) (μ : qM) : Option qR := if (qk μ a0).1 = 7 then gX7_begins a0 a1 μ else none
noncomputable def aX7_begins (l : List Value) (μ : qM) : Option qR := match l with
  | [.ref x0, .int x1] => fX7_begins x0 x1 μ
  | _ => none
noncomputable def cfX7_begins : qF := fun n l μ => if n = 21 then aX1_mark l μ else if n = 3 then aX0_start l μ else if n = 129 then aX7_noted l μ else none
theorem hcX7_begins {base : Nat} {D : va_G} {ca : Nat → ClassId} {cv : Nat → Value} (hcv : ∀ j, (cv j).category = 1) : ∀ M as μ r, cfX7_begins M as μ = some r → qGood false base D ca cv 2 M as μ r := by
  intro M as μ r h
  unfold cfX7_begins at h
  split at h
  · rename_i e; subst e; exact (gaX1_mark hcv h).mono (by omega)
  split at h
  · rename_i e; subst e; exact (gaX0_start hcv h).mono (by omega)
  split at h
  · rename_i e; subst e; exact (gaX7_noted hcv h).mono (by omega)
  cases h
theorem npX7_begins : (parseMethodDescriptor (qmy 95).desc).map (fun d => d.parameters.length) = some 1 := by decide +kernel
set_option maxRecDepth 100000 in
theorem gdX7_begins {base : Nat} {D : va_G} {ca : Nat → ClassId} {cv : Nat → Value} (hcv : ∀ j, (cv j).category = 1) {a0 : Nat} {a1 : Int32} {μ : qM} {r : qR} (h : fX7_begins a0 a1 μ = some r) : qGood false base D ca cv 3 95 [.ref a0, .int a1] μ r := by
  unfold fX7_begins at h
  split at h
  · rename_i hk0
    exact qgood_of (by decide) (by omega) hcv (Or.inr ⟨by decide +kernel, hk0⟩) npX7_begins rfl (Nat.le_of_ble_eq_true rfl) rfl (qblk_ev2 (cf := cfX7_begins) (st := (fun n => qin [] n)) (K := (fun pc L S μ => none)) (cd := qcX7_begins) (M := 95) (d0 := 2) rfl qcok_X7_begins (Nat.le_refl _) (hcX7_begins hcv) (by
    intro pc L S μ r h
    cases h) 400 (pc := 0) (L := qent [.ref a0, .int a1] 2) (S := []) h)
  · cases h
theorem gaX7_begins {base : Nat} {D : va_G} {ca : Nat → ClassId} {cv : Nat → Value} (hcv : ∀ j, (cv j).category = 1) {l : List Value} {μ : qM} {r : qR} (h : aX7_begins l μ = some r) : qGood false base D ca cv 3 95 l μ r := by
  unfold aX7_begins at h
  split at h
  · exact gdX7_begins hcv h
  · cases h
noncomputable def gX7_works (a0 : Nat) (a1 : Int32) (a2 : Int32) (μ : qM) : Option qR :=
  qbnd (oGetP μ 7 a0 3) fun v1 =>
  qbnd (oGetP μ 7 a0 2) fun v2 =>
  qbnd (fX1_mark v1 v2 μ) fun r3 =>
  qbnd (oGetP r3.2.2 7 a0 0) fun v4 =>
  qbnd (fX0_labour v4 a1 a2 r3.2.2) fun r5 =>
  qbnd (fX7_noted a0 r5.1 r5.2.2) fun r6 =>
  some (r6.1, 0, r6.2.2)
noncomputable def fX7_works (a0 : Nat) (a1 : Int32) (a2 : Int32) (μ : qM) : Option qR := if (qk μ a0).1 = 7 then gX7_works a0 a1 a2 μ else none
noncomputable def aX7_works (l : List Value) (μ : qM) : Option qR := match l with
  | [.ref x0, .int x1, .int x2] => fX7_works x0 x1 x2 μ
  | _ => none
noncomputable def cfX7_works : qF := fun n l μ => if n = 21 then aX1_mark l μ else if n = 4 then aX0_labour l μ else if n = 129 then aX7_noted l μ else none
theorem hcX7_works {base : Nat} {D : va_G} {ca : Nat → ClassId} {cv : Nat → Value} (hcv : ∀ j, (cv j).category = 1) : ∀ M as μ r, cfX7_works M as μ = some r → qGood false base D ca cv 2 M as μ r := by
  intro M as μ r h
  unfold cfX7_works at h
  split at h
  · rename_i e; subst e; exact (gaX1_mark hcv h).mono (by omega)
  split at h
  · rename_i e; subst e; exact (gaX0_labour hcv h).mono (by omega)
  split at h
  · rename_i e; subst e; exact (gaX7_noted hcv h).mono (by omega)
  cases h
theorem npX7_works : (parseMethodDescriptor (qmy 96).desc).map (fun d => d.parameters.length) = some 2 := by decide +kernel
set_option maxRecDepth 100000 in
theorem gdX7_works {base : Nat} {D : va_G} {ca : Nat → ClassId} {cv : Nat → Value} (hcv : ∀ j, (cv j).category = 1) {a0 : Nat} {a1 : Int32} {a2 : Int32} {μ : qM} {r : qR} (h : fX7_works a0 a1 a2 μ = some r) : qGood false base D ca cv 3 96 [.ref a0, .int a1, .int a2] μ r := by
  unfold fX7_works at h
  split at h
  · rename_i hk0
    exact qgood_of (by decide) (by omega) hcv (Or.inr ⟨by decide +kernel, hk0⟩) npX7_works rfl (Nat.le_of_ble_eq_true rfl) rfl (qblk_ev2 (cf := cfX7_works) (st := (fun n => qin [] n)) (K := (fun pc L S μ => none)) (cd := qcX7_works) (M := 96) (d0 := 2) rfl qcok_X7_works (Nat.le_refl _) (hcX7_works hcv) (by
    intro pc L S μ r h
    cases h) 400 (pc := 0) (L := qent [.ref a0, .int a1, .int a2] 3) (S := []) h)
  · cases h
theorem gaX7_works {base : Nat} {D : va_G} {ca : Nat → ClassId} {cv : Nat → Value} (hcv : ∀ j, (cv j).category = 1) {l : List Value} {μ : qM} {r : qR} (h : aX7_works l μ = some r) : qGood false base D ca cv 3 96 l μ r := by
  unfold aX7_works at h
  split at h
  · exact gdX7_works hcv h
  · cases h
noncomputable def fX7_locks_32 (x4 : Int32) (s0 : Int64) (s1 : Int64) (s2 : Nat) (μ : qM) : Option qR :=
  qbnd (fX3_two s2 s1 s0 μ) fun r1 =>
  if x4 = 0 then
    some ((0 : Int32), 0, r1.2.2)
  else
    some ((1 : Int32), 0, r1.2.2)
noncomputable def gX7_locks (a0 : Nat) (a1 : Int32) (a2 : Int32) (a3 : Int32) (μ : qM) : Option qR :=
  qbnd (oGetP μ 7 a0 3) fun v1 =>
  qbnd (oGetP μ 7 a0 2) fun v2 =>
  qbnd (fX1_mark v1 v2 μ) fun r3 =>
  qbnd (oGetP r3.2.2 7 a0 0) fun v4 =>
  qbnd (fX0_lock v4 a1 a2 a3 r3.2.2) fun r5 =>
  qbnd (fX7_noted a0 r5.1 r5.2.2) fun r6 =>
  if 0 ≤ r6.1 then
    qbnd (oGetP r6.2.2 7 a0 7) fun v7 =>
    qbnd (oGetP r6.2.2 7 a0 2) fun v8 =>
    qbnd (oGetP r6.2.2 5 v8 5) fun v9 =>
    qbnd (oLdI 20 r6.2.2 v9 a1) fun v10 =>
    if r6.1 = (2 : Int32) then
      fX7_locks_32 r6.1 (1 : Int64) (v10).toInt64 v7 r6.2.2
    else
      fX7_locks_32 r6.1 (0 : Int64) (v10).toInt64 v7 r6.2.2
  else
    some (r6.1, 0, r6.2.2)
noncomputable def fX7_locks (a0 : Nat) (a1 : Int32) (a2 : Int32) (a3 : Int32) (μ : qM) : Option qR := if (qk μ a0).1 = 7 then gX7_locks a0 a1 a2 a3 μ else none
noncomputable def aX7_locks (l : List Value) (μ : qM) : Option qR := match l with
  | [.ref x0, .int x1, .int x2, .int x3] => fX7_locks x0 x1 x2 x3 μ
  | _ => none
noncomputable def cfX7_locks : qF := fun n l μ => if n = 21 then aX1_mark l μ else if n = 5 then aX0_lock l μ else if n = 129 then aX7_noted l μ else if n = 35 then aX3_two l μ else none
theorem hcX7_locks {base : Nat} {D : va_G} {ca : Nat → ClassId} {cv : Nat → Value} (hcv : ∀ j, (cv j).category = 1) : ∀ M as μ r, cfX7_locks M as μ = some r → qGood false base D ca cv 1003 M as μ r := by
  intro M as μ r h
  unfold cfX7_locks at h
  split at h
  · rename_i e; subst e; exact (gaX1_mark hcv h).mono (by omega)
  split at h
  · rename_i e; subst e; exact (gaX0_lock hcv h).mono (by omega)
  split at h
  · rename_i e; subst e; exact (gaX7_noted hcv h).mono (by omega)
  split at h
  · rename_i e; subst e; exact (gaX3_two hcv h).mono (by omega)
  cases h
def jX7_locks_32 (f : Int32 → Int64 → Int64 → Nat → qM → Option qR) (L S : List Value) (μ : qM) : Option qR := match L, S with
  | [_, _, _, _, .int x4], [.long s0, .long s1, .ref s2] => f x4 s0 s1 s2 μ
  | _, _ => none
theorem jeX7_locks_32 {base : Nat} {D : va_G} {ca : Nat → ClassId} {cv : Nat → Value} {d : Nat} {f : Int32 → Int64 → Int64 → Nat → qM → Option qR} (hf : ∀ (x4 : Int32) (s0 : Int64) (s1 : Int64) (s2 : Nat) (μ : qM) (r : qR), f x4 s0 s1 s2 μ = some r → qEv false base D ca cv d 97 r 32 [.null, .null, .null, .null, .int x4] [.long s0, .long s1, .ref s2] μ) {L S : List Value} {μ : qM} {r : qR} (h : jX7_locks_32 f L S μ = some r) : qEv false base D ca cv d 97 r 32 L S μ := by
  unfold jX7_locks_32 at h
  split at h
  · exact (hf _ _ _ _ _ _ h).le rfl ⟨Or.inl rfl, Or.inl rfl, Or.inl rfl, Or.inl rfl, Or.inr rfl, trivial⟩
  · cases h
set_option maxRecDepth 100000 in
theorem lbX7_locks_32 {base : Nat} {D : va_G} {ca : Nat → ClassId} {cv : Nat → Value} (hcv : ∀ j, (cv j).category = 1) (x4 : Int32) (s0 : Int64) (s1 : Int64) (s2 : Nat) (μ : qM) (r : qR) (h : fX7_locks_32 x4 s0 s1 s2 μ = some r) : qEv false base D ca cv 1004 97 r 32 [.null, .null, .null, .null, .int x4] [.long s0, .long s1, .ref s2] μ := by
    exact qblk_ev2 (cf := cfX7_locks) (st := (fun n => qin [32] n)) (K := (fun pc L S μ => none)) (cd := qcX7_locks) (M := 97) (d0 := 1003) rfl qcok_X7_locks (Nat.le_refl _) (hcX7_locks hcv) (by
    intro pc L S μ r h
    cases h) 400 (pc := 32) (L := [.null, .null, .null, .null, .int x4]) (S := [.long s0, .long s1, .ref s2]) h
theorem npX7_locks : (parseMethodDescriptor (qmy 97).desc).map (fun d => d.parameters.length) = some 3 := by decide +kernel
set_option maxRecDepth 100000 in
theorem gdX7_locks {base : Nat} {D : va_G} {ca : Nat → ClassId} {cv : Nat → Value} (hcv : ∀ j, (cv j).category = 1) {a0 : Nat} {a1 : Int32} {a2 : Int32} {a3 : Int32} {μ : qM} {r : qR} (h : fX7_locks a0 a1 a2 a3 μ = some r) : qGood false base D ca cv 1004 97 [.ref a0, .int a1, .int a2, .int a3] μ r := by
  unfold fX7_locks at h
  split at h
  · rename_i hk0
    exact qgood_of (by decide) (by omega) hcv (Or.inr ⟨by decide +kernel, hk0⟩) npX7_locks rfl (Nat.le_of_ble_eq_true rfl) rfl (qblk_ev2 (cf := cfX7_locks) (st := (fun n => qin [32] n)) (K := (fun pc L S μ => if pc = 32 then jX7_locks_32 (fX7_locks_32) L S μ else none)) (cd := qcX7_locks) (M := 97) (d0 := 1003) rfl qcok_X7_locks (Nat.le_refl _) (hcX7_locks hcv) (by
    intro pc L S μ r h
    split at h
    · rename_i e; subst e; exact jeX7_locks_32 (lbX7_locks_32 hcv) h
    cases h) 400 (pc := 0) (L := qent [.ref a0, .int a1, .int a2, .int a3] 5) (S := []) h)
  · cases h
theorem gaX7_locks {base : Nat} {D : va_G} {ca : Nat → ClassId} {cv : Nat → Value} (hcv : ∀ j, (cv j).category = 1) {l : List Value} {μ : qM} {r : qR} (h : aX7_locks l μ = some r) : qGood false base D ca cv 1004 97 l μ r := by
  unfold aX7_locks at h
  split at h
  · exact gdX7_locks hcv h
  · cases h
noncomputable def fJ6_bitCount_0f7a4 (a0 : Int32) (μ : qM) : Option qR :=
  let w1 : Int32 := (a0 - ((qush a0 (1 : Int32)) &&& (1431655765 : Int32)))
  let w2 : Int32 := ((w1 &&& (858993459 : Int32)) + ((qush w1 (2 : Int32)) &&& (858993459 : Int32)))
  let w3 : Int32 := ((w2 + (qush w2 (4 : Int32))) &&& (252645135 : Int32))
  let w4 : Int32 := ((w3 + (qush w3 (8 : Int32))) + (qush (w3 + (qush w3 (8 : Int32))) (16 : Int32)))
  some ((w4 &&& (63 : Int32)), 0, μ)
noncomputable def aJ6_bitCount_0f7a4 (l : List Value) (μ : qM) : Option qR := match l with
  | [.int x0] => fJ6_bitCount_0f7a4 x0 μ
  | _ => none
noncomputable def cfJ6_bitCount_0f7a4 : qF := fun n l μ => none
theorem hcJ6_bitCount_0f7a4 {base : Nat} {D : va_G} {ca : Nat → ClassId} {cv : Nat → Value} (hcv : ∀ j, (cv j).category = 1) : ∀ M as μ r, cfJ6_bitCount_0f7a4 M as μ = some r → qGood false base D ca cv 0 M as μ r := by
  intro M as μ r h
  cases h
theorem npJ6_bitCount_0f7a4 : (parseMethodDescriptor (qmy 267).desc).map (fun d => d.parameters.length) = some 1 := by decide +kernel
set_option maxRecDepth 100000 in
theorem gdJ6_bitCount_0f7a4 {base : Nat} {D : va_G} {ca : Nat → ClassId} {cv : Nat → Value} (hcv : ∀ j, (cv j).category = 1) {a0 : Int32} {μ : qM} {r : qR} (h : fJ6_bitCount_0f7a4 a0 μ = some r) : qGood false base D ca cv 1 267 [.int a0] μ r := by
  exact qgood_of (by decide) (by omega) hcv (Or.inl rfl) npJ6_bitCount_0f7a4 rfl (Nat.le_of_ble_eq_true rfl) rfl (qblk_ev2 (cf := cfJ6_bitCount_0f7a4) (st := (fun n => qin [] n)) (K := (fun pc L S μ => none)) (cd := qcJ6_bitCount_0f7a4) (M := 267) (d0 := 0) rfl qcok_J6_bitCount_0f7a4 (Nat.le_refl _) (hcJ6_bitCount_0f7a4 hcv) (by
    intro pc L S μ r h
    cases h) 400 (pc := 0) (L := qent [.int a0] 1) (S := []) h)
theorem gaJ6_bitCount_0f7a4 {base : Nat} {D : va_G} {ca : Nat → ClassId} {cv : Nat → Value} (hcv : ∀ j, (cv j).category = 1) {l : List Value} {μ : qM} {r : qR} (h : aJ6_bitCount_0f7a4 l μ = some r) : qGood false base D ca cv 1 267 l μ r := by
  unfold aJ6_bitCount_0f7a4 at h
  split at h
  · exact gdJ6_bitCount_0f7a4 hcv h
  · cases h
noncomputable def gX7_unlocks (a0 : Nat) (a1 : Int32) (a2 : Int32) (μ : qM) : Option qR :=
  qbnd (oGetP μ 7 a0 3) fun v1 =>
  qbnd (oGetP μ 7 a0 2) fun v2 =>
  qbnd (fX1_mark v1 v2 μ) fun r3 =>
  qbnd (oGetP r3.2.2 7 a0 2) fun v4 =>
  qbnd (fX5_standing v4 (2 : Int32) r3.2.2) fun r5 =>
  qbnd (oGetP r5.2.2 7 a0 0) fun v6 =>
  qbnd (fX0_unlock v6 a1 a2 r5.2.2) fun r7 =>
  qbnd (fX7_noted a0 r7.1 r7.2.2) fun r8 =>
  if 0 ≤ r8.1 then
    qbnd (oGetP r8.2.2 7 a0 2) fun v9 =>
    qbnd (fX5_standing v9 (1 : Int32) r8.2.2) fun r10 =>
    qbnd (fJ6_bitCount_0f7a4 (r5.1 &&& r10.1) r10.2.2) fun r11 =>
    some (r11.1, 0, r11.2.2)
  else
    some (r8.1, 0, r8.2.2)
noncomputable def fX7_unlocks (a0 : Nat) (a1 : Int32) (a2 : Int32) (μ : qM) : Option qR := if (qk μ a0).1 = 7 then gX7_unlocks a0 a1 a2 μ else none
noncomputable def aX7_unlocks (l : List Value) (μ : qM) : Option qR := match l with
  | [.ref x0, .int x1, .int x2] => fX7_unlocks x0 x1 x2 μ
  | _ => none
noncomputable def cfX7_unlocks : qF := fun n l μ => if n = 21 then aX1_mark l μ else if n = 56 then aX5_standing l μ else if n = 6 then aX0_unlock l μ else if n = 129 then aX7_noted l μ else if n = 267 then aJ6_bitCount_0f7a4 l μ else none
theorem hcX7_unlocks {base : Nat} {D : va_G} {ca : Nat → ClassId} {cv : Nat → Value} (hcv : ∀ j, (cv j).category = 1) : ∀ M as μ r, cfX7_unlocks M as μ = some r → qGood false base D ca cv 1004 M as μ r := by
  intro M as μ r h
  unfold cfX7_unlocks at h
  split at h
  · rename_i e; subst e; exact (gaX1_mark hcv h).mono (by omega)
  split at h
  · rename_i e; subst e; exact (gaX5_standing hcv h).mono (by omega)
  split at h
  · rename_i e; subst e; exact (gaX0_unlock hcv h).mono (by omega)
  split at h
  · rename_i e; subst e; exact (gaX7_noted hcv h).mono (by omega)
  split at h
  · rename_i e; subst e; exact (gaJ6_bitCount_0f7a4 hcv h).mono (by omega)
  cases h
theorem npX7_unlocks : (parseMethodDescriptor (qmy 98).desc).map (fun d => d.parameters.length) = some 2 := by decide +kernel
set_option maxRecDepth 100000 in
theorem gdX7_unlocks {base : Nat} {D : va_G} {ca : Nat → ClassId} {cv : Nat → Value} (hcv : ∀ j, (cv j).category = 1) {a0 : Nat} {a1 : Int32} {a2 : Int32} {μ : qM} {r : qR} (h : fX7_unlocks a0 a1 a2 μ = some r) : qGood false base D ca cv 1005 98 [.ref a0, .int a1, .int a2] μ r := by
  unfold fX7_unlocks at h
  split at h
  · rename_i hk0
    exact qgood_of (by decide) (by omega) hcv (Or.inr ⟨by decide +kernel, hk0⟩) npX7_unlocks rfl (Nat.le_of_ble_eq_true rfl) rfl (qblk_ev2 (cf := cfX7_unlocks) (st := (fun n => qin [] n)) (K := (fun pc L S μ => none)) (cd := qcX7_unlocks) (M := 98) (d0 := 1004) rfl qcok_X7_unlocks (Nat.le_refl _) (hcX7_unlocks hcv) (by
    intro pc L S μ r h
    cases h) 400 (pc := 0) (L := qent [.ref a0, .int a1, .int a2] 5) (S := []) h)
  · cases h
theorem gaX7_unlocks {base : Nat} {D : va_G} {ca : Nat → ClassId} {cv : Nat → Value} (hcv : ∀ j, (cv j).category = 1) {l : List Value} {μ : qM} {r : qR} (h : aX7_unlocks l μ = some r) : qGood false base D ca cv 1005 98 l μ r := by
  unfold aX7_unlocks at h
  split at h
  · exact gdX7_unlocks hcv h
  · cases h
noncomputable def gX7_ends (a0 : Nat) (a1 : Int32) (μ : qM) : Option qR :=
  qbnd (oGetP μ 7 a0 3) fun v1 =>
  qbnd (oGetP μ 7 a0 2) fun v2 =>
  qbnd (fX1_mark v1 v2 μ) fun r3 =>
  qbnd (oGetP r3.2.2 7 a0 2) fun v4 =>
  qbnd (fX5_standing v4 (2 : Int32) r3.2.2) fun r5 =>
  qbnd (oGetP r5.2.2 7 a0 0) fun v6 =>
  qbnd (fX0_finish v6 a1 r5.2.2) fun r7 =>
  qbnd (fX7_noted a0 r7.1 r7.2.2) fun r8 =>
  if r8.1 < 0 then
    some (r8.1, 0, r8.2.2)
  else
    qbnd (oGetP r8.2.2 7 a0 7) fun v9 =>
    qbnd (oGetP r8.2.2 7 a0 2) fun v10 =>
    qbnd (fX5_standing v10 (1 : Int32) r8.2.2) fun r11 =>
    qbnd (fJ6_bitCount_0f7a4 (r5.1 &&& r11.1) r11.2.2) fun r12 =>
    qbnd (fX3_one v9 (r12.1).toInt64 r12.2.2) fun r13 =>
    some (r8.1, 0, r13.2.2)
noncomputable def fX7_ends (a0 : Nat) (a1 : Int32) (μ : qM) : Option qR := if (qk μ a0).1 = 7 then gX7_ends a0 a1 μ else none
noncomputable def aX7_ends (l : List Value) (μ : qM) : Option qR := match l with
  | [.ref x0, .int x1] => fX7_ends x0 x1 μ
  | _ => none
noncomputable def cfX7_ends : qF := fun n l μ => if n = 21 then aX1_mark l μ else if n = 56 then aX5_standing l μ else if n = 7 then aX0_finish l μ else if n = 129 then aX7_noted l μ else if n = 267 then aJ6_bitCount_0f7a4 l μ else if n = 34 then aX3_one l μ else none
theorem hcX7_ends {base : Nat} {D : va_G} {ca : Nat → ClassId} {cv : Nat → Value} (hcv : ∀ j, (cv j).category = 1) : ∀ M as μ r, cfX7_ends M as μ = some r → qGood false base D ca cv 1005 M as μ r := by
  intro M as μ r h
  unfold cfX7_ends at h
  split at h
  · rename_i e; subst e; exact (gaX1_mark hcv h).mono (by omega)
  split at h
  · rename_i e; subst e; exact (gaX5_standing hcv h).mono (by omega)
  split at h
  · rename_i e; subst e; exact (gaX0_finish hcv h).mono (by omega)
  split at h
  · rename_i e; subst e; exact (gaX7_noted hcv h).mono (by omega)
  split at h
  · rename_i e; subst e; exact (gaJ6_bitCount_0f7a4 hcv h).mono (by omega)
  split at h
  · rename_i e; subst e; exact (gaX3_one hcv h).mono (by omega)
  cases h
theorem npX7_ends : (parseMethodDescriptor (qmy 99).desc).map (fun d => d.parameters.length) = some 1 := by decide +kernel
set_option maxRecDepth 100000 in
theorem gdX7_ends {base : Nat} {D : va_G} {ca : Nat → ClassId} {cv : Nat → Value} (hcv : ∀ j, (cv j).category = 1) {a0 : Nat} {a1 : Int32} {μ : qM} {r : qR} (h : fX7_ends a0 a1 μ = some r) : qGood false base D ca cv 1006 99 [.ref a0, .int a1] μ r := by
  unfold fX7_ends at h
  split at h
  · rename_i hk0
    exact qgood_of (by decide) (by omega) hcv (Or.inr ⟨by decide +kernel, hk0⟩) npX7_ends rfl (Nat.le_of_ble_eq_true rfl) rfl (qblk_ev2 (cf := cfX7_ends) (st := (fun n => qin [] n)) (K := (fun pc L S μ => none)) (cd := qcX7_ends) (M := 99) (d0 := 1005) rfl qcok_X7_ends (Nat.le_refl _) (hcX7_ends hcv) (by
    intro pc L S μ r h
    cases h) 400 (pc := 0) (L := qent [.ref a0, .int a1] 4) (S := []) h)
  · cases h
theorem gaX7_ends {base : Nat} {D : va_G} {ca : Nat → ClassId} {cv : Nat → Value} (hcv : ∀ j, (cv j).category = 1) {l : List Value} {μ : qM} {r : qR} (h : aX7_ends l μ = some r) : qGood false base D ca cv 1006 99 l μ r := by
  unfold aX7_ends at h
  split at h
  · exact gdX7_ends hcv h
  · cases h
noncomputable def gX7_gathers (a0 : Nat) (a1 : Int32) (a2 : Int32) (μ : qM) : Option qR :=
  qbnd (oGetP μ 7 a0 3) fun v1 =>
  qbnd (oGetP μ 7 a0 2) fun v2 =>
  qbnd (fX1_mark v1 v2 μ) fun r3 =>
  qbnd (oGetP r3.2.2 7 a0 0) fun v4 =>
  qbnd (fX0_collect v4 a1 a2 r3.2.2) fun r5 =>
  qbnd (fX7_noted a0 r5.1 r5.2.2) fun r6 =>
  if r6.1 < 0 then
    some (r6.1, 0, r6.2.2)
  else
    qbnd (oGetP r6.2.2 7 a0 7) fun v7 =>
    qbnd (oGetP r6.2.2 7 a0 2) fun v8 =>
    qbnd (fX5_modeAt v8 a1 a2 r6.2.2) fun r9 =>
    qbnd (fX3_one v7 (r9.1).toInt64 r9.2.2) fun r10 =>
    some (r6.1, 0, r10.2.2)
noncomputable def fX7_gathers (a0 : Nat) (a1 : Int32) (a2 : Int32) (μ : qM) : Option qR := if (qk μ a0).1 = 7 then gX7_gathers a0 a1 a2 μ else none
noncomputable def aX7_gathers (l : List Value) (μ : qM) : Option qR := match l with
  | [.ref x0, .int x1, .int x2] => fX7_gathers x0 x1 x2 μ
  | _ => none
noncomputable def cfX7_gathers : qF := fun n l μ => if n = 21 then aX1_mark l μ else if n = 8 then aX0_collect l μ else if n = 129 then aX7_noted l μ else if n = 54 then aX5_modeAt l μ else if n = 34 then aX3_one l μ else none
theorem hcX7_gathers {base : Nat} {D : va_G} {ca : Nat → ClassId} {cv : Nat → Value} (hcv : ∀ j, (cv j).category = 1) : ∀ M as μ r, cfX7_gathers M as μ = some r → qGood false base D ca cv 1002 M as μ r := by
  intro M as μ r h
  unfold cfX7_gathers at h
  split at h
  · rename_i e; subst e; exact (gaX1_mark hcv h).mono (by omega)
  split at h
  · rename_i e; subst e; exact (gaX0_collect hcv h).mono (by omega)
  split at h
  · rename_i e; subst e; exact (gaX7_noted hcv h).mono (by omega)
  split at h
  · rename_i e; subst e; exact (gaX5_modeAt hcv h).mono (by omega)
  split at h
  · rename_i e; subst e; exact (gaX3_one hcv h).mono (by omega)
  cases h
theorem npX7_gathers : (parseMethodDescriptor (qmy 100).desc).map (fun d => d.parameters.length) = some 2 := by decide +kernel
set_option maxRecDepth 100000 in
theorem gdX7_gathers {base : Nat} {D : va_G} {ca : Nat → ClassId} {cv : Nat → Value} (hcv : ∀ j, (cv j).category = 1) {a0 : Nat} {a1 : Int32} {a2 : Int32} {μ : qM} {r : qR} (h : fX7_gathers a0 a1 a2 μ = some r) : qGood false base D ca cv 1003 100 [.ref a0, .int a1, .int a2] μ r := by
  unfold fX7_gathers at h
  split at h
  · rename_i hk0
    exact qgood_of (by decide) (by omega) hcv (Or.inr ⟨by decide +kernel, hk0⟩) npX7_gathers rfl (Nat.le_of_ble_eq_true rfl) rfl (qblk_ev2 (cf := cfX7_gathers) (st := (fun n => qin [] n)) (K := (fun pc L S μ => none)) (cd := qcX7_gathers) (M := 100) (d0 := 1002) rfl qcok_X7_gathers (Nat.le_refl _) (hcX7_gathers hcv) (by
    intro pc L S μ r h
    cases h) 400 (pc := 0) (L := qent [.ref a0, .int a1, .int a2] 4) (S := []) h)
  · cases h
theorem gaX7_gathers {base : Nat} {D : va_G} {ca : Nat → ClassId} {cv : Nat → Value} (hcv : ∀ j, (cv j).category = 1) {l : List Value} {μ : qM} {r : qR} (h : aX7_gathers l μ = some r) : qGood false base D ca cv 1003 100 l μ r := by
  unfold aX7_gathers at h
  split at h
  · exact gdX7_gathers hcv h
  · cases h
noncomputable def gX7_bulk (a0 : Nat) (a1 : Int32) (μ : qM) : Option qR :=
  qbnd (oGetP μ 7 a0 3) fun v1 =>
  qbnd (oGetP μ 7 a0 2) fun v2 =>
  qbnd (fX1_mark v1 v2 μ) fun r3 =>
  qbnd (oGetP r3.2.2 7 a0 0) fun v4 =>
  qbnd (fX0_setBulk v4 a1 r3.2.2) fun r5 =>
  qbnd (fX7_noted a0 r5.1 r5.2.2) fun r6 =>
  some (r6.1, 0, r6.2.2)
noncomputable def fX7_bulk (a0 : Nat) (a1 : Int32) (μ : qM) : Option qR := if (qk μ a0).1 = 7 then gX7_bulk a0 a1 μ else none
noncomputable def aX7_bulk (l : List Value) (μ : qM) : Option qR := match l with
  | [.ref x0, .int x1] => fX7_bulk x0 x1 μ
  | _ => none
noncomputable def cfX7_bulk : qF := fun n l μ => if n = 21 then aX1_mark l μ else if n = 9 then aX0_setBulk l μ else if n = 129 then aX7_noted l μ else none
theorem hcX7_bulk {base : Nat} {D : va_G} {ca : Nat → ClassId} {cv : Nat → Value} (hcv : ∀ j, (cv j).category = 1) : ∀ M as μ r, cfX7_bulk M as μ = some r → qGood false base D ca cv 2 M as μ r := by
  intro M as μ r h
  unfold cfX7_bulk at h
  split at h
  · rename_i e; subst e; exact (gaX1_mark hcv h).mono (by omega)
  split at h
  · rename_i e; subst e; exact (gaX0_setBulk hcv h).mono (by omega)
  split at h
  · rename_i e; subst e; exact (gaX7_noted hcv h).mono (by omega)
  cases h
theorem npX7_bulk : (parseMethodDescriptor (qmy 101).desc).map (fun d => d.parameters.length) = some 1 := by decide +kernel
set_option maxRecDepth 100000 in
theorem gdX7_bulk {base : Nat} {D : va_G} {ca : Nat → ClassId} {cv : Nat → Value} (hcv : ∀ j, (cv j).category = 1) {a0 : Nat} {a1 : Int32} {μ : qM} {r : qR} (h : fX7_bulk a0 a1 μ = some r) : qGood false base D ca cv 3 101 [.ref a0, .int a1] μ r := by
  unfold fX7_bulk at h
  split at h
  · rename_i hk0
    exact qgood_of (by decide) (by omega) hcv (Or.inr ⟨by decide +kernel, hk0⟩) npX7_bulk rfl (Nat.le_of_ble_eq_true rfl) rfl (qblk_ev2 (cf := cfX7_bulk) (st := (fun n => qin [] n)) (K := (fun pc L S μ => none)) (cd := qcX7_bulk) (M := 101) (d0 := 2) rfl qcok_X7_bulk (Nat.le_refl _) (hcX7_bulk hcv) (by
    intro pc L S μ r h
    cases h) 400 (pc := 0) (L := qent [.ref a0, .int a1] 2) (S := []) h)
  · cases h
theorem gaX7_bulk {base : Nat} {D : va_G} {ca : Nat → ClassId} {cv : Nat → Value} (hcv : ∀ j, (cv j).category = 1) {l : List Value} {μ : qM} {r : qR} (h : aX7_bulk l μ = some r) : qGood false base D ca cv 3 101 l μ r := by
  unfold aX7_bulk at h
  split at h
  · exact gdX7_bulk hcv h
  · cases h
noncomputable def gX7_fells (a0 : Nat) (μ : qM) : Option qR :=
  qbnd (oGetP μ 7 a0 3) fun v1 =>
  qbnd (oGetP μ 7 a0 2) fun v2 =>
  qbnd (fX1_mark v1 v2 μ) fun r3 =>
  qbnd (oGetP r3.2.2 7 a0 0) fun v4 =>
  qbnd (oGetP r3.2.2 7 a0 8) fun v5 =>
  qbnd (fX0_fellAll v4 v5 r3.2.2) fun r6 =>
  qbnd (fX7_noted a0 r6.1 r6.2.2) fun r7 =>
  qbnd (oGetP r7.2.2 7 a0 7) fun v8 =>
  qbnd (oGetP r7.2.2 7 a0 0) fun v9 =>
  qbnd (oGetP r7.2.2 0 v9 2) fun v10 =>
  qbnd (fX3_list v8 v10 r7.1 r7.2.2) fun r11 =>
  some (r7.1, 0, r11.2.2)
noncomputable def fX7_fells (a0 : Nat) (μ : qM) : Option qR := if (qk μ a0).1 = 7 then gX7_fells a0 μ else none
noncomputable def aX7_fells (l : List Value) (μ : qM) : Option qR := match l with
  | [.ref x0] => fX7_fells x0 μ
  | _ => none
noncomputable def cfX7_fells : qF := fun n l μ => if n = 21 then aX1_mark l μ else if n = 10 then aX0_fellAll l μ else if n = 129 then aX7_noted l μ else if n = 36 then aX3_list l μ else none
theorem hcX7_fells {base : Nat} {D : va_G} {ca : Nat → ClassId} {cv : Nat → Value} (hcv : ∀ j, (cv j).category = 1) : ∀ M as μ r, cfX7_fells M as μ = some r → qGood false base D ca cv 1005 M as μ r := by
  intro M as μ r h
  unfold cfX7_fells at h
  split at h
  · rename_i e; subst e; exact (gaX1_mark hcv h).mono (by omega)
  split at h
  · rename_i e; subst e; exact (gaX0_fellAll hcv h).mono (by omega)
  split at h
  · rename_i e; subst e; exact (gaX7_noted hcv h).mono (by omega)
  split at h
  · rename_i e; subst e; exact (gaX3_list hcv h).mono (by omega)
  cases h
theorem npX7_fells : (parseMethodDescriptor (qmy 102).desc).map (fun d => d.parameters.length) = some 0 := by decide +kernel
set_option maxRecDepth 100000 in
theorem gdX7_fells {base : Nat} {D : va_G} {ca : Nat → ClassId} {cv : Nat → Value} (hcv : ∀ j, (cv j).category = 1) {a0 : Nat} {μ : qM} {r : qR} (h : fX7_fells a0 μ = some r) : qGood false base D ca cv 1006 102 [.ref a0] μ r := by
  unfold fX7_fells at h
  split at h
  · rename_i hk0
    exact qgood_of (by decide) (by omega) hcv (Or.inr ⟨by decide +kernel, hk0⟩) npX7_fells rfl (Nat.le_of_ble_eq_true rfl) rfl (qblk_ev2 (cf := cfX7_fells) (st := (fun n => qin [] n)) (K := (fun pc L S μ => none)) (cd := qcX7_fells) (M := 102) (d0 := 1005) rfl qcok_X7_fells (Nat.le_refl _) (hcX7_fells hcv) (by
    intro pc L S μ r h
    cases h) 400 (pc := 0) (L := qent [.ref a0] 2) (S := []) h)
  · cases h
theorem gaX7_fells {base : Nat} {D : va_G} {ca : Nat → ClassId} {cv : Nat → Value} (hcv : ∀ j, (cv j).category = 1) {l : List Value} {μ : qM} {r : qR} (h : aX7_fells l μ = some r) : qGood false base D ca cv 1006 102 l μ r := by
  unfold aX7_fells at h
  split at h
  · exact gdX7_fells hcv h
  · cases h
noncomputable def fX7_day_88 (k26 : Nat → Int32 → Int32 → Int32 → qM → Option qR) (x0 : Nat) (x2 : Int32) (x3 : Int32) (x4 : Int32) (μ : qM) : Option qR :=
  qbnd (oGetP μ 7 x0 6) fun v1 =>
  qbnd (fX6_at v1 x4 μ) fun r2 =>
  qbnd (fX6_digitsOf r2.1 r2.2.2) fun r3 =>
  let w4 : Int32 := (x4 + ((1 : Int32) + (if (0 : Int32) < r3.1 then r3.1 else (0 : Int32))))
  k26 x0 x2 x3 w4 r3.2.2
noncomputable def fX7_day_63 (k26 : Nat → Int32 → Int32 → Int32 → qM → Option qR) (x0 : Nat) (x2 : Int32) (x3 : Int32) (x4 : Int32) (x5 : Int32) (s0 : Int32) (μ : qM) : Option qR :=
  qbnd (oGetP μ 7 x0 0) fun v1 =>
  qbnd (oGetP μ 7 x0 6) fun v2 =>
  qbnd (fX6_digit v2 (x4 + (1 : Int32)) μ) fun r3 =>
  qbnd (oGetP r3.2.2 7 x0 6) fun v4 =>
  qbnd (fX6_digit v4 (x4 + (4 : Int32)) r3.2.2) fun r5 =>
  qbnd (oGetP r5.2.2 7 x0 8) fun v6 =>
  qbnd (fX0_act v1 x5 r3.1 s0 r5.1 v6 r5.2.2) fun r7 =>
  if 0 ≤ r7.1 then
    fX7_day_88 k26 x0 (x2 + (1 : Int32)) x3 x4 r7.2.2
  else
    fX7_day_88 k26 x0 x2 (1 : Int32) x4 r7.2.2
noncomputable def fX7_day_110 (x0 : Nat) (x2 : Int32) (x3 : Int32) (μ : qM) : Option qR :=
  qbnd (oGetP μ 7 x0 7) fun v1 =>
  qbnd (oGetP μ 7 x0 2) fun v2 =>
  qbnd (fX5_standing v2 (2 : Int32) μ) fun r3 =>
  qbnd (fX3_two v1 (x3).toInt64 (r3.1).toInt64 r3.2.2) fun r4 =>
  some (x2, 0, r4.2.2)
noncomputable def fX7_day_101 (x0 : Nat) (x2 : Int32) (x3 : Int32) (μ : qM) : Option qR :=
  qbnd (oGetP μ 7 x0 6) fun v1 =>
  qbnd (oPutI μ 6 v1 1 (0 : Int32)) fun μ2 =>
  if x2 ≤ 0 then
    fX7_day_110 x0 x2 x3 μ2
  else
    qbnd (oGetP μ2 7 x0 3) fun v3 =>
    qbnd (fX1_commit v3 μ2) fun r4 =>
    fX7_day_110 x0 x2 x3 r4.2.2
noncomputable def fX7_day_26 : Nat → Nat → Int32 → Int32 → Int32 → qM → Option qR
  | 0 => fun _ _ _ _ _ => none
  | n + 1 => fun x0 x2 x3 x4 μ =>
    qbnd (oGetP μ 7 x0 6) fun v1 =>
    qbnd (oGetI μ 6 v1 1) fun v2 =>
    if v2 ≤ x4 then
      fX7_day_101 x0 x2 x3 μ
    else
      if x3 = 0 then
        qbnd (oGetP μ 7 x0 6) fun v3 =>
        qbnd (fX6_at v3 x4 μ) fun r4 =>
        if r4.1 = (119 : Int32) then
          qbnd (oGetP r4.2.2 7 x0 6) fun v9 =>
          qbnd (fX6_digit v9 (x4 + (2 : Int32)) r4.2.2) fun r10 =>
          fX7_day_63 (fX7_day_26 n) x0 x2 x3 x4 r4.1 r10.1 r10.2.2
        else
          qbnd (oGetP r4.2.2 7 x0 6) fun v5 =>
          qbnd (fX6_digit v5 (x4 + (2 : Int32)) r4.2.2) fun r6 =>
          qbnd (oGetP r6.2.2 7 x0 6) fun v7 =>
          qbnd (fX6_digit v7 (x4 + (3 : Int32)) r6.2.2) fun r8 =>
          fX7_day_63 (fX7_day_26 n) x0 x2 x3 x4 r4.1 (((10 : Int32) * r6.1) + r8.1) r8.2.2
      else
        fX7_day_101 x0 x2 x3 μ
noncomputable def gX7_day (a0 : Nat) (μ : qM) : Option qR :=
  qbnd (oGetP μ 7 a0 6) fun v1 =>
  qbnd (fX6_wrongInDay v1 μ) fun r2 =>
  if r2.1 = (-1 : Int32) then
    qbnd (oGetP r2.2.2 7 a0 3) fun v3 =>
    qbnd (oGetP r2.2.2 7 a0 2) fun v4 =>
    qbnd (fX1_mark v3 v4 r2.2.2) fun r5 =>
    fX7_day_26 qfu a0 (0 : Int32) (0 : Int32) (0 : Int32) r5.2.2
  else
    qbnd (oGetP r2.2.2 7 a0 6) fun v6 =>
    qbnd (oPutI r2.2.2 6 v6 1 (0 : Int32)) fun μ7 =>
    some (((-1 : Int32) - r2.1), 0, μ7)
noncomputable def fX7_day (a0 : Nat) (μ : qM) : Option qR := if (qk μ a0).1 = 7 then gX7_day a0 μ else none
noncomputable def aX7_day (l : List Value) (μ : qM) : Option qR := match l with
  | [.ref x0] => fX7_day x0 μ
  | _ => none
noncomputable def cfX7_day : qF := fun n l μ => if n = 85 then aX6_wrongInDay l μ else if n = 21 then aX1_mark l μ else if n = 81 then aX6_at l μ else if n = 82 then aX6_digit l μ else if n = 2 then aX0_act l μ else if n = 86 then aX6_digitsOf l μ else if n = 22 then aX1_commit l μ else if n = 56 then aX5_standing l μ else if n = 35 then aX3_two l μ else none
theorem hcX7_day {base : Nat} {D : va_G} {ca : Nat → ClassId} {cv : Nat → Value} (hcv : ∀ j, (cv j).category = 1) : ∀ M as μ r, cfX7_day M as μ = some r → qGood false base D ca cv 1006 M as μ r := by
  intro M as μ r h
  unfold cfX7_day at h
  split at h
  · rename_i e; subst e; exact (gaX6_wrongInDay hcv h).mono (by omega)
  split at h
  · rename_i e; subst e; exact (gaX1_mark hcv h).mono (by omega)
  split at h
  · rename_i e; subst e; exact (gaX6_at hcv h).mono (by omega)
  split at h
  · rename_i e; subst e; exact (gaX6_digit hcv h).mono (by omega)
  split at h
  · rename_i e; subst e; exact (gaX0_act hcv h).mono (by omega)
  split at h
  · rename_i e; subst e; exact (gaX6_digitsOf hcv h).mono (by omega)
  split at h
  · rename_i e; subst e; exact (gaX1_commit hcv h).mono (by omega)
  split at h
  · rename_i e; subst e; exact (gaX5_standing hcv h).mono (by omega)
  split at h
  · rename_i e; subst e; exact (gaX3_two hcv h).mono (by omega)
  cases h
def jX7_day_26 (f : Nat → Int32 → Int32 → Int32 → qM → Option qR) (L S : List Value) (μ : qM) : Option qR := match L, S with
  | [.ref x0, _, .int x2, .int x3, .int x4, _, _], [] => f x0 x2 x3 x4 μ
  | _, _ => none
theorem jeX7_day_26 {base : Nat} {D : va_G} {ca : Nat → ClassId} {cv : Nat → Value} {d : Nat} {f : Nat → Int32 → Int32 → Int32 → qM → Option qR} (hf : ∀ (x0 : Nat) (x2 : Int32) (x3 : Int32) (x4 : Int32) (μ : qM) (r : qR), f x0 x2 x3 x4 μ = some r → qEv false base D ca cv d 103 r 26 [.ref x0, .null, .int x2, .int x3, .int x4, .null, .null] [] μ) {L S : List Value} {μ : qM} {r : qR} (h : jX7_day_26 f L S μ = some r) : qEv false base D ca cv d 103 r 26 L S μ := by
  unfold jX7_day_26 at h
  split at h
  · exact (hf _ _ _ _ _ _ h).le rfl ⟨Or.inr rfl, Or.inl rfl, Or.inr rfl, Or.inr rfl, Or.inr rfl, Or.inl rfl, Or.inl rfl, trivial⟩
  · cases h
def jX7_day_63 (f : Nat → Int32 → Int32 → Int32 → Int32 → Int32 → qM → Option qR) (L S : List Value) (μ : qM) : Option qR := match L, S with
  | [.ref x0, _, .int x2, .int x3, .int x4, .int x5, _], [.int s0] => f x0 x2 x3 x4 x5 s0 μ
  | _, _ => none
theorem jeX7_day_63 {base : Nat} {D : va_G} {ca : Nat → ClassId} {cv : Nat → Value} {d : Nat} {f : Nat → Int32 → Int32 → Int32 → Int32 → Int32 → qM → Option qR} (hf : ∀ (x0 : Nat) (x2 : Int32) (x3 : Int32) (x4 : Int32) (x5 : Int32) (s0 : Int32) (μ : qM) (r : qR), f x0 x2 x3 x4 x5 s0 μ = some r → qEv false base D ca cv d 103 r 63 [.ref x0, .null, .int x2, .int x3, .int x4, .int x5, .null] [.int s0] μ) {L S : List Value} {μ : qM} {r : qR} (h : jX7_day_63 f L S μ = some r) : qEv false base D ca cv d 103 r 63 L S μ := by
  unfold jX7_day_63 at h
  split at h
  · exact (hf _ _ _ _ _ _ _ _ h).le rfl ⟨Or.inr rfl, Or.inl rfl, Or.inr rfl, Or.inr rfl, Or.inr rfl, Or.inr rfl, Or.inl rfl, trivial⟩
  · cases h
def jX7_day_88 (f : Nat → Int32 → Int32 → Int32 → qM → Option qR) (L S : List Value) (μ : qM) : Option qR := match L, S with
  | [.ref x0, _, .int x2, .int x3, .int x4, _, _], [] => f x0 x2 x3 x4 μ
  | _, _ => none
theorem jeX7_day_88 {base : Nat} {D : va_G} {ca : Nat → ClassId} {cv : Nat → Value} {d : Nat} {f : Nat → Int32 → Int32 → Int32 → qM → Option qR} (hf : ∀ (x0 : Nat) (x2 : Int32) (x3 : Int32) (x4 : Int32) (μ : qM) (r : qR), f x0 x2 x3 x4 μ = some r → qEv false base D ca cv d 103 r 88 [.ref x0, .null, .int x2, .int x3, .int x4, .null, .null] [] μ) {L S : List Value} {μ : qM} {r : qR} (h : jX7_day_88 f L S μ = some r) : qEv false base D ca cv d 103 r 88 L S μ := by
  unfold jX7_day_88 at h
  split at h
  · exact (hf _ _ _ _ _ _ h).le rfl ⟨Or.inr rfl, Or.inl rfl, Or.inr rfl, Or.inr rfl, Or.inr rfl, Or.inl rfl, Or.inl rfl, trivial⟩
  · cases h
def jX7_day_101 (f : Nat → Int32 → Int32 → qM → Option qR) (L S : List Value) (μ : qM) : Option qR := match L, S with
  | [.ref x0, _, .int x2, .int x3, _, _, _], [] => f x0 x2 x3 μ
  | _, _ => none
theorem jeX7_day_101 {base : Nat} {D : va_G} {ca : Nat → ClassId} {cv : Nat → Value} {d : Nat} {f : Nat → Int32 → Int32 → qM → Option qR} (hf : ∀ (x0 : Nat) (x2 : Int32) (x3 : Int32) (μ : qM) (r : qR), f x0 x2 x3 μ = some r → qEv false base D ca cv d 103 r 101 [.ref x0, .null, .int x2, .int x3, .null, .null, .null] [] μ) {L S : List Value} {μ : qM} {r : qR} (h : jX7_day_101 f L S μ = some r) : qEv false base D ca cv d 103 r 101 L S μ := by
  unfold jX7_day_101 at h
  split at h
  · exact (hf _ _ _ _ _ h).le rfl ⟨Or.inr rfl, Or.inl rfl, Or.inr rfl, Or.inr rfl, Or.inl rfl, Or.inl rfl, Or.inl rfl, trivial⟩
  · cases h
def jX7_day_110 (f : Nat → Int32 → Int32 → qM → Option qR) (L S : List Value) (μ : qM) : Option qR := match L, S with
  | [.ref x0, _, .int x2, .int x3, _, _, _], [] => f x0 x2 x3 μ
  | _, _ => none
theorem jeX7_day_110 {base : Nat} {D : va_G} {ca : Nat → ClassId} {cv : Nat → Value} {d : Nat} {f : Nat → Int32 → Int32 → qM → Option qR} (hf : ∀ (x0 : Nat) (x2 : Int32) (x3 : Int32) (μ : qM) (r : qR), f x0 x2 x3 μ = some r → qEv false base D ca cv d 103 r 110 [.ref x0, .null, .int x2, .int x3, .null, .null, .null] [] μ) {L S : List Value} {μ : qM} {r : qR} (h : jX7_day_110 f L S μ = some r) : qEv false base D ca cv d 103 r 110 L S μ := by
  unfold jX7_day_110 at h
  split at h
  · exact (hf _ _ _ _ _ h).le rfl ⟨Or.inr rfl, Or.inl rfl, Or.inr rfl, Or.inr rfl, Or.inl rfl, Or.inl rfl, Or.inl rfl, trivial⟩
  · cases h
set_option maxRecDepth 100000 in
theorem lbX7_day_88 {base : Nat} {D : va_G} {ca : Nat → ClassId} {cv : Nat → Value} (hcv : ∀ j, (cv j).category = 1) {k26 : Nat → Int32 → Int32 → Int32 → qM → Option qR} (hk26 : ∀ (y0 : Nat) (y2 : Int32) (y3 : Int32) (y4 : Int32) (μ : qM) (r : qR), k26 y0 y2 y3 y4 μ = some r → qEv false base D ca cv 1007 103 r 26 [.ref y0, .null, .int y2, .int y3, .int y4, .null, .null] [] μ) (x0 : Nat) (x2 : Int32) (x3 : Int32) (x4 : Int32) (μ : qM) (r : qR) (h : fX7_day_88 k26 x0 x2 x3 x4 μ = some r) : qEv false base D ca cv 1007 103 r 88 [.ref x0, .null, .int x2, .int x3, .int x4, .null, .null] [] μ := by
    exact qblk_ev2 (cf := cfX7_day) (st := (fun n => qin [26, 63, 88, 101, 110] n)) (K := (fun pc L S μ => if pc = 26 then jX7_day_26 k26 L S μ else none)) (cd := qcX7_day) (M := 103) (d0 := 1006) rfl qcok_X7_day (Nat.le_refl _) (hcX7_day hcv) (by
    intro pc L S μ r h
    split at h
    · rename_i e; subst e; exact jeX7_day_26 hk26 h
    cases h) 400 (pc := 88) (L := [.ref x0, .null, .int x2, .int x3, .int x4, .null, .null]) (S := []) h
set_option maxRecDepth 100000 in
theorem lbX7_day_63 {base : Nat} {D : va_G} {ca : Nat → ClassId} {cv : Nat → Value} (hcv : ∀ j, (cv j).category = 1) {k26 : Nat → Int32 → Int32 → Int32 → qM → Option qR} (hk26 : ∀ (y0 : Nat) (y2 : Int32) (y3 : Int32) (y4 : Int32) (μ : qM) (r : qR), k26 y0 y2 y3 y4 μ = some r → qEv false base D ca cv 1007 103 r 26 [.ref y0, .null, .int y2, .int y3, .int y4, .null, .null] [] μ) (x0 : Nat) (x2 : Int32) (x3 : Int32) (x4 : Int32) (x5 : Int32) (s0 : Int32) (μ : qM) (r : qR) (h : fX7_day_63 k26 x0 x2 x3 x4 x5 s0 μ = some r) : qEv false base D ca cv 1007 103 r 63 [.ref x0, .null, .int x2, .int x3, .int x4, .int x5, .null] [.int s0] μ := by
    exact qblk_ev2 (cf := cfX7_day) (st := (fun n => qin [26, 63, 88, 101, 110] n)) (K := (fun pc L S μ => if pc = 88 then jX7_day_88 (fX7_day_88 k26) L S μ else none)) (cd := qcX7_day) (M := 103) (d0 := 1006) rfl qcok_X7_day (Nat.le_refl _) (hcX7_day hcv) (by
    intro pc L S μ r h
    split at h
    · rename_i e; subst e; exact jeX7_day_88 (lbX7_day_88 hcv hk26) h
    cases h) 400 (pc := 63) (L := [.ref x0, .null, .int x2, .int x3, .int x4, .int x5, .null]) (S := [.int s0]) h
set_option maxRecDepth 100000 in
theorem lbX7_day_110 {base : Nat} {D : va_G} {ca : Nat → ClassId} {cv : Nat → Value} (hcv : ∀ j, (cv j).category = 1) (x0 : Nat) (x2 : Int32) (x3 : Int32) (μ : qM) (r : qR) (h : fX7_day_110 x0 x2 x3 μ = some r) : qEv false base D ca cv 1007 103 r 110 [.ref x0, .null, .int x2, .int x3, .null, .null, .null] [] μ := by
    exact qblk_ev2 (cf := cfX7_day) (st := (fun n => qin [26, 63, 88, 101, 110] n)) (K := (fun pc L S μ => none)) (cd := qcX7_day) (M := 103) (d0 := 1006) rfl qcok_X7_day (Nat.le_refl _) (hcX7_day hcv) (by
    intro pc L S μ r h
    cases h) 400 (pc := 110) (L := [.ref x0, .null, .int x2, .int x3, .null, .null, .null]) (S := []) h
set_option maxRecDepth 100000 in
theorem lbX7_day_101 {base : Nat} {D : va_G} {ca : Nat → ClassId} {cv : Nat → Value} (hcv : ∀ j, (cv j).category = 1) (x0 : Nat) (x2 : Int32) (x3 : Int32) (μ : qM) (r : qR) (h : fX7_day_101 x0 x2 x3 μ = some r) : qEv false base D ca cv 1007 103 r 101 [.ref x0, .null, .int x2, .int x3, .null, .null, .null] [] μ := by
    exact qblk_ev2 (cf := cfX7_day) (st := (fun n => qin [26, 63, 88, 101, 110] n)) (K := (fun pc L S μ => if pc = 110 then jX7_day_110 (fX7_day_110) L S μ else none)) (cd := qcX7_day) (M := 103) (d0 := 1006) rfl qcok_X7_day (Nat.le_refl _) (hcX7_day hcv) (by
    intro pc L S μ r h
    split at h
    · rename_i e; subst e; exact jeX7_day_110 (lbX7_day_110 hcv) h
    cases h) 400 (pc := 101) (L := [.ref x0, .null, .int x2, .int x3, .null, .null, .null]) (S := []) h
set_option maxRecDepth 100000 in
theorem lbX7_day_26 {base : Nat} {D : va_G} {ca : Nat → ClassId} {cv : Nat → Value} (hcv : ∀ j, (cv j).category = 1) : ∀ (n : Nat) (x0 : Nat) (x2 : Int32) (x3 : Int32) (x4 : Int32) (μ : qM) (r : qR), fX7_day_26 n x0 x2 x3 x4 μ = some r → qEv false base D ca cv 1007 103 r 26 [.ref x0, .null, .int x2, .int x3, .int x4, .null, .null] [] μ := by
  intro n
  induction n with
  | zero => intro x0 x2 x3 x4 μ r h; cases (show (none : Option qR) = some r from h)
  | succ n ih =>
    intro x0 x2 x3 x4 μ r h
    exact qblk_ev2 (cf := cfX7_day) (st := (fun n => qin [26, 63, 88, 101, 110] n)) (K := (fun pc L S μ => if pc = 63 then jX7_day_63 (fX7_day_63 (fX7_day_26 n)) L S μ else if pc = 101 then jX7_day_101 (fX7_day_101) L S μ else none)) (cd := qcX7_day) (M := 103) (d0 := 1006) rfl qcok_X7_day (Nat.le_refl _) (hcX7_day hcv) (by
    intro pc L S μ r h
    split at h
    · rename_i e; subst e; exact jeX7_day_63 (lbX7_day_63 hcv ih) h
    split at h
    · rename_i e; subst e; exact jeX7_day_101 (lbX7_day_101 hcv) h
    cases h) 400 (pc := 26) (L := [.ref x0, .null, .int x2, .int x3, .int x4, .null, .null]) (S := []) h
theorem npX7_day : (parseMethodDescriptor (qmy 103).desc).map (fun d => d.parameters.length) = some 0 := by decide +kernel
set_option maxRecDepth 100000 in
theorem gdX7_day {base : Nat} {D : va_G} {ca : Nat → ClassId} {cv : Nat → Value} (hcv : ∀ j, (cv j).category = 1) {a0 : Nat} {μ : qM} {r : qR} (h : fX7_day a0 μ = some r) : qGood false base D ca cv 1007 103 [.ref a0] μ r := by
  unfold fX7_day at h
  split at h
  · rename_i hk0
    exact qgood_of (by decide) (by omega) hcv (Or.inr ⟨by decide +kernel, hk0⟩) npX7_day rfl (Nat.le_of_ble_eq_true rfl) rfl (qblk_ev2 (cf := cfX7_day) (st := (fun n => qin [26, 63, 88, 101, 110] n)) (K := (fun pc L S μ => if pc = 26 then jX7_day_26 (fX7_day_26 qfu) L S μ else none)) (cd := qcX7_day) (M := 103) (d0 := 1006) rfl qcok_X7_day (Nat.le_refl _) (hcX7_day hcv) (by
    intro pc L S μ r h
    split at h
    · rename_i e; subst e; exact jeX7_day_26 (lbX7_day_26 hcv qfu) h
    cases h) 400 (pc := 0) (L := qent [.ref a0] 7) (S := []) h)
  · cases h
theorem gaX7_day {base : Nat} {D : va_G} {ca : Nat → ClassId} {cv : Nat → Value} (hcv : ∀ j, (cv j).category = 1) {l : List Value} {μ : qM} {r : qR} (h : aX7_day l μ = some r) : qGood false base D ca cv 1007 103 l μ r := by
  unfold aX7_day at h
  split at h
  · exact gdX7_day hcv h
  · cases h
noncomputable def gX7_undo (a0 : Nat) (μ : qM) : Option qR :=
  qbnd (oGetP μ 7 a0 3) fun v1 =>
  qbnd (oGetI μ 1 v1 2) fun v2 =>
  if v2 = 0 then
    some ((-1 : Int32), 0, μ)
  else
    qbnd (oGetP μ 7 a0 3) fun v3 =>
    qbnd (oGetP μ 7 a0 2) fun v4 =>
    qbnd (fX1_back v3 v4 μ) fun r5 =>
    qbnd (oGetP r5.2.2 7 a0 3) fun v6 =>
    qbnd (oGetI r5.2.2 1 v6 2) fun v7 =>
    some (v7, 0, r5.2.2)
noncomputable def fX7_undo (a0 : Nat) (μ : qM) : Option qR := if (qk μ a0).1 = 7 then gX7_undo a0 μ else none
noncomputable def aX7_undo (l : List Value) (μ : qM) : Option qR := match l with
  | [.ref x0] => fX7_undo x0 μ
  | _ => none
noncomputable def cfX7_undo : qF := fun n l μ => if n = 23 then aX1_back l μ else none
theorem hcX7_undo {base : Nat} {D : va_G} {ca : Nat → ClassId} {cv : Nat → Value} (hcv : ∀ j, (cv j).category = 1) : ∀ M as μ r, cfX7_undo M as μ = some r → qGood false base D ca cv 2 M as μ r := by
  intro M as μ r h
  unfold cfX7_undo at h
  split at h
  · rename_i e; subst e; exact (gaX1_back hcv h).mono (by omega)
  cases h
theorem npX7_undo : (parseMethodDescriptor (qmy 104).desc).map (fun d => d.parameters.length) = some 0 := by decide +kernel
set_option maxRecDepth 100000 in
theorem gdX7_undo {base : Nat} {D : va_G} {ca : Nat → ClassId} {cv : Nat → Value} (hcv : ∀ j, (cv j).category = 1) {a0 : Nat} {μ : qM} {r : qR} (h : fX7_undo a0 μ = some r) : qGood false base D ca cv 3 104 [.ref a0] μ r := by
  unfold fX7_undo at h
  split at h
  · rename_i hk0
    exact qgood_of (by decide) (by omega) hcv (Or.inr ⟨by decide +kernel, hk0⟩) npX7_undo rfl (Nat.le_of_ble_eq_true rfl) rfl (qblk_ev2 (cf := cfX7_undo) (st := (fun n => qin [] n)) (K := (fun pc L S μ => none)) (cd := qcX7_undo) (M := 104) (d0 := 2) rfl qcok_X7_undo (Nat.le_refl _) (hcX7_undo hcv) (by
    intro pc L S μ r h
    cases h) 400 (pc := 0) (L := qent [.ref a0] 1) (S := []) h)
  · cases h
theorem gaX7_undo {base : Nat} {D : va_G} {ca : Nat → ClassId} {cv : Nat → Value} (hcv : ∀ j, (cv j).category = 1) {l : List Value} {μ : qM} {r : qR} (h : aX7_undo l μ = some r) : qGood false base D ca cv 3 104 l μ r := by
  unfold aX7_undo at h
  split at h
  · exact gdX7_undo hcv h
  · cases h
noncomputable def fX7_holders_11 : Nat → Nat → Int32 → Int32 → Int32 → Int32 → qM → Option qR
  | 0 => fun _ _ _ _ _ _ => none
  | n + 1 => fun x0 x1 x2 x3 x4 μ =>
    if (8 : Int32) ≤ x4 then
      qbnd (oGetP μ 7 x0 7) fun v1 =>
      qbnd (fX3_one v1 (x3).toInt64 μ) fun r2 =>
      some (x2, 0, r2.2.2)
    else
      qbnd (oGetP μ 7 x0 2) fun v3 =>
      qbnd (fX5_modeAt v3 x4 x1 μ) fun r4 =>
      if r4.1 = 0 then
        fX7_holders_11 n x0 x1 x2 x3 (x4 + (1 : Int32)) r4.2.2
      else
        qbnd (oTab 1 2 (((7 : Int32) * x3) + r4.1)) fun v5 =>
        fX7_holders_11 n x0 x1 (x2 ||| ((1 : Int32) <<< (x4 &&& 31))) v5 (x4 + (1 : Int32)) r4.2.2
noncomputable def gX7_holders (a0 : Nat) (a1 : Int32) (μ : qM) : Option qR :=
  qbnd (fX7_isPlace a1 μ) fun r1 =>
  if r1.1 = 0 then
    some ((-1 : Int32), 0, r1.2.2)
  else
    fX7_holders_11 qfu a0 a1 (0 : Int32) (0 : Int32) (0 : Int32) r1.2.2
noncomputable def fX7_holders (a0 : Nat) (a1 : Int32) (μ : qM) : Option qR := if (qk μ a0).1 = 7 then gX7_holders a0 a1 μ else none
noncomputable def aX7_holders (l : List Value) (μ : qM) : Option qR := match l with
  | [.ref x0, .int x1] => fX7_holders x0 x1 μ
  | _ => none
noncomputable def cfX7_holders : qF := fun n l μ => if n = 132 then aX7_isPlace l μ else if n = 54 then aX5_modeAt l μ else if n = 34 then aX3_one l μ else none
theorem hcX7_holders {base : Nat} {D : va_G} {ca : Nat → ClassId} {cv : Nat → Value} (hcv : ∀ j, (cv j).category = 1) : ∀ M as μ r, cfX7_holders M as μ = some r → qGood false base D ca cv 2 M as μ r := by
  intro M as μ r h
  unfold cfX7_holders at h
  split at h
  · rename_i e; subst e; exact (gaX7_isPlace hcv h).mono (by omega)
  split at h
  · rename_i e; subst e; exact (gaX5_modeAt hcv h).mono (by omega)
  split at h
  · rename_i e; subst e; exact (gaX3_one hcv h).mono (by omega)
  cases h
def jX7_holders_11 (f : Nat → Int32 → Int32 → Int32 → Int32 → qM → Option qR) (L S : List Value) (μ : qM) : Option qR := match L, S with
  | [.ref x0, .int x1, .int x2, .int x3, .int x4, _], [] => f x0 x1 x2 x3 x4 μ
  | _, _ => none
theorem jeX7_holders_11 {base : Nat} {D : va_G} {ca : Nat → ClassId} {cv : Nat → Value} {d : Nat} {f : Nat → Int32 → Int32 → Int32 → Int32 → qM → Option qR} (hf : ∀ (x0 : Nat) (x1 : Int32) (x2 : Int32) (x3 : Int32) (x4 : Int32) (μ : qM) (r : qR), f x0 x1 x2 x3 x4 μ = some r → qEv false base D ca cv d 105 r 11 [.ref x0, .int x1, .int x2, .int x3, .int x4, .null] [] μ) {L S : List Value} {μ : qM} {r : qR} (h : jX7_holders_11 f L S μ = some r) : qEv false base D ca cv d 105 r 11 L S μ := by
  unfold jX7_holders_11 at h
  split at h
  · exact (hf _ _ _ _ _ _ _ h).le rfl ⟨Or.inr rfl, Or.inr rfl, Or.inr rfl, Or.inr rfl, Or.inr rfl, Or.inl rfl, trivial⟩
  · cases h
set_option maxRecDepth 100000 in
theorem lbX7_holders_11 {base : Nat} {D : va_G} {ca : Nat → ClassId} {cv : Nat → Value} (hcv : ∀ j, (cv j).category = 1) : ∀ (n : Nat) (x0 : Nat) (x1 : Int32) (x2 : Int32) (x3 : Int32) (x4 : Int32) (μ : qM) (r : qR), fX7_holders_11 n x0 x1 x2 x3 x4 μ = some r → qEv false base D ca cv 3 105 r 11 [.ref x0, .int x1, .int x2, .int x3, .int x4, .null] [] μ := by
  intro n
  induction n with
  | zero => intro x0 x1 x2 x3 x4 μ r h; cases (show (none : Option qR) = some r from h)
  | succ n ih =>
    intro x0 x1 x2 x3 x4 μ r h
    exact qblk_ev2 (cf := cfX7_holders) (st := (fun n => qin [11] n)) (K := (fun pc L S μ => if pc = 11 then jX7_holders_11 (fX7_holders_11 n) L S μ else none)) (cd := qcX7_holders) (M := 105) (d0 := 2) rfl qcok_X7_holders (Nat.le_refl _) (hcX7_holders hcv) (by
    intro pc L S μ r h
    split at h
    · rename_i e; subst e; exact jeX7_holders_11 ih h
    cases h) 400 (pc := 11) (L := [.ref x0, .int x1, .int x2, .int x3, .int x4, .null]) (S := []) h
theorem npX7_holders : (parseMethodDescriptor (qmy 105).desc).map (fun d => d.parameters.length) = some 1 := by decide +kernel
set_option maxRecDepth 100000 in
theorem gdX7_holders {base : Nat} {D : va_G} {ca : Nat → ClassId} {cv : Nat → Value} (hcv : ∀ j, (cv j).category = 1) {a0 : Nat} {a1 : Int32} {μ : qM} {r : qR} (h : fX7_holders a0 a1 μ = some r) : qGood false base D ca cv 3 105 [.ref a0, .int a1] μ r := by
  unfold fX7_holders at h
  split at h
  · rename_i hk0
    exact qgood_of (by decide) (by omega) hcv (Or.inr ⟨by decide +kernel, hk0⟩) npX7_holders rfl (Nat.le_of_ble_eq_true rfl) rfl (qblk_ev2 (cf := cfX7_holders) (st := (fun n => qin [11] n)) (K := (fun pc L S μ => if pc = 11 then jX7_holders_11 (fX7_holders_11 qfu) L S μ else none)) (cd := qcX7_holders) (M := 105) (d0 := 2) rfl qcok_X7_holders (Nat.le_refl _) (hcX7_holders hcv) (by
    intro pc L S μ r h
    split at h
    · rename_i e; subst e; exact jeX7_holders_11 (lbX7_holders_11 hcv qfu) h
    cases h) 400 (pc := 0) (L := qent [.ref a0, .int a1] 6) (S := []) h)
  · cases h
theorem gaX7_holders {base : Nat} {D : va_G} {ca : Nat → ClassId} {cv : Nat → Value} (hcv : ∀ j, (cv j).category = 1) {l : List Value} {μ : qM} {r : qR} (h : aX7_holders l μ = some r) : qGood false base D ca cv 3 105 l μ r := by
  unfold aX7_holders at h
  split at h
  · exact gdX7_holders hcv h
  · cases h
noncomputable def fX7_queue_21 (k16 : Nat → Int32 → Int32 → Int32 → qM → Option qR) : Nat → Nat → Int32 → Int32 → Int32 → Int32 → qM → Option qR
  | 0 => fun _ _ _ _ _ _ => none
  | n + 1 => fun x0 x1 x2 x3 x4 μ =>
    if (8 : Int32) ≤ x4 then
      k16 x0 x1 x2 (x3 + (1 : Int32)) μ
    else
      qbnd (oGetP μ 7 x0 2) fun v1 =>
      qbnd (oGetP μ 5 v1 5) fun v2 =>
      qbnd (oLdI 20 μ v2 x4) fun v3 =>
      if v3 = x1 then
        qbnd (oGetP μ 7 x0 2) fun v4 =>
        qbnd (fX5_position v4 x4 μ) fun r5 =>
        if r5.1 = x3 then
          qbnd (oGetP r5.2.2 7 x0 7) fun v6 =>
          qbnd (fX3_add v6 (x4).toInt64 r5.2.2) fun r7 =>
          fX7_queue_21 k16 n x0 x1 x2 x3 (x4 + (1 : Int32)) r7.2.2
        else
          fX7_queue_21 k16 n x0 x1 x2 x3 (x4 + (1 : Int32)) r5.2.2
      else
        fX7_queue_21 k16 n x0 x1 x2 x3 (x4 + (1 : Int32)) μ
noncomputable def fX7_queue_16 : Nat → Nat → Int32 → Int32 → Int32 → qM → Option qR
  | 0 => fun _ _ _ _ _ => none
  | n + 1 => fun x0 x1 x2 x3 μ =>
    if x2 ≤ x3 then
      some (x2, 0, μ)
    else
      fX7_queue_21 (fX7_queue_16 n) qfu x0 x1 x2 x3 (0 : Int32) μ
noncomputable def gX7_queue (a0 : Nat) (a1 : Int32) (μ : qM) : Option qR :=
  qbnd (fX7_isPlace a1 μ) fun r1 =>
  if r1.1 = 0 then
    some ((-1 : Int32), 0, r1.2.2)
  else
    qbnd (oGetP r1.2.2 7 a0 2) fun v2 =>
    qbnd (fX5_requests v2 a1 r1.2.2) fun r3 =>
    qbnd (oGetP r3.2.2 7 a0 7) fun v4 =>
    qbnd (oPutI r3.2.2 3 v4 1 (0 : Int32)) fun μ5 =>
    fX7_queue_16 qfu a0 a1 r3.1 (0 : Int32) μ5
noncomputable def fX7_queue (a0 : Nat) (a1 : Int32) (μ : qM) : Option qR := if (qk μ a0).1 = 7 then gX7_queue a0 a1 μ else none
noncomputable def aX7_queue (l : List Value) (μ : qM) : Option qR := match l with
  | [.ref x0, .int x1] => fX7_queue x0 x1 μ
  | _ => none
noncomputable def cfX7_queue : qF := fun n l μ => if n = 132 then aX7_isPlace l μ else if n = 70 then aX5_requests l μ else if n = 74 then aX5_position l μ else if n = 33 then aX3_add l μ else none
theorem hcX7_queue {base : Nat} {D : va_G} {ca : Nat → ClassId} {cv : Nat → Value} (hcv : ∀ j, (cv j).category = 1) : ∀ M as μ r, cfX7_queue M as μ = some r → qGood false base D ca cv 3 M as μ r := by
  intro M as μ r h
  unfold cfX7_queue at h
  split at h
  · rename_i e; subst e; exact (gaX7_isPlace hcv h).mono (by omega)
  split at h
  · rename_i e; subst e; exact (gaX5_requests hcv h).mono (by omega)
  split at h
  · rename_i e; subst e; exact (gaX5_position hcv h).mono (by omega)
  split at h
  · rename_i e; subst e; exact (gaX3_add hcv h).mono (by omega)
  cases h
def jX7_queue_16 (f : Nat → Int32 → Int32 → Int32 → qM → Option qR) (L S : List Value) (μ : qM) : Option qR := match L, S with
  | [.ref x0, .int x1, .int x2, .int x3, _], [] => f x0 x1 x2 x3 μ
  | _, _ => none
theorem jeX7_queue_16 {base : Nat} {D : va_G} {ca : Nat → ClassId} {cv : Nat → Value} {d : Nat} {f : Nat → Int32 → Int32 → Int32 → qM → Option qR} (hf : ∀ (x0 : Nat) (x1 : Int32) (x2 : Int32) (x3 : Int32) (μ : qM) (r : qR), f x0 x1 x2 x3 μ = some r → qEv false base D ca cv d 106 r 16 [.ref x0, .int x1, .int x2, .int x3, .null] [] μ) {L S : List Value} {μ : qM} {r : qR} (h : jX7_queue_16 f L S μ = some r) : qEv false base D ca cv d 106 r 16 L S μ := by
  unfold jX7_queue_16 at h
  split at h
  · exact (hf _ _ _ _ _ _ h).le rfl ⟨Or.inr rfl, Or.inr rfl, Or.inr rfl, Or.inr rfl, Or.inl rfl, trivial⟩
  · cases h
def jX7_queue_21 (f : Nat → Int32 → Int32 → Int32 → Int32 → qM → Option qR) (L S : List Value) (μ : qM) : Option qR := match L, S with
  | [.ref x0, .int x1, .int x2, .int x3, .int x4], [] => f x0 x1 x2 x3 x4 μ
  | _, _ => none
theorem jeX7_queue_21 {base : Nat} {D : va_G} {ca : Nat → ClassId} {cv : Nat → Value} {d : Nat} {f : Nat → Int32 → Int32 → Int32 → Int32 → qM → Option qR} (hf : ∀ (x0 : Nat) (x1 : Int32) (x2 : Int32) (x3 : Int32) (x4 : Int32) (μ : qM) (r : qR), f x0 x1 x2 x3 x4 μ = some r → qEv false base D ca cv d 106 r 21 [.ref x0, .int x1, .int x2, .int x3, .int x4] [] μ) {L S : List Value} {μ : qM} {r : qR} (h : jX7_queue_21 f L S μ = some r) : qEv false base D ca cv d 106 r 21 L S μ := by
  unfold jX7_queue_21 at h
  split at h
  · exact (hf _ _ _ _ _ _ _ h).le rfl ⟨Or.inr rfl, Or.inr rfl, Or.inr rfl, Or.inr rfl, Or.inr rfl, trivial⟩
  · cases h
set_option maxRecDepth 100000 in
theorem lbX7_queue_21 {base : Nat} {D : va_G} {ca : Nat → ClassId} {cv : Nat → Value} (hcv : ∀ j, (cv j).category = 1) {k16 : Nat → Int32 → Int32 → Int32 → qM → Option qR} (hk16 : ∀ (y0 : Nat) (y1 : Int32) (y2 : Int32) (y3 : Int32) (μ : qM) (r : qR), k16 y0 y1 y2 y3 μ = some r → qEv false base D ca cv 4 106 r 16 [.ref y0, .int y1, .int y2, .int y3, .null] [] μ) : ∀ (n : Nat) (x0 : Nat) (x1 : Int32) (x2 : Int32) (x3 : Int32) (x4 : Int32) (μ : qM) (r : qR), fX7_queue_21 k16 n x0 x1 x2 x3 x4 μ = some r → qEv false base D ca cv 4 106 r 21 [.ref x0, .int x1, .int x2, .int x3, .int x4] [] μ := by
  intro n
  induction n with
  | zero => intro x0 x1 x2 x3 x4 μ r h; cases (show (none : Option qR) = some r from h)
  | succ n ih =>
    intro x0 x1 x2 x3 x4 μ r h
    exact qblk_ev2 (cf := cfX7_queue) (st := (fun n => qin [16, 21] n)) (K := (fun pc L S μ => if pc = 16 then jX7_queue_16 k16 L S μ else if pc = 21 then jX7_queue_21 (fX7_queue_21 k16 n) L S μ else none)) (cd := qcX7_queue) (M := 106) (d0 := 3) rfl qcok_X7_queue (Nat.le_refl _) (hcX7_queue hcv) (by
    intro pc L S μ r h
    split at h
    · rename_i e; subst e; exact jeX7_queue_16 hk16 h
    split at h
    · rename_i e; subst e; exact jeX7_queue_21 ih h
    cases h) 400 (pc := 21) (L := [.ref x0, .int x1, .int x2, .int x3, .int x4]) (S := []) h
set_option maxRecDepth 100000 in
theorem lbX7_queue_16 {base : Nat} {D : va_G} {ca : Nat → ClassId} {cv : Nat → Value} (hcv : ∀ j, (cv j).category = 1) : ∀ (n : Nat) (x0 : Nat) (x1 : Int32) (x2 : Int32) (x3 : Int32) (μ : qM) (r : qR), fX7_queue_16 n x0 x1 x2 x3 μ = some r → qEv false base D ca cv 4 106 r 16 [.ref x0, .int x1, .int x2, .int x3, .null] [] μ := by
  intro n
  induction n with
  | zero => intro x0 x1 x2 x3 μ r h; cases (show (none : Option qR) = some r from h)
  | succ n ih =>
    intro x0 x1 x2 x3 μ r h
    exact qblk_ev2 (cf := cfX7_queue) (st := (fun n => qin [16, 21] n)) (K := (fun pc L S μ => if pc = 21 then jX7_queue_21 (fX7_queue_21 (fX7_queue_16 n) qfu) L S μ else none)) (cd := qcX7_queue) (M := 106) (d0 := 3) rfl qcok_X7_queue (Nat.le_refl _) (hcX7_queue hcv) (by
    intro pc L S μ r h
    split at h
    · rename_i e; subst e; exact jeX7_queue_21 (lbX7_queue_21 hcv ih qfu) h
    cases h) 400 (pc := 16) (L := [.ref x0, .int x1, .int x2, .int x3, .null]) (S := []) h
theorem npX7_queue : (parseMethodDescriptor (qmy 106).desc).map (fun d => d.parameters.length) = some 1 := by decide +kernel
set_option maxRecDepth 100000 in
theorem gdX7_queue {base : Nat} {D : va_G} {ca : Nat → ClassId} {cv : Nat → Value} (hcv : ∀ j, (cv j).category = 1) {a0 : Nat} {a1 : Int32} {μ : qM} {r : qR} (h : fX7_queue a0 a1 μ = some r) : qGood false base D ca cv 4 106 [.ref a0, .int a1] μ r := by
  unfold fX7_queue at h
  split at h
  · rename_i hk0
    exact qgood_of (by decide) (by omega) hcv (Or.inr ⟨by decide +kernel, hk0⟩) npX7_queue rfl (Nat.le_of_ble_eq_true rfl) rfl (qblk_ev2 (cf := cfX7_queue) (st := (fun n => qin [16, 21] n)) (K := (fun pc L S μ => if pc = 16 then jX7_queue_16 (fX7_queue_16 qfu) L S μ else none)) (cd := qcX7_queue) (M := 106) (d0 := 3) rfl qcok_X7_queue (Nat.le_refl _) (hcX7_queue hcv) (by
    intro pc L S μ r h
    split at h
    · rename_i e; subst e; exact jeX7_queue_16 (lbX7_queue_16 hcv qfu) h
    cases h) 400 (pc := 0) (L := qent [.ref a0, .int a1] 5) (S := []) h)
  · cases h
theorem gaX7_queue {base : Nat} {D : va_G} {ca : Nat → ClassId} {cv : Nat → Value} (hcv : ∀ j, (cv j).category = 1) {l : List Value} {μ : qM} {r : qR} (h : aX7_queue l μ = some r) : qGood false base D ca cv 4 106 l μ r := by
  unfold aX7_queue at h
  split at h
  · exact gdX7_queue hcv h
  · cases h
noncomputable def gX7_waits (a0 : Nat) (a1 : Int32) (μ : qM) : Option qR :=
  qbnd (fX7_isOwner a1 μ) fun r1 =>
  if r1.1 = 0 then
    some ((-1 : Int32), 0, r1.2.2)
  else
    qbnd (oGetP r1.2.2 7 a0 2) fun v2 =>
    qbnd (oGetP r1.2.2 5 v2 1) fun v3 =>
    qbnd (oLdI 20 r1.2.2 v3 a1) fun v4 =>
    if v4 = (2 : Int32) then
      qbnd (oGetP r1.2.2 7 a0 7) fun v5 =>
      qbnd (oGetP r1.2.2 7 a0 2) fun v6 =>
      qbnd (oGetP r1.2.2 5 v6 6) fun v7 =>
      qbnd (oLdI 20 r1.2.2 v7 a1) fun v8 =>
      qbnd (oGetP r1.2.2 7 a0 2) fun v9 =>
      qbnd (fX5_position v9 a1 r1.2.2) fun r10 =>
      qbnd (fX3_two v5 (v8).toInt64 (r10.1).toInt64 r10.2.2) fun r11 =>
      qbnd (oGetP r11.2.2 7 a0 7) fun v12 =>
      qbnd (oGetP r11.2.2 7 a0 2) fun v13 =>
      qbnd (oGetP r11.2.2 5 v13 8) fun v14 =>
      qbnd (oLdI 20 r11.2.2 v14 a1) fun v15 =>
      qbnd (fX3_add v12 (v15).toInt64 r11.2.2) fun r16 =>
      qbnd (oGetP r16.2.2 7 a0 7) fun v17 =>
      qbnd (oGetP r16.2.2 7 a0 2) fun v18 =>
      qbnd (oGetP r16.2.2 5 v18 9) fun v19 =>
      qbnd (oLdI 20 r16.2.2 v19 a1) fun v20 =>
      qbnd (fX3_add v17 (v20).toInt64 r16.2.2) fun r21 =>
      qbnd (oGetP r21.2.2 7 a0 2) fun v22 =>
      qbnd (oGetP r21.2.2 5 v22 5) fun v23 =>
      qbnd (oLdI 20 r21.2.2 v23 a1) fun v24 =>
      some (v24, 0, r21.2.2)
    else
      some ((-2 : Int32), 0, r1.2.2)
noncomputable def fX7_waits (a0 : Nat) (a1 : Int32) (μ : qM) : Option qR := if (qk μ a0).1 = 7 then gX7_waits a0 a1 μ else none
noncomputable def aX7_waits (l : List Value) (μ : qM) : Option qR := match l with
  | [.ref x0, .int x1] => fX7_waits x0 x1 μ
  | _ => none
noncomputable def cfX7_waits : qF := fun n l μ => if n = 131 then aX7_isOwner l μ else if n = 74 then aX5_position l μ else if n = 35 then aX3_two l μ else if n = 33 then aX3_add l μ else none
theorem hcX7_waits {base : Nat} {D : va_G} {ca : Nat → ClassId} {cv : Nat → Value} (hcv : ∀ j, (cv j).category = 1) : ∀ M as μ r, cfX7_waits M as μ = some r → qGood false base D ca cv 3 M as μ r := by
  intro M as μ r h
  unfold cfX7_waits at h
  split at h
  · rename_i e; subst e; exact (gaX7_isOwner hcv h).mono (by omega)
  split at h
  · rename_i e; subst e; exact (gaX5_position hcv h).mono (by omega)
  split at h
  · rename_i e; subst e; exact (gaX3_two hcv h).mono (by omega)
  split at h
  · rename_i e; subst e; exact (gaX3_add hcv h).mono (by omega)
  cases h
theorem npX7_waits : (parseMethodDescriptor (qmy 107).desc).map (fun d => d.parameters.length) = some 1 := by decide +kernel
set_option maxRecDepth 100000 in
theorem gdX7_waits {base : Nat} {D : va_G} {ca : Nat → ClassId} {cv : Nat → Value} (hcv : ∀ j, (cv j).category = 1) {a0 : Nat} {a1 : Int32} {μ : qM} {r : qR} (h : fX7_waits a0 a1 μ = some r) : qGood false base D ca cv 4 107 [.ref a0, .int a1] μ r := by
  unfold fX7_waits at h
  split at h
  · rename_i hk0
    exact qgood_of (by decide) (by omega) hcv (Or.inr ⟨by decide +kernel, hk0⟩) npX7_waits rfl (Nat.le_of_ble_eq_true rfl) rfl (qblk_ev2 (cf := cfX7_waits) (st := (fun n => qin [] n)) (K := (fun pc L S μ => none)) (cd := qcX7_waits) (M := 107) (d0 := 3) rfl qcok_X7_waits (Nat.le_refl _) (hcX7_waits hcv) (by
    intro pc L S μ r h
    cases h) 400 (pc := 0) (L := qent [.ref a0, .int a1] 2) (S := []) h)
  · cases h
theorem gaX7_waits {base : Nat} {D : va_G} {ca : Nat → ClassId} {cv : Nat → Value} (hcv : ∀ j, (cv j).category = 1) {l : List Value} {μ : qM} {r : qR} (h : aX7_waits l μ = some r) : qGood false base D ca cv 4 107 l μ r := by
  unfold aX7_waits at h
  split at h
  · exact gdX7_waits hcv h
  · cases h
noncomputable def gX7_covers (a0 : Nat) (a1 : Int32) (a2 : Int32) (μ : qM) : Option qR :=
  qbnd (fX7_isOwner a1 μ) fun r1 =>
  if r1.1 = 0 then
    some ((-1 : Int32), 0, r1.2.2)
  else
    qbnd (fX7_isPlace a2 r1.2.2) fun r2 =>
    if r2.1 = 0 then
      some ((-1 : Int32), 0, r2.2.2)
    else
      qbnd (oGetP r2.2.2 7 a0 2) fun v3 =>
      qbnd (fX5_modeAt v3 a1 a2 r2.2.2) fun r4 =>
      qbnd (oGetP r4.2.2 7 a0 2) fun v5 =>
      qbnd (fX5_firstAbove v5 a1 a2 (64 : Int32) r4.2.2) fun r6 =>
      if r6.1 = (85 : Int32) then
        qbnd (oGetP r6.2.2 7 a0 2) fun v7 =>
        qbnd (fX5_firstAbove v7 a1 a2 (56 : Int32) r6.2.2) fun r8 =>
        qbnd (oGetP r8.2.2 7 a0 7) fun v9 =>
        qbnd (fX3_one v9 (r8.1).toInt64 r8.2.2) fun r10 =>
        if r8.1 = (85 : Int32) then
          some (r4.1, 0, r10.2.2)
        else
          qbnd (oTab 1 2 (((7 : Int32) * r4.1) + (3 : Int32))) fun v11 =>
          some (v11, 0, r10.2.2)
      else
        qbnd (oGetP r6.2.2 7 a0 7) fun v12 =>
        qbnd (fX3_one v12 (r6.1).toInt64 r6.2.2) fun r13 =>
        some ((6 : Int32), 0, r13.2.2)
noncomputable def fX7_covers (a0 : Nat) (a1 : Int32) (a2 : Int32) (μ : qM) : Option qR := if (qk μ a0).1 = 7 then gX7_covers a0 a1 a2 μ else none
noncomputable def aX7_covers (l : List Value) (μ : qM) : Option qR := match l with
  | [.ref x0, .int x1, .int x2] => fX7_covers x0 x1 x2 μ
  | _ => none
noncomputable def cfX7_covers : qF := fun n l μ => if n = 131 then aX7_isOwner l μ else if n = 132 then aX7_isPlace l μ else if n = 54 then aX5_modeAt l μ else if n = 64 then aX5_firstAbove l μ else if n = 34 then aX3_one l μ else none
theorem hcX7_covers {base : Nat} {D : va_G} {ca : Nat → ClassId} {cv : Nat → Value} (hcv : ∀ j, (cv j).category = 1) : ∀ M as μ r, cfX7_covers M as μ = some r → qGood false base D ca cv 3 M as μ r := by
  intro M as μ r h
  unfold cfX7_covers at h
  split at h
  · rename_i e; subst e; exact (gaX7_isOwner hcv h).mono (by omega)
  split at h
  · rename_i e; subst e; exact (gaX7_isPlace hcv h).mono (by omega)
  split at h
  · rename_i e; subst e; exact (gaX5_modeAt hcv h).mono (by omega)
  split at h
  · rename_i e; subst e; exact (gaX5_firstAbove hcv h).mono (by omega)
  split at h
  · rename_i e; subst e; exact (gaX3_one hcv h).mono (by omega)
  cases h
theorem npX7_covers : (parseMethodDescriptor (qmy 108).desc).map (fun d => d.parameters.length) = some 2 := by decide +kernel
set_option maxRecDepth 100000 in
theorem gdX7_covers {base : Nat} {D : va_G} {ca : Nat → ClassId} {cv : Nat → Value} (hcv : ∀ j, (cv j).category = 1) {a0 : Nat} {a1 : Int32} {a2 : Int32} {μ : qM} {r : qR} (h : fX7_covers a0 a1 a2 μ = some r) : qGood false base D ca cv 4 108 [.ref a0, .int a1, .int a2] μ r := by
  unfold fX7_covers at h
  split at h
  · rename_i hk0
    exact qgood_of (by decide) (by omega) hcv (Or.inr ⟨by decide +kernel, hk0⟩) npX7_covers rfl (Nat.le_of_ble_eq_true rfl) rfl (qblk_ev2 (cf := cfX7_covers) (st := (fun n => qin [] n)) (K := (fun pc L S μ => none)) (cd := qcX7_covers) (M := 108) (d0 := 3) rfl qcok_X7_covers (Nat.le_refl _) (hcX7_covers hcv) (by
    intro pc L S μ r h
    cases h) 400 (pc := 0) (L := qent [.ref a0, .int a1, .int a2] 6) (S := []) h)
  · cases h
theorem gaX7_covers {base : Nat} {D : va_G} {ca : Nat → ClassId} {cv : Nat → Value} (hcv : ∀ j, (cv j).category = 1) {l : List Value} {μ : qM} {r : qR} (h : aX7_covers l μ = some r) : qGood false base D ca cv 4 108 l μ r := by
  unfold aX7_covers at h
  split at h
  · exact gdX7_covers hcv h
  · cases h
noncomputable def fX7_may_59 (x0 : Nat) (x1 : Int32) (x2 : Int32) (x3 : Int32) (x4 : Int32) (x5 : Int32) (s0 : Int64) (s1 : Nat) (μ : qM) : Option qR :=
  qbnd (oGetP μ 7 x0 2) fun v1 =>
  qbnd (fX5_newSteps v1 x1 x2 x3 x4 μ) fun r2 =>
  qbnd (fX3_two s1 s0 (r2.1).toInt64 r2.2.2) fun r3 =>
  if x5 = 0 then
    some ((0 : Int32), 0, r3.2.2)
  else
    some ((1 : Int32), 0, r3.2.2)
noncomputable def fX7_may_48 (x0 : Nat) (x1 : Int32) (x2 : Int32) (x3 : Int32) (x4 : Int32) (s0 : Int32) (μ : qM) : Option qR :=
  qbnd (oGetP μ 7 x0 7) fun v1 =>
  if s0 = 0 then
    qbnd (fX7_onPath x2 x4 μ) fun r2 =>
    fX7_may_59 x0 x1 x2 x3 x4 s0 (r2.1).toInt64 v1 r2.2.2
  else
    fX7_may_59 x0 x1 x2 x3 x4 s0 (85 : Int64) v1 μ
noncomputable def gX7_may (a0 : Nat) (a1 : Int32) (a2 : Int32) (a3 : Int32) (μ : qM) : Option qR :=
  qbnd (fX7_isOwner a1 μ) fun r1 =>
  if r1.1 = 0 then
    some ((-1 : Int32), 0, r1.2.2)
  else
    qbnd (fX7_isPlace a2 r1.2.2) fun r2 =>
    if r2.1 = 0 then
      some ((-1 : Int32), 0, r2.2.2)
    else
      qbnd (fX7_isLockMode a3 r2.2.2) fun r3 =>
      if r3.1 = 0 then
        some ((-1 : Int32), 0, r3.2.2)
      else
        qbnd (oGetP r3.2.2 7 a0 2) fun v4 =>
        qbnd (oGetP r3.2.2 5 v4 1) fun v5 =>
        qbnd (oLdI 20 r3.2.2 v5 a1) fun v6 =>
        if v6 = (1 : Int32) then
          qbnd (oGetP r3.2.2 7 a0 2) fun v7 =>
          qbnd (fX5_isCovered v7 a1 a2 a3 r3.2.2) fun r8 =>
          if r8.1 = 0 then
            qbnd (oGetP r8.2.2 7 a0 2) fun v9 =>
            qbnd (fX5_stopLevel v9 a1 a2 a3 r8.2.2) fun r10 =>
            qbnd (fX7_levelOf a2 r10.2.2) fun r11 =>
            if r10.1 ≤ r11.1 then
              fX7_may_48 a0 a1 a2 a3 r10.1 (0 : Int32) r11.2.2
            else
              fX7_may_48 a0 a1 a2 a3 r10.1 (1 : Int32) r11.2.2
          else
            qbnd (oGetP r8.2.2 7 a0 7) fun v12 =>
            qbnd (fX3_two v12 (85 : Int64) (0 : Int64) r8.2.2) fun r13 =>
            some ((1 : Int32), 0, r13.2.2)
        else
          some ((-2 : Int32), 0, r3.2.2)
noncomputable def fX7_may (a0 : Nat) (a1 : Int32) (a2 : Int32) (a3 : Int32) (μ : qM) : Option qR := if (qk μ a0).1 = 7 then gX7_may a0 a1 a2 a3 μ else none
noncomputable def aX7_may (l : List Value) (μ : qM) : Option qR := match l with
  | [.ref x0, .int x1, .int x2, .int x3] => fX7_may x0 x1 x2 x3 μ
  | _ => none
noncomputable def cfX7_may : qF := fun n l μ => if n = 131 then aX7_isOwner l μ else if n = 132 then aX7_isPlace l μ else if n = 134 then aX7_isLockMode l μ else if n = 65 then aX5_isCovered l μ else if n = 35 then aX3_two l μ else if n = 68 then aX5_stopLevel l μ else if n = 135 then aX7_levelOf l μ else if n = 136 then aX7_onPath l μ else if n = 69 then aX5_newSteps l μ else none
theorem hcX7_may {base : Nat} {D : va_G} {ca : Nat → ClassId} {cv : Nat → Value} (hcv : ∀ j, (cv j).category = 1) : ∀ M as μ r, cfX7_may M as μ = some r → qGood false base D ca cv 4 M as μ r := by
  intro M as μ r h
  unfold cfX7_may at h
  split at h
  · rename_i e; subst e; exact (gaX7_isOwner hcv h).mono (by omega)
  split at h
  · rename_i e; subst e; exact (gaX7_isPlace hcv h).mono (by omega)
  split at h
  · rename_i e; subst e; exact (gaX7_isLockMode hcv h).mono (by omega)
  split at h
  · rename_i e; subst e; exact (gaX5_isCovered hcv h).mono (by omega)
  split at h
  · rename_i e; subst e; exact (gaX3_two hcv h).mono (by omega)
  split at h
  · rename_i e; subst e; exact (gaX5_stopLevel hcv h).mono (by omega)
  split at h
  · rename_i e; subst e; exact (gaX7_levelOf hcv h).mono (by omega)
  split at h
  · rename_i e; subst e; exact (gaX7_onPath hcv h).mono (by omega)
  split at h
  · rename_i e; subst e; exact (gaX5_newSteps hcv h).mono (by omega)
  cases h
def jX7_may_48 (f : Nat → Int32 → Int32 → Int32 → Int32 → Int32 → qM → Option qR) (L S : List Value) (μ : qM) : Option qR := match L, S with
  | [.ref x0, .int x1, .int x2, .int x3, .int x4, _], [.int s0] => f x0 x1 x2 x3 x4 s0 μ
  | _, _ => none
theorem jeX7_may_48 {base : Nat} {D : va_G} {ca : Nat → ClassId} {cv : Nat → Value} {d : Nat} {f : Nat → Int32 → Int32 → Int32 → Int32 → Int32 → qM → Option qR} (hf : ∀ (x0 : Nat) (x1 : Int32) (x2 : Int32) (x3 : Int32) (x4 : Int32) (s0 : Int32) (μ : qM) (r : qR), f x0 x1 x2 x3 x4 s0 μ = some r → qEv false base D ca cv d 109 r 48 [.ref x0, .int x1, .int x2, .int x3, .int x4, .null] [.int s0] μ) {L S : List Value} {μ : qM} {r : qR} (h : jX7_may_48 f L S μ = some r) : qEv false base D ca cv d 109 r 48 L S μ := by
  unfold jX7_may_48 at h
  split at h
  · exact (hf _ _ _ _ _ _ _ _ h).le rfl ⟨Or.inr rfl, Or.inr rfl, Or.inr rfl, Or.inr rfl, Or.inr rfl, Or.inl rfl, trivial⟩
  · cases h
def jX7_may_59 (f : Nat → Int32 → Int32 → Int32 → Int32 → Int32 → Int64 → Nat → qM → Option qR) (L S : List Value) (μ : qM) : Option qR := match L, S with
  | [.ref x0, .int x1, .int x2, .int x3, .int x4, .int x5], [.long s0, .ref s1] => f x0 x1 x2 x3 x4 x5 s0 s1 μ
  | _, _ => none
theorem jeX7_may_59 {base : Nat} {D : va_G} {ca : Nat → ClassId} {cv : Nat → Value} {d : Nat} {f : Nat → Int32 → Int32 → Int32 → Int32 → Int32 → Int64 → Nat → qM → Option qR} (hf : ∀ (x0 : Nat) (x1 : Int32) (x2 : Int32) (x3 : Int32) (x4 : Int32) (x5 : Int32) (s0 : Int64) (s1 : Nat) (μ : qM) (r : qR), f x0 x1 x2 x3 x4 x5 s0 s1 μ = some r → qEv false base D ca cv d 109 r 59 [.ref x0, .int x1, .int x2, .int x3, .int x4, .int x5] [.long s0, .ref s1] μ) {L S : List Value} {μ : qM} {r : qR} (h : jX7_may_59 f L S μ = some r) : qEv false base D ca cv d 109 r 59 L S μ := by
  unfold jX7_may_59 at h
  split at h
  · exact (hf _ _ _ _ _ _ _ _ _ _ h).le rfl ⟨Or.inr rfl, Or.inr rfl, Or.inr rfl, Or.inr rfl, Or.inr rfl, Or.inr rfl, trivial⟩
  · cases h
set_option maxRecDepth 100000 in
theorem lbX7_may_59 {base : Nat} {D : va_G} {ca : Nat → ClassId} {cv : Nat → Value} (hcv : ∀ j, (cv j).category = 1) (x0 : Nat) (x1 : Int32) (x2 : Int32) (x3 : Int32) (x4 : Int32) (x5 : Int32) (s0 : Int64) (s1 : Nat) (μ : qM) (r : qR) (h : fX7_may_59 x0 x1 x2 x3 x4 x5 s0 s1 μ = some r) : qEv false base D ca cv 5 109 r 59 [.ref x0, .int x1, .int x2, .int x3, .int x4, .int x5] [.long s0, .ref s1] μ := by
    exact qblk_ev2 (cf := cfX7_may) (st := (fun n => qin [48, 59] n)) (K := (fun pc L S μ => none)) (cd := qcX7_may) (M := 109) (d0 := 4) rfl qcok_X7_may (Nat.le_refl _) (hcX7_may hcv) (by
    intro pc L S μ r h
    cases h) 400 (pc := 59) (L := [.ref x0, .int x1, .int x2, .int x3, .int x4, .int x5]) (S := [.long s0, .ref s1]) h
set_option maxRecDepth 100000 in
theorem lbX7_may_48 {base : Nat} {D : va_G} {ca : Nat → ClassId} {cv : Nat → Value} (hcv : ∀ j, (cv j).category = 1) (x0 : Nat) (x1 : Int32) (x2 : Int32) (x3 : Int32) (x4 : Int32) (s0 : Int32) (μ : qM) (r : qR) (h : fX7_may_48 x0 x1 x2 x3 x4 s0 μ = some r) : qEv false base D ca cv 5 109 r 48 [.ref x0, .int x1, .int x2, .int x3, .int x4, .null] [.int s0] μ := by
    exact qblk_ev2 (cf := cfX7_may) (st := (fun n => qin [48, 59] n)) (K := (fun pc L S μ => if pc = 59 then jX7_may_59 (fX7_may_59) L S μ else none)) (cd := qcX7_may) (M := 109) (d0 := 4) rfl qcok_X7_may (Nat.le_refl _) (hcX7_may hcv) (by
    intro pc L S μ r h
    split at h
    · rename_i e; subst e; exact jeX7_may_59 (lbX7_may_59 hcv) h
    cases h) 400 (pc := 48) (L := [.ref x0, .int x1, .int x2, .int x3, .int x4, .null]) (S := [.int s0]) h
theorem npX7_may : (parseMethodDescriptor (qmy 109).desc).map (fun d => d.parameters.length) = some 3 := by decide +kernel
set_option maxRecDepth 100000 in
theorem gdX7_may {base : Nat} {D : va_G} {ca : Nat → ClassId} {cv : Nat → Value} (hcv : ∀ j, (cv j).category = 1) {a0 : Nat} {a1 : Int32} {a2 : Int32} {a3 : Int32} {μ : qM} {r : qR} (h : fX7_may a0 a1 a2 a3 μ = some r) : qGood false base D ca cv 5 109 [.ref a0, .int a1, .int a2, .int a3] μ r := by
  unfold fX7_may at h
  split at h
  · rename_i hk0
    exact qgood_of (by decide) (by omega) hcv (Or.inr ⟨by decide +kernel, hk0⟩) npX7_may rfl (Nat.le_of_ble_eq_true rfl) rfl (qblk_ev2 (cf := cfX7_may) (st := (fun n => qin [48, 59] n)) (K := (fun pc L S μ => if pc = 48 then jX7_may_48 (fX7_may_48) L S μ else none)) (cd := qcX7_may) (M := 109) (d0 := 4) rfl qcok_X7_may (Nat.le_refl _) (hcX7_may hcv) (by
    intro pc L S μ r h
    split at h
    · rename_i e; subst e; exact jeX7_may_48 (lbX7_may_48 hcv) h
    cases h) 400 (pc := 0) (L := qent [.ref a0, .int a1, .int a2, .int a3] 6) (S := []) h)
  · cases h
theorem gaX7_may {base : Nat} {D : va_G} {ca : Nat → ClassId} {cv : Nat → Value} (hcv : ∀ j, (cv j).category = 1) {l : List Value} {μ : qM} {r : qR} (h : aX7_may l μ = some r) : qGood false base D ca cv 5 109 l μ r := by
  unfold aX7_may at h
  split at h
  · exact gdX7_may hcv h
  · cases h
noncomputable def fX7_free_35 : Nat → Nat → Int32 → Int32 → Int32 → Int32 → Int32 → qM → Option qR
  | 0 => fun _ _ _ _ _ _ _ => none
  | n + 1 => fun x0 x1 x3 x4 x5 x6 μ =>
    if (16 : Int32) ≤ x6 then
      qbnd (oGetP μ 7 x0 7) fun v1 =>
      qbnd (fJ6_bitCount_0f7a4 x4 μ) fun r2 =>
      qbnd (fX3_one v1 (r2.1).toInt64 r2.2.2) fun r3 =>
      some (x4, 0, r3.2.2)
    else
      qbnd (oGetP μ 7 x0 2) fun v4 =>
      qbnd (fX5_isCovered v4 x1 (x5 + x6) x3 μ) fun r5 =>
      if r5.1 = 0 then
        qbnd (oGetP r5.2.2 7 x0 2) fun v6 =>
        qbnd (fX5_stopLevel v6 x1 (x5 + x6) x3 r5.2.2) fun r7 =>
        if r7.1 ≤ (3 : Int32) then
          fX7_free_35 n x0 x1 x3 x4 x5 (x6 + (1 : Int32)) r7.2.2
        else
          fX7_free_35 n x0 x1 x3 (x4 ||| ((1 : Int32) <<< (x6 &&& 31))) x5 (x6 + (1 : Int32)) r7.2.2
      else
        fX7_free_35 n x0 x1 x3 (x4 ||| ((1 : Int32) <<< (x6 &&& 31))) x5 (x6 + (1 : Int32)) r5.2.2
noncomputable def gX7_free (a0 : Nat) (a1 : Int32) (a2 : Int32) (a3 : Int32) (μ : qM) : Option qR :=
  qbnd (fX7_isOwner a1 μ) fun r1 =>
  if r1.1 = 0 then
    some ((-1 : Int32), 0, r1.2.2)
  else
    if a2 < (1 : Int32) then
      some ((-1 : Int32), 0, r1.2.2)
    else
      if (4 : Int32) < a2 then
        some ((-1 : Int32), 0, r1.2.2)
      else
        qbnd (fX7_isLockMode a3 r1.2.2) fun r2 =>
        if r2.1 = 0 then
          some ((-1 : Int32), 0, r2.2.2)
        else
          qbnd (oGetP r2.2.2 7 a0 2) fun v3 =>
          qbnd (oGetP r2.2.2 5 v3 1) fun v4 =>
          qbnd (oLdI 20 r2.2.2 v4 a1) fun v5 =>
          if v5 = (1 : Int32) then
            let w6 : Int32 := ((21 : Int32) + ((16 : Int32) * (a2 - (1 : Int32))))
            fX7_free_35 qfu a0 a1 a3 (0 : Int32) w6 (0 : Int32) r2.2.2
          else
            some ((-2 : Int32), 0, r2.2.2)
noncomputable def fX7_free (a0 : Nat) (a1 : Int32) (a2 : Int32) (a3 : Int32) (μ : qM) : Option qR := if (qk μ a0).1 = 7 then gX7_free a0 a1 a2 a3 μ else none
noncomputable def aX7_free (l : List Value) (μ : qM) : Option qR := match l with
  | [.ref x0, .int x1, .int x2, .int x3] => fX7_free x0 x1 x2 x3 μ
  | _ => none
noncomputable def cfX7_free : qF := fun n l μ => if n = 131 then aX7_isOwner l μ else if n = 134 then aX7_isLockMode l μ else if n = 65 then aX5_isCovered l μ else if n = 68 then aX5_stopLevel l μ else if n = 267 then aJ6_bitCount_0f7a4 l μ else if n = 34 then aX3_one l μ else none
theorem hcX7_free {base : Nat} {D : va_G} {ca : Nat → ClassId} {cv : Nat → Value} (hcv : ∀ j, (cv j).category = 1) : ∀ M as μ r, cfX7_free M as μ = some r → qGood false base D ca cv 4 M as μ r := by
  intro M as μ r h
  unfold cfX7_free at h
  split at h
  · rename_i e; subst e; exact (gaX7_isOwner hcv h).mono (by omega)
  split at h
  · rename_i e; subst e; exact (gaX7_isLockMode hcv h).mono (by omega)
  split at h
  · rename_i e; subst e; exact (gaX5_isCovered hcv h).mono (by omega)
  split at h
  · rename_i e; subst e; exact (gaX5_stopLevel hcv h).mono (by omega)
  split at h
  · rename_i e; subst e; exact (gaJ6_bitCount_0f7a4 hcv h).mono (by omega)
  split at h
  · rename_i e; subst e; exact (gaX3_one hcv h).mono (by omega)
  cases h
def jX7_free_35 (f : Nat → Int32 → Int32 → Int32 → Int32 → Int32 → qM → Option qR) (L S : List Value) (μ : qM) : Option qR := match L, S with
  | [.ref x0, .int x1, _, .int x3, .int x4, .int x5, .int x6], [] => f x0 x1 x3 x4 x5 x6 μ
  | _, _ => none
theorem jeX7_free_35 {base : Nat} {D : va_G} {ca : Nat → ClassId} {cv : Nat → Value} {d : Nat} {f : Nat → Int32 → Int32 → Int32 → Int32 → Int32 → qM → Option qR} (hf : ∀ (x0 : Nat) (x1 : Int32) (x3 : Int32) (x4 : Int32) (x5 : Int32) (x6 : Int32) (μ : qM) (r : qR), f x0 x1 x3 x4 x5 x6 μ = some r → qEv false base D ca cv d 110 r 35 [.ref x0, .int x1, .null, .int x3, .int x4, .int x5, .int x6] [] μ) {L S : List Value} {μ : qM} {r : qR} (h : jX7_free_35 f L S μ = some r) : qEv false base D ca cv d 110 r 35 L S μ := by
  unfold jX7_free_35 at h
  split at h
  · exact (hf _ _ _ _ _ _ _ _ h).le rfl ⟨Or.inr rfl, Or.inr rfl, Or.inl rfl, Or.inr rfl, Or.inr rfl, Or.inr rfl, Or.inr rfl, trivial⟩
  · cases h
set_option maxRecDepth 100000 in
theorem lbX7_free_35 {base : Nat} {D : va_G} {ca : Nat → ClassId} {cv : Nat → Value} (hcv : ∀ j, (cv j).category = 1) : ∀ (n : Nat) (x0 : Nat) (x1 : Int32) (x3 : Int32) (x4 : Int32) (x5 : Int32) (x6 : Int32) (μ : qM) (r : qR), fX7_free_35 n x0 x1 x3 x4 x5 x6 μ = some r → qEv false base D ca cv 5 110 r 35 [.ref x0, .int x1, .null, .int x3, .int x4, .int x5, .int x6] [] μ := by
  intro n
  induction n with
  | zero => intro x0 x1 x3 x4 x5 x6 μ r h; cases (show (none : Option qR) = some r from h)
  | succ n ih =>
    intro x0 x1 x3 x4 x5 x6 μ r h
    exact qblk_ev2 (cf := cfX7_free) (st := (fun n => qin [35] n)) (K := (fun pc L S μ => if pc = 35 then jX7_free_35 (fX7_free_35 n) L S μ else none)) (cd := qcX7_free) (M := 110) (d0 := 4) rfl qcok_X7_free (Nat.le_refl _) (hcX7_free hcv) (by
    intro pc L S μ r h
    split at h
    · rename_i e; subst e; exact jeX7_free_35 ih h
    cases h) 400 (pc := 35) (L := [.ref x0, .int x1, .null, .int x3, .int x4, .int x5, .int x6]) (S := []) h
theorem npX7_free : (parseMethodDescriptor (qmy 110).desc).map (fun d => d.parameters.length) = some 3 := by decide +kernel
set_option maxRecDepth 100000 in
theorem gdX7_free {base : Nat} {D : va_G} {ca : Nat → ClassId} {cv : Nat → Value} (hcv : ∀ j, (cv j).category = 1) {a0 : Nat} {a1 : Int32} {a2 : Int32} {a3 : Int32} {μ : qM} {r : qR} (h : fX7_free a0 a1 a2 a3 μ = some r) : qGood false base D ca cv 5 110 [.ref a0, .int a1, .int a2, .int a3] μ r := by
  unfold fX7_free at h
  split at h
  · rename_i hk0
    exact qgood_of (by decide) (by omega) hcv (Or.inr ⟨by decide +kernel, hk0⟩) npX7_free rfl (Nat.le_of_ble_eq_true rfl) rfl (qblk_ev2 (cf := cfX7_free) (st := (fun n => qin [35] n)) (K := (fun pc L S μ => if pc = 35 then jX7_free_35 (fX7_free_35 qfu) L S μ else none)) (cd := qcX7_free) (M := 110) (d0 := 4) rfl qcok_X7_free (Nat.le_refl _) (hcX7_free hcv) (by
    intro pc L S μ r h
    split at h
    · rename_i e; subst e; exact jeX7_free_35 (lbX7_free_35 hcv qfu) h
    cases h) 400 (pc := 0) (L := qent [.ref a0, .int a1, .int a2, .int a3] 7) (S := []) h)
  · cases h
theorem gaX7_free {base : Nat} {D : va_G} {ca : Nat → ClassId} {cv : Nat → Value} (hcv : ∀ j, (cv j).category = 1) {l : List Value} {μ : qM} {r : qR} (h : aX7_free l μ = some r) : qGood false base D ca cv 5 110 l μ r := by
  unfold aX7_free at h
  split at h
  · exact gdX7_free hcv h
  · cases h
noncomputable def gX7_behind (a0 : Nat) (a1 : Int32) (μ : qM) : Option qR :=
  qbnd (fX7_isOwner a1 μ) fun r1 =>
  if r1.1 = 0 then
    some ((-1 : Int32), 0, r1.2.2)
  else
    qbnd (oGetP r1.2.2 7 a0 2) fun v2 =>
    qbnd (fX5_forWhom v2 a1 r1.2.2) fun r3 =>
    qbnd (oGetP r3.2.2 7 a0 7) fun v4 =>
    qbnd (fJ6_bitCount_0f7a4 r3.1 r3.2.2) fun r5 =>
    qbnd (fX3_one v4 (r5.1).toInt64 r5.2.2) fun r6 =>
    some (r3.1, 0, r6.2.2)
noncomputable def fX7_behind (a0 : Nat) (a1 : Int32) (μ : qM) : Option qR := if (qk μ a0).1 = 7 then gX7_behind a0 a1 μ else none
noncomputable def aX7_behind (l : List Value) (μ : qM) : Option qR := match l with
  | [.ref x0, .int x1] => fX7_behind x0 x1 μ
  | _ => none
noncomputable def cfX7_behind : qF := fun n l μ => if n = 131 then aX7_isOwner l μ else if n = 76 then aX5_forWhom l μ else if n = 267 then aJ6_bitCount_0f7a4 l μ else if n = 34 then aX3_one l μ else none
theorem hcX7_behind {base : Nat} {D : va_G} {ca : Nat → ClassId} {cv : Nat → Value} (hcv : ∀ j, (cv j).category = 1) : ∀ M as μ r, cfX7_behind M as μ = some r → qGood false base D ca cv 3 M as μ r := by
  intro M as μ r h
  unfold cfX7_behind at h
  split at h
  · rename_i e; subst e; exact (gaX7_isOwner hcv h).mono (by omega)
  split at h
  · rename_i e; subst e; exact (gaX5_forWhom hcv h).mono (by omega)
  split at h
  · rename_i e; subst e; exact (gaJ6_bitCount_0f7a4 hcv h).mono (by omega)
  split at h
  · rename_i e; subst e; exact (gaX3_one hcv h).mono (by omega)
  cases h
theorem npX7_behind : (parseMethodDescriptor (qmy 111).desc).map (fun d => d.parameters.length) = some 1 := by decide +kernel
set_option maxRecDepth 100000 in
theorem gdX7_behind {base : Nat} {D : va_G} {ca : Nat → ClassId} {cv : Nat → Value} (hcv : ∀ j, (cv j).category = 1) {a0 : Nat} {a1 : Int32} {μ : qM} {r : qR} (h : fX7_behind a0 a1 μ = some r) : qGood false base D ca cv 4 111 [.ref a0, .int a1] μ r := by
  unfold fX7_behind at h
  split at h
  · rename_i hk0
    exact qgood_of (by decide) (by omega) hcv (Or.inr ⟨by decide +kernel, hk0⟩) npX7_behind rfl (Nat.le_of_ble_eq_true rfl) rfl (qblk_ev2 (cf := cfX7_behind) (st := (fun n => qin [] n)) (K := (fun pc L S μ => none)) (cd := qcX7_behind) (M := 111) (d0 := 3) rfl qcok_X7_behind (Nat.le_refl _) (hcX7_behind hcv) (by
    intro pc L S μ r h
    cases h) 400 (pc := 0) (L := qent [.ref a0, .int a1] 3) (S := []) h)
  · cases h
theorem gaX7_behind {base : Nat} {D : va_G} {ca : Nat → ClassId} {cv : Nat → Value} (hcv : ∀ j, (cv j).category = 1) {l : List Value} {μ : qM} {r : qR} (h : aX7_behind l μ = some r) : qGood false base D ca cv 4 111 l μ r := by
  unfold aX7_behind at h
  split at h
  · exact gdX7_behind hcv h
  · cases h
noncomputable def gX7_stops (a0 : Nat) (a1 : Int32) (μ : qM) : Option qR :=
  qbnd (fX7_isOwner a1 μ) fun r1 =>
  if r1.1 = 0 then
    some ((-1 : Int32), 0, r1.2.2)
  else
    qbnd (oGetP r1.2.2 7 a0 0) fun v2 =>
    qbnd (oGetP r1.2.2 0 v2 1) fun v3 =>
    qbnd (oGetP r1.2.2 7 a0 2) fun v4 =>
    qbnd (fX2_read v3 v4 r1.2.2) fun r5 =>
    qbnd (oGetP r5.2.2 7 a0 7) fun v6 =>
    qbnd (oGetP r5.2.2 7 a0 0) fun v7 =>
    qbnd (oGetP r5.2.2 0 v7 1) fun v8 =>
    qbnd (fX2_waiters v8 a1 r5.2.2) fun r9 =>
    qbnd (fX3_one v6 (r9.1).toInt64 r9.2.2) fun r10 =>
    qbnd (oGetP r10.2.2 7 a0 0) fun v11 =>
    qbnd (oGetP r10.2.2 0 v11 1) fun v12 =>
    qbnd (fX2_reachers v12 a1 r10.2.2) fun r13 =>
    some (r13.1, 0, r13.2.2)
noncomputable def fX7_stops (a0 : Nat) (a1 : Int32) (μ : qM) : Option qR := if (qk μ a0).1 = 7 then gX7_stops a0 a1 μ else none
noncomputable def aX7_stops (l : List Value) (μ : qM) : Option qR := match l with
  | [.ref x0, .int x1] => fX7_stops x0 x1 μ
  | _ => none
noncomputable def cfX7_stops : qF := fun n l μ => if n = 131 then aX7_isOwner l μ else if n = 25 then aX2_read l μ else if n = 26 then aX2_waiters l μ else if n = 34 then aX3_one l μ else if n = 27 then aX2_reachers l μ else none
theorem hcX7_stops {base : Nat} {D : va_G} {ca : Nat → ClassId} {cv : Nat → Value} (hcv : ∀ j, (cv j).category = 1) : ∀ M as μ r, cfX7_stops M as μ = some r → qGood false base D ca cv 4 M as μ r := by
  intro M as μ r h
  unfold cfX7_stops at h
  split at h
  · rename_i e; subst e; exact (gaX7_isOwner hcv h).mono (by omega)
  split at h
  · rename_i e; subst e; exact (gaX2_read hcv h).mono (by omega)
  split at h
  · rename_i e; subst e; exact (gaX2_waiters hcv h).mono (by omega)
  split at h
  · rename_i e; subst e; exact (gaX3_one hcv h).mono (by omega)
  split at h
  · rename_i e; subst e; exact (gaX2_reachers hcv h).mono (by omega)
  cases h
theorem npX7_stops : (parseMethodDescriptor (qmy 112).desc).map (fun d => d.parameters.length) = some 1 := by decide +kernel
set_option maxRecDepth 100000 in
theorem gdX7_stops {base : Nat} {D : va_G} {ca : Nat → ClassId} {cv : Nat → Value} (hcv : ∀ j, (cv j).category = 1) {a0 : Nat} {a1 : Int32} {μ : qM} {r : qR} (h : fX7_stops a0 a1 μ = some r) : qGood false base D ca cv 5 112 [.ref a0, .int a1] μ r := by
  unfold fX7_stops at h
  split at h
  · rename_i hk0
    exact qgood_of (by decide) (by omega) hcv (Or.inr ⟨by decide +kernel, hk0⟩) npX7_stops rfl (Nat.le_of_ble_eq_true rfl) rfl (qblk_ev2 (cf := cfX7_stops) (st := (fun n => qin [] n)) (K := (fun pc L S μ => none)) (cd := qcX7_stops) (M := 112) (d0 := 4) rfl qcok_X7_stops (Nat.le_refl _) (hcX7_stops hcv) (by
    intro pc L S μ r h
    cases h) 400 (pc := 0) (L := qent [.ref a0, .int a1] 2) (S := []) h)
  · cases h
theorem gaX7_stops {base : Nat} {D : va_G} {ca : Nat → ClassId} {cv : Nat → Value} (hcv : ∀ j, (cv j).category = 1) {l : List Value} {μ : qM} {r : qR} (h : aX7_stops l μ = some r) : qGood false base D ca cv 5 112 l μ r := by
  unfold aX7_stops at h
  split at h
  · exact gdX7_stops hcv h
  · cases h
noncomputable def gX7_rings (a0 : Nat) (μ : qM) : Option qR :=
  qbnd (oGetP μ 7 a0 0) fun v1 =>
  qbnd (oGetP μ 0 v1 1) fun v2 =>
  qbnd (oGetP μ 7 a0 2) fun v3 =>
  qbnd (fX2_read v2 v3 μ) fun r4 =>
  qbnd (oGetP r4.2.2 7 a0 0) fun v5 =>
  qbnd (oGetP r4.2.2 0 v5 1) fun v6 =>
  qbnd (fX2_inRings v6 r4.2.2) fun r7 =>
  qbnd (oGetP r7.2.2 7 a0 7) fun v8 =>
  qbnd (fJ6_bitCount_0f7a4 r7.1 r7.2.2) fun r9 =>
  qbnd (fX3_one v8 (r9.1).toInt64 r9.2.2) fun r10 =>
  some (r7.1, 0, r10.2.2)
noncomputable def fX7_rings (a0 : Nat) (μ : qM) : Option qR := if (qk μ a0).1 = 7 then gX7_rings a0 μ else none
noncomputable def aX7_rings (l : List Value) (μ : qM) : Option qR := match l with
  | [.ref x0] => fX7_rings x0 μ
  | _ => none
noncomputable def cfX7_rings : qF := fun n l μ => if n = 25 then aX2_read l μ else if n = 28 then aX2_inRings l μ else if n = 267 then aJ6_bitCount_0f7a4 l μ else if n = 34 then aX3_one l μ else none
theorem hcX7_rings {base : Nat} {D : va_G} {ca : Nat → ClassId} {cv : Nat → Value} (hcv : ∀ j, (cv j).category = 1) : ∀ M as μ r, cfX7_rings M as μ = some r → qGood false base D ca cv 4 M as μ r := by
  intro M as μ r h
  unfold cfX7_rings at h
  split at h
  · rename_i e; subst e; exact (gaX2_read hcv h).mono (by omega)
  split at h
  · rename_i e; subst e; exact (gaX2_inRings hcv h).mono (by omega)
  split at h
  · rename_i e; subst e; exact (gaJ6_bitCount_0f7a4 hcv h).mono (by omega)
  split at h
  · rename_i e; subst e; exact (gaX3_one hcv h).mono (by omega)
  cases h
theorem npX7_rings : (parseMethodDescriptor (qmy 113).desc).map (fun d => d.parameters.length) = some 0 := by decide +kernel
set_option maxRecDepth 100000 in
theorem gdX7_rings {base : Nat} {D : va_G} {ca : Nat → ClassId} {cv : Nat → Value} (hcv : ∀ j, (cv j).category = 1) {a0 : Nat} {μ : qM} {r : qR} (h : fX7_rings a0 μ = some r) : qGood false base D ca cv 5 113 [.ref a0] μ r := by
  unfold fX7_rings at h
  split at h
  · rename_i hk0
    exact qgood_of (by decide) (by omega) hcv (Or.inr ⟨by decide +kernel, hk0⟩) npX7_rings rfl (Nat.le_of_ble_eq_true rfl) rfl (qblk_ev2 (cf := cfX7_rings) (st := (fun n => qin [] n)) (K := (fun pc L S μ => none)) (cd := qcX7_rings) (M := 113) (d0 := 4) rfl qcok_X7_rings (Nat.le_refl _) (hcX7_rings hcv) (by
    intro pc L S μ r h
    cases h) 400 (pc := 0) (L := qent [.ref a0] 2) (S := []) h)
  · cases h
theorem gaX7_rings {base : Nat} {D : va_G} {ca : Nat → ClassId} {cv : Nat → Value} (hcv : ∀ j, (cv j).category = 1) {l : List Value} {μ : qM} {r : qR} (h : aX7_rings l μ = some r) : qGood false base D ca cv 5 113 l μ r := by
  unfold aX7_rings at h
  split at h
  · exact gdX7_rings hcv h
  · cases h
noncomputable def gX7_ring (a0 : Nat) (a1 : Int32) (μ : qM) : Option qR :=
  qbnd (fX7_isOwner a1 μ) fun r1 =>
  if r1.1 = 0 then
    some ((-1 : Int32), 0, r1.2.2)
  else
    qbnd (oGetP r1.2.2 7 a0 0) fun v2 =>
    qbnd (oGetP r1.2.2 0 v2 1) fun v3 =>
    qbnd (oGetP r1.2.2 7 a0 2) fun v4 =>
    qbnd (fX2_read v3 v4 r1.2.2) fun r5 =>
    qbnd (oGetP r5.2.2 7 a0 0) fun v6 =>
    qbnd (oGetP r5.2.2 0 v6 1) fun v7 =>
    qbnd (fX2_inRings v7 r5.2.2) fun r8 =>
    if ((qush r8.1 a1) &&& (1 : Int32)) = 0 then
      some ((-2 : Int32), 0, r8.2.2)
    else
      qbnd (oGetP r8.2.2 7 a0 0) fun v9 =>
      qbnd (oGetP r8.2.2 0 v9 1) fun v10 =>
      qbnd (fX2_shortest v10 a1 r8.2.2) fun r11 =>
      qbnd (oGetP r11.2.2 7 a0 7) fun v12 =>
      qbnd (oGetP r11.2.2 7 a0 0) fun v13 =>
      qbnd (oGetP r11.2.2 0 v13 1) fun v14 =>
      qbnd (oGetP r11.2.2 2 v14 3) fun v15 =>
      qbnd (fX3_list v12 v15 r11.1 r11.2.2) fun r16 =>
      some (r11.1, 0, r16.2.2)
noncomputable def fX7_ring (a0 : Nat) (a1 : Int32) (μ : qM) : Option qR := if (qk μ a0).1 = 7 then gX7_ring a0 a1 μ else none
noncomputable def aX7_ring (l : List Value) (μ : qM) : Option qR := match l with
  | [.ref x0, .int x1] => fX7_ring x0 x1 μ
  | _ => none
noncomputable def cfX7_ring : qF := fun n l μ => if n = 131 then aX7_isOwner l μ else if n = 25 then aX2_read l μ else if n = 28 then aX2_inRings l μ else if n = 29 then aX2_shortest l μ else if n = 36 then aX3_list l μ else none
theorem hcX7_ring {base : Nat} {D : va_G} {ca : Nat → ClassId} {cv : Nat → Value} (hcv : ∀ j, (cv j).category = 1) : ∀ M as μ r, cfX7_ring M as μ = some r → qGood false base D ca cv 4 M as μ r := by
  intro M as μ r h
  unfold cfX7_ring at h
  split at h
  · rename_i e; subst e; exact (gaX7_isOwner hcv h).mono (by omega)
  split at h
  · rename_i e; subst e; exact (gaX2_read hcv h).mono (by omega)
  split at h
  · rename_i e; subst e; exact (gaX2_inRings hcv h).mono (by omega)
  split at h
  · rename_i e; subst e; exact (gaX2_shortest hcv h).mono (by omega)
  split at h
  · rename_i e; subst e; exact (gaX3_list hcv h).mono (by omega)
  cases h
theorem npX7_ring : (parseMethodDescriptor (qmy 114).desc).map (fun d => d.parameters.length) = some 1 := by decide +kernel
set_option maxRecDepth 100000 in
theorem gdX7_ring {base : Nat} {D : va_G} {ca : Nat → ClassId} {cv : Nat → Value} (hcv : ∀ j, (cv j).category = 1) {a0 : Nat} {a1 : Int32} {μ : qM} {r : qR} (h : fX7_ring a0 a1 μ = some r) : qGood false base D ca cv 5 114 [.ref a0, .int a1] μ r := by
  unfold fX7_ring at h
  split at h
  · rename_i hk0
    exact qgood_of (by decide) (by omega) hcv (Or.inr ⟨by decide +kernel, hk0⟩) npX7_ring rfl (Nat.le_of_ble_eq_true rfl) rfl (qblk_ev2 (cf := cfX7_ring) (st := (fun n => qin [] n)) (K := (fun pc L S μ => none)) (cd := qcX7_ring) (M := 114) (d0 := 4) rfl qcok_X7_ring (Nat.le_refl _) (hcX7_ring hcv) (by
    intro pc L S μ r h
    cases h) 400 (pc := 0) (L := qent [.ref a0, .int a1] 3) (S := []) h)
  · cases h
theorem gaX7_ring {base : Nat} {D : va_G} {ca : Nat → ClassId} {cv : Nat → Value} (hcv : ∀ j, (cv j).category = 1) {l : List Value} {μ : qM} {r : qR} (h : aX7_ring l μ = some r) : qGood false base D ca cv 5 114 l μ r := by
  unfold aX7_ring at h
  split at h
  · exact gdX7_ring hcv h
  · cases h
noncomputable def gX7_victim (a0 : Nat) (μ : qM) : Option qR :=
  qbnd (oGetP μ 7 a0 0) fun v1 =>
  qbnd (oGetP μ 7 a0 8) fun v2 =>
  qbnd (fX0_cheapest v1 v2 μ) fun r3 =>
  if r3.1 = (-1 : Int32) then
    some ((-2 : Int32), 0, r3.2.2)
  else
    qbnd (oGetP r3.2.2 7 a0 7) fun v4 =>
    qbnd (oGetP r3.2.2 7 a0 0) fun v5 =>
    qbnd (oGetP r3.2.2 7 a0 8) fun v6 =>
    qbnd (fX0_costOf v5 r3.1 v6 r3.2.2) fun r7 =>
    qbnd (fX3_one v4 (r7.1).toInt64 r7.2.2) fun r8 =>
    some (r3.1, 0, r8.2.2)
noncomputable def fX7_victim (a0 : Nat) (μ : qM) : Option qR := if (qk μ a0).1 = 7 then gX7_victim a0 μ else none
noncomputable def aX7_victim (l : List Value) (μ : qM) : Option qR := match l with
  | [.ref x0] => fX7_victim x0 μ
  | _ => none
noncomputable def cfX7_victim : qF := fun n l μ => if n = 11 then aX0_cheapest l μ else if n = 12 then aX0_costOf l μ else if n = 34 then aX3_one l μ else none
theorem hcX7_victim {base : Nat} {D : va_G} {ca : Nat → ClassId} {cv : Nat → Value} (hcv : ∀ j, (cv j).category = 1) : ∀ M as μ r, cfX7_victim M as μ = some r → qGood false base D ca cv 5 M as μ r := by
  intro M as μ r h
  unfold cfX7_victim at h
  split at h
  · rename_i e; subst e; exact (gaX0_cheapest hcv h).mono (by omega)
  split at h
  · rename_i e; subst e; exact (gaX0_costOf hcv h).mono (by omega)
  split at h
  · rename_i e; subst e; exact (gaX3_one hcv h).mono (by omega)
  cases h
theorem npX7_victim : (parseMethodDescriptor (qmy 115).desc).map (fun d => d.parameters.length) = some 0 := by decide +kernel
set_option maxRecDepth 100000 in
theorem gdX7_victim {base : Nat} {D : va_G} {ca : Nat → ClassId} {cv : Nat → Value} (hcv : ∀ j, (cv j).category = 1) {a0 : Nat} {μ : qM} {r : qR} (h : fX7_victim a0 μ = some r) : qGood false base D ca cv 6 115 [.ref a0] μ r := by
  unfold fX7_victim at h
  split at h
  · rename_i hk0
    exact qgood_of (by decide) (by omega) hcv (Or.inr ⟨by decide +kernel, hk0⟩) npX7_victim rfl (Nat.le_of_ble_eq_true rfl) rfl (qblk_ev2 (cf := cfX7_victim) (st := (fun n => qin [] n)) (K := (fun pc L S μ => none)) (cd := qcX7_victim) (M := 115) (d0 := 5) rfl qcok_X7_victim (Nat.le_refl _) (hcX7_victim hcv) (by
    intro pc L S μ r h
    cases h) 400 (pc := 0) (L := qent [.ref a0] 2) (S := []) h)
  · cases h
theorem gaX7_victim {base : Nat} {D : va_G} {ca : Nat → ClassId} {cv : Nat → Value} (hcv : ∀ j, (cv j).category = 1) {l : List Value} {μ : qM} {r : qR} (h : aX7_victim l μ = some r) : qGood false base D ca cv 6 115 l μ r := by
  unfold aX7_victim at h
  split at h
  · exact gdX7_victim hcv h
  · cases h
noncomputable def fX7_runsWithout_8 : Nat → Nat → Int32 → Int32 → Int32 → qM → Option qR
  | 0 => fun _ _ _ _ _ => none
  | n + 1 => fun x0 x1 x2 x3 μ =>
    if (8 : Int32) ≤ x3 then
      qbnd (oGetP μ 7 x0 1) fun v1 =>
      qbnd (oGetP μ 0 v1 0) fun v2 =>
      qbnd (oGetP μ 5 v2 1) fun v3 =>
      qbnd (oLdI 20 μ v3 x1) fun v4 =>
      if v4 = (1 : Int32) then
        if qnz (1 : Int32) = (1 : Int32) then some ((1 : Int32), 0, μ) else none
      else
        if qnz (0 : Int32) = (0 : Int32) then some ((0 : Int32), 0, μ) else none
    else
      if ((qush x2 x3) &&& (1 : Int32)) = 0 then
        fX7_runsWithout_8 n x0 x1 x2 (x3 + (1 : Int32)) μ
      else
        qbnd (oGetP μ 7 x0 1) fun v5 =>
        qbnd (fX0_leave v5 x3 μ) fun r6 =>
        fX7_runsWithout_8 n x0 x1 x2 (x3 + (1 : Int32)) r6.2.2
noncomputable def gX7_runsWithout (a0 : Nat) (a1 : Int32) (a2 : Int32) (μ : qM) : Option qR :=
  qbnd (oGetP μ 7 a0 1) fun v1 =>
  qbnd (oGetP μ 0 v1 0) fun v2 =>
  qbnd (oGetP μ 7 a0 2) fun v3 =>
  qbnd (fX5_copy v2 v3 μ) fun r4 =>
  fX7_runsWithout_8 qfu a0 a1 a2 (0 : Int32) r4.2.2
noncomputable def fX7_runsWithout (a0 : Nat) (a1 : Int32) (a2 : Int32) (μ : qM) : Option qR := if (qk μ a0).1 = 7 then gX7_runsWithout a0 a1 a2 μ else none
noncomputable def aX7_runsWithout (l : List Value) (μ : qM) : Option qR := match l with
  | [.ref x0, .int x1, .int x2] => fX7_runsWithout x0 x1 x2 μ
  | _ => none
noncomputable def cfX7_runsWithout : qF := fun n l μ => if n = 53 then aX5_copy l μ else if n = 13 then aX0_leave l μ else none
theorem hcX7_runsWithout {base : Nat} {D : va_G} {ca : Nat → ClassId} {cv : Nat → Value} (hcv : ∀ j, (cv j).category = 1) : ∀ M as μ r, cfX7_runsWithout M as μ = some r → qGood false base D ca cv 1004 M as μ r := by
  intro M as μ r h
  unfold cfX7_runsWithout at h
  split at h
  · rename_i e; subst e; exact (gaX5_copy hcv h).mono (by omega)
  split at h
  · rename_i e; subst e; exact (gaX0_leave hcv h).mono (by omega)
  cases h
def jX7_runsWithout_8 (f : Nat → Int32 → Int32 → Int32 → qM → Option qR) (L S : List Value) (μ : qM) : Option qR := match L, S with
  | [.ref x0, .int x1, .int x2, .int x3], [] => f x0 x1 x2 x3 μ
  | _, _ => none
theorem jeX7_runsWithout_8 {base : Nat} {D : va_G} {ca : Nat → ClassId} {cv : Nat → Value} {d : Nat} {f : Nat → Int32 → Int32 → Int32 → qM → Option qR} (hf : ∀ (x0 : Nat) (x1 : Int32) (x2 : Int32) (x3 : Int32) (μ : qM) (r : qR), f x0 x1 x2 x3 μ = some r → qEv false base D ca cv d 130 r 8 [.ref x0, .int x1, .int x2, .int x3] [] μ) {L S : List Value} {μ : qM} {r : qR} (h : jX7_runsWithout_8 f L S μ = some r) : qEv false base D ca cv d 130 r 8 L S μ := by
  unfold jX7_runsWithout_8 at h
  split at h
  · exact (hf _ _ _ _ _ _ h).le rfl ⟨Or.inr rfl, Or.inr rfl, Or.inr rfl, Or.inr rfl, trivial⟩
  · cases h
set_option maxRecDepth 100000 in
theorem lbX7_runsWithout_8 {base : Nat} {D : va_G} {ca : Nat → ClassId} {cv : Nat → Value} (hcv : ∀ j, (cv j).category = 1) : ∀ (n : Nat) (x0 : Nat) (x1 : Int32) (x2 : Int32) (x3 : Int32) (μ : qM) (r : qR), fX7_runsWithout_8 n x0 x1 x2 x3 μ = some r → qEv false base D ca cv 1005 130 r 8 [.ref x0, .int x1, .int x2, .int x3] [] μ := by
  intro n
  induction n with
  | zero => intro x0 x1 x2 x3 μ r h; cases (show (none : Option qR) = some r from h)
  | succ n ih =>
    intro x0 x1 x2 x3 μ r h
    exact qblk_ev2 (cf := cfX7_runsWithout) (st := (fun n => qin [8] n)) (K := (fun pc L S μ => if pc = 8 then jX7_runsWithout_8 (fX7_runsWithout_8 n) L S μ else none)) (cd := qcX7_runsWithout) (M := 130) (d0 := 1004) rfl qcok_X7_runsWithout (Nat.le_refl _) (hcX7_runsWithout hcv) (by
    intro pc L S μ r h
    split at h
    · rename_i e; subst e; exact jeX7_runsWithout_8 ih h
    cases h) 400 (pc := 8) (L := [.ref x0, .int x1, .int x2, .int x3]) (S := []) h
theorem npX7_runsWithout : (parseMethodDescriptor (qmy 130).desc).map (fun d => d.parameters.length) = some 2 := by decide +kernel
set_option maxRecDepth 100000 in
theorem gdX7_runsWithout {base : Nat} {D : va_G} {ca : Nat → ClassId} {cv : Nat → Value} (hcv : ∀ j, (cv j).category = 1) {a0 : Nat} {a1 : Int32} {a2 : Int32} {μ : qM} {r : qR} (h : fX7_runsWithout a0 a1 a2 μ = some r) : qGood false base D ca cv 1005 130 [.ref a0, .int a1, .int a2] μ r := by
  unfold fX7_runsWithout at h
  split at h
  · rename_i hk0
    exact qgood_of (by decide) (by omega) hcv (Or.inr ⟨by decide +kernel, hk0⟩) npX7_runsWithout rfl (Nat.le_of_ble_eq_true rfl) rfl (qblk_ev2 (cf := cfX7_runsWithout) (st := (fun n => qin [8] n)) (K := (fun pc L S μ => if pc = 8 then jX7_runsWithout_8 (fX7_runsWithout_8 qfu) L S μ else none)) (cd := qcX7_runsWithout) (M := 130) (d0 := 1004) rfl qcok_X7_runsWithout (Nat.le_refl _) (hcX7_runsWithout hcv) (by
    intro pc L S μ r h
    split at h
    · rename_i e; subst e; exact jeX7_runsWithout_8 (lbX7_runsWithout_8 hcv qfu) h
    cases h) 400 (pc := 0) (L := qent [.ref a0, .int a1, .int a2] 4) (S := []) h)
  · cases h
theorem gaX7_runsWithout {base : Nat} {D : va_G} {ca : Nat → ClassId} {cv : Nat → Value} (hcv : ∀ j, (cv j).category = 1) {l : List Value} {μ : qM} {r : qR} (h : aX7_runsWithout l μ = some r) : qGood false base D ca cv 1005 130 l μ r := by
  unfold aX7_runsWithout at h
  split at h
  · exact gdX7_runsWithout hcv h
  · cases h
noncomputable def fX7_frees_37 (k32 : Nat → Int32 → Int32 → Int32 → qM → Option qR) : Nat → Nat → Int32 → Int32 → Int32 → Int32 → qM → Option qR
  | 0 => fun _ _ _ _ _ _ => none
  | n + 1 => fun x0 x1 x2 x3 x4 μ =>
    if (256 : Int32) ≤ x4 then
      k32 x0 x1 x2 (x3 + (1 : Int32)) μ
    else
      if (x4 &&& (x2 ^^^ (-1 : Int32))) = 0 then
        qbnd (fJ6_bitCount_0f7a4 x4 μ) fun r1 =>
        if r1.1 = x3 then
          qbnd (fX7_runsWithout x0 x1 x4 r1.2.2) fun r2 =>
          if r2.1 = 0 then
            fX7_frees_37 k32 n x0 x1 x2 x3 (x4 + (1 : Int32)) r2.2.2
          else
            qbnd (oGetP r2.2.2 7 x0 7) fun v3 =>
            qbnd (fX3_one v3 (x4).toInt64 r2.2.2) fun r4 =>
            some (x3, 0, r4.2.2)
        else
          fX7_frees_37 k32 n x0 x1 x2 x3 (x4 + (1 : Int32)) r1.2.2
      else
        fX7_frees_37 k32 n x0 x1 x2 x3 (x4 + (1 : Int32)) μ
noncomputable def fX7_frees_32 : Nat → Nat → Int32 → Int32 → Int32 → qM → Option qR
  | 0 => fun _ _ _ _ _ => none
  | n + 1 => fun x0 x1 x2 x3 μ =>
    if (8 : Int32) ≤ x3 then
      some ((-1 : Int32), 0, μ)
    else
      fX7_frees_37 (fX7_frees_32 n) qfu x0 x1 x2 x3 (1 : Int32) μ
noncomputable def gX7_frees (a0 : Nat) (a1 : Int32) (μ : qM) : Option qR :=
  qbnd (fX7_isOwner a1 μ) fun r1 =>
  if r1.1 = 0 then
    some ((-1 : Int32), 0, r1.2.2)
  else
    qbnd (oGetP r1.2.2 7 a0 2) fun v2 =>
    qbnd (oGetP r1.2.2 5 v2 1) fun v3 =>
    qbnd (oLdI 20 r1.2.2 v3 a1) fun v4 =>
    if v4 = (2 : Int32) then
      qbnd (oGetP r1.2.2 7 a0 2) fun v5 =>
      qbnd (fX5_standing v5 (1 : Int32) r1.2.2) fun r6 =>
      qbnd (oGetP r6.2.2 7 a0 2) fun v7 =>
      qbnd (fX5_standing v7 (2 : Int32) r6.2.2) fun r8 =>
      let w9 : Int32 := ((r6.1 ||| r8.1) &&& (((1 : Int32) <<< (a1 &&& 31)) ^^^ (-1 : Int32)))
      fX7_frees_32 qfu a0 a1 w9 (1 : Int32) r8.2.2
    else
      some ((-2 : Int32), 0, r1.2.2)
noncomputable def fX7_frees (a0 : Nat) (a1 : Int32) (μ : qM) : Option qR := if (qk μ a0).1 = 7 then gX7_frees a0 a1 μ else none
noncomputable def aX7_frees (l : List Value) (μ : qM) : Option qR := match l with
  | [.ref x0, .int x1] => fX7_frees x0 x1 μ
  | _ => none
noncomputable def cfX7_frees : qF := fun n l μ => if n = 131 then aX7_isOwner l μ else if n = 56 then aX5_standing l μ else if n = 267 then aJ6_bitCount_0f7a4 l μ else if n = 130 then aX7_runsWithout l μ else if n = 34 then aX3_one l μ else none
theorem hcX7_frees {base : Nat} {D : va_G} {ca : Nat → ClassId} {cv : Nat → Value} (hcv : ∀ j, (cv j).category = 1) : ∀ M as μ r, cfX7_frees M as μ = some r → qGood false base D ca cv 1005 M as μ r := by
  intro M as μ r h
  unfold cfX7_frees at h
  split at h
  · rename_i e; subst e; exact (gaX7_isOwner hcv h).mono (by omega)
  split at h
  · rename_i e; subst e; exact (gaX5_standing hcv h).mono (by omega)
  split at h
  · rename_i e; subst e; exact (gaJ6_bitCount_0f7a4 hcv h).mono (by omega)
  split at h
  · rename_i e; subst e; exact (gaX7_runsWithout hcv h).mono (by omega)
  split at h
  · rename_i e; subst e; exact (gaX3_one hcv h).mono (by omega)
  cases h
def jX7_frees_32 (f : Nat → Int32 → Int32 → Int32 → qM → Option qR) (L S : List Value) (μ : qM) : Option qR := match L, S with
  | [.ref x0, .int x1, .int x2, .int x3, _], [] => f x0 x1 x2 x3 μ
  | _, _ => none
theorem jeX7_frees_32 {base : Nat} {D : va_G} {ca : Nat → ClassId} {cv : Nat → Value} {d : Nat} {f : Nat → Int32 → Int32 → Int32 → qM → Option qR} (hf : ∀ (x0 : Nat) (x1 : Int32) (x2 : Int32) (x3 : Int32) (μ : qM) (r : qR), f x0 x1 x2 x3 μ = some r → qEv false base D ca cv d 116 r 32 [.ref x0, .int x1, .int x2, .int x3, .null] [] μ) {L S : List Value} {μ : qM} {r : qR} (h : jX7_frees_32 f L S μ = some r) : qEv false base D ca cv d 116 r 32 L S μ := by
  unfold jX7_frees_32 at h
  split at h
  · exact (hf _ _ _ _ _ _ h).le rfl ⟨Or.inr rfl, Or.inr rfl, Or.inr rfl, Or.inr rfl, Or.inl rfl, trivial⟩
  · cases h
def jX7_frees_37 (f : Nat → Int32 → Int32 → Int32 → Int32 → qM → Option qR) (L S : List Value) (μ : qM) : Option qR := match L, S with
  | [.ref x0, .int x1, .int x2, .int x3, .int x4], [] => f x0 x1 x2 x3 x4 μ
  | _, _ => none
theorem jeX7_frees_37 {base : Nat} {D : va_G} {ca : Nat → ClassId} {cv : Nat → Value} {d : Nat} {f : Nat → Int32 → Int32 → Int32 → Int32 → qM → Option qR} (hf : ∀ (x0 : Nat) (x1 : Int32) (x2 : Int32) (x3 : Int32) (x4 : Int32) (μ : qM) (r : qR), f x0 x1 x2 x3 x4 μ = some r → qEv false base D ca cv d 116 r 37 [.ref x0, .int x1, .int x2, .int x3, .int x4] [] μ) {L S : List Value} {μ : qM} {r : qR} (h : jX7_frees_37 f L S μ = some r) : qEv false base D ca cv d 116 r 37 L S μ := by
  unfold jX7_frees_37 at h
  split at h
  · exact (hf _ _ _ _ _ _ _ h).le rfl ⟨Or.inr rfl, Or.inr rfl, Or.inr rfl, Or.inr rfl, Or.inr rfl, trivial⟩
  · cases h
set_option maxRecDepth 100000 in
theorem lbX7_frees_37 {base : Nat} {D : va_G} {ca : Nat → ClassId} {cv : Nat → Value} (hcv : ∀ j, (cv j).category = 1) {k32 : Nat → Int32 → Int32 → Int32 → qM → Option qR} (hk32 : ∀ (y0 : Nat) (y1 : Int32) (y2 : Int32) (y3 : Int32) (μ : qM) (r : qR), k32 y0 y1 y2 y3 μ = some r → qEv false base D ca cv 1006 116 r 32 [.ref y0, .int y1, .int y2, .int y3, .null] [] μ) : ∀ (n : Nat) (x0 : Nat) (x1 : Int32) (x2 : Int32) (x3 : Int32) (x4 : Int32) (μ : qM) (r : qR), fX7_frees_37 k32 n x0 x1 x2 x3 x4 μ = some r → qEv false base D ca cv 1006 116 r 37 [.ref x0, .int x1, .int x2, .int x3, .int x4] [] μ := by
  intro n
  induction n with
  | zero => intro x0 x1 x2 x3 x4 μ r h; cases (show (none : Option qR) = some r from h)
  | succ n ih =>
    intro x0 x1 x2 x3 x4 μ r h
    exact qblk_ev2 (cf := cfX7_frees) (st := (fun n => qin [32, 37] n)) (K := (fun pc L S μ => if pc = 32 then jX7_frees_32 k32 L S μ else if pc = 37 then jX7_frees_37 (fX7_frees_37 k32 n) L S μ else none)) (cd := qcX7_frees) (M := 116) (d0 := 1005) rfl qcok_X7_frees (Nat.le_refl _) (hcX7_frees hcv) (by
    intro pc L S μ r h
    split at h
    · rename_i e; subst e; exact jeX7_frees_32 hk32 h
    split at h
    · rename_i e; subst e; exact jeX7_frees_37 ih h
    cases h) 400 (pc := 37) (L := [.ref x0, .int x1, .int x2, .int x3, .int x4]) (S := []) h
set_option maxRecDepth 100000 in
theorem lbX7_frees_32 {base : Nat} {D : va_G} {ca : Nat → ClassId} {cv : Nat → Value} (hcv : ∀ j, (cv j).category = 1) : ∀ (n : Nat) (x0 : Nat) (x1 : Int32) (x2 : Int32) (x3 : Int32) (μ : qM) (r : qR), fX7_frees_32 n x0 x1 x2 x3 μ = some r → qEv false base D ca cv 1006 116 r 32 [.ref x0, .int x1, .int x2, .int x3, .null] [] μ := by
  intro n
  induction n with
  | zero => intro x0 x1 x2 x3 μ r h; cases (show (none : Option qR) = some r from h)
  | succ n ih =>
    intro x0 x1 x2 x3 μ r h
    exact qblk_ev2 (cf := cfX7_frees) (st := (fun n => qin [32, 37] n)) (K := (fun pc L S μ => if pc = 37 then jX7_frees_37 (fX7_frees_37 (fX7_frees_32 n) qfu) L S μ else none)) (cd := qcX7_frees) (M := 116) (d0 := 1005) rfl qcok_X7_frees (Nat.le_refl _) (hcX7_frees hcv) (by
    intro pc L S μ r h
    split at h
    · rename_i e; subst e; exact jeX7_frees_37 (lbX7_frees_37 hcv ih qfu) h
    cases h) 400 (pc := 32) (L := [.ref x0, .int x1, .int x2, .int x3, .null]) (S := []) h
theorem npX7_frees : (parseMethodDescriptor (qmy 116).desc).map (fun d => d.parameters.length) = some 1 := by decide +kernel
set_option maxRecDepth 100000 in
theorem gdX7_frees {base : Nat} {D : va_G} {ca : Nat → ClassId} {cv : Nat → Value} (hcv : ∀ j, (cv j).category = 1) {a0 : Nat} {a1 : Int32} {μ : qM} {r : qR} (h : fX7_frees a0 a1 μ = some r) : qGood false base D ca cv 1006 116 [.ref a0, .int a1] μ r := by
  unfold fX7_frees at h
  split at h
  · rename_i hk0
    exact qgood_of (by decide) (by omega) hcv (Or.inr ⟨by decide +kernel, hk0⟩) npX7_frees rfl (Nat.le_of_ble_eq_true rfl) rfl (qblk_ev2 (cf := cfX7_frees) (st := (fun n => qin [32, 37] n)) (K := (fun pc L S μ => if pc = 32 then jX7_frees_32 (fX7_frees_32 qfu) L S μ else none)) (cd := qcX7_frees) (M := 116) (d0 := 1005) rfl qcok_X7_frees (Nat.le_refl _) (hcX7_frees hcv) (by
    intro pc L S μ r h
    split at h
    · rename_i e; subst e; exact jeX7_frees_32 (lbX7_frees_32 hcv qfu) h
    cases h) 400 (pc := 0) (L := qent [.ref a0, .int a1] 5) (S := []) h)
  · cases h
theorem gaX7_frees {base : Nat} {D : va_G} {ca : Nat → ClassId} {cv : Nat → Value} (hcv : ∀ j, (cv j).category = 1) {l : List Value} {μ : qM} {r : qR} (h : aX7_frees l μ = some r) : qGood false base D ca cv 1006 116 l μ r := by
  unfold aX7_frees at h
  split at h
  · exact gdX7_frees hcv h
  · cases h
noncomputable def fX7_drains_38 (x0 : Nat) (x1 : Int32) (μ : qM) : Option qR :=
  qbnd (oGetP μ 7 x0 7) fun v1 =>
  qbnd (oGetP μ 7 x0 1) fun v2 =>
  qbnd (oGetP μ 0 v2 0) fun v3 =>
  qbnd (fX5_standing v3 (2 : Int32) μ) fun r4 =>
  qbnd (fX3_add v1 (r4.1).toInt64 r4.2.2) fun r5 =>
  some (x1, 0, r5.2.2)
noncomputable def fX7_drains_14 : Nat → Nat → Int32 → Int32 → qM → Option qR
  | 0 => fun _ _ _ _ => none
  | n + 1 => fun x0 x1 x2 μ =>
    if (8 : Int32) ≤ x2 then
      fX7_drains_38 x0 x1 μ
    else
      qbnd (oGetP μ 7 x0 1) fun v1 =>
      qbnd (oGetP μ 0 v1 0) fun v2 =>
      qbnd (fX5_firstRunning v2 μ) fun r3 =>
      if r3.1 = (-1 : Int32) then
        fX7_drains_38 x0 x1 r3.2.2
      else
        qbnd (oGetP r3.2.2 7 x0 1) fun v4 =>
        qbnd (fX0_leave v4 r3.1 r3.2.2) fun r5 =>
        qbnd (oGetP r5.2.2 7 x0 7) fun v6 =>
        qbnd (fX3_add v6 (r3.1).toInt64 r5.2.2) fun r7 =>
        fX7_drains_14 n x0 (x1 + (1 : Int32)) (x2 + (1 : Int32)) r7.2.2
noncomputable def gX7_drains (a0 : Nat) (μ : qM) : Option qR :=
  qbnd (oGetP μ 7 a0 1) fun v1 =>
  qbnd (oGetP μ 0 v1 0) fun v2 =>
  qbnd (oGetP μ 7 a0 2) fun v3 =>
  qbnd (fX5_copy v2 v3 μ) fun r4 =>
  qbnd (oGetP r4.2.2 7 a0 7) fun v5 =>
  qbnd (oPutI r4.2.2 3 v5 1 (0 : Int32)) fun μ6 =>
  fX7_drains_14 qfu a0 (0 : Int32) (0 : Int32) μ6
noncomputable def fX7_drains (a0 : Nat) (μ : qM) : Option qR := if (qk μ a0).1 = 7 then gX7_drains a0 μ else none
noncomputable def aX7_drains (l : List Value) (μ : qM) : Option qR := match l with
  | [.ref x0] => fX7_drains x0 μ
  | _ => none
noncomputable def cfX7_drains : qF := fun n l μ => if n = 53 then aX5_copy l μ else if n = 57 then aX5_firstRunning l μ else if n = 13 then aX0_leave l μ else if n = 33 then aX3_add l μ else if n = 56 then aX5_standing l μ else none
theorem hcX7_drains {base : Nat} {D : va_G} {ca : Nat → ClassId} {cv : Nat → Value} (hcv : ∀ j, (cv j).category = 1) : ∀ M as μ r, cfX7_drains M as μ = some r → qGood false base D ca cv 1004 M as μ r := by
  intro M as μ r h
  unfold cfX7_drains at h
  split at h
  · rename_i e; subst e; exact (gaX5_copy hcv h).mono (by omega)
  split at h
  · rename_i e; subst e; exact (gaX5_firstRunning hcv h).mono (by omega)
  split at h
  · rename_i e; subst e; exact (gaX0_leave hcv h).mono (by omega)
  split at h
  · rename_i e; subst e; exact (gaX3_add hcv h).mono (by omega)
  split at h
  · rename_i e; subst e; exact (gaX5_standing hcv h).mono (by omega)
  cases h
def jX7_drains_14 (f : Nat → Int32 → Int32 → qM → Option qR) (L S : List Value) (μ : qM) : Option qR := match L, S with
  | [.ref x0, .int x1, .int x2, _], [] => f x0 x1 x2 μ
  | _, _ => none
theorem jeX7_drains_14 {base : Nat} {D : va_G} {ca : Nat → ClassId} {cv : Nat → Value} {d : Nat} {f : Nat → Int32 → Int32 → qM → Option qR} (hf : ∀ (x0 : Nat) (x1 : Int32) (x2 : Int32) (μ : qM) (r : qR), f x0 x1 x2 μ = some r → qEv false base D ca cv d 117 r 14 [.ref x0, .int x1, .int x2, .null] [] μ) {L S : List Value} {μ : qM} {r : qR} (h : jX7_drains_14 f L S μ = some r) : qEv false base D ca cv d 117 r 14 L S μ := by
  unfold jX7_drains_14 at h
  split at h
  · exact (hf _ _ _ _ _ h).le rfl ⟨Or.inr rfl, Or.inr rfl, Or.inr rfl, Or.inl rfl, trivial⟩
  · cases h
def jX7_drains_38 (f : Nat → Int32 → qM → Option qR) (L S : List Value) (μ : qM) : Option qR := match L, S with
  | [.ref x0, .int x1, _, _], [] => f x0 x1 μ
  | _, _ => none
theorem jeX7_drains_38 {base : Nat} {D : va_G} {ca : Nat → ClassId} {cv : Nat → Value} {d : Nat} {f : Nat → Int32 → qM → Option qR} (hf : ∀ (x0 : Nat) (x1 : Int32) (μ : qM) (r : qR), f x0 x1 μ = some r → qEv false base D ca cv d 117 r 38 [.ref x0, .int x1, .null, .null] [] μ) {L S : List Value} {μ : qM} {r : qR} (h : jX7_drains_38 f L S μ = some r) : qEv false base D ca cv d 117 r 38 L S μ := by
  unfold jX7_drains_38 at h
  split at h
  · exact (hf _ _ _ _ h).le rfl ⟨Or.inr rfl, Or.inr rfl, Or.inl rfl, Or.inl rfl, trivial⟩
  · cases h
set_option maxRecDepth 100000 in
theorem lbX7_drains_38 {base : Nat} {D : va_G} {ca : Nat → ClassId} {cv : Nat → Value} (hcv : ∀ j, (cv j).category = 1) (x0 : Nat) (x1 : Int32) (μ : qM) (r : qR) (h : fX7_drains_38 x0 x1 μ = some r) : qEv false base D ca cv 1005 117 r 38 [.ref x0, .int x1, .null, .null] [] μ := by
    exact qblk_ev2 (cf := cfX7_drains) (st := (fun n => qin [14, 38] n)) (K := (fun pc L S μ => none)) (cd := qcX7_drains) (M := 117) (d0 := 1004) rfl qcok_X7_drains (Nat.le_refl _) (hcX7_drains hcv) (by
    intro pc L S μ r h
    cases h) 400 (pc := 38) (L := [.ref x0, .int x1, .null, .null]) (S := []) h
set_option maxRecDepth 100000 in
theorem lbX7_drains_14 {base : Nat} {D : va_G} {ca : Nat → ClassId} {cv : Nat → Value} (hcv : ∀ j, (cv j).category = 1) : ∀ (n : Nat) (x0 : Nat) (x1 : Int32) (x2 : Int32) (μ : qM) (r : qR), fX7_drains_14 n x0 x1 x2 μ = some r → qEv false base D ca cv 1005 117 r 14 [.ref x0, .int x1, .int x2, .null] [] μ := by
  intro n
  induction n with
  | zero => intro x0 x1 x2 μ r h; cases (show (none : Option qR) = some r from h)
  | succ n ih =>
    intro x0 x1 x2 μ r h
    exact qblk_ev2 (cf := cfX7_drains) (st := (fun n => qin [14, 38] n)) (K := (fun pc L S μ => if pc = 14 then jX7_drains_14 (fX7_drains_14 n) L S μ else if pc = 38 then jX7_drains_38 (fX7_drains_38) L S μ else none)) (cd := qcX7_drains) (M := 117) (d0 := 1004) rfl qcok_X7_drains (Nat.le_refl _) (hcX7_drains hcv) (by
    intro pc L S μ r h
    split at h
    · rename_i e; subst e; exact jeX7_drains_14 ih h
    split at h
    · rename_i e; subst e; exact jeX7_drains_38 (lbX7_drains_38 hcv) h
    cases h) 400 (pc := 14) (L := [.ref x0, .int x1, .int x2, .null]) (S := []) h
theorem npX7_drains : (parseMethodDescriptor (qmy 117).desc).map (fun d => d.parameters.length) = some 0 := by decide +kernel
set_option maxRecDepth 100000 in
theorem gdX7_drains {base : Nat} {D : va_G} {ca : Nat → ClassId} {cv : Nat → Value} (hcv : ∀ j, (cv j).category = 1) {a0 : Nat} {μ : qM} {r : qR} (h : fX7_drains a0 μ = some r) : qGood false base D ca cv 1005 117 [.ref a0] μ r := by
  unfold fX7_drains at h
  split at h
  · rename_i hk0
    exact qgood_of (by decide) (by omega) hcv (Or.inr ⟨by decide +kernel, hk0⟩) npX7_drains rfl (Nat.le_of_ble_eq_true rfl) rfl (qblk_ev2 (cf := cfX7_drains) (st := (fun n => qin [14, 38] n)) (K := (fun pc L S μ => if pc = 14 then jX7_drains_14 (fX7_drains_14 qfu) L S μ else none)) (cd := qcX7_drains) (M := 117) (d0 := 1004) rfl qcok_X7_drains (Nat.le_refl _) (hcX7_drains hcv) (by
    intro pc L S μ r h
    split at h
    · rename_i e; subst e; exact jeX7_drains_14 (lbX7_drains_14 hcv qfu) h
    cases h) 400 (pc := 0) (L := qent [.ref a0] 4) (S := []) h)
  · cases h
theorem gaX7_drains {base : Nat} {D : va_G} {ca : Nat → ClassId} {cv : Nat → Value} (hcv : ∀ j, (cv j).category = 1) {l : List Value} {μ : qM} {r : qR} (h : aX7_drains l μ = some r) : qGood false base D ca cv 1005 117 l μ r := by
  unfold aX7_drains at h
  split at h
  · exact gdX7_drains hcv h
  · cases h
noncomputable def fX7_saves_49 (x0 : Nat) (x3 : Int32) (x4 : Int32) (s0 : Int32) (μ : qM) : Option qR :=
  qbnd (oGetP μ 7 x0 7) fun v1 =>
  if s0 = 0 then
    qbnd (fX3_two v1 (x4).toInt64 (0 : Int64) μ) fun r2 =>
    some (x3, 0, r2.2.2)
  else
    qbnd (fX3_two v1 (x4).toInt64 (1 : Int64) μ) fun r3 =>
    some (x3, 0, r3.2.2)
noncomputable def fX7_saves_48 (x0 : Nat) (x3 : Int32) (x4 : Int32) (μ : qM) : Option qR :=
  fX7_saves_49 x0 x3 x4 (0 : Int32) μ
noncomputable def gX7_saves (a0 : Nat) (a1 : Int32) (a2 : Int32) (μ : qM) : Option qR :=
  qbnd (fX7_isOwner a1 μ) fun r1 =>
  if r1.1 = 0 then
    some ((-1 : Int32), 0, r1.2.2)
  else
    if a2 < 0 then
      some ((-1 : Int32), 0, r1.2.2)
    else
      if a2 < (21 : Int32) then
        qbnd (oGetP r1.2.2 7 a0 2) fun v2 =>
        qbnd (fX5_holdingsBelow v2 a1 a2 r1.2.2) fun r3 =>
        qbnd (oGetP r3.2.2 7 a0 2) fun v4 =>
        qbnd (oGetP r3.2.2 5 v4 1) fun v5 =>
        qbnd (oLdI 20 r3.2.2 v5 a1) fun v6 =>
        if v6 = 0 then
          some ((-2 : Int32), 0, r3.2.2)
        else
          if r3.1 = 0 then
            some ((-2 : Int32), 0, r3.2.2)
          else
            qbnd (oGetP r3.2.2 7 a0 2) fun v7 =>
            qbnd (fX5_gatherMode v7 a1 a2 r3.2.2) fun r8 =>
            qbnd (oGetP r8.2.2 7 a0 2) fun v9 =>
            qbnd (oGetP r8.2.2 5 v9 1) fun v10 =>
            qbnd (oLdI 20 r8.2.2 v10 a1) fun v11 =>
            if v11 = (1 : Int32) then
              qbnd (oGetP r8.2.2 7 a0 2) fun v12 =>
              qbnd (fX5_isOpen v12 a1 a2 r8.1 r8.2.2) fun r13 =>
              if r13.1 = 0 then
                fX7_saves_48 a0 r3.1 r8.1 r13.2.2
              else
                fX7_saves_49 a0 r3.1 r8.1 (1 : Int32) r13.2.2
            else
              fX7_saves_48 a0 r3.1 r8.1 r8.2.2
      else
        some ((-1 : Int32), 0, r1.2.2)
noncomputable def fX7_saves (a0 : Nat) (a1 : Int32) (a2 : Int32) (μ : qM) : Option qR := if (qk μ a0).1 = 7 then gX7_saves a0 a1 a2 μ else none
noncomputable def aX7_saves (l : List Value) (μ : qM) : Option qR := match l with
  | [.ref x0, .int x1, .int x2] => fX7_saves x0 x1 x2 μ
  | _ => none
noncomputable def cfX7_saves : qF := fun n l μ => if n = 131 then aX7_isOwner l μ else if n = 62 then aX5_holdingsBelow l μ else if n = 63 then aX5_gatherMode l μ else if n = 67 then aX5_isOpen l μ else if n = 35 then aX3_two l μ else none
theorem hcX7_saves {base : Nat} {D : va_G} {ca : Nat → ClassId} {cv : Nat → Value} (hcv : ∀ j, (cv j).category = 1) : ∀ M as μ r, cfX7_saves M as μ = some r → qGood false base D ca cv 2 M as μ r := by
  intro M as μ r h
  unfold cfX7_saves at h
  split at h
  · rename_i e; subst e; exact (gaX7_isOwner hcv h).mono (by omega)
  split at h
  · rename_i e; subst e; exact (gaX5_holdingsBelow hcv h).mono (by omega)
  split at h
  · rename_i e; subst e; exact (gaX5_gatherMode hcv h).mono (by omega)
  split at h
  · rename_i e; subst e; exact (gaX5_isOpen hcv h).mono (by omega)
  split at h
  · rename_i e; subst e; exact (gaX3_two hcv h).mono (by omega)
  cases h
def jX7_saves_48 (f : Nat → Int32 → Int32 → qM → Option qR) (L S : List Value) (μ : qM) : Option qR := match L, S with
  | [.ref x0, _, _, .int x3, .int x4, _], [] => f x0 x3 x4 μ
  | _, _ => none
theorem jeX7_saves_48 {base : Nat} {D : va_G} {ca : Nat → ClassId} {cv : Nat → Value} {d : Nat} {f : Nat → Int32 → Int32 → qM → Option qR} (hf : ∀ (x0 : Nat) (x3 : Int32) (x4 : Int32) (μ : qM) (r : qR), f x0 x3 x4 μ = some r → qEv false base D ca cv d 118 r 48 [.ref x0, .null, .null, .int x3, .int x4, .null] [] μ) {L S : List Value} {μ : qM} {r : qR} (h : jX7_saves_48 f L S μ = some r) : qEv false base D ca cv d 118 r 48 L S μ := by
  unfold jX7_saves_48 at h
  split at h
  · exact (hf _ _ _ _ _ h).le rfl ⟨Or.inr rfl, Or.inl rfl, Or.inl rfl, Or.inr rfl, Or.inr rfl, Or.inl rfl, trivial⟩
  · cases h
def jX7_saves_49 (f : Nat → Int32 → Int32 → Int32 → qM → Option qR) (L S : List Value) (μ : qM) : Option qR := match L, S with
  | [.ref x0, _, _, .int x3, .int x4, _], [.int s0] => f x0 x3 x4 s0 μ
  | _, _ => none
theorem jeX7_saves_49 {base : Nat} {D : va_G} {ca : Nat → ClassId} {cv : Nat → Value} {d : Nat} {f : Nat → Int32 → Int32 → Int32 → qM → Option qR} (hf : ∀ (x0 : Nat) (x3 : Int32) (x4 : Int32) (s0 : Int32) (μ : qM) (r : qR), f x0 x3 x4 s0 μ = some r → qEv false base D ca cv d 118 r 49 [.ref x0, .null, .null, .int x3, .int x4, .null] [.int s0] μ) {L S : List Value} {μ : qM} {r : qR} (h : jX7_saves_49 f L S μ = some r) : qEv false base D ca cv d 118 r 49 L S μ := by
  unfold jX7_saves_49 at h
  split at h
  · exact (hf _ _ _ _ _ _ h).le rfl ⟨Or.inr rfl, Or.inl rfl, Or.inl rfl, Or.inr rfl, Or.inr rfl, Or.inl rfl, trivial⟩
  · cases h
set_option maxRecDepth 100000 in
theorem lbX7_saves_49 {base : Nat} {D : va_G} {ca : Nat → ClassId} {cv : Nat → Value} (hcv : ∀ j, (cv j).category = 1) (x0 : Nat) (x3 : Int32) (x4 : Int32) (s0 : Int32) (μ : qM) (r : qR) (h : fX7_saves_49 x0 x3 x4 s0 μ = some r) : qEv false base D ca cv 3 118 r 49 [.ref x0, .null, .null, .int x3, .int x4, .null] [.int s0] μ := by
    exact qblk_ev2 (cf := cfX7_saves) (st := (fun n => qin [48, 49] n)) (K := (fun pc L S μ => none)) (cd := qcX7_saves) (M := 118) (d0 := 2) rfl qcok_X7_saves (Nat.le_refl _) (hcX7_saves hcv) (by
    intro pc L S μ r h
    cases h) 400 (pc := 49) (L := [.ref x0, .null, .null, .int x3, .int x4, .null]) (S := [.int s0]) h
set_option maxRecDepth 100000 in
theorem lbX7_saves_48 {base : Nat} {D : va_G} {ca : Nat → ClassId} {cv : Nat → Value} (hcv : ∀ j, (cv j).category = 1) (x0 : Nat) (x3 : Int32) (x4 : Int32) (μ : qM) (r : qR) (h : fX7_saves_48 x0 x3 x4 μ = some r) : qEv false base D ca cv 3 118 r 48 [.ref x0, .null, .null, .int x3, .int x4, .null] [] μ := by
    exact qblk_ev2 (cf := cfX7_saves) (st := (fun n => qin [48, 49] n)) (K := (fun pc L S μ => if pc = 49 then jX7_saves_49 (fX7_saves_49) L S μ else none)) (cd := qcX7_saves) (M := 118) (d0 := 2) rfl qcok_X7_saves (Nat.le_refl _) (hcX7_saves hcv) (by
    intro pc L S μ r h
    split at h
    · rename_i e; subst e; exact jeX7_saves_49 (lbX7_saves_49 hcv) h
    cases h) 400 (pc := 48) (L := [.ref x0, .null, .null, .int x3, .int x4, .null]) (S := []) h
theorem npX7_saves : (parseMethodDescriptor (qmy 118).desc).map (fun d => d.parameters.length) = some 2 := by decide +kernel
set_option maxRecDepth 100000 in
theorem gdX7_saves {base : Nat} {D : va_G} {ca : Nat → ClassId} {cv : Nat → Value} (hcv : ∀ j, (cv j).category = 1) {a0 : Nat} {a1 : Int32} {a2 : Int32} {μ : qM} {r : qR} (h : fX7_saves a0 a1 a2 μ = some r) : qGood false base D ca cv 3 118 [.ref a0, .int a1, .int a2] μ r := by
  unfold fX7_saves at h
  split at h
  · rename_i hk0
    exact qgood_of (by decide) (by omega) hcv (Or.inr ⟨by decide +kernel, hk0⟩) npX7_saves rfl (Nat.le_of_ble_eq_true rfl) rfl (qblk_ev2 (cf := cfX7_saves) (st := (fun n => qin [48, 49] n)) (K := (fun pc L S μ => if pc = 48 then jX7_saves_48 (fX7_saves_48) L S μ else if pc = 49 then jX7_saves_49 (fX7_saves_49) L S μ else none)) (cd := qcX7_saves) (M := 118) (d0 := 2) rfl qcok_X7_saves (Nat.le_refl _) (hcX7_saves hcv) (by
    intro pc L S μ r h
    split at h
    · rename_i e; subst e; exact jeX7_saves_48 (lbX7_saves_48 hcv) h
    split at h
    · rename_i e; subst e; exact jeX7_saves_49 (lbX7_saves_49 hcv) h
    cases h) 400 (pc := 0) (L := qent [.ref a0, .int a1, .int a2] 6) (S := []) h)
  · cases h
theorem gaX7_saves {base : Nat} {D : va_G} {ca : Nat → ClassId} {cv : Nat → Value} (hcv : ∀ j, (cv j).category = 1) {l : List Value} {μ : qM} {r : qR} (h : aX7_saves l μ = some r) : qGood false base D ca cv 3 118 l μ r := by
  unfold aX7_saves at h
  split at h
  · exact gdX7_saves hcv h
  · cases h
noncomputable def fX7_holds_16 : Nat → Nat → Int32 → Int32 → Int32 → qM → Option qR
  | 0 => fun _ _ _ _ _ => none
  | n + 1 => fun x0 x1 x3 x4 μ =>
    if (85 : Int32) ≤ x4 then
      some (x3, 0, μ)
    else
      qbnd (oGetP μ 7 x0 2) fun v1 =>
      qbnd (fX5_modeAt v1 x1 x4 μ) fun r2 =>
      if r2.1 = 0 then
        fX7_holds_16 n x0 x1 x3 (x4 + (1 : Int32)) r2.2.2
      else
        if (12 : Int32) ≤ x3 then
          fX7_holds_16 n x0 x1 (x3 + (1 : Int32)) (x4 + (1 : Int32)) r2.2.2
        else
          qbnd (oGetP r2.2.2 7 x0 7) fun v3 =>
          qbnd (fX3_add v3 (x4).toInt64 r2.2.2) fun r4 =>
          fX7_holds_16 n x0 x1 (x3 + (1 : Int32)) (x4 + (1 : Int32)) r4.2.2
noncomputable def gX7_holds (a0 : Nat) (a1 : Int32) (a2 : Int32) (μ : qM) : Option qR :=
  qbnd (fX7_isOwner a1 μ) fun r1 =>
  if r1.1 = 0 then
    some ((-1 : Int32), 0, r1.2.2)
  else
    qbnd (fX7_isPlace a2 r1.2.2) fun r2 =>
    if r2.1 = 0 then
      some ((-1 : Int32), 0, r2.2.2)
    else
      qbnd (oGetP r2.2.2 7 a0 7) fun v3 =>
      qbnd (oPutI r2.2.2 3 v3 1 (0 : Int32)) fun μ4 =>
      fX7_holds_16 qfu a0 a1 (0 : Int32) a2 μ4
noncomputable def fX7_holds (a0 : Nat) (a1 : Int32) (a2 : Int32) (μ : qM) : Option qR := if (qk μ a0).1 = 7 then gX7_holds a0 a1 a2 μ else none
noncomputable def aX7_holds (l : List Value) (μ : qM) : Option qR := match l with
  | [.ref x0, .int x1, .int x2] => fX7_holds x0 x1 x2 μ
  | _ => none
noncomputable def cfX7_holds : qF := fun n l μ => if n = 131 then aX7_isOwner l μ else if n = 132 then aX7_isPlace l μ else if n = 54 then aX5_modeAt l μ else if n = 33 then aX3_add l μ else none
theorem hcX7_holds {base : Nat} {D : va_G} {ca : Nat → ClassId} {cv : Nat → Value} (hcv : ∀ j, (cv j).category = 1) : ∀ M as μ r, cfX7_holds M as μ = some r → qGood false base D ca cv 1 M as μ r := by
  intro M as μ r h
  unfold cfX7_holds at h
  split at h
  · rename_i e; subst e; exact (gaX7_isOwner hcv h).mono (by omega)
  split at h
  · rename_i e; subst e; exact (gaX7_isPlace hcv h).mono (by omega)
  split at h
  · rename_i e; subst e; exact (gaX5_modeAt hcv h).mono (by omega)
  split at h
  · rename_i e; subst e; exact (gaX3_add hcv h).mono (by omega)
  cases h
def jX7_holds_16 (f : Nat → Int32 → Int32 → Int32 → qM → Option qR) (L S : List Value) (μ : qM) : Option qR := match L, S with
  | [.ref x0, .int x1, _, .int x3, .int x4], [] => f x0 x1 x3 x4 μ
  | _, _ => none
theorem jeX7_holds_16 {base : Nat} {D : va_G} {ca : Nat → ClassId} {cv : Nat → Value} {d : Nat} {f : Nat → Int32 → Int32 → Int32 → qM → Option qR} (hf : ∀ (x0 : Nat) (x1 : Int32) (x3 : Int32) (x4 : Int32) (μ : qM) (r : qR), f x0 x1 x3 x4 μ = some r → qEv false base D ca cv d 119 r 16 [.ref x0, .int x1, .null, .int x3, .int x4] [] μ) {L S : List Value} {μ : qM} {r : qR} (h : jX7_holds_16 f L S μ = some r) : qEv false base D ca cv d 119 r 16 L S μ := by
  unfold jX7_holds_16 at h
  split at h
  · exact (hf _ _ _ _ _ _ h).le rfl ⟨Or.inr rfl, Or.inr rfl, Or.inl rfl, Or.inr rfl, Or.inr rfl, trivial⟩
  · cases h
set_option maxRecDepth 100000 in
theorem lbX7_holds_16 {base : Nat} {D : va_G} {ca : Nat → ClassId} {cv : Nat → Value} (hcv : ∀ j, (cv j).category = 1) : ∀ (n : Nat) (x0 : Nat) (x1 : Int32) (x3 : Int32) (x4 : Int32) (μ : qM) (r : qR), fX7_holds_16 n x0 x1 x3 x4 μ = some r → qEv false base D ca cv 2 119 r 16 [.ref x0, .int x1, .null, .int x3, .int x4] [] μ := by
  intro n
  induction n with
  | zero => intro x0 x1 x3 x4 μ r h; cases (show (none : Option qR) = some r from h)
  | succ n ih =>
    intro x0 x1 x3 x4 μ r h
    exact qblk_ev2 (cf := cfX7_holds) (st := (fun n => qin [16] n)) (K := (fun pc L S μ => if pc = 16 then jX7_holds_16 (fX7_holds_16 n) L S μ else none)) (cd := qcX7_holds) (M := 119) (d0 := 1) rfl qcok_X7_holds (Nat.le_refl _) (hcX7_holds hcv) (by
    intro pc L S μ r h
    split at h
    · rename_i e; subst e; exact jeX7_holds_16 ih h
    cases h) 400 (pc := 16) (L := [.ref x0, .int x1, .null, .int x3, .int x4]) (S := []) h
theorem npX7_holds : (parseMethodDescriptor (qmy 119).desc).map (fun d => d.parameters.length) = some 2 := by decide +kernel
set_option maxRecDepth 100000 in
theorem gdX7_holds {base : Nat} {D : va_G} {ca : Nat → ClassId} {cv : Nat → Value} (hcv : ∀ j, (cv j).category = 1) {a0 : Nat} {a1 : Int32} {a2 : Int32} {μ : qM} {r : qR} (h : fX7_holds a0 a1 a2 μ = some r) : qGood false base D ca cv 2 119 [.ref a0, .int a1, .int a2] μ r := by
  unfold fX7_holds at h
  split at h
  · rename_i hk0
    exact qgood_of (by decide) (by omega) hcv (Or.inr ⟨by decide +kernel, hk0⟩) npX7_holds rfl (Nat.le_of_ble_eq_true rfl) rfl (qblk_ev2 (cf := cfX7_holds) (st := (fun n => qin [16] n)) (K := (fun pc L S μ => if pc = 16 then jX7_holds_16 (fX7_holds_16 qfu) L S μ else none)) (cd := qcX7_holds) (M := 119) (d0 := 1) rfl qcok_X7_holds (Nat.le_refl _) (hcX7_holds hcv) (by
    intro pc L S μ r h
    split at h
    · rename_i e; subst e; exact jeX7_holds_16 (lbX7_holds_16 hcv qfu) h
    cases h) 400 (pc := 0) (L := qent [.ref a0, .int a1, .int a2] 5) (S := []) h)
  · cases h
theorem gaX7_holds {base : Nat} {D : va_G} {ca : Nat → ClassId} {cv : Nat → Value} (hcv : ∀ j, (cv j).category = 1) {l : List Value} {μ : qM} {r : qR} (h : aX7_holds l μ = some r) : qGood false base D ca cv 2 119 l μ r := by
  unfold aX7_holds at h
  split at h
  · exact gdX7_holds hcv h
  · cases h

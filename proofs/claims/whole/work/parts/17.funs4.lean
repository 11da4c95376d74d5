/-! FUNCTIONS out of the codes, and that the machine does as they do, 4 (printed by gen/emit6.py) -/
noncomputable def fX8_isAhead (a0 : Nat) (a1 : Int32) (a2 : Int32) (μ : qM) : Option qR :=
  qbnd (fX8_isChange a0 a2 μ) fun r1 =>
  qbnd (fX8_flag r1.1 r1.2.2) fun r2 =>
  qbnd (fX8_isChange a0 a1 r2.2.2) fun r3 =>
  qbnd (fX8_flag r3.1 r3.2.2) fun r4 =>
  if (r2.1 - r4.1) < 0 then
    if qnz (1 : Int32) = (1 : Int32) then some ((1 : Int32), 0, r4.2.2) else none
  else
    if (r2.1 - r4.1) = 0 then
      qbnd (oLdI 20 r4.2.2 a0 ((744 : Int32) + a1)) fun v5 =>
      qbnd (oLdI 20 r4.2.2 a0 ((744 : Int32) + a2)) fun v6 =>
      if v6 ≤ v5 then
        if qnz (0 : Int32) = (0 : Int32) then some ((0 : Int32), 0, r4.2.2) else none
      else
        if qnz (1 : Int32) = (1 : Int32) then some ((1 : Int32), 0, r4.2.2) else none
    else
      if qnz (0 : Int32) = (0 : Int32) then some ((0 : Int32), 0, r4.2.2) else none
noncomputable def aX8_isAhead (l : List Value) (μ : qM) : Option qR := match l with
  | [.ref x0, .int x1, .int x2] => fX8_isAhead x0 x1 x2 μ
  | _ => none
noncomputable def cfX8_isAhead : qF := fun n l μ => if n = 176 then aX8_isChange l μ else if n = 143 then aX8_flag l μ else none
theorem hcX8_isAhead {base : Nat} {D : va_G} {ca : Nat → ClassId} {cv : Nat → Value} (hcv : ∀ j, (cv j).category = 1) : ∀ M as μ r, cfX8_isAhead M as μ = some r → qGood false base D ca cv 2 M as μ r := by
  intro M as μ r h
  unfold cfX8_isAhead at h
  split at h
  · rename_i e; subst e; exact (gaX8_isChange hcv h).mono (by omega)
  split at h
  · rename_i e; subst e; exact (gaX8_flag hcv h).mono (by omega)
  cases h
theorem npX8_isAhead : (parseMethodDescriptor (qmy 177).desc).map (fun d => d.parameters.length) = some 3 := by decide +kernel
set_option maxRecDepth 100000 in
theorem gdX8_isAhead {base : Nat} {D : va_G} {ca : Nat → ClassId} {cv : Nat → Value} (hcv : ∀ j, (cv j).category = 1) {a0 : Nat} {a1 : Int32} {a2 : Int32} {μ : qM} {r : qR} (h : fX8_isAhead a0 a1 a2 μ = some r) : qGood false base D ca cv 3 177 [.ref a0, .int a1, .int a2] μ r := by
  exact qgood_of (by decide) (by omega) hcv (Or.inl rfl) npX8_isAhead rfl (Nat.le_of_ble_eq_true rfl) rfl (qblk_ev2 (cf := cfX8_isAhead) (st := (fun n => qin [] n)) (K := (fun pc L S μ => none)) (cd := qcX8_isAhead) (M := 177) (d0 := 2) rfl qcok_X8_isAhead (Nat.le_refl _) (hcX8_isAhead hcv) (by
    intro pc L S μ r h
    cases h) 400 (pc := 0) (L := qent [.ref a0, .int a1, .int a2] 4) (S := []) h)
theorem gaX8_isAhead {base : Nat} {D : va_G} {ca : Nat → ClassId} {cv : Nat → Value} (hcv : ∀ j, (cv j).category = 1) {l : List Value} {μ : qM} {r : qR} (h : aX8_isAhead l μ = some r) : qGood false base D ca cv 3 177 l μ r := by
  unfold aX8_isAhead at h
  split at h
  · exact gdX8_isAhead hcv h
  · cases h
noncomputable def fX8_isIn (a0 : Nat) (a1 : Int32) (a2 : Int32) (μ : qM) : Option qR :=
  qbnd (oLdI 20 μ a0 ((680 : Int32) + a1)) fun v1 =>
  if v1 = (2 : Int32) then
    qbnd (oLdI 20 μ a0 ((712 : Int32) + a1)) fun v2 =>
    if v2 = a2 then
      if qnz (1 : Int32) = (1 : Int32) then some ((1 : Int32), 0, μ) else none
    else
      if qnz (0 : Int32) = (0 : Int32) then some ((0 : Int32), 0, μ) else none
  else
    if qnz (0 : Int32) = (0 : Int32) then some ((0 : Int32), 0, μ) else none
noncomputable def aX8_isIn (l : List Value) (μ : qM) : Option qR := match l with
  | [.ref x0, .int x1, .int x2] => fX8_isIn x0 x1 x2 μ
  | _ => none
noncomputable def cfX8_isIn : qF := fun n l μ => none
theorem hcX8_isIn {base : Nat} {D : va_G} {ca : Nat → ClassId} {cv : Nat → Value} (hcv : ∀ j, (cv j).category = 1) : ∀ M as μ r, cfX8_isIn M as μ = some r → qGood false base D ca cv 0 M as μ r := by
  intro M as μ r h
  cases h
theorem npX8_isIn : (parseMethodDescriptor (qmy 178).desc).map (fun d => d.parameters.length) = some 3 := by decide +kernel
set_option maxRecDepth 100000 in
theorem gdX8_isIn {base : Nat} {D : va_G} {ca : Nat → ClassId} {cv : Nat → Value} (hcv : ∀ j, (cv j).category = 1) {a0 : Nat} {a1 : Int32} {a2 : Int32} {μ : qM} {r : qR} (h : fX8_isIn a0 a1 a2 μ = some r) : qGood false base D ca cv 1 178 [.ref a0, .int a1, .int a2] μ r := by
  exact qgood_of (by decide) (by omega) hcv (Or.inl rfl) npX8_isIn rfl (Nat.le_of_ble_eq_true rfl) rfl (qblk_ev2 (cf := cfX8_isIn) (st := (fun n => qin [] n)) (K := (fun pc L S μ => none)) (cd := qcX8_isIn) (M := 178) (d0 := 0) rfl qcok_X8_isIn (Nat.le_refl _) (hcX8_isIn hcv) (by
    intro pc L S μ r h
    cases h) 400 (pc := 0) (L := qent [.ref a0, .int a1, .int a2] 3) (S := []) h)
theorem gaX8_isIn {base : Nat} {D : va_G} {ca : Nat → ClassId} {cv : Nat → Value} (hcv : ∀ j, (cv j).category = 1) {l : List Value} {μ : qM} {r : qR} (h : aX8_isIn l μ = some r) : qGood false base D ca cv 1 178 l μ r := by
  unfold aX8_isIn at h
  split at h
  · exact gdX8_isIn hcv h
  · cases h
noncomputable def fX8_queued_4 : Nat → Nat → Int32 → Int32 → Int32 → qM → Option qR
  | 0 => fun _ _ _ _ _ => none
  | n + 1 => fun x0 x1 x2 x3 μ =>
    if (8 : Int32) ≤ x3 then
      some (x2, 0, μ)
    else
      qbnd (fX8_isIn x0 x3 x1 μ) fun r1 =>
      qbnd (fX8_flag r1.1 r1.2.2) fun r2 =>
      fX8_queued_4 n x0 x1 (x2 + r2.1) (x3 + (1 : Int32)) r2.2.2
noncomputable def fX8_queued (a0 : Nat) (a1 : Int32) (μ : qM) : Option qR :=
  fX8_queued_4 qfu a0 a1 (0 : Int32) (0 : Int32) μ
noncomputable def aX8_queued (l : List Value) (μ : qM) : Option qR := match l with
  | [.ref x0, .int x1] => fX8_queued x0 x1 μ
  | _ => none
noncomputable def cfX8_queued : qF := fun n l μ => if n = 178 then aX8_isIn l μ else if n = 143 then aX8_flag l μ else none
theorem hcX8_queued {base : Nat} {D : va_G} {ca : Nat → ClassId} {cv : Nat → Value} (hcv : ∀ j, (cv j).category = 1) : ∀ M as μ r, cfX8_queued M as μ = some r → qGood false base D ca cv 1 M as μ r := by
  intro M as μ r h
  unfold cfX8_queued at h
  split at h
  · rename_i e; subst e; exact (gaX8_isIn hcv h).mono (by omega)
  split at h
  · rename_i e; subst e; exact (gaX8_flag hcv h).mono (by omega)
  cases h
def jX8_queued_4 (f : Nat → Int32 → Int32 → Int32 → qM → Option qR) (L S : List Value) (μ : qM) : Option qR := match L, S with
  | [.ref x0, .int x1, .int x2, .int x3], [] => f x0 x1 x2 x3 μ
  | _, _ => none
theorem jeX8_queued_4 {base : Nat} {D : va_G} {ca : Nat → ClassId} {cv : Nat → Value} {d : Nat} {f : Nat → Int32 → Int32 → Int32 → qM → Option qR} (hf : ∀ (x0 : Nat) (x1 : Int32) (x2 : Int32) (x3 : Int32) (μ : qM) (r : qR), f x0 x1 x2 x3 μ = some r → qEv false base D ca cv d 179 r 4 [.ref x0, .int x1, .int x2, .int x3] [] μ) {L S : List Value} {μ : qM} {r : qR} (h : jX8_queued_4 f L S μ = some r) : qEv false base D ca cv d 179 r 4 L S μ := by
  unfold jX8_queued_4 at h
  split at h
  · exact (hf _ _ _ _ _ _ h).le rfl ⟨Or.inr rfl, Or.inr rfl, Or.inr rfl, Or.inr rfl, trivial⟩
  · cases h
set_option maxRecDepth 100000 in
theorem lbX8_queued_4 {base : Nat} {D : va_G} {ca : Nat → ClassId} {cv : Nat → Value} (hcv : ∀ j, (cv j).category = 1) : ∀ (n : Nat) (x0 : Nat) (x1 : Int32) (x2 : Int32) (x3 : Int32) (μ : qM) (r : qR), fX8_queued_4 n x0 x1 x2 x3 μ = some r → qEv false base D ca cv 2 179 r 4 [.ref x0, .int x1, .int x2, .int x3] [] μ := by
  intro n
  induction n with
  | zero => intro x0 x1 x2 x3 μ r h; cases (show (none : Option qR) = some r from h)
  | succ n ih =>
    intro x0 x1 x2 x3 μ r h
    exact qblk_ev2 (cf := cfX8_queued) (st := (fun n => qin [4] n)) (K := (fun pc L S μ => if pc = 4 then jX8_queued_4 (fX8_queued_4 n) L S μ else none)) (cd := qcX8_queued) (M := 179) (d0 := 1) rfl qcok_X8_queued (Nat.le_refl _) (hcX8_queued hcv) (by
    intro pc L S μ r h
    split at h
    · rename_i e; subst e; exact jeX8_queued_4 ih h
    cases h) 400 (pc := 4) (L := [.ref x0, .int x1, .int x2, .int x3]) (S := []) h
theorem npX8_queued : (parseMethodDescriptor (qmy 179).desc).map (fun d => d.parameters.length) = some 2 := by decide +kernel
set_option maxRecDepth 100000 in
theorem gdX8_queued {base : Nat} {D : va_G} {ca : Nat → ClassId} {cv : Nat → Value} (hcv : ∀ j, (cv j).category = 1) {a0 : Nat} {a1 : Int32} {μ : qM} {r : qR} (h : fX8_queued a0 a1 μ = some r) : qGood false base D ca cv 2 179 [.ref a0, .int a1] μ r := by
  exact qgood_of (by decide) (by omega) hcv (Or.inl rfl) npX8_queued rfl (Nat.le_of_ble_eq_true rfl) rfl (qblk_ev2 (cf := cfX8_queued) (st := (fun n => qin [4] n)) (K := (fun pc L S μ => if pc = 4 then jX8_queued_4 (fX8_queued_4 qfu) L S μ else none)) (cd := qcX8_queued) (M := 179) (d0 := 1) rfl qcok_X8_queued (Nat.le_refl _) (hcX8_queued hcv) (by
    intro pc L S μ r h
    split at h
    · rename_i e; subst e; exact jeX8_queued_4 (lbX8_queued_4 hcv qfu) h
    cases h) 400 (pc := 0) (L := qent [.ref a0, .int a1] 4) (S := []) h)
theorem gaX8_queued {base : Nat} {D : va_G} {ca : Nat → ClassId} {cv : Nat → Value} (hcv : ∀ j, (cv j).category = 1) {l : List Value} {μ : qM} {r : qR} (h : aX8_queued l μ = some r) : qGood false base D ca cv 2 179 l μ r := by
  unfold aX8_queued at h
  split at h
  · exact gdX8_queued hcv h
  · cases h
noncomputable def fX8_hasChange_4 : Nat → Nat → Int32 → Int32 → Int32 → qM → Option qR
  | 0 => fun _ _ _ _ _ => none
  | n + 1 => fun x0 x1 x2 x3 μ =>
    if (8 : Int32) ≤ x3 then
      if qnz x2 = x2 then some (x2, 0, μ) else none
    else
      if x2 = 0 then
        qbnd (fX8_isIn x0 x3 x1 μ) fun r1 =>
        if r1.1 = 0 then
          fX8_hasChange_4 n x0 x1 (0 : Int32) (x3 + (1 : Int32)) r1.2.2
        else
          qbnd (fX8_isChange x0 x3 r1.2.2) fun r2 =>
          if r2.1 = 0 then
            fX8_hasChange_4 n x0 x1 (0 : Int32) (x3 + (1 : Int32)) r2.2.2
          else
            fX8_hasChange_4 n x0 x1 (1 : Int32) (x3 + (1 : Int32)) r2.2.2
      else
        fX8_hasChange_4 n x0 x1 (1 : Int32) (x3 + (1 : Int32)) μ
noncomputable def fX8_hasChange (a0 : Nat) (a1 : Int32) (μ : qM) : Option qR :=
  fX8_hasChange_4 qfu a0 a1 (0 : Int32) (0 : Int32) μ
noncomputable def aX8_hasChange (l : List Value) (μ : qM) : Option qR := match l with
  | [.ref x0, .int x1] => fX8_hasChange x0 x1 μ
  | _ => none
noncomputable def cfX8_hasChange : qF := fun n l μ => if n = 178 then aX8_isIn l μ else if n = 176 then aX8_isChange l μ else none
theorem hcX8_hasChange {base : Nat} {D : va_G} {ca : Nat → ClassId} {cv : Nat → Value} (hcv : ∀ j, (cv j).category = 1) : ∀ M as μ r, cfX8_hasChange M as μ = some r → qGood false base D ca cv 2 M as μ r := by
  intro M as μ r h
  unfold cfX8_hasChange at h
  split at h
  · rename_i e; subst e; exact (gaX8_isIn hcv h).mono (by omega)
  split at h
  · rename_i e; subst e; exact (gaX8_isChange hcv h).mono (by omega)
  cases h
def jX8_hasChange_4 (f : Nat → Int32 → Int32 → Int32 → qM → Option qR) (L S : List Value) (μ : qM) : Option qR := match L, S with
  | [.ref x0, .int x1, .int x2, .int x3], [] => f x0 x1 x2 x3 μ
  | _, _ => none
theorem jeX8_hasChange_4 {base : Nat} {D : va_G} {ca : Nat → ClassId} {cv : Nat → Value} {d : Nat} {f : Nat → Int32 → Int32 → Int32 → qM → Option qR} (hf : ∀ (x0 : Nat) (x1 : Int32) (x2 : Int32) (x3 : Int32) (μ : qM) (r : qR), f x0 x1 x2 x3 μ = some r → qEv false base D ca cv d 180 r 4 [.ref x0, .int x1, .int x2, .int x3] [] μ) {L S : List Value} {μ : qM} {r : qR} (h : jX8_hasChange_4 f L S μ = some r) : qEv false base D ca cv d 180 r 4 L S μ := by
  unfold jX8_hasChange_4 at h
  split at h
  · exact (hf _ _ _ _ _ _ h).le rfl ⟨Or.inr rfl, Or.inr rfl, Or.inr rfl, Or.inr rfl, trivial⟩
  · cases h
set_option maxRecDepth 100000 in
theorem lbX8_hasChange_4 {base : Nat} {D : va_G} {ca : Nat → ClassId} {cv : Nat → Value} (hcv : ∀ j, (cv j).category = 1) : ∀ (n : Nat) (x0 : Nat) (x1 : Int32) (x2 : Int32) (x3 : Int32) (μ : qM) (r : qR), fX8_hasChange_4 n x0 x1 x2 x3 μ = some r → qEv false base D ca cv 3 180 r 4 [.ref x0, .int x1, .int x2, .int x3] [] μ := by
  intro n
  induction n with
  | zero => intro x0 x1 x2 x3 μ r h; cases (show (none : Option qR) = some r from h)
  | succ n ih =>
    intro x0 x1 x2 x3 μ r h
    exact qblk_ev2 (cf := cfX8_hasChange) (st := (fun n => qin [4] n)) (K := (fun pc L S μ => if pc = 4 then jX8_hasChange_4 (fX8_hasChange_4 n) L S μ else none)) (cd := qcX8_hasChange) (M := 180) (d0 := 2) rfl qcok_X8_hasChange (Nat.le_refl _) (hcX8_hasChange hcv) (by
    intro pc L S μ r h
    split at h
    · rename_i e; subst e; exact jeX8_hasChange_4 ih h
    cases h) 400 (pc := 4) (L := [.ref x0, .int x1, .int x2, .int x3]) (S := []) h
theorem npX8_hasChange : (parseMethodDescriptor (qmy 180).desc).map (fun d => d.parameters.length) = some 2 := by decide +kernel
set_option maxRecDepth 100000 in
theorem gdX8_hasChange {base : Nat} {D : va_G} {ca : Nat → ClassId} {cv : Nat → Value} (hcv : ∀ j, (cv j).category = 1) {a0 : Nat} {a1 : Int32} {μ : qM} {r : qR} (h : fX8_hasChange a0 a1 μ = some r) : qGood false base D ca cv 3 180 [.ref a0, .int a1] μ r := by
  exact qgood_of (by decide) (by omega) hcv (Or.inl rfl) npX8_hasChange rfl (Nat.le_of_ble_eq_true rfl) rfl (qblk_ev2 (cf := cfX8_hasChange) (st := (fun n => qin [4] n)) (K := (fun pc L S μ => if pc = 4 then jX8_hasChange_4 (fX8_hasChange_4 qfu) L S μ else none)) (cd := qcX8_hasChange) (M := 180) (d0 := 2) rfl qcok_X8_hasChange (Nat.le_refl _) (hcX8_hasChange hcv) (by
    intro pc L S μ r h
    split at h
    · rename_i e; subst e; exact jeX8_hasChange_4 (lbX8_hasChange_4 hcv qfu) h
    cases h) 400 (pc := 0) (L := qent [.ref a0, .int a1] 4) (S := []) h)
theorem gaX8_hasChange {base : Nat} {D : va_G} {ca : Nat → ClassId} {cv : Nat → Value} (hcv : ∀ j, (cv j).category = 1) {l : List Value} {μ : qM} {r : qR} (h : aX8_hasChange l μ = some r) : qGood false base D ca cv 3 180 l μ r := by
  unfold aX8_hasChange at h
  split at h
  · exact gdX8_hasChange hcv h
  · cases h
noncomputable def fX8_aheadOf_4 : Nat → Nat → Int32 → Int32 → Int32 → qM → Option qR
  | 0 => fun _ _ _ _ _ => none
  | n + 1 => fun x0 x1 x2 x3 μ =>
    if (8 : Int32) ≤ x3 then
      some (x2, 0, μ)
    else
      if x3 = x1 then
        qbnd (fX8_flag (0 : Int32) μ) fun r1 =>
        fX8_aheadOf_4 n x0 x1 (x2 + r1.1) (x3 + (1 : Int32)) r1.2.2
      else
        qbnd (oLdI 20 μ x0 ((712 : Int32) + x1)) fun v2 =>
        qbnd (fX8_isIn x0 x3 v2 μ) fun r3 =>
        if r3.1 = 0 then
          qbnd (fX8_flag (0 : Int32) r3.2.2) fun r4 =>
          fX8_aheadOf_4 n x0 x1 (x2 + r4.1) (x3 + (1 : Int32)) r4.2.2
        else
          qbnd (fX8_isAhead x0 x3 x1 r3.2.2) fun r5 =>
          if r5.1 = 0 then
            qbnd (fX8_flag (0 : Int32) r5.2.2) fun r6 =>
            fX8_aheadOf_4 n x0 x1 (x2 + r6.1) (x3 + (1 : Int32)) r6.2.2
          else
            qbnd (fX8_flag (1 : Int32) r5.2.2) fun r7 =>
            fX8_aheadOf_4 n x0 x1 (x2 + r7.1) (x3 + (1 : Int32)) r7.2.2
noncomputable def fX8_aheadOf (a0 : Nat) (a1 : Int32) (μ : qM) : Option qR :=
  fX8_aheadOf_4 qfu a0 a1 (0 : Int32) (0 : Int32) μ
noncomputable def aX8_aheadOf (l : List Value) (μ : qM) : Option qR := match l with
  | [.ref x0, .int x1] => fX8_aheadOf x0 x1 μ
  | _ => none
noncomputable def cfX8_aheadOf : qF := fun n l μ => if n = 178 then aX8_isIn l μ else if n = 177 then aX8_isAhead l μ else if n = 143 then aX8_flag l μ else none
theorem hcX8_aheadOf {base : Nat} {D : va_G} {ca : Nat → ClassId} {cv : Nat → Value} (hcv : ∀ j, (cv j).category = 1) : ∀ M as μ r, cfX8_aheadOf M as μ = some r → qGood false base D ca cv 3 M as μ r := by
  intro M as μ r h
  unfold cfX8_aheadOf at h
  split at h
  · rename_i e; subst e; exact (gaX8_isIn hcv h).mono (by omega)
  split at h
  · rename_i e; subst e; exact (gaX8_isAhead hcv h).mono (by omega)
  split at h
  · rename_i e; subst e; exact (gaX8_flag hcv h).mono (by omega)
  cases h
def jX8_aheadOf_4 (f : Nat → Int32 → Int32 → Int32 → qM → Option qR) (L S : List Value) (μ : qM) : Option qR := match L, S with
  | [.ref x0, .int x1, .int x2, .int x3], [] => f x0 x1 x2 x3 μ
  | _, _ => none
theorem jeX8_aheadOf_4 {base : Nat} {D : va_G} {ca : Nat → ClassId} {cv : Nat → Value} {d : Nat} {f : Nat → Int32 → Int32 → Int32 → qM → Option qR} (hf : ∀ (x0 : Nat) (x1 : Int32) (x2 : Int32) (x3 : Int32) (μ : qM) (r : qR), f x0 x1 x2 x3 μ = some r → qEv false base D ca cv d 181 r 4 [.ref x0, .int x1, .int x2, .int x3] [] μ) {L S : List Value} {μ : qM} {r : qR} (h : jX8_aheadOf_4 f L S μ = some r) : qEv false base D ca cv d 181 r 4 L S μ := by
  unfold jX8_aheadOf_4 at h
  split at h
  · exact (hf _ _ _ _ _ _ h).le rfl ⟨Or.inr rfl, Or.inr rfl, Or.inr rfl, Or.inr rfl, trivial⟩
  · cases h
set_option maxRecDepth 100000 in
theorem lbX8_aheadOf_4 {base : Nat} {D : va_G} {ca : Nat → ClassId} {cv : Nat → Value} (hcv : ∀ j, (cv j).category = 1) : ∀ (n : Nat) (x0 : Nat) (x1 : Int32) (x2 : Int32) (x3 : Int32) (μ : qM) (r : qR), fX8_aheadOf_4 n x0 x1 x2 x3 μ = some r → qEv false base D ca cv 4 181 r 4 [.ref x0, .int x1, .int x2, .int x3] [] μ := by
  intro n
  induction n with
  | zero => intro x0 x1 x2 x3 μ r h; cases (show (none : Option qR) = some r from h)
  | succ n ih =>
    intro x0 x1 x2 x3 μ r h
    exact qblk_ev2 (cf := cfX8_aheadOf) (st := (fun n => qin [4] n)) (K := (fun pc L S μ => if pc = 4 then jX8_aheadOf_4 (fX8_aheadOf_4 n) L S μ else none)) (cd := qcX8_aheadOf) (M := 181) (d0 := 3) rfl qcok_X8_aheadOf (Nat.le_refl _) (hcX8_aheadOf hcv) (by
    intro pc L S μ r h
    split at h
    · rename_i e; subst e; exact jeX8_aheadOf_4 ih h
    cases h) 400 (pc := 4) (L := [.ref x0, .int x1, .int x2, .int x3]) (S := []) h
theorem npX8_aheadOf : (parseMethodDescriptor (qmy 181).desc).map (fun d => d.parameters.length) = some 2 := by decide +kernel
set_option maxRecDepth 100000 in
theorem gdX8_aheadOf {base : Nat} {D : va_G} {ca : Nat → ClassId} {cv : Nat → Value} (hcv : ∀ j, (cv j).category = 1) {a0 : Nat} {a1 : Int32} {μ : qM} {r : qR} (h : fX8_aheadOf a0 a1 μ = some r) : qGood false base D ca cv 4 181 [.ref a0, .int a1] μ r := by
  exact qgood_of (by decide) (by omega) hcv (Or.inl rfl) npX8_aheadOf rfl (Nat.le_of_ble_eq_true rfl) rfl (qblk_ev2 (cf := cfX8_aheadOf) (st := (fun n => qin [4] n)) (K := (fun pc L S μ => if pc = 4 then jX8_aheadOf_4 (fX8_aheadOf_4 qfu) L S μ else none)) (cd := qcX8_aheadOf) (M := 181) (d0 := 3) rfl qcok_X8_aheadOf (Nat.le_refl _) (hcX8_aheadOf hcv) (by
    intro pc L S μ r h
    split at h
    · rename_i e; subst e; exact jeX8_aheadOf_4 (lbX8_aheadOf_4 hcv qfu) h
    cases h) 400 (pc := 0) (L := qent [.ref a0, .int a1] 4) (S := []) h)
theorem gaX8_aheadOf {base : Nat} {D : va_G} {ca : Nat → ClassId} {cv : Nat → Value} (hcv : ∀ j, (cv j).category = 1) {l : List Value} {μ : qM} {r : qR} (h : aX8_aheadOf l μ = some r) : qGood false base D ca cv 4 181 l μ r := by
  unfold aX8_aheadOf at h
  split at h
  · exact gdX8_aheadOf hcv h
  · cases h
noncomputable def fX8_inQueue_2 : Nat → Nat → Int32 → Int32 → Int32 → qM → Option qR
  | 0 => fun _ _ _ _ _ => none
  | n + 1 => fun x0 x1 x2 x3 μ =>
    if (8 : Int32) ≤ x3 then
      some ((-1 : Int32), 0, μ)
    else
      qbnd (fX8_isIn x0 x3 x1 μ) fun r1 =>
      if r1.1 = 0 then
        fX8_inQueue_2 n x0 x1 x2 (x3 + (1 : Int32)) r1.2.2
      else
        qbnd (fX8_aheadOf x0 x3 r1.2.2) fun r2 =>
        if r2.1 = x2 then
          some (x3, 0, r2.2.2)
        else
          fX8_inQueue_2 n x0 x1 x2 (x3 + (1 : Int32)) r2.2.2
noncomputable def fX8_inQueue (a0 : Nat) (a1 : Int32) (a2 : Int32) (μ : qM) : Option qR :=
  fX8_inQueue_2 qfu a0 a1 a2 (0 : Int32) μ
noncomputable def aX8_inQueue (l : List Value) (μ : qM) : Option qR := match l with
  | [.ref x0, .int x1, .int x2] => fX8_inQueue x0 x1 x2 μ
  | _ => none
noncomputable def cfX8_inQueue : qF := fun n l μ => if n = 178 then aX8_isIn l μ else if n = 181 then aX8_aheadOf l μ else none
theorem hcX8_inQueue {base : Nat} {D : va_G} {ca : Nat → ClassId} {cv : Nat → Value} (hcv : ∀ j, (cv j).category = 1) : ∀ M as μ r, cfX8_inQueue M as μ = some r → qGood false base D ca cv 4 M as μ r := by
  intro M as μ r h
  unfold cfX8_inQueue at h
  split at h
  · rename_i e; subst e; exact (gaX8_isIn hcv h).mono (by omega)
  split at h
  · rename_i e; subst e; exact (gaX8_aheadOf hcv h).mono (by omega)
  cases h
def jX8_inQueue_2 (f : Nat → Int32 → Int32 → Int32 → qM → Option qR) (L S : List Value) (μ : qM) : Option qR := match L, S with
  | [.ref x0, .int x1, .int x2, .int x3], [] => f x0 x1 x2 x3 μ
  | _, _ => none
theorem jeX8_inQueue_2 {base : Nat} {D : va_G} {ca : Nat → ClassId} {cv : Nat → Value} {d : Nat} {f : Nat → Int32 → Int32 → Int32 → qM → Option qR} (hf : ∀ (x0 : Nat) (x1 : Int32) (x2 : Int32) (x3 : Int32) (μ : qM) (r : qR), f x0 x1 x2 x3 μ = some r → qEv false base D ca cv d 182 r 2 [.ref x0, .int x1, .int x2, .int x3] [] μ) {L S : List Value} {μ : qM} {r : qR} (h : jX8_inQueue_2 f L S μ = some r) : qEv false base D ca cv d 182 r 2 L S μ := by
  unfold jX8_inQueue_2 at h
  split at h
  · exact (hf _ _ _ _ _ _ h).le rfl ⟨Or.inr rfl, Or.inr rfl, Or.inr rfl, Or.inr rfl, trivial⟩
  · cases h
set_option maxRecDepth 100000 in
theorem lbX8_inQueue_2 {base : Nat} {D : va_G} {ca : Nat → ClassId} {cv : Nat → Value} (hcv : ∀ j, (cv j).category = 1) : ∀ (n : Nat) (x0 : Nat) (x1 : Int32) (x2 : Int32) (x3 : Int32) (μ : qM) (r : qR), fX8_inQueue_2 n x0 x1 x2 x3 μ = some r → qEv false base D ca cv 5 182 r 2 [.ref x0, .int x1, .int x2, .int x3] [] μ := by
  intro n
  induction n with
  | zero => intro x0 x1 x2 x3 μ r h; cases (show (none : Option qR) = some r from h)
  | succ n ih =>
    intro x0 x1 x2 x3 μ r h
    exact qblk_ev2 (cf := cfX8_inQueue) (st := (fun n => qin [2] n)) (K := (fun pc L S μ => if pc = 2 then jX8_inQueue_2 (fX8_inQueue_2 n) L S μ else none)) (cd := qcX8_inQueue) (M := 182) (d0 := 4) rfl qcok_X8_inQueue (Nat.le_refl _) (hcX8_inQueue hcv) (by
    intro pc L S μ r h
    split at h
    · rename_i e; subst e; exact jeX8_inQueue_2 ih h
    cases h) 400 (pc := 2) (L := [.ref x0, .int x1, .int x2, .int x3]) (S := []) h
theorem npX8_inQueue : (parseMethodDescriptor (qmy 182).desc).map (fun d => d.parameters.length) = some 3 := by decide +kernel
set_option maxRecDepth 100000 in
theorem gdX8_inQueue {base : Nat} {D : va_G} {ca : Nat → ClassId} {cv : Nat → Value} (hcv : ∀ j, (cv j).category = 1) {a0 : Nat} {a1 : Int32} {a2 : Int32} {μ : qM} {r : qR} (h : fX8_inQueue a0 a1 a2 μ = some r) : qGood false base D ca cv 5 182 [.ref a0, .int a1, .int a2] μ r := by
  exact qgood_of (by decide) (by omega) hcv (Or.inl rfl) npX8_inQueue rfl (Nat.le_of_ble_eq_true rfl) rfl (qblk_ev2 (cf := cfX8_inQueue) (st := (fun n => qin [2] n)) (K := (fun pc L S μ => if pc = 2 then jX8_inQueue_2 (fX8_inQueue_2 qfu) L S μ else none)) (cd := qcX8_inQueue) (M := 182) (d0 := 4) rfl qcok_X8_inQueue (Nat.le_refl _) (hcX8_inQueue hcv) (by
    intro pc L S μ r h
    split at h
    · rename_i e; subst e; exact jeX8_inQueue_2 (lbX8_inQueue_2 hcv qfu) h
    cases h) 400 (pc := 0) (L := qent [.ref a0, .int a1, .int a2] 4) (S := []) h)
theorem gaX8_inQueue {base : Nat} {D : va_G} {ca : Nat → ClassId} {cv : Nat → Value} (hcv : ∀ j, (cv j).category = 1) {l : List Value} {μ : qM} {r : qR} (h : aX8_inQueue l μ = some r) : qGood false base D ca cv 5 182 l μ r := by
  unfold aX8_inQueue at h
  split at h
  · exact gdX8_inQueue hcv h
  · cases h
noncomputable def fX8_goesWithOthers_4 : Nat → Nat → Int32 → Int32 → Int32 → Int32 → Int32 → qM → Option qR
  | 0 => fun _ _ _ _ _ _ _ => none
  | n + 1 => fun x0 x1 x2 x3 x4 x5 μ =>
    if (8 : Int32) ≤ x5 then
      if qnz x4 = x4 then some (x4, 0, μ) else none
    else
      if x4 = 0 then
        fX8_goesWithOthers_4 n x0 x1 x2 x3 (0 : Int32) (x5 + (1 : Int32)) μ
      else
        if x5 = x1 then
          fX8_goesWithOthers_4 n x0 x1 x2 x3 (1 : Int32) (x5 + (1 : Int32)) μ
        else
          qbnd (fX8_held x0 x5 x2 μ) fun r1 =>
          qbnd (fX8_together x3 r1.1 r1.2.2) fun r2 =>
          if r2.1 = 0 then
            fX8_goesWithOthers_4 n x0 x1 x2 x3 (0 : Int32) (x5 + (1 : Int32)) r2.2.2
          else
            fX8_goesWithOthers_4 n x0 x1 x2 x3 (1 : Int32) (x5 + (1 : Int32)) r2.2.2
noncomputable def fX8_goesWithOthers (a0 : Nat) (a1 : Int32) (a2 : Int32) (a3 : Int32) (μ : qM) : Option qR :=
  fX8_goesWithOthers_4 qfu a0 a1 a2 a3 (1 : Int32) (0 : Int32) μ
noncomputable def aX8_goesWithOthers (l : List Value) (μ : qM) : Option qR := match l with
  | [.ref x0, .int x1, .int x2, .int x3] => fX8_goesWithOthers x0 x1 x2 x3 μ
  | _ => none
noncomputable def cfX8_goesWithOthers : qF := fun n l μ => if n = 172 then aX8_held l μ else if n = 149 then aX8_together l μ else none
theorem hcX8_goesWithOthers {base : Nat} {D : va_G} {ca : Nat → ClassId} {cv : Nat → Value} (hcv : ∀ j, (cv j).category = 1) : ∀ M as μ r, cfX8_goesWithOthers M as μ = some r → qGood false base D ca cv 2 M as μ r := by
  intro M as μ r h
  unfold cfX8_goesWithOthers at h
  split at h
  · rename_i e; subst e; exact (gaX8_held hcv h).mono (by omega)
  split at h
  · rename_i e; subst e; exact (gaX8_together hcv h).mono (by omega)
  cases h
def jX8_goesWithOthers_4 (f : Nat → Int32 → Int32 → Int32 → Int32 → Int32 → qM → Option qR) (L S : List Value) (μ : qM) : Option qR := match L, S with
  | [.ref x0, .int x1, .int x2, .int x3, .int x4, .int x5], [] => f x0 x1 x2 x3 x4 x5 μ
  | _, _ => none
theorem jeX8_goesWithOthers_4 {base : Nat} {D : va_G} {ca : Nat → ClassId} {cv : Nat → Value} {d : Nat} {f : Nat → Int32 → Int32 → Int32 → Int32 → Int32 → qM → Option qR} (hf : ∀ (x0 : Nat) (x1 : Int32) (x2 : Int32) (x3 : Int32) (x4 : Int32) (x5 : Int32) (μ : qM) (r : qR), f x0 x1 x2 x3 x4 x5 μ = some r → qEv false base D ca cv d 183 r 4 [.ref x0, .int x1, .int x2, .int x3, .int x4, .int x5] [] μ) {L S : List Value} {μ : qM} {r : qR} (h : jX8_goesWithOthers_4 f L S μ = some r) : qEv false base D ca cv d 183 r 4 L S μ := by
  unfold jX8_goesWithOthers_4 at h
  split at h
  · exact (hf _ _ _ _ _ _ _ _ h).le rfl ⟨Or.inr rfl, Or.inr rfl, Or.inr rfl, Or.inr rfl, Or.inr rfl, Or.inr rfl, trivial⟩
  · cases h
set_option maxRecDepth 100000 in
theorem lbX8_goesWithOthers_4 {base : Nat} {D : va_G} {ca : Nat → ClassId} {cv : Nat → Value} (hcv : ∀ j, (cv j).category = 1) : ∀ (n : Nat) (x0 : Nat) (x1 : Int32) (x2 : Int32) (x3 : Int32) (x4 : Int32) (x5 : Int32) (μ : qM) (r : qR), fX8_goesWithOthers_4 n x0 x1 x2 x3 x4 x5 μ = some r → qEv false base D ca cv 3 183 r 4 [.ref x0, .int x1, .int x2, .int x3, .int x4, .int x5] [] μ := by
  intro n
  induction n with
  | zero => intro x0 x1 x2 x3 x4 x5 μ r h; cases (show (none : Option qR) = some r from h)
  | succ n ih =>
    intro x0 x1 x2 x3 x4 x5 μ r h
    exact qblk_ev2 (cf := cfX8_goesWithOthers) (st := (fun n => qin [4] n)) (K := (fun pc L S μ => if pc = 4 then jX8_goesWithOthers_4 (fX8_goesWithOthers_4 n) L S μ else none)) (cd := qcX8_goesWithOthers) (M := 183) (d0 := 2) rfl qcok_X8_goesWithOthers (Nat.le_refl _) (hcX8_goesWithOthers hcv) (by
    intro pc L S μ r h
    split at h
    · rename_i e; subst e; exact jeX8_goesWithOthers_4 ih h
    cases h) 400 (pc := 4) (L := [.ref x0, .int x1, .int x2, .int x3, .int x4, .int x5]) (S := []) h
theorem npX8_goesWithOthers : (parseMethodDescriptor (qmy 183).desc).map (fun d => d.parameters.length) = some 4 := by decide +kernel
set_option maxRecDepth 100000 in
theorem gdX8_goesWithOthers {base : Nat} {D : va_G} {ca : Nat → ClassId} {cv : Nat → Value} (hcv : ∀ j, (cv j).category = 1) {a0 : Nat} {a1 : Int32} {a2 : Int32} {a3 : Int32} {μ : qM} {r : qR} (h : fX8_goesWithOthers a0 a1 a2 a3 μ = some r) : qGood false base D ca cv 3 183 [.ref a0, .int a1, .int a2, .int a3] μ r := by
  exact qgood_of (by decide) (by omega) hcv (Or.inl rfl) npX8_goesWithOthers rfl (Nat.le_of_ble_eq_true rfl) rfl (qblk_ev2 (cf := cfX8_goesWithOthers) (st := (fun n => qin [4] n)) (K := (fun pc L S μ => if pc = 4 then jX8_goesWithOthers_4 (fX8_goesWithOthers_4 qfu) L S μ else none)) (cd := qcX8_goesWithOthers) (M := 183) (d0 := 2) rfl qcok_X8_goesWithOthers (Nat.le_refl _) (hcX8_goesWithOthers hcv) (by
    intro pc L S μ r h
    split at h
    · rename_i e; subst e; exact jeX8_goesWithOthers_4 (lbX8_goesWithOthers_4 hcv qfu) h
    cases h) 400 (pc := 0) (L := qent [.ref a0, .int a1, .int a2, .int a3] 6) (S := []) h)
theorem gaX8_goesWithOthers {base : Nat} {D : va_G} {ca : Nat → ClassId} {cv : Nat → Value} (hcv : ∀ j, (cv j).category = 1) {l : List Value} {μ : qM} {r : qR} (h : aX8_goesWithOthers l μ = some r) : qGood false base D ca cv 3 183 l μ r := by
  unfold aX8_goesWithOthers at h
  split at h
  · exact gdX8_goesWithOthers hcv h
  · cases h
noncomputable def fX8_waitsFor (a0 : Nat) (a1 : Int32) (a2 : Int32) (μ : qM) : Option qR :=
  if a1 = a2 then
    if qnz (0 : Int32) = (0 : Int32) then some ((0 : Int32), 0, μ) else none
  else
    qbnd (oLdI 20 μ a0 ((680 : Int32) + a1)) fun v1 =>
    if v1 = (2 : Int32) then
      qbnd (oLdI 20 μ a0 ((712 : Int32) + a1)) fun v2 =>
      qbnd (oLdI 20 μ a0 ((720 : Int32) + a1)) fun v3 =>
      qbnd (fX8_held a0 a2 v2 μ) fun r4 =>
      qbnd (fX8_together v3 r4.1 r4.2.2) fun r5 =>
      if r5.1 = 0 then
        if qnz (1 : Int32) = (1 : Int32) then some ((1 : Int32), 0, r5.2.2) else none
      else
        qbnd (fX8_isIn a0 a2 v2 r5.2.2) fun r6 =>
        if r6.1 = 0 then
          if qnz (0 : Int32) = (0 : Int32) then some ((0 : Int32), 0, r6.2.2) else none
        else
          qbnd (fX8_isAhead a0 a2 a1 r6.2.2) fun r7 =>
          if r7.1 = 0 then
            if qnz (0 : Int32) = (0 : Int32) then some ((0 : Int32), 0, r7.2.2) else none
          else
            if qnz (1 : Int32) = (1 : Int32) then some ((1 : Int32), 0, r7.2.2) else none
    else
      if qnz (0 : Int32) = (0 : Int32) then some ((0 : Int32), 0, μ) else none
noncomputable def aX8_waitsFor (l : List Value) (μ : qM) : Option qR := match l with
  | [.ref x0, .int x1, .int x2] => fX8_waitsFor x0 x1 x2 μ
  | _ => none
noncomputable def cfX8_waitsFor : qF := fun n l μ => if n = 172 then aX8_held l μ else if n = 149 then aX8_together l μ else if n = 178 then aX8_isIn l μ else if n = 177 then aX8_isAhead l μ else none
theorem hcX8_waitsFor {base : Nat} {D : va_G} {ca : Nat → ClassId} {cv : Nat → Value} (hcv : ∀ j, (cv j).category = 1) : ∀ M as μ r, cfX8_waitsFor M as μ = some r → qGood false base D ca cv 3 M as μ r := by
  intro M as μ r h
  unfold cfX8_waitsFor at h
  split at h
  · rename_i e; subst e; exact (gaX8_held hcv h).mono (by omega)
  split at h
  · rename_i e; subst e; exact (gaX8_together hcv h).mono (by omega)
  split at h
  · rename_i e; subst e; exact (gaX8_isIn hcv h).mono (by omega)
  split at h
  · rename_i e; subst e; exact (gaX8_isAhead hcv h).mono (by omega)
  cases h
theorem npX8_waitsFor : (parseMethodDescriptor (qmy 184).desc).map (fun d => d.parameters.length) = some 3 := by decide +kernel
set_option maxRecDepth 100000 in
theorem gdX8_waitsFor {base : Nat} {D : va_G} {ca : Nat → ClassId} {cv : Nat → Value} (hcv : ∀ j, (cv j).category = 1) {a0 : Nat} {a1 : Int32} {a2 : Int32} {μ : qM} {r : qR} (h : fX8_waitsFor a0 a1 a2 μ = some r) : qGood false base D ca cv 4 184 [.ref a0, .int a1, .int a2] μ r := by
  exact qgood_of (by decide) (by omega) hcv (Or.inl rfl) npX8_waitsFor rfl (Nat.le_of_ble_eq_true rfl) rfl (qblk_ev2 (cf := cfX8_waitsFor) (st := (fun n => qin [] n)) (K := (fun pc L S μ => none)) (cd := qcX8_waitsFor) (M := 184) (d0 := 3) rfl qcok_X8_waitsFor (Nat.le_refl _) (hcX8_waitsFor hcv) (by
    intro pc L S μ r h
    cases h) 400 (pc := 0) (L := qent [.ref a0, .int a1, .int a2] 4) (S := []) h)
theorem gaX8_waitsFor {base : Nat} {D : va_G} {ca : Nat → ClassId} {cv : Nat → Value} (hcv : ∀ j, (cv j).category = 1) {l : List Value} {μ : qM} {r : qR} (h : aX8_waitsFor l μ = some r) : qGood false base D ca cv 4 184 l μ r := by
  unfold aX8_waitsFor at h
  split at h
  · exact gdX8_waitsFor hcv h
  · cases h
noncomputable def fX8_behindOf_4 : Nat → Nat → Int32 → Int32 → Int32 → qM → Option qR
  | 0 => fun _ _ _ _ _ => none
  | n + 1 => fun x0 x1 x2 x3 μ =>
    if (8 : Int32) ≤ x3 then
      some (x2, 0, μ)
    else
      qbnd (fX8_waitsFor x0 x1 x3 μ) fun r1 =>
      if r1.1 = 0 then
        fX8_behindOf_4 n x0 x1 (x2 ||| (0 : Int32)) (x3 + (1 : Int32)) r1.2.2
      else
        fX8_behindOf_4 n x0 x1 (x2 ||| ((1 : Int32) <<< (x3 &&& 31))) (x3 + (1 : Int32)) r1.2.2
noncomputable def fX8_behindOf (a0 : Nat) (a1 : Int32) (μ : qM) : Option qR :=
  fX8_behindOf_4 qfu a0 a1 (0 : Int32) (0 : Int32) μ
noncomputable def aX8_behindOf (l : List Value) (μ : qM) : Option qR := match l with
  | [.ref x0, .int x1] => fX8_behindOf x0 x1 μ
  | _ => none
noncomputable def cfX8_behindOf : qF := fun n l μ => if n = 184 then aX8_waitsFor l μ else none
theorem hcX8_behindOf {base : Nat} {D : va_G} {ca : Nat → ClassId} {cv : Nat → Value} (hcv : ∀ j, (cv j).category = 1) : ∀ M as μ r, cfX8_behindOf M as μ = some r → qGood false base D ca cv 4 M as μ r := by
  intro M as μ r h
  unfold cfX8_behindOf at h
  split at h
  · rename_i e; subst e; exact (gaX8_waitsFor hcv h).mono (by omega)
  cases h
def jX8_behindOf_4 (f : Nat → Int32 → Int32 → Int32 → qM → Option qR) (L S : List Value) (μ : qM) : Option qR := match L, S with
  | [.ref x0, .int x1, .int x2, .int x3], [] => f x0 x1 x2 x3 μ
  | _, _ => none
theorem jeX8_behindOf_4 {base : Nat} {D : va_G} {ca : Nat → ClassId} {cv : Nat → Value} {d : Nat} {f : Nat → Int32 → Int32 → Int32 → qM → Option qR} (hf : ∀ (x0 : Nat) (x1 : Int32) (x2 : Int32) (x3 : Int32) (μ : qM) (r : qR), f x0 x1 x2 x3 μ = some r → qEv false base D ca cv d 185 r 4 [.ref x0, .int x1, .int x2, .int x3] [] μ) {L S : List Value} {μ : qM} {r : qR} (h : jX8_behindOf_4 f L S μ = some r) : qEv false base D ca cv d 185 r 4 L S μ := by
  unfold jX8_behindOf_4 at h
  split at h
  · exact (hf _ _ _ _ _ _ h).le rfl ⟨Or.inr rfl, Or.inr rfl, Or.inr rfl, Or.inr rfl, trivial⟩
  · cases h
set_option maxRecDepth 100000 in
theorem lbX8_behindOf_4 {base : Nat} {D : va_G} {ca : Nat → ClassId} {cv : Nat → Value} (hcv : ∀ j, (cv j).category = 1) : ∀ (n : Nat) (x0 : Nat) (x1 : Int32) (x2 : Int32) (x3 : Int32) (μ : qM) (r : qR), fX8_behindOf_4 n x0 x1 x2 x3 μ = some r → qEv false base D ca cv 5 185 r 4 [.ref x0, .int x1, .int x2, .int x3] [] μ := by
  intro n
  induction n with
  | zero => intro x0 x1 x2 x3 μ r h; cases (show (none : Option qR) = some r from h)
  | succ n ih =>
    intro x0 x1 x2 x3 μ r h
    exact qblk_ev2 (cf := cfX8_behindOf) (st := (fun n => qin [4] n)) (K := (fun pc L S μ => if pc = 4 then jX8_behindOf_4 (fX8_behindOf_4 n) L S μ else none)) (cd := qcX8_behindOf) (M := 185) (d0 := 4) rfl qcok_X8_behindOf (Nat.le_refl _) (hcX8_behindOf hcv) (by
    intro pc L S μ r h
    split at h
    · rename_i e; subst e; exact jeX8_behindOf_4 ih h
    cases h) 400 (pc := 4) (L := [.ref x0, .int x1, .int x2, .int x3]) (S := []) h
theorem npX8_behindOf : (parseMethodDescriptor (qmy 185).desc).map (fun d => d.parameters.length) = some 2 := by decide +kernel
set_option maxRecDepth 100000 in
theorem gdX8_behindOf {base : Nat} {D : va_G} {ca : Nat → ClassId} {cv : Nat → Value} (hcv : ∀ j, (cv j).category = 1) {a0 : Nat} {a1 : Int32} {μ : qM} {r : qR} (h : fX8_behindOf a0 a1 μ = some r) : qGood false base D ca cv 5 185 [.ref a0, .int a1] μ r := by
  exact qgood_of (by decide) (by omega) hcv (Or.inl rfl) npX8_behindOf rfl (Nat.le_of_ble_eq_true rfl) rfl (qblk_ev2 (cf := cfX8_behindOf) (st := (fun n => qin [4] n)) (K := (fun pc L S μ => if pc = 4 then jX8_behindOf_4 (fX8_behindOf_4 qfu) L S μ else none)) (cd := qcX8_behindOf) (M := 185) (d0 := 4) rfl qcok_X8_behindOf (Nat.le_refl _) (hcX8_behindOf hcv) (by
    intro pc L S μ r h
    split at h
    · rename_i e; subst e; exact jeX8_behindOf_4 (lbX8_behindOf_4 hcv qfu) h
    cases h) 400 (pc := 0) (L := qent [.ref a0, .int a1] 4) (S := []) h)
theorem gaX8_behindOf {base : Nat} {D : va_G} {ca : Nat → ClassId} {cv : Nat → Value} (hcv : ∀ j, (cv j).category = 1) {l : List Value} {μ : qM} {r : qR} (h : aX8_behindOf l μ = some r) : qGood false base D ca cv 5 185 l μ r := by
  unfold aX8_behindOf at h
  split at h
  · exact gdX8_behindOf hcv h
  · cases h
noncomputable def fX8_comesTo_11 (k6 : Nat → Int32 → Int32 → qM → Option qR) : Nat → Nat → Int32 → Int32 → Int32 → qM → Option qR
  | 0 => fun _ _ _ _ _ => none
  | n + 1 => fun x0 x2 x3 x4 μ =>
    if (8 : Int32) ≤ x4 then
      k6 x0 x2 (x3 + (1 : Int32)) μ
    else
      qbnd (fX8_has x2 x4 μ) fun r1 =>
      if r1.1 = 0 then
        fX8_comesTo_11 k6 n x0 (x2 ||| (0 : Int32)) x3 (x4 + (1 : Int32)) r1.2.2
      else
        qbnd (fX8_behindOf x0 x4 r1.2.2) fun r2 =>
        fX8_comesTo_11 k6 n x0 (x2 ||| r2.1) x3 (x4 + (1 : Int32)) r2.2.2
noncomputable def fX8_comesTo_6 : Nat → Nat → Int32 → Int32 → qM → Option qR
  | 0 => fun _ _ _ _ => none
  | n + 1 => fun x0 x2 x3 μ =>
    if (8 : Int32) ≤ x3 then
      some (x2, 0, μ)
    else
      fX8_comesTo_11 (fX8_comesTo_6 n) qfu x0 x2 x3 (0 : Int32) μ
noncomputable def fX8_comesTo (a0 : Nat) (a1 : Int32) (μ : qM) : Option qR :=
  qbnd (fX8_behindOf a0 a1 μ) fun r1 =>
  fX8_comesTo_6 qfu a0 r1.1 (0 : Int32) r1.2.2
noncomputable def aX8_comesTo (l : List Value) (μ : qM) : Option qR := match l with
  | [.ref x0, .int x1] => fX8_comesTo x0 x1 μ
  | _ => none
noncomputable def cfX8_comesTo : qF := fun n l μ => if n = 185 then aX8_behindOf l μ else if n = 142 then aX8_has l μ else none
theorem hcX8_comesTo {base : Nat} {D : va_G} {ca : Nat → ClassId} {cv : Nat → Value} (hcv : ∀ j, (cv j).category = 1) : ∀ M as μ r, cfX8_comesTo M as μ = some r → qGood false base D ca cv 5 M as μ r := by
  intro M as μ r h
  unfold cfX8_comesTo at h
  split at h
  · rename_i e; subst e; exact (gaX8_behindOf hcv h).mono (by omega)
  split at h
  · rename_i e; subst e; exact (gaX8_has hcv h).mono (by omega)
  cases h
def jX8_comesTo_6 (f : Nat → Int32 → Int32 → qM → Option qR) (L S : List Value) (μ : qM) : Option qR := match L, S with
  | [.ref x0, _, .int x2, .int x3, _], [] => f x0 x2 x3 μ
  | _, _ => none
theorem jeX8_comesTo_6 {base : Nat} {D : va_G} {ca : Nat → ClassId} {cv : Nat → Value} {d : Nat} {f : Nat → Int32 → Int32 → qM → Option qR} (hf : ∀ (x0 : Nat) (x2 : Int32) (x3 : Int32) (μ : qM) (r : qR), f x0 x2 x3 μ = some r → qEv false base D ca cv d 186 r 6 [.ref x0, .null, .int x2, .int x3, .null] [] μ) {L S : List Value} {μ : qM} {r : qR} (h : jX8_comesTo_6 f L S μ = some r) : qEv false base D ca cv d 186 r 6 L S μ := by
  unfold jX8_comesTo_6 at h
  split at h
  · exact (hf _ _ _ _ _ h).le rfl ⟨Or.inr rfl, Or.inl rfl, Or.inr rfl, Or.inr rfl, Or.inl rfl, trivial⟩
  · cases h
def jX8_comesTo_11 (f : Nat → Int32 → Int32 → Int32 → qM → Option qR) (L S : List Value) (μ : qM) : Option qR := match L, S with
  | [.ref x0, _, .int x2, .int x3, .int x4], [] => f x0 x2 x3 x4 μ
  | _, _ => none
theorem jeX8_comesTo_11 {base : Nat} {D : va_G} {ca : Nat → ClassId} {cv : Nat → Value} {d : Nat} {f : Nat → Int32 → Int32 → Int32 → qM → Option qR} (hf : ∀ (x0 : Nat) (x2 : Int32) (x3 : Int32) (x4 : Int32) (μ : qM) (r : qR), f x0 x2 x3 x4 μ = some r → qEv false base D ca cv d 186 r 11 [.ref x0, .null, .int x2, .int x3, .int x4] [] μ) {L S : List Value} {μ : qM} {r : qR} (h : jX8_comesTo_11 f L S μ = some r) : qEv false base D ca cv d 186 r 11 L S μ := by
  unfold jX8_comesTo_11 at h
  split at h
  · exact (hf _ _ _ _ _ _ h).le rfl ⟨Or.inr rfl, Or.inl rfl, Or.inr rfl, Or.inr rfl, Or.inr rfl, trivial⟩
  · cases h
set_option maxRecDepth 100000 in
theorem lbX8_comesTo_11 {base : Nat} {D : va_G} {ca : Nat → ClassId} {cv : Nat → Value} (hcv : ∀ j, (cv j).category = 1) {k6 : Nat → Int32 → Int32 → qM → Option qR} (hk6 : ∀ (y0 : Nat) (y2 : Int32) (y3 : Int32) (μ : qM) (r : qR), k6 y0 y2 y3 μ = some r → qEv false base D ca cv 6 186 r 6 [.ref y0, .null, .int y2, .int y3, .null] [] μ) : ∀ (n : Nat) (x0 : Nat) (x2 : Int32) (x3 : Int32) (x4 : Int32) (μ : qM) (r : qR), fX8_comesTo_11 k6 n x0 x2 x3 x4 μ = some r → qEv false base D ca cv 6 186 r 11 [.ref x0, .null, .int x2, .int x3, .int x4] [] μ := by
  intro n
  induction n with
  | zero => intro x0 x2 x3 x4 μ r h; cases (show (none : Option qR) = some r from h)
  | succ n ih =>
    intro x0 x2 x3 x4 μ r h
    exact qblk_ev2 (cf := cfX8_comesTo) (st := (fun n => qin [6, 11] n)) (K := (fun pc L S μ => if pc = 6 then jX8_comesTo_6 k6 L S μ else if pc = 11 then jX8_comesTo_11 (fX8_comesTo_11 k6 n) L S μ else none)) (cd := qcX8_comesTo) (M := 186) (d0 := 5) rfl qcok_X8_comesTo (Nat.le_refl _) (hcX8_comesTo hcv) (by
    intro pc L S μ r h
    split at h
    · rename_i e; subst e; exact jeX8_comesTo_6 hk6 h
    split at h
    · rename_i e; subst e; exact jeX8_comesTo_11 ih h
    cases h) 400 (pc := 11) (L := [.ref x0, .null, .int x2, .int x3, .int x4]) (S := []) h
set_option maxRecDepth 100000 in
theorem lbX8_comesTo_6 {base : Nat} {D : va_G} {ca : Nat → ClassId} {cv : Nat → Value} (hcv : ∀ j, (cv j).category = 1) : ∀ (n : Nat) (x0 : Nat) (x2 : Int32) (x3 : Int32) (μ : qM) (r : qR), fX8_comesTo_6 n x0 x2 x3 μ = some r → qEv false base D ca cv 6 186 r 6 [.ref x0, .null, .int x2, .int x3, .null] [] μ := by
  intro n
  induction n with
  | zero => intro x0 x2 x3 μ r h; cases (show (none : Option qR) = some r from h)
  | succ n ih =>
    intro x0 x2 x3 μ r h
    exact qblk_ev2 (cf := cfX8_comesTo) (st := (fun n => qin [6, 11] n)) (K := (fun pc L S μ => if pc = 11 then jX8_comesTo_11 (fX8_comesTo_11 (fX8_comesTo_6 n) qfu) L S μ else none)) (cd := qcX8_comesTo) (M := 186) (d0 := 5) rfl qcok_X8_comesTo (Nat.le_refl _) (hcX8_comesTo hcv) (by
    intro pc L S μ r h
    split at h
    · rename_i e; subst e; exact jeX8_comesTo_11 (lbX8_comesTo_11 hcv ih qfu) h
    cases h) 400 (pc := 6) (L := [.ref x0, .null, .int x2, .int x3, .null]) (S := []) h
theorem npX8_comesTo : (parseMethodDescriptor (qmy 186).desc).map (fun d => d.parameters.length) = some 2 := by decide +kernel
set_option maxRecDepth 100000 in
theorem gdX8_comesTo {base : Nat} {D : va_G} {ca : Nat → ClassId} {cv : Nat → Value} (hcv : ∀ j, (cv j).category = 1) {a0 : Nat} {a1 : Int32} {μ : qM} {r : qR} (h : fX8_comesTo a0 a1 μ = some r) : qGood false base D ca cv 6 186 [.ref a0, .int a1] μ r := by
  exact qgood_of (by decide) (by omega) hcv (Or.inl rfl) npX8_comesTo rfl (Nat.le_of_ble_eq_true rfl) rfl (qblk_ev2 (cf := cfX8_comesTo) (st := (fun n => qin [6, 11] n)) (K := (fun pc L S μ => if pc = 6 then jX8_comesTo_6 (fX8_comesTo_6 qfu) L S μ else none)) (cd := qcX8_comesTo) (M := 186) (d0 := 5) rfl qcok_X8_comesTo (Nat.le_refl _) (hcX8_comesTo hcv) (by
    intro pc L S μ r h
    split at h
    · rename_i e; subst e; exact jeX8_comesTo_6 (lbX8_comesTo_6 hcv qfu) h
    cases h) 400 (pc := 0) (L := qent [.ref a0, .int a1] 5) (S := []) h)
theorem gaX8_comesTo {base : Nat} {D : va_G} {ca : Nat → ClassId} {cv : Nat → Value} (hcv : ∀ j, (cv j).category = 1) {l : List Value} {μ : qM} {r : qR} (h : aX8_comesTo l μ = some r) : qGood false base D ca cv 6 186 l μ r := by
  unfold aX8_comesTo at h
  split at h
  · exact gdX8_comesTo hcv h
  · cases h
noncomputable def fX8_ringed_4 : Nat → Nat → Int32 → Int32 → qM → Option qR
  | 0 => fun _ _ _ _ => none
  | n + 1 => fun x0 x1 x2 μ =>
    if (8 : Int32) ≤ x2 then
      some (x1, 0, μ)
    else
      qbnd (fX8_comesTo x0 x2 μ) fun r1 =>
      qbnd (fX8_has r1.1 x2 r1.2.2) fun r2 =>
      if r2.1 = 0 then
        fX8_ringed_4 n x0 (x1 ||| (0 : Int32)) (x2 + (1 : Int32)) r2.2.2
      else
        fX8_ringed_4 n x0 (x1 ||| ((1 : Int32) <<< (x2 &&& 31))) (x2 + (1 : Int32)) r2.2.2
noncomputable def fX8_ringed (a0 : Nat) (μ : qM) : Option qR :=
  fX8_ringed_4 qfu a0 (0 : Int32) (0 : Int32) μ
noncomputable def aX8_ringed (l : List Value) (μ : qM) : Option qR := match l with
  | [.ref x0] => fX8_ringed x0 μ
  | _ => none
noncomputable def cfX8_ringed : qF := fun n l μ => if n = 186 then aX8_comesTo l μ else if n = 142 then aX8_has l μ else none
theorem hcX8_ringed {base : Nat} {D : va_G} {ca : Nat → ClassId} {cv : Nat → Value} (hcv : ∀ j, (cv j).category = 1) : ∀ M as μ r, cfX8_ringed M as μ = some r → qGood false base D ca cv 6 M as μ r := by
  intro M as μ r h
  unfold cfX8_ringed at h
  split at h
  · rename_i e; subst e; exact (gaX8_comesTo hcv h).mono (by omega)
  split at h
  · rename_i e; subst e; exact (gaX8_has hcv h).mono (by omega)
  cases h
def jX8_ringed_4 (f : Nat → Int32 → Int32 → qM → Option qR) (L S : List Value) (μ : qM) : Option qR := match L, S with
  | [.ref x0, .int x1, .int x2], [] => f x0 x1 x2 μ
  | _, _ => none
theorem jeX8_ringed_4 {base : Nat} {D : va_G} {ca : Nat → ClassId} {cv : Nat → Value} {d : Nat} {f : Nat → Int32 → Int32 → qM → Option qR} (hf : ∀ (x0 : Nat) (x1 : Int32) (x2 : Int32) (μ : qM) (r : qR), f x0 x1 x2 μ = some r → qEv false base D ca cv d 187 r 4 [.ref x0, .int x1, .int x2] [] μ) {L S : List Value} {μ : qM} {r : qR} (h : jX8_ringed_4 f L S μ = some r) : qEv false base D ca cv d 187 r 4 L S μ := by
  unfold jX8_ringed_4 at h
  split at h
  · exact (hf _ _ _ _ _ h).le rfl ⟨Or.inr rfl, Or.inr rfl, Or.inr rfl, trivial⟩
  · cases h
set_option maxRecDepth 100000 in
theorem lbX8_ringed_4 {base : Nat} {D : va_G} {ca : Nat → ClassId} {cv : Nat → Value} (hcv : ∀ j, (cv j).category = 1) : ∀ (n : Nat) (x0 : Nat) (x1 : Int32) (x2 : Int32) (μ : qM) (r : qR), fX8_ringed_4 n x0 x1 x2 μ = some r → qEv false base D ca cv 7 187 r 4 [.ref x0, .int x1, .int x2] [] μ := by
  intro n
  induction n with
  | zero => intro x0 x1 x2 μ r h; cases (show (none : Option qR) = some r from h)
  | succ n ih =>
    intro x0 x1 x2 μ r h
    exact qblk_ev2 (cf := cfX8_ringed) (st := (fun n => qin [4] n)) (K := (fun pc L S μ => if pc = 4 then jX8_ringed_4 (fX8_ringed_4 n) L S μ else none)) (cd := qcX8_ringed) (M := 187) (d0 := 6) rfl qcok_X8_ringed (Nat.le_refl _) (hcX8_ringed hcv) (by
    intro pc L S μ r h
    split at h
    · rename_i e; subst e; exact jeX8_ringed_4 ih h
    cases h) 400 (pc := 4) (L := [.ref x0, .int x1, .int x2]) (S := []) h
theorem npX8_ringed : (parseMethodDescriptor (qmy 187).desc).map (fun d => d.parameters.length) = some 1 := by decide +kernel
set_option maxRecDepth 100000 in
theorem gdX8_ringed {base : Nat} {D : va_G} {ca : Nat → ClassId} {cv : Nat → Value} (hcv : ∀ j, (cv j).category = 1) {a0 : Nat} {μ : qM} {r : qR} (h : fX8_ringed a0 μ = some r) : qGood false base D ca cv 7 187 [.ref a0] μ r := by
  exact qgood_of (by decide) (by omega) hcv (Or.inl rfl) npX8_ringed rfl (Nat.le_of_ble_eq_true rfl) rfl (qblk_ev2 (cf := cfX8_ringed) (st := (fun n => qin [4] n)) (K := (fun pc L S μ => if pc = 4 then jX8_ringed_4 (fX8_ringed_4 qfu) L S μ else none)) (cd := qcX8_ringed) (M := 187) (d0 := 6) rfl qcok_X8_ringed (Nat.le_refl _) (hcX8_ringed hcv) (by
    intro pc L S μ r h
    split at h
    · rename_i e; subst e; exact jeX8_ringed_4 (lbX8_ringed_4 hcv qfu) h
    cases h) 400 (pc := 0) (L := qent [.ref a0] 3) (S := []) h)
theorem gaX8_ringed {base : Nat} {D : va_G} {ca : Nat → ClassId} {cv : Nat → Value} (hcv : ∀ j, (cv j).category = 1) {l : List Value} {μ : qM} {r : qR} (h : aX8_ringed l μ = some r) : qGood false base D ca cv 7 187 l μ r := by
  unfold aX8_ringed at h
  split at h
  · exact gdX8_ringed hcv h
  · cases h
noncomputable def fX8_waitersOf_4 : Nat → Nat → Int32 → Int32 → Int32 → qM → Option qR
  | 0 => fun _ _ _ _ _ => none
  | n + 1 => fun x0 x1 x2 x3 μ =>
    if (8 : Int32) ≤ x3 then
      some (x2, 0, μ)
    else
      qbnd (fX8_waitsFor x0 x3 x1 μ) fun r1 =>
      qbnd (fX8_flag r1.1 r1.2.2) fun r2 =>
      fX8_waitersOf_4 n x0 x1 (x2 + r2.1) (x3 + (1 : Int32)) r2.2.2
noncomputable def fX8_waitersOf (a0 : Nat) (a1 : Int32) (μ : qM) : Option qR :=
  fX8_waitersOf_4 qfu a0 a1 (0 : Int32) (0 : Int32) μ
noncomputable def aX8_waitersOf (l : List Value) (μ : qM) : Option qR := match l with
  | [.ref x0, .int x1] => fX8_waitersOf x0 x1 μ
  | _ => none
noncomputable def cfX8_waitersOf : qF := fun n l μ => if n = 184 then aX8_waitsFor l μ else if n = 143 then aX8_flag l μ else none
theorem hcX8_waitersOf {base : Nat} {D : va_G} {ca : Nat → ClassId} {cv : Nat → Value} (hcv : ∀ j, (cv j).category = 1) : ∀ M as μ r, cfX8_waitersOf M as μ = some r → qGood false base D ca cv 4 M as μ r := by
  intro M as μ r h
  unfold cfX8_waitersOf at h
  split at h
  · rename_i e; subst e; exact (gaX8_waitsFor hcv h).mono (by omega)
  split at h
  · rename_i e; subst e; exact (gaX8_flag hcv h).mono (by omega)
  cases h
def jX8_waitersOf_4 (f : Nat → Int32 → Int32 → Int32 → qM → Option qR) (L S : List Value) (μ : qM) : Option qR := match L, S with
  | [.ref x0, .int x1, .int x2, .int x3], [] => f x0 x1 x2 x3 μ
  | _, _ => none
theorem jeX8_waitersOf_4 {base : Nat} {D : va_G} {ca : Nat → ClassId} {cv : Nat → Value} {d : Nat} {f : Nat → Int32 → Int32 → Int32 → qM → Option qR} (hf : ∀ (x0 : Nat) (x1 : Int32) (x2 : Int32) (x3 : Int32) (μ : qM) (r : qR), f x0 x1 x2 x3 μ = some r → qEv false base D ca cv d 188 r 4 [.ref x0, .int x1, .int x2, .int x3] [] μ) {L S : List Value} {μ : qM} {r : qR} (h : jX8_waitersOf_4 f L S μ = some r) : qEv false base D ca cv d 188 r 4 L S μ := by
  unfold jX8_waitersOf_4 at h
  split at h
  · exact (hf _ _ _ _ _ _ h).le rfl ⟨Or.inr rfl, Or.inr rfl, Or.inr rfl, Or.inr rfl, trivial⟩
  · cases h
set_option maxRecDepth 100000 in
theorem lbX8_waitersOf_4 {base : Nat} {D : va_G} {ca : Nat → ClassId} {cv : Nat → Value} (hcv : ∀ j, (cv j).category = 1) : ∀ (n : Nat) (x0 : Nat) (x1 : Int32) (x2 : Int32) (x3 : Int32) (μ : qM) (r : qR), fX8_waitersOf_4 n x0 x1 x2 x3 μ = some r → qEv false base D ca cv 5 188 r 4 [.ref x0, .int x1, .int x2, .int x3] [] μ := by
  intro n
  induction n with
  | zero => intro x0 x1 x2 x3 μ r h; cases (show (none : Option qR) = some r from h)
  | succ n ih =>
    intro x0 x1 x2 x3 μ r h
    exact qblk_ev2 (cf := cfX8_waitersOf) (st := (fun n => qin [4] n)) (K := (fun pc L S μ => if pc = 4 then jX8_waitersOf_4 (fX8_waitersOf_4 n) L S μ else none)) (cd := qcX8_waitersOf) (M := 188) (d0 := 4) rfl qcok_X8_waitersOf (Nat.le_refl _) (hcX8_waitersOf hcv) (by
    intro pc L S μ r h
    split at h
    · rename_i e; subst e; exact jeX8_waitersOf_4 ih h
    cases h) 400 (pc := 4) (L := [.ref x0, .int x1, .int x2, .int x3]) (S := []) h
theorem npX8_waitersOf : (parseMethodDescriptor (qmy 188).desc).map (fun d => d.parameters.length) = some 2 := by decide +kernel
set_option maxRecDepth 100000 in
theorem gdX8_waitersOf {base : Nat} {D : va_G} {ca : Nat → ClassId} {cv : Nat → Value} (hcv : ∀ j, (cv j).category = 1) {a0 : Nat} {a1 : Int32} {μ : qM} {r : qR} (h : fX8_waitersOf a0 a1 μ = some r) : qGood false base D ca cv 5 188 [.ref a0, .int a1] μ r := by
  exact qgood_of (by decide) (by omega) hcv (Or.inl rfl) npX8_waitersOf rfl (Nat.le_of_ble_eq_true rfl) rfl (qblk_ev2 (cf := cfX8_waitersOf) (st := (fun n => qin [4] n)) (K := (fun pc L S μ => if pc = 4 then jX8_waitersOf_4 (fX8_waitersOf_4 qfu) L S μ else none)) (cd := qcX8_waitersOf) (M := 188) (d0 := 4) rfl qcok_X8_waitersOf (Nat.le_refl _) (hcX8_waitersOf hcv) (by
    intro pc L S μ r h
    split at h
    · rename_i e; subst e; exact jeX8_waitersOf_4 (lbX8_waitersOf_4 hcv qfu) h
    cases h) 400 (pc := 0) (L := qent [.ref a0, .int a1] 4) (S := []) h)
theorem gaX8_waitersOf {base : Nat} {D : va_G} {ca : Nat → ClassId} {cv : Nat → Value} (hcv : ∀ j, (cv j).category = 1) {l : List Value} {μ : qM} {r : qR} (h : aX8_waitersOf l μ = some r) : qGood false base D ca cv 5 188 l μ r := by
  unfold aX8_waitersOf at h
  split at h
  · exact gdX8_waitersOf hcv h
  · cases h
noncomputable def gX8_cost (a0 : Nat) (a1 : Nat) (a2 : Int32) (μ : qM) : Option qR :=
  qbnd (oGetP μ 8 a0 13) fun v1 =>
  qbnd (oLdI 20 μ a1 ((696 : Int32) + a2)) fun v2 =>
  qbnd (oStI 20 μ v1 (0 : Int32) v2) fun μ3 =>
  qbnd (oGetP μ3 8 a0 13) fun v4 =>
  qbnd (fX8_heldMany a1 a2 μ3) fun r5 =>
  qbnd (oStI 20 r5.2.2 v4 (1 : Int32) r5.1) fun μ6 =>
  qbnd (oGetP μ6 8 a0 13) fun v7 =>
  qbnd (oLdI 20 μ6 a1 ((688 : Int32) + a2)) fun v8 =>
  qbnd (oStI 20 μ6 v7 (2 : Int32) v8) fun μ9 =>
  qbnd (oGetP μ9 8 a0 13) fun v10 =>
  qbnd (oLdI 20 μ9 a1 ((704 : Int32) + a2)) fun v11 =>
  qbnd (oStI 20 μ9 v10 (3 : Int32) v11) fun μ12 =>
  qbnd (oGetP μ12 8 a0 13) fun v13 =>
  qbnd (oStI 20 μ12 v13 (4 : Int32) a2) fun μ14 =>
  qbnd (oGetP μ14 8 a0 13) fun v15 =>
  qbnd (fX8_waitersOf a1 a2 μ14) fun r16 =>
  qbnd (oStI 20 r16.2.2 v15 (5 : Int32) r16.1) fun μ17 =>
  qbnd (oGetP μ17 8 a0 13) fun v18 =>
  qbnd (fX8_aloneMany a1 a2 μ17) fun r19 =>
  qbnd (oStI 20 r19.2.2 v18 (6 : Int32) r19.1) fun μ20 =>
  qbnd (fX8_ruled a0 μ20) fun r21 =>
  some (r21.1, 0, r21.2.2)
noncomputable def fX8_cost (a0 : Nat) (a1 : Nat) (a2 : Int32) (μ : qM) : Option qR := if (qk μ a0).1 = 8 then gX8_cost a0 a1 a2 μ else none
noncomputable def aX8_cost (l : List Value) (μ : qM) : Option qR := match l with
  | [.ref x0, .ref x1, .int x2] => fX8_cost x0 x1 x2 μ
  | _ => none
noncomputable def cfX8_cost : qF := fun n l μ => if n = 173 then aX8_heldMany l μ else if n = 188 then aX8_waitersOf l μ else if n = 174 then aX8_aloneMany l μ else if n = 169 then aX8_ruled l μ else none
theorem hcX8_cost {base : Nat} {D : va_G} {ca : Nat → ClassId} {cv : Nat → Value} (hcv : ∀ j, (cv j).category = 1) : ∀ M as μ r, cfX8_cost M as μ = some r → qGood false base D ca cv 5 M as μ r := by
  intro M as μ r h
  unfold cfX8_cost at h
  split at h
  · rename_i e; subst e; exact (gaX8_heldMany hcv h).mono (by omega)
  split at h
  · rename_i e; subst e; exact (gaX8_waitersOf hcv h).mono (by omega)
  split at h
  · rename_i e; subst e; exact (gaX8_aloneMany hcv h).mono (by omega)
  split at h
  · rename_i e; subst e; exact (gaX8_ruled hcv h).mono (by omega)
  cases h
theorem npX8_cost : (parseMethodDescriptor (qmy 189).desc).map (fun d => d.parameters.length) = some 2 := by decide +kernel
set_option maxRecDepth 100000 in
theorem gdX8_cost {base : Nat} {D : va_G} {ca : Nat → ClassId} {cv : Nat → Value} (hcv : ∀ j, (cv j).category = 1) {a0 : Nat} {a1 : Nat} {a2 : Int32} {μ : qM} {r : qR} (h : fX8_cost a0 a1 a2 μ = some r) : qGood false base D ca cv 6 189 [.ref a0, .ref a1, .int a2] μ r := by
  unfold fX8_cost at h
  split at h
  · rename_i hk0
    exact qgood_of (by decide) (by omega) hcv (Or.inr ⟨by decide +kernel, hk0⟩) npX8_cost rfl (Nat.le_of_ble_eq_true rfl) rfl (qblk_ev2 (cf := cfX8_cost) (st := (fun n => qin [] n)) (K := (fun pc L S μ => none)) (cd := qcX8_cost) (M := 189) (d0 := 5) rfl qcok_X8_cost (Nat.le_refl _) (hcX8_cost hcv) (by
    intro pc L S μ r h
    cases h) 400 (pc := 0) (L := qent [.ref a0, .ref a1, .int a2] 3) (S := []) h)
  · cases h
theorem gaX8_cost {base : Nat} {D : va_G} {ca : Nat → ClassId} {cv : Nat → Value} (hcv : ∀ j, (cv j).category = 1) {l : List Value} {μ : qM} {r : qR} (h : aX8_cost l μ = some r) : qGood false base D ca cv 6 189 l μ r := by
  unfold aX8_cost at h
  split at h
  · exact gdX8_cost hcv h
  · cases h
noncomputable def fX8_holdsNow (a0 : Nat) (a1 : Int32) (a2 : Int32) (a3 : Int32) (μ : qM) : Option qR :=
  qbnd (oStI 20 μ a0 (((85 : Int32) * a1) + a2) a3) fun μ1 =>
  some (0, 0, μ1)
noncomputable def aX8_holdsNow (l : List Value) (μ : qM) : Option qR := match l with
  | [.ref x0, .int x1, .int x2, .int x3] => fX8_holdsNow x0 x1 x2 x3 μ
  | _ => none
noncomputable def cfX8_holdsNow : qF := fun n l μ => none
theorem hcX8_holdsNow {base : Nat} {D : va_G} {ca : Nat → ClassId} {cv : Nat → Value} (hcv : ∀ j, (cv j).category = 1) : ∀ M as μ r, cfX8_holdsNow M as μ = some r → qGood false base D ca cv 0 M as μ r := by
  intro M as μ r h
  cases h
theorem npX8_holdsNow : (parseMethodDescriptor (qmy 190).desc).map (fun d => d.parameters.length) = some 4 := by decide +kernel
set_option maxRecDepth 100000 in
theorem gdX8_holdsNow {base : Nat} {D : va_G} {ca : Nat → ClassId} {cv : Nat → Value} (hcv : ∀ j, (cv j).category = 1) {a0 : Nat} {a1 : Int32} {a2 : Int32} {a3 : Int32} {μ : qM} {r : qR} (h : fX8_holdsNow a0 a1 a2 a3 μ = some r) : qGood false base D ca cv 1 190 [.ref a0, .int a1, .int a2, .int a3] μ r := by
  exact qgood_of (by decide) (by omega) hcv (Or.inl rfl) npX8_holdsNow rfl (Nat.le_of_ble_eq_true rfl) rfl (qblk_ev2 (cf := cfX8_holdsNow) (st := (fun n => qin [] n)) (K := (fun pc L S μ => none)) (cd := qcX8_holdsNow) (M := 190) (d0 := 0) rfl qcok_X8_holdsNow (Nat.le_refl _) (hcX8_holdsNow hcv) (by
    intro pc L S μ r h
    cases h) 400 (pc := 0) (L := qent [.ref a0, .int a1, .int a2, .int a3] 4) (S := []) h)
theorem gaX8_holdsNow {base : Nat} {D : va_G} {ca : Nat → ClassId} {cv : Nat → Value} (hcv : ∀ j, (cv j).category = 1) {l : List Value} {μ : qM} {r : qR} (h : aX8_holdsNow l μ = some r) : qGood false base D ca cv 1 190 l μ r := by
  unfold aX8_holdsNow at h
  split at h
  · exact gdX8_holdsNow hcv h
  · cases h
noncomputable def fX8_isShared (a0 : Int32) (μ : qM) : Option qR :=
  if a0 = (1 : Int32) then
    if qnz (1 : Int32) = (1 : Int32) then some ((1 : Int32), 0, μ) else none
  else
    if a0 = (3 : Int32) then
      if qnz (1 : Int32) = (1 : Int32) then some ((1 : Int32), 0, μ) else none
    else
      if qnz (0 : Int32) = (0 : Int32) then some ((0 : Int32), 0, μ) else none
noncomputable def aX8_isShared (l : List Value) (μ : qM) : Option qR := match l with
  | [.int x0] => fX8_isShared x0 μ
  | _ => none
noncomputable def cfX8_isShared : qF := fun n l μ => none
theorem hcX8_isShared {base : Nat} {D : va_G} {ca : Nat → ClassId} {cv : Nat → Value} (hcv : ∀ j, (cv j).category = 1) : ∀ M as μ r, cfX8_isShared M as μ = some r → qGood false base D ca cv 0 M as μ r := by
  intro M as μ r h
  cases h
theorem npX8_isShared : (parseMethodDescriptor (qmy 191).desc).map (fun d => d.parameters.length) = some 1 := by decide +kernel
set_option maxRecDepth 100000 in
theorem gdX8_isShared {base : Nat} {D : va_G} {ca : Nat → ClassId} {cv : Nat → Value} (hcv : ∀ j, (cv j).category = 1) {a0 : Int32} {μ : qM} {r : qR} (h : fX8_isShared a0 μ = some r) : qGood false base D ca cv 1 191 [.int a0] μ r := by
  exact qgood_of (by decide) (by omega) hcv (Or.inl rfl) npX8_isShared rfl (Nat.le_of_ble_eq_true rfl) rfl (qblk_ev2 (cf := cfX8_isShared) (st := (fun n => qin [] n)) (K := (fun pc L S μ => none)) (cd := qcX8_isShared) (M := 191) (d0 := 0) rfl qcok_X8_isShared (Nat.le_refl _) (hcX8_isShared hcv) (by
    intro pc L S μ r h
    cases h) 400 (pc := 0) (L := qent [.int a0] 1) (S := []) h)
theorem gaX8_isShared {base : Nat} {D : va_G} {ca : Nat → ClassId} {cv : Nat → Value} (hcv : ∀ j, (cv j).category = 1) {l : List Value} {μ : qM} {r : qR} (h : aX8_isShared l μ = some r) : qGood false base D ca cv 1 191 l μ r := by
  unfold aX8_isShared at h
  split at h
  · exact gdX8_isShared hcv h
  · cases h
noncomputable def fX8_wanted (a0 : Nat) (a1 : Int32) (a2 : Int32) (a3 : Int32) (μ : qM) : Option qR :=
  qbnd (fX8_held a0 a1 a2 μ) fun r1 =>
  qbnd (fX8_both a3 r1.1 r1.2.2) fun r2 =>
  some (r2.1, 0, r2.2.2)
noncomputable def aX8_wanted (l : List Value) (μ : qM) : Option qR := match l with
  | [.ref x0, .int x1, .int x2, .int x3] => fX8_wanted x0 x1 x2 x3 μ
  | _ => none
noncomputable def cfX8_wanted : qF := fun n l μ => if n = 172 then aX8_held l μ else if n = 150 then aX8_both l μ else none
theorem hcX8_wanted {base : Nat} {D : va_G} {ca : Nat → ClassId} {cv : Nat → Value} (hcv : ∀ j, (cv j).category = 1) : ∀ M as μ r, cfX8_wanted M as μ = some r → qGood false base D ca cv 2 M as μ r := by
  intro M as μ r h
  unfold cfX8_wanted at h
  split at h
  · rename_i e; subst e; exact (gaX8_held hcv h).mono (by omega)
  split at h
  · rename_i e; subst e; exact (gaX8_both hcv h).mono (by omega)
  cases h
theorem npX8_wanted : (parseMethodDescriptor (qmy 192).desc).map (fun d => d.parameters.length) = some 4 := by decide +kernel
set_option maxRecDepth 100000 in
theorem gdX8_wanted {base : Nat} {D : va_G} {ca : Nat → ClassId} {cv : Nat → Value} (hcv : ∀ j, (cv j).category = 1) {a0 : Nat} {a1 : Int32} {a2 : Int32} {a3 : Int32} {μ : qM} {r : qR} (h : fX8_wanted a0 a1 a2 a3 μ = some r) : qGood false base D ca cv 3 192 [.ref a0, .int a1, .int a2, .int a3] μ r := by
  exact qgood_of (by decide) (by omega) hcv (Or.inl rfl) npX8_wanted rfl (Nat.le_of_ble_eq_true rfl) rfl (qblk_ev2 (cf := cfX8_wanted) (st := (fun n => qin [] n)) (K := (fun pc L S μ => none)) (cd := qcX8_wanted) (M := 192) (d0 := 2) rfl qcok_X8_wanted (Nat.le_refl _) (hcX8_wanted hcv) (by
    intro pc L S μ r h
    cases h) 400 (pc := 0) (L := qent [.ref a0, .int a1, .int a2, .int a3] 4) (S := []) h)
theorem gaX8_wanted {base : Nat} {D : va_G} {ca : Nat → ClassId} {cv : Nat → Value} (hcv : ∀ j, (cv j).category = 1) {l : List Value} {μ : qM} {r : qR} (h : aX8_wanted l μ = some r) : qGood false base D ca cv 3 192 l μ r := by
  unfold aX8_wanted at h
  split at h
  · exact gdX8_wanted hcv h
  · cases h
noncomputable def fX8_isGranted_27 (x0 : Nat) (x1 : Int32) (x2 : Int32) (x4 : Int32) (μ : qM) : Option qR :=
  qbnd (fX8_goesWithOthers x0 x1 x2 x4 μ) fun r1 =>
  if r1.1 = 0 then
    if qnz (0 : Int32) = (0 : Int32) then some ((0 : Int32), 0, r1.2.2) else none
  else
    if qnz (1 : Int32) = (1 : Int32) then some ((1 : Int32), 0, r1.2.2) else none
noncomputable def fX8_isGranted (a0 : Nat) (a1 : Int32) (a2 : Int32) (a3 : Int32) (μ : qM) : Option qR :=
  qbnd (fX8_wanted a0 a1 a2 a3 μ) fun r1 =>
  qbnd (fX8_held a0 a1 a2 r1.2.2) fun r2 =>
  if r2.1 = r1.1 then
    if qnz (1 : Int32) = (1 : Int32) then some ((1 : Int32), 0, r2.2.2) else none
  else
    if r2.1 ≤ 0 then
      qbnd (fX8_queued a0 a2 r2.2.2) fun r3 =>
      if r3.1 = 0 then
        fX8_isGranted_27 a0 a1 a2 r1.1 r3.2.2
      else
        if qnz (0 : Int32) = (0 : Int32) then some ((0 : Int32), 0, r3.2.2) else none
    else
      qbnd (fX8_hasChange a0 a2 r2.2.2) fun r4 =>
      if r4.1 = 0 then
        fX8_isGranted_27 a0 a1 a2 r1.1 r4.2.2
      else
        if qnz (0 : Int32) = (0 : Int32) then some ((0 : Int32), 0, r4.2.2) else none
noncomputable def aX8_isGranted (l : List Value) (μ : qM) : Option qR := match l with
  | [.ref x0, .int x1, .int x2, .int x3] => fX8_isGranted x0 x1 x2 x3 μ
  | _ => none
noncomputable def cfX8_isGranted : qF := fun n l μ => if n = 192 then aX8_wanted l μ else if n = 172 then aX8_held l μ else if n = 180 then aX8_hasChange l μ else if n = 179 then aX8_queued l μ else if n = 183 then aX8_goesWithOthers l μ else none
theorem hcX8_isGranted {base : Nat} {D : va_G} {ca : Nat → ClassId} {cv : Nat → Value} (hcv : ∀ j, (cv j).category = 1) : ∀ M as μ r, cfX8_isGranted M as μ = some r → qGood false base D ca cv 3 M as μ r := by
  intro M as μ r h
  unfold cfX8_isGranted at h
  split at h
  · rename_i e; subst e; exact (gaX8_wanted hcv h).mono (by omega)
  split at h
  · rename_i e; subst e; exact (gaX8_held hcv h).mono (by omega)
  split at h
  · rename_i e; subst e; exact (gaX8_hasChange hcv h).mono (by omega)
  split at h
  · rename_i e; subst e; exact (gaX8_queued hcv h).mono (by omega)
  split at h
  · rename_i e; subst e; exact (gaX8_goesWithOthers hcv h).mono (by omega)
  cases h
def jX8_isGranted_27 (f : Nat → Int32 → Int32 → Int32 → qM → Option qR) (L S : List Value) (μ : qM) : Option qR := match L, S with
  | [.ref x0, .int x1, .int x2, _, .int x4, _], [] => f x0 x1 x2 x4 μ
  | _, _ => none
theorem jeX8_isGranted_27 {base : Nat} {D : va_G} {ca : Nat → ClassId} {cv : Nat → Value} {d : Nat} {f : Nat → Int32 → Int32 → Int32 → qM → Option qR} (hf : ∀ (x0 : Nat) (x1 : Int32) (x2 : Int32) (x4 : Int32) (μ : qM) (r : qR), f x0 x1 x2 x4 μ = some r → qEv false base D ca cv d 193 r 27 [.ref x0, .int x1, .int x2, .null, .int x4, .null] [] μ) {L S : List Value} {μ : qM} {r : qR} (h : jX8_isGranted_27 f L S μ = some r) : qEv false base D ca cv d 193 r 27 L S μ := by
  unfold jX8_isGranted_27 at h
  split at h
  · exact (hf _ _ _ _ _ _ h).le rfl ⟨Or.inr rfl, Or.inr rfl, Or.inr rfl, Or.inl rfl, Or.inr rfl, Or.inl rfl, trivial⟩
  · cases h
set_option maxRecDepth 100000 in
theorem lbX8_isGranted_27 {base : Nat} {D : va_G} {ca : Nat → ClassId} {cv : Nat → Value} (hcv : ∀ j, (cv j).category = 1) (x0 : Nat) (x1 : Int32) (x2 : Int32) (x4 : Int32) (μ : qM) (r : qR) (h : fX8_isGranted_27 x0 x1 x2 x4 μ = some r) : qEv false base D ca cv 4 193 r 27 [.ref x0, .int x1, .int x2, .null, .int x4, .null] [] μ := by
    exact qblk_ev2 (cf := cfX8_isGranted) (st := (fun n => qin [27] n)) (K := (fun pc L S μ => none)) (cd := qcX8_isGranted) (M := 193) (d0 := 3) rfl qcok_X8_isGranted (Nat.le_refl _) (hcX8_isGranted hcv) (by
    intro pc L S μ r h
    cases h) 400 (pc := 27) (L := [.ref x0, .int x1, .int x2, .null, .int x4, .null]) (S := []) h
theorem npX8_isGranted : (parseMethodDescriptor (qmy 193).desc).map (fun d => d.parameters.length) = some 4 := by decide +kernel
set_option maxRecDepth 100000 in
theorem gdX8_isGranted {base : Nat} {D : va_G} {ca : Nat → ClassId} {cv : Nat → Value} (hcv : ∀ j, (cv j).category = 1) {a0 : Nat} {a1 : Int32} {a2 : Int32} {a3 : Int32} {μ : qM} {r : qR} (h : fX8_isGranted a0 a1 a2 a3 μ = some r) : qGood false base D ca cv 4 193 [.ref a0, .int a1, .int a2, .int a3] μ r := by
  exact qgood_of (by decide) (by omega) hcv (Or.inl rfl) npX8_isGranted rfl (Nat.le_of_ble_eq_true rfl) rfl (qblk_ev2 (cf := cfX8_isGranted) (st := (fun n => qin [27] n)) (K := (fun pc L S μ => if pc = 27 then jX8_isGranted_27 (fX8_isGranted_27) L S μ else none)) (cd := qcX8_isGranted) (M := 193) (d0 := 3) rfl qcok_X8_isGranted (Nat.le_refl _) (hcX8_isGranted hcv) (by
    intro pc L S μ r h
    split at h
    · rename_i e; subst e; exact jeX8_isGranted_27 (lbX8_isGranted_27 hcv) h
    cases h) 400 (pc := 0) (L := qent [.ref a0, .int a1, .int a2, .int a3] 6) (S := []) h)
theorem gaX8_isGranted {base : Nat} {D : va_G} {ca : Nat → ClassId} {cv : Nat → Value} (hcv : ∀ j, (cv j).category = 1) {l : List Value} {μ : qM} {r : qR} (h : aX8_isGranted l μ = some r) : qGood false base D ca cv 4 193 l μ r := by
  unfold aX8_isGranted at h
  split at h
  · exact gdX8_isGranted hcv h
  · cases h
noncomputable def fX8_steps (a0 : Nat) (a1 : Int32) (a2 : Int32) (a3 : Int32) (μ : qM) : Option qR :=
  qbnd (fX8_wanted a0 a1 a2 a3 μ) fun r1 =>
  qbnd (fX8_isGranted a0 a1 a2 a3 r1.2.2) fun r2 =>
  if r2.1 = 0 then
    qbnd (oStI 20 r2.2.2 a0 ((680 : Int32) + a1) (2 : Int32)) fun μ3 =>
    qbnd (oStI 20 μ3 a0 ((712 : Int32) + a1) a2) fun μ4 =>
    qbnd (oStI 20 μ4 a0 ((720 : Int32) + a1) r1.1) fun μ5 =>
    qbnd (oLdI 20 μ5 a0 (754 : Int32)) fun v6 =>
    qbnd (oStI 20 μ5 a0 (754 : Int32) (v6 + (1 : Int32))) fun μ7 =>
    qbnd (oLdI 20 μ7 a0 (754 : Int32)) fun v8 =>
    qbnd (oStI 20 μ7 a0 ((744 : Int32) + a1) v8) fun μ9 =>
    if qnz (0 : Int32) = (0 : Int32) then some ((0 : Int32), 0, μ9) else none
  else
    qbnd (fX8_holdsNow a0 a1 a2 r1.1 r2.2.2) fun r10 =>
    if qnz (1 : Int32) = (1 : Int32) then some ((1 : Int32), 0, r10.2.2) else none
noncomputable def aX8_steps (l : List Value) (μ : qM) : Option qR := match l with
  | [.ref x0, .int x1, .int x2, .int x3] => fX8_steps x0 x1 x2 x3 μ
  | _ => none
noncomputable def cfX8_steps : qF := fun n l μ => if n = 192 then aX8_wanted l μ else if n = 193 then aX8_isGranted l μ else if n = 190 then aX8_holdsNow l μ else none
theorem hcX8_steps {base : Nat} {D : va_G} {ca : Nat → ClassId} {cv : Nat → Value} (hcv : ∀ j, (cv j).category = 1) : ∀ M as μ r, cfX8_steps M as μ = some r → qGood false base D ca cv 4 M as μ r := by
  intro M as μ r h
  unfold cfX8_steps at h
  split at h
  · rename_i e; subst e; exact (gaX8_wanted hcv h).mono (by omega)
  split at h
  · rename_i e; subst e; exact (gaX8_isGranted hcv h).mono (by omega)
  split at h
  · rename_i e; subst e; exact (gaX8_holdsNow hcv h).mono (by omega)
  cases h
theorem npX8_steps : (parseMethodDescriptor (qmy 194).desc).map (fun d => d.parameters.length) = some 4 := by decide +kernel
set_option maxRecDepth 100000 in
theorem gdX8_steps {base : Nat} {D : va_G} {ca : Nat → ClassId} {cv : Nat → Value} (hcv : ∀ j, (cv j).category = 1) {a0 : Nat} {a1 : Int32} {a2 : Int32} {a3 : Int32} {μ : qM} {r : qR} (h : fX8_steps a0 a1 a2 a3 μ = some r) : qGood false base D ca cv 5 194 [.ref a0, .int a1, .int a2, .int a3] μ r := by
  exact qgood_of (by decide) (by omega) hcv (Or.inl rfl) npX8_steps rfl (Nat.le_of_ble_eq_true rfl) rfl (qblk_ev2 (cf := cfX8_steps) (st := (fun n => qin [] n)) (K := (fun pc L S μ => none)) (cd := qcX8_steps) (M := 194) (d0 := 4) rfl qcok_X8_steps (Nat.le_refl _) (hcX8_steps hcv) (by
    intro pc L S μ r h
    cases h) 400 (pc := 0) (L := qent [.ref a0, .int a1, .int a2, .int a3] 5) (S := []) h)
theorem gaX8_steps {base : Nat} {D : va_G} {ca : Nat → ClassId} {cv : Nat → Value} (hcv : ∀ j, (cv j).category = 1) {l : List Value} {μ : qM} {r : qR} (h : aX8_steps l μ = some r) : qGood false base D ca cv 5 194 l μ r := by
  unfold aX8_steps at h
  split at h
  · exact gdX8_steps hcv h
  · cases h
noncomputable def fX8_nextOn_2 : Nat → Int32 → Int32 → qM → Option qR
  | 0 => fun _ _ _ => none
  | n + 1 => fun x1 x2 μ =>
    qbnd (fX8_parent x2 μ) fun r1 =>
    if r1.1 = x1 then
      some (x2, 0, r1.2.2)
    else
      qbnd (fX8_parent x2 r1.2.2) fun r2 =>
      fX8_nextOn_2 n x1 r2.1 r2.2.2
noncomputable def fX8_nextOn (a0 : Int32) (a1 : Int32) (μ : qM) : Option qR :=
  fX8_nextOn_2 qfu a1 a0 μ
noncomputable def aX8_nextOn (l : List Value) (μ : qM) : Option qR := match l with
  | [.int x0, .int x1] => fX8_nextOn x0 x1 μ
  | _ => none
noncomputable def cfX8_nextOn : qF := fun n l μ => if n = 145 then aX8_parent l μ else none
theorem hcX8_nextOn {base : Nat} {D : va_G} {ca : Nat → ClassId} {cv : Nat → Value} (hcv : ∀ j, (cv j).category = 1) : ∀ M as μ r, cfX8_nextOn M as μ = some r → qGood false base D ca cv 1 M as μ r := by
  intro M as μ r h
  unfold cfX8_nextOn at h
  split at h
  · rename_i e; subst e; exact (gaX8_parent hcv h).mono (by omega)
  cases h
def jX8_nextOn_2 (f : Int32 → Int32 → qM → Option qR) (L S : List Value) (μ : qM) : Option qR := match L, S with
  | [_, .int x1, .int x2], [] => f x1 x2 μ
  | _, _ => none
theorem jeX8_nextOn_2 {base : Nat} {D : va_G} {ca : Nat → ClassId} {cv : Nat → Value} {d : Nat} {f : Int32 → Int32 → qM → Option qR} (hf : ∀ (x1 : Int32) (x2 : Int32) (μ : qM) (r : qR), f x1 x2 μ = some r → qEv false base D ca cv d 195 r 2 [.null, .int x1, .int x2] [] μ) {L S : List Value} {μ : qM} {r : qR} (h : jX8_nextOn_2 f L S μ = some r) : qEv false base D ca cv d 195 r 2 L S μ := by
  unfold jX8_nextOn_2 at h
  split at h
  · exact (hf _ _ _ _ h).le rfl ⟨Or.inl rfl, Or.inr rfl, Or.inr rfl, trivial⟩
  · cases h
set_option maxRecDepth 100000 in
theorem lbX8_nextOn_2 {base : Nat} {D : va_G} {ca : Nat → ClassId} {cv : Nat → Value} (hcv : ∀ j, (cv j).category = 1) : ∀ (n : Nat) (x1 : Int32) (x2 : Int32) (μ : qM) (r : qR), fX8_nextOn_2 n x1 x2 μ = some r → qEv false base D ca cv 2 195 r 2 [.null, .int x1, .int x2] [] μ := by
  intro n
  induction n with
  | zero => intro x1 x2 μ r h; cases (show (none : Option qR) = some r from h)
  | succ n ih =>
    intro x1 x2 μ r h
    exact qblk_ev2 (cf := cfX8_nextOn) (st := (fun n => qin [2] n)) (K := (fun pc L S μ => if pc = 2 then jX8_nextOn_2 (fX8_nextOn_2 n) L S μ else none)) (cd := qcX8_nextOn) (M := 195) (d0 := 1) rfl qcok_X8_nextOn (Nat.le_refl _) (hcX8_nextOn hcv) (by
    intro pc L S μ r h
    split at h
    · rename_i e; subst e; exact jeX8_nextOn_2 ih h
    cases h) 400 (pc := 2) (L := [.null, .int x1, .int x2]) (S := []) h
theorem npX8_nextOn : (parseMethodDescriptor (qmy 195).desc).map (fun d => d.parameters.length) = some 2 := by decide +kernel
set_option maxRecDepth 100000 in
theorem gdX8_nextOn {base : Nat} {D : va_G} {ca : Nat → ClassId} {cv : Nat → Value} (hcv : ∀ j, (cv j).category = 1) {a0 : Int32} {a1 : Int32} {μ : qM} {r : qR} (h : fX8_nextOn a0 a1 μ = some r) : qGood false base D ca cv 2 195 [.int a0, .int a1] μ r := by
  exact qgood_of (by decide) (by omega) hcv (Or.inl rfl) npX8_nextOn rfl (Nat.le_of_ble_eq_true rfl) rfl (qblk_ev2 (cf := cfX8_nextOn) (st := (fun n => qin [2] n)) (K := (fun pc L S μ => if pc = 2 then jX8_nextOn_2 (fX8_nextOn_2 qfu) L S μ else none)) (cd := qcX8_nextOn) (M := 195) (d0 := 1) rfl qcok_X8_nextOn (Nat.le_refl _) (hcX8_nextOn hcv) (by
    intro pc L S μ r h
    split at h
    · rename_i e; subst e; exact jeX8_nextOn_2 (lbX8_nextOn_2 hcv qfu) h
    cases h) 400 (pc := 0) (L := qent [.int a0, .int a1] 3) (S := []) h)
theorem gaX8_nextOn {base : Nat} {D : va_G} {ca : Nat → ClassId} {cv : Nat → Value} (hcv : ∀ j, (cv j).category = 1) {l : List Value} {μ : qM} {r : qR} (h : aX8_nextOn l μ = some r) : qGood false base D ca cv 2 195 l μ r := by
  unfold aX8_nextOn at h
  split at h
  · exact gdX8_nextOn hcv h
  · cases h
noncomputable def fX8_modeOn (a0 : Int32) (a1 : Int32) (a2 : Int32) (μ : qM) : Option qR :=
  if a1 = a0 then
    some (a2, 0, μ)
  else
    qbnd (fX8_isShared a2 μ) fun r1 =>
    if r1.1 = 0 then
      some ((2 : Int32), 0, r1.2.2)
    else
      some ((1 : Int32), 0, r1.2.2)
noncomputable def aX8_modeOn (l : List Value) (μ : qM) : Option qR := match l with
  | [.int x0, .int x1, .int x2] => fX8_modeOn x0 x1 x2 μ
  | _ => none
noncomputable def cfX8_modeOn : qF := fun n l μ => if n = 191 then aX8_isShared l μ else none
theorem hcX8_modeOn {base : Nat} {D : va_G} {ca : Nat → ClassId} {cv : Nat → Value} (hcv : ∀ j, (cv j).category = 1) : ∀ M as μ r, cfX8_modeOn M as μ = some r → qGood false base D ca cv 1 M as μ r := by
  intro M as μ r h
  unfold cfX8_modeOn at h
  split at h
  · rename_i e; subst e; exact (gaX8_isShared hcv h).mono (by omega)
  cases h
theorem npX8_modeOn : (parseMethodDescriptor (qmy 196).desc).map (fun d => d.parameters.length) = some 3 := by decide +kernel
set_option maxRecDepth 100000 in
theorem gdX8_modeOn {base : Nat} {D : va_G} {ca : Nat → ClassId} {cv : Nat → Value} (hcv : ∀ j, (cv j).category = 1) {a0 : Int32} {a1 : Int32} {a2 : Int32} {μ : qM} {r : qR} (h : fX8_modeOn a0 a1 a2 μ = some r) : qGood false base D ca cv 2 196 [.int a0, .int a1, .int a2] μ r := by
  exact qgood_of (by decide) (by omega) hcv (Or.inl rfl) npX8_modeOn rfl (Nat.le_of_ble_eq_true rfl) rfl (qblk_ev2 (cf := cfX8_modeOn) (st := (fun n => qin [] n)) (K := (fun pc L S μ => none)) (cd := qcX8_modeOn) (M := 196) (d0 := 1) rfl qcok_X8_modeOn (Nat.le_refl _) (hcX8_modeOn hcv) (by
    intro pc L S μ r h
    cases h) 400 (pc := 0) (L := qent [.int a0, .int a1, .int a2] 3) (S := []) h)
theorem gaX8_modeOn {base : Nat} {D : va_G} {ca : Nat → ClassId} {cv : Nat → Value} (hcv : ∀ j, (cv j).category = 1) {l : List Value} {μ : qM} {r : qR} (h : aX8_modeOn l μ = some r) : qGood false base D ca cv 2 196 l μ r := by
  unfold aX8_modeOn at h
  split at h
  · exact gdX8_modeOn hcv h
  · cases h
noncomputable def fX8_isCovered_5 : Nat → Nat → Int32 → Int32 → Int32 → Int32 → qM → Option qR
  | 0 => fun _ _ _ _ _ _ => none
  | n + 1 => fun x0 x1 x3 x4 x5 μ =>
    if x5 < 0 then
      if qnz x4 = x4 then some (x4, 0, μ) else none
    else
      qbnd (fX8_held x0 x1 x5 μ) fun r1 =>
      if x4 = 0 then
        if r1.1 = (6 : Int32) then
          qbnd (fX8_parent x5 r1.2.2) fun r3 =>
          fX8_isCovered_5 n x0 x1 x3 (1 : Int32) r3.1 r3.2.2
        else
          qbnd (fX8_isShared x3 r1.2.2) fun r4 =>
          if r4.1 = 0 then
            qbnd (fX8_parent x5 r4.2.2) fun r5 =>
            fX8_isCovered_5 n x0 x1 x3 (0 : Int32) r5.1 r5.2.2
          else
            if r1.1 = (3 : Int32) then
              qbnd (fX8_parent x5 r4.2.2) fun r6 =>
              fX8_isCovered_5 n x0 x1 x3 (1 : Int32) r6.1 r6.2.2
            else
              if r1.1 = (4 : Int32) then
                qbnd (fX8_parent x5 r4.2.2) fun r7 =>
                fX8_isCovered_5 n x0 x1 x3 (1 : Int32) r7.1 r7.2.2
              else
                if r1.1 = (5 : Int32) then
                  qbnd (fX8_parent x5 r4.2.2) fun r9 =>
                  fX8_isCovered_5 n x0 x1 x3 (1 : Int32) r9.1 r9.2.2
                else
                  qbnd (fX8_parent x5 r4.2.2) fun r8 =>
                  fX8_isCovered_5 n x0 x1 x3 (0 : Int32) r8.1 r8.2.2
      else
        qbnd (fX8_parent x5 r1.2.2) fun r2 =>
        fX8_isCovered_5 n x0 x1 x3 (1 : Int32) r2.1 r2.2.2
noncomputable def fX8_isCovered (a0 : Nat) (a1 : Int32) (a2 : Int32) (a3 : Int32) (μ : qM) : Option qR :=
  qbnd (fX8_parent a2 μ) fun r1 =>
  fX8_isCovered_5 qfu a0 a1 a3 (0 : Int32) r1.1 r1.2.2
noncomputable def aX8_isCovered (l : List Value) (μ : qM) : Option qR := match l with
  | [.ref x0, .int x1, .int x2, .int x3] => fX8_isCovered x0 x1 x2 x3 μ
  | _ => none
noncomputable def cfX8_isCovered : qF := fun n l μ => if n = 145 then aX8_parent l μ else if n = 172 then aX8_held l μ else if n = 191 then aX8_isShared l μ else none
theorem hcX8_isCovered {base : Nat} {D : va_G} {ca : Nat → ClassId} {cv : Nat → Value} (hcv : ∀ j, (cv j).category = 1) : ∀ M as μ r, cfX8_isCovered M as μ = some r → qGood false base D ca cv 1 M as μ r := by
  intro M as μ r h
  unfold cfX8_isCovered at h
  split at h
  · rename_i e; subst e; exact (gaX8_parent hcv h).mono (by omega)
  split at h
  · rename_i e; subst e; exact (gaX8_held hcv h).mono (by omega)
  split at h
  · rename_i e; subst e; exact (gaX8_isShared hcv h).mono (by omega)
  cases h
def jX8_isCovered_5 (f : Nat → Int32 → Int32 → Int32 → Int32 → qM → Option qR) (L S : List Value) (μ : qM) : Option qR := match L, S with
  | [.ref x0, .int x1, _, .int x3, .int x4, .int x5, _], [] => f x0 x1 x3 x4 x5 μ
  | _, _ => none
theorem jeX8_isCovered_5 {base : Nat} {D : va_G} {ca : Nat → ClassId} {cv : Nat → Value} {d : Nat} {f : Nat → Int32 → Int32 → Int32 → Int32 → qM → Option qR} (hf : ∀ (x0 : Nat) (x1 : Int32) (x3 : Int32) (x4 : Int32) (x5 : Int32) (μ : qM) (r : qR), f x0 x1 x3 x4 x5 μ = some r → qEv false base D ca cv d 197 r 5 [.ref x0, .int x1, .null, .int x3, .int x4, .int x5, .null] [] μ) {L S : List Value} {μ : qM} {r : qR} (h : jX8_isCovered_5 f L S μ = some r) : qEv false base D ca cv d 197 r 5 L S μ := by
  unfold jX8_isCovered_5 at h
  split at h
  · exact (hf _ _ _ _ _ _ _ h).le rfl ⟨Or.inr rfl, Or.inr rfl, Or.inl rfl, Or.inr rfl, Or.inr rfl, Or.inr rfl, Or.inl rfl, trivial⟩
  · cases h
set_option maxRecDepth 100000 in
theorem lbX8_isCovered_5 {base : Nat} {D : va_G} {ca : Nat → ClassId} {cv : Nat → Value} (hcv : ∀ j, (cv j).category = 1) : ∀ (n : Nat) (x0 : Nat) (x1 : Int32) (x3 : Int32) (x4 : Int32) (x5 : Int32) (μ : qM) (r : qR), fX8_isCovered_5 n x0 x1 x3 x4 x5 μ = some r → qEv false base D ca cv 2 197 r 5 [.ref x0, .int x1, .null, .int x3, .int x4, .int x5, .null] [] μ := by
  intro n
  induction n with
  | zero => intro x0 x1 x3 x4 x5 μ r h; cases (show (none : Option qR) = some r from h)
  | succ n ih =>
    intro x0 x1 x3 x4 x5 μ r h
    exact qblk_ev2 (cf := cfX8_isCovered) (st := (fun n => qin [5] n)) (K := (fun pc L S μ => if pc = 5 then jX8_isCovered_5 (fX8_isCovered_5 n) L S μ else none)) (cd := qcX8_isCovered) (M := 197) (d0 := 1) rfl qcok_X8_isCovered (Nat.le_refl _) (hcX8_isCovered hcv) (by
    intro pc L S μ r h
    split at h
    · rename_i e; subst e; exact jeX8_isCovered_5 ih h
    cases h) 400 (pc := 5) (L := [.ref x0, .int x1, .null, .int x3, .int x4, .int x5, .null]) (S := []) h
theorem npX8_isCovered : (parseMethodDescriptor (qmy 197).desc).map (fun d => d.parameters.length) = some 4 := by decide +kernel
set_option maxRecDepth 100000 in
theorem gdX8_isCovered {base : Nat} {D : va_G} {ca : Nat → ClassId} {cv : Nat → Value} (hcv : ∀ j, (cv j).category = 1) {a0 : Nat} {a1 : Int32} {a2 : Int32} {a3 : Int32} {μ : qM} {r : qR} (h : fX8_isCovered a0 a1 a2 a3 μ = some r) : qGood false base D ca cv 2 197 [.ref a0, .int a1, .int a2, .int a3] μ r := by
  exact qgood_of (by decide) (by omega) hcv (Or.inl rfl) npX8_isCovered rfl (Nat.le_of_ble_eq_true rfl) rfl (qblk_ev2 (cf := cfX8_isCovered) (st := (fun n => qin [5] n)) (K := (fun pc L S μ => if pc = 5 then jX8_isCovered_5 (fX8_isCovered_5 qfu) L S μ else none)) (cd := qcX8_isCovered) (M := 197) (d0 := 1) rfl qcok_X8_isCovered (Nat.le_refl _) (hcX8_isCovered hcv) (by
    intro pc L S μ r h
    split at h
    · rename_i e; subst e; exact jeX8_isCovered_5 (lbX8_isCovered_5 hcv qfu) h
    cases h) 400 (pc := 0) (L := qent [.ref a0, .int a1, .int a2, .int a3] 7) (S := []) h)
theorem gaX8_isCovered {base : Nat} {D : va_G} {ca : Nat → ClassId} {cv : Nat → Value} (hcv : ∀ j, (cv j).category = 1) {l : List Value} {μ : qM} {r : qR} (h : aX8_isCovered l μ = some r) : qGood false base D ca cv 2 197 l μ r := by
  unfold aX8_isCovered at h
  split at h
  · exact gdX8_isCovered hcv h
  · cases h
noncomputable def fX8_belowMany_6 : Nat → Nat → Int32 → Int32 → Int32 → Int32 → qM → Option qR
  | 0 => fun _ _ _ _ _ _ => none
  | n + 1 => fun x0 x1 x2 x3 x4 μ =>
    if (85 : Int32) ≤ x4 then
      some (x3, 0, μ)
    else
      qbnd (fX8_isBelow x4 x2 μ) fun r1 =>
      if r1.1 = 0 then
        qbnd (fX8_flag (0 : Int32) r1.2.2) fun r2 =>
        fX8_belowMany_6 n x0 x1 x2 (x3 + r2.1) (x4 + (1 : Int32)) r2.2.2
      else
        qbnd (fX8_held x0 x1 x4 r1.2.2) fun r3 =>
        if r3.1 ≤ 0 then
          qbnd (fX8_flag (0 : Int32) r3.2.2) fun r4 =>
          fX8_belowMany_6 n x0 x1 x2 (x3 + r4.1) (x4 + (1 : Int32)) r4.2.2
        else
          qbnd (fX8_flag (1 : Int32) r3.2.2) fun r5 =>
          fX8_belowMany_6 n x0 x1 x2 (x3 + r5.1) (x4 + (1 : Int32)) r5.2.2
noncomputable def fX8_belowMany (a0 : Nat) (a1 : Int32) (a2 : Int32) (μ : qM) : Option qR :=
  fX8_belowMany_6 qfu a0 a1 a2 (0 : Int32) (a2 + (1 : Int32)) μ
noncomputable def aX8_belowMany (l : List Value) (μ : qM) : Option qR := match l with
  | [.ref x0, .int x1, .int x2] => fX8_belowMany x0 x1 x2 μ
  | _ => none
noncomputable def cfX8_belowMany : qF := fun n l μ => if n = 146 then aX8_isBelow l μ else if n = 172 then aX8_held l μ else if n = 143 then aX8_flag l μ else none
theorem hcX8_belowMany {base : Nat} {D : va_G} {ca : Nat → ClassId} {cv : Nat → Value} (hcv : ∀ j, (cv j).category = 1) : ∀ M as μ r, cfX8_belowMany M as μ = some r → qGood false base D ca cv 2 M as μ r := by
  intro M as μ r h
  unfold cfX8_belowMany at h
  split at h
  · rename_i e; subst e; exact (gaX8_isBelow hcv h).mono (by omega)
  split at h
  · rename_i e; subst e; exact (gaX8_held hcv h).mono (by omega)
  split at h
  · rename_i e; subst e; exact (gaX8_flag hcv h).mono (by omega)
  cases h
def jX8_belowMany_6 (f : Nat → Int32 → Int32 → Int32 → Int32 → qM → Option qR) (L S : List Value) (μ : qM) : Option qR := match L, S with
  | [.ref x0, .int x1, .int x2, .int x3, .int x4], [] => f x0 x1 x2 x3 x4 μ
  | _, _ => none
theorem jeX8_belowMany_6 {base : Nat} {D : va_G} {ca : Nat → ClassId} {cv : Nat → Value} {d : Nat} {f : Nat → Int32 → Int32 → Int32 → Int32 → qM → Option qR} (hf : ∀ (x0 : Nat) (x1 : Int32) (x2 : Int32) (x3 : Int32) (x4 : Int32) (μ : qM) (r : qR), f x0 x1 x2 x3 x4 μ = some r → qEv false base D ca cv d 200 r 6 [.ref x0, .int x1, .int x2, .int x3, .int x4] [] μ) {L S : List Value} {μ : qM} {r : qR} (h : jX8_belowMany_6 f L S μ = some r) : qEv false base D ca cv d 200 r 6 L S μ := by
  unfold jX8_belowMany_6 at h
  split at h
  · exact (hf _ _ _ _ _ _ _ h).le rfl ⟨Or.inr rfl, Or.inr rfl, Or.inr rfl, Or.inr rfl, Or.inr rfl, trivial⟩
  · cases h
set_option maxRecDepth 100000 in
theorem lbX8_belowMany_6 {base : Nat} {D : va_G} {ca : Nat → ClassId} {cv : Nat → Value} (hcv : ∀ j, (cv j).category = 1) : ∀ (n : Nat) (x0 : Nat) (x1 : Int32) (x2 : Int32) (x3 : Int32) (x4 : Int32) (μ : qM) (r : qR), fX8_belowMany_6 n x0 x1 x2 x3 x4 μ = some r → qEv false base D ca cv 3 200 r 6 [.ref x0, .int x1, .int x2, .int x3, .int x4] [] μ := by
  intro n
  induction n with
  | zero => intro x0 x1 x2 x3 x4 μ r h; cases (show (none : Option qR) = some r from h)
  | succ n ih =>
    intro x0 x1 x2 x3 x4 μ r h
    exact qblk_ev2 (cf := cfX8_belowMany) (st := (fun n => qin [6] n)) (K := (fun pc L S μ => if pc = 6 then jX8_belowMany_6 (fX8_belowMany_6 n) L S μ else none)) (cd := qcX8_belowMany) (M := 200) (d0 := 2) rfl qcok_X8_belowMany (Nat.le_refl _) (hcX8_belowMany hcv) (by
    intro pc L S μ r h
    split at h
    · rename_i e; subst e; exact jeX8_belowMany_6 ih h
    cases h) 400 (pc := 6) (L := [.ref x0, .int x1, .int x2, .int x3, .int x4]) (S := []) h
theorem npX8_belowMany : (parseMethodDescriptor (qmy 200).desc).map (fun d => d.parameters.length) = some 3 := by decide +kernel
set_option maxRecDepth 100000 in
theorem gdX8_belowMany {base : Nat} {D : va_G} {ca : Nat → ClassId} {cv : Nat → Value} (hcv : ∀ j, (cv j).category = 1) {a0 : Nat} {a1 : Int32} {a2 : Int32} {μ : qM} {r : qR} (h : fX8_belowMany a0 a1 a2 μ = some r) : qGood false base D ca cv 3 200 [.ref a0, .int a1, .int a2] μ r := by
  exact qgood_of (by decide) (by omega) hcv (Or.inl rfl) npX8_belowMany rfl (Nat.le_of_ble_eq_true rfl) rfl (qblk_ev2 (cf := cfX8_belowMany) (st := (fun n => qin [6] n)) (K := (fun pc L S μ => if pc = 6 then jX8_belowMany_6 (fX8_belowMany_6 qfu) L S μ else none)) (cd := qcX8_belowMany) (M := 200) (d0 := 2) rfl qcok_X8_belowMany (Nat.le_refl _) (hcX8_belowMany hcv) (by
    intro pc L S μ r h
    split at h
    · rename_i e; subst e; exact jeX8_belowMany_6 (lbX8_belowMany_6 hcv qfu) h
    cases h) 400 (pc := 0) (L := qent [.ref a0, .int a1, .int a2] 5) (S := []) h)
theorem gaX8_belowMany {base : Nat} {D : va_G} {ca : Nat → ClassId} {cv : Nat → Value} (hcv : ∀ j, (cv j).category = 1) {l : List Value} {μ : qM} {r : qR} (h : aX8_belowMany l μ = some r) : qGood false base D ca cv 3 200 l μ r := by
  unfold aX8_belowMany at h
  split at h
  · exact gdX8_belowMany hcv h
  · cases h
noncomputable def fX8_gatheredMode_6 : Nat → Nat → Int32 → Int32 → Int32 → Int32 → qM → Option qR
  | 0 => fun _ _ _ _ _ _ => none
  | n + 1 => fun x0 x1 x2 x3 x4 μ =>
    if (85 : Int32) ≤ x4 then
      qbnd (fX8_held x0 x1 x2 μ) fun r1 =>
      if x3 = 0 then
        qbnd (fX8_both r1.1 (6 : Int32) r1.2.2) fun r2 =>
        some (r2.1, 0, r2.2.2)
      else
        qbnd (fX8_both r1.1 (3 : Int32) r1.2.2) fun r3 =>
        some (r3.1, 0, r3.2.2)
    else
      qbnd (fX8_held x0 x1 x4 μ) fun r4 =>
      if x3 = 0 then
        fX8_gatheredMode_6 n x0 x1 x2 (0 : Int32) (x4 + (1 : Int32)) r4.2.2
      else
        qbnd (fX8_isBelow x4 x2 r4.2.2) fun r5 =>
        if r5.1 = 0 then
          fX8_gatheredMode_6 n x0 x1 x2 (1 : Int32) (x4 + (1 : Int32)) r5.2.2
        else
          if r4.1 = 0 then
            fX8_gatheredMode_6 n x0 x1 x2 (1 : Int32) (x4 + (1 : Int32)) r5.2.2
          else
            qbnd (fX8_isShared r4.1 r5.2.2) fun r6 =>
            if r6.1 = 0 then
              fX8_gatheredMode_6 n x0 x1 x2 (0 : Int32) (x4 + (1 : Int32)) r6.2.2
            else
              fX8_gatheredMode_6 n x0 x1 x2 (1 : Int32) (x4 + (1 : Int32)) r6.2.2
noncomputable def fX8_gatheredMode (a0 : Nat) (a1 : Int32) (a2 : Int32) (μ : qM) : Option qR :=
  fX8_gatheredMode_6 qfu a0 a1 a2 (1 : Int32) (a2 + (1 : Int32)) μ
noncomputable def aX8_gatheredMode (l : List Value) (μ : qM) : Option qR := match l with
  | [.ref x0, .int x1, .int x2] => fX8_gatheredMode x0 x1 x2 μ
  | _ => none
noncomputable def cfX8_gatheredMode : qF := fun n l μ => if n = 172 then aX8_held l μ else if n = 146 then aX8_isBelow l μ else if n = 191 then aX8_isShared l μ else if n = 150 then aX8_both l μ else none
theorem hcX8_gatheredMode {base : Nat} {D : va_G} {ca : Nat → ClassId} {cv : Nat → Value} (hcv : ∀ j, (cv j).category = 1) : ∀ M as μ r, cfX8_gatheredMode M as μ = some r → qGood false base D ca cv 2 M as μ r := by
  intro M as μ r h
  unfold cfX8_gatheredMode at h
  split at h
  · rename_i e; subst e; exact (gaX8_held hcv h).mono (by omega)
  split at h
  · rename_i e; subst e; exact (gaX8_isBelow hcv h).mono (by omega)
  split at h
  · rename_i e; subst e; exact (gaX8_isShared hcv h).mono (by omega)
  split at h
  · rename_i e; subst e; exact (gaX8_both hcv h).mono (by omega)
  cases h
def jX8_gatheredMode_6 (f : Nat → Int32 → Int32 → Int32 → Int32 → qM → Option qR) (L S : List Value) (μ : qM) : Option qR := match L, S with
  | [.ref x0, .int x1, .int x2, .int x3, .int x4, _], [] => f x0 x1 x2 x3 x4 μ
  | _, _ => none
theorem jeX8_gatheredMode_6 {base : Nat} {D : va_G} {ca : Nat → ClassId} {cv : Nat → Value} {d : Nat} {f : Nat → Int32 → Int32 → Int32 → Int32 → qM → Option qR} (hf : ∀ (x0 : Nat) (x1 : Int32) (x2 : Int32) (x3 : Int32) (x4 : Int32) (μ : qM) (r : qR), f x0 x1 x2 x3 x4 μ = some r → qEv false base D ca cv d 201 r 6 [.ref x0, .int x1, .int x2, .int x3, .int x4, .null] [] μ) {L S : List Value} {μ : qM} {r : qR} (h : jX8_gatheredMode_6 f L S μ = some r) : qEv false base D ca cv d 201 r 6 L S μ := by
  unfold jX8_gatheredMode_6 at h
  split at h
  · exact (hf _ _ _ _ _ _ _ h).le rfl ⟨Or.inr rfl, Or.inr rfl, Or.inr rfl, Or.inr rfl, Or.inr rfl, Or.inl rfl, trivial⟩
  · cases h
set_option maxRecDepth 100000 in
theorem lbX8_gatheredMode_6 {base : Nat} {D : va_G} {ca : Nat → ClassId} {cv : Nat → Value} (hcv : ∀ j, (cv j).category = 1) : ∀ (n : Nat) (x0 : Nat) (x1 : Int32) (x2 : Int32) (x3 : Int32) (x4 : Int32) (μ : qM) (r : qR), fX8_gatheredMode_6 n x0 x1 x2 x3 x4 μ = some r → qEv false base D ca cv 3 201 r 6 [.ref x0, .int x1, .int x2, .int x3, .int x4, .null] [] μ := by
  intro n
  induction n with
  | zero => intro x0 x1 x2 x3 x4 μ r h; cases (show (none : Option qR) = some r from h)
  | succ n ih =>
    intro x0 x1 x2 x3 x4 μ r h
    exact qblk_ev2 (cf := cfX8_gatheredMode) (st := (fun n => qin [6] n)) (K := (fun pc L S μ => if pc = 6 then jX8_gatheredMode_6 (fX8_gatheredMode_6 n) L S μ else none)) (cd := qcX8_gatheredMode) (M := 201) (d0 := 2) rfl qcok_X8_gatheredMode (Nat.le_refl _) (hcX8_gatheredMode hcv) (by
    intro pc L S μ r h
    split at h
    · rename_i e; subst e; exact jeX8_gatheredMode_6 ih h
    cases h) 400 (pc := 6) (L := [.ref x0, .int x1, .int x2, .int x3, .int x4, .null]) (S := []) h
theorem npX8_gatheredMode : (parseMethodDescriptor (qmy 201).desc).map (fun d => d.parameters.length) = some 3 := by decide +kernel
set_option maxRecDepth 100000 in
theorem gdX8_gatheredMode {base : Nat} {D : va_G} {ca : Nat → ClassId} {cv : Nat → Value} (hcv : ∀ j, (cv j).category = 1) {a0 : Nat} {a1 : Int32} {a2 : Int32} {μ : qM} {r : qR} (h : fX8_gatheredMode a0 a1 a2 μ = some r) : qGood false base D ca cv 3 201 [.ref a0, .int a1, .int a2] μ r := by
  exact qgood_of (by decide) (by omega) hcv (Or.inl rfl) npX8_gatheredMode rfl (Nat.le_of_ble_eq_true rfl) rfl (qblk_ev2 (cf := cfX8_gatheredMode) (st := (fun n => qin [6] n)) (K := (fun pc L S μ => if pc = 6 then jX8_gatheredMode_6 (fX8_gatheredMode_6 qfu) L S μ else none)) (cd := qcX8_gatheredMode) (M := 201) (d0 := 2) rfl qcok_X8_gatheredMode (Nat.le_refl _) (hcX8_gatheredMode hcv) (by
    intro pc L S μ r h
    split at h
    · rename_i e; subst e; exact jeX8_gatheredMode_6 (lbX8_gatheredMode_6 hcv qfu) h
    cases h) 400 (pc := 0) (L := qent [.ref a0, .int a1, .int a2] 6) (S := []) h)
theorem gaX8_gatheredMode {base : Nat} {D : va_G} {ca : Nat → ClassId} {cv : Nat → Value} (hcv : ∀ j, (cv j).category = 1) {l : List Value} {μ : qM} {r : qR} (h : aX8_gatheredMode l μ = some r) : qGood false base D ca cv 3 201 l μ r := by
  unfold aX8_gatheredMode at h
  split at h
  · exact gdX8_gatheredMode hcv h
  · cases h
noncomputable def fX8_canGather (a0 : Nat) (a1 : Int32) (a2 : Int32) (μ : qM) : Option qR :=
  qbnd (fX8_belowMany a0 a1 a2 μ) fun r1 =>
  if r1.1 ≤ 0 then
    if qnz (0 : Int32) = (0 : Int32) then some ((0 : Int32), 0, r1.2.2) else none
  else
    qbnd (fX8_hasChange a0 a2 r1.2.2) fun r2 =>
    if r2.1 = 0 then
      qbnd (fX8_gatheredMode a0 a1 a2 r2.2.2) fun r3 =>
      qbnd (fX8_goesWithOthers a0 a1 a2 r3.1 r3.2.2) fun r4 =>
      if r4.1 = 0 then
        if qnz (0 : Int32) = (0 : Int32) then some ((0 : Int32), 0, r4.2.2) else none
      else
        if qnz (1 : Int32) = (1 : Int32) then some ((1 : Int32), 0, r4.2.2) else none
    else
      if qnz (0 : Int32) = (0 : Int32) then some ((0 : Int32), 0, r2.2.2) else none
noncomputable def aX8_canGather (l : List Value) (μ : qM) : Option qR := match l with
  | [.ref x0, .int x1, .int x2] => fX8_canGather x0 x1 x2 μ
  | _ => none
noncomputable def cfX8_canGather : qF := fun n l μ => if n = 200 then aX8_belowMany l μ else if n = 180 then aX8_hasChange l μ else if n = 201 then aX8_gatheredMode l μ else if n = 183 then aX8_goesWithOthers l μ else none
theorem hcX8_canGather {base : Nat} {D : va_G} {ca : Nat → ClassId} {cv : Nat → Value} (hcv : ∀ j, (cv j).category = 1) : ∀ M as μ r, cfX8_canGather M as μ = some r → qGood false base D ca cv 3 M as μ r := by
  intro M as μ r h
  unfold cfX8_canGather at h
  split at h
  · rename_i e; subst e; exact (gaX8_belowMany hcv h).mono (by omega)
  split at h
  · rename_i e; subst e; exact (gaX8_hasChange hcv h).mono (by omega)
  split at h
  · rename_i e; subst e; exact (gaX8_gatheredMode hcv h).mono (by omega)
  split at h
  · rename_i e; subst e; exact (gaX8_goesWithOthers hcv h).mono (by omega)
  cases h
theorem npX8_canGather : (parseMethodDescriptor (qmy 202).desc).map (fun d => d.parameters.length) = some 3 := by decide +kernel
set_option maxRecDepth 100000 in
theorem gdX8_canGather {base : Nat} {D : va_G} {ca : Nat → ClassId} {cv : Nat → Value} (hcv : ∀ j, (cv j).category = 1) {a0 : Nat} {a1 : Int32} {a2 : Int32} {μ : qM} {r : qR} (h : fX8_canGather a0 a1 a2 μ = some r) : qGood false base D ca cv 4 202 [.ref a0, .int a1, .int a2] μ r := by
  exact qgood_of (by decide) (by omega) hcv (Or.inl rfl) npX8_canGather rfl (Nat.le_of_ble_eq_true rfl) rfl (qblk_ev2 (cf := cfX8_canGather) (st := (fun n => qin [] n)) (K := (fun pc L S μ => none)) (cd := qcX8_canGather) (M := 202) (d0 := 3) rfl qcok_X8_canGather (Nat.le_refl _) (hcX8_canGather hcv) (by
    intro pc L S μ r h
    cases h) 400 (pc := 0) (L := qent [.ref a0, .int a1, .int a2] 3) (S := []) h)
theorem gaX8_canGather {base : Nat} {D : va_G} {ca : Nat → ClassId} {cv : Nat → Value} (hcv : ∀ j, (cv j).category = 1) {l : List Value} {μ : qM} {r : qR} (h : aX8_canGather l μ = some r) : qGood false base D ca cv 4 202 l μ r := by
  unfold aX8_canGather at h
  split at h
  · exact gdX8_canGather hcv h
  · cases h
noncomputable def fX8_rowsHeld_4 : Nat → Nat → Int32 → Int32 → Int32 → Int32 → qM → Option qR
  | 0 => fun _ _ _ _ _ _ => none
  | n + 1 => fun x0 x1 x2 x3 x4 μ =>
    if (4 : Int32) ≤ x4 then
      some (x3, 0, μ)
    else
      qbnd (fX8_held x0 x1 (((21 : Int32) + ((4 : Int32) * (x2 - (5 : Int32)))) + x4) μ) fun r1 =>
      if r1.1 ≤ 0 then
        qbnd (fX8_flag (0 : Int32) r1.2.2) fun r2 =>
        fX8_rowsHeld_4 n x0 x1 x2 (x3 + r2.1) (x4 + (1 : Int32)) r2.2.2
      else
        qbnd (fX8_flag (1 : Int32) r1.2.2) fun r3 =>
        fX8_rowsHeld_4 n x0 x1 x2 (x3 + r3.1) (x4 + (1 : Int32)) r3.2.2
noncomputable def fX8_rowsHeld (a0 : Nat) (a1 : Int32) (a2 : Int32) (μ : qM) : Option qR :=
  fX8_rowsHeld_4 qfu a0 a1 a2 (0 : Int32) (0 : Int32) μ
noncomputable def aX8_rowsHeld (l : List Value) (μ : qM) : Option qR := match l with
  | [.ref x0, .int x1, .int x2] => fX8_rowsHeld x0 x1 x2 μ
  | _ => none
noncomputable def cfX8_rowsHeld : qF := fun n l μ => if n = 172 then aX8_held l μ else if n = 143 then aX8_flag l μ else none
theorem hcX8_rowsHeld {base : Nat} {D : va_G} {ca : Nat → ClassId} {cv : Nat → Value} (hcv : ∀ j, (cv j).category = 1) : ∀ M as μ r, cfX8_rowsHeld M as μ = some r → qGood false base D ca cv 1 M as μ r := by
  intro M as μ r h
  unfold cfX8_rowsHeld at h
  split at h
  · rename_i e; subst e; exact (gaX8_held hcv h).mono (by omega)
  split at h
  · rename_i e; subst e; exact (gaX8_flag hcv h).mono (by omega)
  cases h
def jX8_rowsHeld_4 (f : Nat → Int32 → Int32 → Int32 → Int32 → qM → Option qR) (L S : List Value) (μ : qM) : Option qR := match L, S with
  | [.ref x0, .int x1, .int x2, .int x3, .int x4], [] => f x0 x1 x2 x3 x4 μ
  | _, _ => none
theorem jeX8_rowsHeld_4 {base : Nat} {D : va_G} {ca : Nat → ClassId} {cv : Nat → Value} {d : Nat} {f : Nat → Int32 → Int32 → Int32 → Int32 → qM → Option qR} (hf : ∀ (x0 : Nat) (x1 : Int32) (x2 : Int32) (x3 : Int32) (x4 : Int32) (μ : qM) (r : qR), f x0 x1 x2 x3 x4 μ = some r → qEv false base D ca cv d 199 r 4 [.ref x0, .int x1, .int x2, .int x3, .int x4] [] μ) {L S : List Value} {μ : qM} {r : qR} (h : jX8_rowsHeld_4 f L S μ = some r) : qEv false base D ca cv d 199 r 4 L S μ := by
  unfold jX8_rowsHeld_4 at h
  split at h
  · exact (hf _ _ _ _ _ _ _ h).le rfl ⟨Or.inr rfl, Or.inr rfl, Or.inr rfl, Or.inr rfl, Or.inr rfl, trivial⟩
  · cases h
set_option maxRecDepth 100000 in
theorem lbX8_rowsHeld_4 {base : Nat} {D : va_G} {ca : Nat → ClassId} {cv : Nat → Value} (hcv : ∀ j, (cv j).category = 1) : ∀ (n : Nat) (x0 : Nat) (x1 : Int32) (x2 : Int32) (x3 : Int32) (x4 : Int32) (μ : qM) (r : qR), fX8_rowsHeld_4 n x0 x1 x2 x3 x4 μ = some r → qEv false base D ca cv 2 199 r 4 [.ref x0, .int x1, .int x2, .int x3, .int x4] [] μ := by
  intro n
  induction n with
  | zero => intro x0 x1 x2 x3 x4 μ r h; cases (show (none : Option qR) = some r from h)
  | succ n ih =>
    intro x0 x1 x2 x3 x4 μ r h
    exact qblk_ev2 (cf := cfX8_rowsHeld) (st := (fun n => qin [4] n)) (K := (fun pc L S μ => if pc = 4 then jX8_rowsHeld_4 (fX8_rowsHeld_4 n) L S μ else none)) (cd := qcX8_rowsHeld) (M := 199) (d0 := 1) rfl qcok_X8_rowsHeld (Nat.le_refl _) (hcX8_rowsHeld hcv) (by
    intro pc L S μ r h
    split at h
    · rename_i e; subst e; exact jeX8_rowsHeld_4 ih h
    cases h) 400 (pc := 4) (L := [.ref x0, .int x1, .int x2, .int x3, .int x4]) (S := []) h
theorem npX8_rowsHeld : (parseMethodDescriptor (qmy 199).desc).map (fun d => d.parameters.length) = some 3 := by decide +kernel
set_option maxRecDepth 100000 in
theorem gdX8_rowsHeld {base : Nat} {D : va_G} {ca : Nat → ClassId} {cv : Nat → Value} (hcv : ∀ j, (cv j).category = 1) {a0 : Nat} {a1 : Int32} {a2 : Int32} {μ : qM} {r : qR} (h : fX8_rowsHeld a0 a1 a2 μ = some r) : qGood false base D ca cv 2 199 [.ref a0, .int a1, .int a2] μ r := by
  exact qgood_of (by decide) (by omega) hcv (Or.inl rfl) npX8_rowsHeld rfl (Nat.le_of_ble_eq_true rfl) rfl (qblk_ev2 (cf := cfX8_rowsHeld) (st := (fun n => qin [4] n)) (K := (fun pc L S μ => if pc = 4 then jX8_rowsHeld_4 (fX8_rowsHeld_4 qfu) L S μ else none)) (cd := qcX8_rowsHeld) (M := 199) (d0 := 1) rfl qcok_X8_rowsHeld (Nat.le_refl _) (hcX8_rowsHeld hcv) (by
    intro pc L S μ r h
    split at h
    · rename_i e; subst e; exact jeX8_rowsHeld_4 (lbX8_rowsHeld_4 hcv qfu) h
    cases h) 400 (pc := 0) (L := qent [.ref a0, .int a1, .int a2] 5) (S := []) h)
theorem gaX8_rowsHeld {base : Nat} {D : va_G} {ca : Nat → ClassId} {cv : Nat → Value} (hcv : ∀ j, (cv j).category = 1) {l : List Value} {μ : qM} {r : qR} (h : aX8_rowsHeld l μ = some r) : qGood false base D ca cv 2 199 l μ r := by
  unfold aX8_rowsHeld at h
  split at h
  · exact gdX8_rowsHeld hcv h
  · cases h
noncomputable def fX8_servesAll_21 (R : qF) (k2 : Nat → Nat → Int64 → Int64 → Int32 → qM → Option qR) (x0 : Nat) (x1 : Nat) (x2 : Int64) (x4 : Int64) (x6 : Int32) (s0 : Int64) (μ : qM) : Option qR :=
  if (lg_cmp s0 (1 : Int64)) = 0 then
    qbnd (R 205 [.ref x0, .ref x1, .int x6] μ) fun r1 =>
    k2 x0 x1 x2 x4 (x6 + (1 : Int32)) r1.2.2
  else
    k2 x0 x1 x2 x4 (x6 + (1 : Int32)) μ
noncomputable def fX8_servesAll_2 (R : qF) : Nat → Nat → Nat → Int64 → Int64 → Int32 → qM → Option qR
  | 0 => fun _ _ _ _ _ _ => none
  | n + 1 => fun x0 x1 x2 x4 x6 μ =>
    if (85 : Int32) ≤ x6 then
      some (0, 0, μ)
    else
      if (64 : Int32) ≤ x6 then
        fX8_servesAll_21 R (fX8_servesAll_2 R n) x0 x1 x2 x4 x6 ((x4 >>> (((x6 - (64 : Int32))).toInt64 &&& 63)) &&& (1 : Int64)) μ
      else
        fX8_servesAll_21 R (fX8_servesAll_2 R n) x0 x1 x2 x4 x6 ((x2 >>> ((x6).toInt64 &&& 63)) &&& (1 : Int64)) μ
noncomputable def gX8_servesAll (R : qF) (a0 : Nat) (a1 : Nat) (a2 : Int64) (a3 : Int64) (μ : qM) : Option qR :=
  fX8_servesAll_2 R qfu a0 a1 a2 a3 (0 : Int32) μ
noncomputable def fX8_servesAll (R : qF) (a0 : Nat) (a1 : Nat) (a2 : Int64) (a3 : Int64) (μ : qM) : Option qR := if (qk μ a0).1 = 8 then gX8_servesAll R a0 a1 a2 a3 μ else none
noncomputable def aX8_servesAll (R : qF) (l : List Value) (μ : qM) : Option qR := match l with
  | [.ref x0, .ref x1, .long x2, .long x3] => fX8_servesAll R x0 x1 x2 x3 μ
  | _ => none
noncomputable def cfX8_servesAll (R : qF) : qF := fun n l μ => if n = 205 then R 205 l μ else none
theorem hcX8_servesAll {base : Nat} {D : va_G} {ca : Nat → ClassId} {cv : Nat → Value} (hcv : ∀ j, (cv j).category = 1) {δ : Nat} {R : qF} (hδ : 10 ≤ δ) (hR : ∀ M as μ r, R M as μ = some r → qGood false base D ca cv δ M as μ r) : ∀ M as μ r, cfX8_servesAll R M as μ = some r → qGood false base D ca cv (δ + 0) M as μ r := by
  intro M as μ r h
  unfold cfX8_servesAll at h
  split at h
  · rename_i e; subst e; exact (hR _ _ _ _ h).mono (by omega)
  cases h
def jX8_servesAll_2 (f : Nat → Nat → Int64 → Int64 → Int32 → qM → Option qR) (L S : List Value) (μ : qM) : Option qR := match L, S with
  | [.ref x0, .ref x1, .long x2, _, .long x4, _, .int x6], [] => f x0 x1 x2 x4 x6 μ
  | _, _ => none
theorem jeX8_servesAll_2 {base : Nat} {D : va_G} {ca : Nat → ClassId} {cv : Nat → Value} {d : Nat} {f : Nat → Nat → Int64 → Int64 → Int32 → qM → Option qR} (hf : ∀ (x0 : Nat) (x1 : Nat) (x2 : Int64) (x4 : Int64) (x6 : Int32) (μ : qM) (r : qR), f x0 x1 x2 x4 x6 μ = some r → qEv false base D ca cv d 204 r 2 [.ref x0, .ref x1, .long x2, .null, .long x4, .null, .int x6] [] μ) {L S : List Value} {μ : qM} {r : qR} (h : jX8_servesAll_2 f L S μ = some r) : qEv false base D ca cv d 204 r 2 L S μ := by
  unfold jX8_servesAll_2 at h
  split at h
  · exact (hf _ _ _ _ _ _ _ h).le rfl ⟨Or.inr rfl, Or.inr rfl, Or.inr rfl, Or.inl rfl, Or.inr rfl, Or.inl rfl, Or.inr rfl, trivial⟩
  · cases h
def jX8_servesAll_21 (f : Nat → Nat → Int64 → Int64 → Int32 → Int64 → qM → Option qR) (L S : List Value) (μ : qM) : Option qR := match L, S with
  | [.ref x0, .ref x1, .long x2, _, .long x4, _, .int x6], [.long s0] => f x0 x1 x2 x4 x6 s0 μ
  | _, _ => none
theorem jeX8_servesAll_21 {base : Nat} {D : va_G} {ca : Nat → ClassId} {cv : Nat → Value} {d : Nat} {f : Nat → Nat → Int64 → Int64 → Int32 → Int64 → qM → Option qR} (hf : ∀ (x0 : Nat) (x1 : Nat) (x2 : Int64) (x4 : Int64) (x6 : Int32) (s0 : Int64) (μ : qM) (r : qR), f x0 x1 x2 x4 x6 s0 μ = some r → qEv false base D ca cv d 204 r 21 [.ref x0, .ref x1, .long x2, .null, .long x4, .null, .int x6] [.long s0] μ) {L S : List Value} {μ : qM} {r : qR} (h : jX8_servesAll_21 f L S μ = some r) : qEv false base D ca cv d 204 r 21 L S μ := by
  unfold jX8_servesAll_21 at h
  split at h
  · exact (hf _ _ _ _ _ _ _ _ h).le rfl ⟨Or.inr rfl, Or.inr rfl, Or.inr rfl, Or.inl rfl, Or.inr rfl, Or.inl rfl, Or.inr rfl, trivial⟩
  · cases h
set_option maxRecDepth 100000 in
theorem lbX8_servesAll_21 {base : Nat} {D : va_G} {ca : Nat → ClassId} {cv : Nat → Value} (hcv : ∀ j, (cv j).category = 1) {δ : Nat} {R : qF} (hδ : 10 ≤ δ) (hR : ∀ M as μ r, R M as μ = some r → qGood false base D ca cv δ M as μ r) {k2 : Nat → Nat → Int64 → Int64 → Int32 → qM → Option qR} (hk2 : ∀ (y0 : Nat) (y1 : Nat) (y2 : Int64) (y4 : Int64) (y6 : Int32) (μ : qM) (r : qR), k2 y0 y1 y2 y4 y6 μ = some r → qEv false base D ca cv (δ + 1) 204 r 2 [.ref y0, .ref y1, .long y2, .null, .long y4, .null, .int y6] [] μ) (x0 : Nat) (x1 : Nat) (x2 : Int64) (x4 : Int64) (x6 : Int32) (s0 : Int64) (μ : qM) (r : qR) (h : fX8_servesAll_21 R k2 x0 x1 x2 x4 x6 s0 μ = some r) : qEv false base D ca cv (δ + 1) 204 r 21 [.ref x0, .ref x1, .long x2, .null, .long x4, .null, .int x6] [.long s0] μ := by
    exact qblk_ev2 (cf := cfX8_servesAll R) (st := (fun n => qin [2, 21] n)) (K := (fun pc L S μ => if pc = 2 then jX8_servesAll_2 k2 L S μ else none)) (cd := qcX8_servesAll) (M := 204) (d0 := (δ + 0)) rfl qcok_X8_servesAll (Nat.le_refl _) (hcX8_servesAll hcv hδ hR) (by
    intro pc L S μ r h
    split at h
    · rename_i e; subst e; exact jeX8_servesAll_2 hk2 h
    cases h) 400 (pc := 21) (L := [.ref x0, .ref x1, .long x2, .null, .long x4, .null, .int x6]) (S := [.long s0]) h
set_option maxRecDepth 100000 in
theorem lbX8_servesAll_2 {base : Nat} {D : va_G} {ca : Nat → ClassId} {cv : Nat → Value} (hcv : ∀ j, (cv j).category = 1) {δ : Nat} {R : qF} (hδ : 10 ≤ δ) (hR : ∀ M as μ r, R M as μ = some r → qGood false base D ca cv δ M as μ r) : ∀ (n : Nat) (x0 : Nat) (x1 : Nat) (x2 : Int64) (x4 : Int64) (x6 : Int32) (μ : qM) (r : qR), fX8_servesAll_2 R n x0 x1 x2 x4 x6 μ = some r → qEv false base D ca cv (δ + 1) 204 r 2 [.ref x0, .ref x1, .long x2, .null, .long x4, .null, .int x6] [] μ := by
  intro n
  induction n with
  | zero => intro x0 x1 x2 x4 x6 μ r h; cases (show (none : Option qR) = some r from h)
  | succ n ih =>
    intro x0 x1 x2 x4 x6 μ r h
    exact qblk_ev2 (cf := cfX8_servesAll R) (st := (fun n => qin [2, 21] n)) (K := (fun pc L S μ => if pc = 21 then jX8_servesAll_21 (fX8_servesAll_21 R (fX8_servesAll_2 R n)) L S μ else none)) (cd := qcX8_servesAll) (M := 204) (d0 := (δ + 0)) rfl qcok_X8_servesAll (Nat.le_refl _) (hcX8_servesAll hcv hδ hR) (by
    intro pc L S μ r h
    split at h
    · rename_i e; subst e; exact jeX8_servesAll_21 (lbX8_servesAll_21 hcv hδ hR ih) h
    cases h) 400 (pc := 2) (L := [.ref x0, .ref x1, .long x2, .null, .long x4, .null, .int x6]) (S := []) h
theorem npX8_servesAll : (parseMethodDescriptor (qmy 204).desc).map (fun d => d.parameters.length) = some 3 := by decide +kernel
set_option maxRecDepth 100000 in
theorem gdX8_servesAll {base : Nat} {D : va_G} {ca : Nat → ClassId} {cv : Nat → Value} (hcv : ∀ j, (cv j).category = 1) {δ : Nat} {R : qF} (hδ : 10 ≤ δ) (hR : ∀ M as μ r, R M as μ = some r → qGood false base D ca cv δ M as μ r) {a0 : Nat} {a1 : Nat} {a2 : Int64} {a3 : Int64} {μ : qM} {r : qR} (h : fX8_servesAll R a0 a1 a2 a3 μ = some r) : qGood false base D ca cv (δ + 1) 204 [.ref a0, .ref a1, .long a2, .long a3] μ r := by
  unfold fX8_servesAll at h
  split at h
  · rename_i hk0
    exact qgood_of (by decide) (by omega) hcv (Or.inr ⟨by decide +kernel, hk0⟩) npX8_servesAll rfl (Nat.le_of_ble_eq_true rfl) rfl (qblk_ev2 (cf := cfX8_servesAll R) (st := (fun n => qin [2, 21] n)) (K := (fun pc L S μ => if pc = 2 then jX8_servesAll_2 (fX8_servesAll_2 R qfu) L S μ else none)) (cd := qcX8_servesAll) (M := 204) (d0 := (δ + 0)) rfl qcok_X8_servesAll (Nat.le_refl _) (hcX8_servesAll hcv hδ hR) (by
    intro pc L S μ r h
    split at h
    · rename_i e; subst e; exact jeX8_servesAll_2 (lbX8_servesAll_2 hcv hδ hR qfu) h
    cases h) 400 (pc := 0) (L := qent [.ref a0, .ref a1, .long a2, .long a3] 7) (S := []) h)
  · cases h
theorem gaX8_servesAll {base : Nat} {D : va_G} {ca : Nat → ClassId} {cv : Nat → Value} (hcv : ∀ j, (cv j).category = 1) {δ : Nat} {R : qF} (hδ : 10 ≤ δ) (hR : ∀ M as μ r, R M as μ = some r → qGood false base D ca cv δ M as μ r) {l : List Value} {μ : qM} {r : qR} (h : aX8_servesAll R l μ = some r) : qGood false base D ca cv (δ + 1) 204 l μ r := by
  unfold aX8_servesAll at h
  split at h
  · exact gdX8_servesAll hcv hδ hR h
  · cases h
noncomputable def fX8_gathersOne_59 (R : qF) (k33 : Nat → Nat → Int32 → Int32 → Int32 → Int64 → Int64 → Int32 → qM → Option qR) (x0 : Nat) (x1 : Nat) (x2 : Int32) (x3 : Int32) (x4 : Int32) (x7 : Int64) (x9 : Int32) (s0 : Int64) (s1 : Int64) (μ : qM) : Option qR :=
  if (64 : Int32) ≤ x9 then
    let w1 : Int64 := (x7 ||| ((1 : Int64) <<< (((x9 - (64 : Int32))).toInt64 &&& 63)))
    k33 x0 x1 x2 x3 (x4 + (1 : Int32)) (s1 ||| s0) w1 (x9 + (1 : Int32)) μ
  else
    k33 x0 x1 x2 x3 (x4 + (1 : Int32)) (s1 ||| s0) (x7 ||| (0 : Int64)) (x9 + (1 : Int32)) μ
noncomputable def fX8_gathersOne_33 (R : qF) : Nat → Nat → Nat → Int32 → Int32 → Int32 → Int64 → Int64 → Int32 → qM → Option qR
  | 0 => fun _ _ _ _ _ _ _ _ _ => none
  | n + 1 => fun x0 x1 x2 x3 x4 x5 x7 x9 μ =>
    if (85 : Int32) ≤ x9 then
      qbnd (fX8_servesAll R x0 x1 x5 x7 μ) fun r1 =>
      some (x4, 0, r1.2.2)
    else
      qbnd (fX8_isBelow x9 x3 μ) fun r2 =>
      if r2.1 = 0 then
        fX8_gathersOne_33 R n x0 x1 x2 x3 x4 x5 x7 (x9 + (1 : Int32)) r2.2.2
      else
        qbnd (fX8_held x1 x2 x9 r2.2.2) fun r3 =>
        if r3.1 ≤ 0 then
          fX8_gathersOne_33 R n x0 x1 x2 x3 x4 x5 x7 (x9 + (1 : Int32)) r3.2.2
        else
          qbnd (fX8_holdsNow x1 x2 x9 (0 : Int32) r3.2.2) fun r4 =>
          if (64 : Int32) ≤ x9 then
            fX8_gathersOne_59 R (fX8_gathersOne_33 R n) x0 x1 x2 x3 x4 x7 x9 (0 : Int64) x5 r4.2.2
          else
            fX8_gathersOne_59 R (fX8_gathersOne_33 R n) x0 x1 x2 x3 x4 x7 x9 ((1 : Int64) <<< ((x9).toInt64 &&& 63)) x5 r4.2.2
noncomputable def gX8_gathersOne (R : qF) (a0 : Nat) (a1 : Nat) (a2 : Int32) (a3 : Int32) (μ : qM) : Option qR :=
  qbnd (fX8_canGather a1 a2 a3 μ) fun r1 =>
  if r1.1 = 0 then
    some ((-1 : Int32), 0, r1.2.2)
  else
    qbnd (fX8_gatheredMode a1 a2 a3 r1.2.2) fun r2 =>
    qbnd (fX8_holdsNow a1 a2 a3 r2.1 r2.2.2) fun r3 =>
    qbnd (oGetI r3.2.2 8 a0 16) fun v4 =>
    qbnd (oPutI r3.2.2 8 a0 16 (v4 ||| ((1 : Int32) <<< (a2 &&& 31)))) fun μ5 =>
    fX8_gathersOne_33 R qfu a0 a1 a2 a3 (0 : Int32) (0 : Int64) (0 : Int64) (a3 + (1 : Int32)) μ5
noncomputable def fX8_gathersOne (R : qF) (a0 : Nat) (a1 : Nat) (a2 : Int32) (a3 : Int32) (μ : qM) : Option qR := if (qk μ a0).1 = 8 then gX8_gathersOne R a0 a1 a2 a3 μ else none
noncomputable def aX8_gathersOne (R : qF) (l : List Value) (μ : qM) : Option qR := match l with
  | [.ref x0, .ref x1, .int x2, .int x3] => fX8_gathersOne R x0 x1 x2 x3 μ
  | _ => none
noncomputable def cfX8_gathersOne (R : qF) : qF := fun n l μ => if n = 202 then aX8_canGather l μ else if n = 201 then aX8_gatheredMode l μ else if n = 190 then aX8_holdsNow l μ else if n = 146 then aX8_isBelow l μ else if n = 172 then aX8_held l μ else if n = 204 then aX8_servesAll R l μ else none
theorem hcX8_gathersOne {base : Nat} {D : va_G} {ca : Nat → ClassId} {cv : Nat → Value} (hcv : ∀ j, (cv j).category = 1) {δ : Nat} {R : qF} (hδ : 10 ≤ δ) (hR : ∀ M as μ r, R M as μ = some r → qGood false base D ca cv δ M as μ r) : ∀ M as μ r, cfX8_gathersOne R M as μ = some r → qGood false base D ca cv (δ + 1) M as μ r := by
  intro M as μ r h
  unfold cfX8_gathersOne at h
  split at h
  · rename_i e; subst e; exact (gaX8_canGather hcv h).mono (by omega)
  split at h
  · rename_i e; subst e; exact (gaX8_gatheredMode hcv h).mono (by omega)
  split at h
  · rename_i e; subst e; exact (gaX8_holdsNow hcv h).mono (by omega)
  split at h
  · rename_i e; subst e; exact (gaX8_isBelow hcv h).mono (by omega)
  split at h
  · rename_i e; subst e; exact (gaX8_held hcv h).mono (by omega)
  split at h
  · rename_i e; subst e; exact (gaX8_servesAll hcv hδ hR h).mono (by omega)
  cases h
def jX8_gathersOne_33 (f : Nat → Nat → Int32 → Int32 → Int32 → Int64 → Int64 → Int32 → qM → Option qR) (L S : List Value) (μ : qM) : Option qR := match L, S with
  | [.ref x0, .ref x1, .int x2, .int x3, .int x4, .long x5, _, .long x7, _, .int x9], [] => f x0 x1 x2 x3 x4 x5 x7 x9 μ
  | _, _ => none
theorem jeX8_gathersOne_33 {base : Nat} {D : va_G} {ca : Nat → ClassId} {cv : Nat → Value} {d : Nat} {f : Nat → Nat → Int32 → Int32 → Int32 → Int64 → Int64 → Int32 → qM → Option qR} (hf : ∀ (x0 : Nat) (x1 : Nat) (x2 : Int32) (x3 : Int32) (x4 : Int32) (x5 : Int64) (x7 : Int64) (x9 : Int32) (μ : qM) (r : qR), f x0 x1 x2 x3 x4 x5 x7 x9 μ = some r → qEv false base D ca cv d 203 r 33 [.ref x0, .ref x1, .int x2, .int x3, .int x4, .long x5, .null, .long x7, .null, .int x9] [] μ) {L S : List Value} {μ : qM} {r : qR} (h : jX8_gathersOne_33 f L S μ = some r) : qEv false base D ca cv d 203 r 33 L S μ := by
  unfold jX8_gathersOne_33 at h
  split at h
  · exact (hf _ _ _ _ _ _ _ _ _ _ h).le rfl ⟨Or.inr rfl, Or.inr rfl, Or.inr rfl, Or.inr rfl, Or.inr rfl, Or.inr rfl, Or.inl rfl, Or.inr rfl, Or.inl rfl, Or.inr rfl, trivial⟩
  · cases h
def jX8_gathersOne_59 (f : Nat → Nat → Int32 → Int32 → Int32 → Int64 → Int32 → Int64 → Int64 → qM → Option qR) (L S : List Value) (μ : qM) : Option qR := match L, S with
  | [.ref x0, .ref x1, .int x2, .int x3, .int x4, _, _, .long x7, _, .int x9], [.long s0, .long s1] => f x0 x1 x2 x3 x4 x7 x9 s0 s1 μ
  | _, _ => none
theorem jeX8_gathersOne_59 {base : Nat} {D : va_G} {ca : Nat → ClassId} {cv : Nat → Value} {d : Nat} {f : Nat → Nat → Int32 → Int32 → Int32 → Int64 → Int32 → Int64 → Int64 → qM → Option qR} (hf : ∀ (x0 : Nat) (x1 : Nat) (x2 : Int32) (x3 : Int32) (x4 : Int32) (x7 : Int64) (x9 : Int32) (s0 : Int64) (s1 : Int64) (μ : qM) (r : qR), f x0 x1 x2 x3 x4 x7 x9 s0 s1 μ = some r → qEv false base D ca cv d 203 r 59 [.ref x0, .ref x1, .int x2, .int x3, .int x4, .null, .null, .long x7, .null, .int x9] [.long s0, .long s1] μ) {L S : List Value} {μ : qM} {r : qR} (h : jX8_gathersOne_59 f L S μ = some r) : qEv false base D ca cv d 203 r 59 L S μ := by
  unfold jX8_gathersOne_59 at h
  split at h
  · exact (hf _ _ _ _ _ _ _ _ _ _ _ h).le rfl ⟨Or.inr rfl, Or.inr rfl, Or.inr rfl, Or.inr rfl, Or.inr rfl, Or.inl rfl, Or.inl rfl, Or.inr rfl, Or.inl rfl, Or.inr rfl, trivial⟩
  · cases h
set_option maxRecDepth 100000 in
theorem lbX8_gathersOne_59 {base : Nat} {D : va_G} {ca : Nat → ClassId} {cv : Nat → Value} (hcv : ∀ j, (cv j).category = 1) {δ : Nat} {R : qF} (hδ : 10 ≤ δ) (hR : ∀ M as μ r, R M as μ = some r → qGood false base D ca cv δ M as μ r) {k33 : Nat → Nat → Int32 → Int32 → Int32 → Int64 → Int64 → Int32 → qM → Option qR} (hk33 : ∀ (y0 : Nat) (y1 : Nat) (y2 : Int32) (y3 : Int32) (y4 : Int32) (y5 : Int64) (y7 : Int64) (y9 : Int32) (μ : qM) (r : qR), k33 y0 y1 y2 y3 y4 y5 y7 y9 μ = some r → qEv false base D ca cv (δ + 2) 203 r 33 [.ref y0, .ref y1, .int y2, .int y3, .int y4, .long y5, .null, .long y7, .null, .int y9] [] μ) (x0 : Nat) (x1 : Nat) (x2 : Int32) (x3 : Int32) (x4 : Int32) (x7 : Int64) (x9 : Int32) (s0 : Int64) (s1 : Int64) (μ : qM) (r : qR) (h : fX8_gathersOne_59 R k33 x0 x1 x2 x3 x4 x7 x9 s0 s1 μ = some r) : qEv false base D ca cv (δ + 2) 203 r 59 [.ref x0, .ref x1, .int x2, .int x3, .int x4, .null, .null, .long x7, .null, .int x9] [.long s0, .long s1] μ := by
    exact qblk_ev2 (cf := cfX8_gathersOne R) (st := (fun n => qin [33, 59] n)) (K := (fun pc L S μ => if pc = 33 then jX8_gathersOne_33 k33 L S μ else none)) (cd := qcX8_gathersOne) (M := 203) (d0 := (δ + 1)) rfl qcok_X8_gathersOne (Nat.le_refl _) (hcX8_gathersOne hcv hδ hR) (by
    intro pc L S μ r h
    split at h
    · rename_i e; subst e; exact jeX8_gathersOne_33 hk33 h
    cases h) 400 (pc := 59) (L := [.ref x0, .ref x1, .int x2, .int x3, .int x4, .null, .null, .long x7, .null, .int x9]) (S := [.long s0, .long s1]) h
set_option maxRecDepth 100000 in
theorem lbX8_gathersOne_33 {base : Nat} {D : va_G} {ca : Nat → ClassId} {cv : Nat → Value} (hcv : ∀ j, (cv j).category = 1) {δ : Nat} {R : qF} (hδ : 10 ≤ δ) (hR : ∀ M as μ r, R M as μ = some r → qGood false base D ca cv δ M as μ r) : ∀ (n : Nat) (x0 : Nat) (x1 : Nat) (x2 : Int32) (x3 : Int32) (x4 : Int32) (x5 : Int64) (x7 : Int64) (x9 : Int32) (μ : qM) (r : qR), fX8_gathersOne_33 R n x0 x1 x2 x3 x4 x5 x7 x9 μ = some r → qEv false base D ca cv (δ + 2) 203 r 33 [.ref x0, .ref x1, .int x2, .int x3, .int x4, .long x5, .null, .long x7, .null, .int x9] [] μ := by
  intro n
  induction n with
  | zero => intro x0 x1 x2 x3 x4 x5 x7 x9 μ r h; cases (show (none : Option qR) = some r from h)
  | succ n ih =>
    intro x0 x1 x2 x3 x4 x5 x7 x9 μ r h
    exact qblk_ev2 (cf := cfX8_gathersOne R) (st := (fun n => qin [33, 59] n)) (K := (fun pc L S μ => if pc = 33 then jX8_gathersOne_33 (fX8_gathersOne_33 R n) L S μ else if pc = 59 then jX8_gathersOne_59 (fX8_gathersOne_59 R (fX8_gathersOne_33 R n)) L S μ else none)) (cd := qcX8_gathersOne) (M := 203) (d0 := (δ + 1)) rfl qcok_X8_gathersOne (Nat.le_refl _) (hcX8_gathersOne hcv hδ hR) (by
    intro pc L S μ r h
    split at h
    · rename_i e; subst e; exact jeX8_gathersOne_33 ih h
    split at h
    · rename_i e; subst e; exact jeX8_gathersOne_59 (lbX8_gathersOne_59 hcv hδ hR ih) h
    cases h) 400 (pc := 33) (L := [.ref x0, .ref x1, .int x2, .int x3, .int x4, .long x5, .null, .long x7, .null, .int x9]) (S := []) h
theorem npX8_gathersOne : (parseMethodDescriptor (qmy 203).desc).map (fun d => d.parameters.length) = some 3 := by decide +kernel
set_option maxRecDepth 100000 in
theorem gdX8_gathersOne {base : Nat} {D : va_G} {ca : Nat → ClassId} {cv : Nat → Value} (hcv : ∀ j, (cv j).category = 1) {δ : Nat} {R : qF} (hδ : 10 ≤ δ) (hR : ∀ M as μ r, R M as μ = some r → qGood false base D ca cv δ M as μ r) {a0 : Nat} {a1 : Nat} {a2 : Int32} {a3 : Int32} {μ : qM} {r : qR} (h : fX8_gathersOne R a0 a1 a2 a3 μ = some r) : qGood false base D ca cv (δ + 2) 203 [.ref a0, .ref a1, .int a2, .int a3] μ r := by
  unfold fX8_gathersOne at h
  split at h
  · rename_i hk0
    exact qgood_of (by decide) (by omega) hcv (Or.inr ⟨by decide +kernel, hk0⟩) npX8_gathersOne rfl (Nat.le_of_ble_eq_true rfl) rfl (qblk_ev2 (cf := cfX8_gathersOne R) (st := (fun n => qin [33, 59] n)) (K := (fun pc L S μ => if pc = 33 then jX8_gathersOne_33 (fX8_gathersOne_33 R qfu) L S μ else none)) (cd := qcX8_gathersOne) (M := 203) (d0 := (δ + 1)) rfl qcok_X8_gathersOne (Nat.le_refl _) (hcX8_gathersOne hcv hδ hR) (by
    intro pc L S μ r h
    split at h
    · rename_i e; subst e; exact jeX8_gathersOne_33 (lbX8_gathersOne_33 hcv hδ hR qfu) h
    cases h) 400 (pc := 0) (L := qent [.ref a0, .ref a1, .int a2, .int a3] 10) (S := []) h)
  · cases h
theorem gaX8_gathersOne {base : Nat} {D : va_G} {ca : Nat → ClassId} {cv : Nat → Value} (hcv : ∀ j, (cv j).category = 1) {δ : Nat} {R : qF} (hδ : 10 ≤ δ) (hR : ∀ M as μ r, R M as μ = some r → qGood false base D ca cv δ M as μ r) {l : List Value} {μ : qM} {r : qR} (h : aX8_gathersOne R l μ = some r) : qGood false base D ca cv (δ + 2) 203 l μ r := by
  unfold aX8_gathersOne at h
  split at h
  · exact gdX8_gathersOne hcv hδ hR h
  · cases h
noncomputable def fX8_goesOn_8 (R : qF) : Nat → Nat → Nat → Int32 → Int32 → Int32 → qM → Option qR
  | 0 => fun _ _ _ _ _ _ => none
  | n + 1 => fun x0 x1 x2 x4 x5 μ =>
    if x5 = x4 then
      if x4 < (21 : Int32) then
        some (0, 0, μ)
      else
        qbnd (fX8_parent x4 μ) fun r1 =>
        qbnd (fX8_rowsHeld x1 x2 r1.1 r1.2.2) fun r2 =>
        qbnd (oLdI 20 r2.2.2 x1 (753 : Int32)) fun v3 =>
        if r2.1 < v3 then
          some (0, 0, r2.2.2)
        else
          qbnd (fX8_parent x4 r2.2.2) fun r4 =>
          qbnd (fX8_gathersOne R x0 x1 x2 r4.1 r4.2.2) fun r5 =>
          some (0, 0, r5.2.2)
    else
      qbnd (fX8_nextOn x4 x5 μ) fun r6 =>
      qbnd (oLdI 20 r6.2.2 x1 ((736 : Int32) + x2)) fun v7 =>
      qbnd (fX8_modeOn x4 r6.1 v7 r6.2.2) fun r8 =>
      qbnd (fX8_steps x1 x2 r6.1 r8.1 r8.2.2) fun r9 =>
      if r9.1 = 0 then
        some (0, 0, r9.2.2)
      else
        fX8_goesOn_8 R n x0 x1 x2 x4 r6.1 r9.2.2
noncomputable def gX8_goesOn (R : qF) (a0 : Nat) (a1 : Nat) (a2 : Int32) (a3 : Int32) (μ : qM) : Option qR :=
  qbnd (oLdI 20 μ a1 ((728 : Int32) + a2)) fun v1 =>
  fX8_goesOn_8 R qfu a0 a1 a2 v1 a3 μ
noncomputable def fX8_goesOn (R : qF) (a0 : Nat) (a1 : Nat) (a2 : Int32) (a3 : Int32) (μ : qM) : Option qR := if (qk μ a0).1 = 8 then gX8_goesOn R a0 a1 a2 a3 μ else none
noncomputable def aX8_goesOn (R : qF) (l : List Value) (μ : qM) : Option qR := match l with
  | [.ref x0, .ref x1, .int x2, .int x3] => fX8_goesOn R x0 x1 x2 x3 μ
  | _ => none
noncomputable def cfX8_goesOn (R : qF) : qF := fun n l μ => if n = 195 then aX8_nextOn l μ else if n = 196 then aX8_modeOn l μ else if n = 194 then aX8_steps l μ else if n = 145 then aX8_parent l μ else if n = 199 then aX8_rowsHeld l μ else if n = 203 then aX8_gathersOne R l μ else none
theorem hcX8_goesOn {base : Nat} {D : va_G} {ca : Nat → ClassId} {cv : Nat → Value} (hcv : ∀ j, (cv j).category = 1) {δ : Nat} {R : qF} (hδ : 10 ≤ δ) (hR : ∀ M as μ r, R M as μ = some r → qGood false base D ca cv δ M as μ r) : ∀ M as μ r, cfX8_goesOn R M as μ = some r → qGood false base D ca cv (δ + 2) M as μ r := by
  intro M as μ r h
  unfold cfX8_goesOn at h
  split at h
  · rename_i e; subst e; exact (gaX8_nextOn hcv h).mono (by omega)
  split at h
  · rename_i e; subst e; exact (gaX8_modeOn hcv h).mono (by omega)
  split at h
  · rename_i e; subst e; exact (gaX8_steps hcv h).mono (by omega)
  split at h
  · rename_i e; subst e; exact (gaX8_parent hcv h).mono (by omega)
  split at h
  · rename_i e; subst e; exact (gaX8_rowsHeld hcv h).mono (by omega)
  split at h
  · rename_i e; subst e; exact (gaX8_gathersOne hcv hδ hR h).mono (by omega)
  cases h
def jX8_goesOn_8 (f : Nat → Nat → Int32 → Int32 → Int32 → qM → Option qR) (L S : List Value) (μ : qM) : Option qR := match L, S with
  | [.ref x0, .ref x1, .int x2, _, .int x4, .int x5], [] => f x0 x1 x2 x4 x5 μ
  | _, _ => none
theorem jeX8_goesOn_8 {base : Nat} {D : va_G} {ca : Nat → ClassId} {cv : Nat → Value} {d : Nat} {f : Nat → Nat → Int32 → Int32 → Int32 → qM → Option qR} (hf : ∀ (x0 : Nat) (x1 : Nat) (x2 : Int32) (x4 : Int32) (x5 : Int32) (μ : qM) (r : qR), f x0 x1 x2 x4 x5 μ = some r → qEv false base D ca cv d 198 r 8 [.ref x0, .ref x1, .int x2, .null, .int x4, .int x5] [] μ) {L S : List Value} {μ : qM} {r : qR} (h : jX8_goesOn_8 f L S μ = some r) : qEv false base D ca cv d 198 r 8 L S μ := by
  unfold jX8_goesOn_8 at h
  split at h
  · exact (hf _ _ _ _ _ _ _ h).le rfl ⟨Or.inr rfl, Or.inr rfl, Or.inr rfl, Or.inl rfl, Or.inr rfl, Or.inr rfl, trivial⟩
  · cases h
set_option maxRecDepth 100000 in
theorem lbX8_goesOn_8 {base : Nat} {D : va_G} {ca : Nat → ClassId} {cv : Nat → Value} (hcv : ∀ j, (cv j).category = 1) {δ : Nat} {R : qF} (hδ : 10 ≤ δ) (hR : ∀ M as μ r, R M as μ = some r → qGood false base D ca cv δ M as μ r) : ∀ (n : Nat) (x0 : Nat) (x1 : Nat) (x2 : Int32) (x4 : Int32) (x5 : Int32) (μ : qM) (r : qR), fX8_goesOn_8 R n x0 x1 x2 x4 x5 μ = some r → qEv false base D ca cv (δ + 3) 198 r 8 [.ref x0, .ref x1, .int x2, .null, .int x4, .int x5] [] μ := by
  intro n
  induction n with
  | zero => intro x0 x1 x2 x4 x5 μ r h; cases (show (none : Option qR) = some r from h)
  | succ n ih =>
    intro x0 x1 x2 x4 x5 μ r h
    exact qblk_ev2 (cf := cfX8_goesOn R) (st := (fun n => qin [8] n)) (K := (fun pc L S μ => if pc = 8 then jX8_goesOn_8 (fX8_goesOn_8 R n) L S μ else none)) (cd := qcX8_goesOn) (M := 198) (d0 := (δ + 2)) rfl qcok_X8_goesOn (Nat.le_refl _) (hcX8_goesOn hcv hδ hR) (by
    intro pc L S μ r h
    split at h
    · rename_i e; subst e; exact jeX8_goesOn_8 ih h
    cases h) 400 (pc := 8) (L := [.ref x0, .ref x1, .int x2, .null, .int x4, .int x5]) (S := []) h
theorem npX8_goesOn : (parseMethodDescriptor (qmy 198).desc).map (fun d => d.parameters.length) = some 3 := by decide +kernel
set_option maxRecDepth 100000 in
theorem gdX8_goesOn {base : Nat} {D : va_G} {ca : Nat → ClassId} {cv : Nat → Value} (hcv : ∀ j, (cv j).category = 1) {δ : Nat} {R : qF} (hδ : 10 ≤ δ) (hR : ∀ M as μ r, R M as μ = some r → qGood false base D ca cv δ M as μ r) {a0 : Nat} {a1 : Nat} {a2 : Int32} {a3 : Int32} {μ : qM} {r : qR} (h : fX8_goesOn R a0 a1 a2 a3 μ = some r) : qGood false base D ca cv (δ + 3) 198 [.ref a0, .ref a1, .int a2, .int a3] μ r := by
  unfold fX8_goesOn at h
  split at h
  · rename_i hk0
    exact qgood_of (by decide) (by omega) hcv (Or.inr ⟨by decide +kernel, hk0⟩) npX8_goesOn rfl (Nat.le_of_ble_eq_true rfl) rfl (qblk_ev2 (cf := cfX8_goesOn R) (st := (fun n => qin [8] n)) (K := (fun pc L S μ => if pc = 8 then jX8_goesOn_8 (fX8_goesOn_8 R qfu) L S μ else none)) (cd := qcX8_goesOn) (M := 198) (d0 := (δ + 2)) rfl qcok_X8_goesOn (Nat.le_refl _) (hcX8_goesOn hcv hδ hR) (by
    intro pc L S μ r h
    split at h
    · rename_i e; subst e; exact jeX8_goesOn_8 (lbX8_goesOn_8 hcv hδ hR qfu) h
    cases h) 400 (pc := 0) (L := qent [.ref a0, .ref a1, .int a2, .int a3] 6) (S := []) h)
  · cases h
theorem gaX8_goesOn {base : Nat} {D : va_G} {ca : Nat → ClassId} {cv : Nat → Value} (hcv : ∀ j, (cv j).category = 1) {δ : Nat} {R : qF} (hδ : 10 ≤ δ) (hR : ∀ M as μ r, R M as μ = some r → qGood false base D ca cv δ M as μ r) {l : List Value} {μ : qM} {r : qR} (h : aX8_goesOn R l μ = some r) : qGood false base D ca cv (δ + 3) 198 l μ r := by
  unfold aX8_goesOn at h
  split at h
  · exact gdX8_goesOn hcv hδ hR h
  · cases h
noncomputable def fX8_serves_60 (R : qF) : Nat → Nat → Nat → Int32 → Int64 → Int32 → Int32 → qM → Option qR
  | 0 => fun _ _ _ _ _ _ _ => none
  | n + 1 => fun x0 x1 x2 x3 x5 x7 μ =>
    if x5 ≤ x7 then
      some (0, 0, μ)
    else
      qbnd (fX8_goesOn R x0 x1 (((x3 >>> ((((4 : Int32) * x7)).toInt64 &&& 63)) &&& (15 : Int64))).toInt32 x2 μ) fun r1 =>
      fX8_serves_60 R n x0 x1 x2 x3 x5 (x7 + (1 : Int32)) r1.2.2
noncomputable def fX8_serves_9 (R : qF) : Nat → Nat → Nat → Int32 → Int64 → Int32 → Int32 → qM → Option qR
  | 0 => fun _ _ _ _ _ _ _ => none
  | n + 1 => fun x0 x1 x2 x3 x5 x6 μ =>
    if x6 < 0 then
      fX8_serves_60 R qfu x0 x1 x2 x3 x5 (0 : Int32) μ
    else
      qbnd (oLdI 20 μ x1 ((720 : Int32) + x6)) fun v1 =>
      qbnd (fX8_goesWithOthers x1 x6 x2 v1 μ) fun r2 =>
      if r2.1 = 0 then
        fX8_serves_60 R qfu x0 x1 x2 x3 x5 (0 : Int32) r2.2.2
      else
        qbnd (oLdI 20 r2.2.2 x1 ((720 : Int32) + x6)) fun v3 =>
        qbnd (fX8_holdsNow x1 x6 x2 v3 r2.2.2) fun r4 =>
        qbnd (oStI 20 r4.2.2 x1 ((680 : Int32) + x6) (1 : Int32)) fun μ5 =>
        qbnd (oStI 20 μ5 x1 ((712 : Int32) + x6) (85 : Int32)) fun μ6 =>
        let w7 : Int64 := (x3 ||| ((x6).toInt64 <<< ((((4 : Int32) * x5)).toInt64 &&& 63)))
        qbnd (fX8_inQueue x1 x2 (0 : Int32) μ6) fun r8 =>
        fX8_serves_9 R n x0 x1 x2 w7 (x5 + (1 : Int32)) r8.1 r8.2.2
noncomputable def gX8_serves (R : qF) (a0 : Nat) (a1 : Nat) (a2 : Int32) (μ : qM) : Option qR :=
  qbnd (fX8_inQueue a1 a2 (0 : Int32) μ) fun r1 =>
  fX8_serves_9 R qfu a0 a1 a2 (0 : Int64) (0 : Int32) r1.1 r1.2.2
noncomputable def fX8_serves (R : qF) (a0 : Nat) (a1 : Nat) (a2 : Int32) (μ : qM) : Option qR := if (qk μ a0).1 = 8 then gX8_serves R a0 a1 a2 μ else none
noncomputable def aX8_serves (R : qF) (l : List Value) (μ : qM) : Option qR := match l with
  | [.ref x0, .ref x1, .int x2] => fX8_serves R x0 x1 x2 μ
  | _ => none
noncomputable def cfX8_serves (R : qF) : qF := fun n l μ => if n = 182 then aX8_inQueue l μ else if n = 183 then aX8_goesWithOthers l μ else if n = 190 then aX8_holdsNow l μ else if n = 198 then aX8_goesOn R l μ else none
theorem hcX8_serves {base : Nat} {D : va_G} {ca : Nat → ClassId} {cv : Nat → Value} (hcv : ∀ j, (cv j).category = 1) {δ : Nat} {R : qF} (hδ : 10 ≤ δ) (hR : ∀ M as μ r, R M as μ = some r → qGood false base D ca cv δ M as μ r) : ∀ M as μ r, cfX8_serves R M as μ = some r → qGood false base D ca cv (δ + 3) M as μ r := by
  intro M as μ r h
  unfold cfX8_serves at h
  split at h
  · rename_i e; subst e; exact (gaX8_inQueue hcv h).mono (by omega)
  split at h
  · rename_i e; subst e; exact (gaX8_goesWithOthers hcv h).mono (by omega)
  split at h
  · rename_i e; subst e; exact (gaX8_holdsNow hcv h).mono (by omega)
  split at h
  · rename_i e; subst e; exact (gaX8_goesOn hcv hδ hR h).mono (by omega)
  cases h
def jX8_serves_9 (f : Nat → Nat → Int32 → Int64 → Int32 → Int32 → qM → Option qR) (L S : List Value) (μ : qM) : Option qR := match L, S with
  | [.ref x0, .ref x1, .int x2, .long x3, _, .int x5, .int x6, _], [] => f x0 x1 x2 x3 x5 x6 μ
  | _, _ => none
theorem jeX8_serves_9 {base : Nat} {D : va_G} {ca : Nat → ClassId} {cv : Nat → Value} {d : Nat} {f : Nat → Nat → Int32 → Int64 → Int32 → Int32 → qM → Option qR} (hf : ∀ (x0 : Nat) (x1 : Nat) (x2 : Int32) (x3 : Int64) (x5 : Int32) (x6 : Int32) (μ : qM) (r : qR), f x0 x1 x2 x3 x5 x6 μ = some r → qEv false base D ca cv d 205 r 9 [.ref x0, .ref x1, .int x2, .long x3, .null, .int x5, .int x6, .null] [] μ) {L S : List Value} {μ : qM} {r : qR} (h : jX8_serves_9 f L S μ = some r) : qEv false base D ca cv d 205 r 9 L S μ := by
  unfold jX8_serves_9 at h
  split at h
  · exact (hf _ _ _ _ _ _ _ _ h).le rfl ⟨Or.inr rfl, Or.inr rfl, Or.inr rfl, Or.inr rfl, Or.inl rfl, Or.inr rfl, Or.inr rfl, Or.inl rfl, trivial⟩
  · cases h
def jX8_serves_60 (f : Nat → Nat → Int32 → Int64 → Int32 → Int32 → qM → Option qR) (L S : List Value) (μ : qM) : Option qR := match L, S with
  | [.ref x0, .ref x1, .int x2, .long x3, _, .int x5, _, .int x7], [] => f x0 x1 x2 x3 x5 x7 μ
  | _, _ => none
theorem jeX8_serves_60 {base : Nat} {D : va_G} {ca : Nat → ClassId} {cv : Nat → Value} {d : Nat} {f : Nat → Nat → Int32 → Int64 → Int32 → Int32 → qM → Option qR} (hf : ∀ (x0 : Nat) (x1 : Nat) (x2 : Int32) (x3 : Int64) (x5 : Int32) (x7 : Int32) (μ : qM) (r : qR), f x0 x1 x2 x3 x5 x7 μ = some r → qEv false base D ca cv d 205 r 60 [.ref x0, .ref x1, .int x2, .long x3, .null, .int x5, .null, .int x7] [] μ) {L S : List Value} {μ : qM} {r : qR} (h : jX8_serves_60 f L S μ = some r) : qEv false base D ca cv d 205 r 60 L S μ := by
  unfold jX8_serves_60 at h
  split at h
  · exact (hf _ _ _ _ _ _ _ _ h).le rfl ⟨Or.inr rfl, Or.inr rfl, Or.inr rfl, Or.inr rfl, Or.inl rfl, Or.inr rfl, Or.inl rfl, Or.inr rfl, trivial⟩
  · cases h
set_option maxRecDepth 100000 in
theorem lbX8_serves_60 {base : Nat} {D : va_G} {ca : Nat → ClassId} {cv : Nat → Value} (hcv : ∀ j, (cv j).category = 1) {δ : Nat} {R : qF} (hδ : 10 ≤ δ) (hR : ∀ M as μ r, R M as μ = some r → qGood false base D ca cv δ M as μ r) : ∀ (n : Nat) (x0 : Nat) (x1 : Nat) (x2 : Int32) (x3 : Int64) (x5 : Int32) (x7 : Int32) (μ : qM) (r : qR), fX8_serves_60 R n x0 x1 x2 x3 x5 x7 μ = some r → qEv false base D ca cv (δ + 4) 205 r 60 [.ref x0, .ref x1, .int x2, .long x3, .null, .int x5, .null, .int x7] [] μ := by
  intro n
  induction n with
  | zero => intro x0 x1 x2 x3 x5 x7 μ r h; cases (show (none : Option qR) = some r from h)
  | succ n ih =>
    intro x0 x1 x2 x3 x5 x7 μ r h
    exact qblk_ev2 (cf := cfX8_serves R) (st := (fun n => qin [9, 60] n)) (K := (fun pc L S μ => if pc = 60 then jX8_serves_60 (fX8_serves_60 R n) L S μ else none)) (cd := qcX8_serves) (M := 205) (d0 := (δ + 3)) rfl qcok_X8_serves (Nat.le_refl _) (hcX8_serves hcv hδ hR) (by
    intro pc L S μ r h
    split at h
    · rename_i e; subst e; exact jeX8_serves_60 ih h
    cases h) 400 (pc := 60) (L := [.ref x0, .ref x1, .int x2, .long x3, .null, .int x5, .null, .int x7]) (S := []) h
set_option maxRecDepth 100000 in
theorem lbX8_serves_9 {base : Nat} {D : va_G} {ca : Nat → ClassId} {cv : Nat → Value} (hcv : ∀ j, (cv j).category = 1) {δ : Nat} {R : qF} (hδ : 10 ≤ δ) (hR : ∀ M as μ r, R M as μ = some r → qGood false base D ca cv δ M as μ r) : ∀ (n : Nat) (x0 : Nat) (x1 : Nat) (x2 : Int32) (x3 : Int64) (x5 : Int32) (x6 : Int32) (μ : qM) (r : qR), fX8_serves_9 R n x0 x1 x2 x3 x5 x6 μ = some r → qEv false base D ca cv (δ + 4) 205 r 9 [.ref x0, .ref x1, .int x2, .long x3, .null, .int x5, .int x6, .null] [] μ := by
  intro n
  induction n with
  | zero => intro x0 x1 x2 x3 x5 x6 μ r h; cases (show (none : Option qR) = some r from h)
  | succ n ih =>
    intro x0 x1 x2 x3 x5 x6 μ r h
    exact qblk_ev2 (cf := cfX8_serves R) (st := (fun n => qin [9, 60] n)) (K := (fun pc L S μ => if pc = 9 then jX8_serves_9 (fX8_serves_9 R n) L S μ else if pc = 60 then jX8_serves_60 (fX8_serves_60 R qfu) L S μ else none)) (cd := qcX8_serves) (M := 205) (d0 := (δ + 3)) rfl qcok_X8_serves (Nat.le_refl _) (hcX8_serves hcv hδ hR) (by
    intro pc L S μ r h
    split at h
    · rename_i e; subst e; exact jeX8_serves_9 ih h
    split at h
    · rename_i e; subst e; exact jeX8_serves_60 (lbX8_serves_60 hcv hδ hR qfu) h
    cases h) 400 (pc := 9) (L := [.ref x0, .ref x1, .int x2, .long x3, .null, .int x5, .int x6, .null]) (S := []) h
theorem npX8_serves : (parseMethodDescriptor (qmy 205).desc).map (fun d => d.parameters.length) = some 2 := by decide +kernel
set_option maxRecDepth 100000 in
theorem gdX8_serves {base : Nat} {D : va_G} {ca : Nat → ClassId} {cv : Nat → Value} (hcv : ∀ j, (cv j).category = 1) {δ : Nat} {R : qF} (hδ : 10 ≤ δ) (hR : ∀ M as μ r, R M as μ = some r → qGood false base D ca cv δ M as μ r) {a0 : Nat} {a1 : Nat} {a2 : Int32} {μ : qM} {r : qR} (h : fX8_serves R a0 a1 a2 μ = some r) : qGood false base D ca cv (δ + 4) 205 [.ref a0, .ref a1, .int a2] μ r := by
  unfold fX8_serves at h
  split at h
  · rename_i hk0
    exact qgood_of (by decide) (by omega) hcv (Or.inr ⟨by decide +kernel, hk0⟩) npX8_serves rfl (Nat.le_of_ble_eq_true rfl) rfl (qblk_ev2 (cf := cfX8_serves R) (st := (fun n => qin [9, 60] n)) (K := (fun pc L S μ => if pc = 9 then jX8_serves_9 (fX8_serves_9 R qfu) L S μ else none)) (cd := qcX8_serves) (M := 205) (d0 := (δ + 3)) rfl qcok_X8_serves (Nat.le_refl _) (hcX8_serves hcv hδ hR) (by
    intro pc L S μ r h
    split at h
    · rename_i e; subst e; exact jeX8_serves_9 (lbX8_serves_9 hcv hδ hR qfu) h
    cases h) 400 (pc := 0) (L := qent [.ref a0, .ref a1, .int a2] 8) (S := []) h)
  · cases h
theorem gaX8_serves {base : Nat} {D : va_G} {ca : Nat → ClassId} {cv : Nat → Value} (hcv : ∀ j, (cv j).category = 1) {δ : Nat} {R : qF} (hδ : 10 ≤ δ) (hR : ∀ M as μ r, R M as μ = some r → qGood false base D ca cv δ M as μ r) {l : List Value} {μ : qM} {r : qR} (h : aX8_serves R l μ = some r) : qGood false base D ca cv (δ + 4) 205 l μ r := by
  unfold aX8_serves at h
  split at h
  · exact gdX8_serves hcv hδ hR h
  · cases h
noncomputable def sX8_serves : Nat → qF
  | 0 => fun _ _ _ => none
  | n + 1 => fun m l μ => if m = 205 then aX8_serves (sX8_serves n) l μ else none
theorem gdsX8_serves {base : Nat} {D : va_G} {ca : Nat → ClassId} {cv : Nat → Value} (hcv : ∀ j, (cv j).category = 1) : ∀ n M as μ r, sX8_serves n M as μ = some r → qGood false base D ca cv (10 + 4 * n) M as μ r := by
  intro n
  induction n with
  | zero => intro M as μ r h; cases (show (none : Option qR) = some r from h)
  | succ n ih =>
    intro M as μ r h
    simp only [sX8_serves] at h
    split at h
    · rename_i e; subst e; exact (gaX8_serves hcv (by omega) ih h).mono (by omega)
    cases h
theorem gssX8_serves_X8_servesAll {base : Nat} {D : va_G} {ca : Nat → ClassId} {cv : Nat → Value} (hcv : ∀ j, (cv j).category = 1) {l : List Value} {μ : qM} {r : qR} (h : aX8_servesAll (sX8_serves qdp) l μ = some r) : qGood false base D ca cv (1000 + 1) 204 l μ r := (gaX8_servesAll hcv (by omega) (gdsX8_serves hcv qdp) h).mono (by rw [qdp_eq]; omega)
theorem gssX8_serves_X8_gathersOne {base : Nat} {D : va_G} {ca : Nat → ClassId} {cv : Nat → Value} (hcv : ∀ j, (cv j).category = 1) {l : List Value} {μ : qM} {r : qR} (h : aX8_gathersOne (sX8_serves qdp) l μ = some r) : qGood false base D ca cv (1000 + 2) 203 l μ r := (gaX8_gathersOne hcv (by omega) (gdsX8_serves hcv qdp) h).mono (by rw [qdp_eq]; omega)
theorem gssX8_serves_X8_goesOn {base : Nat} {D : va_G} {ca : Nat → ClassId} {cv : Nat → Value} (hcv : ∀ j, (cv j).category = 1) {l : List Value} {μ : qM} {r : qR} (h : aX8_goesOn (sX8_serves qdp) l μ = some r) : qGood false base D ca cv (1000 + 3) 198 l μ r := (gaX8_goesOn hcv (by omega) (gdsX8_serves hcv qdp) h).mono (by rw [qdp_eq]; omega)
theorem gssX8_serves_X8_serves {base : Nat} {D : va_G} {ca : Nat → ClassId} {cv : Nat → Value} (hcv : ∀ j, (cv j).category = 1) {l : List Value} {μ : qM} {r : qR} (h : aX8_serves (sX8_serves qdp) l μ = some r) : qGood false base D ca cv (1000 + 4) 205 l μ r := (gaX8_serves hcv (by omega) (gdsX8_serves hcv qdp) h).mono (by rw [qdp_eq]; omega)
noncomputable def fX8_locksOne_54 (x1 : Nat) (x2 : Int32) (μ : qM) : Option qR :=
  qbnd (oLdI 20 μ x1 ((680 : Int32) + x2)) fun v1 =>
  if v1 = (1 : Int32) then
    qbnd (fX8_flag (1 : Int32) μ) fun r3 =>
    some (r3.1, 0, r3.2.2)
  else
    qbnd (fX8_flag (0 : Int32) μ) fun r2 =>
    some (r2.1, 0, r2.2.2)
noncomputable def gX8_locksOne (a0 : Nat) (a1 : Nat) (a2 : Int32) (a3 : Int32) (a4 : Int32) (μ : qM) : Option qR :=
  qbnd (fX8_isOwner a2 μ) fun r1 =>
  if r1.1 = 0 then
    some ((-1 : Int32), 0, r1.2.2)
  else
    qbnd (fX8_isPlace a3 r1.2.2) fun r2 =>
    if r2.1 = 0 then
      some ((-1 : Int32), 0, r2.2.2)
    else
      qbnd (fX8_isMode a4 r2.2.2) fun r3 =>
      if r3.1 = 0 then
        some ((-1 : Int32), 0, r3.2.2)
      else
        qbnd (oLdI 20 r3.2.2 a1 ((680 : Int32) + a2)) fun v4 =>
        if v4 = (1 : Int32) then
          qbnd (oPutI r3.2.2 8 a0 16 (0 : Int32)) fun μ5 =>
          qbnd (fX8_isCovered a1 a2 a3 a4 μ5) fun r6 =>
          if r6.1 = 0 then
            qbnd (oStI 20 r6.2.2 a1 ((728 : Int32) + a2) a3) fun μ7 =>
            qbnd (oStI 20 μ7 a1 ((736 : Int32) + a2) a4) fun μ8 =>
            qbnd (fX8_goesOn (sX8_serves qdp) a0 a1 a2 (-1 : Int32) μ8) fun r9 =>
            fX8_locksOne_54 a1 a2 r9.2.2
          else
            fX8_locksOne_54 a1 a2 r6.2.2
        else
          qbnd (oLdI 20 r3.2.2 a1 ((680 : Int32) + a2)) fun v10 =>
          if v10 = 0 then
            some ((-2 : Int32), 0, r3.2.2)
          else
            some ((-3 : Int32), 0, r3.2.2)
noncomputable def fX8_locksOne (a0 : Nat) (a1 : Nat) (a2 : Int32) (a3 : Int32) (a4 : Int32) (μ : qM) : Option qR := if (qk μ a0).1 = 8 then gX8_locksOne a0 a1 a2 a3 a4 μ else none
noncomputable def aX8_locksOne (l : List Value) (μ : qM) : Option qR := match l with
  | [.ref x0, .ref x1, .int x2, .int x3, .int x4] => fX8_locksOne x0 x1 x2 x3 x4 μ
  | _ => none
noncomputable def cfX8_locksOne : qF := fun n l μ => if n = 171 then aX8_isOwner l μ else if n = 147 then aX8_isPlace l μ else if n = 148 then aX8_isMode l μ else if n = 197 then aX8_isCovered l μ else if n = 198 then aX8_goesOn (sX8_serves qdp) l μ else if n = 143 then aX8_flag l μ else none
theorem hcX8_locksOne {base : Nat} {D : va_G} {ca : Nat → ClassId} {cv : Nat → Value} (hcv : ∀ j, (cv j).category = 1) : ∀ M as μ r, cfX8_locksOne M as μ = some r → qGood false base D ca cv 1003 M as μ r := by
  intro M as μ r h
  unfold cfX8_locksOne at h
  split at h
  · rename_i e; subst e; exact (gaX8_isOwner hcv h).mono (by omega)
  split at h
  · rename_i e; subst e; exact (gaX8_isPlace hcv h).mono (by omega)
  split at h
  · rename_i e; subst e; exact (gaX8_isMode hcv h).mono (by omega)
  split at h
  · rename_i e; subst e; exact (gaX8_isCovered hcv h).mono (by omega)
  split at h
  · rename_i e; subst e; exact (gssX8_serves_X8_goesOn hcv h).mono (by omega)
  split at h
  · rename_i e; subst e; exact (gaX8_flag hcv h).mono (by omega)
  cases h
def jX8_locksOne_54 (f : Nat → Int32 → qM → Option qR) (L S : List Value) (μ : qM) : Option qR := match L, S with
  | [_, .ref x1, .int x2, _, _], [] => f x1 x2 μ
  | _, _ => none
theorem jeX8_locksOne_54 {base : Nat} {D : va_G} {ca : Nat → ClassId} {cv : Nat → Value} {d : Nat} {f : Nat → Int32 → qM → Option qR} (hf : ∀ (x1 : Nat) (x2 : Int32) (μ : qM) (r : qR), f x1 x2 μ = some r → qEv false base D ca cv d 206 r 54 [.null, .ref x1, .int x2, .null, .null] [] μ) {L S : List Value} {μ : qM} {r : qR} (h : jX8_locksOne_54 f L S μ = some r) : qEv false base D ca cv d 206 r 54 L S μ := by
  unfold jX8_locksOne_54 at h
  split at h
  · exact (hf _ _ _ _ h).le rfl ⟨Or.inl rfl, Or.inr rfl, Or.inr rfl, Or.inl rfl, Or.inl rfl, trivial⟩
  · cases h
set_option maxRecDepth 100000 in
theorem lbX8_locksOne_54 {base : Nat} {D : va_G} {ca : Nat → ClassId} {cv : Nat → Value} (hcv : ∀ j, (cv j).category = 1) (x1 : Nat) (x2 : Int32) (μ : qM) (r : qR) (h : fX8_locksOne_54 x1 x2 μ = some r) : qEv false base D ca cv 1004 206 r 54 [.null, .ref x1, .int x2, .null, .null] [] μ := by
    exact qblk_ev2 (cf := cfX8_locksOne) (st := (fun n => qin [54] n)) (K := (fun pc L S μ => none)) (cd := qcX8_locksOne) (M := 206) (d0 := 1003) rfl qcok_X8_locksOne (Nat.le_refl _) (hcX8_locksOne hcv) (by
    intro pc L S μ r h
    cases h) 400 (pc := 54) (L := [.null, .ref x1, .int x2, .null, .null]) (S := []) h
theorem npX8_locksOne : (parseMethodDescriptor (qmy 206).desc).map (fun d => d.parameters.length) = some 4 := by decide +kernel
set_option maxRecDepth 100000 in
theorem gdX8_locksOne {base : Nat} {D : va_G} {ca : Nat → ClassId} {cv : Nat → Value} (hcv : ∀ j, (cv j).category = 1) {a0 : Nat} {a1 : Nat} {a2 : Int32} {a3 : Int32} {a4 : Int32} {μ : qM} {r : qR} (h : fX8_locksOne a0 a1 a2 a3 a4 μ = some r) : qGood false base D ca cv 1004 206 [.ref a0, .ref a1, .int a2, .int a3, .int a4] μ r := by
  unfold fX8_locksOne at h
  split at h
  · rename_i hk0
    exact qgood_of (by decide) (by omega) hcv (Or.inr ⟨by decide +kernel, hk0⟩) npX8_locksOne rfl (Nat.le_of_ble_eq_true rfl) rfl (qblk_ev2 (cf := cfX8_locksOne) (st := (fun n => qin [54] n)) (K := (fun pc L S μ => if pc = 54 then jX8_locksOne_54 (fX8_locksOne_54) L S μ else none)) (cd := qcX8_locksOne) (M := 206) (d0 := 1003) rfl qcok_X8_locksOne (Nat.le_refl _) (hcX8_locksOne hcv) (by
    intro pc L S μ r h
    split at h
    · rename_i e; subst e; exact jeX8_locksOne_54 (lbX8_locksOne_54 hcv) h
    cases h) 400 (pc := 0) (L := qent [.ref a0, .ref a1, .int a2, .int a3, .int a4] 5) (S := []) h)
  · cases h
theorem gaX8_locksOne {base : Nat} {D : va_G} {ca : Nat → ClassId} {cv : Nat → Value} (hcv : ∀ j, (cv j).category = 1) {l : List Value} {μ : qM} {r : qR} (h : aX8_locksOne l μ = some r) : qGood false base D ca cv 1004 206 l μ r := by
  unfold aX8_locksOne at h
  split at h
  · exact gdX8_locksOne hcv h
  · cases h
noncomputable def gX8_beginsOne (a0 : Nat) (a1 : Nat) (a2 : Int32) (μ : qM) : Option qR :=
  qbnd (fX8_isOwner a2 μ) fun r1 =>
  if r1.1 = 0 then
    some ((-1 : Int32), 0, r1.2.2)
  else
    qbnd (oLdI 20 r1.2.2 a1 ((680 : Int32) + a2)) fun v2 =>
    if v2 = 0 then
      qbnd (oStI 20 r1.2.2 a1 ((680 : Int32) + a2) (1 : Int32)) fun μ3 =>
      qbnd (oLdI 20 μ3 a1 (752 : Int32)) fun v4 =>
      qbnd (oStI 20 μ3 a1 (752 : Int32) (v4 + (1 : Int32))) fun μ5 =>
      qbnd (oLdI 20 μ5 a1 (752 : Int32)) fun v6 =>
      qbnd (oStI 20 μ5 a1 ((688 : Int32) + a2) v6) fun μ7 =>
      qbnd (oLdI 20 μ7 a1 (752 : Int32)) fun v8 =>
      some (v8, 0, μ7)
    else
      some ((-2 : Int32), 0, r1.2.2)
noncomputable def fX8_beginsOne (a0 : Nat) (a1 : Nat) (a2 : Int32) (μ : qM) : Option qR := if (qk μ a0).1 = 8 then gX8_beginsOne a0 a1 a2 μ else none
noncomputable def aX8_beginsOne (l : List Value) (μ : qM) : Option qR := match l with
  | [.ref x0, .ref x1, .int x2] => fX8_beginsOne x0 x1 x2 μ
  | _ => none
noncomputable def cfX8_beginsOne : qF := fun n l μ => if n = 171 then aX8_isOwner l μ else none
theorem hcX8_beginsOne {base : Nat} {D : va_G} {ca : Nat → ClassId} {cv : Nat → Value} (hcv : ∀ j, (cv j).category = 1) : ∀ M as μ r, cfX8_beginsOne M as μ = some r → qGood false base D ca cv 2 M as μ r := by
  intro M as μ r h
  unfold cfX8_beginsOne at h
  split at h
  · rename_i e; subst e; exact (gaX8_isOwner hcv h).mono (by omega)
  cases h
theorem npX8_beginsOne : (parseMethodDescriptor (qmy 207).desc).map (fun d => d.parameters.length) = some 2 := by decide +kernel
set_option maxRecDepth 100000 in
theorem gdX8_beginsOne {base : Nat} {D : va_G} {ca : Nat → ClassId} {cv : Nat → Value} (hcv : ∀ j, (cv j).category = 1) {a0 : Nat} {a1 : Nat} {a2 : Int32} {μ : qM} {r : qR} (h : fX8_beginsOne a0 a1 a2 μ = some r) : qGood false base D ca cv 3 207 [.ref a0, .ref a1, .int a2] μ r := by
  unfold fX8_beginsOne at h
  split at h
  · rename_i hk0
    exact qgood_of (by decide) (by omega) hcv (Or.inr ⟨by decide +kernel, hk0⟩) npX8_beginsOne rfl (Nat.le_of_ble_eq_true rfl) rfl (qblk_ev2 (cf := cfX8_beginsOne) (st := (fun n => qin [] n)) (K := (fun pc L S μ => none)) (cd := qcX8_beginsOne) (M := 207) (d0 := 2) rfl qcok_X8_beginsOne (Nat.le_refl _) (hcX8_beginsOne hcv) (by
    intro pc L S μ r h
    cases h) 400 (pc := 0) (L := qent [.ref a0, .ref a1, .int a2] 3) (S := []) h)
  · cases h
theorem gaX8_beginsOne {base : Nat} {D : va_G} {ca : Nat → ClassId} {cv : Nat → Value} (hcv : ∀ j, (cv j).category = 1) {l : List Value} {μ : qM} {r : qR} (h : aX8_beginsOne l μ = some r) : qGood false base D ca cv 3 207 l μ r := by
  unfold aX8_beginsOne at h
  split at h
  · exact gdX8_beginsOne hcv h
  · cases h
noncomputable def fX8_worksOne (a0 : Nat) (a1 : Int32) (a2 : Int32) (μ : qM) : Option qR :=
  qbnd (fX8_isOwner a1 μ) fun r1 =>
  if r1.1 = 0 then
    some ((-1 : Int32), 0, r1.2.2)
  else
    qbnd (fX8_in (a2).toInt64 (1 : Int64) (9 : Int64) r1.2.2) fun r2 =>
    if r2.1 = 0 then
      some ((-1 : Int32), 0, r2.2.2)
    else
      qbnd (oLdI 20 r2.2.2 a0 ((680 : Int32) + a1)) fun v3 =>
      if v3 = (1 : Int32) then
        qbnd (oLdI 20 r2.2.2 a0 ((696 : Int32) + a1)) fun v4 =>
        qbnd (oStI 20 r2.2.2 a0 ((696 : Int32) + a1) (if (v4 + a2) < (99 : Int32) then (v4 + a2) else (99 : Int32))) fun μ5 =>
        qbnd (oLdI 20 μ5 a0 ((696 : Int32) + a1)) fun v6 =>
        some (v6, 0, μ5)
      else
        qbnd (oLdI 20 r2.2.2 a0 ((680 : Int32) + a1)) fun v7 =>
        if v7 = 0 then
          some ((-2 : Int32), 0, r2.2.2)
        else
          some ((-3 : Int32), 0, r2.2.2)
noncomputable def aX8_worksOne (l : List Value) (μ : qM) : Option qR := match l with
  | [.ref x0, .int x1, .int x2] => fX8_worksOne x0 x1 x2 μ
  | _ => none
noncomputable def cfX8_worksOne : qF := fun n l μ => if n = 171 then aX8_isOwner l μ else if n = 141 then aX8_in l μ else none
theorem hcX8_worksOne {base : Nat} {D : va_G} {ca : Nat → ClassId} {cv : Nat → Value} (hcv : ∀ j, (cv j).category = 1) : ∀ M as μ r, cfX8_worksOne M as μ = some r → qGood false base D ca cv 2 M as μ r := by
  intro M as μ r h
  unfold cfX8_worksOne at h
  split at h
  · rename_i e; subst e; exact (gaX8_isOwner hcv h).mono (by omega)
  split at h
  · rename_i e; subst e; exact (gaX8_in hcv h).mono (by omega)
  cases h
theorem npX8_worksOne : (parseMethodDescriptor (qmy 208).desc).map (fun d => d.parameters.length) = some 3 := by decide +kernel
set_option maxRecDepth 100000 in
theorem gdX8_worksOne {base : Nat} {D : va_G} {ca : Nat → ClassId} {cv : Nat → Value} (hcv : ∀ j, (cv j).category = 1) {a0 : Nat} {a1 : Int32} {a2 : Int32} {μ : qM} {r : qR} (h : fX8_worksOne a0 a1 a2 μ = some r) : qGood false base D ca cv 3 208 [.ref a0, .int a1, .int a2] μ r := by
  exact qgood_of (by decide) (by omega) hcv (Or.inl rfl) npX8_worksOne rfl (Nat.le_of_ble_eq_true rfl) rfl (qblk_ev2 (cf := cfX8_worksOne) (st := (fun n => qin [] n)) (K := (fun pc L S μ => none)) (cd := qcX8_worksOne) (M := 208) (d0 := 2) rfl qcok_X8_worksOne (Nat.le_refl _) (hcX8_worksOne hcv) (by
    intro pc L S μ r h
    cases h) 400 (pc := 0) (L := qent [.ref a0, .int a1, .int a2] 3) (S := []) h)
theorem gaX8_worksOne {base : Nat} {D : va_G} {ca : Nat → ClassId} {cv : Nat → Value} (hcv : ∀ j, (cv j).category = 1) {l : List Value} {μ : qM} {r : qR} (h : aX8_worksOne l μ = some r) : qGood false base D ca cv 3 208 l μ r := by
  unfold aX8_worksOne at h
  split at h
  · exact gdX8_worksOne hcv h
  · cases h
noncomputable def gX8_unlocksOne (a0 : Nat) (a1 : Nat) (a2 : Int32) (a3 : Int32) (μ : qM) : Option qR :=
  qbnd (fX8_isOwner a2 μ) fun r1 =>
  if r1.1 = 0 then
    some ((-1 : Int32), 0, r1.2.2)
  else
    qbnd (fX8_isPlace a3 r1.2.2) fun r2 =>
    if r2.1 = 0 then
      some ((-1 : Int32), 0, r2.2.2)
    else
      qbnd (oLdI 20 r2.2.2 a1 ((680 : Int32) + a2)) fun v3 =>
      if v3 = (1 : Int32) then
        qbnd (fX8_held a1 a2 a3 r2.2.2) fun r4 =>
        if r4.1 = 0 then
          some ((-4 : Int32), 0, r4.2.2)
        else
          qbnd (fX8_belowMany a1 a2 a3 r4.2.2) fun r5 =>
          if r5.1 ≤ 0 then
            qbnd (fX8_so a1 (2 : Int32) r5.2.2) fun r6 =>
            qbnd (fX8_holdsNow a1 a2 a3 (0 : Int32) r6.2.2) fun r7 =>
            qbnd (fX8_serves (sX8_serves qdp) a0 a1 a3 r7.2.2) fun r8 =>
            qbnd (fX8_so a1 (1 : Int32) r8.2.2) fun r9 =>
            qbnd (fJ6_bitCount_0f7a4 (r6.1 &&& r9.1) r9.2.2) fun r10 =>
            some (r10.1, 0, r10.2.2)
          else
            some ((-5 : Int32), 0, r5.2.2)
      else
        qbnd (oLdI 20 r2.2.2 a1 ((680 : Int32) + a2)) fun v11 =>
        if v11 = 0 then
          some ((-2 : Int32), 0, r2.2.2)
        else
          some ((-3 : Int32), 0, r2.2.2)
noncomputable def fX8_unlocksOne (a0 : Nat) (a1 : Nat) (a2 : Int32) (a3 : Int32) (μ : qM) : Option qR := if (qk μ a0).1 = 8 then gX8_unlocksOne a0 a1 a2 a3 μ else none
noncomputable def aX8_unlocksOne (l : List Value) (μ : qM) : Option qR := match l with
  | [.ref x0, .ref x1, .int x2, .int x3] => fX8_unlocksOne x0 x1 x2 x3 μ
  | _ => none
noncomputable def cfX8_unlocksOne : qF := fun n l μ => if n = 171 then aX8_isOwner l μ else if n = 147 then aX8_isPlace l μ else if n = 172 then aX8_held l μ else if n = 200 then aX8_belowMany l μ else if n = 175 then aX8_so l μ else if n = 190 then aX8_holdsNow l μ else if n = 205 then aX8_serves (sX8_serves qdp) l μ else if n = 267 then aJ6_bitCount_0f7a4 l μ else none
theorem hcX8_unlocksOne {base : Nat} {D : va_G} {ca : Nat → ClassId} {cv : Nat → Value} (hcv : ∀ j, (cv j).category = 1) : ∀ M as μ r, cfX8_unlocksOne M as μ = some r → qGood false base D ca cv 1004 M as μ r := by
  intro M as μ r h
  unfold cfX8_unlocksOne at h
  split at h
  · rename_i e; subst e; exact (gaX8_isOwner hcv h).mono (by omega)
  split at h
  · rename_i e; subst e; exact (gaX8_isPlace hcv h).mono (by omega)
  split at h
  · rename_i e; subst e; exact (gaX8_held hcv h).mono (by omega)
  split at h
  · rename_i e; subst e; exact (gaX8_belowMany hcv h).mono (by omega)
  split at h
  · rename_i e; subst e; exact (gaX8_so hcv h).mono (by omega)
  split at h
  · rename_i e; subst e; exact (gaX8_holdsNow hcv h).mono (by omega)
  split at h
  · rename_i e; subst e; exact (gssX8_serves_X8_serves hcv h).mono (by omega)
  split at h
  · rename_i e; subst e; exact (gaJ6_bitCount_0f7a4 hcv h).mono (by omega)
  cases h
theorem npX8_unlocksOne : (parseMethodDescriptor (qmy 209).desc).map (fun d => d.parameters.length) = some 3 := by decide +kernel
set_option maxRecDepth 100000 in
theorem gdX8_unlocksOne {base : Nat} {D : va_G} {ca : Nat → ClassId} {cv : Nat → Value} (hcv : ∀ j, (cv j).category = 1) {a0 : Nat} {a1 : Nat} {a2 : Int32} {a3 : Int32} {μ : qM} {r : qR} (h : fX8_unlocksOne a0 a1 a2 a3 μ = some r) : qGood false base D ca cv 1005 209 [.ref a0, .ref a1, .int a2, .int a3] μ r := by
  unfold fX8_unlocksOne at h
  split at h
  · rename_i hk0
    exact qgood_of (by decide) (by omega) hcv (Or.inr ⟨by decide +kernel, hk0⟩) npX8_unlocksOne rfl (Nat.le_of_ble_eq_true rfl) rfl (qblk_ev2 (cf := cfX8_unlocksOne) (st := (fun n => qin [] n)) (K := (fun pc L S μ => none)) (cd := qcX8_unlocksOne) (M := 209) (d0 := 1004) rfl qcok_X8_unlocksOne (Nat.le_refl _) (hcX8_unlocksOne hcv) (by
    intro pc L S μ r h
    cases h) 400 (pc := 0) (L := qent [.ref a0, .ref a1, .int a2, .int a3] 5) (S := []) h)
  · cases h
theorem gaX8_unlocksOne {base : Nat} {D : va_G} {ca : Nat → ClassId} {cv : Nat → Value} (hcv : ∀ j, (cv j).category = 1) {l : List Value} {μ : qM} {r : qR} (h : aX8_unlocksOne l μ = some r) : qGood false base D ca cv 1005 209 l μ r := by
  unfold aX8_unlocksOne at h
  split at h
  · exact gdX8_unlocksOne hcv h
  · cases h
noncomputable def fX8_goes_49 (k8 : Nat → Nat → Int32 → Int64 → Int64 → Int32 → Int32 → qM → Option qR) (x0 : Nat) (x1 : Nat) (x2 : Int32) (x3 : Int64) (x7 : Int32) (x8 : Int32) (x9 : Int32) (s0 : Int64) (s1 : Int64) (μ : qM) : Option qR :=
  qbnd (fX8_flag x9 μ) fun r1 =>
  k8 x0 x1 x2 x3 (s1 ||| s0) (x7 + r1.1) (x8 + (1 : Int32)) r1.2.2
noncomputable def fX8_goes_36 (k8 : Nat → Nat → Int32 → Int64 → Int64 → Int32 → Int32 → qM → Option qR) (x0 : Nat) (x1 : Nat) (x2 : Int32) (x5 : Int64) (x7 : Int32) (x8 : Int32) (x9 : Int32) (s0 : Int64) (s1 : Int64) (μ : qM) : Option qR :=
  if (64 : Int32) ≤ x8 then
    fX8_goes_49 k8 x0 x1 x2 (s1 ||| s0) x7 x8 x9 ((1 : Int64) <<< (((x8 - (64 : Int32))).toInt64 &&& 63)) x5 μ
  else
    fX8_goes_49 k8 x0 x1 x2 (s1 ||| s0) x7 x8 x9 (0 : Int64) x5 μ
noncomputable def fX8_goes_27 (k8 : Nat → Nat → Int32 → Int64 → Int64 → Int32 → Int32 → qM → Option qR) (x0 : Nat) (x1 : Nat) (x2 : Int32) (x3 : Int64) (x5 : Int64) (x7 : Int32) (x8 : Int32) (x9 : Int32) (μ : qM) : Option qR :=
  if (64 : Int32) ≤ x8 then
    fX8_goes_36 k8 x0 x1 x2 x5 x7 x8 x9 (0 : Int64) x3 μ
  else
    fX8_goes_36 k8 x0 x1 x2 x5 x7 x8 x9 ((1 : Int64) <<< ((x8).toInt64 &&& 63)) x3 μ
noncomputable def fX8_goes_19 (k8 : Nat → Nat → Int32 → Int64 → Int64 → Int32 → Int32 → qM → Option qR) (x0 : Nat) (x1 : Nat) (x2 : Int32) (x3 : Int64) (x5 : Int64) (x7 : Int32) (x8 : Int32) (s0 : Int32) (μ : qM) : Option qR :=
  if s0 = 0 then
    qbnd (fX8_isIn x1 x2 x8 μ) fun r1 =>
    if r1.1 = 0 then
      qbnd (fX8_flag s0 r1.2.2) fun r2 =>
      k8 x0 x1 x2 x3 x5 (x7 + r2.1) (x8 + (1 : Int32)) r2.2.2
    else
      fX8_goes_27 k8 x0 x1 x2 x3 x5 x7 x8 s0 r1.2.2
  else
    fX8_goes_27 k8 x0 x1 x2 x3 x5 x7 x8 s0 μ
noncomputable def fX8_goes_60 : Nat → Nat → Nat → Int32 → Int64 → Int64 → Int32 → Int32 → qM → Option qR
  | 0 => fun _ _ _ _ _ _ _ _ => none
  | n + 1 => fun x0 x1 x2 x3 x5 x7 x8 μ =>
    if (85 : Int32) ≤ x8 then
      qbnd (oStI 20 μ x1 ((680 : Int32) + x2) (0 : Int32)) fun μ1 =>
      qbnd (oStI 20 μ1 x1 ((712 : Int32) + x2) (85 : Int32)) fun μ2 =>
      qbnd (oStI 20 μ2 x1 ((688 : Int32) + x2) (0 : Int32)) fun μ3 =>
      qbnd (oStI 20 μ3 x1 ((696 : Int32) + x2) (0 : Int32)) fun μ4 =>
      qbnd (fX8_servesAll (sX8_serves qdp) x0 x1 x3 x5 μ4) fun r5 =>
      some (x7, 0, r5.2.2)
    else
      qbnd (fX8_holdsNow x1 x2 x8 (0 : Int32) μ) fun r6 =>
      fX8_goes_60 n x0 x1 x2 x3 x5 x7 (x8 + (1 : Int32)) r6.2.2
noncomputable def fX8_goes_8 : Nat → Nat → Nat → Int32 → Int64 → Int64 → Int32 → Int32 → qM → Option qR
  | 0 => fun _ _ _ _ _ _ _ _ => none
  | n + 1 => fun x0 x1 x2 x3 x5 x7 x8 μ =>
    if (85 : Int32) ≤ x8 then
      fX8_goes_60 qfu x0 x1 x2 x3 x5 x7 (0 : Int32) μ
    else
      qbnd (fX8_held x1 x2 x8 μ) fun r1 =>
      if r1.1 ≤ 0 then
        fX8_goes_19 (fX8_goes_8 n) x0 x1 x2 x3 x5 x7 x8 (0 : Int32) r1.2.2
      else
        fX8_goes_19 (fX8_goes_8 n) x0 x1 x2 x3 x5 x7 x8 (1 : Int32) r1.2.2
noncomputable def gX8_goes (a0 : Nat) (a1 : Nat) (a2 : Int32) (μ : qM) : Option qR :=
  fX8_goes_8 qfu a0 a1 a2 (0 : Int64) (0 : Int64) (0 : Int32) (0 : Int32) μ
noncomputable def fX8_goes (a0 : Nat) (a1 : Nat) (a2 : Int32) (μ : qM) : Option qR := if (qk μ a0).1 = 8 then gX8_goes a0 a1 a2 μ else none
noncomputable def aX8_goes (l : List Value) (μ : qM) : Option qR := match l with
  | [.ref x0, .ref x1, .int x2] => fX8_goes x0 x1 x2 μ
  | _ => none
noncomputable def cfX8_goes : qF := fun n l μ => if n = 172 then aX8_held l μ else if n = 178 then aX8_isIn l μ else if n = 143 then aX8_flag l μ else if n = 190 then aX8_holdsNow l μ else if n = 204 then aX8_servesAll (sX8_serves qdp) l μ else none
theorem hcX8_goes {base : Nat} {D : va_G} {ca : Nat → ClassId} {cv : Nat → Value} (hcv : ∀ j, (cv j).category = 1) : ∀ M as μ r, cfX8_goes M as μ = some r → qGood false base D ca cv 1001 M as μ r := by
  intro M as μ r h
  unfold cfX8_goes at h
  split at h
  · rename_i e; subst e; exact (gaX8_held hcv h).mono (by omega)
  split at h
  · rename_i e; subst e; exact (gaX8_isIn hcv h).mono (by omega)
  split at h
  · rename_i e; subst e; exact (gaX8_flag hcv h).mono (by omega)
  split at h
  · rename_i e; subst e; exact (gaX8_holdsNow hcv h).mono (by omega)
  split at h
  · rename_i e; subst e; exact (gssX8_serves_X8_servesAll hcv h).mono (by omega)
  cases h
def jX8_goes_8 (f : Nat → Nat → Int32 → Int64 → Int64 → Int32 → Int32 → qM → Option qR) (L S : List Value) (μ : qM) : Option qR := match L, S with
  | [.ref x0, .ref x1, .int x2, .long x3, _, .long x5, _, .int x7, .int x8, _], [] => f x0 x1 x2 x3 x5 x7 x8 μ
  | _, _ => none
theorem jeX8_goes_8 {base : Nat} {D : va_G} {ca : Nat → ClassId} {cv : Nat → Value} {d : Nat} {f : Nat → Nat → Int32 → Int64 → Int64 → Int32 → Int32 → qM → Option qR} (hf : ∀ (x0 : Nat) (x1 : Nat) (x2 : Int32) (x3 : Int64) (x5 : Int64) (x7 : Int32) (x8 : Int32) (μ : qM) (r : qR), f x0 x1 x2 x3 x5 x7 x8 μ = some r → qEv false base D ca cv d 210 r 8 [.ref x0, .ref x1, .int x2, .long x3, .null, .long x5, .null, .int x7, .int x8, .null] [] μ) {L S : List Value} {μ : qM} {r : qR} (h : jX8_goes_8 f L S μ = some r) : qEv false base D ca cv d 210 r 8 L S μ := by
  unfold jX8_goes_8 at h
  split at h
  · exact (hf _ _ _ _ _ _ _ _ _ h).le rfl ⟨Or.inr rfl, Or.inr rfl, Or.inr rfl, Or.inr rfl, Or.inl rfl, Or.inr rfl, Or.inl rfl, Or.inr rfl, Or.inr rfl, Or.inl rfl, trivial⟩
  · cases h
def jX8_goes_19 (f : Nat → Nat → Int32 → Int64 → Int64 → Int32 → Int32 → Int32 → qM → Option qR) (L S : List Value) (μ : qM) : Option qR := match L, S with
  | [.ref x0, .ref x1, .int x2, .long x3, _, .long x5, _, .int x7, .int x8, _], [.int s0] => f x0 x1 x2 x3 x5 x7 x8 s0 μ
  | _, _ => none
theorem jeX8_goes_19 {base : Nat} {D : va_G} {ca : Nat → ClassId} {cv : Nat → Value} {d : Nat} {f : Nat → Nat → Int32 → Int64 → Int64 → Int32 → Int32 → Int32 → qM → Option qR} (hf : ∀ (x0 : Nat) (x1 : Nat) (x2 : Int32) (x3 : Int64) (x5 : Int64) (x7 : Int32) (x8 : Int32) (s0 : Int32) (μ : qM) (r : qR), f x0 x1 x2 x3 x5 x7 x8 s0 μ = some r → qEv false base D ca cv d 210 r 19 [.ref x0, .ref x1, .int x2, .long x3, .null, .long x5, .null, .int x7, .int x8, .null] [.int s0] μ) {L S : List Value} {μ : qM} {r : qR} (h : jX8_goes_19 f L S μ = some r) : qEv false base D ca cv d 210 r 19 L S μ := by
  unfold jX8_goes_19 at h
  split at h
  · exact (hf _ _ _ _ _ _ _ _ _ _ h).le rfl ⟨Or.inr rfl, Or.inr rfl, Or.inr rfl, Or.inr rfl, Or.inl rfl, Or.inr rfl, Or.inl rfl, Or.inr rfl, Or.inr rfl, Or.inl rfl, trivial⟩
  · cases h
def jX8_goes_27 (f : Nat → Nat → Int32 → Int64 → Int64 → Int32 → Int32 → Int32 → qM → Option qR) (L S : List Value) (μ : qM) : Option qR := match L, S with
  | [.ref x0, .ref x1, .int x2, .long x3, _, .long x5, _, .int x7, .int x8, .int x9], [] => f x0 x1 x2 x3 x5 x7 x8 x9 μ
  | _, _ => none
theorem jeX8_goes_27 {base : Nat} {D : va_G} {ca : Nat → ClassId} {cv : Nat → Value} {d : Nat} {f : Nat → Nat → Int32 → Int64 → Int64 → Int32 → Int32 → Int32 → qM → Option qR} (hf : ∀ (x0 : Nat) (x1 : Nat) (x2 : Int32) (x3 : Int64) (x5 : Int64) (x7 : Int32) (x8 : Int32) (x9 : Int32) (μ : qM) (r : qR), f x0 x1 x2 x3 x5 x7 x8 x9 μ = some r → qEv false base D ca cv d 210 r 27 [.ref x0, .ref x1, .int x2, .long x3, .null, .long x5, .null, .int x7, .int x8, .int x9] [] μ) {L S : List Value} {μ : qM} {r : qR} (h : jX8_goes_27 f L S μ = some r) : qEv false base D ca cv d 210 r 27 L S μ := by
  unfold jX8_goes_27 at h
  split at h
  · exact (hf _ _ _ _ _ _ _ _ _ _ h).le rfl ⟨Or.inr rfl, Or.inr rfl, Or.inr rfl, Or.inr rfl, Or.inl rfl, Or.inr rfl, Or.inl rfl, Or.inr rfl, Or.inr rfl, Or.inr rfl, trivial⟩
  · cases h
def jX8_goes_36 (f : Nat → Nat → Int32 → Int64 → Int32 → Int32 → Int32 → Int64 → Int64 → qM → Option qR) (L S : List Value) (μ : qM) : Option qR := match L, S with
  | [.ref x0, .ref x1, .int x2, _, _, .long x5, _, .int x7, .int x8, .int x9], [.long s0, .long s1] => f x0 x1 x2 x5 x7 x8 x9 s0 s1 μ
  | _, _ => none
theorem jeX8_goes_36 {base : Nat} {D : va_G} {ca : Nat → ClassId} {cv : Nat → Value} {d : Nat} {f : Nat → Nat → Int32 → Int64 → Int32 → Int32 → Int32 → Int64 → Int64 → qM → Option qR} (hf : ∀ (x0 : Nat) (x1 : Nat) (x2 : Int32) (x5 : Int64) (x7 : Int32) (x8 : Int32) (x9 : Int32) (s0 : Int64) (s1 : Int64) (μ : qM) (r : qR), f x0 x1 x2 x5 x7 x8 x9 s0 s1 μ = some r → qEv false base D ca cv d 210 r 36 [.ref x0, .ref x1, .int x2, .null, .null, .long x5, .null, .int x7, .int x8, .int x9] [.long s0, .long s1] μ) {L S : List Value} {μ : qM} {r : qR} (h : jX8_goes_36 f L S μ = some r) : qEv false base D ca cv d 210 r 36 L S μ := by
  unfold jX8_goes_36 at h
  split at h
  · exact (hf _ _ _ _ _ _ _ _ _ _ _ h).le rfl ⟨Or.inr rfl, Or.inr rfl, Or.inr rfl, Or.inl rfl, Or.inl rfl, Or.inr rfl, Or.inl rfl, Or.inr rfl, Or.inr rfl, Or.inr rfl, trivial⟩
  · cases h
def jX8_goes_49 (f : Nat → Nat → Int32 → Int64 → Int32 → Int32 → Int32 → Int64 → Int64 → qM → Option qR) (L S : List Value) (μ : qM) : Option qR := match L, S with
  | [.ref x0, .ref x1, .int x2, .long x3, _, _, _, .int x7, .int x8, .int x9], [.long s0, .long s1] => f x0 x1 x2 x3 x7 x8 x9 s0 s1 μ
  | _, _ => none
theorem jeX8_goes_49 {base : Nat} {D : va_G} {ca : Nat → ClassId} {cv : Nat → Value} {d : Nat} {f : Nat → Nat → Int32 → Int64 → Int32 → Int32 → Int32 → Int64 → Int64 → qM → Option qR} (hf : ∀ (x0 : Nat) (x1 : Nat) (x2 : Int32) (x3 : Int64) (x7 : Int32) (x8 : Int32) (x9 : Int32) (s0 : Int64) (s1 : Int64) (μ : qM) (r : qR), f x0 x1 x2 x3 x7 x8 x9 s0 s1 μ = some r → qEv false base D ca cv d 210 r 49 [.ref x0, .ref x1, .int x2, .long x3, .null, .null, .null, .int x7, .int x8, .int x9] [.long s0, .long s1] μ) {L S : List Value} {μ : qM} {r : qR} (h : jX8_goes_49 f L S μ = some r) : qEv false base D ca cv d 210 r 49 L S μ := by
  unfold jX8_goes_49 at h
  split at h
  · exact (hf _ _ _ _ _ _ _ _ _ _ _ h).le rfl ⟨Or.inr rfl, Or.inr rfl, Or.inr rfl, Or.inr rfl, Or.inl rfl, Or.inl rfl, Or.inl rfl, Or.inr rfl, Or.inr rfl, Or.inr rfl, trivial⟩
  · cases h
def jX8_goes_60 (f : Nat → Nat → Int32 → Int64 → Int64 → Int32 → Int32 → qM → Option qR) (L S : List Value) (μ : qM) : Option qR := match L, S with
  | [.ref x0, .ref x1, .int x2, .long x3, _, .long x5, _, .int x7, .int x8, _], [] => f x0 x1 x2 x3 x5 x7 x8 μ
  | _, _ => none
theorem jeX8_goes_60 {base : Nat} {D : va_G} {ca : Nat → ClassId} {cv : Nat → Value} {d : Nat} {f : Nat → Nat → Int32 → Int64 → Int64 → Int32 → Int32 → qM → Option qR} (hf : ∀ (x0 : Nat) (x1 : Nat) (x2 : Int32) (x3 : Int64) (x5 : Int64) (x7 : Int32) (x8 : Int32) (μ : qM) (r : qR), f x0 x1 x2 x3 x5 x7 x8 μ = some r → qEv false base D ca cv d 210 r 60 [.ref x0, .ref x1, .int x2, .long x3, .null, .long x5, .null, .int x7, .int x8, .null] [] μ) {L S : List Value} {μ : qM} {r : qR} (h : jX8_goes_60 f L S μ = some r) : qEv false base D ca cv d 210 r 60 L S μ := by
  unfold jX8_goes_60 at h
  split at h
  · exact (hf _ _ _ _ _ _ _ _ _ h).le rfl ⟨Or.inr rfl, Or.inr rfl, Or.inr rfl, Or.inr rfl, Or.inl rfl, Or.inr rfl, Or.inl rfl, Or.inr rfl, Or.inr rfl, Or.inl rfl, trivial⟩
  · cases h
set_option maxRecDepth 100000 in
theorem lbX8_goes_49 {base : Nat} {D : va_G} {ca : Nat → ClassId} {cv : Nat → Value} (hcv : ∀ j, (cv j).category = 1) {k8 : Nat → Nat → Int32 → Int64 → Int64 → Int32 → Int32 → qM → Option qR} (hk8 : ∀ (y0 : Nat) (y1 : Nat) (y2 : Int32) (y3 : Int64) (y5 : Int64) (y7 : Int32) (y8 : Int32) (μ : qM) (r : qR), k8 y0 y1 y2 y3 y5 y7 y8 μ = some r → qEv false base D ca cv 1002 210 r 8 [.ref y0, .ref y1, .int y2, .long y3, .null, .long y5, .null, .int y7, .int y8, .null] [] μ) (x0 : Nat) (x1 : Nat) (x2 : Int32) (x3 : Int64) (x7 : Int32) (x8 : Int32) (x9 : Int32) (s0 : Int64) (s1 : Int64) (μ : qM) (r : qR) (h : fX8_goes_49 k8 x0 x1 x2 x3 x7 x8 x9 s0 s1 μ = some r) : qEv false base D ca cv 1002 210 r 49 [.ref x0, .ref x1, .int x2, .long x3, .null, .null, .null, .int x7, .int x8, .int x9] [.long s0, .long s1] μ := by
    exact qblk_ev2 (cf := cfX8_goes) (st := (fun n => qin [8, 19, 27, 36, 49, 60] n)) (K := (fun pc L S μ => if pc = 8 then jX8_goes_8 k8 L S μ else none)) (cd := qcX8_goes) (M := 210) (d0 := 1001) rfl qcok_X8_goes (Nat.le_refl _) (hcX8_goes hcv) (by
    intro pc L S μ r h
    split at h
    · rename_i e; subst e; exact jeX8_goes_8 hk8 h
    cases h) 400 (pc := 49) (L := [.ref x0, .ref x1, .int x2, .long x3, .null, .null, .null, .int x7, .int x8, .int x9]) (S := [.long s0, .long s1]) h
set_option maxRecDepth 100000 in
theorem lbX8_goes_36 {base : Nat} {D : va_G} {ca : Nat → ClassId} {cv : Nat → Value} (hcv : ∀ j, (cv j).category = 1) {k8 : Nat → Nat → Int32 → Int64 → Int64 → Int32 → Int32 → qM → Option qR} (hk8 : ∀ (y0 : Nat) (y1 : Nat) (y2 : Int32) (y3 : Int64) (y5 : Int64) (y7 : Int32) (y8 : Int32) (μ : qM) (r : qR), k8 y0 y1 y2 y3 y5 y7 y8 μ = some r → qEv false base D ca cv 1002 210 r 8 [.ref y0, .ref y1, .int y2, .long y3, .null, .long y5, .null, .int y7, .int y8, .null] [] μ) (x0 : Nat) (x1 : Nat) (x2 : Int32) (x5 : Int64) (x7 : Int32) (x8 : Int32) (x9 : Int32) (s0 : Int64) (s1 : Int64) (μ : qM) (r : qR) (h : fX8_goes_36 k8 x0 x1 x2 x5 x7 x8 x9 s0 s1 μ = some r) : qEv false base D ca cv 1002 210 r 36 [.ref x0, .ref x1, .int x2, .null, .null, .long x5, .null, .int x7, .int x8, .int x9] [.long s0, .long s1] μ := by
    exact qblk_ev2 (cf := cfX8_goes) (st := (fun n => qin [8, 19, 27, 36, 49, 60] n)) (K := (fun pc L S μ => if pc = 49 then jX8_goes_49 (fX8_goes_49 k8) L S μ else none)) (cd := qcX8_goes) (M := 210) (d0 := 1001) rfl qcok_X8_goes (Nat.le_refl _) (hcX8_goes hcv) (by
    intro pc L S μ r h
    split at h
    · rename_i e; subst e; exact jeX8_goes_49 (lbX8_goes_49 hcv hk8) h
    cases h) 400 (pc := 36) (L := [.ref x0, .ref x1, .int x2, .null, .null, .long x5, .null, .int x7, .int x8, .int x9]) (S := [.long s0, .long s1]) h
set_option maxRecDepth 100000 in
theorem lbX8_goes_27 {base : Nat} {D : va_G} {ca : Nat → ClassId} {cv : Nat → Value} (hcv : ∀ j, (cv j).category = 1) {k8 : Nat → Nat → Int32 → Int64 → Int64 → Int32 → Int32 → qM → Option qR} (hk8 : ∀ (y0 : Nat) (y1 : Nat) (y2 : Int32) (y3 : Int64) (y5 : Int64) (y7 : Int32) (y8 : Int32) (μ : qM) (r : qR), k8 y0 y1 y2 y3 y5 y7 y8 μ = some r → qEv false base D ca cv 1002 210 r 8 [.ref y0, .ref y1, .int y2, .long y3, .null, .long y5, .null, .int y7, .int y8, .null] [] μ) (x0 : Nat) (x1 : Nat) (x2 : Int32) (x3 : Int64) (x5 : Int64) (x7 : Int32) (x8 : Int32) (x9 : Int32) (μ : qM) (r : qR) (h : fX8_goes_27 k8 x0 x1 x2 x3 x5 x7 x8 x9 μ = some r) : qEv false base D ca cv 1002 210 r 27 [.ref x0, .ref x1, .int x2, .long x3, .null, .long x5, .null, .int x7, .int x8, .int x9] [] μ := by
    exact qblk_ev2 (cf := cfX8_goes) (st := (fun n => qin [8, 19, 27, 36, 49, 60] n)) (K := (fun pc L S μ => if pc = 36 then jX8_goes_36 (fX8_goes_36 k8) L S μ else none)) (cd := qcX8_goes) (M := 210) (d0 := 1001) rfl qcok_X8_goes (Nat.le_refl _) (hcX8_goes hcv) (by
    intro pc L S μ r h
    split at h
    · rename_i e; subst e; exact jeX8_goes_36 (lbX8_goes_36 hcv hk8) h
    cases h) 400 (pc := 27) (L := [.ref x0, .ref x1, .int x2, .long x3, .null, .long x5, .null, .int x7, .int x8, .int x9]) (S := []) h
set_option maxRecDepth 100000 in
theorem lbX8_goes_19 {base : Nat} {D : va_G} {ca : Nat → ClassId} {cv : Nat → Value} (hcv : ∀ j, (cv j).category = 1) {k8 : Nat → Nat → Int32 → Int64 → Int64 → Int32 → Int32 → qM → Option qR} (hk8 : ∀ (y0 : Nat) (y1 : Nat) (y2 : Int32) (y3 : Int64) (y5 : Int64) (y7 : Int32) (y8 : Int32) (μ : qM) (r : qR), k8 y0 y1 y2 y3 y5 y7 y8 μ = some r → qEv false base D ca cv 1002 210 r 8 [.ref y0, .ref y1, .int y2, .long y3, .null, .long y5, .null, .int y7, .int y8, .null] [] μ) (x0 : Nat) (x1 : Nat) (x2 : Int32) (x3 : Int64) (x5 : Int64) (x7 : Int32) (x8 : Int32) (s0 : Int32) (μ : qM) (r : qR) (h : fX8_goes_19 k8 x0 x1 x2 x3 x5 x7 x8 s0 μ = some r) : qEv false base D ca cv 1002 210 r 19 [.ref x0, .ref x1, .int x2, .long x3, .null, .long x5, .null, .int x7, .int x8, .null] [.int s0] μ := by
    exact qblk_ev2 (cf := cfX8_goes) (st := (fun n => qin [8, 19, 27, 36, 49, 60] n)) (K := (fun pc L S μ => if pc = 8 then jX8_goes_8 k8 L S μ else if pc = 27 then jX8_goes_27 (fX8_goes_27 k8) L S μ else none)) (cd := qcX8_goes) (M := 210) (d0 := 1001) rfl qcok_X8_goes (Nat.le_refl _) (hcX8_goes hcv) (by
    intro pc L S μ r h
    split at h
    · rename_i e; subst e; exact jeX8_goes_8 hk8 h
    split at h
    · rename_i e; subst e; exact jeX8_goes_27 (lbX8_goes_27 hcv hk8) h
    cases h) 400 (pc := 19) (L := [.ref x0, .ref x1, .int x2, .long x3, .null, .long x5, .null, .int x7, .int x8, .null]) (S := [.int s0]) h
set_option maxRecDepth 100000 in
theorem lbX8_goes_60 {base : Nat} {D : va_G} {ca : Nat → ClassId} {cv : Nat → Value} (hcv : ∀ j, (cv j).category = 1) : ∀ (n : Nat) (x0 : Nat) (x1 : Nat) (x2 : Int32) (x3 : Int64) (x5 : Int64) (x7 : Int32) (x8 : Int32) (μ : qM) (r : qR), fX8_goes_60 n x0 x1 x2 x3 x5 x7 x8 μ = some r → qEv false base D ca cv 1002 210 r 60 [.ref x0, .ref x1, .int x2, .long x3, .null, .long x5, .null, .int x7, .int x8, .null] [] μ := by
  intro n
  induction n with
  | zero => intro x0 x1 x2 x3 x5 x7 x8 μ r h; cases (show (none : Option qR) = some r from h)
  | succ n ih =>
    intro x0 x1 x2 x3 x5 x7 x8 μ r h
    exact qblk_ev2 (cf := cfX8_goes) (st := (fun n => qin [8, 19, 27, 36, 49, 60] n)) (K := (fun pc L S μ => if pc = 60 then jX8_goes_60 (fX8_goes_60 n) L S μ else none)) (cd := qcX8_goes) (M := 210) (d0 := 1001) rfl qcok_X8_goes (Nat.le_refl _) (hcX8_goes hcv) (by
    intro pc L S μ r h
    split at h
    · rename_i e; subst e; exact jeX8_goes_60 ih h
    cases h) 400 (pc := 60) (L := [.ref x0, .ref x1, .int x2, .long x3, .null, .long x5, .null, .int x7, .int x8, .null]) (S := []) h
set_option maxRecDepth 100000 in
theorem lbX8_goes_8 {base : Nat} {D : va_G} {ca : Nat → ClassId} {cv : Nat → Value} (hcv : ∀ j, (cv j).category = 1) : ∀ (n : Nat) (x0 : Nat) (x1 : Nat) (x2 : Int32) (x3 : Int64) (x5 : Int64) (x7 : Int32) (x8 : Int32) (μ : qM) (r : qR), fX8_goes_8 n x0 x1 x2 x3 x5 x7 x8 μ = some r → qEv false base D ca cv 1002 210 r 8 [.ref x0, .ref x1, .int x2, .long x3, .null, .long x5, .null, .int x7, .int x8, .null] [] μ := by
  intro n
  induction n with
  | zero => intro x0 x1 x2 x3 x5 x7 x8 μ r h; cases (show (none : Option qR) = some r from h)
  | succ n ih =>
    intro x0 x1 x2 x3 x5 x7 x8 μ r h
    exact qblk_ev2 (cf := cfX8_goes) (st := (fun n => qin [8, 19, 27, 36, 49, 60] n)) (K := (fun pc L S μ => if pc = 19 then jX8_goes_19 (fX8_goes_19 (fX8_goes_8 n)) L S μ else if pc = 60 then jX8_goes_60 (fX8_goes_60 qfu) L S μ else none)) (cd := qcX8_goes) (M := 210) (d0 := 1001) rfl qcok_X8_goes (Nat.le_refl _) (hcX8_goes hcv) (by
    intro pc L S μ r h
    split at h
    · rename_i e; subst e; exact jeX8_goes_19 (lbX8_goes_19 hcv ih) h
    split at h
    · rename_i e; subst e; exact jeX8_goes_60 (lbX8_goes_60 hcv qfu) h
    cases h) 400 (pc := 8) (L := [.ref x0, .ref x1, .int x2, .long x3, .null, .long x5, .null, .int x7, .int x8, .null]) (S := []) h
theorem npX8_goes : (parseMethodDescriptor (qmy 210).desc).map (fun d => d.parameters.length) = some 2 := by decide +kernel
set_option maxRecDepth 100000 in
theorem gdX8_goes {base : Nat} {D : va_G} {ca : Nat → ClassId} {cv : Nat → Value} (hcv : ∀ j, (cv j).category = 1) {a0 : Nat} {a1 : Nat} {a2 : Int32} {μ : qM} {r : qR} (h : fX8_goes a0 a1 a2 μ = some r) : qGood false base D ca cv 1002 210 [.ref a0, .ref a1, .int a2] μ r := by
  unfold fX8_goes at h
  split at h
  · rename_i hk0
    exact qgood_of (by decide) (by omega) hcv (Or.inr ⟨by decide +kernel, hk0⟩) npX8_goes rfl (Nat.le_of_ble_eq_true rfl) rfl (qblk_ev2 (cf := cfX8_goes) (st := (fun n => qin [8, 19, 27, 36, 49, 60] n)) (K := (fun pc L S μ => if pc = 8 then jX8_goes_8 (fX8_goes_8 qfu) L S μ else none)) (cd := qcX8_goes) (M := 210) (d0 := 1001) rfl qcok_X8_goes (Nat.le_refl _) (hcX8_goes hcv) (by
    intro pc L S μ r h
    split at h
    · rename_i e; subst e; exact jeX8_goes_8 (lbX8_goes_8 hcv qfu) h
    cases h) 400 (pc := 0) (L := qent [.ref a0, .ref a1, .int a2] 10) (S := []) h)
  · cases h
theorem gaX8_goes {base : Nat} {D : va_G} {ca : Nat → ClassId} {cv : Nat → Value} (hcv : ∀ j, (cv j).category = 1) {l : List Value} {μ : qM} {r : qR} (h : aX8_goes l μ = some r) : qGood false base D ca cv 1002 210 l μ r := by
  unfold aX8_goes at h
  split at h
  · exact gdX8_goes hcv h
  · cases h
noncomputable def gX8_endsOne (a0 : Nat) (a1 : Nat) (a2 : Int32) (μ : qM) : Option qR :=
  qbnd (fX8_isOwner a2 μ) fun r1 =>
  if r1.1 = 0 then
    some ((-1 : Int32), 0, r1.2.2)
  else
    qbnd (oLdI 20 r1.2.2 a1 ((680 : Int32) + a2)) fun v2 =>
    if v2 = 0 then
      some ((-2 : Int32), 0, r1.2.2)
    else
      qbnd (fX8_goes a0 a1 a2 r1.2.2) fun r3 =>
      some (r3.1, 0, r3.2.2)
noncomputable def fX8_endsOne (a0 : Nat) (a1 : Nat) (a2 : Int32) (μ : qM) : Option qR := if (qk μ a0).1 = 8 then gX8_endsOne a0 a1 a2 μ else none
noncomputable def aX8_endsOne (l : List Value) (μ : qM) : Option qR := match l with
  | [.ref x0, .ref x1, .int x2] => fX8_endsOne x0 x1 x2 μ
  | _ => none
noncomputable def cfX8_endsOne : qF := fun n l μ => if n = 171 then aX8_isOwner l μ else if n = 210 then aX8_goes l μ else none
theorem hcX8_endsOne {base : Nat} {D : va_G} {ca : Nat → ClassId} {cv : Nat → Value} (hcv : ∀ j, (cv j).category = 1) : ∀ M as μ r, cfX8_endsOne M as μ = some r → qGood false base D ca cv 1002 M as μ r := by
  intro M as μ r h
  unfold cfX8_endsOne at h
  split at h
  · rename_i e; subst e; exact (gaX8_isOwner hcv h).mono (by omega)
  split at h
  · rename_i e; subst e; exact (gaX8_goes hcv h).mono (by omega)
  cases h
theorem npX8_endsOne : (parseMethodDescriptor (qmy 211).desc).map (fun d => d.parameters.length) = some 2 := by decide +kernel
set_option maxRecDepth 100000 in
theorem gdX8_endsOne {base : Nat} {D : va_G} {ca : Nat → ClassId} {cv : Nat → Value} (hcv : ∀ j, (cv j).category = 1) {a0 : Nat} {a1 : Nat} {a2 : Int32} {μ : qM} {r : qR} (h : fX8_endsOne a0 a1 a2 μ = some r) : qGood false base D ca cv 1003 211 [.ref a0, .ref a1, .int a2] μ r := by
  unfold fX8_endsOne at h
  split at h
  · rename_i hk0
    exact qgood_of (by decide) (by omega) hcv (Or.inr ⟨by decide +kernel, hk0⟩) npX8_endsOne rfl (Nat.le_of_ble_eq_true rfl) rfl (qblk_ev2 (cf := cfX8_endsOne) (st := (fun n => qin [] n)) (K := (fun pc L S μ => none)) (cd := qcX8_endsOne) (M := 211) (d0 := 1002) rfl qcok_X8_endsOne (Nat.le_refl _) (hcX8_endsOne hcv) (by
    intro pc L S μ r h
    cases h) 400 (pc := 0) (L := qent [.ref a0, .ref a1, .int a2] 3) (S := []) h)
  · cases h
theorem gaX8_endsOne {base : Nat} {D : va_G} {ca : Nat → ClassId} {cv : Nat → Value} (hcv : ∀ j, (cv j).category = 1) {l : List Value} {μ : qM} {r : qR} (h : aX8_endsOne l μ = some r) : qGood false base D ca cv 1003 211 l μ r := by
  unfold aX8_endsOne at h
  split at h
  · exact gdX8_endsOne hcv h
  · cases h
noncomputable def gX8_gathersAt (a0 : Nat) (a1 : Nat) (a2 : Int32) (a3 : Int32) (μ : qM) : Option qR :=
  qbnd (fX8_isOwner a2 μ) fun r1 =>
  if r1.1 = 0 then
    some ((-1 : Int32), 0, r1.2.2)
  else
    qbnd (fX8_in (a3).toInt64 (0 : Int64) (20 : Int64) r1.2.2) fun r2 =>
    if r2.1 = 0 then
      some ((-1 : Int32), 0, r2.2.2)
    else
      qbnd (oLdI 20 r2.2.2 a1 ((680 : Int32) + a2)) fun v3 =>
      if v3 = (1 : Int32) then
        qbnd (fX8_canGather a1 a2 a3 r2.2.2) fun r4 =>
        if r4.1 = 0 then
          some ((-4 : Int32), 0, r4.2.2)
        else
          qbnd (fX8_gathersOne (sX8_serves qdp) a0 a1 a2 a3 r4.2.2) fun r5 =>
          some (r5.1, 0, r5.2.2)
      else
        qbnd (oLdI 20 r2.2.2 a1 ((680 : Int32) + a2)) fun v6 =>
        if v6 = 0 then
          some ((-2 : Int32), 0, r2.2.2)
        else
          some ((-3 : Int32), 0, r2.2.2)
noncomputable def fX8_gathersAt (a0 : Nat) (a1 : Nat) (a2 : Int32) (a3 : Int32) (μ : qM) : Option qR := if (qk μ a0).1 = 8 then gX8_gathersAt a0 a1 a2 a3 μ else none
noncomputable def aX8_gathersAt (l : List Value) (μ : qM) : Option qR := match l with
  | [.ref x0, .ref x1, .int x2, .int x3] => fX8_gathersAt x0 x1 x2 x3 μ
  | _ => none
noncomputable def cfX8_gathersAt : qF := fun n l μ => if n = 171 then aX8_isOwner l μ else if n = 141 then aX8_in l μ else if n = 202 then aX8_canGather l μ else if n = 203 then aX8_gathersOne (sX8_serves qdp) l μ else none
theorem hcX8_gathersAt {base : Nat} {D : va_G} {ca : Nat → ClassId} {cv : Nat → Value} (hcv : ∀ j, (cv j).category = 1) : ∀ M as μ r, cfX8_gathersAt M as μ = some r → qGood false base D ca cv 1002 M as μ r := by
  intro M as μ r h
  unfold cfX8_gathersAt at h
  split at h
  · rename_i e; subst e; exact (gaX8_isOwner hcv h).mono (by omega)
  split at h
  · rename_i e; subst e; exact (gaX8_in hcv h).mono (by omega)
  split at h
  · rename_i e; subst e; exact (gaX8_canGather hcv h).mono (by omega)
  split at h
  · rename_i e; subst e; exact (gssX8_serves_X8_gathersOne hcv h).mono (by omega)
  cases h
theorem npX8_gathersAt : (parseMethodDescriptor (qmy 212).desc).map (fun d => d.parameters.length) = some 3 := by decide +kernel
set_option maxRecDepth 100000 in
theorem gdX8_gathersAt {base : Nat} {D : va_G} {ca : Nat → ClassId} {cv : Nat → Value} (hcv : ∀ j, (cv j).category = 1) {a0 : Nat} {a1 : Nat} {a2 : Int32} {a3 : Int32} {μ : qM} {r : qR} (h : fX8_gathersAt a0 a1 a2 a3 μ = some r) : qGood false base D ca cv 1003 212 [.ref a0, .ref a1, .int a2, .int a3] μ r := by
  unfold fX8_gathersAt at h
  split at h
  · rename_i hk0
    exact qgood_of (by decide) (by omega) hcv (Or.inr ⟨by decide +kernel, hk0⟩) npX8_gathersAt rfl (Nat.le_of_ble_eq_true rfl) rfl (qblk_ev2 (cf := cfX8_gathersAt) (st := (fun n => qin [] n)) (K := (fun pc L S μ => none)) (cd := qcX8_gathersAt) (M := 212) (d0 := 1002) rfl qcok_X8_gathersAt (Nat.le_refl _) (hcX8_gathersAt hcv) (by
    intro pc L S μ r h
    cases h) 400 (pc := 0) (L := qent [.ref a0, .ref a1, .int a2, .int a3] 4) (S := []) h)
  · cases h
theorem gaX8_gathersAt {base : Nat} {D : va_G} {ca : Nat → ClassId} {cv : Nat → Value} (hcv : ∀ j, (cv j).category = 1) {l : List Value} {μ : qM} {r : qR} (h : aX8_gathersAt l μ = some r) : qGood false base D ca cv 1003 212 l μ r := by
  unfold aX8_gathersAt at h
  split at h
  · exact gdX8_gathersAt hcv h
  · cases h
noncomputable def fX8_bulksOne (a0 : Nat) (a1 : Int32) (μ : qM) : Option qR :=
  qbnd (fX8_in (a1).toInt64 (2 : Int64) (5 : Int64) μ) fun r1 =>
  if r1.1 = 0 then
    some ((-1 : Int32), 0, r1.2.2)
  else
    qbnd (oLdI 20 r1.2.2 a0 (753 : Int32)) fun v2 =>
    qbnd (oStI 20 r1.2.2 a0 (753 : Int32) a1) fun μ3 =>
    if v2 = a1 then
      some ((-2 : Int32), 0, μ3)
    else
      some (((10 : Int32) + v2), 0, μ3)
noncomputable def aX8_bulksOne (l : List Value) (μ : qM) : Option qR := match l with
  | [.ref x0, .int x1] => fX8_bulksOne x0 x1 μ
  | _ => none
noncomputable def cfX8_bulksOne : qF := fun n l μ => if n = 141 then aX8_in l μ else none
theorem hcX8_bulksOne {base : Nat} {D : va_G} {ca : Nat → ClassId} {cv : Nat → Value} (hcv : ∀ j, (cv j).category = 1) : ∀ M as μ r, cfX8_bulksOne M as μ = some r → qGood false base D ca cv 1 M as μ r := by
  intro M as μ r h
  unfold cfX8_bulksOne at h
  split at h
  · rename_i e; subst e; exact (gaX8_in hcv h).mono (by omega)
  cases h
theorem npX8_bulksOne : (parseMethodDescriptor (qmy 213).desc).map (fun d => d.parameters.length) = some 2 := by decide +kernel
set_option maxRecDepth 100000 in
theorem gdX8_bulksOne {base : Nat} {D : va_G} {ca : Nat → ClassId} {cv : Nat → Value} (hcv : ∀ j, (cv j).category = 1) {a0 : Nat} {a1 : Int32} {μ : qM} {r : qR} (h : fX8_bulksOne a0 a1 μ = some r) : qGood false base D ca cv 2 213 [.ref a0, .int a1] μ r := by
  exact qgood_of (by decide) (by omega) hcv (Or.inl rfl) npX8_bulksOne rfl (Nat.le_of_ble_eq_true rfl) rfl (qblk_ev2 (cf := cfX8_bulksOne) (st := (fun n => qin [] n)) (K := (fun pc L S μ => none)) (cd := qcX8_bulksOne) (M := 213) (d0 := 1) rfl qcok_X8_bulksOne (Nat.le_refl _) (hcX8_bulksOne hcv) (by
    intro pc L S μ r h
    cases h) 400 (pc := 0) (L := qent [.ref a0, .int a1] 3) (S := []) h)
theorem gaX8_bulksOne {base : Nat} {D : va_G} {ca : Nat → ClassId} {cv : Nat → Value} (hcv : ∀ j, (cv j).category = 1) {l : List Value} {μ : qM} {r : qR} (h : aX8_bulksOne l μ = some r) : qGood false base D ca cv 2 213 l μ r := by
  unfold aX8_bulksOne at h
  split at h
  · exact gdX8_bulksOne hcv h
  · cases h
noncomputable def fJ6_compare_7cf53 (a0 : Int32) (a1 : Int32) (μ : qM) : Option qR :=
  if a1 ≤ a0 then
    if a0 = a1 then
      some ((0 : Int32), 0, μ)
    else
      some ((1 : Int32), 0, μ)
  else
    some ((-1 : Int32), 0, μ)
noncomputable def aJ6_compare_7cf53 (l : List Value) (μ : qM) : Option qR := match l with
  | [.int x0, .int x1] => fJ6_compare_7cf53 x0 x1 μ
  | _ => none
noncomputable def cfJ6_compare_7cf53 : qF := fun n l μ => none
theorem hcJ6_compare_7cf53 {base : Nat} {D : va_G} {ca : Nat → ClassId} {cv : Nat → Value} (hcv : ∀ j, (cv j).category = 1) : ∀ M as μ r, cfJ6_compare_7cf53 M as μ = some r → qGood false base D ca cv 0 M as μ r := by
  intro M as μ r h
  cases h
theorem npJ6_compare_7cf53 : (parseMethodDescriptor (qmy 265).desc).map (fun d => d.parameters.length) = some 2 := by decide +kernel
set_option maxRecDepth 100000 in
theorem gdJ6_compare_7cf53 {base : Nat} {D : va_G} {ca : Nat → ClassId} {cv : Nat → Value} (hcv : ∀ j, (cv j).category = 1) {a0 : Int32} {a1 : Int32} {μ : qM} {r : qR} (h : fJ6_compare_7cf53 a0 a1 μ = some r) : qGood false base D ca cv 1 265 [.int a0, .int a1] μ r := by
  exact qgood_of (by decide) (by omega) hcv (Or.inl rfl) npJ6_compare_7cf53 rfl (Nat.le_of_ble_eq_true rfl) rfl (qblk_ev2 (cf := cfJ6_compare_7cf53) (st := (fun n => qin [] n)) (K := (fun pc L S μ => none)) (cd := qcJ6_compare_7cf53) (M := 265) (d0 := 0) rfl qcok_J6_compare_7cf53 (Nat.le_refl _) (hcJ6_compare_7cf53 hcv) (by
    intro pc L S μ r h
    cases h) 400 (pc := 0) (L := qent [.int a0, .int a1] 2) (S := []) h)
theorem gaJ6_compare_7cf53 {base : Nat} {D : va_G} {ca : Nat → ClassId} {cv : Nat → Value} (hcv : ∀ j, (cv j).category = 1) {l : List Value} {μ : qM} {r : qR} (h : aJ6_compare_7cf53 l μ = some r) : qGood false base D ca cv 1 265 l μ r := by
  unfold aJ6_compare_7cf53 at h
  split at h
  · exact gdJ6_compare_7cf53 hcv h
  · cases h
noncomputable def fX8_cheapest_27 (k7 : Nat → Nat → Int32 → Int32 → Int32 → qM → Option qR) (x0 : Nat) (x1 : Nat) (x2 : Int32) (x3 : Int32) (x4 : Int32) (s0 : Int32) (μ : qM) : Option qR :=
  if s0 < 0 then
    k7 x0 x1 x2 x4 (x4 + (1 : Int32)) μ
  else
    if s0 = 0 then
      qbnd (oLdI 20 μ x1 ((688 : Int32) + x4)) fun v1 =>
      qbnd (oLdI 20 μ x1 ((688 : Int32) + x3)) fun v2 =>
      if v1 ≤ v2 then
        k7 x0 x1 x2 x3 (x4 + (1 : Int32)) μ
      else
        k7 x0 x1 x2 x4 (x4 + (1 : Int32)) μ
    else
      k7 x0 x1 x2 x3 (x4 + (1 : Int32)) μ
noncomputable def fX8_cheapest_7 : Nat → Nat → Nat → Int32 → Int32 → Int32 → qM → Option qR
  | 0 => fun _ _ _ _ _ _ => none
  | n + 1 => fun x0 x1 x2 x3 x4 μ =>
    if (8 : Int32) ≤ x4 then
      some (x3, 0, μ)
    else
      qbnd (fX8_has x2 x4 μ) fun r1 =>
      if r1.1 = 0 then
        fX8_cheapest_7 n x0 x1 x2 x3 (x4 + (1 : Int32)) r1.2.2
      else
        if 0 ≤ x3 then
          qbnd (fX8_cost x0 x1 x4 r1.2.2) fun r2 =>
          qbnd (fX8_cost x0 x1 x3 r2.2.2) fun r3 =>
          qbnd (fJ6_compare_7cf53 r2.1 r3.1 r3.2.2) fun r4 =>
          fX8_cheapest_27 (fX8_cheapest_7 n) x0 x1 x2 x3 x4 r4.1 r4.2.2
        else
          fX8_cheapest_27 (fX8_cheapest_7 n) x0 x1 x2 x3 x4 (-1 : Int32) r1.2.2
noncomputable def gX8_cheapest (a0 : Nat) (a1 : Nat) (μ : qM) : Option qR :=
  qbnd (fX8_ringed a1 μ) fun r1 =>
  fX8_cheapest_7 qfu a0 a1 r1.1 (-1 : Int32) (0 : Int32) r1.2.2
noncomputable def fX8_cheapest (a0 : Nat) (a1 : Nat) (μ : qM) : Option qR := if (qk μ a0).1 = 8 then gX8_cheapest a0 a1 μ else none
noncomputable def aX8_cheapest (l : List Value) (μ : qM) : Option qR := match l with
  | [.ref x0, .ref x1] => fX8_cheapest x0 x1 μ
  | _ => none
noncomputable def cfX8_cheapest : qF := fun n l μ => if n = 187 then aX8_ringed l μ else if n = 142 then aX8_has l μ else if n = 189 then aX8_cost l μ else if n = 265 then aJ6_compare_7cf53 l μ else none
theorem hcX8_cheapest {base : Nat} {D : va_G} {ca : Nat → ClassId} {cv : Nat → Value} (hcv : ∀ j, (cv j).category = 1) : ∀ M as μ r, cfX8_cheapest M as μ = some r → qGood false base D ca cv 7 M as μ r := by
  intro M as μ r h
  unfold cfX8_cheapest at h
  split at h
  · rename_i e; subst e; exact (gaX8_ringed hcv h).mono (by omega)
  split at h
  · rename_i e; subst e; exact (gaX8_has hcv h).mono (by omega)
  split at h
  · rename_i e; subst e; exact (gaX8_cost hcv h).mono (by omega)
  split at h
  · rename_i e; subst e; exact (gaJ6_compare_7cf53 hcv h).mono (by omega)
  cases h
def jX8_cheapest_7 (f : Nat → Nat → Int32 → Int32 → Int32 → qM → Option qR) (L S : List Value) (μ : qM) : Option qR := match L, S with
  | [.ref x0, .ref x1, .int x2, .int x3, .int x4, _], [] => f x0 x1 x2 x3 x4 μ
  | _, _ => none
theorem jeX8_cheapest_7 {base : Nat} {D : va_G} {ca : Nat → ClassId} {cv : Nat → Value} {d : Nat} {f : Nat → Nat → Int32 → Int32 → Int32 → qM → Option qR} (hf : ∀ (x0 : Nat) (x1 : Nat) (x2 : Int32) (x3 : Int32) (x4 : Int32) (μ : qM) (r : qR), f x0 x1 x2 x3 x4 μ = some r → qEv false base D ca cv d 214 r 7 [.ref x0, .ref x1, .int x2, .int x3, .int x4, .null] [] μ) {L S : List Value} {μ : qM} {r : qR} (h : jX8_cheapest_7 f L S μ = some r) : qEv false base D ca cv d 214 r 7 L S μ := by
  unfold jX8_cheapest_7 at h
  split at h
  · exact (hf _ _ _ _ _ _ _ h).le rfl ⟨Or.inr rfl, Or.inr rfl, Or.inr rfl, Or.inr rfl, Or.inr rfl, Or.inl rfl, trivial⟩
  · cases h
def jX8_cheapest_27 (f : Nat → Nat → Int32 → Int32 → Int32 → Int32 → qM → Option qR) (L S : List Value) (μ : qM) : Option qR := match L, S with
  | [.ref x0, .ref x1, .int x2, .int x3, .int x4, _], [.int s0] => f x0 x1 x2 x3 x4 s0 μ
  | _, _ => none
theorem jeX8_cheapest_27 {base : Nat} {D : va_G} {ca : Nat → ClassId} {cv : Nat → Value} {d : Nat} {f : Nat → Nat → Int32 → Int32 → Int32 → Int32 → qM → Option qR} (hf : ∀ (x0 : Nat) (x1 : Nat) (x2 : Int32) (x3 : Int32) (x4 : Int32) (s0 : Int32) (μ : qM) (r : qR), f x0 x1 x2 x3 x4 s0 μ = some r → qEv false base D ca cv d 214 r 27 [.ref x0, .ref x1, .int x2, .int x3, .int x4, .null] [.int s0] μ) {L S : List Value} {μ : qM} {r : qR} (h : jX8_cheapest_27 f L S μ = some r) : qEv false base D ca cv d 214 r 27 L S μ := by
  unfold jX8_cheapest_27 at h
  split at h
  · exact (hf _ _ _ _ _ _ _ _ h).le rfl ⟨Or.inr rfl, Or.inr rfl, Or.inr rfl, Or.inr rfl, Or.inr rfl, Or.inl rfl, trivial⟩
  · cases h
set_option maxRecDepth 100000 in
theorem lbX8_cheapest_27 {base : Nat} {D : va_G} {ca : Nat → ClassId} {cv : Nat → Value} (hcv : ∀ j, (cv j).category = 1) {k7 : Nat → Nat → Int32 → Int32 → Int32 → qM → Option qR} (hk7 : ∀ (y0 : Nat) (y1 : Nat) (y2 : Int32) (y3 : Int32) (y4 : Int32) (μ : qM) (r : qR), k7 y0 y1 y2 y3 y4 μ = some r → qEv false base D ca cv 8 214 r 7 [.ref y0, .ref y1, .int y2, .int y3, .int y4, .null] [] μ) (x0 : Nat) (x1 : Nat) (x2 : Int32) (x3 : Int32) (x4 : Int32) (s0 : Int32) (μ : qM) (r : qR) (h : fX8_cheapest_27 k7 x0 x1 x2 x3 x4 s0 μ = some r) : qEv false base D ca cv 8 214 r 27 [.ref x0, .ref x1, .int x2, .int x3, .int x4, .null] [.int s0] μ := by
    exact qblk_ev2 (cf := cfX8_cheapest) (st := (fun n => qin [7, 27] n)) (K := (fun pc L S μ => if pc = 7 then jX8_cheapest_7 k7 L S μ else none)) (cd := qcX8_cheapest) (M := 214) (d0 := 7) rfl qcok_X8_cheapest (Nat.le_refl _) (hcX8_cheapest hcv) (by
    intro pc L S μ r h
    split at h
    · rename_i e; subst e; exact jeX8_cheapest_7 hk7 h
    cases h) 400 (pc := 27) (L := [.ref x0, .ref x1, .int x2, .int x3, .int x4, .null]) (S := [.int s0]) h
set_option maxRecDepth 100000 in
theorem lbX8_cheapest_7 {base : Nat} {D : va_G} {ca : Nat → ClassId} {cv : Nat → Value} (hcv : ∀ j, (cv j).category = 1) : ∀ (n : Nat) (x0 : Nat) (x1 : Nat) (x2 : Int32) (x3 : Int32) (x4 : Int32) (μ : qM) (r : qR), fX8_cheapest_7 n x0 x1 x2 x3 x4 μ = some r → qEv false base D ca cv 8 214 r 7 [.ref x0, .ref x1, .int x2, .int x3, .int x4, .null] [] μ := by
  intro n
  induction n with
  | zero => intro x0 x1 x2 x3 x4 μ r h; cases (show (none : Option qR) = some r from h)
  | succ n ih =>
    intro x0 x1 x2 x3 x4 μ r h
    exact qblk_ev2 (cf := cfX8_cheapest) (st := (fun n => qin [7, 27] n)) (K := (fun pc L S μ => if pc = 7 then jX8_cheapest_7 (fX8_cheapest_7 n) L S μ else if pc = 27 then jX8_cheapest_27 (fX8_cheapest_27 (fX8_cheapest_7 n)) L S μ else none)) (cd := qcX8_cheapest) (M := 214) (d0 := 7) rfl qcok_X8_cheapest (Nat.le_refl _) (hcX8_cheapest hcv) (by
    intro pc L S μ r h
    split at h
    · rename_i e; subst e; exact jeX8_cheapest_7 ih h
    split at h
    · rename_i e; subst e; exact jeX8_cheapest_27 (lbX8_cheapest_27 hcv ih) h
    cases h) 400 (pc := 7) (L := [.ref x0, .ref x1, .int x2, .int x3, .int x4, .null]) (S := []) h
theorem npX8_cheapest : (parseMethodDescriptor (qmy 214).desc).map (fun d => d.parameters.length) = some 1 := by decide +kernel
set_option maxRecDepth 100000 in
theorem gdX8_cheapest {base : Nat} {D : va_G} {ca : Nat → ClassId} {cv : Nat → Value} (hcv : ∀ j, (cv j).category = 1) {a0 : Nat} {a1 : Nat} {μ : qM} {r : qR} (h : fX8_cheapest a0 a1 μ = some r) : qGood false base D ca cv 8 214 [.ref a0, .ref a1] μ r := by
  unfold fX8_cheapest at h
  split at h
  · rename_i hk0
    exact qgood_of (by decide) (by omega) hcv (Or.inr ⟨by decide +kernel, hk0⟩) npX8_cheapest rfl (Nat.le_of_ble_eq_true rfl) rfl (qblk_ev2 (cf := cfX8_cheapest) (st := (fun n => qin [7, 27] n)) (K := (fun pc L S μ => if pc = 7 then jX8_cheapest_7 (fX8_cheapest_7 qfu) L S μ else none)) (cd := qcX8_cheapest) (M := 214) (d0 := 7) rfl qcok_X8_cheapest (Nat.le_refl _) (hcX8_cheapest hcv) (by
    intro pc L S μ r h
    split at h
    · rename_i e; subst e; exact jeX8_cheapest_7 (lbX8_cheapest_7 hcv qfu) h
    cases h) 400 (pc := 0) (L := qent [.ref a0, .ref a1] 6) (S := []) h)
  · cases h
theorem gaX8_cheapest {base : Nat} {D : va_G} {ca : Nat → ClassId} {cv : Nat → Value} (hcv : ∀ j, (cv j).category = 1) {l : List Value} {μ : qM} {r : qR} (h : aX8_cheapest l μ = some r) : qGood false base D ca cv 8 214 l μ r := by
  unfold aX8_cheapest at h
  split at h
  · exact gdX8_cheapest hcv h
  · cases h
noncomputable def fX8_fellsAll_6 : Nat → Nat → Nat → Int32 → Int32 → qM → Option qR
  | 0 => fun _ _ _ _ _ => none
  | n + 1 => fun x0 x1 x2 x3 μ =>
    if x3 < 0 then
      some (x2, 0, μ)
    else
      qbnd (oGetP μ 8 x0 17) fun v1 =>
      qbnd (oStI 20 μ v1 x2 x3) fun μ2 =>
      qbnd (oLdI 20 μ2 x1 ((704 : Int32) + x3)) fun v3 =>
      qbnd (oStI 20 μ2 x1 ((704 : Int32) + x3) (if (v3 + (1 : Int32)) < (99 : Int32) then (v3 + (1 : Int32)) else (99 : Int32))) fun μ4 =>
      qbnd (fX8_goes x0 x1 x3 μ4) fun r5 =>
      qbnd (fX8_cheapest x0 x1 r5.2.2) fun r6 =>
      fX8_fellsAll_6 n x0 x1 (x2 + (1 : Int32)) r6.1 r6.2.2
noncomputable def gX8_fellsAll (a0 : Nat) (a1 : Nat) (μ : qM) : Option qR :=
  qbnd (fX8_cheapest a0 a1 μ) fun r1 =>
  fX8_fellsAll_6 qfu a0 a1 (0 : Int32) r1.1 r1.2.2
noncomputable def fX8_fellsAll (a0 : Nat) (a1 : Nat) (μ : qM) : Option qR := if (qk μ a0).1 = 8 then gX8_fellsAll a0 a1 μ else none
noncomputable def aX8_fellsAll (l : List Value) (μ : qM) : Option qR := match l with
  | [.ref x0, .ref x1] => fX8_fellsAll x0 x1 μ
  | _ => none
noncomputable def cfX8_fellsAll : qF := fun n l μ => if n = 214 then aX8_cheapest l μ else if n = 210 then aX8_goes l μ else none
theorem hcX8_fellsAll {base : Nat} {D : va_G} {ca : Nat → ClassId} {cv : Nat → Value} (hcv : ∀ j, (cv j).category = 1) : ∀ M as μ r, cfX8_fellsAll M as μ = some r → qGood false base D ca cv 1002 M as μ r := by
  intro M as μ r h
  unfold cfX8_fellsAll at h
  split at h
  · rename_i e; subst e; exact (gaX8_cheapest hcv h).mono (by omega)
  split at h
  · rename_i e; subst e; exact (gaX8_goes hcv h).mono (by omega)
  cases h
def jX8_fellsAll_6 (f : Nat → Nat → Int32 → Int32 → qM → Option qR) (L S : List Value) (μ : qM) : Option qR := match L, S with
  | [.ref x0, .ref x1, .int x2, .int x3], [] => f x0 x1 x2 x3 μ
  | _, _ => none
theorem jeX8_fellsAll_6 {base : Nat} {D : va_G} {ca : Nat → ClassId} {cv : Nat → Value} {d : Nat} {f : Nat → Nat → Int32 → Int32 → qM → Option qR} (hf : ∀ (x0 : Nat) (x1 : Nat) (x2 : Int32) (x3 : Int32) (μ : qM) (r : qR), f x0 x1 x2 x3 μ = some r → qEv false base D ca cv d 215 r 6 [.ref x0, .ref x1, .int x2, .int x3] [] μ) {L S : List Value} {μ : qM} {r : qR} (h : jX8_fellsAll_6 f L S μ = some r) : qEv false base D ca cv d 215 r 6 L S μ := by
  unfold jX8_fellsAll_6 at h
  split at h
  · exact (hf _ _ _ _ _ _ h).le rfl ⟨Or.inr rfl, Or.inr rfl, Or.inr rfl, Or.inr rfl, trivial⟩
  · cases h
set_option maxRecDepth 100000 in
theorem lbX8_fellsAll_6 {base : Nat} {D : va_G} {ca : Nat → ClassId} {cv : Nat → Value} (hcv : ∀ j, (cv j).category = 1) : ∀ (n : Nat) (x0 : Nat) (x1 : Nat) (x2 : Int32) (x3 : Int32) (μ : qM) (r : qR), fX8_fellsAll_6 n x0 x1 x2 x3 μ = some r → qEv false base D ca cv 1003 215 r 6 [.ref x0, .ref x1, .int x2, .int x3] [] μ := by
  intro n
  induction n with
  | zero => intro x0 x1 x2 x3 μ r h; cases (show (none : Option qR) = some r from h)
  | succ n ih =>
    intro x0 x1 x2 x3 μ r h
    exact qblk_ev2 (cf := cfX8_fellsAll) (st := (fun n => qin [6] n)) (K := (fun pc L S μ => if pc = 6 then jX8_fellsAll_6 (fX8_fellsAll_6 n) L S μ else none)) (cd := qcX8_fellsAll) (M := 215) (d0 := 1002) rfl qcok_X8_fellsAll (Nat.le_refl _) (hcX8_fellsAll hcv) (by
    intro pc L S μ r h
    split at h
    · rename_i e; subst e; exact jeX8_fellsAll_6 ih h
    cases h) 400 (pc := 6) (L := [.ref x0, .ref x1, .int x2, .int x3]) (S := []) h
theorem npX8_fellsAll : (parseMethodDescriptor (qmy 215).desc).map (fun d => d.parameters.length) = some 1 := by decide +kernel
set_option maxRecDepth 100000 in
theorem gdX8_fellsAll {base : Nat} {D : va_G} {ca : Nat → ClassId} {cv : Nat → Value} (hcv : ∀ j, (cv j).category = 1) {a0 : Nat} {a1 : Nat} {μ : qM} {r : qR} (h : fX8_fellsAll a0 a1 μ = some r) : qGood false base D ca cv 1003 215 [.ref a0, .ref a1] μ r := by
  unfold fX8_fellsAll at h
  split at h
  · rename_i hk0
    exact qgood_of (by decide) (by omega) hcv (Or.inr ⟨by decide +kernel, hk0⟩) npX8_fellsAll rfl (Nat.le_of_ble_eq_true rfl) rfl (qblk_ev2 (cf := cfX8_fellsAll) (st := (fun n => qin [6] n)) (K := (fun pc L S μ => if pc = 6 then jX8_fellsAll_6 (fX8_fellsAll_6 qfu) L S μ else none)) (cd := qcX8_fellsAll) (M := 215) (d0 := 1002) rfl qcok_X8_fellsAll (Nat.le_refl _) (hcX8_fellsAll hcv) (by
    intro pc L S μ r h
    split at h
    · rename_i e; subst e; exact jeX8_fellsAll_6 (lbX8_fellsAll_6 hcv qfu) h
    cases h) 400 (pc := 0) (L := qent [.ref a0, .ref a1] 4) (S := []) h)
  · cases h
theorem gaX8_fellsAll {base : Nat} {D : va_G} {ca : Nat → ClassId} {cv : Nat → Value} (hcv : ∀ j, (cv j).category = 1) {l : List Value} {μ : qM} {r : qR} (h : aX8_fellsAll l μ = some r) : qGood false base D ca cv 1003 215 l μ r := by
  unfold aX8_fellsAll at h
  split at h
  · exact gdX8_fellsAll hcv h
  · cases h

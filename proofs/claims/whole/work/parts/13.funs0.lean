/-! FUNCTIONS out of the codes, and that the machine does as they do, 0 (printed by gen/emit6.py) -/
noncomputable def gX0_draw (a0 : Nat) (a1 : Int32) (μ : qM) : Option qR :=
  qbnd (oGetI μ 0 a0 4) fun v1 =>
  qbnd (oPutI μ 0 a0 4 ((v1 * (1103515245 : Int32)) + (12345 : Int32))) fun μ2 =>
  if (1 : Int32) ≤ a1 then
    qbnd (oGetI μ2 0 a0 4) fun v3 =>
    if a1 = 0 then none else
    some (((qush v3 (16 : Int32)) - (qush v3 (16 : Int32)) / a1 * a1), 0, μ2)
  else
    some ((0 : Int32), 0, μ2)
noncomputable def fX0_draw (a0 : Nat) (a1 : Int32) (μ : qM) : Option qR := if (qk μ a0).1 = 0 then gX0_draw a0 a1 μ else none
noncomputable def aX0_draw (l : List Value) (μ : qM) : Option qR := match l with
  | [.ref x0, .int x1] => fX0_draw x0 x1 μ
  | _ => none
noncomputable def cfX0_draw : qF := fun n l μ => none
theorem hcX0_draw {base : Nat} {D : va_G} {ca : Nat → ClassId} {cv : Nat → Value} (hcv : ∀ j, (cv j).category = 1) : ∀ M as μ r, cfX0_draw M as μ = some r → qGood false base D ca cv 0 M as μ r := by
  intro M as μ r h
  cases h
theorem npX0_draw : (parseMethodDescriptor (qmy 1).desc).map (fun d => d.parameters.length) = some 1 := by decide +kernel
set_option maxRecDepth 100000 in
theorem gdX0_draw {base : Nat} {D : va_G} {ca : Nat → ClassId} {cv : Nat → Value} (hcv : ∀ j, (cv j).category = 1) {a0 : Nat} {a1 : Int32} {μ : qM} {r : qR} (h : fX0_draw a0 a1 μ = some r) : qGood false base D ca cv 1 1 [.ref a0, .int a1] μ r := by
  unfold fX0_draw at h
  split at h
  · rename_i hk0
    exact qgood_of (by decide) (by omega) hcv (Or.inr ⟨by decide +kernel, hk0⟩) npX0_draw rfl (Nat.le_of_ble_eq_true rfl) rfl (qblk_ev2 (cf := cfX0_draw) (st := (fun n => qin [] n)) (K := (fun pc L S μ => none)) (cd := qcX0_draw) (M := 1) (d0 := 0) rfl qcok_X0_draw (Nat.le_refl _) (hcX0_draw hcv) (by
    intro pc L S μ r h
    cases h) 400 (pc := 0) (L := qent [.ref a0, .int a1] 2) (S := []) h)
  · cases h
theorem gaX0_draw {base : Nat} {D : va_G} {ca : Nat → ClassId} {cv : Nat → Value} (hcv : ∀ j, (cv j).category = 1) {l : List Value} {μ : qM} {r : qR} (h : aX0_draw l μ = some r) : qGood false base D ca cv 1 1 l μ r := by
  unfold aX0_draw at h
  split at h
  · exact gdX0_draw hcv h
  · cases h
noncomputable def fX7_isOwner (a0 : Int32) (μ : qM) : Option qR :=
  if a0 < 0 then
    if qnz (0 : Int32) = (0 : Int32) then some ((0 : Int32), 0, μ) else none
  else
    if (8 : Int32) ≤ a0 then
      if qnz (0 : Int32) = (0 : Int32) then some ((0 : Int32), 0, μ) else none
    else
      if qnz (1 : Int32) = (1 : Int32) then some ((1 : Int32), 0, μ) else none
noncomputable def aX7_isOwner (l : List Value) (μ : qM) : Option qR := match l with
  | [.int x0] => fX7_isOwner x0 μ
  | _ => none
noncomputable def cfX7_isOwner : qF := fun n l μ => none
theorem hcX7_isOwner {base : Nat} {D : va_G} {ca : Nat → ClassId} {cv : Nat → Value} (hcv : ∀ j, (cv j).category = 1) : ∀ M as μ r, cfX7_isOwner M as μ = some r → qGood false base D ca cv 0 M as μ r := by
  intro M as μ r h
  cases h
theorem npX7_isOwner : (parseMethodDescriptor (qmy 131).desc).map (fun d => d.parameters.length) = some 1 := by decide +kernel
set_option maxRecDepth 100000 in
theorem gdX7_isOwner {base : Nat} {D : va_G} {ca : Nat → ClassId} {cv : Nat → Value} (hcv : ∀ j, (cv j).category = 1) {a0 : Int32} {μ : qM} {r : qR} (h : fX7_isOwner a0 μ = some r) : qGood false base D ca cv 1 131 [.int a0] μ r := by
  exact qgood_of (by decide) (by omega) hcv (Or.inl rfl) npX7_isOwner rfl (Nat.le_of_ble_eq_true rfl) rfl (qblk_ev2 (cf := cfX7_isOwner) (st := (fun n => qin [] n)) (K := (fun pc L S μ => none)) (cd := qcX7_isOwner) (M := 131) (d0 := 0) rfl qcok_X7_isOwner (Nat.le_refl _) (hcX7_isOwner hcv) (by
    intro pc L S μ r h
    cases h) 400 (pc := 0) (L := qent [.int a0] 1) (S := []) h)
theorem gaX7_isOwner {base : Nat} {D : va_G} {ca : Nat → ClassId} {cv : Nat → Value} (hcv : ∀ j, (cv j).category = 1) {l : List Value} {μ : qM} {r : qR} (h : aX7_isOwner l μ = some r) : qGood false base D ca cv 1 131 l μ r := by
  unfold aX7_isOwner at h
  split at h
  · exact gdX7_isOwner hcv h
  · cases h
noncomputable def gX0_start (a0 : Nat) (a1 : Int32) (μ : qM) : Option qR :=
  qbnd (fX7_isOwner a1 μ) fun r1 =>
  if r1.1 = 0 then
    some ((-1 : Int32), 0, r1.2.2)
  else
    qbnd (oGetP r1.2.2 0 a0 0) fun v2 =>
    qbnd (oGetP r1.2.2 5 v2 1) fun v3 =>
    qbnd (oLdI 20 r1.2.2 v3 a1) fun v4 =>
    if v4 = 0 then
      qbnd (oGetP r1.2.2 0 a0 0) fun v5 =>
      qbnd (oGetI r1.2.2 5 v5 11) fun v6 =>
      qbnd (oPutI r1.2.2 5 v5 11 (v6 + (1 : Int32))) fun μ7 =>
      qbnd (oGetP μ7 0 a0 0) fun v8 =>
      qbnd (oGetP μ7 5 v8 1) fun v9 =>
      qbnd (oStI 20 μ7 v9 a1 (1 : Int32)) fun μ10 =>
      qbnd (oGetP μ10 0 a0 0) fun v11 =>
      qbnd (oGetP μ10 5 v11 2) fun v12 =>
      qbnd (oGetP μ10 0 a0 0) fun v13 =>
      qbnd (oGetI μ10 5 v13 11) fun v14 =>
      qbnd (oStI 20 μ10 v12 a1 v14) fun μ15 =>
      qbnd (oGetP μ15 0 a0 0) fun v16 =>
      qbnd (oGetI μ15 5 v16 11) fun v17 =>
      some (v17, 0, μ15)
    else
      some ((-2 : Int32), 0, r1.2.2)
noncomputable def fX0_start (a0 : Nat) (a1 : Int32) (μ : qM) : Option qR := if (qk μ a0).1 = 0 then gX0_start a0 a1 μ else none
noncomputable def aX0_start (l : List Value) (μ : qM) : Option qR := match l with
  | [.ref x0, .int x1] => fX0_start x0 x1 μ
  | _ => none
noncomputable def cfX0_start : qF := fun n l μ => if n = 131 then aX7_isOwner l μ else none
theorem hcX0_start {base : Nat} {D : va_G} {ca : Nat → ClassId} {cv : Nat → Value} (hcv : ∀ j, (cv j).category = 1) : ∀ M as μ r, cfX0_start M as μ = some r → qGood false base D ca cv 1 M as μ r := by
  intro M as μ r h
  unfold cfX0_start at h
  split at h
  · rename_i e; subst e; exact (gaX7_isOwner hcv h).mono (by omega)
  cases h
theorem npX0_start : (parseMethodDescriptor (qmy 3).desc).map (fun d => d.parameters.length) = some 1 := by decide +kernel
set_option maxRecDepth 100000 in
theorem gdX0_start {base : Nat} {D : va_G} {ca : Nat → ClassId} {cv : Nat → Value} (hcv : ∀ j, (cv j).category = 1) {a0 : Nat} {a1 : Int32} {μ : qM} {r : qR} (h : fX0_start a0 a1 μ = some r) : qGood false base D ca cv 2 3 [.ref a0, .int a1] μ r := by
  unfold fX0_start at h
  split at h
  · rename_i hk0
    exact qgood_of (by decide) (by omega) hcv (Or.inr ⟨by decide +kernel, hk0⟩) npX0_start rfl (Nat.le_of_ble_eq_true rfl) rfl (qblk_ev2 (cf := cfX0_start) (st := (fun n => qin [] n)) (K := (fun pc L S μ => none)) (cd := qcX0_start) (M := 3) (d0 := 1) rfl qcok_X0_start (Nat.le_refl _) (hcX0_start hcv) (by
    intro pc L S μ r h
    cases h) 400 (pc := 0) (L := qent [.ref a0, .int a1] 2) (S := []) h)
  · cases h
theorem gaX0_start {base : Nat} {D : va_G} {ca : Nat → ClassId} {cv : Nat → Value} (hcv : ∀ j, (cv j).category = 1) {l : List Value} {μ : qM} {r : qR} (h : aX0_start l μ = some r) : qGood false base D ca cv 2 3 l μ r := by
  unfold aX0_start at h
  split at h
  · exact gdX0_start hcv h
  · cases h
noncomputable def gX0_idle (a0 : Nat) (a1 : Int32) (μ : qM) : Option qR :=
  qbnd (oGetP μ 0 a0 0) fun v1 =>
  qbnd (oGetP μ 5 v1 1) fun v2 =>
  qbnd (oLdI 20 μ v2 a1) fun v3 =>
  if v3 = 0 then
    some ((-2 : Int32), 0, μ)
  else
    some ((-3 : Int32), 0, μ)
noncomputable def fX0_idle (a0 : Nat) (a1 : Int32) (μ : qM) : Option qR := if (qk μ a0).1 = 0 then gX0_idle a0 a1 μ else none
noncomputable def aX0_idle (l : List Value) (μ : qM) : Option qR := match l with
  | [.ref x0, .int x1] => fX0_idle x0 x1 μ
  | _ => none
noncomputable def cfX0_idle : qF := fun n l μ => none
theorem hcX0_idle {base : Nat} {D : va_G} {ca : Nat → ClassId} {cv : Nat → Value} (hcv : ∀ j, (cv j).category = 1) : ∀ M as μ r, cfX0_idle M as μ = some r → qGood false base D ca cv 0 M as μ r := by
  intro M as μ r h
  cases h
theorem npX0_idle : (parseMethodDescriptor (qmy 14).desc).map (fun d => d.parameters.length) = some 1 := by decide +kernel
set_option maxRecDepth 100000 in
theorem gdX0_idle {base : Nat} {D : va_G} {ca : Nat → ClassId} {cv : Nat → Value} (hcv : ∀ j, (cv j).category = 1) {a0 : Nat} {a1 : Int32} {μ : qM} {r : qR} (h : fX0_idle a0 a1 μ = some r) : qGood false base D ca cv 1 14 [.ref a0, .int a1] μ r := by
  unfold fX0_idle at h
  split at h
  · rename_i hk0
    exact qgood_of (by decide) (by omega) hcv (Or.inr ⟨by decide +kernel, hk0⟩) npX0_idle rfl (Nat.le_of_ble_eq_true rfl) rfl (qblk_ev2 (cf := cfX0_idle) (st := (fun n => qin [] n)) (K := (fun pc L S μ => none)) (cd := qcX0_idle) (M := 14) (d0 := 0) rfl qcok_X0_idle (Nat.le_refl _) (hcX0_idle hcv) (by
    intro pc L S μ r h
    cases h) 400 (pc := 0) (L := qent [.ref a0, .int a1] 2) (S := []) h)
  · cases h
theorem gaX0_idle {base : Nat} {D : va_G} {ca : Nat → ClassId} {cv : Nat → Value} (hcv : ∀ j, (cv j).category = 1) {l : List Value} {μ : qM} {r : qR} (h : aX0_idle l μ = some r) : qGood false base D ca cv 1 14 l μ r := by
  unfold aX0_idle at h
  split at h
  · exact gdX0_idle hcv h
  · cases h
noncomputable def gX0_labour (a0 : Nat) (a1 : Int32) (a2 : Int32) (μ : qM) : Option qR :=
  qbnd (fX7_isOwner a1 μ) fun r1 =>
  if r1.1 = 0 then
    some ((-1 : Int32), 0, r1.2.2)
  else
    if a2 < (1 : Int32) then
      some ((-1 : Int32), 0, r1.2.2)
    else
      if a2 ≤ (9 : Int32) then
        qbnd (oGetP r1.2.2 0 a0 0) fun v2 =>
        qbnd (oGetP r1.2.2 5 v2 1) fun v3 =>
        qbnd (oLdI 20 r1.2.2 v3 a1) fun v4 =>
        if v4 = (1 : Int32) then
          qbnd (oGetP r1.2.2 0 a0 0) fun v5 =>
          qbnd (oGetP r1.2.2 5 v5 3) fun v6 =>
          qbnd (oGetP r1.2.2 0 a0 0) fun v7 =>
          qbnd (oGetP r1.2.2 5 v7 3) fun v8 =>
          qbnd (oLdI 20 r1.2.2 v8 a1) fun v9 =>
          qbnd (oStI 20 r1.2.2 v6 a1 (if (v9 + a2) < (99 : Int32) then (v9 + a2) else (99 : Int32))) fun μ10 =>
          qbnd (oGetP μ10 0 a0 0) fun v11 =>
          qbnd (oGetP μ10 5 v11 3) fun v12 =>
          qbnd (oLdI 20 μ10 v12 a1) fun v13 =>
          some (v13, 0, μ10)
        else
          qbnd (fX0_idle a0 a1 r1.2.2) fun r14 =>
          some (r14.1, 0, r14.2.2)
      else
        some ((-1 : Int32), 0, r1.2.2)
noncomputable def fX0_labour (a0 : Nat) (a1 : Int32) (a2 : Int32) (μ : qM) : Option qR := if (qk μ a0).1 = 0 then gX0_labour a0 a1 a2 μ else none
noncomputable def aX0_labour (l : List Value) (μ : qM) : Option qR := match l with
  | [.ref x0, .int x1, .int x2] => fX0_labour x0 x1 x2 μ
  | _ => none
noncomputable def cfX0_labour : qF := fun n l μ => if n = 131 then aX7_isOwner l μ else if n = 14 then aX0_idle l μ else none
theorem hcX0_labour {base : Nat} {D : va_G} {ca : Nat → ClassId} {cv : Nat → Value} (hcv : ∀ j, (cv j).category = 1) : ∀ M as μ r, cfX0_labour M as μ = some r → qGood false base D ca cv 1 M as μ r := by
  intro M as μ r h
  unfold cfX0_labour at h
  split at h
  · rename_i e; subst e; exact (gaX7_isOwner hcv h).mono (by omega)
  split at h
  · rename_i e; subst e; exact (gaX0_idle hcv h).mono (by omega)
  cases h
theorem npX0_labour : (parseMethodDescriptor (qmy 4).desc).map (fun d => d.parameters.length) = some 2 := by decide +kernel
set_option maxRecDepth 100000 in
theorem gdX0_labour {base : Nat} {D : va_G} {ca : Nat → ClassId} {cv : Nat → Value} (hcv : ∀ j, (cv j).category = 1) {a0 : Nat} {a1 : Int32} {a2 : Int32} {μ : qM} {r : qR} (h : fX0_labour a0 a1 a2 μ = some r) : qGood false base D ca cv 2 4 [.ref a0, .int a1, .int a2] μ r := by
  unfold fX0_labour at h
  split at h
  · rename_i hk0
    exact qgood_of (by decide) (by omega) hcv (Or.inr ⟨by decide +kernel, hk0⟩) npX0_labour rfl (Nat.le_of_ble_eq_true rfl) rfl (qblk_ev2 (cf := cfX0_labour) (st := (fun n => qin [] n)) (K := (fun pc L S μ => none)) (cd := qcX0_labour) (M := 4) (d0 := 1) rfl qcok_X0_labour (Nat.le_refl _) (hcX0_labour hcv) (by
    intro pc L S μ r h
    cases h) 400 (pc := 0) (L := qent [.ref a0, .int a1, .int a2] 3) (S := []) h)
  · cases h
theorem gaX0_labour {base : Nat} {D : va_G} {ca : Nat → ClassId} {cv : Nat → Value} (hcv : ∀ j, (cv j).category = 1) {l : List Value} {μ : qM} {r : qR} (h : aX0_labour l μ = some r) : qGood false base D ca cv 2 4 l μ r := by
  unfold aX0_labour at h
  split at h
  · exact gdX0_labour hcv h
  · cases h
noncomputable def fX7_isPlace (a0 : Int32) (μ : qM) : Option qR :=
  if a0 < 0 then
    if qnz (0 : Int32) = (0 : Int32) then some ((0 : Int32), 0, μ) else none
  else
    if (85 : Int32) ≤ a0 then
      if qnz (0 : Int32) = (0 : Int32) then some ((0 : Int32), 0, μ) else none
    else
      if qnz (1 : Int32) = (1 : Int32) then some ((1 : Int32), 0, μ) else none
noncomputable def aX7_isPlace (l : List Value) (μ : qM) : Option qR := match l with
  | [.int x0] => fX7_isPlace x0 μ
  | _ => none
noncomputable def cfX7_isPlace : qF := fun n l μ => none
theorem hcX7_isPlace {base : Nat} {D : va_G} {ca : Nat → ClassId} {cv : Nat → Value} (hcv : ∀ j, (cv j).category = 1) : ∀ M as μ r, cfX7_isPlace M as μ = some r → qGood false base D ca cv 0 M as μ r := by
  intro M as μ r h
  cases h
theorem npX7_isPlace : (parseMethodDescriptor (qmy 132).desc).map (fun d => d.parameters.length) = some 1 := by decide +kernel
set_option maxRecDepth 100000 in
theorem gdX7_isPlace {base : Nat} {D : va_G} {ca : Nat → ClassId} {cv : Nat → Value} (hcv : ∀ j, (cv j).category = 1) {a0 : Int32} {μ : qM} {r : qR} (h : fX7_isPlace a0 μ = some r) : qGood false base D ca cv 1 132 [.int a0] μ r := by
  exact qgood_of (by decide) (by omega) hcv (Or.inl rfl) npX7_isPlace rfl (Nat.le_of_ble_eq_true rfl) rfl (qblk_ev2 (cf := cfX7_isPlace) (st := (fun n => qin [] n)) (K := (fun pc L S μ => none)) (cd := qcX7_isPlace) (M := 132) (d0 := 0) rfl qcok_X7_isPlace (Nat.le_refl _) (hcX7_isPlace hcv) (by
    intro pc L S μ r h
    cases h) 400 (pc := 0) (L := qent [.int a0] 1) (S := []) h)
theorem gaX7_isPlace {base : Nat} {D : va_G} {ca : Nat → ClassId} {cv : Nat → Value} (hcv : ∀ j, (cv j).category = 1) {l : List Value} {μ : qM} {r : qR} (h : aX7_isPlace l μ = some r) : qGood false base D ca cv 1 132 l μ r := by
  unfold aX7_isPlace at h
  split at h
  · exact gdX7_isPlace hcv h
  · cases h
noncomputable def fX7_isLockMode (a0 : Int32) (μ : qM) : Option qR :=
  if a0 < (1 : Int32) then
    if qnz (0 : Int32) = (0 : Int32) then some ((0 : Int32), 0, μ) else none
  else
    if (7 : Int32) ≤ a0 then
      if qnz (0 : Int32) = (0 : Int32) then some ((0 : Int32), 0, μ) else none
    else
      if qnz (1 : Int32) = (1 : Int32) then some ((1 : Int32), 0, μ) else none
noncomputable def aX7_isLockMode (l : List Value) (μ : qM) : Option qR := match l with
  | [.int x0] => fX7_isLockMode x0 μ
  | _ => none
noncomputable def cfX7_isLockMode : qF := fun n l μ => none
theorem hcX7_isLockMode {base : Nat} {D : va_G} {ca : Nat → ClassId} {cv : Nat → Value} (hcv : ∀ j, (cv j).category = 1) : ∀ M as μ r, cfX7_isLockMode M as μ = some r → qGood false base D ca cv 0 M as μ r := by
  intro M as μ r h
  cases h
theorem npX7_isLockMode : (parseMethodDescriptor (qmy 134).desc).map (fun d => d.parameters.length) = some 1 := by decide +kernel
set_option maxRecDepth 100000 in
theorem gdX7_isLockMode {base : Nat} {D : va_G} {ca : Nat → ClassId} {cv : Nat → Value} (hcv : ∀ j, (cv j).category = 1) {a0 : Int32} {μ : qM} {r : qR} (h : fX7_isLockMode a0 μ = some r) : qGood false base D ca cv 1 134 [.int a0] μ r := by
  exact qgood_of (by decide) (by omega) hcv (Or.inl rfl) npX7_isLockMode rfl (Nat.le_of_ble_eq_true rfl) rfl (qblk_ev2 (cf := cfX7_isLockMode) (st := (fun n => qin [] n)) (K := (fun pc L S μ => none)) (cd := qcX7_isLockMode) (M := 134) (d0 := 0) rfl qcok_X7_isLockMode (Nat.le_refl _) (hcX7_isLockMode hcv) (by
    intro pc L S μ r h
    cases h) 400 (pc := 0) (L := qent [.int a0] 1) (S := []) h)
theorem gaX7_isLockMode {base : Nat} {D : va_G} {ca : Nat → ClassId} {cv : Nat → Value} (hcv : ∀ j, (cv j).category = 1) {l : List Value} {μ : qM} {r : qR} (h : aX7_isLockMode l μ = some r) : qGood false base D ca cv 1 134 l μ r := by
  unfold aX7_isLockMode at h
  split at h
  · exact gdX7_isLockMode hcv h
  · cases h
noncomputable def fX7_levelOf (a0 : Int32) (μ : qM) : Option qR :=
  if a0 < (21 : Int32) then
    if a0 < (5 : Int32) then
      if a0 < (1 : Int32) then
        some ((0 : Int32), 0, μ)
      else
        some ((1 : Int32), 0, μ)
    else
      some ((2 : Int32), 0, μ)
  else
    some ((3 : Int32), 0, μ)
noncomputable def aX7_levelOf (l : List Value) (μ : qM) : Option qR := match l with
  | [.int x0] => fX7_levelOf x0 μ
  | _ => none
noncomputable def cfX7_levelOf : qF := fun n l μ => none
theorem hcX7_levelOf {base : Nat} {D : va_G} {ca : Nat → ClassId} {cv : Nat → Value} (hcv : ∀ j, (cv j).category = 1) : ∀ M as μ r, cfX7_levelOf M as μ = some r → qGood false base D ca cv 0 M as μ r := by
  intro M as μ r h
  cases h
theorem npX7_levelOf : (parseMethodDescriptor (qmy 135).desc).map (fun d => d.parameters.length) = some 1 := by decide +kernel
set_option maxRecDepth 100000 in
theorem gdX7_levelOf {base : Nat} {D : va_G} {ca : Nat → ClassId} {cv : Nat → Value} (hcv : ∀ j, (cv j).category = 1) {a0 : Int32} {μ : qM} {r : qR} (h : fX7_levelOf a0 μ = some r) : qGood false base D ca cv 1 135 [.int a0] μ r := by
  exact qgood_of (by decide) (by omega) hcv (Or.inl rfl) npX7_levelOf rfl (Nat.le_of_ble_eq_true rfl) rfl (qblk_ev2 (cf := cfX7_levelOf) (st := (fun n => qin [] n)) (K := (fun pc L S μ => none)) (cd := qcX7_levelOf) (M := 135) (d0 := 0) rfl qcok_X7_levelOf (Nat.le_refl _) (hcX7_levelOf hcv) (by
    intro pc L S μ r h
    cases h) 400 (pc := 0) (L := qent [.int a0] 1) (S := []) h)
theorem gaX7_levelOf {base : Nat} {D : va_G} {ca : Nat → ClassId} {cv : Nat → Value} (hcv : ∀ j, (cv j).category = 1) {l : List Value} {μ : qM} {r : qR} (h : aX7_levelOf l μ = some r) : qGood false base D ca cv 1 135 l μ r := by
  unfold aX7_levelOf at h
  split at h
  · exact gdX7_levelOf hcv h
  · cases h
noncomputable def fX7_onPath_5 : Nat → Int32 → Int32 → Int32 → qM → Option qR
  | 0 => fun _ _ _ _ => none
  | n + 1 => fun x1 x2 x3 μ =>
    if x3 ≤ x1 then
      some (x2, 0, μ)
    else
      if (4 : Int32) = 0 then none else
      fX7_onPath_5 n x1 ((x2 - (1 : Int32)) / (4 : Int32)) (x3 + (-1 : Int32)) μ
noncomputable def fX7_onPath (a0 : Int32) (a1 : Int32) (μ : qM) : Option qR :=
  qbnd (fX7_levelOf a0 μ) fun r1 =>
  fX7_onPath_5 qfu a1 a0 r1.1 r1.2.2
noncomputable def aX7_onPath (l : List Value) (μ : qM) : Option qR := match l with
  | [.int x0, .int x1] => fX7_onPath x0 x1 μ
  | _ => none
noncomputable def cfX7_onPath : qF := fun n l μ => if n = 135 then aX7_levelOf l μ else none
theorem hcX7_onPath {base : Nat} {D : va_G} {ca : Nat → ClassId} {cv : Nat → Value} (hcv : ∀ j, (cv j).category = 1) : ∀ M as μ r, cfX7_onPath M as μ = some r → qGood false base D ca cv 1 M as μ r := by
  intro M as μ r h
  unfold cfX7_onPath at h
  split at h
  · rename_i e; subst e; exact (gaX7_levelOf hcv h).mono (by omega)
  cases h
def jX7_onPath_5 (f : Int32 → Int32 → Int32 → qM → Option qR) (L S : List Value) (μ : qM) : Option qR := match L, S with
  | [_, .int x1, .int x2, .int x3], [] => f x1 x2 x3 μ
  | _, _ => none
theorem jeX7_onPath_5 {base : Nat} {D : va_G} {ca : Nat → ClassId} {cv : Nat → Value} {d : Nat} {f : Int32 → Int32 → Int32 → qM → Option qR} (hf : ∀ (x1 : Int32) (x2 : Int32) (x3 : Int32) (μ : qM) (r : qR), f x1 x2 x3 μ = some r → qEv false base D ca cv d 136 r 5 [.null, .int x1, .int x2, .int x3] [] μ) {L S : List Value} {μ : qM} {r : qR} (h : jX7_onPath_5 f L S μ = some r) : qEv false base D ca cv d 136 r 5 L S μ := by
  unfold jX7_onPath_5 at h
  split at h
  · exact (hf _ _ _ _ _ h).le rfl ⟨Or.inl rfl, Or.inr rfl, Or.inr rfl, Or.inr rfl, trivial⟩
  · cases h
set_option maxRecDepth 100000 in
theorem lbX7_onPath_5 {base : Nat} {D : va_G} {ca : Nat → ClassId} {cv : Nat → Value} (hcv : ∀ j, (cv j).category = 1) : ∀ (n : Nat) (x1 : Int32) (x2 : Int32) (x3 : Int32) (μ : qM) (r : qR), fX7_onPath_5 n x1 x2 x3 μ = some r → qEv false base D ca cv 2 136 r 5 [.null, .int x1, .int x2, .int x3] [] μ := by
  intro n
  induction n with
  | zero => intro x1 x2 x3 μ r h; cases (show (none : Option qR) = some r from h)
  | succ n ih =>
    intro x1 x2 x3 μ r h
    exact qblk_ev2 (cf := cfX7_onPath) (st := (fun n => qin [5] n)) (K := (fun pc L S μ => if pc = 5 then jX7_onPath_5 (fX7_onPath_5 n) L S μ else none)) (cd := qcX7_onPath) (M := 136) (d0 := 1) rfl qcok_X7_onPath (Nat.le_refl _) (hcX7_onPath hcv) (by
    intro pc L S μ r h
    split at h
    · rename_i e; subst e; exact jeX7_onPath_5 ih h
    cases h) 400 (pc := 5) (L := [.null, .int x1, .int x2, .int x3]) (S := []) h
theorem npX7_onPath : (parseMethodDescriptor (qmy 136).desc).map (fun d => d.parameters.length) = some 2 := by decide +kernel
set_option maxRecDepth 100000 in
theorem gdX7_onPath {base : Nat} {D : va_G} {ca : Nat → ClassId} {cv : Nat → Value} (hcv : ∀ j, (cv j).category = 1) {a0 : Int32} {a1 : Int32} {μ : qM} {r : qR} (h : fX7_onPath a0 a1 μ = some r) : qGood false base D ca cv 2 136 [.int a0, .int a1] μ r := by
  exact qgood_of (by decide) (by omega) hcv (Or.inl rfl) npX7_onPath rfl (Nat.le_of_ble_eq_true rfl) rfl (qblk_ev2 (cf := cfX7_onPath) (st := (fun n => qin [5] n)) (K := (fun pc L S μ => if pc = 5 then jX7_onPath_5 (fX7_onPath_5 qfu) L S μ else none)) (cd := qcX7_onPath) (M := 136) (d0 := 1) rfl qcok_X7_onPath (Nat.le_refl _) (hcX7_onPath hcv) (by
    intro pc L S μ r h
    split at h
    · rename_i e; subst e; exact jeX7_onPath_5 (lbX7_onPath_5 hcv qfu) h
    cases h) 400 (pc := 0) (L := qent [.int a0, .int a1] 4) (S := []) h)
theorem gaX7_onPath {base : Nat} {D : va_G} {ca : Nat → ClassId} {cv : Nat → Value} (hcv : ∀ j, (cv j).category = 1) {l : List Value} {μ : qM} {r : qR} (h : aX7_onPath l μ = some r) : qGood false base D ca cv 2 136 l μ r := by
  unfold aX7_onPath at h
  split at h
  · exact gdX7_onPath hcv h
  · cases h
noncomputable def gX5_modeAt (a0 : Nat) (a1 : Int32) (a2 : Int32) (μ : qM) : Option qR :=
  qbnd (oGetP μ 5 a0 0) fun v1 =>
  qbnd (oLdI 20 μ v1 a2) fun v2 =>
  some (((qush v2 ((4 : Int32) * a1)) &&& (15 : Int32)), 0, μ)
noncomputable def fX5_modeAt (a0 : Nat) (a1 : Int32) (a2 : Int32) (μ : qM) : Option qR := if (qk μ a0).1 = 5 then gX5_modeAt a0 a1 a2 μ else none
noncomputable def aX5_modeAt (l : List Value) (μ : qM) : Option qR := match l with
  | [.ref x0, .int x1, .int x2] => fX5_modeAt x0 x1 x2 μ
  | _ => none
noncomputable def cfX5_modeAt : qF := fun n l μ => none
theorem hcX5_modeAt {base : Nat} {D : va_G} {ca : Nat → ClassId} {cv : Nat → Value} (hcv : ∀ j, (cv j).category = 1) : ∀ M as μ r, cfX5_modeAt M as μ = some r → qGood false base D ca cv 0 M as μ r := by
  intro M as μ r h
  cases h
theorem npX5_modeAt : (parseMethodDescriptor (qmy 54).desc).map (fun d => d.parameters.length) = some 2 := by decide +kernel
set_option maxRecDepth 100000 in
theorem gdX5_modeAt {base : Nat} {D : va_G} {ca : Nat → ClassId} {cv : Nat → Value} (hcv : ∀ j, (cv j).category = 1) {a0 : Nat} {a1 : Int32} {a2 : Int32} {μ : qM} {r : qR} (h : fX5_modeAt a0 a1 a2 μ = some r) : qGood false base D ca cv 1 54 [.ref a0, .int a1, .int a2] μ r := by
  unfold fX5_modeAt at h
  split at h
  · rename_i hk0
    exact qgood_of (by decide) (by omega) hcv (Or.inr ⟨by decide +kernel, hk0⟩) npX5_modeAt rfl (Nat.le_of_ble_eq_true rfl) rfl (qblk_ev2 (cf := cfX5_modeAt) (st := (fun n => qin [] n)) (K := (fun pc L S μ => none)) (cd := qcX5_modeAt) (M := 54) (d0 := 0) rfl qcok_X5_modeAt (Nat.le_refl _) (hcX5_modeAt hcv) (by
    intro pc L S μ r h
    cases h) 400 (pc := 0) (L := qent [.ref a0, .int a1, .int a2] 3) (S := []) h)
  · cases h
theorem gaX5_modeAt {base : Nat} {D : va_G} {ca : Nat → ClassId} {cv : Nat → Value} (hcv : ∀ j, (cv j).category = 1) {l : List Value} {μ : qM} {r : qR} (h : aX5_modeAt l μ = some r) : qGood false base D ca cv 1 54 l μ r := by
  unfold aX5_modeAt at h
  split at h
  · exact gdX5_modeAt hcv h
  · cases h
noncomputable def fX5_firstAbove_2 : Nat → Nat → Int32 → Int32 → Int32 → Int32 → qM → Option qR
  | 0 => fun _ _ _ _ _ _ => none
  | n + 1 => fun x0 x1 x2 x3 x4 μ =>
    qbnd (fX7_levelOf x2 μ) fun r1 =>
    if r1.1 ≤ x4 then
      some ((85 : Int32), 0, r1.2.2)
    else
      qbnd (fX7_onPath x2 x4 r1.2.2) fun r2 =>
      qbnd (fX5_modeAt x0 x1 r2.1 r2.2.2) fun r3 =>
      if ((qush x3 r3.1) &&& (1 : Int32)) = 0 then
        fX5_firstAbove_2 n x0 x1 x2 x3 (x4 + (1 : Int32)) r3.2.2
      else
        some (r2.1, 0, r3.2.2)
noncomputable def gX5_firstAbove (a0 : Nat) (a1 : Int32) (a2 : Int32) (a3 : Int32) (μ : qM) : Option qR :=
  fX5_firstAbove_2 qfu a0 a1 a2 a3 (0 : Int32) μ
noncomputable def fX5_firstAbove (a0 : Nat) (a1 : Int32) (a2 : Int32) (a3 : Int32) (μ : qM) : Option qR := if (qk μ a0).1 = 5 then gX5_firstAbove a0 a1 a2 a3 μ else none
noncomputable def aX5_firstAbove (l : List Value) (μ : qM) : Option qR := match l with
  | [.ref x0, .int x1, .int x2, .int x3] => fX5_firstAbove x0 x1 x2 x3 μ
  | _ => none
noncomputable def cfX5_firstAbove : qF := fun n l μ => if n = 135 then aX7_levelOf l μ else if n = 136 then aX7_onPath l μ else if n = 54 then aX5_modeAt l μ else none
theorem hcX5_firstAbove {base : Nat} {D : va_G} {ca : Nat → ClassId} {cv : Nat → Value} (hcv : ∀ j, (cv j).category = 1) : ∀ M as μ r, cfX5_firstAbove M as μ = some r → qGood false base D ca cv 2 M as μ r := by
  intro M as μ r h
  unfold cfX5_firstAbove at h
  split at h
  · rename_i e; subst e; exact (gaX7_levelOf hcv h).mono (by omega)
  split at h
  · rename_i e; subst e; exact (gaX7_onPath hcv h).mono (by omega)
  split at h
  · rename_i e; subst e; exact (gaX5_modeAt hcv h).mono (by omega)
  cases h
def jX5_firstAbove_2 (f : Nat → Int32 → Int32 → Int32 → Int32 → qM → Option qR) (L S : List Value) (μ : qM) : Option qR := match L, S with
  | [.ref x0, .int x1, .int x2, .int x3, .int x4, _], [] => f x0 x1 x2 x3 x4 μ
  | _, _ => none
theorem jeX5_firstAbove_2 {base : Nat} {D : va_G} {ca : Nat → ClassId} {cv : Nat → Value} {d : Nat} {f : Nat → Int32 → Int32 → Int32 → Int32 → qM → Option qR} (hf : ∀ (x0 : Nat) (x1 : Int32) (x2 : Int32) (x3 : Int32) (x4 : Int32) (μ : qM) (r : qR), f x0 x1 x2 x3 x4 μ = some r → qEv false base D ca cv d 64 r 2 [.ref x0, .int x1, .int x2, .int x3, .int x4, .null] [] μ) {L S : List Value} {μ : qM} {r : qR} (h : jX5_firstAbove_2 f L S μ = some r) : qEv false base D ca cv d 64 r 2 L S μ := by
  unfold jX5_firstAbove_2 at h
  split at h
  · exact (hf _ _ _ _ _ _ _ h).le rfl ⟨Or.inr rfl, Or.inr rfl, Or.inr rfl, Or.inr rfl, Or.inr rfl, Or.inl rfl, trivial⟩
  · cases h
set_option maxRecDepth 100000 in
theorem lbX5_firstAbove_2 {base : Nat} {D : va_G} {ca : Nat → ClassId} {cv : Nat → Value} (hcv : ∀ j, (cv j).category = 1) : ∀ (n : Nat) (x0 : Nat) (x1 : Int32) (x2 : Int32) (x3 : Int32) (x4 : Int32) (μ : qM) (r : qR), fX5_firstAbove_2 n x0 x1 x2 x3 x4 μ = some r → qEv false base D ca cv 3 64 r 2 [.ref x0, .int x1, .int x2, .int x3, .int x4, .null] [] μ := by
  intro n
  induction n with
  | zero => intro x0 x1 x2 x3 x4 μ r h; cases (show (none : Option qR) = some r from h)
  | succ n ih =>
    intro x0 x1 x2 x3 x4 μ r h
    exact qblk_ev2 (cf := cfX5_firstAbove) (st := (fun n => qin [2] n)) (K := (fun pc L S μ => if pc = 2 then jX5_firstAbove_2 (fX5_firstAbove_2 n) L S μ else none)) (cd := qcX5_firstAbove) (M := 64) (d0 := 2) rfl qcok_X5_firstAbove (Nat.le_refl _) (hcX5_firstAbove hcv) (by
    intro pc L S μ r h
    split at h
    · rename_i e; subst e; exact jeX5_firstAbove_2 ih h
    cases h) 400 (pc := 2) (L := [.ref x0, .int x1, .int x2, .int x3, .int x4, .null]) (S := []) h
theorem npX5_firstAbove : (parseMethodDescriptor (qmy 64).desc).map (fun d => d.parameters.length) = some 3 := by decide +kernel
set_option maxRecDepth 100000 in
theorem gdX5_firstAbove {base : Nat} {D : va_G} {ca : Nat → ClassId} {cv : Nat → Value} (hcv : ∀ j, (cv j).category = 1) {a0 : Nat} {a1 : Int32} {a2 : Int32} {a3 : Int32} {μ : qM} {r : qR} (h : fX5_firstAbove a0 a1 a2 a3 μ = some r) : qGood false base D ca cv 3 64 [.ref a0, .int a1, .int a2, .int a3] μ r := by
  unfold fX5_firstAbove at h
  split at h
  · rename_i hk0
    exact qgood_of (by decide) (by omega) hcv (Or.inr ⟨by decide +kernel, hk0⟩) npX5_firstAbove rfl (Nat.le_of_ble_eq_true rfl) rfl (qblk_ev2 (cf := cfX5_firstAbove) (st := (fun n => qin [2] n)) (K := (fun pc L S μ => if pc = 2 then jX5_firstAbove_2 (fX5_firstAbove_2 qfu) L S μ else none)) (cd := qcX5_firstAbove) (M := 64) (d0 := 2) rfl qcok_X5_firstAbove (Nat.le_refl _) (hcX5_firstAbove hcv) (by
    intro pc L S μ r h
    split at h
    · rename_i e; subst e; exact jeX5_firstAbove_2 (lbX5_firstAbove_2 hcv qfu) h
    cases h) 400 (pc := 0) (L := qent [.ref a0, .int a1, .int a2, .int a3] 6) (S := []) h)
  · cases h
theorem gaX5_firstAbove {base : Nat} {D : va_G} {ca : Nat → ClassId} {cv : Nat → Value} (hcv : ∀ j, (cv j).category = 1) {l : List Value} {μ : qM} {r : qR} (h : aX5_firstAbove l μ = some r) : qGood false base D ca cv 3 64 l μ r := by
  unfold aX5_firstAbove at h
  split at h
  · exact gdX5_firstAbove hcv h
  · cases h
noncomputable def fX5_isCovered_9 (x0 : Nat) (x1 : Int32) (x2 : Int32) (s0 : Int32) (μ : qM) : Option qR :=
  qbnd (fX5_firstAbove x0 x1 x2 s0 μ) fun r1 =>
  if r1.1 = (85 : Int32) then
    if qnz (0 : Int32) = (0 : Int32) then some ((0 : Int32), 0, r1.2.2) else none
  else
    if qnz (1 : Int32) = (1 : Int32) then some ((1 : Int32), 0, r1.2.2) else none
noncomputable def fX5_isCovered_6 (x0 : Nat) (x1 : Int32) (x2 : Int32) (μ : qM) : Option qR :=
  fX5_isCovered_9 x0 x1 x2 (120 : Int32) μ
noncomputable def gX5_isCovered (a0 : Nat) (a1 : Int32) (a2 : Int32) (a3 : Int32) (μ : qM) : Option qR :=
  if a3 = (1 : Int32) then
    fX5_isCovered_6 a0 a1 a2 μ
  else
    if a3 = (3 : Int32) then
      fX5_isCovered_6 a0 a1 a2 μ
    else
      fX5_isCovered_9 a0 a1 a2 (64 : Int32) μ
noncomputable def fX5_isCovered (a0 : Nat) (a1 : Int32) (a2 : Int32) (a3 : Int32) (μ : qM) : Option qR := if (qk μ a0).1 = 5 then gX5_isCovered a0 a1 a2 a3 μ else none
noncomputable def aX5_isCovered (l : List Value) (μ : qM) : Option qR := match l with
  | [.ref x0, .int x1, .int x2, .int x3] => fX5_isCovered x0 x1 x2 x3 μ
  | _ => none
noncomputable def cfX5_isCovered : qF := fun n l μ => if n = 64 then aX5_firstAbove l μ else none
theorem hcX5_isCovered {base : Nat} {D : va_G} {ca : Nat → ClassId} {cv : Nat → Value} (hcv : ∀ j, (cv j).category = 1) : ∀ M as μ r, cfX5_isCovered M as μ = some r → qGood false base D ca cv 3 M as μ r := by
  intro M as μ r h
  unfold cfX5_isCovered at h
  split at h
  · rename_i e; subst e; exact (gaX5_firstAbove hcv h).mono (by omega)
  cases h
def jX5_isCovered_6 (f : Nat → Int32 → Int32 → qM → Option qR) (L S : List Value) (μ : qM) : Option qR := match L, S with
  | [.ref x0, .int x1, .int x2, _, _], [] => f x0 x1 x2 μ
  | _, _ => none
theorem jeX5_isCovered_6 {base : Nat} {D : va_G} {ca : Nat → ClassId} {cv : Nat → Value} {d : Nat} {f : Nat → Int32 → Int32 → qM → Option qR} (hf : ∀ (x0 : Nat) (x1 : Int32) (x2 : Int32) (μ : qM) (r : qR), f x0 x1 x2 μ = some r → qEv false base D ca cv d 65 r 6 [.ref x0, .int x1, .int x2, .null, .null] [] μ) {L S : List Value} {μ : qM} {r : qR} (h : jX5_isCovered_6 f L S μ = some r) : qEv false base D ca cv d 65 r 6 L S μ := by
  unfold jX5_isCovered_6 at h
  split at h
  · exact (hf _ _ _ _ _ h).le rfl ⟨Or.inr rfl, Or.inr rfl, Or.inr rfl, Or.inl rfl, Or.inl rfl, trivial⟩
  · cases h
def jX5_isCovered_9 (f : Nat → Int32 → Int32 → Int32 → qM → Option qR) (L S : List Value) (μ : qM) : Option qR := match L, S with
  | [.ref x0, .int x1, .int x2, _, _], [.int s0] => f x0 x1 x2 s0 μ
  | _, _ => none
theorem jeX5_isCovered_9 {base : Nat} {D : va_G} {ca : Nat → ClassId} {cv : Nat → Value} {d : Nat} {f : Nat → Int32 → Int32 → Int32 → qM → Option qR} (hf : ∀ (x0 : Nat) (x1 : Int32) (x2 : Int32) (s0 : Int32) (μ : qM) (r : qR), f x0 x1 x2 s0 μ = some r → qEv false base D ca cv d 65 r 9 [.ref x0, .int x1, .int x2, .null, .null] [.int s0] μ) {L S : List Value} {μ : qM} {r : qR} (h : jX5_isCovered_9 f L S μ = some r) : qEv false base D ca cv d 65 r 9 L S μ := by
  unfold jX5_isCovered_9 at h
  split at h
  · exact (hf _ _ _ _ _ _ h).le rfl ⟨Or.inr rfl, Or.inr rfl, Or.inr rfl, Or.inl rfl, Or.inl rfl, trivial⟩
  · cases h
set_option maxRecDepth 100000 in
theorem lbX5_isCovered_9 {base : Nat} {D : va_G} {ca : Nat → ClassId} {cv : Nat → Value} (hcv : ∀ j, (cv j).category = 1) (x0 : Nat) (x1 : Int32) (x2 : Int32) (s0 : Int32) (μ : qM) (r : qR) (h : fX5_isCovered_9 x0 x1 x2 s0 μ = some r) : qEv false base D ca cv 4 65 r 9 [.ref x0, .int x1, .int x2, .null, .null] [.int s0] μ := by
    exact qblk_ev2 (cf := cfX5_isCovered) (st := (fun n => qin [6, 9] n)) (K := (fun pc L S μ => none)) (cd := qcX5_isCovered) (M := 65) (d0 := 3) rfl qcok_X5_isCovered (Nat.le_refl _) (hcX5_isCovered hcv) (by
    intro pc L S μ r h
    cases h) 400 (pc := 9) (L := [.ref x0, .int x1, .int x2, .null, .null]) (S := [.int s0]) h
set_option maxRecDepth 100000 in
theorem lbX5_isCovered_6 {base : Nat} {D : va_G} {ca : Nat → ClassId} {cv : Nat → Value} (hcv : ∀ j, (cv j).category = 1) (x0 : Nat) (x1 : Int32) (x2 : Int32) (μ : qM) (r : qR) (h : fX5_isCovered_6 x0 x1 x2 μ = some r) : qEv false base D ca cv 4 65 r 6 [.ref x0, .int x1, .int x2, .null, .null] [] μ := by
    exact qblk_ev2 (cf := cfX5_isCovered) (st := (fun n => qin [6, 9] n)) (K := (fun pc L S μ => if pc = 9 then jX5_isCovered_9 (fX5_isCovered_9) L S μ else none)) (cd := qcX5_isCovered) (M := 65) (d0 := 3) rfl qcok_X5_isCovered (Nat.le_refl _) (hcX5_isCovered hcv) (by
    intro pc L S μ r h
    split at h
    · rename_i e; subst e; exact jeX5_isCovered_9 (lbX5_isCovered_9 hcv) h
    cases h) 400 (pc := 6) (L := [.ref x0, .int x1, .int x2, .null, .null]) (S := []) h
theorem npX5_isCovered : (parseMethodDescriptor (qmy 65).desc).map (fun d => d.parameters.length) = some 3 := by decide +kernel
set_option maxRecDepth 100000 in
theorem gdX5_isCovered {base : Nat} {D : va_G} {ca : Nat → ClassId} {cv : Nat → Value} (hcv : ∀ j, (cv j).category = 1) {a0 : Nat} {a1 : Int32} {a2 : Int32} {a3 : Int32} {μ : qM} {r : qR} (h : fX5_isCovered a0 a1 a2 a3 μ = some r) : qGood false base D ca cv 4 65 [.ref a0, .int a1, .int a2, .int a3] μ r := by
  unfold fX5_isCovered at h
  split at h
  · rename_i hk0
    exact qgood_of (by decide) (by omega) hcv (Or.inr ⟨by decide +kernel, hk0⟩) npX5_isCovered rfl (Nat.le_of_ble_eq_true rfl) rfl (qblk_ev2 (cf := cfX5_isCovered) (st := (fun n => qin [6, 9] n)) (K := (fun pc L S μ => if pc = 6 then jX5_isCovered_6 (fX5_isCovered_6) L S μ else if pc = 9 then jX5_isCovered_9 (fX5_isCovered_9) L S μ else none)) (cd := qcX5_isCovered) (M := 65) (d0 := 3) rfl qcok_X5_isCovered (Nat.le_refl _) (hcX5_isCovered hcv) (by
    intro pc L S μ r h
    split at h
    · rename_i e; subst e; exact jeX5_isCovered_6 (lbX5_isCovered_6 hcv) h
    split at h
    · rename_i e; subst e; exact jeX5_isCovered_9 (lbX5_isCovered_9 hcv) h
    cases h) 400 (pc := 0) (L := qent [.ref a0, .int a1, .int a2, .int a3] 5) (S := []) h)
  · cases h
theorem gaX5_isCovered {base : Nat} {D : va_G} {ca : Nat → ClassId} {cv : Nat → Value} (hcv : ∀ j, (cv j).category = 1) {l : List Value} {μ : qM} {r : qR} (h : aX5_isCovered l μ = some r) : qGood false base D ca cv 4 65 l μ r := by
  unfold aX5_isCovered at h
  split at h
  · exact gdX5_isCovered hcv h
  · cases h
noncomputable def fX5_gatherMode_46 (k12 : Nat → Int32 → Int32 → Int32 → Int32 → qM → Option qR) (x0 : Nat) (x1 : Int32) (x2 : Int32) (x3 : Int32) (x4 : Int32) (μ : qM) : Option qR :=
  k12 x0 x1 x2 (((4 : Int32) * x3) + (4 : Int32)) (((4 : Int32) * x4) + (1 : Int32)) μ
noncomputable def fX5_gatherMode_17 (k12 : Nat → Int32 → Int32 → Int32 → Int32 → qM → Option qR) : Nat → Nat → Int32 → Int32 → Int32 → Int32 → Int32 → qM → Option qR
  | 0 => fun _ _ _ _ _ _ _ => none
  | n + 1 => fun x0 x1 x2 x3 x4 x5 μ =>
    if x3 < x5 then
      fX5_gatherMode_46 k12 x0 x1 x2 x3 x4 μ
    else
      if (85 : Int32) ≤ x5 then
        fX5_gatherMode_46 k12 x0 x1 x2 x3 x4 μ
      else
        qbnd (oGetP μ 5 x0 0) fun v1 =>
        qbnd (oLdI 20 μ v1 x5) fun v2 =>
        let w3 : Int32 := ((qush v2 ((4 : Int32) * x1)) &&& (15 : Int32))
        if w3 = 0 then
          fX5_gatherMode_17 k12 n x0 x1 x2 x3 x4 (x5 + (1 : Int32)) μ
        else
          if w3 = (1 : Int32) then
            fX5_gatherMode_17 k12 n x0 x1 x2 x3 x4 (x5 + (1 : Int32)) μ
          else
            if w3 = (3 : Int32) then
              fX5_gatherMode_17 k12 n x0 x1 x2 x3 x4 (x5 + (1 : Int32)) μ
            else
              some ((6 : Int32), 0, μ)
noncomputable def fX5_gatherMode_12 : Nat → Nat → Int32 → Int32 → Int32 → Int32 → qM → Option qR
  | 0 => fun _ _ _ _ _ _ => none
  | n + 1 => fun x0 x1 x2 x3 x4 μ =>
    if (85 : Int32) ≤ x4 then
      qbnd (oGetP μ 5 x0 0) fun v1 =>
      qbnd (oLdI 20 μ v1 x2) fun v2 =>
      qbnd (oTab 1 2 (((7 : Int32) * ((qush v2 ((4 : Int32) * x1)) &&& (15 : Int32))) + (3 : Int32))) fun v3 =>
      some (v3, 0, μ)
    else
      fX5_gatherMode_17 (fX5_gatherMode_12 n) qfu x0 x1 x2 x3 x4 x4 μ
noncomputable def gX5_gatherMode (a0 : Nat) (a1 : Int32) (a2 : Int32) (μ : qM) : Option qR :=
  fX5_gatherMode_12 qfu a0 a1 a2 (((4 : Int32) * a2) + (4 : Int32)) (((4 : Int32) * a2) + (1 : Int32)) μ
noncomputable def fX5_gatherMode (a0 : Nat) (a1 : Int32) (a2 : Int32) (μ : qM) : Option qR := if (qk μ a0).1 = 5 then gX5_gatherMode a0 a1 a2 μ else none
noncomputable def aX5_gatherMode (l : List Value) (μ : qM) : Option qR := match l with
  | [.ref x0, .int x1, .int x2] => fX5_gatherMode x0 x1 x2 μ
  | _ => none
noncomputable def cfX5_gatherMode : qF := fun n l μ => none
theorem hcX5_gatherMode {base : Nat} {D : va_G} {ca : Nat → ClassId} {cv : Nat → Value} (hcv : ∀ j, (cv j).category = 1) : ∀ M as μ r, cfX5_gatherMode M as μ = some r → qGood false base D ca cv 0 M as μ r := by
  intro M as μ r h
  cases h
def jX5_gatherMode_12 (f : Nat → Int32 → Int32 → Int32 → Int32 → qM → Option qR) (L S : List Value) (μ : qM) : Option qR := match L, S with
  | [.ref x0, .int x1, .int x2, .int x3, .int x4, _, _], [] => f x0 x1 x2 x3 x4 μ
  | _, _ => none
theorem jeX5_gatherMode_12 {base : Nat} {D : va_G} {ca : Nat → ClassId} {cv : Nat → Value} {d : Nat} {f : Nat → Int32 → Int32 → Int32 → Int32 → qM → Option qR} (hf : ∀ (x0 : Nat) (x1 : Int32) (x2 : Int32) (x3 : Int32) (x4 : Int32) (μ : qM) (r : qR), f x0 x1 x2 x3 x4 μ = some r → qEv false base D ca cv d 63 r 12 [.ref x0, .int x1, .int x2, .int x3, .int x4, .null, .null] [] μ) {L S : List Value} {μ : qM} {r : qR} (h : jX5_gatherMode_12 f L S μ = some r) : qEv false base D ca cv d 63 r 12 L S μ := by
  unfold jX5_gatherMode_12 at h
  split at h
  · exact (hf _ _ _ _ _ _ _ h).le rfl ⟨Or.inr rfl, Or.inr rfl, Or.inr rfl, Or.inr rfl, Or.inr rfl, Or.inl rfl, Or.inl rfl, trivial⟩
  · cases h
def jX5_gatherMode_17 (f : Nat → Int32 → Int32 → Int32 → Int32 → Int32 → qM → Option qR) (L S : List Value) (μ : qM) : Option qR := match L, S with
  | [.ref x0, .int x1, .int x2, .int x3, .int x4, .int x5, _], [] => f x0 x1 x2 x3 x4 x5 μ
  | _, _ => none
theorem jeX5_gatherMode_17 {base : Nat} {D : va_G} {ca : Nat → ClassId} {cv : Nat → Value} {d : Nat} {f : Nat → Int32 → Int32 → Int32 → Int32 → Int32 → qM → Option qR} (hf : ∀ (x0 : Nat) (x1 : Int32) (x2 : Int32) (x3 : Int32) (x4 : Int32) (x5 : Int32) (μ : qM) (r : qR), f x0 x1 x2 x3 x4 x5 μ = some r → qEv false base D ca cv d 63 r 17 [.ref x0, .int x1, .int x2, .int x3, .int x4, .int x5, .null] [] μ) {L S : List Value} {μ : qM} {r : qR} (h : jX5_gatherMode_17 f L S μ = some r) : qEv false base D ca cv d 63 r 17 L S μ := by
  unfold jX5_gatherMode_17 at h
  split at h
  · exact (hf _ _ _ _ _ _ _ _ h).le rfl ⟨Or.inr rfl, Or.inr rfl, Or.inr rfl, Or.inr rfl, Or.inr rfl, Or.inr rfl, Or.inl rfl, trivial⟩
  · cases h
def jX5_gatherMode_46 (f : Nat → Int32 → Int32 → Int32 → Int32 → qM → Option qR) (L S : List Value) (μ : qM) : Option qR := match L, S with
  | [.ref x0, .int x1, .int x2, .int x3, .int x4, _, _], [] => f x0 x1 x2 x3 x4 μ
  | _, _ => none
theorem jeX5_gatherMode_46 {base : Nat} {D : va_G} {ca : Nat → ClassId} {cv : Nat → Value} {d : Nat} {f : Nat → Int32 → Int32 → Int32 → Int32 → qM → Option qR} (hf : ∀ (x0 : Nat) (x1 : Int32) (x2 : Int32) (x3 : Int32) (x4 : Int32) (μ : qM) (r : qR), f x0 x1 x2 x3 x4 μ = some r → qEv false base D ca cv d 63 r 46 [.ref x0, .int x1, .int x2, .int x3, .int x4, .null, .null] [] μ) {L S : List Value} {μ : qM} {r : qR} (h : jX5_gatherMode_46 f L S μ = some r) : qEv false base D ca cv d 63 r 46 L S μ := by
  unfold jX5_gatherMode_46 at h
  split at h
  · exact (hf _ _ _ _ _ _ _ h).le rfl ⟨Or.inr rfl, Or.inr rfl, Or.inr rfl, Or.inr rfl, Or.inr rfl, Or.inl rfl, Or.inl rfl, trivial⟩
  · cases h
set_option maxRecDepth 100000 in
theorem lbX5_gatherMode_46 {base : Nat} {D : va_G} {ca : Nat → ClassId} {cv : Nat → Value} (hcv : ∀ j, (cv j).category = 1) {k12 : Nat → Int32 → Int32 → Int32 → Int32 → qM → Option qR} (hk12 : ∀ (y0 : Nat) (y1 : Int32) (y2 : Int32) (y3 : Int32) (y4 : Int32) (μ : qM) (r : qR), k12 y0 y1 y2 y3 y4 μ = some r → qEv false base D ca cv 1 63 r 12 [.ref y0, .int y1, .int y2, .int y3, .int y4, .null, .null] [] μ) (x0 : Nat) (x1 : Int32) (x2 : Int32) (x3 : Int32) (x4 : Int32) (μ : qM) (r : qR) (h : fX5_gatherMode_46 k12 x0 x1 x2 x3 x4 μ = some r) : qEv false base D ca cv 1 63 r 46 [.ref x0, .int x1, .int x2, .int x3, .int x4, .null, .null] [] μ := by
    exact qblk_ev2 (cf := cfX5_gatherMode) (st := (fun n => qin [12, 17, 46] n)) (K := (fun pc L S μ => if pc = 12 then jX5_gatherMode_12 k12 L S μ else none)) (cd := qcX5_gatherMode) (M := 63) (d0 := 0) rfl qcok_X5_gatherMode (Nat.le_refl _) (hcX5_gatherMode hcv) (by
    intro pc L S μ r h
    split at h
    · rename_i e; subst e; exact jeX5_gatherMode_12 hk12 h
    cases h) 400 (pc := 46) (L := [.ref x0, .int x1, .int x2, .int x3, .int x4, .null, .null]) (S := []) h
set_option maxRecDepth 100000 in
theorem lbX5_gatherMode_17 {base : Nat} {D : va_G} {ca : Nat → ClassId} {cv : Nat → Value} (hcv : ∀ j, (cv j).category = 1) {k12 : Nat → Int32 → Int32 → Int32 → Int32 → qM → Option qR} (hk12 : ∀ (y0 : Nat) (y1 : Int32) (y2 : Int32) (y3 : Int32) (y4 : Int32) (μ : qM) (r : qR), k12 y0 y1 y2 y3 y4 μ = some r → qEv false base D ca cv 1 63 r 12 [.ref y0, .int y1, .int y2, .int y3, .int y4, .null, .null] [] μ) : ∀ (n : Nat) (x0 : Nat) (x1 : Int32) (x2 : Int32) (x3 : Int32) (x4 : Int32) (x5 : Int32) (μ : qM) (r : qR), fX5_gatherMode_17 k12 n x0 x1 x2 x3 x4 x5 μ = some r → qEv false base D ca cv 1 63 r 17 [.ref x0, .int x1, .int x2, .int x3, .int x4, .int x5, .null] [] μ := by
  intro n
  induction n with
  | zero => intro x0 x1 x2 x3 x4 x5 μ r h; cases (show (none : Option qR) = some r from h)
  | succ n ih =>
    intro x0 x1 x2 x3 x4 x5 μ r h
    exact qblk_ev2 (cf := cfX5_gatherMode) (st := (fun n => qin [12, 17, 46] n)) (K := (fun pc L S μ => if pc = 17 then jX5_gatherMode_17 (fX5_gatherMode_17 k12 n) L S μ else if pc = 46 then jX5_gatherMode_46 (fX5_gatherMode_46 k12) L S μ else none)) (cd := qcX5_gatherMode) (M := 63) (d0 := 0) rfl qcok_X5_gatherMode (Nat.le_refl _) (hcX5_gatherMode hcv) (by
    intro pc L S μ r h
    split at h
    · rename_i e; subst e; exact jeX5_gatherMode_17 ih h
    split at h
    · rename_i e; subst e; exact jeX5_gatherMode_46 (lbX5_gatherMode_46 hcv hk12) h
    cases h) 400 (pc := 17) (L := [.ref x0, .int x1, .int x2, .int x3, .int x4, .int x5, .null]) (S := []) h
set_option maxRecDepth 100000 in
theorem lbX5_gatherMode_12 {base : Nat} {D : va_G} {ca : Nat → ClassId} {cv : Nat → Value} (hcv : ∀ j, (cv j).category = 1) : ∀ (n : Nat) (x0 : Nat) (x1 : Int32) (x2 : Int32) (x3 : Int32) (x4 : Int32) (μ : qM) (r : qR), fX5_gatherMode_12 n x0 x1 x2 x3 x4 μ = some r → qEv false base D ca cv 1 63 r 12 [.ref x0, .int x1, .int x2, .int x3, .int x4, .null, .null] [] μ := by
  intro n
  induction n with
  | zero => intro x0 x1 x2 x3 x4 μ r h; cases (show (none : Option qR) = some r from h)
  | succ n ih =>
    intro x0 x1 x2 x3 x4 μ r h
    exact qblk_ev2 (cf := cfX5_gatherMode) (st := (fun n => qin [12, 17, 46] n)) (K := (fun pc L S μ => if pc = 17 then jX5_gatherMode_17 (fX5_gatherMode_17 (fX5_gatherMode_12 n) qfu) L S μ else none)) (cd := qcX5_gatherMode) (M := 63) (d0 := 0) rfl qcok_X5_gatherMode (Nat.le_refl _) (hcX5_gatherMode hcv) (by
    intro pc L S μ r h
    split at h
    · rename_i e; subst e; exact jeX5_gatherMode_17 (lbX5_gatherMode_17 hcv ih qfu) h
    cases h) 400 (pc := 12) (L := [.ref x0, .int x1, .int x2, .int x3, .int x4, .null, .null]) (S := []) h
theorem npX5_gatherMode : (parseMethodDescriptor (qmy 63).desc).map (fun d => d.parameters.length) = some 2 := by decide +kernel
set_option maxRecDepth 100000 in
theorem gdX5_gatherMode {base : Nat} {D : va_G} {ca : Nat → ClassId} {cv : Nat → Value} (hcv : ∀ j, (cv j).category = 1) {a0 : Nat} {a1 : Int32} {a2 : Int32} {μ : qM} {r : qR} (h : fX5_gatherMode a0 a1 a2 μ = some r) : qGood false base D ca cv 1 63 [.ref a0, .int a1, .int a2] μ r := by
  unfold fX5_gatherMode at h
  split at h
  · rename_i hk0
    exact qgood_of (by decide) (by omega) hcv (Or.inr ⟨by decide +kernel, hk0⟩) npX5_gatherMode rfl (Nat.le_of_ble_eq_true rfl) rfl (qblk_ev2 (cf := cfX5_gatherMode) (st := (fun n => qin [12, 17, 46] n)) (K := (fun pc L S μ => if pc = 12 then jX5_gatherMode_12 (fX5_gatherMode_12 qfu) L S μ else none)) (cd := qcX5_gatherMode) (M := 63) (d0 := 0) rfl qcok_X5_gatherMode (Nat.le_refl _) (hcX5_gatherMode hcv) (by
    intro pc L S μ r h
    split at h
    · rename_i e; subst e; exact jeX5_gatherMode_12 (lbX5_gatherMode_12 hcv qfu) h
    cases h) 400 (pc := 0) (L := qent [.ref a0, .int a1, .int a2] 7) (S := []) h)
  · cases h
theorem gaX5_gatherMode {base : Nat} {D : va_G} {ca : Nat → ClassId} {cv : Nat → Value} (hcv : ∀ j, (cv j).category = 1) {l : List Value} {μ : qM} {r : qR} (h : aX5_gatherMode l μ = some r) : qGood false base D ca cv 1 63 l μ r := by
  unfold aX5_gatherMode at h
  split at h
  · exact gdX5_gatherMode hcv h
  · cases h
noncomputable def fX5_holdingsBelow_44 (k14 : Nat → Int32 → Int32 → Int32 → Int32 → qM → Option qR) (x0 : Nat) (x1 : Int32) (x3 : Int32) (x4 : Int32) (x5 : Int32) (μ : qM) : Option qR :=
  k14 x0 x1 x3 (((4 : Int32) * x4) + (4 : Int32)) (((4 : Int32) * x5) + (1 : Int32)) μ
noncomputable def fX5_holdingsBelow_19 (k14 : Nat → Int32 → Int32 → Int32 → Int32 → qM → Option qR) : Nat → Nat → Int32 → Int32 → Int32 → Int32 → Int32 → qM → Option qR
  | 0 => fun _ _ _ _ _ _ _ => none
  | n + 1 => fun x0 x1 x3 x4 x5 x6 μ =>
    if x4 < x6 then
      fX5_holdingsBelow_44 k14 x0 x1 x3 x4 x5 μ
    else
      if (85 : Int32) ≤ x6 then
        fX5_holdingsBelow_44 k14 x0 x1 x3 x4 x5 μ
      else
        qbnd (oGetP μ 5 x0 0) fun v1 =>
        qbnd (oLdI 20 μ v1 x6) fun v2 =>
        if ((qush v2 ((4 : Int32) * x1)) &&& (15 : Int32)) = 0 then
          fX5_holdingsBelow_19 k14 n x0 x1 (x3 + (0 : Int32)) x4 x5 (x6 + (1 : Int32)) μ
        else
          fX5_holdingsBelow_19 k14 n x0 x1 (x3 + (1 : Int32)) x4 x5 (x6 + (1 : Int32)) μ
noncomputable def fX5_holdingsBelow_14 : Nat → Nat → Int32 → Int32 → Int32 → Int32 → qM → Option qR
  | 0 => fun _ _ _ _ _ _ => none
  | n + 1 => fun x0 x1 x3 x4 x5 μ =>
    if (85 : Int32) ≤ x5 then
      some (x3, 0, μ)
    else
      fX5_holdingsBelow_19 (fX5_holdingsBelow_14 n) qfu x0 x1 x3 x4 x5 x5 μ
noncomputable def gX5_holdingsBelow (a0 : Nat) (a1 : Int32) (a2 : Int32) (μ : qM) : Option qR :=
  fX5_holdingsBelow_14 qfu a0 a1 (0 : Int32) (((4 : Int32) * a2) + (4 : Int32)) (((4 : Int32) * a2) + (1 : Int32)) μ
noncomputable def fX5_holdingsBelow (a0 : Nat) (a1 : Int32) (a2 : Int32) (μ : qM) : Option qR := if (qk μ a0).1 = 5 then gX5_holdingsBelow a0 a1 a2 μ else none
noncomputable def aX5_holdingsBelow (l : List Value) (μ : qM) : Option qR := match l with
  | [.ref x0, .int x1, .int x2] => fX5_holdingsBelow x0 x1 x2 μ
  | _ => none
noncomputable def cfX5_holdingsBelow : qF := fun n l μ => none
theorem hcX5_holdingsBelow {base : Nat} {D : va_G} {ca : Nat → ClassId} {cv : Nat → Value} (hcv : ∀ j, (cv j).category = 1) : ∀ M as μ r, cfX5_holdingsBelow M as μ = some r → qGood false base D ca cv 0 M as μ r := by
  intro M as μ r h
  cases h
def jX5_holdingsBelow_14 (f : Nat → Int32 → Int32 → Int32 → Int32 → qM → Option qR) (L S : List Value) (μ : qM) : Option qR := match L, S with
  | [.ref x0, .int x1, _, .int x3, .int x4, .int x5, _], [] => f x0 x1 x3 x4 x5 μ
  | _, _ => none
theorem jeX5_holdingsBelow_14 {base : Nat} {D : va_G} {ca : Nat → ClassId} {cv : Nat → Value} {d : Nat} {f : Nat → Int32 → Int32 → Int32 → Int32 → qM → Option qR} (hf : ∀ (x0 : Nat) (x1 : Int32) (x3 : Int32) (x4 : Int32) (x5 : Int32) (μ : qM) (r : qR), f x0 x1 x3 x4 x5 μ = some r → qEv false base D ca cv d 62 r 14 [.ref x0, .int x1, .null, .int x3, .int x4, .int x5, .null] [] μ) {L S : List Value} {μ : qM} {r : qR} (h : jX5_holdingsBelow_14 f L S μ = some r) : qEv false base D ca cv d 62 r 14 L S μ := by
  unfold jX5_holdingsBelow_14 at h
  split at h
  · exact (hf _ _ _ _ _ _ _ h).le rfl ⟨Or.inr rfl, Or.inr rfl, Or.inl rfl, Or.inr rfl, Or.inr rfl, Or.inr rfl, Or.inl rfl, trivial⟩
  · cases h
def jX5_holdingsBelow_19 (f : Nat → Int32 → Int32 → Int32 → Int32 → Int32 → qM → Option qR) (L S : List Value) (μ : qM) : Option qR := match L, S with
  | [.ref x0, .int x1, _, .int x3, .int x4, .int x5, .int x6], [] => f x0 x1 x3 x4 x5 x6 μ
  | _, _ => none
theorem jeX5_holdingsBelow_19 {base : Nat} {D : va_G} {ca : Nat → ClassId} {cv : Nat → Value} {d : Nat} {f : Nat → Int32 → Int32 → Int32 → Int32 → Int32 → qM → Option qR} (hf : ∀ (x0 : Nat) (x1 : Int32) (x3 : Int32) (x4 : Int32) (x5 : Int32) (x6 : Int32) (μ : qM) (r : qR), f x0 x1 x3 x4 x5 x6 μ = some r → qEv false base D ca cv d 62 r 19 [.ref x0, .int x1, .null, .int x3, .int x4, .int x5, .int x6] [] μ) {L S : List Value} {μ : qM} {r : qR} (h : jX5_holdingsBelow_19 f L S μ = some r) : qEv false base D ca cv d 62 r 19 L S μ := by
  unfold jX5_holdingsBelow_19 at h
  split at h
  · exact (hf _ _ _ _ _ _ _ _ h).le rfl ⟨Or.inr rfl, Or.inr rfl, Or.inl rfl, Or.inr rfl, Or.inr rfl, Or.inr rfl, Or.inr rfl, trivial⟩
  · cases h
def jX5_holdingsBelow_44 (f : Nat → Int32 → Int32 → Int32 → Int32 → qM → Option qR) (L S : List Value) (μ : qM) : Option qR := match L, S with
  | [.ref x0, .int x1, _, .int x3, .int x4, .int x5, _], [] => f x0 x1 x3 x4 x5 μ
  | _, _ => none
theorem jeX5_holdingsBelow_44 {base : Nat} {D : va_G} {ca : Nat → ClassId} {cv : Nat → Value} {d : Nat} {f : Nat → Int32 → Int32 → Int32 → Int32 → qM → Option qR} (hf : ∀ (x0 : Nat) (x1 : Int32) (x3 : Int32) (x4 : Int32) (x5 : Int32) (μ : qM) (r : qR), f x0 x1 x3 x4 x5 μ = some r → qEv false base D ca cv d 62 r 44 [.ref x0, .int x1, .null, .int x3, .int x4, .int x5, .null] [] μ) {L S : List Value} {μ : qM} {r : qR} (h : jX5_holdingsBelow_44 f L S μ = some r) : qEv false base D ca cv d 62 r 44 L S μ := by
  unfold jX5_holdingsBelow_44 at h
  split at h
  · exact (hf _ _ _ _ _ _ _ h).le rfl ⟨Or.inr rfl, Or.inr rfl, Or.inl rfl, Or.inr rfl, Or.inr rfl, Or.inr rfl, Or.inl rfl, trivial⟩
  · cases h
set_option maxRecDepth 100000 in
theorem lbX5_holdingsBelow_44 {base : Nat} {D : va_G} {ca : Nat → ClassId} {cv : Nat → Value} (hcv : ∀ j, (cv j).category = 1) {k14 : Nat → Int32 → Int32 → Int32 → Int32 → qM → Option qR} (hk14 : ∀ (y0 : Nat) (y1 : Int32) (y3 : Int32) (y4 : Int32) (y5 : Int32) (μ : qM) (r : qR), k14 y0 y1 y3 y4 y5 μ = some r → qEv false base D ca cv 1 62 r 14 [.ref y0, .int y1, .null, .int y3, .int y4, .int y5, .null] [] μ) (x0 : Nat) (x1 : Int32) (x3 : Int32) (x4 : Int32) (x5 : Int32) (μ : qM) (r : qR) (h : fX5_holdingsBelow_44 k14 x0 x1 x3 x4 x5 μ = some r) : qEv false base D ca cv 1 62 r 44 [.ref x0, .int x1, .null, .int x3, .int x4, .int x5, .null] [] μ := by
    exact qblk_ev2 (cf := cfX5_holdingsBelow) (st := (fun n => qin [14, 19, 44] n)) (K := (fun pc L S μ => if pc = 14 then jX5_holdingsBelow_14 k14 L S μ else none)) (cd := qcX5_holdingsBelow) (M := 62) (d0 := 0) rfl qcok_X5_holdingsBelow (Nat.le_refl _) (hcX5_holdingsBelow hcv) (by
    intro pc L S μ r h
    split at h
    · rename_i e; subst e; exact jeX5_holdingsBelow_14 hk14 h
    cases h) 400 (pc := 44) (L := [.ref x0, .int x1, .null, .int x3, .int x4, .int x5, .null]) (S := []) h
set_option maxRecDepth 100000 in
theorem lbX5_holdingsBelow_19 {base : Nat} {D : va_G} {ca : Nat → ClassId} {cv : Nat → Value} (hcv : ∀ j, (cv j).category = 1) {k14 : Nat → Int32 → Int32 → Int32 → Int32 → qM → Option qR} (hk14 : ∀ (y0 : Nat) (y1 : Int32) (y3 : Int32) (y4 : Int32) (y5 : Int32) (μ : qM) (r : qR), k14 y0 y1 y3 y4 y5 μ = some r → qEv false base D ca cv 1 62 r 14 [.ref y0, .int y1, .null, .int y3, .int y4, .int y5, .null] [] μ) : ∀ (n : Nat) (x0 : Nat) (x1 : Int32) (x3 : Int32) (x4 : Int32) (x5 : Int32) (x6 : Int32) (μ : qM) (r : qR), fX5_holdingsBelow_19 k14 n x0 x1 x3 x4 x5 x6 μ = some r → qEv false base D ca cv 1 62 r 19 [.ref x0, .int x1, .null, .int x3, .int x4, .int x5, .int x6] [] μ := by
  intro n
  induction n with
  | zero => intro x0 x1 x3 x4 x5 x6 μ r h; cases (show (none : Option qR) = some r from h)
  | succ n ih =>
    intro x0 x1 x3 x4 x5 x6 μ r h
    exact qblk_ev2 (cf := cfX5_holdingsBelow) (st := (fun n => qin [14, 19, 44] n)) (K := (fun pc L S μ => if pc = 19 then jX5_holdingsBelow_19 (fX5_holdingsBelow_19 k14 n) L S μ else if pc = 44 then jX5_holdingsBelow_44 (fX5_holdingsBelow_44 k14) L S μ else none)) (cd := qcX5_holdingsBelow) (M := 62) (d0 := 0) rfl qcok_X5_holdingsBelow (Nat.le_refl _) (hcX5_holdingsBelow hcv) (by
    intro pc L S μ r h
    split at h
    · rename_i e; subst e; exact jeX5_holdingsBelow_19 ih h
    split at h
    · rename_i e; subst e; exact jeX5_holdingsBelow_44 (lbX5_holdingsBelow_44 hcv hk14) h
    cases h) 400 (pc := 19) (L := [.ref x0, .int x1, .null, .int x3, .int x4, .int x5, .int x6]) (S := []) h
set_option maxRecDepth 100000 in
theorem lbX5_holdingsBelow_14 {base : Nat} {D : va_G} {ca : Nat → ClassId} {cv : Nat → Value} (hcv : ∀ j, (cv j).category = 1) : ∀ (n : Nat) (x0 : Nat) (x1 : Int32) (x3 : Int32) (x4 : Int32) (x5 : Int32) (μ : qM) (r : qR), fX5_holdingsBelow_14 n x0 x1 x3 x4 x5 μ = some r → qEv false base D ca cv 1 62 r 14 [.ref x0, .int x1, .null, .int x3, .int x4, .int x5, .null] [] μ := by
  intro n
  induction n with
  | zero => intro x0 x1 x3 x4 x5 μ r h; cases (show (none : Option qR) = some r from h)
  | succ n ih =>
    intro x0 x1 x3 x4 x5 μ r h
    exact qblk_ev2 (cf := cfX5_holdingsBelow) (st := (fun n => qin [14, 19, 44] n)) (K := (fun pc L S μ => if pc = 19 then jX5_holdingsBelow_19 (fX5_holdingsBelow_19 (fX5_holdingsBelow_14 n) qfu) L S μ else none)) (cd := qcX5_holdingsBelow) (M := 62) (d0 := 0) rfl qcok_X5_holdingsBelow (Nat.le_refl _) (hcX5_holdingsBelow hcv) (by
    intro pc L S μ r h
    split at h
    · rename_i e; subst e; exact jeX5_holdingsBelow_19 (lbX5_holdingsBelow_19 hcv ih qfu) h
    cases h) 400 (pc := 14) (L := [.ref x0, .int x1, .null, .int x3, .int x4, .int x5, .null]) (S := []) h
theorem npX5_holdingsBelow : (parseMethodDescriptor (qmy 62).desc).map (fun d => d.parameters.length) = some 2 := by decide +kernel
set_option maxRecDepth 100000 in
theorem gdX5_holdingsBelow {base : Nat} {D : va_G} {ca : Nat → ClassId} {cv : Nat → Value} (hcv : ∀ j, (cv j).category = 1) {a0 : Nat} {a1 : Int32} {a2 : Int32} {μ : qM} {r : qR} (h : fX5_holdingsBelow a0 a1 a2 μ = some r) : qGood false base D ca cv 1 62 [.ref a0, .int a1, .int a2] μ r := by
  unfold fX5_holdingsBelow at h
  split at h
  · rename_i hk0
    exact qgood_of (by decide) (by omega) hcv (Or.inr ⟨by decide +kernel, hk0⟩) npX5_holdingsBelow rfl (Nat.le_of_ble_eq_true rfl) rfl (qblk_ev2 (cf := cfX5_holdingsBelow) (st := (fun n => qin [14, 19, 44] n)) (K := (fun pc L S μ => if pc = 14 then jX5_holdingsBelow_14 (fX5_holdingsBelow_14 qfu) L S μ else none)) (cd := qcX5_holdingsBelow) (M := 62) (d0 := 0) rfl qcok_X5_holdingsBelow (Nat.le_refl _) (hcX5_holdingsBelow hcv) (by
    intro pc L S μ r h
    split at h
    · rename_i e; subst e; exact jeX5_holdingsBelow_14 (lbX5_holdingsBelow_14 hcv qfu) h
    cases h) 400 (pc := 0) (L := qent [.ref a0, .int a1, .int a2] 7) (S := []) h)
  · cases h
theorem gaX5_holdingsBelow {base : Nat} {D : va_G} {ca : Nat → ClassId} {cv : Nat → Value} (hcv : ∀ j, (cv j).category = 1) {l : List Value} {μ : qM} {r : qR} (h : aX5_holdingsBelow l μ = some r) : qGood false base D ca cv 1 62 l μ r := by
  unfold aX5_holdingsBelow at h
  split at h
  · exact gdX5_holdingsBelow hcv h
  · cases h
noncomputable def fX5_isOpen_43 (k17 : Nat → Int32 → Int32 → Int32 → Int32 → Int32 → qM → Option qR) (x0 : Nat) (x1 : Int32) (x2 : Int32) (x3 : Int32) (x4 : Int32) (x5 : Int32) (x6 : Int32) (μ : qM) : Option qR :=
  if x5 = x1 then
    k17 x0 x1 x2 x3 x4 (x5 + (1 : Int32)) μ
  else
    qbnd (oTab 1 0 x3) fun v1 =>
    if ((qush v1 x6) &&& (1 : Int32)) = 0 then
      if qnz (0 : Int32) = (0 : Int32) then some ((0 : Int32), 0, μ) else none
    else
      k17 x0 x1 x2 x3 x4 (x5 + (1 : Int32)) μ
noncomputable def fX5_isOpen_17 : Nat → Nat → Int32 → Int32 → Int32 → Int32 → Int32 → qM → Option qR
  | 0 => fun _ _ _ _ _ _ _ => none
  | n + 1 => fun x0 x1 x2 x3 x4 x5 μ =>
    if (8 : Int32) ≤ x5 then
      if qnz (1 : Int32) = (1 : Int32) then some ((1 : Int32), 0, μ) else none
    else
      qbnd (oGetP μ 5 x0 0) fun v1 =>
      qbnd (oLdI 20 μ v1 x2) fun v2 =>
      let w3 : Int32 := ((qush v2 ((4 : Int32) * x5)) &&& (15 : Int32))
      qbnd (oGetP μ 5 x0 5) fun v4 =>
      qbnd (oLdI 20 μ v4 x5) fun v5 =>
      if v5 = x2 then
        if x4 = 0 then
          if w3 = 0 then
            fX5_isOpen_43 (fX5_isOpen_17 n) x0 x1 x2 x3 x4 x5 w3 μ
          else
            if qnz (0 : Int32) = (0 : Int32) then some ((0 : Int32), 0, μ) else none
        else
          if qnz (0 : Int32) = (0 : Int32) then some ((0 : Int32), 0, μ) else none
      else
        fX5_isOpen_43 (fX5_isOpen_17 n) x0 x1 x2 x3 x4 x5 w3 μ
noncomputable def gX5_isOpen (a0 : Nat) (a1 : Int32) (a2 : Int32) (a3 : Int32) (μ : qM) : Option qR :=
  qbnd (oGetP μ 5 a0 0) fun v1 =>
  qbnd (oLdI 20 μ v1 a2) fun v2 =>
  if ((qush v2 ((4 : Int32) * a1)) &&& (15 : Int32)) = 0 then
    fX5_isOpen_17 qfu a0 a1 a2 a3 (1 : Int32) (0 : Int32) μ
  else
    fX5_isOpen_17 qfu a0 a1 a2 a3 (0 : Int32) (0 : Int32) μ
noncomputable def fX5_isOpen (a0 : Nat) (a1 : Int32) (a2 : Int32) (a3 : Int32) (μ : qM) : Option qR := if (qk μ a0).1 = 5 then gX5_isOpen a0 a1 a2 a3 μ else none
noncomputable def aX5_isOpen (l : List Value) (μ : qM) : Option qR := match l with
  | [.ref x0, .int x1, .int x2, .int x3] => fX5_isOpen x0 x1 x2 x3 μ
  | _ => none
noncomputable def cfX5_isOpen : qF := fun n l μ => none
theorem hcX5_isOpen {base : Nat} {D : va_G} {ca : Nat → ClassId} {cv : Nat → Value} (hcv : ∀ j, (cv j).category = 1) : ∀ M as μ r, cfX5_isOpen M as μ = some r → qGood false base D ca cv 0 M as μ r := by
  intro M as μ r h
  cases h
def jX5_isOpen_17 (f : Nat → Int32 → Int32 → Int32 → Int32 → Int32 → qM → Option qR) (L S : List Value) (μ : qM) : Option qR := match L, S with
  | [.ref x0, .int x1, .int x2, .int x3, .int x4, .int x5, _], [] => f x0 x1 x2 x3 x4 x5 μ
  | _, _ => none
theorem jeX5_isOpen_17 {base : Nat} {D : va_G} {ca : Nat → ClassId} {cv : Nat → Value} {d : Nat} {f : Nat → Int32 → Int32 → Int32 → Int32 → Int32 → qM → Option qR} (hf : ∀ (x0 : Nat) (x1 : Int32) (x2 : Int32) (x3 : Int32) (x4 : Int32) (x5 : Int32) (μ : qM) (r : qR), f x0 x1 x2 x3 x4 x5 μ = some r → qEv false base D ca cv d 67 r 17 [.ref x0, .int x1, .int x2, .int x3, .int x4, .int x5, .null] [] μ) {L S : List Value} {μ : qM} {r : qR} (h : jX5_isOpen_17 f L S μ = some r) : qEv false base D ca cv d 67 r 17 L S μ := by
  unfold jX5_isOpen_17 at h
  split at h
  · exact (hf _ _ _ _ _ _ _ _ h).le rfl ⟨Or.inr rfl, Or.inr rfl, Or.inr rfl, Or.inr rfl, Or.inr rfl, Or.inr rfl, Or.inl rfl, trivial⟩
  · cases h
def jX5_isOpen_43 (f : Nat → Int32 → Int32 → Int32 → Int32 → Int32 → Int32 → qM → Option qR) (L S : List Value) (μ : qM) : Option qR := match L, S with
  | [.ref x0, .int x1, .int x2, .int x3, .int x4, .int x5, .int x6], [] => f x0 x1 x2 x3 x4 x5 x6 μ
  | _, _ => none
theorem jeX5_isOpen_43 {base : Nat} {D : va_G} {ca : Nat → ClassId} {cv : Nat → Value} {d : Nat} {f : Nat → Int32 → Int32 → Int32 → Int32 → Int32 → Int32 → qM → Option qR} (hf : ∀ (x0 : Nat) (x1 : Int32) (x2 : Int32) (x3 : Int32) (x4 : Int32) (x5 : Int32) (x6 : Int32) (μ : qM) (r : qR), f x0 x1 x2 x3 x4 x5 x6 μ = some r → qEv false base D ca cv d 67 r 43 [.ref x0, .int x1, .int x2, .int x3, .int x4, .int x5, .int x6] [] μ) {L S : List Value} {μ : qM} {r : qR} (h : jX5_isOpen_43 f L S μ = some r) : qEv false base D ca cv d 67 r 43 L S μ := by
  unfold jX5_isOpen_43 at h
  split at h
  · exact (hf _ _ _ _ _ _ _ _ _ h).le rfl ⟨Or.inr rfl, Or.inr rfl, Or.inr rfl, Or.inr rfl, Or.inr rfl, Or.inr rfl, Or.inr rfl, trivial⟩
  · cases h
set_option maxRecDepth 100000 in
theorem lbX5_isOpen_43 {base : Nat} {D : va_G} {ca : Nat → ClassId} {cv : Nat → Value} (hcv : ∀ j, (cv j).category = 1) {k17 : Nat → Int32 → Int32 → Int32 → Int32 → Int32 → qM → Option qR} (hk17 : ∀ (y0 : Nat) (y1 : Int32) (y2 : Int32) (y3 : Int32) (y4 : Int32) (y5 : Int32) (μ : qM) (r : qR), k17 y0 y1 y2 y3 y4 y5 μ = some r → qEv false base D ca cv 1 67 r 17 [.ref y0, .int y1, .int y2, .int y3, .int y4, .int y5, .null] [] μ) (x0 : Nat) (x1 : Int32) (x2 : Int32) (x3 : Int32) (x4 : Int32) (x5 : Int32) (x6 : Int32) (μ : qM) (r : qR) (h : fX5_isOpen_43 k17 x0 x1 x2 x3 x4 x5 x6 μ = some r) : qEv false base D ca cv 1 67 r 43 [.ref x0, .int x1, .int x2, .int x3, .int x4, .int x5, .int x6] [] μ := by
    exact qblk_ev2 (cf := cfX5_isOpen) (st := (fun n => qin [17, 43] n)) (K := (fun pc L S μ => if pc = 17 then jX5_isOpen_17 k17 L S μ else none)) (cd := qcX5_isOpen) (M := 67) (d0 := 0) rfl qcok_X5_isOpen (Nat.le_refl _) (hcX5_isOpen hcv) (by
    intro pc L S μ r h
    split at h
    · rename_i e; subst e; exact jeX5_isOpen_17 hk17 h
    cases h) 400 (pc := 43) (L := [.ref x0, .int x1, .int x2, .int x3, .int x4, .int x5, .int x6]) (S := []) h
set_option maxRecDepth 100000 in
theorem lbX5_isOpen_17 {base : Nat} {D : va_G} {ca : Nat → ClassId} {cv : Nat → Value} (hcv : ∀ j, (cv j).category = 1) : ∀ (n : Nat) (x0 : Nat) (x1 : Int32) (x2 : Int32) (x3 : Int32) (x4 : Int32) (x5 : Int32) (μ : qM) (r : qR), fX5_isOpen_17 n x0 x1 x2 x3 x4 x5 μ = some r → qEv false base D ca cv 1 67 r 17 [.ref x0, .int x1, .int x2, .int x3, .int x4, .int x5, .null] [] μ := by
  intro n
  induction n with
  | zero => intro x0 x1 x2 x3 x4 x5 μ r h; cases (show (none : Option qR) = some r from h)
  | succ n ih =>
    intro x0 x1 x2 x3 x4 x5 μ r h
    exact qblk_ev2 (cf := cfX5_isOpen) (st := (fun n => qin [17, 43] n)) (K := (fun pc L S μ => if pc = 43 then jX5_isOpen_43 (fX5_isOpen_43 (fX5_isOpen_17 n)) L S μ else none)) (cd := qcX5_isOpen) (M := 67) (d0 := 0) rfl qcok_X5_isOpen (Nat.le_refl _) (hcX5_isOpen hcv) (by
    intro pc L S μ r h
    split at h
    · rename_i e; subst e; exact jeX5_isOpen_43 (lbX5_isOpen_43 hcv ih) h
    cases h) 400 (pc := 17) (L := [.ref x0, .int x1, .int x2, .int x3, .int x4, .int x5, .null]) (S := []) h
theorem npX5_isOpen : (parseMethodDescriptor (qmy 67).desc).map (fun d => d.parameters.length) = some 3 := by decide +kernel
set_option maxRecDepth 100000 in
theorem gdX5_isOpen {base : Nat} {D : va_G} {ca : Nat → ClassId} {cv : Nat → Value} (hcv : ∀ j, (cv j).category = 1) {a0 : Nat} {a1 : Int32} {a2 : Int32} {a3 : Int32} {μ : qM} {r : qR} (h : fX5_isOpen a0 a1 a2 a3 μ = some r) : qGood false base D ca cv 1 67 [.ref a0, .int a1, .int a2, .int a3] μ r := by
  unfold fX5_isOpen at h
  split at h
  · rename_i hk0
    exact qgood_of (by decide) (by omega) hcv (Or.inr ⟨by decide +kernel, hk0⟩) npX5_isOpen rfl (Nat.le_of_ble_eq_true rfl) rfl (qblk_ev2 (cf := cfX5_isOpen) (st := (fun n => qin [17, 43] n)) (K := (fun pc L S μ => if pc = 17 then jX5_isOpen_17 (fX5_isOpen_17 qfu) L S μ else none)) (cd := qcX5_isOpen) (M := 67) (d0 := 0) rfl qcok_X5_isOpen (Nat.le_refl _) (hcX5_isOpen hcv) (by
    intro pc L S μ r h
    split at h
    · rename_i e; subst e; exact jeX5_isOpen_17 (lbX5_isOpen_17 hcv qfu) h
    cases h) 400 (pc := 0) (L := qent [.ref a0, .int a1, .int a2, .int a3] 7) (S := []) h)
  · cases h
theorem gaX5_isOpen {base : Nat} {D : va_G} {ca : Nat → ClassId} {cv : Nat → Value} (hcv : ∀ j, (cv j).category = 1) {l : List Value} {μ : qM} {r : qR} (h : aX5_isOpen l μ = some r) : qGood false base D ca cv 1 67 l μ r := by
  unfold aX5_isOpen at h
  split at h
  · exact gdX5_isOpen hcv h
  · cases h
noncomputable def gX5_setMode (a0 : Nat) (a1 : Int32) (a2 : Int32) (a3 : Int32) (μ : qM) : Option qR :=
  qbnd (oGetP μ 5 a0 0) fun v1 =>
  qbnd (oGetP μ 5 a0 0) fun v2 =>
  qbnd (oLdI 20 μ v2 a2) fun v3 =>
  qbnd (oStI 20 μ v1 a2 ((v3 &&& (((15 : Int32) <<< (((4 : Int32) * a1) &&& 31)) ^^^ (-1 : Int32))) ||| (a3 <<< (((4 : Int32) * a1) &&& 31)))) fun μ4 =>
  some (0, 0, μ4)
noncomputable def fX5_setMode (a0 : Nat) (a1 : Int32) (a2 : Int32) (a3 : Int32) (μ : qM) : Option qR := if (qk μ a0).1 = 5 then gX5_setMode a0 a1 a2 a3 μ else none
noncomputable def aX5_setMode (l : List Value) (μ : qM) : Option qR := match l with
  | [.ref x0, .int x1, .int x2, .int x3] => fX5_setMode x0 x1 x2 x3 μ
  | _ => none
noncomputable def cfX5_setMode : qF := fun n l μ => none
theorem hcX5_setMode {base : Nat} {D : va_G} {ca : Nat → ClassId} {cv : Nat → Value} (hcv : ∀ j, (cv j).category = 1) : ∀ M as μ r, cfX5_setMode M as μ = some r → qGood false base D ca cv 0 M as μ r := by
  intro M as μ r h
  cases h
theorem npX5_setMode : (parseMethodDescriptor (qmy 55).desc).map (fun d => d.parameters.length) = some 3 := by decide +kernel
set_option maxRecDepth 100000 in
theorem gdX5_setMode {base : Nat} {D : va_G} {ca : Nat → ClassId} {cv : Nat → Value} (hcv : ∀ j, (cv j).category = 1) {a0 : Nat} {a1 : Int32} {a2 : Int32} {a3 : Int32} {μ : qM} {r : qR} (h : fX5_setMode a0 a1 a2 a3 μ = some r) : qGood false base D ca cv 1 55 [.ref a0, .int a1, .int a2, .int a3] μ r := by
  unfold fX5_setMode at h
  split at h
  · rename_i hk0
    exact qgood_of (by decide) (by omega) hcv (Or.inr ⟨by decide +kernel, hk0⟩) npX5_setMode rfl (Nat.le_of_ble_eq_true rfl) rfl (qblk_ev2 (cf := cfX5_setMode) (st := (fun n => qin [] n)) (K := (fun pc L S μ => none)) (cd := qcX5_setMode) (M := 55) (d0 := 0) rfl qcok_X5_setMode (Nat.le_refl _) (hcX5_setMode hcv) (by
    intro pc L S μ r h
    cases h) 400 (pc := 0) (L := qent [.ref a0, .int a1, .int a2, .int a3] 4) (S := []) h)
  · cases h
theorem gaX5_setMode {base : Nat} {D : va_G} {ca : Nat → ClassId} {cv : Nat → Value} (hcv : ∀ j, (cv j).category = 1) {l : List Value} {μ : qM} {r : qR} (h : aX5_setMode l μ = some r) : qGood false base D ca cv 1 55 l μ r := by
  unfold aX5_setMode at h
  split at h
  · exact gdX5_setMode hcv h
  · cases h
noncomputable def gX0_release (a0 : Nat) (a1 : Int32) (a2 : Int32) (μ : qM) : Option qR :=
  qbnd (oGetP μ 0 a0 0) fun v1 =>
  qbnd (oGetP μ 5 v1 0) fun v2 =>
  qbnd (oLdI 20 μ v2 a2) fun v3 =>
  qbnd (oStI 20 μ v2 a2 (v3 &&& (((15 : Int32) <<< (((4 : Int32) * a1) &&& 31)) ^^^ (-1 : Int32)))) fun μ4 =>
  qbnd (oGetP μ4 0 a0 3) fun v5 =>
  qbnd (oLdI 20 μ4 v5 a2) fun v6 =>
  qbnd (oStI 20 μ4 v5 a2 (v6 ||| ((1 : Int32) <<< (a1 &&& 31)))) fun μ7 =>
  some (0, 0, μ7)
noncomputable def fX0_release (a0 : Nat) (a1 : Int32) (a2 : Int32) (μ : qM) : Option qR := if (qk μ a0).1 = 0 then gX0_release a0 a1 a2 μ else none
noncomputable def aX0_release (l : List Value) (μ : qM) : Option qR := match l with
  | [.ref x0, .int x1, .int x2] => fX0_release x0 x1 x2 μ
  | _ => none
noncomputable def cfX0_release : qF := fun n l μ => none
theorem hcX0_release {base : Nat} {D : va_G} {ca : Nat → ClassId} {cv : Nat → Value} (hcv : ∀ j, (cv j).category = 1) : ∀ M as μ r, cfX0_release M as μ = some r → qGood false base D ca cv 0 M as μ r := by
  intro M as μ r h
  cases h
theorem npX0_release : (parseMethodDescriptor (qmy 15).desc).map (fun d => d.parameters.length) = some 2 := by decide +kernel
set_option maxRecDepth 100000 in
theorem gdX0_release {base : Nat} {D : va_G} {ca : Nat → ClassId} {cv : Nat → Value} (hcv : ∀ j, (cv j).category = 1) {a0 : Nat} {a1 : Int32} {a2 : Int32} {μ : qM} {r : qR} (h : fX0_release a0 a1 a2 μ = some r) : qGood false base D ca cv 1 15 [.ref a0, .int a1, .int a2] μ r := by
  unfold fX0_release at h
  split at h
  · rename_i hk0
    exact qgood_of (by decide) (by omega) hcv (Or.inr ⟨by decide +kernel, hk0⟩) npX0_release rfl (Nat.le_of_ble_eq_true rfl) rfl (qblk_ev2 (cf := cfX0_release) (st := (fun n => qin [] n)) (K := (fun pc L S μ => none)) (cd := qcX0_release) (M := 15) (d0 := 0) rfl qcok_X0_release (Nat.le_refl _) (hcX0_release hcv) (by
    intro pc L S μ r h
    cases h) 400 (pc := 0) (L := qent [.ref a0, .int a1, .int a2] 3) (S := []) h)
  · cases h
theorem gaX0_release {base : Nat} {D : va_G} {ca : Nat → ClassId} {cv : Nat → Value} (hcv : ∀ j, (cv j).category = 1) {l : List Value} {μ : qM} {r : qR} (h : aX0_release l μ = some r) : qGood false base D ca cv 1 15 l μ r := by
  unfold aX0_release at h
  split at h
  · exact gdX0_release hcv h
  · cases h
noncomputable def fX0_takeDue_12 (x0 : Nat) (x1 : Int32) (x2 : Int32) (s0 : Int32) (μ : qM) : Option qR :=
  qbnd (oGetP μ 0 x0 3) fun v1 =>
  qbnd (oLdI 20 μ v1 x2) fun v2 =>
  qbnd (oStI 20 μ v1 x2 (v2 &&& (((1 : Int32) <<< (x1 &&& 31)) ^^^ (-1 : Int32)))) fun μ3 =>
  if qnz s0 = s0 then some (s0, 0, μ3) else none
noncomputable def gX0_takeDue (a0 : Nat) (a1 : Int32) (a2 : Int32) (μ : qM) : Option qR :=
  qbnd (oGetP μ 0 a0 3) fun v1 =>
  qbnd (oLdI 20 μ v1 a2) fun v2 =>
  if ((qush v2 a1) &&& (1 : Int32)) = 0 then
    fX0_takeDue_12 a0 a1 a2 (0 : Int32) μ
  else
    fX0_takeDue_12 a0 a1 a2 (1 : Int32) μ
noncomputable def fX0_takeDue (a0 : Nat) (a1 : Int32) (a2 : Int32) (μ : qM) : Option qR := if (qk μ a0).1 = 0 then gX0_takeDue a0 a1 a2 μ else none
noncomputable def aX0_takeDue (l : List Value) (μ : qM) : Option qR := match l with
  | [.ref x0, .int x1, .int x2] => fX0_takeDue x0 x1 x2 μ
  | _ => none
noncomputable def cfX0_takeDue : qF := fun n l μ => none
theorem hcX0_takeDue {base : Nat} {D : va_G} {ca : Nat → ClassId} {cv : Nat → Value} (hcv : ∀ j, (cv j).category = 1) : ∀ M as μ r, cfX0_takeDue M as μ = some r → qGood false base D ca cv 0 M as μ r := by
  intro M as μ r h
  cases h
def jX0_takeDue_12 (f : Nat → Int32 → Int32 → Int32 → qM → Option qR) (L S : List Value) (μ : qM) : Option qR := match L, S with
  | [.ref x0, .int x1, .int x2, _], [.int s0] => f x0 x1 x2 s0 μ
  | _, _ => none
theorem jeX0_takeDue_12 {base : Nat} {D : va_G} {ca : Nat → ClassId} {cv : Nat → Value} {d : Nat} {f : Nat → Int32 → Int32 → Int32 → qM → Option qR} (hf : ∀ (x0 : Nat) (x1 : Int32) (x2 : Int32) (s0 : Int32) (μ : qM) (r : qR), f x0 x1 x2 s0 μ = some r → qEv false base D ca cv d 16 r 12 [.ref x0, .int x1, .int x2, .null] [.int s0] μ) {L S : List Value} {μ : qM} {r : qR} (h : jX0_takeDue_12 f L S μ = some r) : qEv false base D ca cv d 16 r 12 L S μ := by
  unfold jX0_takeDue_12 at h
  split at h
  · exact (hf _ _ _ _ _ _ h).le rfl ⟨Or.inr rfl, Or.inr rfl, Or.inr rfl, Or.inl rfl, trivial⟩
  · cases h
set_option maxRecDepth 100000 in
theorem lbX0_takeDue_12 {base : Nat} {D : va_G} {ca : Nat → ClassId} {cv : Nat → Value} (hcv : ∀ j, (cv j).category = 1) (x0 : Nat) (x1 : Int32) (x2 : Int32) (s0 : Int32) (μ : qM) (r : qR) (h : fX0_takeDue_12 x0 x1 x2 s0 μ = some r) : qEv false base D ca cv 1 16 r 12 [.ref x0, .int x1, .int x2, .null] [.int s0] μ := by
    exact qblk_ev2 (cf := cfX0_takeDue) (st := (fun n => qin [12] n)) (K := (fun pc L S μ => none)) (cd := qcX0_takeDue) (M := 16) (d0 := 0) rfl qcok_X0_takeDue (Nat.le_refl _) (hcX0_takeDue hcv) (by
    intro pc L S μ r h
    cases h) 400 (pc := 12) (L := [.ref x0, .int x1, .int x2, .null]) (S := [.int s0]) h
theorem npX0_takeDue : (parseMethodDescriptor (qmy 16).desc).map (fun d => d.parameters.length) = some 2 := by decide +kernel
set_option maxRecDepth 100000 in
theorem gdX0_takeDue {base : Nat} {D : va_G} {ca : Nat → ClassId} {cv : Nat → Value} (hcv : ∀ j, (cv j).category = 1) {a0 : Nat} {a1 : Int32} {a2 : Int32} {μ : qM} {r : qR} (h : fX0_takeDue a0 a1 a2 μ = some r) : qGood false base D ca cv 1 16 [.ref a0, .int a1, .int a2] μ r := by
  unfold fX0_takeDue at h
  split at h
  · rename_i hk0
    exact qgood_of (by decide) (by omega) hcv (Or.inr ⟨by decide +kernel, hk0⟩) npX0_takeDue rfl (Nat.le_of_ble_eq_true rfl) rfl (qblk_ev2 (cf := cfX0_takeDue) (st := (fun n => qin [12] n)) (K := (fun pc L S μ => if pc = 12 then jX0_takeDue_12 (fX0_takeDue_12) L S μ else none)) (cd := qcX0_takeDue) (M := 16) (d0 := 0) rfl qcok_X0_takeDue (Nat.le_refl _) (hcX0_takeDue hcv) (by
    intro pc L S μ r h
    split at h
    · rename_i e; subst e; exact jeX0_takeDue_12 (lbX0_takeDue_12 hcv) h
    cases h) 400 (pc := 0) (L := qent [.ref a0, .int a1, .int a2] 4) (S := []) h)
  · cases h
theorem gaX0_takeDue {base : Nat} {D : va_G} {ca : Nat → ClassId} {cv : Nat → Value} (hcv : ∀ j, (cv j).category = 1) {l : List Value} {μ : qM} {r : qR} (h : aX0_takeDue l μ = some r) : qGood false base D ca cv 1 16 l μ r := by
  unfold aX0_takeDue at h
  split at h
  · exact gdX0_takeDue hcv h
  · cases h
noncomputable def fX7_stepMode (a0 : Int32) (a1 : Int32) (a2 : Int32) (μ : qM) : Option qR :=
  qbnd (fX7_levelOf a0 μ) fun r1 =>
  if a1 = r1.1 then
    some (a2, 0, r1.2.2)
  else
    if a2 = (1 : Int32) then
      some ((1 : Int32), 0, r1.2.2)
    else
      if a2 = (3 : Int32) then
        some ((1 : Int32), 0, r1.2.2)
      else
        some ((2 : Int32), 0, r1.2.2)
noncomputable def aX7_stepMode (l : List Value) (μ : qM) : Option qR := match l with
  | [.int x0, .int x1, .int x2] => fX7_stepMode x0 x1 x2 μ
  | _ => none
noncomputable def cfX7_stepMode : qF := fun n l μ => if n = 135 then aX7_levelOf l μ else none
theorem hcX7_stepMode {base : Nat} {D : va_G} {ca : Nat → ClassId} {cv : Nat → Value} (hcv : ∀ j, (cv j).category = 1) : ∀ M as μ r, cfX7_stepMode M as μ = some r → qGood false base D ca cv 1 M as μ r := by
  intro M as μ r h
  unfold cfX7_stepMode at h
  split at h
  · rename_i e; subst e; exact (gaX7_levelOf hcv h).mono (by omega)
  cases h
theorem npX7_stepMode : (parseMethodDescriptor (qmy 137).desc).map (fun d => d.parameters.length) = some 3 := by decide +kernel
set_option maxRecDepth 100000 in
theorem gdX7_stepMode {base : Nat} {D : va_G} {ca : Nat → ClassId} {cv : Nat → Value} (hcv : ∀ j, (cv j).category = 1) {a0 : Int32} {a1 : Int32} {a2 : Int32} {μ : qM} {r : qR} (h : fX7_stepMode a0 a1 a2 μ = some r) : qGood false base D ca cv 2 137 [.int a0, .int a1, .int a2] μ r := by
  exact qgood_of (by decide) (by omega) hcv (Or.inl rfl) npX7_stepMode rfl (Nat.le_of_ble_eq_true rfl) rfl (qblk_ev2 (cf := cfX7_stepMode) (st := (fun n => qin [] n)) (K := (fun pc L S μ => none)) (cd := qcX7_stepMode) (M := 137) (d0 := 1) rfl qcok_X7_stepMode (Nat.le_refl _) (hcX7_stepMode hcv) (by
    intro pc L S μ r h
    cases h) 400 (pc := 0) (L := qent [.int a0, .int a1, .int a2] 3) (S := []) h)
theorem gaX7_stepMode {base : Nat} {D : va_G} {ca : Nat → ClassId} {cv : Nat → Value} (hcv : ∀ j, (cv j).category = 1) {l : List Value} {μ : qM} {r : qR} (h : aX7_stepMode l μ = some r) : qGood false base D ca cv 2 137 l μ r := by
  unfold aX7_stepMode at h
  split at h
  · exact gdX7_stepMode hcv h
  · cases h
noncomputable def gX5_enqueue (a0 : Nat) (a1 : Int32) (a2 : Int32) (a3 : Int32) (μ : qM) : Option qR :=
  qbnd (oGetP μ 5 a0 1) fun v1 =>
  qbnd (oStI 20 μ v1 a1 (2 : Int32)) fun μ2 =>
  qbnd (oGetP μ2 5 a0 5) fun v3 =>
  qbnd (oStI 20 μ2 v3 a1 a2) fun μ4 =>
  qbnd (oGetP μ4 5 a0 6) fun v5 =>
  qbnd (oStI 20 μ4 v5 a1 a3) fun μ6 =>
  qbnd (oGetP μ6 5 a0 7) fun v7 =>
  qbnd (oGetI μ6 5 a0 10) fun v8 =>
  qbnd (oStI 20 μ6 v7 a1 v8) fun μ9 =>
  qbnd (oGetI μ9 5 a0 10) fun v10 =>
  qbnd (oPutI μ9 5 a0 10 (v10 + (1 : Int32))) fun μ11 =>
  some (0, 0, μ11)
noncomputable def fX5_enqueue (a0 : Nat) (a1 : Int32) (a2 : Int32) (a3 : Int32) (μ : qM) : Option qR := if (qk μ a0).1 = 5 then gX5_enqueue a0 a1 a2 a3 μ else none
noncomputable def aX5_enqueue (l : List Value) (μ : qM) : Option qR := match l with
  | [.ref x0, .int x1, .int x2, .int x3] => fX5_enqueue x0 x1 x2 x3 μ
  | _ => none
noncomputable def cfX5_enqueue : qF := fun n l μ => none
theorem hcX5_enqueue {base : Nat} {D : va_G} {ca : Nat → ClassId} {cv : Nat → Value} (hcv : ∀ j, (cv j).category = 1) : ∀ M as μ r, cfX5_enqueue M as μ = some r → qGood false base D ca cv 0 M as μ r := by
  intro M as μ r h
  cases h
theorem npX5_enqueue : (parseMethodDescriptor (qmy 77).desc).map (fun d => d.parameters.length) = some 3 := by decide +kernel
set_option maxRecDepth 100000 in
theorem gdX5_enqueue {base : Nat} {D : va_G} {ca : Nat → ClassId} {cv : Nat → Value} (hcv : ∀ j, (cv j).category = 1) {a0 : Nat} {a1 : Int32} {a2 : Int32} {a3 : Int32} {μ : qM} {r : qR} (h : fX5_enqueue a0 a1 a2 a3 μ = some r) : qGood false base D ca cv 1 77 [.ref a0, .int a1, .int a2, .int a3] μ r := by
  unfold fX5_enqueue at h
  split at h
  · rename_i hk0
    exact qgood_of (by decide) (by omega) hcv (Or.inr ⟨by decide +kernel, hk0⟩) npX5_enqueue rfl (Nat.le_of_ble_eq_true rfl) rfl (qblk_ev2 (cf := cfX5_enqueue) (st := (fun n => qin [] n)) (K := (fun pc L S μ => none)) (cd := qcX5_enqueue) (M := 77) (d0 := 0) rfl qcok_X5_enqueue (Nat.le_refl _) (hcX5_enqueue hcv) (by
    intro pc L S μ r h
    cases h) 400 (pc := 0) (L := qent [.ref a0, .int a1, .int a2, .int a3] 4) (S := []) h)
  · cases h
theorem gaX5_enqueue {base : Nat} {D : va_G} {ca : Nat → ClassId} {cv : Nat → Value} (hcv : ∀ j, (cv j).category = 1) {l : List Value} {μ : qM} {r : qR} (h : aX5_enqueue l μ = some r) : qGood false base D ca cv 1 77 l μ r := by
  unfold aX5_enqueue at h
  split at h
  · exact gdX5_enqueue hcv h
  · cases h
noncomputable def gX5_isChange (a0 : Nat) (a1 : Int32) (μ : qM) : Option qR :=
  qbnd (oGetP μ 5 a0 5) fun v1 =>
  qbnd (oLdI 20 μ v1 a1) fun v2 =>
  if v2 = (85 : Int32) then
    if qnz (0 : Int32) = (0 : Int32) then some ((0 : Int32), 0, μ) else none
  else
    qbnd (oGetP μ 5 a0 0) fun v3 =>
    qbnd (oGetP μ 5 a0 5) fun v4 =>
    qbnd (oLdI 20 μ v4 a1) fun v5 =>
    qbnd (oLdI 20 μ v3 v5) fun v6 =>
    if ((qush v6 ((4 : Int32) * a1)) &&& (15 : Int32)) = 0 then
      if qnz (0 : Int32) = (0 : Int32) then some ((0 : Int32), 0, μ) else none
    else
      if qnz (1 : Int32) = (1 : Int32) then some ((1 : Int32), 0, μ) else none
noncomputable def fX5_isChange (a0 : Nat) (a1 : Int32) (μ : qM) : Option qR := if (qk μ a0).1 = 5 then gX5_isChange a0 a1 μ else none
noncomputable def aX5_isChange (l : List Value) (μ : qM) : Option qR := match l with
  | [.ref x0, .int x1] => fX5_isChange x0 x1 μ
  | _ => none
noncomputable def cfX5_isChange : qF := fun n l μ => none
theorem hcX5_isChange {base : Nat} {D : va_G} {ca : Nat → ClassId} {cv : Nat → Value} (hcv : ∀ j, (cv j).category = 1) : ∀ M as μ r, cfX5_isChange M as μ = some r → qGood false base D ca cv 0 M as μ r := by
  intro M as μ r h
  cases h
theorem npX5_isChange : (parseMethodDescriptor (qmy 72).desc).map (fun d => d.parameters.length) = some 1 := by decide +kernel
set_option maxRecDepth 100000 in
theorem gdX5_isChange {base : Nat} {D : va_G} {ca : Nat → ClassId} {cv : Nat → Value} (hcv : ∀ j, (cv j).category = 1) {a0 : Nat} {a1 : Int32} {μ : qM} {r : qR} (h : fX5_isChange a0 a1 μ = some r) : qGood false base D ca cv 1 72 [.ref a0, .int a1] μ r := by
  unfold fX5_isChange at h
  split at h
  · rename_i hk0
    exact qgood_of (by decide) (by omega) hcv (Or.inr ⟨by decide +kernel, hk0⟩) npX5_isChange rfl (Nat.le_of_ble_eq_true rfl) rfl (qblk_ev2 (cf := cfX5_isChange) (st := (fun n => qin [] n)) (K := (fun pc L S μ => none)) (cd := qcX5_isChange) (M := 72) (d0 := 0) rfl qcok_X5_isChange (Nat.le_refl _) (hcX5_isChange hcv) (by
    intro pc L S μ r h
    cases h) 400 (pc := 0) (L := qent [.ref a0, .int a1] 2) (S := []) h)
  · cases h
theorem gaX5_isChange {base : Nat} {D : va_G} {ca : Nat → ClassId} {cv : Nat → Value} (hcv : ∀ j, (cv j).category = 1) {l : List Value} {μ : qM} {r : qR} (h : aX5_isChange l μ = some r) : qGood false base D ca cv 1 72 l μ r := by
  unfold aX5_isChange at h
  split at h
  · exact gdX5_isChange hcv h
  · cases h
noncomputable def gX5_isAhead (a0 : Nat) (a1 : Int32) (a2 : Int32) (μ : qM) : Option qR :=
  qbnd (fX5_isChange a0 a1 μ) fun r1 =>
  qbnd (fX5_isChange a0 a2 r1.2.2) fun r2 =>
  if r1.1 = r2.1 then
    qbnd (oGetP r2.2.2 5 a0 7) fun v3 =>
    qbnd (oLdI 20 r2.2.2 v3 a1) fun v4 =>
    qbnd (oGetP r2.2.2 5 a0 7) fun v5 =>
    qbnd (oLdI 20 r2.2.2 v5 a2) fun v6 =>
    if v6 ≤ v4 then
      if qnz (0 : Int32) = (0 : Int32) then some ((0 : Int32), 0, r2.2.2) else none
    else
      if qnz (1 : Int32) = (1 : Int32) then some ((1 : Int32), 0, r2.2.2) else none
  else
    if qnz r1.1 = r1.1 then some (r1.1, 0, r2.2.2) else none
noncomputable def fX5_isAhead (a0 : Nat) (a1 : Int32) (a2 : Int32) (μ : qM) : Option qR := if (qk μ a0).1 = 5 then gX5_isAhead a0 a1 a2 μ else none
noncomputable def aX5_isAhead (l : List Value) (μ : qM) : Option qR := match l with
  | [.ref x0, .int x1, .int x2] => fX5_isAhead x0 x1 x2 μ
  | _ => none
noncomputable def cfX5_isAhead : qF := fun n l μ => if n = 72 then aX5_isChange l μ else none
theorem hcX5_isAhead {base : Nat} {D : va_G} {ca : Nat → ClassId} {cv : Nat → Value} (hcv : ∀ j, (cv j).category = 1) : ∀ M as μ r, cfX5_isAhead M as μ = some r → qGood false base D ca cv 1 M as μ r := by
  intro M as μ r h
  unfold cfX5_isAhead at h
  split at h
  · rename_i e; subst e; exact (gaX5_isChange hcv h).mono (by omega)
  cases h
theorem npX5_isAhead : (parseMethodDescriptor (qmy 73).desc).map (fun d => d.parameters.length) = some 2 := by decide +kernel
set_option maxRecDepth 100000 in
theorem gdX5_isAhead {base : Nat} {D : va_G} {ca : Nat → ClassId} {cv : Nat → Value} (hcv : ∀ j, (cv j).category = 1) {a0 : Nat} {a1 : Int32} {a2 : Int32} {μ : qM} {r : qR} (h : fX5_isAhead a0 a1 a2 μ = some r) : qGood false base D ca cv 2 73 [.ref a0, .int a1, .int a2] μ r := by
  unfold fX5_isAhead at h
  split at h
  · rename_i hk0
    exact qgood_of (by decide) (by omega) hcv (Or.inr ⟨by decide +kernel, hk0⟩) npX5_isAhead rfl (Nat.le_of_ble_eq_true rfl) rfl (qblk_ev2 (cf := cfX5_isAhead) (st := (fun n => qin [] n)) (K := (fun pc L S μ => none)) (cd := qcX5_isAhead) (M := 73) (d0 := 1) rfl qcok_X5_isAhead (Nat.le_refl _) (hcX5_isAhead hcv) (by
    intro pc L S μ r h
    cases h) 400 (pc := 0) (L := qent [.ref a0, .int a1, .int a2] 4) (S := []) h)
  · cases h
theorem gaX5_isAhead {base : Nat} {D : va_G} {ca : Nat → ClassId} {cv : Nat → Value} (hcv : ∀ j, (cv j).category = 1) {l : List Value} {μ : qM} {r : qR} (h : aX5_isAhead l μ = some r) : qGood false base D ca cv 2 73 l μ r := by
  unfold aX5_isAhead at h
  split at h
  · exact gdX5_isAhead hcv h
  · cases h
noncomputable def fX5_firstInQueue_4 : Nat → Nat → Int32 → Int32 → Int32 → qM → Option qR
  | 0 => fun _ _ _ _ _ => none
  | n + 1 => fun x0 x1 x2 x3 μ =>
    if (8 : Int32) ≤ x3 then
      some (x2, 0, μ)
    else
      qbnd (oGetP μ 5 x0 5) fun v1 =>
      qbnd (oLdI 20 μ v1 x3) fun v2 =>
      if v2 = x1 then
        if x2 = (-1 : Int32) then
          fX5_firstInQueue_4 n x0 x1 x3 (x3 + (1 : Int32)) μ
        else
          qbnd (fX5_isAhead x0 x3 x2 μ) fun r3 =>
          if r3.1 = 0 then
            fX5_firstInQueue_4 n x0 x1 x2 (x3 + (1 : Int32)) r3.2.2
          else
            fX5_firstInQueue_4 n x0 x1 x3 (x3 + (1 : Int32)) r3.2.2
      else
        fX5_firstInQueue_4 n x0 x1 x2 (x3 + (1 : Int32)) μ
noncomputable def gX5_firstInQueue (a0 : Nat) (a1 : Int32) (μ : qM) : Option qR :=
  fX5_firstInQueue_4 qfu a0 a1 (-1 : Int32) (0 : Int32) μ
noncomputable def fX5_firstInQueue (a0 : Nat) (a1 : Int32) (μ : qM) : Option qR := if (qk μ a0).1 = 5 then gX5_firstInQueue a0 a1 μ else none
noncomputable def aX5_firstInQueue (l : List Value) (μ : qM) : Option qR := match l with
  | [.ref x0, .int x1] => fX5_firstInQueue x0 x1 μ
  | _ => none
noncomputable def cfX5_firstInQueue : qF := fun n l μ => if n = 73 then aX5_isAhead l μ else none
theorem hcX5_firstInQueue {base : Nat} {D : va_G} {ca : Nat → ClassId} {cv : Nat → Value} (hcv : ∀ j, (cv j).category = 1) : ∀ M as μ r, cfX5_firstInQueue M as μ = some r → qGood false base D ca cv 2 M as μ r := by
  intro M as μ r h
  unfold cfX5_firstInQueue at h
  split at h
  · rename_i e; subst e; exact (gaX5_isAhead hcv h).mono (by omega)
  cases h
def jX5_firstInQueue_4 (f : Nat → Int32 → Int32 → Int32 → qM → Option qR) (L S : List Value) (μ : qM) : Option qR := match L, S with
  | [.ref x0, .int x1, .int x2, .int x3], [] => f x0 x1 x2 x3 μ
  | _, _ => none
theorem jeX5_firstInQueue_4 {base : Nat} {D : va_G} {ca : Nat → ClassId} {cv : Nat → Value} {d : Nat} {f : Nat → Int32 → Int32 → Int32 → qM → Option qR} (hf : ∀ (x0 : Nat) (x1 : Int32) (x2 : Int32) (x3 : Int32) (μ : qM) (r : qR), f x0 x1 x2 x3 μ = some r → qEv false base D ca cv d 75 r 4 [.ref x0, .int x1, .int x2, .int x3] [] μ) {L S : List Value} {μ : qM} {r : qR} (h : jX5_firstInQueue_4 f L S μ = some r) : qEv false base D ca cv d 75 r 4 L S μ := by
  unfold jX5_firstInQueue_4 at h
  split at h
  · exact (hf _ _ _ _ _ _ h).le rfl ⟨Or.inr rfl, Or.inr rfl, Or.inr rfl, Or.inr rfl, trivial⟩
  · cases h
set_option maxRecDepth 100000 in
theorem lbX5_firstInQueue_4 {base : Nat} {D : va_G} {ca : Nat → ClassId} {cv : Nat → Value} (hcv : ∀ j, (cv j).category = 1) : ∀ (n : Nat) (x0 : Nat) (x1 : Int32) (x2 : Int32) (x3 : Int32) (μ : qM) (r : qR), fX5_firstInQueue_4 n x0 x1 x2 x3 μ = some r → qEv false base D ca cv 3 75 r 4 [.ref x0, .int x1, .int x2, .int x3] [] μ := by
  intro n
  induction n with
  | zero => intro x0 x1 x2 x3 μ r h; cases (show (none : Option qR) = some r from h)
  | succ n ih =>
    intro x0 x1 x2 x3 μ r h
    exact qblk_ev2 (cf := cfX5_firstInQueue) (st := (fun n => qin [4] n)) (K := (fun pc L S μ => if pc = 4 then jX5_firstInQueue_4 (fX5_firstInQueue_4 n) L S μ else none)) (cd := qcX5_firstInQueue) (M := 75) (d0 := 2) rfl qcok_X5_firstInQueue (Nat.le_refl _) (hcX5_firstInQueue hcv) (by
    intro pc L S μ r h
    split at h
    · rename_i e; subst e; exact jeX5_firstInQueue_4 ih h
    cases h) 400 (pc := 4) (L := [.ref x0, .int x1, .int x2, .int x3]) (S := []) h
theorem npX5_firstInQueue : (parseMethodDescriptor (qmy 75).desc).map (fun d => d.parameters.length) = some 1 := by decide +kernel
set_option maxRecDepth 100000 in
theorem gdX5_firstInQueue {base : Nat} {D : va_G} {ca : Nat → ClassId} {cv : Nat → Value} (hcv : ∀ j, (cv j).category = 1) {a0 : Nat} {a1 : Int32} {μ : qM} {r : qR} (h : fX5_firstInQueue a0 a1 μ = some r) : qGood false base D ca cv 3 75 [.ref a0, .int a1] μ r := by
  unfold fX5_firstInQueue at h
  split at h
  · rename_i hk0
    exact qgood_of (by decide) (by omega) hcv (Or.inr ⟨by decide +kernel, hk0⟩) npX5_firstInQueue rfl (Nat.le_of_ble_eq_true rfl) rfl (qblk_ev2 (cf := cfX5_firstInQueue) (st := (fun n => qin [4] n)) (K := (fun pc L S μ => if pc = 4 then jX5_firstInQueue_4 (fX5_firstInQueue_4 qfu) L S μ else none)) (cd := qcX5_firstInQueue) (M := 75) (d0 := 2) rfl qcok_X5_firstInQueue (Nat.le_refl _) (hcX5_firstInQueue hcv) (by
    intro pc L S μ r h
    split at h
    · rename_i e; subst e; exact jeX5_firstInQueue_4 (lbX5_firstInQueue_4 hcv qfu) h
    cases h) 400 (pc := 0) (L := qent [.ref a0, .int a1] 4) (S := []) h)
  · cases h
theorem gaX5_firstInQueue {base : Nat} {D : va_G} {ca : Nat → ClassId} {cv : Nat → Value} (hcv : ∀ j, (cv j).category = 1) {l : List Value} {μ : qM} {r : qR} (h : aX5_firstInQueue l μ = some r) : qGood false base D ca cv 3 75 l μ r := by
  unfold aX5_firstInQueue at h
  split at h
  · exact gdX5_firstInQueue hcv h
  · cases h
noncomputable def fX5_fits_2 : Nat → Nat → Int32 → Int32 → Int32 → Int32 → qM → Option qR
  | 0 => fun _ _ _ _ _ _ => none
  | n + 1 => fun x0 x1 x2 x3 x4 μ =>
    if (8 : Int32) ≤ x4 then
      if qnz (1 : Int32) = (1 : Int32) then some ((1 : Int32), 0, μ) else none
    else
      if x4 = x1 then
        fX5_fits_2 n x0 x1 x2 x3 (x4 + (1 : Int32)) μ
      else
        qbnd (oTab 1 0 x3) fun v1 =>
        qbnd (fX5_modeAt x0 x4 x2 μ) fun r2 =>
        if ((qush v1 r2.1) &&& (1 : Int32)) = 0 then
          if qnz (0 : Int32) = (0 : Int32) then some ((0 : Int32), 0, r2.2.2) else none
        else
          fX5_fits_2 n x0 x1 x2 x3 (x4 + (1 : Int32)) r2.2.2
noncomputable def gX5_fits (a0 : Nat) (a1 : Int32) (a2 : Int32) (a3 : Int32) (μ : qM) : Option qR :=
  fX5_fits_2 qfu a0 a1 a2 a3 (0 : Int32) μ
noncomputable def fX5_fits (a0 : Nat) (a1 : Int32) (a2 : Int32) (a3 : Int32) (μ : qM) : Option qR := if (qk μ a0).1 = 5 then gX5_fits a0 a1 a2 a3 μ else none
noncomputable def aX5_fits (l : List Value) (μ : qM) : Option qR := match l with
  | [.ref x0, .int x1, .int x2, .int x3] => fX5_fits x0 x1 x2 x3 μ
  | _ => none
noncomputable def cfX5_fits : qF := fun n l μ => if n = 54 then aX5_modeAt l μ else none
theorem hcX5_fits {base : Nat} {D : va_G} {ca : Nat → ClassId} {cv : Nat → Value} (hcv : ∀ j, (cv j).category = 1) : ∀ M as μ r, cfX5_fits M as μ = some r → qGood false base D ca cv 1 M as μ r := by
  intro M as μ r h
  unfold cfX5_fits at h
  split at h
  · rename_i e; subst e; exact (gaX5_modeAt hcv h).mono (by omega)
  cases h
def jX5_fits_2 (f : Nat → Int32 → Int32 → Int32 → Int32 → qM → Option qR) (L S : List Value) (μ : qM) : Option qR := match L, S with
  | [.ref x0, .int x1, .int x2, .int x3, .int x4], [] => f x0 x1 x2 x3 x4 μ
  | _, _ => none
theorem jeX5_fits_2 {base : Nat} {D : va_G} {ca : Nat → ClassId} {cv : Nat → Value} {d : Nat} {f : Nat → Int32 → Int32 → Int32 → Int32 → qM → Option qR} (hf : ∀ (x0 : Nat) (x1 : Int32) (x2 : Int32) (x3 : Int32) (x4 : Int32) (μ : qM) (r : qR), f x0 x1 x2 x3 x4 μ = some r → qEv false base D ca cv d 66 r 2 [.ref x0, .int x1, .int x2, .int x3, .int x4] [] μ) {L S : List Value} {μ : qM} {r : qR} (h : jX5_fits_2 f L S μ = some r) : qEv false base D ca cv d 66 r 2 L S μ := by
  unfold jX5_fits_2 at h
  split at h
  · exact (hf _ _ _ _ _ _ _ h).le rfl ⟨Or.inr rfl, Or.inr rfl, Or.inr rfl, Or.inr rfl, Or.inr rfl, trivial⟩
  · cases h
set_option maxRecDepth 100000 in
theorem lbX5_fits_2 {base : Nat} {D : va_G} {ca : Nat → ClassId} {cv : Nat → Value} (hcv : ∀ j, (cv j).category = 1) : ∀ (n : Nat) (x0 : Nat) (x1 : Int32) (x2 : Int32) (x3 : Int32) (x4 : Int32) (μ : qM) (r : qR), fX5_fits_2 n x0 x1 x2 x3 x4 μ = some r → qEv false base D ca cv 2 66 r 2 [.ref x0, .int x1, .int x2, .int x3, .int x4] [] μ := by
  intro n
  induction n with
  | zero => intro x0 x1 x2 x3 x4 μ r h; cases (show (none : Option qR) = some r from h)
  | succ n ih =>
    intro x0 x1 x2 x3 x4 μ r h
    exact qblk_ev2 (cf := cfX5_fits) (st := (fun n => qin [2] n)) (K := (fun pc L S μ => if pc = 2 then jX5_fits_2 (fX5_fits_2 n) L S μ else none)) (cd := qcX5_fits) (M := 66) (d0 := 1) rfl qcok_X5_fits (Nat.le_refl _) (hcX5_fits hcv) (by
    intro pc L S μ r h
    split at h
    · rename_i e; subst e; exact jeX5_fits_2 ih h
    cases h) 400 (pc := 2) (L := [.ref x0, .int x1, .int x2, .int x3, .int x4]) (S := []) h
theorem npX5_fits : (parseMethodDescriptor (qmy 66).desc).map (fun d => d.parameters.length) = some 3 := by decide +kernel
set_option maxRecDepth 100000 in
theorem gdX5_fits {base : Nat} {D : va_G} {ca : Nat → ClassId} {cv : Nat → Value} (hcv : ∀ j, (cv j).category = 1) {a0 : Nat} {a1 : Int32} {a2 : Int32} {a3 : Int32} {μ : qM} {r : qR} (h : fX5_fits a0 a1 a2 a3 μ = some r) : qGood false base D ca cv 2 66 [.ref a0, .int a1, .int a2, .int a3] μ r := by
  unfold fX5_fits at h
  split at h
  · rename_i hk0
    exact qgood_of (by decide) (by omega) hcv (Or.inr ⟨by decide +kernel, hk0⟩) npX5_fits rfl (Nat.le_of_ble_eq_true rfl) rfl (qblk_ev2 (cf := cfX5_fits) (st := (fun n => qin [2] n)) (K := (fun pc L S μ => if pc = 2 then jX5_fits_2 (fX5_fits_2 qfu) L S μ else none)) (cd := qcX5_fits) (M := 66) (d0 := 1) rfl qcok_X5_fits (Nat.le_refl _) (hcX5_fits hcv) (by
    intro pc L S μ r h
    split at h
    · rename_i e; subst e; exact jeX5_fits_2 (lbX5_fits_2 hcv qfu) h
    cases h) 400 (pc := 0) (L := qent [.ref a0, .int a1, .int a2, .int a3] 5) (S := []) h)
  · cases h
theorem gaX5_fits {base : Nat} {D : va_G} {ca : Nat → ClassId} {cv : Nat → Value} (hcv : ∀ j, (cv j).category = 1) {l : List Value} {μ : qM} {r : qR} (h : aX5_fits l μ = some r) : qGood false base D ca cv 2 66 l μ r := by
  unfold aX5_fits at h
  split at h
  · exact gdX5_fits hcv h
  · cases h
noncomputable def gX5_grant (a0 : Nat) (a1 : Int32) (μ : qM) : Option qR :=
  qbnd (oGetP μ 5 a0 5) fun v1 =>
  qbnd (oLdI 20 μ v1 a1) fun v2 =>
  qbnd (oGetP μ 5 a0 6) fun v3 =>
  qbnd (oLdI 20 μ v3 a1) fun v4 =>
  qbnd (fX5_setMode a0 a1 v2 v4 μ) fun r5 =>
  qbnd (oGetP r5.2.2 5 a0 1) fun v6 =>
  qbnd (oStI 20 r5.2.2 v6 a1 (1 : Int32)) fun μ7 =>
  qbnd (oGetP μ7 5 a0 5) fun v8 =>
  qbnd (oStI 20 μ7 v8 a1 (85 : Int32)) fun μ9 =>
  some (0, 0, μ9)
noncomputable def fX5_grant (a0 : Nat) (a1 : Int32) (μ : qM) : Option qR := if (qk μ a0).1 = 5 then gX5_grant a0 a1 μ else none
noncomputable def aX5_grant (l : List Value) (μ : qM) : Option qR := match l with
  | [.ref x0, .int x1] => fX5_grant x0 x1 μ
  | _ => none
noncomputable def cfX5_grant : qF := fun n l μ => if n = 55 then aX5_setMode l μ else none
theorem hcX5_grant {base : Nat} {D : va_G} {ca : Nat → ClassId} {cv : Nat → Value} (hcv : ∀ j, (cv j).category = 1) : ∀ M as μ r, cfX5_grant M as μ = some r → qGood false base D ca cv 1 M as μ r := by
  intro M as μ r h
  unfold cfX5_grant at h
  split at h
  · rename_i e; subst e; exact (gaX5_setMode hcv h).mono (by omega)
  cases h
theorem npX5_grant : (parseMethodDescriptor (qmy 78).desc).map (fun d => d.parameters.length) = some 1 := by decide +kernel
set_option maxRecDepth 100000 in
theorem gdX5_grant {base : Nat} {D : va_G} {ca : Nat → ClassId} {cv : Nat → Value} (hcv : ∀ j, (cv j).category = 1) {a0 : Nat} {a1 : Int32} {μ : qM} {r : qR} (h : fX5_grant a0 a1 μ = some r) : qGood false base D ca cv 2 78 [.ref a0, .int a1] μ r := by
  unfold fX5_grant at h
  split at h
  · rename_i hk0
    exact qgood_of (by decide) (by omega) hcv (Or.inr ⟨by decide +kernel, hk0⟩) npX5_grant rfl (Nat.le_of_ble_eq_true rfl) rfl (qblk_ev2 (cf := cfX5_grant) (st := (fun n => qin [] n)) (K := (fun pc L S μ => none)) (cd := qcX5_grant) (M := 78) (d0 := 1) rfl qcok_X5_grant (Nat.le_refl _) (hcX5_grant hcv) (by
    intro pc L S μ r h
    cases h) 400 (pc := 0) (L := qent [.ref a0, .int a1] 2) (S := []) h)
  · cases h
theorem gaX5_grant {base : Nat} {D : va_G} {ca : Nat → ClassId} {cv : Nat → Value} (hcv : ∀ j, (cv j).category = 1) {l : List Value} {μ : qM} {r : qR} (h : aX5_grant l μ = some r) : qGood false base D ca cv 2 78 l μ r := by
  unfold aX5_grant at h
  split at h
  · exact gdX5_grant hcv h
  · cases h
noncomputable def fX0_gatherAt_62 (R : qF) (k39 : Nat → Int32 → Int32 → Int32 → Int32 → Int32 → qM → Option qR) (x0 : Nat) (x1 : Int32) (x2 : Int32) (x3 : Int32) (x5 : Int32) (x6 : Int32) (μ : qM) : Option qR :=
  k39 x0 x1 x2 x3 (((4 : Int32) * x5) + (4 : Int32)) (((4 : Int32) * x6) + (1 : Int32)) μ
noncomputable def fX0_gatherAt_44 (R : qF) (k39 : Nat → Int32 → Int32 → Int32 → Int32 → Int32 → qM → Option qR) : Nat → Nat → Int32 → Int32 → Int32 → Int32 → Int32 → Int32 → qM → Option qR
  | 0 => fun _ _ _ _ _ _ _ _ => none
  | n + 1 => fun x0 x1 x2 x3 x5 x6 x7 μ =>
    if x5 < x7 then
      fX0_gatherAt_62 R k39 x0 x1 x2 x3 x5 x6 μ
    else
      if (85 : Int32) ≤ x7 then
        fX0_gatherAt_62 R k39 x0 x1 x2 x3 x5 x6 μ
      else
        qbnd (oGetP μ 0 x0 0) fun v1 =>
        qbnd (fX5_modeAt v1 x1 x7 μ) fun r2 =>
        if r2.1 = 0 then
          fX0_gatherAt_44 R k39 n x0 x1 x2 x3 x5 x6 (x7 + (1 : Int32)) r2.2.2
        else
          qbnd (fX0_release x0 x1 x7 r2.2.2) fun r3 =>
          fX0_gatherAt_44 R k39 n x0 x1 x2 x3 x5 x6 (x7 + (1 : Int32)) r3.2.2
noncomputable def fX0_gatherAt_79 (R : qF) : Nat → Nat → Int32 → Int32 → Int32 → qM → Option qR
  | 0 => fun _ _ _ _ _ => none
  | n + 1 => fun x0 x1 x3 x6 μ =>
    if (85 : Int32) ≤ x6 then
      if qnz (1 : Int32) = (1 : Int32) then some ((1 : Int32), 0, μ) else none
    else
      qbnd (oGetP μ 0 x0 3) fun v1 =>
      qbnd (oLdI 20 μ v1 x6) fun v2 =>
      if v2 = 0 then
        fX0_gatherAt_79 R n x0 x1 x3 (x6 + (1 : Int32)) μ
      else
        qbnd (fX0_takeDue x0 x1 x6 μ) fun r3 =>
        if r3.1 = 0 then
          fX0_gatherAt_79 R n x0 x1 x3 (x6 + (1 : Int32)) r3.2.2
        else
          qbnd (R 17 [.ref x0, .int x6, .int (x3 + (1 : Int32))] r3.2.2) fun r4 =>
          fX0_gatherAt_79 R n x0 x1 x3 (x6 + (1 : Int32)) r4.2.2
noncomputable def fX0_gatherAt_39 (R : qF) : Nat → Nat → Int32 → Int32 → Int32 → Int32 → Int32 → qM → Option qR
  | 0 => fun _ _ _ _ _ _ _ => none
  | n + 1 => fun x0 x1 x2 x3 x5 x6 μ =>
    if (85 : Int32) ≤ x6 then
      fX0_gatherAt_79 R qfu x0 x1 x3 (x2 + (1 : Int32)) μ
    else
      fX0_gatherAt_44 R (fX0_gatherAt_39 R n) qfu x0 x1 x2 x3 x5 x6 x6 μ
noncomputable def gX0_gatherAt (R : qF) (a0 : Nat) (a1 : Int32) (a2 : Int32) (a3 : Int32) (μ : qM) : Option qR :=
  qbnd (oGetP μ 0 a0 0) fun v1 =>
  qbnd (fX5_gatherMode v1 a1 a2 μ) fun r2 =>
  qbnd (oGetP r2.2.2 0 a0 0) fun v3 =>
  qbnd (fX5_holdingsBelow v3 a1 a2 r2.2.2) fun r4 =>
  if r4.1 = 0 then
    if qnz (0 : Int32) = (0 : Int32) then some ((0 : Int32), 0, r4.2.2) else none
  else
    qbnd (oGetP r4.2.2 0 a0 0) fun v5 =>
    qbnd (fX5_isOpen v5 a1 a2 r2.1 r4.2.2) fun r6 =>
    if r6.1 = 0 then
      if qnz (0 : Int32) = (0 : Int32) then some ((0 : Int32), 0, r6.2.2) else none
    else
      qbnd (oGetP r6.2.2 0 a0 0) fun v7 =>
      qbnd (fX5_setMode v7 a1 a2 r2.1 r6.2.2) fun r8 =>
      fX0_gatherAt_39 R qfu a0 a1 a2 a3 (((4 : Int32) * a2) + (4 : Int32)) (((4 : Int32) * a2) + (1 : Int32)) r8.2.2
noncomputable def fX0_gatherAt (R : qF) (a0 : Nat) (a1 : Int32) (a2 : Int32) (a3 : Int32) (μ : qM) : Option qR := if (qk μ a0).1 = 0 then gX0_gatherAt R a0 a1 a2 a3 μ else none
noncomputable def aX0_gatherAt (R : qF) (l : List Value) (μ : qM) : Option qR := match l with
  | [.ref x0, .int x1, .int x2, .int x3] => fX0_gatherAt R x0 x1 x2 x3 μ
  | _ => none
noncomputable def cfX0_gatherAt (R : qF) : qF := fun n l μ => if n = 63 then aX5_gatherMode l μ else if n = 62 then aX5_holdingsBelow l μ else if n = 67 then aX5_isOpen l μ else if n = 55 then aX5_setMode l μ else if n = 54 then aX5_modeAt l μ else if n = 15 then aX0_release l μ else if n = 16 then aX0_takeDue l μ else if n = 17 then R 17 l μ else none
theorem hcX0_gatherAt {base : Nat} {D : va_G} {ca : Nat → ClassId} {cv : Nat → Value} (hcv : ∀ j, (cv j).category = 1) {δ : Nat} {R : qF} (hδ : 10 ≤ δ) (hR : ∀ M as μ r, R M as μ = some r → qGood false base D ca cv δ M as μ r) : ∀ M as μ r, cfX0_gatherAt R M as μ = some r → qGood false base D ca cv (δ + 0) M as μ r := by
  intro M as μ r h
  unfold cfX0_gatherAt at h
  split at h
  · rename_i e; subst e; exact (gaX5_gatherMode hcv h).mono (by omega)
  split at h
  · rename_i e; subst e; exact (gaX5_holdingsBelow hcv h).mono (by omega)
  split at h
  · rename_i e; subst e; exact (gaX5_isOpen hcv h).mono (by omega)
  split at h
  · rename_i e; subst e; exact (gaX5_setMode hcv h).mono (by omega)
  split at h
  · rename_i e; subst e; exact (gaX5_modeAt hcv h).mono (by omega)
  split at h
  · rename_i e; subst e; exact (gaX0_release hcv h).mono (by omega)
  split at h
  · rename_i e; subst e; exact (gaX0_takeDue hcv h).mono (by omega)
  split at h
  · rename_i e; subst e; exact (hR _ _ _ _ h).mono (by omega)
  cases h
def jX0_gatherAt_39 (f : Nat → Int32 → Int32 → Int32 → Int32 → Int32 → qM → Option qR) (L S : List Value) (μ : qM) : Option qR := match L, S with
  | [.ref x0, .int x1, .int x2, .int x3, _, .int x5, .int x6, _], [] => f x0 x1 x2 x3 x5 x6 μ
  | _, _ => none
theorem jeX0_gatherAt_39 {base : Nat} {D : va_G} {ca : Nat → ClassId} {cv : Nat → Value} {d : Nat} {f : Nat → Int32 → Int32 → Int32 → Int32 → Int32 → qM → Option qR} (hf : ∀ (x0 : Nat) (x1 : Int32) (x2 : Int32) (x3 : Int32) (x5 : Int32) (x6 : Int32) (μ : qM) (r : qR), f x0 x1 x2 x3 x5 x6 μ = some r → qEv false base D ca cv d 19 r 39 [.ref x0, .int x1, .int x2, .int x3, .null, .int x5, .int x6, .null] [] μ) {L S : List Value} {μ : qM} {r : qR} (h : jX0_gatherAt_39 f L S μ = some r) : qEv false base D ca cv d 19 r 39 L S μ := by
  unfold jX0_gatherAt_39 at h
  split at h
  · exact (hf _ _ _ _ _ _ _ _ h).le rfl ⟨Or.inr rfl, Or.inr rfl, Or.inr rfl, Or.inr rfl, Or.inl rfl, Or.inr rfl, Or.inr rfl, Or.inl rfl, trivial⟩
  · cases h
def jX0_gatherAt_44 (f : Nat → Int32 → Int32 → Int32 → Int32 → Int32 → Int32 → qM → Option qR) (L S : List Value) (μ : qM) : Option qR := match L, S with
  | [.ref x0, .int x1, .int x2, .int x3, _, .int x5, .int x6, .int x7], [] => f x0 x1 x2 x3 x5 x6 x7 μ
  | _, _ => none
theorem jeX0_gatherAt_44 {base : Nat} {D : va_G} {ca : Nat → ClassId} {cv : Nat → Value} {d : Nat} {f : Nat → Int32 → Int32 → Int32 → Int32 → Int32 → Int32 → qM → Option qR} (hf : ∀ (x0 : Nat) (x1 : Int32) (x2 : Int32) (x3 : Int32) (x5 : Int32) (x6 : Int32) (x7 : Int32) (μ : qM) (r : qR), f x0 x1 x2 x3 x5 x6 x7 μ = some r → qEv false base D ca cv d 19 r 44 [.ref x0, .int x1, .int x2, .int x3, .null, .int x5, .int x6, .int x7] [] μ) {L S : List Value} {μ : qM} {r : qR} (h : jX0_gatherAt_44 f L S μ = some r) : qEv false base D ca cv d 19 r 44 L S μ := by
  unfold jX0_gatherAt_44 at h
  split at h
  · exact (hf _ _ _ _ _ _ _ _ _ h).le rfl ⟨Or.inr rfl, Or.inr rfl, Or.inr rfl, Or.inr rfl, Or.inl rfl, Or.inr rfl, Or.inr rfl, Or.inr rfl, trivial⟩
  · cases h
def jX0_gatherAt_62 (f : Nat → Int32 → Int32 → Int32 → Int32 → Int32 → qM → Option qR) (L S : List Value) (μ : qM) : Option qR := match L, S with
  | [.ref x0, .int x1, .int x2, .int x3, _, .int x5, .int x6, _], [] => f x0 x1 x2 x3 x5 x6 μ
  | _, _ => none
theorem jeX0_gatherAt_62 {base : Nat} {D : va_G} {ca : Nat → ClassId} {cv : Nat → Value} {d : Nat} {f : Nat → Int32 → Int32 → Int32 → Int32 → Int32 → qM → Option qR} (hf : ∀ (x0 : Nat) (x1 : Int32) (x2 : Int32) (x3 : Int32) (x5 : Int32) (x6 : Int32) (μ : qM) (r : qR), f x0 x1 x2 x3 x5 x6 μ = some r → qEv false base D ca cv d 19 r 62 [.ref x0, .int x1, .int x2, .int x3, .null, .int x5, .int x6, .null] [] μ) {L S : List Value} {μ : qM} {r : qR} (h : jX0_gatherAt_62 f L S μ = some r) : qEv false base D ca cv d 19 r 62 L S μ := by
  unfold jX0_gatherAt_62 at h
  split at h
  · exact (hf _ _ _ _ _ _ _ _ h).le rfl ⟨Or.inr rfl, Or.inr rfl, Or.inr rfl, Or.inr rfl, Or.inl rfl, Or.inr rfl, Or.inr rfl, Or.inl rfl, trivial⟩
  · cases h
def jX0_gatherAt_79 (f : Nat → Int32 → Int32 → Int32 → qM → Option qR) (L S : List Value) (μ : qM) : Option qR := match L, S with
  | [.ref x0, .int x1, _, .int x3, _, _, .int x6, _], [] => f x0 x1 x3 x6 μ
  | _, _ => none
theorem jeX0_gatherAt_79 {base : Nat} {D : va_G} {ca : Nat → ClassId} {cv : Nat → Value} {d : Nat} {f : Nat → Int32 → Int32 → Int32 → qM → Option qR} (hf : ∀ (x0 : Nat) (x1 : Int32) (x3 : Int32) (x6 : Int32) (μ : qM) (r : qR), f x0 x1 x3 x6 μ = some r → qEv false base D ca cv d 19 r 79 [.ref x0, .int x1, .null, .int x3, .null, .null, .int x6, .null] [] μ) {L S : List Value} {μ : qM} {r : qR} (h : jX0_gatherAt_79 f L S μ = some r) : qEv false base D ca cv d 19 r 79 L S μ := by
  unfold jX0_gatherAt_79 at h
  split at h
  · exact (hf _ _ _ _ _ _ h).le rfl ⟨Or.inr rfl, Or.inr rfl, Or.inl rfl, Or.inr rfl, Or.inl rfl, Or.inl rfl, Or.inr rfl, Or.inl rfl, trivial⟩
  · cases h
set_option maxRecDepth 100000 in
theorem lbX0_gatherAt_62 {base : Nat} {D : va_G} {ca : Nat → ClassId} {cv : Nat → Value} (hcv : ∀ j, (cv j).category = 1) {δ : Nat} {R : qF} (hδ : 10 ≤ δ) (hR : ∀ M as μ r, R M as μ = some r → qGood false base D ca cv δ M as μ r) {k39 : Nat → Int32 → Int32 → Int32 → Int32 → Int32 → qM → Option qR} (hk39 : ∀ (y0 : Nat) (y1 : Int32) (y2 : Int32) (y3 : Int32) (y5 : Int32) (y6 : Int32) (μ : qM) (r : qR), k39 y0 y1 y2 y3 y5 y6 μ = some r → qEv false base D ca cv (δ + 1) 19 r 39 [.ref y0, .int y1, .int y2, .int y3, .null, .int y5, .int y6, .null] [] μ) (x0 : Nat) (x1 : Int32) (x2 : Int32) (x3 : Int32) (x5 : Int32) (x6 : Int32) (μ : qM) (r : qR) (h : fX0_gatherAt_62 R k39 x0 x1 x2 x3 x5 x6 μ = some r) : qEv false base D ca cv (δ + 1) 19 r 62 [.ref x0, .int x1, .int x2, .int x3, .null, .int x5, .int x6, .null] [] μ := by
    exact qblk_ev2 (cf := cfX0_gatherAt R) (st := (fun n => qin [39, 44, 62, 79] n)) (K := (fun pc L S μ => if pc = 39 then jX0_gatherAt_39 k39 L S μ else none)) (cd := qcX0_gatherAt) (M := 19) (d0 := (δ + 0)) rfl qcok_X0_gatherAt (Nat.le_refl _) (hcX0_gatherAt hcv hδ hR) (by
    intro pc L S μ r h
    split at h
    · rename_i e; subst e; exact jeX0_gatherAt_39 hk39 h
    cases h) 400 (pc := 62) (L := [.ref x0, .int x1, .int x2, .int x3, .null, .int x5, .int x6, .null]) (S := []) h
set_option maxRecDepth 100000 in
theorem lbX0_gatherAt_44 {base : Nat} {D : va_G} {ca : Nat → ClassId} {cv : Nat → Value} (hcv : ∀ j, (cv j).category = 1) {δ : Nat} {R : qF} (hδ : 10 ≤ δ) (hR : ∀ M as μ r, R M as μ = some r → qGood false base D ca cv δ M as μ r) {k39 : Nat → Int32 → Int32 → Int32 → Int32 → Int32 → qM → Option qR} (hk39 : ∀ (y0 : Nat) (y1 : Int32) (y2 : Int32) (y3 : Int32) (y5 : Int32) (y6 : Int32) (μ : qM) (r : qR), k39 y0 y1 y2 y3 y5 y6 μ = some r → qEv false base D ca cv (δ + 1) 19 r 39 [.ref y0, .int y1, .int y2, .int y3, .null, .int y5, .int y6, .null] [] μ) : ∀ (n : Nat) (x0 : Nat) (x1 : Int32) (x2 : Int32) (x3 : Int32) (x5 : Int32) (x6 : Int32) (x7 : Int32) (μ : qM) (r : qR), fX0_gatherAt_44 R k39 n x0 x1 x2 x3 x5 x6 x7 μ = some r → qEv false base D ca cv (δ + 1) 19 r 44 [.ref x0, .int x1, .int x2, .int x3, .null, .int x5, .int x6, .int x7] [] μ := by
  intro n
  induction n with
  | zero => intro x0 x1 x2 x3 x5 x6 x7 μ r h; cases (show (none : Option qR) = some r from h)
  | succ n ih =>
    intro x0 x1 x2 x3 x5 x6 x7 μ r h
    exact qblk_ev2 (cf := cfX0_gatherAt R) (st := (fun n => qin [39, 44, 62, 79] n)) (K := (fun pc L S μ => if pc = 44 then jX0_gatherAt_44 (fX0_gatherAt_44 R k39 n) L S μ else if pc = 62 then jX0_gatherAt_62 (fX0_gatherAt_62 R k39) L S μ else none)) (cd := qcX0_gatherAt) (M := 19) (d0 := (δ + 0)) rfl qcok_X0_gatherAt (Nat.le_refl _) (hcX0_gatherAt hcv hδ hR) (by
    intro pc L S μ r h
    split at h
    · rename_i e; subst e; exact jeX0_gatherAt_44 ih h
    split at h
    · rename_i e; subst e; exact jeX0_gatherAt_62 (lbX0_gatherAt_62 hcv hδ hR hk39) h
    cases h) 400 (pc := 44) (L := [.ref x0, .int x1, .int x2, .int x3, .null, .int x5, .int x6, .int x7]) (S := []) h
set_option maxRecDepth 100000 in
theorem lbX0_gatherAt_79 {base : Nat} {D : va_G} {ca : Nat → ClassId} {cv : Nat → Value} (hcv : ∀ j, (cv j).category = 1) {δ : Nat} {R : qF} (hδ : 10 ≤ δ) (hR : ∀ M as μ r, R M as μ = some r → qGood false base D ca cv δ M as μ r) : ∀ (n : Nat) (x0 : Nat) (x1 : Int32) (x3 : Int32) (x6 : Int32) (μ : qM) (r : qR), fX0_gatherAt_79 R n x0 x1 x3 x6 μ = some r → qEv false base D ca cv (δ + 1) 19 r 79 [.ref x0, .int x1, .null, .int x3, .null, .null, .int x6, .null] [] μ := by
  intro n
  induction n with
  | zero => intro x0 x1 x3 x6 μ r h; cases (show (none : Option qR) = some r from h)
  | succ n ih =>
    intro x0 x1 x3 x6 μ r h
    exact qblk_ev2 (cf := cfX0_gatherAt R) (st := (fun n => qin [39, 44, 62, 79] n)) (K := (fun pc L S μ => if pc = 79 then jX0_gatherAt_79 (fX0_gatherAt_79 R n) L S μ else none)) (cd := qcX0_gatherAt) (M := 19) (d0 := (δ + 0)) rfl qcok_X0_gatherAt (Nat.le_refl _) (hcX0_gatherAt hcv hδ hR) (by
    intro pc L S μ r h
    split at h
    · rename_i e; subst e; exact jeX0_gatherAt_79 ih h
    cases h) 400 (pc := 79) (L := [.ref x0, .int x1, .null, .int x3, .null, .null, .int x6, .null]) (S := []) h
set_option maxRecDepth 100000 in
theorem lbX0_gatherAt_39 {base : Nat} {D : va_G} {ca : Nat → ClassId} {cv : Nat → Value} (hcv : ∀ j, (cv j).category = 1) {δ : Nat} {R : qF} (hδ : 10 ≤ δ) (hR : ∀ M as μ r, R M as μ = some r → qGood false base D ca cv δ M as μ r) : ∀ (n : Nat) (x0 : Nat) (x1 : Int32) (x2 : Int32) (x3 : Int32) (x5 : Int32) (x6 : Int32) (μ : qM) (r : qR), fX0_gatherAt_39 R n x0 x1 x2 x3 x5 x6 μ = some r → qEv false base D ca cv (δ + 1) 19 r 39 [.ref x0, .int x1, .int x2, .int x3, .null, .int x5, .int x6, .null] [] μ := by
  intro n
  induction n with
  | zero => intro x0 x1 x2 x3 x5 x6 μ r h; cases (show (none : Option qR) = some r from h)
  | succ n ih =>
    intro x0 x1 x2 x3 x5 x6 μ r h
    exact qblk_ev2 (cf := cfX0_gatherAt R) (st := (fun n => qin [39, 44, 62, 79] n)) (K := (fun pc L S μ => if pc = 44 then jX0_gatherAt_44 (fX0_gatherAt_44 R (fX0_gatherAt_39 R n) qfu) L S μ else if pc = 79 then jX0_gatherAt_79 (fX0_gatherAt_79 R qfu) L S μ else none)) (cd := qcX0_gatherAt) (M := 19) (d0 := (δ + 0)) rfl qcok_X0_gatherAt (Nat.le_refl _) (hcX0_gatherAt hcv hδ hR) (by
    intro pc L S μ r h
    split at h
    · rename_i e; subst e; exact jeX0_gatherAt_44 (lbX0_gatherAt_44 hcv hδ hR ih qfu) h
    split at h
    · rename_i e; subst e; exact jeX0_gatherAt_79 (lbX0_gatherAt_79 hcv hδ hR qfu) h
    cases h) 400 (pc := 39) (L := [.ref x0, .int x1, .int x2, .int x3, .null, .int x5, .int x6, .null]) (S := []) h
theorem npX0_gatherAt : (parseMethodDescriptor (qmy 19).desc).map (fun d => d.parameters.length) = some 3 := by decide +kernel
set_option maxRecDepth 100000 in
theorem gdX0_gatherAt {base : Nat} {D : va_G} {ca : Nat → ClassId} {cv : Nat → Value} (hcv : ∀ j, (cv j).category = 1) {δ : Nat} {R : qF} (hδ : 10 ≤ δ) (hR : ∀ M as μ r, R M as μ = some r → qGood false base D ca cv δ M as μ r) {a0 : Nat} {a1 : Int32} {a2 : Int32} {a3 : Int32} {μ : qM} {r : qR} (h : fX0_gatherAt R a0 a1 a2 a3 μ = some r) : qGood false base D ca cv (δ + 1) 19 [.ref a0, .int a1, .int a2, .int a3] μ r := by
  unfold fX0_gatherAt at h
  split at h
  · rename_i hk0
    exact qgood_of (by decide) (by omega) hcv (Or.inr ⟨by decide +kernel, hk0⟩) npX0_gatherAt rfl (Nat.le_of_ble_eq_true rfl) rfl (qblk_ev2 (cf := cfX0_gatherAt R) (st := (fun n => qin [39, 44, 62, 79] n)) (K := (fun pc L S μ => if pc = 39 then jX0_gatherAt_39 (fX0_gatherAt_39 R qfu) L S μ else none)) (cd := qcX0_gatherAt) (M := 19) (d0 := (δ + 0)) rfl qcok_X0_gatherAt (Nat.le_refl _) (hcX0_gatherAt hcv hδ hR) (by
    intro pc L S μ r h
    split at h
    · rename_i e; subst e; exact jeX0_gatherAt_39 (lbX0_gatherAt_39 hcv hδ hR qfu) h
    cases h) 400 (pc := 0) (L := qent [.ref a0, .int a1, .int a2, .int a3] 8) (S := []) h)
  · cases h
theorem gaX0_gatherAt {base : Nat} {D : va_G} {ca : Nat → ClassId} {cv : Nat → Value} (hcv : ∀ j, (cv j).category = 1) {δ : Nat} {R : qF} (hδ : 10 ≤ δ) (hR : ∀ M as μ r, R M as μ = some r → qGood false base D ca cv δ M as μ r) {l : List Value} {μ : qM} {r : qR} (h : aX0_gatherAt R l μ = some r) : qGood false base D ca cv (δ + 1) 19 l μ r := by
  unfold aX0_gatherAt at h
  split at h
  · exact gdX0_gatherAt hcv hδ hR h
  · cases h
noncomputable def fX0_goOn_89 (R : qF) (x0 : Nat) (x1 : Int32) (x3 : Int32) (x6 : Int32) (s0 : Int32) (μ : qM) : Option qR :=
  if s0 = 0 then
    some ((1 : Int32), 0, μ)
  else
    qbnd (fX0_gatherAt R x0 x1 x6 x3 μ) fun r1 =>
    if r1.1 = 0 then
      some ((1 : Int32), 0, r1.2.2)
    else
      some ((2 : Int32), 0, r1.2.2)
noncomputable def fX0_goOn_11 (R : qF) : Nat → Nat → Int32 → Int32 → Int32 → Int32 → Int32 → qM → Option qR
  | 0 => fun _ _ _ _ _ _ _ => none
  | n + 1 => fun x0 x1 x3 x4 x5 x6 μ =>
    if x5 < x6 then
      if x5 = (3 : Int32) then
        qbnd (fX7_onPath x4 (x5 - (1 : Int32)) μ) fun r1 =>
        qbnd (oGetP r1.2.2 0 x0 0) fun v2 =>
        qbnd (fX5_holdingsBelow v2 x1 r1.1 r1.2.2) fun r3 =>
        qbnd (oGetP r3.2.2 0 x0 0) fun v4 =>
        qbnd (oGetI r3.2.2 5 v4 12) fun v5 =>
        if r3.1 < v5 then
          fX0_goOn_89 R x0 x1 x3 r1.1 (0 : Int32) r3.2.2
        else
          fX0_goOn_89 R x0 x1 x3 r1.1 (1 : Int32) r3.2.2
      else
        some ((1 : Int32), 0, μ)
    else
      qbnd (fX7_onPath x4 x6 μ) fun r6 =>
      qbnd (oGetP r6.2.2 0 x0 0) fun v7 =>
      qbnd (fX5_modeAt v7 x1 r6.1 r6.2.2) fun r8 =>
      qbnd (oGetP r8.2.2 0 x0 0) fun v9 =>
      qbnd (oGetP r8.2.2 5 v9 9) fun v10 =>
      qbnd (oLdI 20 r8.2.2 v10 x1) fun v11 =>
      qbnd (fX7_stepMode x4 x6 v11 r8.2.2) fun r12 =>
      qbnd (oTab 1 2 (((7 : Int32) * r8.1) + r12.1)) fun v13 =>
      if v13 = r8.1 then
        fX0_goOn_11 R n x0 x1 x3 x4 x5 (x6 + (1 : Int32)) r12.2.2
      else
        qbnd (oGetP r12.2.2 0 x0 0) fun v14 =>
        qbnd (fX5_isOpen v14 x1 r6.1 v13 r12.2.2) fun r15 =>
        if r15.1 = 0 then
          qbnd (oGetP r15.2.2 0 x0 0) fun v18 =>
          qbnd (fX5_enqueue v18 x1 r6.1 v13 r15.2.2) fun r19 =>
          some ((0 : Int32), 0, r19.2.2)
        else
          qbnd (oGetP r15.2.2 0 x0 0) fun v16 =>
          qbnd (fX5_setMode v16 x1 r6.1 v13 r15.2.2) fun r17 =>
          fX0_goOn_11 R n x0 x1 x3 x4 x5 (x6 + (1 : Int32)) r17.2.2
noncomputable def gX0_goOn (R : qF) (a0 : Nat) (a1 : Int32) (a2 : Int32) (a3 : Int32) (μ : qM) : Option qR :=
  qbnd (oGetP μ 0 a0 0) fun v1 =>
  qbnd (oGetP μ 5 v1 8) fun v2 =>
  qbnd (oLdI 20 μ v2 a1) fun v3 =>
  qbnd (fX7_levelOf v3 μ) fun r4 =>
  fX0_goOn_11 R qfu a0 a1 a3 v3 r4.1 a2 r4.2.2
noncomputable def fX0_goOn (R : qF) (a0 : Nat) (a1 : Int32) (a2 : Int32) (a3 : Int32) (μ : qM) : Option qR := if (qk μ a0).1 = 0 then gX0_goOn R a0 a1 a2 a3 μ else none
noncomputable def aX0_goOn (R : qF) (l : List Value) (μ : qM) : Option qR := match l with
  | [.ref x0, .int x1, .int x2, .int x3] => fX0_goOn R x0 x1 x2 x3 μ
  | _ => none
noncomputable def cfX0_goOn (R : qF) : qF := fun n l μ => if n = 135 then aX7_levelOf l μ else if n = 136 then aX7_onPath l μ else if n = 54 then aX5_modeAt l μ else if n = 137 then aX7_stepMode l μ else if n = 67 then aX5_isOpen l μ else if n = 77 then aX5_enqueue l μ else if n = 55 then aX5_setMode l μ else if n = 62 then aX5_holdingsBelow l μ else if n = 19 then aX0_gatherAt R l μ else none
theorem hcX0_goOn {base : Nat} {D : va_G} {ca : Nat → ClassId} {cv : Nat → Value} (hcv : ∀ j, (cv j).category = 1) {δ : Nat} {R : qF} (hδ : 10 ≤ δ) (hR : ∀ M as μ r, R M as μ = some r → qGood false base D ca cv δ M as μ r) : ∀ M as μ r, cfX0_goOn R M as μ = some r → qGood false base D ca cv (δ + 1) M as μ r := by
  intro M as μ r h
  unfold cfX0_goOn at h
  split at h
  · rename_i e; subst e; exact (gaX7_levelOf hcv h).mono (by omega)
  split at h
  · rename_i e; subst e; exact (gaX7_onPath hcv h).mono (by omega)
  split at h
  · rename_i e; subst e; exact (gaX5_modeAt hcv h).mono (by omega)
  split at h
  · rename_i e; subst e; exact (gaX7_stepMode hcv h).mono (by omega)
  split at h
  · rename_i e; subst e; exact (gaX5_isOpen hcv h).mono (by omega)
  split at h
  · rename_i e; subst e; exact (gaX5_enqueue hcv h).mono (by omega)
  split at h
  · rename_i e; subst e; exact (gaX5_setMode hcv h).mono (by omega)
  split at h
  · rename_i e; subst e; exact (gaX5_holdingsBelow hcv h).mono (by omega)
  split at h
  · rename_i e; subst e; exact (gaX0_gatherAt hcv hδ hR h).mono (by omega)
  cases h
def jX0_goOn_11 (f : Nat → Int32 → Int32 → Int32 → Int32 → Int32 → qM → Option qR) (L S : List Value) (μ : qM) : Option qR := match L, S with
  | [.ref x0, .int x1, _, .int x3, .int x4, .int x5, .int x6, _, _, _], [] => f x0 x1 x3 x4 x5 x6 μ
  | _, _ => none
theorem jeX0_goOn_11 {base : Nat} {D : va_G} {ca : Nat → ClassId} {cv : Nat → Value} {d : Nat} {f : Nat → Int32 → Int32 → Int32 → Int32 → Int32 → qM → Option qR} (hf : ∀ (x0 : Nat) (x1 : Int32) (x3 : Int32) (x4 : Int32) (x5 : Int32) (x6 : Int32) (μ : qM) (r : qR), f x0 x1 x3 x4 x5 x6 μ = some r → qEv false base D ca cv d 18 r 11 [.ref x0, .int x1, .null, .int x3, .int x4, .int x5, .int x6, .null, .null, .null] [] μ) {L S : List Value} {μ : qM} {r : qR} (h : jX0_goOn_11 f L S μ = some r) : qEv false base D ca cv d 18 r 11 L S μ := by
  unfold jX0_goOn_11 at h
  split at h
  · exact (hf _ _ _ _ _ _ _ _ h).le rfl ⟨Or.inr rfl, Or.inr rfl, Or.inl rfl, Or.inr rfl, Or.inr rfl, Or.inr rfl, Or.inr rfl, Or.inl rfl, Or.inl rfl, Or.inl rfl, trivial⟩
  · cases h
def jX0_goOn_89 (f : Nat → Int32 → Int32 → Int32 → Int32 → qM → Option qR) (L S : List Value) (μ : qM) : Option qR := match L, S with
  | [.ref x0, .int x1, _, .int x3, _, _, .int x6, _, _, _], [.int s0] => f x0 x1 x3 x6 s0 μ
  | _, _ => none
theorem jeX0_goOn_89 {base : Nat} {D : va_G} {ca : Nat → ClassId} {cv : Nat → Value} {d : Nat} {f : Nat → Int32 → Int32 → Int32 → Int32 → qM → Option qR} (hf : ∀ (x0 : Nat) (x1 : Int32) (x3 : Int32) (x6 : Int32) (s0 : Int32) (μ : qM) (r : qR), f x0 x1 x3 x6 s0 μ = some r → qEv false base D ca cv d 18 r 89 [.ref x0, .int x1, .null, .int x3, .null, .null, .int x6, .null, .null, .null] [.int s0] μ) {L S : List Value} {μ : qM} {r : qR} (h : jX0_goOn_89 f L S μ = some r) : qEv false base D ca cv d 18 r 89 L S μ := by
  unfold jX0_goOn_89 at h
  split at h
  · exact (hf _ _ _ _ _ _ _ h).le rfl ⟨Or.inr rfl, Or.inr rfl, Or.inl rfl, Or.inr rfl, Or.inl rfl, Or.inl rfl, Or.inr rfl, Or.inl rfl, Or.inl rfl, Or.inl rfl, trivial⟩
  · cases h
set_option maxRecDepth 100000 in
theorem lbX0_goOn_89 {base : Nat} {D : va_G} {ca : Nat → ClassId} {cv : Nat → Value} (hcv : ∀ j, (cv j).category = 1) {δ : Nat} {R : qF} (hδ : 10 ≤ δ) (hR : ∀ M as μ r, R M as μ = some r → qGood false base D ca cv δ M as μ r) (x0 : Nat) (x1 : Int32) (x3 : Int32) (x6 : Int32) (s0 : Int32) (μ : qM) (r : qR) (h : fX0_goOn_89 R x0 x1 x3 x6 s0 μ = some r) : qEv false base D ca cv (δ + 2) 18 r 89 [.ref x0, .int x1, .null, .int x3, .null, .null, .int x6, .null, .null, .null] [.int s0] μ := by
    exact qblk_ev2 (cf := cfX0_goOn R) (st := (fun n => qin [11, 89] n)) (K := (fun pc L S μ => none)) (cd := qcX0_goOn) (M := 18) (d0 := (δ + 1)) rfl qcok_X0_goOn (Nat.le_refl _) (hcX0_goOn hcv hδ hR) (by
    intro pc L S μ r h
    cases h) 400 (pc := 89) (L := [.ref x0, .int x1, .null, .int x3, .null, .null, .int x6, .null, .null, .null]) (S := [.int s0]) h
set_option maxRecDepth 100000 in
theorem lbX0_goOn_11 {base : Nat} {D : va_G} {ca : Nat → ClassId} {cv : Nat → Value} (hcv : ∀ j, (cv j).category = 1) {δ : Nat} {R : qF} (hδ : 10 ≤ δ) (hR : ∀ M as μ r, R M as μ = some r → qGood false base D ca cv δ M as μ r) : ∀ (n : Nat) (x0 : Nat) (x1 : Int32) (x3 : Int32) (x4 : Int32) (x5 : Int32) (x6 : Int32) (μ : qM) (r : qR), fX0_goOn_11 R n x0 x1 x3 x4 x5 x6 μ = some r → qEv false base D ca cv (δ + 2) 18 r 11 [.ref x0, .int x1, .null, .int x3, .int x4, .int x5, .int x6, .null, .null, .null] [] μ := by
  intro n
  induction n with
  | zero => intro x0 x1 x3 x4 x5 x6 μ r h; cases (show (none : Option qR) = some r from h)
  | succ n ih =>
    intro x0 x1 x3 x4 x5 x6 μ r h
    exact qblk_ev2 (cf := cfX0_goOn R) (st := (fun n => qin [11, 89] n)) (K := (fun pc L S μ => if pc = 11 then jX0_goOn_11 (fX0_goOn_11 R n) L S μ else if pc = 89 then jX0_goOn_89 (fX0_goOn_89 R) L S μ else none)) (cd := qcX0_goOn) (M := 18) (d0 := (δ + 1)) rfl qcok_X0_goOn (Nat.le_refl _) (hcX0_goOn hcv hδ hR) (by
    intro pc L S μ r h
    split at h
    · rename_i e; subst e; exact jeX0_goOn_11 ih h
    split at h
    · rename_i e; subst e; exact jeX0_goOn_89 (lbX0_goOn_89 hcv hδ hR) h
    cases h) 400 (pc := 11) (L := [.ref x0, .int x1, .null, .int x3, .int x4, .int x5, .int x6, .null, .null, .null]) (S := []) h
theorem npX0_goOn : (parseMethodDescriptor (qmy 18).desc).map (fun d => d.parameters.length) = some 3 := by decide +kernel
set_option maxRecDepth 100000 in
theorem gdX0_goOn {base : Nat} {D : va_G} {ca : Nat → ClassId} {cv : Nat → Value} (hcv : ∀ j, (cv j).category = 1) {δ : Nat} {R : qF} (hδ : 10 ≤ δ) (hR : ∀ M as μ r, R M as μ = some r → qGood false base D ca cv δ M as μ r) {a0 : Nat} {a1 : Int32} {a2 : Int32} {a3 : Int32} {μ : qM} {r : qR} (h : fX0_goOn R a0 a1 a2 a3 μ = some r) : qGood false base D ca cv (δ + 2) 18 [.ref a0, .int a1, .int a2, .int a3] μ r := by
  unfold fX0_goOn at h
  split at h
  · rename_i hk0
    exact qgood_of (by decide) (by omega) hcv (Or.inr ⟨by decide +kernel, hk0⟩) npX0_goOn rfl (Nat.le_of_ble_eq_true rfl) rfl (qblk_ev2 (cf := cfX0_goOn R) (st := (fun n => qin [11, 89] n)) (K := (fun pc L S μ => if pc = 11 then jX0_goOn_11 (fX0_goOn_11 R qfu) L S μ else none)) (cd := qcX0_goOn) (M := 18) (d0 := (δ + 1)) rfl qcok_X0_goOn (Nat.le_refl _) (hcX0_goOn hcv hδ hR) (by
    intro pc L S μ r h
    split at h
    · rename_i e; subst e; exact jeX0_goOn_11 (lbX0_goOn_11 hcv hδ hR qfu) h
    cases h) 400 (pc := 0) (L := qent [.ref a0, .int a1, .int a2, .int a3] 10) (S := []) h)
  · cases h
theorem gaX0_goOn {base : Nat} {D : va_G} {ca : Nat → ClassId} {cv : Nat → Value} (hcv : ∀ j, (cv j).category = 1) {δ : Nat} {R : qF} (hδ : 10 ≤ δ) (hR : ∀ M as μ r, R M as μ = some r → qGood false base D ca cv δ M as μ r) {l : List Value} {μ : qM} {r : qR} (h : aX0_goOn R l μ = some r) : qGood false base D ca cv (δ + 2) 18 l μ r := by
  unfold aX0_goOn at h
  split at h
  · exact gdX0_goOn hcv hδ hR h
  · cases h
noncomputable def fX0_serve_53 (R : qF) : Nat → Nat → Int32 → Int32 → Int32 → Int32 → Int32 → qM → Option qR
  | 0 => fun _ _ _ _ _ _ _ => none
  | n + 1 => fun x0 x2 x3 x4 x5 x6 μ =>
    if x4 ≤ x6 then
      some (0, 0, μ)
    else
      qbnd (fX0_goOn R x0 ((qush x3 ((4 : Int32) * x6)) &&& (7 : Int32)) (x5 + (1 : Int32)) x2 μ) fun r1 =>
      fX0_serve_53 R n x0 x2 x3 x4 x5 (x6 + (1 : Int32)) r1.2.2
noncomputable def fX0_serve_10 (R : qF) : Nat → Nat → Int32 → Int32 → Int32 → Int32 → Int32 → qM → Option qR
  | 0 => fun _ _ _ _ _ _ _ => none
  | n + 1 => fun x0 x1 x2 x3 x4 x5 μ =>
    if (8 : Int32) ≤ x5 then
      qbnd (fX7_levelOf x1 μ) fun r1 =>
      fX0_serve_53 R qfu x0 x2 x3 x4 r1.1 (0 : Int32) r1.2.2
    else
      qbnd (oGetP μ 0 x0 0) fun v2 =>
      qbnd (fX5_firstInQueue v2 x1 μ) fun r3 =>
      if r3.1 = (-1 : Int32) then
        qbnd (fX7_levelOf x1 r3.2.2) fun r4 =>
        fX0_serve_53 R qfu x0 x2 x3 x4 r4.1 (0 : Int32) r4.2.2
      else
        qbnd (oGetP r3.2.2 0 x0 0) fun v5 =>
        qbnd (oGetP r3.2.2 0 x0 0) fun v6 =>
        qbnd (oGetP r3.2.2 5 v6 6) fun v7 =>
        qbnd (oLdI 20 r3.2.2 v7 r3.1) fun v8 =>
        qbnd (fX5_fits v5 r3.1 x1 v8 r3.2.2) fun r9 =>
        if r9.1 = 0 then
          qbnd (fX7_levelOf x1 r9.2.2) fun r13 =>
          fX0_serve_53 R qfu x0 x2 x3 x4 r13.1 (0 : Int32) r13.2.2
        else
          qbnd (oGetP r9.2.2 0 x0 0) fun v10 =>
          qbnd (fX5_grant v10 r3.1 r9.2.2) fun r11 =>
          let w12 : Int32 := (x3 ||| (r3.1 <<< (((4 : Int32) * x4) &&& 31)))
          fX0_serve_10 R n x0 x1 x2 w12 (x4 + (1 : Int32)) (x5 + (1 : Int32)) r11.2.2
noncomputable def gX0_serve (R : qF) (a0 : Nat) (a1 : Int32) (a2 : Int32) (μ : qM) : Option qR :=
  if a2 ≤ (16 : Int32) then
    fX0_serve_10 R qfu a0 a1 a2 (0 : Int32) (0 : Int32) (0 : Int32) μ
  else
    some (0, 0, μ)
noncomputable def fX0_serve (R : qF) (a0 : Nat) (a1 : Int32) (a2 : Int32) (μ : qM) : Option qR := if (qk μ a0).1 = 0 then gX0_serve R a0 a1 a2 μ else none
noncomputable def aX0_serve (R : qF) (l : List Value) (μ : qM) : Option qR := match l with
  | [.ref x0, .int x1, .int x2] => fX0_serve R x0 x1 x2 μ
  | _ => none
noncomputable def cfX0_serve (R : qF) : qF := fun n l μ => if n = 75 then aX5_firstInQueue l μ else if n = 66 then aX5_fits l μ else if n = 78 then aX5_grant l μ else if n = 135 then aX7_levelOf l μ else if n = 18 then aX0_goOn R l μ else none
theorem hcX0_serve {base : Nat} {D : va_G} {ca : Nat → ClassId} {cv : Nat → Value} (hcv : ∀ j, (cv j).category = 1) {δ : Nat} {R : qF} (hδ : 10 ≤ δ) (hR : ∀ M as μ r, R M as μ = some r → qGood false base D ca cv δ M as μ r) : ∀ M as μ r, cfX0_serve R M as μ = some r → qGood false base D ca cv (δ + 2) M as μ r := by
  intro M as μ r h
  unfold cfX0_serve at h
  split at h
  · rename_i e; subst e; exact (gaX5_firstInQueue hcv h).mono (by omega)
  split at h
  · rename_i e; subst e; exact (gaX5_fits hcv h).mono (by omega)
  split at h
  · rename_i e; subst e; exact (gaX5_grant hcv h).mono (by omega)
  split at h
  · rename_i e; subst e; exact (gaX7_levelOf hcv h).mono (by omega)
  split at h
  · rename_i e; subst e; exact (gaX0_goOn hcv hδ hR h).mono (by omega)
  cases h
def jX0_serve_10 (f : Nat → Int32 → Int32 → Int32 → Int32 → Int32 → qM → Option qR) (L S : List Value) (μ : qM) : Option qR := match L, S with
  | [.ref x0, .int x1, .int x2, .int x3, .int x4, .int x5, _], [] => f x0 x1 x2 x3 x4 x5 μ
  | _, _ => none
theorem jeX0_serve_10 {base : Nat} {D : va_G} {ca : Nat → ClassId} {cv : Nat → Value} {d : Nat} {f : Nat → Int32 → Int32 → Int32 → Int32 → Int32 → qM → Option qR} (hf : ∀ (x0 : Nat) (x1 : Int32) (x2 : Int32) (x3 : Int32) (x4 : Int32) (x5 : Int32) (μ : qM) (r : qR), f x0 x1 x2 x3 x4 x5 μ = some r → qEv false base D ca cv d 17 r 10 [.ref x0, .int x1, .int x2, .int x3, .int x4, .int x5, .null] [] μ) {L S : List Value} {μ : qM} {r : qR} (h : jX0_serve_10 f L S μ = some r) : qEv false base D ca cv d 17 r 10 L S μ := by
  unfold jX0_serve_10 at h
  split at h
  · exact (hf _ _ _ _ _ _ _ _ h).le rfl ⟨Or.inr rfl, Or.inr rfl, Or.inr rfl, Or.inr rfl, Or.inr rfl, Or.inr rfl, Or.inl rfl, trivial⟩
  · cases h
def jX0_serve_53 (f : Nat → Int32 → Int32 → Int32 → Int32 → Int32 → qM → Option qR) (L S : List Value) (μ : qM) : Option qR := match L, S with
  | [.ref x0, _, .int x2, .int x3, .int x4, .int x5, .int x6], [] => f x0 x2 x3 x4 x5 x6 μ
  | _, _ => none
theorem jeX0_serve_53 {base : Nat} {D : va_G} {ca : Nat → ClassId} {cv : Nat → Value} {d : Nat} {f : Nat → Int32 → Int32 → Int32 → Int32 → Int32 → qM → Option qR} (hf : ∀ (x0 : Nat) (x2 : Int32) (x3 : Int32) (x4 : Int32) (x5 : Int32) (x6 : Int32) (μ : qM) (r : qR), f x0 x2 x3 x4 x5 x6 μ = some r → qEv false base D ca cv d 17 r 53 [.ref x0, .null, .int x2, .int x3, .int x4, .int x5, .int x6] [] μ) {L S : List Value} {μ : qM} {r : qR} (h : jX0_serve_53 f L S μ = some r) : qEv false base D ca cv d 17 r 53 L S μ := by
  unfold jX0_serve_53 at h
  split at h
  · exact (hf _ _ _ _ _ _ _ _ h).le rfl ⟨Or.inr rfl, Or.inl rfl, Or.inr rfl, Or.inr rfl, Or.inr rfl, Or.inr rfl, Or.inr rfl, trivial⟩
  · cases h
set_option maxRecDepth 100000 in
theorem lbX0_serve_53 {base : Nat} {D : va_G} {ca : Nat → ClassId} {cv : Nat → Value} (hcv : ∀ j, (cv j).category = 1) {δ : Nat} {R : qF} (hδ : 10 ≤ δ) (hR : ∀ M as μ r, R M as μ = some r → qGood false base D ca cv δ M as μ r) : ∀ (n : Nat) (x0 : Nat) (x2 : Int32) (x3 : Int32) (x4 : Int32) (x5 : Int32) (x6 : Int32) (μ : qM) (r : qR), fX0_serve_53 R n x0 x2 x3 x4 x5 x6 μ = some r → qEv false base D ca cv (δ + 3) 17 r 53 [.ref x0, .null, .int x2, .int x3, .int x4, .int x5, .int x6] [] μ := by
  intro n
  induction n with
  | zero => intro x0 x2 x3 x4 x5 x6 μ r h; cases (show (none : Option qR) = some r from h)
  | succ n ih =>
    intro x0 x2 x3 x4 x5 x6 μ r h
    exact qblk_ev2 (cf := cfX0_serve R) (st := (fun n => qin [10, 53] n)) (K := (fun pc L S μ => if pc = 53 then jX0_serve_53 (fX0_serve_53 R n) L S μ else none)) (cd := qcX0_serve) (M := 17) (d0 := (δ + 2)) rfl qcok_X0_serve (Nat.le_refl _) (hcX0_serve hcv hδ hR) (by
    intro pc L S μ r h
    split at h
    · rename_i e; subst e; exact jeX0_serve_53 ih h
    cases h) 400 (pc := 53) (L := [.ref x0, .null, .int x2, .int x3, .int x4, .int x5, .int x6]) (S := []) h
set_option maxRecDepth 100000 in
theorem lbX0_serve_10 {base : Nat} {D : va_G} {ca : Nat → ClassId} {cv : Nat → Value} (hcv : ∀ j, (cv j).category = 1) {δ : Nat} {R : qF} (hδ : 10 ≤ δ) (hR : ∀ M as μ r, R M as μ = some r → qGood false base D ca cv δ M as μ r) : ∀ (n : Nat) (x0 : Nat) (x1 : Int32) (x2 : Int32) (x3 : Int32) (x4 : Int32) (x5 : Int32) (μ : qM) (r : qR), fX0_serve_10 R n x0 x1 x2 x3 x4 x5 μ = some r → qEv false base D ca cv (δ + 3) 17 r 10 [.ref x0, .int x1, .int x2, .int x3, .int x4, .int x5, .null] [] μ := by
  intro n
  induction n with
  | zero => intro x0 x1 x2 x3 x4 x5 μ r h; cases (show (none : Option qR) = some r from h)
  | succ n ih =>
    intro x0 x1 x2 x3 x4 x5 μ r h
    exact qblk_ev2 (cf := cfX0_serve R) (st := (fun n => qin [10, 53] n)) (K := (fun pc L S μ => if pc = 10 then jX0_serve_10 (fX0_serve_10 R n) L S μ else if pc = 53 then jX0_serve_53 (fX0_serve_53 R qfu) L S μ else none)) (cd := qcX0_serve) (M := 17) (d0 := (δ + 2)) rfl qcok_X0_serve (Nat.le_refl _) (hcX0_serve hcv hδ hR) (by
    intro pc L S μ r h
    split at h
    · rename_i e; subst e; exact jeX0_serve_10 ih h
    split at h
    · rename_i e; subst e; exact jeX0_serve_53 (lbX0_serve_53 hcv hδ hR qfu) h
    cases h) 400 (pc := 10) (L := [.ref x0, .int x1, .int x2, .int x3, .int x4, .int x5, .null]) (S := []) h
theorem npX0_serve : (parseMethodDescriptor (qmy 17).desc).map (fun d => d.parameters.length) = some 2 := by decide +kernel
set_option maxRecDepth 100000 in
theorem gdX0_serve {base : Nat} {D : va_G} {ca : Nat → ClassId} {cv : Nat → Value} (hcv : ∀ j, (cv j).category = 1) {δ : Nat} {R : qF} (hδ : 10 ≤ δ) (hR : ∀ M as μ r, R M as μ = some r → qGood false base D ca cv δ M as μ r) {a0 : Nat} {a1 : Int32} {a2 : Int32} {μ : qM} {r : qR} (h : fX0_serve R a0 a1 a2 μ = some r) : qGood false base D ca cv (δ + 3) 17 [.ref a0, .int a1, .int a2] μ r := by
  unfold fX0_serve at h
  split at h
  · rename_i hk0
    exact qgood_of (by decide) (by omega) hcv (Or.inr ⟨by decide +kernel, hk0⟩) npX0_serve rfl (Nat.le_of_ble_eq_true rfl) rfl (qblk_ev2 (cf := cfX0_serve R) (st := (fun n => qin [10, 53] n)) (K := (fun pc L S μ => if pc = 10 then jX0_serve_10 (fX0_serve_10 R qfu) L S μ else none)) (cd := qcX0_serve) (M := 17) (d0 := (δ + 2)) rfl qcok_X0_serve (Nat.le_refl _) (hcX0_serve hcv hδ hR) (by
    intro pc L S μ r h
    split at h
    · rename_i e; subst e; exact jeX0_serve_10 (lbX0_serve_10 hcv hδ hR qfu) h
    cases h) 400 (pc := 0) (L := qent [.ref a0, .int a1, .int a2] 7) (S := []) h)
  · cases h
theorem gaX0_serve {base : Nat} {D : va_G} {ca : Nat → ClassId} {cv : Nat → Value} (hcv : ∀ j, (cv j).category = 1) {δ : Nat} {R : qF} (hδ : 10 ≤ δ) (hR : ∀ M as μ r, R M as μ = some r → qGood false base D ca cv δ M as μ r) {l : List Value} {μ : qM} {r : qR} (h : aX0_serve R l μ = some r) : qGood false base D ca cv (δ + 3) 17 l μ r := by
  unfold aX0_serve at h
  split at h
  · exact gdX0_serve hcv hδ hR h
  · cases h
noncomputable def sX0_serve : Nat → qF
  | 0 => fun _ _ _ => none
  | n + 1 => fun m l μ => if m = 17 then aX0_serve (sX0_serve n) l μ else none
theorem gdsX0_serve {base : Nat} {D : va_G} {ca : Nat → ClassId} {cv : Nat → Value} (hcv : ∀ j, (cv j).category = 1) : ∀ n M as μ r, sX0_serve n M as μ = some r → qGood false base D ca cv (10 + 3 * n) M as μ r := by
  intro n
  induction n with
  | zero => intro M as μ r h; cases (show (none : Option qR) = some r from h)
  | succ n ih =>
    intro M as μ r h
    simp only [sX0_serve] at h
    split at h
    · rename_i e; subst e; exact (gaX0_serve hcv (by omega) ih h).mono (by omega)
    cases h
theorem gssX0_serve_X0_gatherAt {base : Nat} {D : va_G} {ca : Nat → ClassId} {cv : Nat → Value} (hcv : ∀ j, (cv j).category = 1) {l : List Value} {μ : qM} {r : qR} (h : aX0_gatherAt (sX0_serve qdp) l μ = some r) : qGood false base D ca cv (1000 + 1) 19 l μ r := (gaX0_gatherAt hcv (by omega) (gdsX0_serve hcv qdp) h).mono (by rw [qdp_eq]; omega)
theorem gssX0_serve_X0_goOn {base : Nat} {D : va_G} {ca : Nat → ClassId} {cv : Nat → Value} (hcv : ∀ j, (cv j).category = 1) {l : List Value} {μ : qM} {r : qR} (h : aX0_goOn (sX0_serve qdp) l μ = some r) : qGood false base D ca cv (1000 + 2) 18 l μ r := (gaX0_goOn hcv (by omega) (gdsX0_serve hcv qdp) h).mono (by rw [qdp_eq]; omega)
theorem gssX0_serve_X0_serve {base : Nat} {D : va_G} {ca : Nat → ClassId} {cv : Nat → Value} (hcv : ∀ j, (cv j).category = 1) {l : List Value} {μ : qM} {r : qR} (h : aX0_serve (sX0_serve qdp) l μ = some r) : qGood false base D ca cv (1000 + 3) 17 l μ r := (gaX0_serve hcv (by omega) (gdsX0_serve hcv qdp) h).mono (by rw [qdp_eq]; omega)
noncomputable def gX0_lock (a0 : Nat) (a1 : Int32) (a2 : Int32) (a3 : Int32) (μ : qM) : Option qR :=
  qbnd (fX7_isOwner a1 μ) fun r1 =>
  if r1.1 = 0 then
    some ((-1 : Int32), 0, r1.2.2)
  else
    qbnd (fX7_isPlace a2 r1.2.2) fun r2 =>
    if r2.1 = 0 then
      some ((-1 : Int32), 0, r2.2.2)
    else
      qbnd (fX7_isLockMode a3 r2.2.2) fun r3 =>
      if r3.1 = 0 then
        some ((-1 : Int32), 0, r3.2.2)
      else
        qbnd (oGetP r3.2.2 0 a0 0) fun v4 =>
        qbnd (oGetP r3.2.2 5 v4 1) fun v5 =>
        qbnd (oLdI 20 r3.2.2 v5 a1) fun v6 =>
        if v6 = (1 : Int32) then
          qbnd (oGetP r3.2.2 0 a0 0) fun v7 =>
          qbnd (fX5_isCovered v7 a1 a2 a3 r3.2.2) fun r8 =>
          if r8.1 = 0 then
            qbnd (oGetP r8.2.2 0 a0 0) fun v9 =>
            qbnd (oGetP r8.2.2 5 v9 8) fun v10 =>
            qbnd (oStI 20 r8.2.2 v10 a1 a2) fun μ11 =>
            qbnd (oGetP μ11 0 a0 0) fun v12 =>
            qbnd (oGetP μ11 5 v12 9) fun v13 =>
            qbnd (oStI 20 μ11 v13 a1 a3) fun μ14 =>
            qbnd (fX0_goOn (sX0_serve qdp) a0 a1 (0 : Int32) (0 : Int32) μ14) fun r15 =>
            some (r15.1, 0, r15.2.2)
          else
            some ((1 : Int32), 0, r8.2.2)
        else
          qbnd (fX0_idle a0 a1 r3.2.2) fun r16 =>
          some (r16.1, 0, r16.2.2)
noncomputable def fX0_lock (a0 : Nat) (a1 : Int32) (a2 : Int32) (a3 : Int32) (μ : qM) : Option qR := if (qk μ a0).1 = 0 then gX0_lock a0 a1 a2 a3 μ else none
noncomputable def aX0_lock (l : List Value) (μ : qM) : Option qR := match l with
  | [.ref x0, .int x1, .int x2, .int x3] => fX0_lock x0 x1 x2 x3 μ
  | _ => none
noncomputable def cfX0_lock : qF := fun n l μ => if n = 131 then aX7_isOwner l μ else if n = 132 then aX7_isPlace l μ else if n = 134 then aX7_isLockMode l μ else if n = 14 then aX0_idle l μ else if n = 65 then aX5_isCovered l μ else if n = 18 then aX0_goOn (sX0_serve qdp) l μ else none
theorem hcX0_lock {base : Nat} {D : va_G} {ca : Nat → ClassId} {cv : Nat → Value} (hcv : ∀ j, (cv j).category = 1) : ∀ M as μ r, cfX0_lock M as μ = some r → qGood false base D ca cv 1002 M as μ r := by
  intro M as μ r h
  unfold cfX0_lock at h
  split at h
  · rename_i e; subst e; exact (gaX7_isOwner hcv h).mono (by omega)
  split at h
  · rename_i e; subst e; exact (gaX7_isPlace hcv h).mono (by omega)
  split at h
  · rename_i e; subst e; exact (gaX7_isLockMode hcv h).mono (by omega)
  split at h
  · rename_i e; subst e; exact (gaX0_idle hcv h).mono (by omega)
  split at h
  · rename_i e; subst e; exact (gaX5_isCovered hcv h).mono (by omega)
  split at h
  · rename_i e; subst e; exact (gssX0_serve_X0_goOn hcv h).mono (by omega)
  cases h
theorem npX0_lock : (parseMethodDescriptor (qmy 5).desc).map (fun d => d.parameters.length) = some 3 := by decide +kernel
set_option maxRecDepth 100000 in
theorem gdX0_lock {base : Nat} {D : va_G} {ca : Nat → ClassId} {cv : Nat → Value} (hcv : ∀ j, (cv j).category = 1) {a0 : Nat} {a1 : Int32} {a2 : Int32} {a3 : Int32} {μ : qM} {r : qR} (h : fX0_lock a0 a1 a2 a3 μ = some r) : qGood false base D ca cv 1003 5 [.ref a0, .int a1, .int a2, .int a3] μ r := by
  unfold fX0_lock at h
  split at h
  · rename_i hk0
    exact qgood_of (by decide) (by omega) hcv (Or.inr ⟨by decide +kernel, hk0⟩) npX0_lock rfl (Nat.le_of_ble_eq_true rfl) rfl (qblk_ev2 (cf := cfX0_lock) (st := (fun n => qin [] n)) (K := (fun pc L S μ => none)) (cd := qcX0_lock) (M := 5) (d0 := 1002) rfl qcok_X0_lock (Nat.le_refl _) (hcX0_lock hcv) (by
    intro pc L S μ r h
    cases h) 400 (pc := 0) (L := qent [.ref a0, .int a1, .int a2, .int a3] 4) (S := []) h)
  · cases h
theorem gaX0_lock {base : Nat} {D : va_G} {ca : Nat → ClassId} {cv : Nat → Value} (hcv : ∀ j, (cv j).category = 1) {l : List Value} {μ : qM} {r : qR} (h : aX0_lock l μ = some r) : qGood false base D ca cv 1003 5 l μ r := by
  unfold aX0_lock at h
  split at h
  · exact gdX0_lock hcv h
  · cases h
noncomputable def gX0_unlock (a0 : Nat) (a1 : Int32) (a2 : Int32) (μ : qM) : Option qR :=
  qbnd (fX7_isOwner a1 μ) fun r1 =>
  if r1.1 = 0 then
    some ((-1 : Int32), 0, r1.2.2)
  else
    qbnd (fX7_isPlace a2 r1.2.2) fun r2 =>
    if r2.1 = 0 then
      some ((-1 : Int32), 0, r2.2.2)
    else
      qbnd (oGetP r2.2.2 0 a0 0) fun v3 =>
      qbnd (oGetP r2.2.2 5 v3 1) fun v4 =>
      qbnd (oLdI 20 r2.2.2 v4 a1) fun v5 =>
      if v5 = (1 : Int32) then
        qbnd (oGetP r2.2.2 0 a0 0) fun v6 =>
        qbnd (fX5_modeAt v6 a1 a2 r2.2.2) fun r7 =>
        if r7.1 = 0 then
          some ((-4 : Int32), 0, r7.2.2)
        else
          qbnd (oGetP r7.2.2 0 a0 0) fun v8 =>
          qbnd (fX5_holdingsBelow v8 a1 a2 r7.2.2) fun r9 =>
          if r9.1 ≤ 0 then
            qbnd (oGetP r9.2.2 0 a0 0) fun v10 =>
            qbnd (fX5_setMode v10 a1 a2 (0 : Int32) r9.2.2) fun r11 =>
            qbnd (fX0_serve (sX0_serve qdp) a0 a2 (0 : Int32) r11.2.2) fun r12 =>
            some ((0 : Int32), 0, r12.2.2)
          else
            some ((-5 : Int32), 0, r9.2.2)
      else
        qbnd (fX0_idle a0 a1 r2.2.2) fun r13 =>
        some (r13.1, 0, r13.2.2)
noncomputable def fX0_unlock (a0 : Nat) (a1 : Int32) (a2 : Int32) (μ : qM) : Option qR := if (qk μ a0).1 = 0 then gX0_unlock a0 a1 a2 μ else none
noncomputable def aX0_unlock (l : List Value) (μ : qM) : Option qR := match l with
  | [.ref x0, .int x1, .int x2] => fX0_unlock x0 x1 x2 μ
  | _ => none
noncomputable def cfX0_unlock : qF := fun n l μ => if n = 131 then aX7_isOwner l μ else if n = 132 then aX7_isPlace l μ else if n = 14 then aX0_idle l μ else if n = 54 then aX5_modeAt l μ else if n = 62 then aX5_holdingsBelow l μ else if n = 55 then aX5_setMode l μ else if n = 17 then aX0_serve (sX0_serve qdp) l μ else none
theorem hcX0_unlock {base : Nat} {D : va_G} {ca : Nat → ClassId} {cv : Nat → Value} (hcv : ∀ j, (cv j).category = 1) : ∀ M as μ r, cfX0_unlock M as μ = some r → qGood false base D ca cv 1003 M as μ r := by
  intro M as μ r h
  unfold cfX0_unlock at h
  split at h
  · rename_i e; subst e; exact (gaX7_isOwner hcv h).mono (by omega)
  split at h
  · rename_i e; subst e; exact (gaX7_isPlace hcv h).mono (by omega)
  split at h
  · rename_i e; subst e; exact (gaX0_idle hcv h).mono (by omega)
  split at h
  · rename_i e; subst e; exact (gaX5_modeAt hcv h).mono (by omega)
  split at h
  · rename_i e; subst e; exact (gaX5_holdingsBelow hcv h).mono (by omega)
  split at h
  · rename_i e; subst e; exact (gaX5_setMode hcv h).mono (by omega)
  split at h
  · rename_i e; subst e; exact (gssX0_serve_X0_serve hcv h).mono (by omega)
  cases h
theorem npX0_unlock : (parseMethodDescriptor (qmy 6).desc).map (fun d => d.parameters.length) = some 2 := by decide +kernel
set_option maxRecDepth 100000 in
theorem gdX0_unlock {base : Nat} {D : va_G} {ca : Nat → ClassId} {cv : Nat → Value} (hcv : ∀ j, (cv j).category = 1) {a0 : Nat} {a1 : Int32} {a2 : Int32} {μ : qM} {r : qR} (h : fX0_unlock a0 a1 a2 μ = some r) : qGood false base D ca cv 1004 6 [.ref a0, .int a1, .int a2] μ r := by
  unfold fX0_unlock at h
  split at h
  · rename_i hk0
    exact qgood_of (by decide) (by omega) hcv (Or.inr ⟨by decide +kernel, hk0⟩) npX0_unlock rfl (Nat.le_of_ble_eq_true rfl) rfl (qblk_ev2 (cf := cfX0_unlock) (st := (fun n => qin [] n)) (K := (fun pc L S μ => none)) (cd := qcX0_unlock) (M := 6) (d0 := 1003) rfl qcok_X0_unlock (Nat.le_refl _) (hcX0_unlock hcv) (by
    intro pc L S μ r h
    cases h) 400 (pc := 0) (L := qent [.ref a0, .int a1, .int a2] 3) (S := []) h)
  · cases h
theorem gaX0_unlock {base : Nat} {D : va_G} {ca : Nat → ClassId} {cv : Nat → Value} (hcv : ∀ j, (cv j).category = 1) {l : List Value} {μ : qM} {r : qR} (h : aX0_unlock l μ = some r) : qGood false base D ca cv 1004 6 l μ r := by
  unfold aX0_unlock at h
  split at h
  · exact gdX0_unlock hcv h
  · cases h
noncomputable def fX5_holdings_4 : Nat → Nat → Int32 → Int32 → Int32 → Int32 → qM → Option qR
  | 0 => fun _ _ _ _ _ _ => none
  | n + 1 => fun x0 x1 x2 x3 x4 μ =>
    if (85 : Int32) ≤ x4 then
      some (x3, 0, μ)
    else
      qbnd (fX5_modeAt x0 x1 x4 μ) fun r1 =>
      if r1.1 = 0 then
        fX5_holdings_4 n x0 x1 x2 x3 (x4 + (1 : Int32)) r1.2.2
      else
        if x2 = 0 then
          fX5_holdings_4 n x0 x1 x2 (x3 + (1 : Int32)) (x4 + (1 : Int32)) r1.2.2
        else
          if r1.1 = x2 then
            fX5_holdings_4 n x0 x1 x2 (x3 + (1 : Int32)) (x4 + (1 : Int32)) r1.2.2
          else
            fX5_holdings_4 n x0 x1 x2 x3 (x4 + (1 : Int32)) r1.2.2
noncomputable def gX5_holdings (a0 : Nat) (a1 : Int32) (a2 : Int32) (μ : qM) : Option qR :=
  fX5_holdings_4 qfu a0 a1 a2 (0 : Int32) (0 : Int32) μ
noncomputable def fX5_holdings (a0 : Nat) (a1 : Int32) (a2 : Int32) (μ : qM) : Option qR := if (qk μ a0).1 = 5 then gX5_holdings a0 a1 a2 μ else none
noncomputable def aX5_holdings (l : List Value) (μ : qM) : Option qR := match l with
  | [.ref x0, .int x1, .int x2] => fX5_holdings x0 x1 x2 μ
  | _ => none
noncomputable def cfX5_holdings : qF := fun n l μ => if n = 54 then aX5_modeAt l μ else none
theorem hcX5_holdings {base : Nat} {D : va_G} {ca : Nat → ClassId} {cv : Nat → Value} (hcv : ∀ j, (cv j).category = 1) : ∀ M as μ r, cfX5_holdings M as μ = some r → qGood false base D ca cv 1 M as μ r := by
  intro M as μ r h
  unfold cfX5_holdings at h
  split at h
  · rename_i e; subst e; exact (gaX5_modeAt hcv h).mono (by omega)
  cases h
def jX5_holdings_4 (f : Nat → Int32 → Int32 → Int32 → Int32 → qM → Option qR) (L S : List Value) (μ : qM) : Option qR := match L, S with
  | [.ref x0, .int x1, .int x2, .int x3, .int x4, _], [] => f x0 x1 x2 x3 x4 μ
  | _, _ => none
theorem jeX5_holdings_4 {base : Nat} {D : va_G} {ca : Nat → ClassId} {cv : Nat → Value} {d : Nat} {f : Nat → Int32 → Int32 → Int32 → Int32 → qM → Option qR} (hf : ∀ (x0 : Nat) (x1 : Int32) (x2 : Int32) (x3 : Int32) (x4 : Int32) (μ : qM) (r : qR), f x0 x1 x2 x3 x4 μ = some r → qEv false base D ca cv d 58 r 4 [.ref x0, .int x1, .int x2, .int x3, .int x4, .null] [] μ) {L S : List Value} {μ : qM} {r : qR} (h : jX5_holdings_4 f L S μ = some r) : qEv false base D ca cv d 58 r 4 L S μ := by
  unfold jX5_holdings_4 at h
  split at h
  · exact (hf _ _ _ _ _ _ _ h).le rfl ⟨Or.inr rfl, Or.inr rfl, Or.inr rfl, Or.inr rfl, Or.inr rfl, Or.inl rfl, trivial⟩
  · cases h
set_option maxRecDepth 100000 in
theorem lbX5_holdings_4 {base : Nat} {D : va_G} {ca : Nat → ClassId} {cv : Nat → Value} (hcv : ∀ j, (cv j).category = 1) : ∀ (n : Nat) (x0 : Nat) (x1 : Int32) (x2 : Int32) (x3 : Int32) (x4 : Int32) (μ : qM) (r : qR), fX5_holdings_4 n x0 x1 x2 x3 x4 μ = some r → qEv false base D ca cv 2 58 r 4 [.ref x0, .int x1, .int x2, .int x3, .int x4, .null] [] μ := by
  intro n
  induction n with
  | zero => intro x0 x1 x2 x3 x4 μ r h; cases (show (none : Option qR) = some r from h)
  | succ n ih =>
    intro x0 x1 x2 x3 x4 μ r h
    exact qblk_ev2 (cf := cfX5_holdings) (st := (fun n => qin [4] n)) (K := (fun pc L S μ => if pc = 4 then jX5_holdings_4 (fX5_holdings_4 n) L S μ else none)) (cd := qcX5_holdings) (M := 58) (d0 := 1) rfl qcok_X5_holdings (Nat.le_refl _) (hcX5_holdings hcv) (by
    intro pc L S μ r h
    split at h
    · rename_i e; subst e; exact jeX5_holdings_4 ih h
    cases h) 400 (pc := 4) (L := [.ref x0, .int x1, .int x2, .int x3, .int x4, .null]) (S := []) h
theorem npX5_holdings : (parseMethodDescriptor (qmy 58).desc).map (fun d => d.parameters.length) = some 2 := by decide +kernel
set_option maxRecDepth 100000 in
theorem gdX5_holdings {base : Nat} {D : va_G} {ca : Nat → ClassId} {cv : Nat → Value} (hcv : ∀ j, (cv j).category = 1) {a0 : Nat} {a1 : Int32} {a2 : Int32} {μ : qM} {r : qR} (h : fX5_holdings a0 a1 a2 μ = some r) : qGood false base D ca cv 2 58 [.ref a0, .int a1, .int a2] μ r := by
  unfold fX5_holdings at h
  split at h
  · rename_i hk0
    exact qgood_of (by decide) (by omega) hcv (Or.inr ⟨by decide +kernel, hk0⟩) npX5_holdings rfl (Nat.le_of_ble_eq_true rfl) rfl (qblk_ev2 (cf := cfX5_holdings) (st := (fun n => qin [4] n)) (K := (fun pc L S μ => if pc = 4 then jX5_holdings_4 (fX5_holdings_4 qfu) L S μ else none)) (cd := qcX5_holdings) (M := 58) (d0 := 1) rfl qcok_X5_holdings (Nat.le_refl _) (hcX5_holdings hcv) (by
    intro pc L S μ r h
    split at h
    · rename_i e; subst e; exact jeX5_holdings_4 (lbX5_holdings_4 hcv qfu) h
    cases h) 400 (pc := 0) (L := qent [.ref a0, .int a1, .int a2] 6) (S := []) h)
  · cases h
theorem gaX5_holdings {base : Nat} {D : va_G} {ca : Nat → ClassId} {cv : Nat → Value} (hcv : ∀ j, (cv j).category = 1) {l : List Value} {μ : qM} {r : qR} (h : aX5_holdings l μ = some r) : qGood false base D ca cv 2 58 l μ r := by
  unfold aX5_holdings at h
  split at h
  · exact gdX5_holdings hcv h
  · cases h
noncomputable def fX0_leave_60 : Nat → Nat → Int32 → Int32 → qM → Option qR
  | 0 => fun _ _ _ _ => none
  | n + 1 => fun x0 x1 x4 μ =>
    if (85 : Int32) ≤ x4 then
      some (0, 0, μ)
    else
      qbnd (oGetP μ 0 x0 3) fun v1 =>
      qbnd (oLdI 20 μ v1 x4) fun v2 =>
      if v2 = 0 then
        fX0_leave_60 n x0 x1 (x4 + (1 : Int32)) μ
      else
        qbnd (fX0_takeDue x0 x1 x4 μ) fun r3 =>
        if r3.1 = 0 then
          fX0_leave_60 n x0 x1 (x4 + (1 : Int32)) r3.2.2
        else
          qbnd (fX0_serve (sX0_serve qdp) x0 x4 (0 : Int32) r3.2.2) fun r4 =>
          fX0_leave_60 n x0 x1 (x4 + (1 : Int32)) r4.2.2
noncomputable def fX0_leave_14 : Nat → Nat → Int32 → Int32 → Int32 → Int32 → qM → Option qR
  | 0 => fun _ _ _ _ _ _ => none
  | n + 1 => fun x0 x1 x2 x3 x4 μ =>
    if (85 : Int32) ≤ x4 then
      qbnd (oGetP μ 0 x0 0) fun v1 =>
      qbnd (oGetP μ 5 v1 1) fun v2 =>
      qbnd (oStI 20 μ v2 x1 (0 : Int32)) fun μ3 =>
      qbnd (oGetP μ3 0 x0 0) fun v4 =>
      qbnd (oGetP μ3 5 v4 5) fun v5 =>
      qbnd (oStI 20 μ3 v5 x1 (85 : Int32)) fun μ6 =>
      qbnd (oGetP μ6 0 x0 0) fun v7 =>
      qbnd (oGetP μ6 5 v7 2) fun v8 =>
      qbnd (oStI 20 μ6 v8 x1 (0 : Int32)) fun μ9 =>
      qbnd (oGetP μ9 0 x0 0) fun v10 =>
      qbnd (oGetP μ9 5 v10 3) fun v11 =>
      qbnd (oStI 20 μ9 v11 x1 (0 : Int32)) fun μ12 =>
      fX0_leave_60 qfu x0 x1 (0 : Int32) μ12
    else
      qbnd (oGetP μ 0 x0 0) fun v13 =>
      qbnd (oGetP μ 5 v13 0) fun v14 =>
      qbnd (oLdI 20 μ v14 x4) fun v15 =>
      if (v15 &&& x2) = 0 then
        if x4 = x3 then
          qbnd (fX0_release x0 x1 x4 μ) fun r17 =>
          fX0_leave_14 n x0 x1 x2 x3 (x4 + (1 : Int32)) r17.2.2
        else
          fX0_leave_14 n x0 x1 x2 x3 (x4 + (1 : Int32)) μ
      else
        qbnd (fX0_release x0 x1 x4 μ) fun r16 =>
        fX0_leave_14 n x0 x1 x2 x3 (x4 + (1 : Int32)) r16.2.2
noncomputable def gX0_leave (a0 : Nat) (a1 : Int32) (μ : qM) : Option qR :=
  let w1 : Int32 := ((15 : Int32) <<< (((4 : Int32) * a1) &&& 31))
  qbnd (oGetP μ 0 a0 0) fun v2 =>
  qbnd (oGetP μ 5 v2 5) fun v3 =>
  qbnd (oLdI 20 μ v3 a1) fun v4 =>
  fX0_leave_14 qfu a0 a1 w1 v4 (0 : Int32) μ
noncomputable def fX0_leave (a0 : Nat) (a1 : Int32) (μ : qM) : Option qR := if (qk μ a0).1 = 0 then gX0_leave a0 a1 μ else none
noncomputable def aX0_leave (l : List Value) (μ : qM) : Option qR := match l with
  | [.ref x0, .int x1] => fX0_leave x0 x1 μ
  | _ => none
noncomputable def cfX0_leave : qF := fun n l μ => if n = 15 then aX0_release l μ else if n = 16 then aX0_takeDue l μ else if n = 17 then aX0_serve (sX0_serve qdp) l μ else none
theorem hcX0_leave {base : Nat} {D : va_G} {ca : Nat → ClassId} {cv : Nat → Value} (hcv : ∀ j, (cv j).category = 1) : ∀ M as μ r, cfX0_leave M as μ = some r → qGood false base D ca cv 1003 M as μ r := by
  intro M as μ r h
  unfold cfX0_leave at h
  split at h
  · rename_i e; subst e; exact (gaX0_release hcv h).mono (by omega)
  split at h
  · rename_i e; subst e; exact (gaX0_takeDue hcv h).mono (by omega)
  split at h
  · rename_i e; subst e; exact (gssX0_serve_X0_serve hcv h).mono (by omega)
  cases h
def jX0_leave_14 (f : Nat → Int32 → Int32 → Int32 → Int32 → qM → Option qR) (L S : List Value) (μ : qM) : Option qR := match L, S with
  | [.ref x0, .int x1, .int x2, .int x3, .int x4], [] => f x0 x1 x2 x3 x4 μ
  | _, _ => none
theorem jeX0_leave_14 {base : Nat} {D : va_G} {ca : Nat → ClassId} {cv : Nat → Value} {d : Nat} {f : Nat → Int32 → Int32 → Int32 → Int32 → qM → Option qR} (hf : ∀ (x0 : Nat) (x1 : Int32) (x2 : Int32) (x3 : Int32) (x4 : Int32) (μ : qM) (r : qR), f x0 x1 x2 x3 x4 μ = some r → qEv false base D ca cv d 13 r 14 [.ref x0, .int x1, .int x2, .int x3, .int x4] [] μ) {L S : List Value} {μ : qM} {r : qR} (h : jX0_leave_14 f L S μ = some r) : qEv false base D ca cv d 13 r 14 L S μ := by
  unfold jX0_leave_14 at h
  split at h
  · exact (hf _ _ _ _ _ _ _ h).le rfl ⟨Or.inr rfl, Or.inr rfl, Or.inr rfl, Or.inr rfl, Or.inr rfl, trivial⟩
  · cases h
def jX0_leave_60 (f : Nat → Int32 → Int32 → qM → Option qR) (L S : List Value) (μ : qM) : Option qR := match L, S with
  | [.ref x0, .int x1, _, _, .int x4], [] => f x0 x1 x4 μ
  | _, _ => none
theorem jeX0_leave_60 {base : Nat} {D : va_G} {ca : Nat → ClassId} {cv : Nat → Value} {d : Nat} {f : Nat → Int32 → Int32 → qM → Option qR} (hf : ∀ (x0 : Nat) (x1 : Int32) (x4 : Int32) (μ : qM) (r : qR), f x0 x1 x4 μ = some r → qEv false base D ca cv d 13 r 60 [.ref x0, .int x1, .null, .null, .int x4] [] μ) {L S : List Value} {μ : qM} {r : qR} (h : jX0_leave_60 f L S μ = some r) : qEv false base D ca cv d 13 r 60 L S μ := by
  unfold jX0_leave_60 at h
  split at h
  · exact (hf _ _ _ _ _ h).le rfl ⟨Or.inr rfl, Or.inr rfl, Or.inl rfl, Or.inl rfl, Or.inr rfl, trivial⟩
  · cases h
set_option maxRecDepth 100000 in
theorem lbX0_leave_60 {base : Nat} {D : va_G} {ca : Nat → ClassId} {cv : Nat → Value} (hcv : ∀ j, (cv j).category = 1) : ∀ (n : Nat) (x0 : Nat) (x1 : Int32) (x4 : Int32) (μ : qM) (r : qR), fX0_leave_60 n x0 x1 x4 μ = some r → qEv false base D ca cv 1004 13 r 60 [.ref x0, .int x1, .null, .null, .int x4] [] μ := by
  intro n
  induction n with
  | zero => intro x0 x1 x4 μ r h; cases (show (none : Option qR) = some r from h)
  | succ n ih =>
    intro x0 x1 x4 μ r h
    exact qblk_ev2 (cf := cfX0_leave) (st := (fun n => qin [14, 60] n)) (K := (fun pc L S μ => if pc = 60 then jX0_leave_60 (fX0_leave_60 n) L S μ else none)) (cd := qcX0_leave) (M := 13) (d0 := 1003) rfl qcok_X0_leave (Nat.le_refl _) (hcX0_leave hcv) (by
    intro pc L S μ r h
    split at h
    · rename_i e; subst e; exact jeX0_leave_60 ih h
    cases h) 400 (pc := 60) (L := [.ref x0, .int x1, .null, .null, .int x4]) (S := []) h
set_option maxRecDepth 100000 in
theorem lbX0_leave_14 {base : Nat} {D : va_G} {ca : Nat → ClassId} {cv : Nat → Value} (hcv : ∀ j, (cv j).category = 1) : ∀ (n : Nat) (x0 : Nat) (x1 : Int32) (x2 : Int32) (x3 : Int32) (x4 : Int32) (μ : qM) (r : qR), fX0_leave_14 n x0 x1 x2 x3 x4 μ = some r → qEv false base D ca cv 1004 13 r 14 [.ref x0, .int x1, .int x2, .int x3, .int x4] [] μ := by
  intro n
  induction n with
  | zero => intro x0 x1 x2 x3 x4 μ r h; cases (show (none : Option qR) = some r from h)
  | succ n ih =>
    intro x0 x1 x2 x3 x4 μ r h
    exact qblk_ev2 (cf := cfX0_leave) (st := (fun n => qin [14, 60] n)) (K := (fun pc L S μ => if pc = 14 then jX0_leave_14 (fX0_leave_14 n) L S μ else if pc = 60 then jX0_leave_60 (fX0_leave_60 qfu) L S μ else none)) (cd := qcX0_leave) (M := 13) (d0 := 1003) rfl qcok_X0_leave (Nat.le_refl _) (hcX0_leave hcv) (by
    intro pc L S μ r h
    split at h
    · rename_i e; subst e; exact jeX0_leave_14 ih h
    split at h
    · rename_i e; subst e; exact jeX0_leave_60 (lbX0_leave_60 hcv qfu) h
    cases h) 400 (pc := 14) (L := [.ref x0, .int x1, .int x2, .int x3, .int x4]) (S := []) h
theorem npX0_leave : (parseMethodDescriptor (qmy 13).desc).map (fun d => d.parameters.length) = some 1 := by decide +kernel
set_option maxRecDepth 100000 in
theorem gdX0_leave {base : Nat} {D : va_G} {ca : Nat → ClassId} {cv : Nat → Value} (hcv : ∀ j, (cv j).category = 1) {a0 : Nat} {a1 : Int32} {μ : qM} {r : qR} (h : fX0_leave a0 a1 μ = some r) : qGood false base D ca cv 1004 13 [.ref a0, .int a1] μ r := by
  unfold fX0_leave at h
  split at h
  · rename_i hk0
    exact qgood_of (by decide) (by omega) hcv (Or.inr ⟨by decide +kernel, hk0⟩) npX0_leave rfl (Nat.le_of_ble_eq_true rfl) rfl (qblk_ev2 (cf := cfX0_leave) (st := (fun n => qin [14, 60] n)) (K := (fun pc L S μ => if pc = 14 then jX0_leave_14 (fX0_leave_14 qfu) L S μ else none)) (cd := qcX0_leave) (M := 13) (d0 := 1003) rfl qcok_X0_leave (Nat.le_refl _) (hcX0_leave hcv) (by
    intro pc L S μ r h
    split at h
    · rename_i e; subst e; exact jeX0_leave_14 (lbX0_leave_14 hcv qfu) h
    cases h) 400 (pc := 0) (L := qent [.ref a0, .int a1] 5) (S := []) h)
  · cases h
theorem gaX0_leave {base : Nat} {D : va_G} {ca : Nat → ClassId} {cv : Nat → Value} (hcv : ∀ j, (cv j).category = 1) {l : List Value} {μ : qM} {r : qR} (h : aX0_leave l μ = some r) : qGood false base D ca cv 1004 13 l μ r := by
  unfold aX0_leave at h
  split at h
  · exact gdX0_leave hcv h
  · cases h
noncomputable def gX0_finish (a0 : Nat) (a1 : Int32) (μ : qM) : Option qR :=
  qbnd (fX7_isOwner a1 μ) fun r1 =>
  if r1.1 = 0 then
    some ((-1 : Int32), 0, r1.2.2)
  else
    qbnd (oGetP r1.2.2 0 a0 0) fun v2 =>
    qbnd (oGetP r1.2.2 5 v2 1) fun v3 =>
    qbnd (oLdI 20 r1.2.2 v3 a1) fun v4 =>
    if v4 = 0 then
      some ((-2 : Int32), 0, r1.2.2)
    else
      qbnd (oGetP r1.2.2 0 a0 0) fun v5 =>
      qbnd (fX5_holdings v5 a1 (0 : Int32) r1.2.2) fun r6 =>
      qbnd (fX0_leave a0 a1 r6.2.2) fun r7 =>
      some (r6.1, 0, r7.2.2)
noncomputable def fX0_finish (a0 : Nat) (a1 : Int32) (μ : qM) : Option qR := if (qk μ a0).1 = 0 then gX0_finish a0 a1 μ else none
noncomputable def aX0_finish (l : List Value) (μ : qM) : Option qR := match l with
  | [.ref x0, .int x1] => fX0_finish x0 x1 μ
  | _ => none
noncomputable def cfX0_finish : qF := fun n l μ => if n = 131 then aX7_isOwner l μ else if n = 58 then aX5_holdings l μ else if n = 13 then aX0_leave l μ else none
theorem hcX0_finish {base : Nat} {D : va_G} {ca : Nat → ClassId} {cv : Nat → Value} (hcv : ∀ j, (cv j).category = 1) : ∀ M as μ r, cfX0_finish M as μ = some r → qGood false base D ca cv 1004 M as μ r := by
  intro M as μ r h
  unfold cfX0_finish at h
  split at h
  · rename_i e; subst e; exact (gaX7_isOwner hcv h).mono (by omega)
  split at h
  · rename_i e; subst e; exact (gaX5_holdings hcv h).mono (by omega)
  split at h
  · rename_i e; subst e; exact (gaX0_leave hcv h).mono (by omega)
  cases h
theorem npX0_finish : (parseMethodDescriptor (qmy 7).desc).map (fun d => d.parameters.length) = some 1 := by decide +kernel
set_option maxRecDepth 100000 in
theorem gdX0_finish {base : Nat} {D : va_G} {ca : Nat → ClassId} {cv : Nat → Value} (hcv : ∀ j, (cv j).category = 1) {a0 : Nat} {a1 : Int32} {μ : qM} {r : qR} (h : fX0_finish a0 a1 μ = some r) : qGood false base D ca cv 1005 7 [.ref a0, .int a1] μ r := by
  unfold fX0_finish at h
  split at h
  · rename_i hk0
    exact qgood_of (by decide) (by omega) hcv (Or.inr ⟨by decide +kernel, hk0⟩) npX0_finish rfl (Nat.le_of_ble_eq_true rfl) rfl (qblk_ev2 (cf := cfX0_finish) (st := (fun n => qin [] n)) (K := (fun pc L S μ => none)) (cd := qcX0_finish) (M := 7) (d0 := 1004) rfl qcok_X0_finish (Nat.le_refl _) (hcX0_finish hcv) (by
    intro pc L S μ r h
    cases h) 400 (pc := 0) (L := qent [.ref a0, .int a1] 3) (S := []) h)
  · cases h
theorem gaX0_finish {base : Nat} {D : va_G} {ca : Nat → ClassId} {cv : Nat → Value} (hcv : ∀ j, (cv j).category = 1) {l : List Value} {μ : qM} {r : qR} (h : aX0_finish l μ = some r) : qGood false base D ca cv 1005 7 l μ r := by
  unfold aX0_finish at h
  split at h
  · exact gdX0_finish hcv h
  · cases h
noncomputable def gX0_collect (a0 : Nat) (a1 : Int32) (a2 : Int32) (μ : qM) : Option qR :=
  qbnd (fX7_isOwner a1 μ) fun r1 =>
  if r1.1 = 0 then
    some ((-1 : Int32), 0, r1.2.2)
  else
    if a2 < 0 then
      some ((-1 : Int32), 0, r1.2.2)
    else
      if a2 < (21 : Int32) then
        qbnd (oGetP r1.2.2 0 a0 0) fun v2 =>
        qbnd (oGetP r1.2.2 5 v2 1) fun v3 =>
        qbnd (oLdI 20 r1.2.2 v3 a1) fun v4 =>
        if v4 = (1 : Int32) then
          qbnd (oGetP r1.2.2 0 a0 0) fun v5 =>
          qbnd (fX5_holdingsBelow v5 a1 a2 r1.2.2) fun r6 =>
          qbnd (fX0_gatherAt (sX0_serve qdp) a0 a1 a2 (0 : Int32) r6.2.2) fun r7 =>
          if r7.1 = 0 then
            some ((-4 : Int32), 0, r7.2.2)
          else
            some (r6.1, 0, r7.2.2)
        else
          qbnd (fX0_idle a0 a1 r1.2.2) fun r8 =>
          some (r8.1, 0, r8.2.2)
      else
        some ((-1 : Int32), 0, r1.2.2)
noncomputable def fX0_collect (a0 : Nat) (a1 : Int32) (a2 : Int32) (μ : qM) : Option qR := if (qk μ a0).1 = 0 then gX0_collect a0 a1 a2 μ else none
noncomputable def aX0_collect (l : List Value) (μ : qM) : Option qR := match l with
  | [.ref x0, .int x1, .int x2] => fX0_collect x0 x1 x2 μ
  | _ => none
noncomputable def cfX0_collect : qF := fun n l μ => if n = 131 then aX7_isOwner l μ else if n = 14 then aX0_idle l μ else if n = 62 then aX5_holdingsBelow l μ else if n = 19 then aX0_gatherAt (sX0_serve qdp) l μ else none
theorem hcX0_collect {base : Nat} {D : va_G} {ca : Nat → ClassId} {cv : Nat → Value} (hcv : ∀ j, (cv j).category = 1) : ∀ M as μ r, cfX0_collect M as μ = some r → qGood false base D ca cv 1001 M as μ r := by
  intro M as μ r h
  unfold cfX0_collect at h
  split at h
  · rename_i e; subst e; exact (gaX7_isOwner hcv h).mono (by omega)
  split at h
  · rename_i e; subst e; exact (gaX0_idle hcv h).mono (by omega)
  split at h
  · rename_i e; subst e; exact (gaX5_holdingsBelow hcv h).mono (by omega)
  split at h
  · rename_i e; subst e; exact (gssX0_serve_X0_gatherAt hcv h).mono (by omega)
  cases h
theorem npX0_collect : (parseMethodDescriptor (qmy 8).desc).map (fun d => d.parameters.length) = some 2 := by decide +kernel
set_option maxRecDepth 100000 in
theorem gdX0_collect {base : Nat} {D : va_G} {ca : Nat → ClassId} {cv : Nat → Value} (hcv : ∀ j, (cv j).category = 1) {a0 : Nat} {a1 : Int32} {a2 : Int32} {μ : qM} {r : qR} (h : fX0_collect a0 a1 a2 μ = some r) : qGood false base D ca cv 1002 8 [.ref a0, .int a1, .int a2] μ r := by
  unfold fX0_collect at h
  split at h
  · rename_i hk0
    exact qgood_of (by decide) (by omega) hcv (Or.inr ⟨by decide +kernel, hk0⟩) npX0_collect rfl (Nat.le_of_ble_eq_true rfl) rfl (qblk_ev2 (cf := cfX0_collect) (st := (fun n => qin [] n)) (K := (fun pc L S μ => none)) (cd := qcX0_collect) (M := 8) (d0 := 1001) rfl qcok_X0_collect (Nat.le_refl _) (hcX0_collect hcv) (by
    intro pc L S μ r h
    cases h) 400 (pc := 0) (L := qent [.ref a0, .int a1, .int a2] 4) (S := []) h)
  · cases h
theorem gaX0_collect {base : Nat} {D : va_G} {ca : Nat → ClassId} {cv : Nat → Value} (hcv : ∀ j, (cv j).category = 1) {l : List Value} {μ : qM} {r : qR} (h : aX0_collect l μ = some r) : qGood false base D ca cv 1002 8 l μ r := by
  unfold aX0_collect at h
  split at h
  · exact gdX0_collect hcv h
  · cases h
noncomputable def fX5_forWhom_37 (k17 : Nat → Int32 → Int32 → Int32 → Int32 → qM → Option qR) (x0 : Nat) (x1 : Int32) (x2 : Int32) (x3 : Int32) (x4 : Int32) (s0 : Int32) (μ : qM) : Option qR :=
  if x4 = x1 then
    k17 x0 x1 x2 x3 (x4 + (1 : Int32)) μ
  else
    if s0 = 0 then
      qbnd (oGetP μ 5 x0 5) fun v1 =>
      qbnd (oLdI 20 μ v1 x4) fun v2 =>
      if v2 = x2 then
        qbnd (fX5_isAhead x0 x4 x1 μ) fun r3 =>
        if r3.1 = 0 then
          k17 x0 x1 x2 x3 (x4 + (1 : Int32)) r3.2.2
        else
          k17 x0 x1 x2 (x3 ||| ((1 : Int32) <<< (x4 &&& 31))) (x4 + (1 : Int32)) r3.2.2
      else
        k17 x0 x1 x2 x3 (x4 + (1 : Int32)) μ
    else
      k17 x0 x1 x2 (x3 ||| ((1 : Int32) <<< (x4 &&& 31))) (x4 + (1 : Int32)) μ
noncomputable def fX5_forWhom_17 : Nat → Nat → Int32 → Int32 → Int32 → Int32 → qM → Option qR
  | 0 => fun _ _ _ _ _ _ => none
  | n + 1 => fun x0 x1 x2 x3 x4 μ =>
    if (8 : Int32) ≤ x4 then
      some (x3, 0, μ)
    else
      qbnd (oGetP μ 5 x0 6) fun v1 =>
      qbnd (oLdI 20 μ v1 x1) fun v2 =>
      qbnd (oTab 1 0 v2) fun v3 =>
      qbnd (fX5_modeAt x0 x4 x2 μ) fun r4 =>
      if ((qush v3 r4.1) &&& (1 : Int32)) = 0 then
        fX5_forWhom_37 (fX5_forWhom_17 n) x0 x1 x2 x3 x4 (1 : Int32) r4.2.2
      else
        fX5_forWhom_37 (fX5_forWhom_17 n) x0 x1 x2 x3 x4 (0 : Int32) r4.2.2
noncomputable def gX5_forWhom (a0 : Nat) (a1 : Int32) (μ : qM) : Option qR :=
  qbnd (oGetP μ 5 a0 1) fun v1 =>
  qbnd (oLdI 20 μ v1 a1) fun v2 =>
  if v2 = (2 : Int32) then
    qbnd (oGetP μ 5 a0 5) fun v3 =>
    qbnd (oLdI 20 μ v3 a1) fun v4 =>
    fX5_forWhom_17 qfu a0 a1 v4 (0 : Int32) (0 : Int32) μ
  else
    some ((0 : Int32), 0, μ)
noncomputable def fX5_forWhom (a0 : Nat) (a1 : Int32) (μ : qM) : Option qR := if (qk μ a0).1 = 5 then gX5_forWhom a0 a1 μ else none
noncomputable def aX5_forWhom (l : List Value) (μ : qM) : Option qR := match l with
  | [.ref x0, .int x1] => fX5_forWhom x0 x1 μ
  | _ => none
noncomputable def cfX5_forWhom : qF := fun n l μ => if n = 54 then aX5_modeAt l μ else if n = 73 then aX5_isAhead l μ else none
theorem hcX5_forWhom {base : Nat} {D : va_G} {ca : Nat → ClassId} {cv : Nat → Value} (hcv : ∀ j, (cv j).category = 1) : ∀ M as μ r, cfX5_forWhom M as μ = some r → qGood false base D ca cv 2 M as μ r := by
  intro M as μ r h
  unfold cfX5_forWhom at h
  split at h
  · rename_i e; subst e; exact (gaX5_modeAt hcv h).mono (by omega)
  split at h
  · rename_i e; subst e; exact (gaX5_isAhead hcv h).mono (by omega)
  cases h
def jX5_forWhom_17 (f : Nat → Int32 → Int32 → Int32 → Int32 → qM → Option qR) (L S : List Value) (μ : qM) : Option qR := match L, S with
  | [.ref x0, .int x1, .int x2, .int x3, .int x4, _], [] => f x0 x1 x2 x3 x4 μ
  | _, _ => none
theorem jeX5_forWhom_17 {base : Nat} {D : va_G} {ca : Nat → ClassId} {cv : Nat → Value} {d : Nat} {f : Nat → Int32 → Int32 → Int32 → Int32 → qM → Option qR} (hf : ∀ (x0 : Nat) (x1 : Int32) (x2 : Int32) (x3 : Int32) (x4 : Int32) (μ : qM) (r : qR), f x0 x1 x2 x3 x4 μ = some r → qEv false base D ca cv d 76 r 17 [.ref x0, .int x1, .int x2, .int x3, .int x4, .null] [] μ) {L S : List Value} {μ : qM} {r : qR} (h : jX5_forWhom_17 f L S μ = some r) : qEv false base D ca cv d 76 r 17 L S μ := by
  unfold jX5_forWhom_17 at h
  split at h
  · exact (hf _ _ _ _ _ _ _ h).le rfl ⟨Or.inr rfl, Or.inr rfl, Or.inr rfl, Or.inr rfl, Or.inr rfl, Or.inl rfl, trivial⟩
  · cases h
def jX5_forWhom_37 (f : Nat → Int32 → Int32 → Int32 → Int32 → Int32 → qM → Option qR) (L S : List Value) (μ : qM) : Option qR := match L, S with
  | [.ref x0, .int x1, .int x2, .int x3, .int x4, _], [.int s0] => f x0 x1 x2 x3 x4 s0 μ
  | _, _ => none
theorem jeX5_forWhom_37 {base : Nat} {D : va_G} {ca : Nat → ClassId} {cv : Nat → Value} {d : Nat} {f : Nat → Int32 → Int32 → Int32 → Int32 → Int32 → qM → Option qR} (hf : ∀ (x0 : Nat) (x1 : Int32) (x2 : Int32) (x3 : Int32) (x4 : Int32) (s0 : Int32) (μ : qM) (r : qR), f x0 x1 x2 x3 x4 s0 μ = some r → qEv false base D ca cv d 76 r 37 [.ref x0, .int x1, .int x2, .int x3, .int x4, .null] [.int s0] μ) {L S : List Value} {μ : qM} {r : qR} (h : jX5_forWhom_37 f L S μ = some r) : qEv false base D ca cv d 76 r 37 L S μ := by
  unfold jX5_forWhom_37 at h
  split at h
  · exact (hf _ _ _ _ _ _ _ _ h).le rfl ⟨Or.inr rfl, Or.inr rfl, Or.inr rfl, Or.inr rfl, Or.inr rfl, Or.inl rfl, trivial⟩
  · cases h
set_option maxRecDepth 100000 in
theorem lbX5_forWhom_37 {base : Nat} {D : va_G} {ca : Nat → ClassId} {cv : Nat → Value} (hcv : ∀ j, (cv j).category = 1) {k17 : Nat → Int32 → Int32 → Int32 → Int32 → qM → Option qR} (hk17 : ∀ (y0 : Nat) (y1 : Int32) (y2 : Int32) (y3 : Int32) (y4 : Int32) (μ : qM) (r : qR), k17 y0 y1 y2 y3 y4 μ = some r → qEv false base D ca cv 3 76 r 17 [.ref y0, .int y1, .int y2, .int y3, .int y4, .null] [] μ) (x0 : Nat) (x1 : Int32) (x2 : Int32) (x3 : Int32) (x4 : Int32) (s0 : Int32) (μ : qM) (r : qR) (h : fX5_forWhom_37 k17 x0 x1 x2 x3 x4 s0 μ = some r) : qEv false base D ca cv 3 76 r 37 [.ref x0, .int x1, .int x2, .int x3, .int x4, .null] [.int s0] μ := by
    exact qblk_ev2 (cf := cfX5_forWhom) (st := (fun n => qin [17, 37] n)) (K := (fun pc L S μ => if pc = 17 then jX5_forWhom_17 k17 L S μ else none)) (cd := qcX5_forWhom) (M := 76) (d0 := 2) rfl qcok_X5_forWhom (Nat.le_refl _) (hcX5_forWhom hcv) (by
    intro pc L S μ r h
    split at h
    · rename_i e; subst e; exact jeX5_forWhom_17 hk17 h
    cases h) 400 (pc := 37) (L := [.ref x0, .int x1, .int x2, .int x3, .int x4, .null]) (S := [.int s0]) h
set_option maxRecDepth 100000 in
theorem lbX5_forWhom_17 {base : Nat} {D : va_G} {ca : Nat → ClassId} {cv : Nat → Value} (hcv : ∀ j, (cv j).category = 1) : ∀ (n : Nat) (x0 : Nat) (x1 : Int32) (x2 : Int32) (x3 : Int32) (x4 : Int32) (μ : qM) (r : qR), fX5_forWhom_17 n x0 x1 x2 x3 x4 μ = some r → qEv false base D ca cv 3 76 r 17 [.ref x0, .int x1, .int x2, .int x3, .int x4, .null] [] μ := by
  intro n
  induction n with
  | zero => intro x0 x1 x2 x3 x4 μ r h; cases (show (none : Option qR) = some r from h)
  | succ n ih =>
    intro x0 x1 x2 x3 x4 μ r h
    exact qblk_ev2 (cf := cfX5_forWhom) (st := (fun n => qin [17, 37] n)) (K := (fun pc L S μ => if pc = 37 then jX5_forWhom_37 (fX5_forWhom_37 (fX5_forWhom_17 n)) L S μ else none)) (cd := qcX5_forWhom) (M := 76) (d0 := 2) rfl qcok_X5_forWhom (Nat.le_refl _) (hcX5_forWhom hcv) (by
    intro pc L S μ r h
    split at h
    · rename_i e; subst e; exact jeX5_forWhom_37 (lbX5_forWhom_37 hcv ih) h
    cases h) 400 (pc := 17) (L := [.ref x0, .int x1, .int x2, .int x3, .int x4, .null]) (S := []) h
theorem npX5_forWhom : (parseMethodDescriptor (qmy 76).desc).map (fun d => d.parameters.length) = some 1 := by decide +kernel
set_option maxRecDepth 100000 in
theorem gdX5_forWhom {base : Nat} {D : va_G} {ca : Nat → ClassId} {cv : Nat → Value} (hcv : ∀ j, (cv j).category = 1) {a0 : Nat} {a1 : Int32} {μ : qM} {r : qR} (h : fX5_forWhom a0 a1 μ = some r) : qGood false base D ca cv 3 76 [.ref a0, .int a1] μ r := by
  unfold fX5_forWhom at h
  split at h
  · rename_i hk0
    exact qgood_of (by decide) (by omega) hcv (Or.inr ⟨by decide +kernel, hk0⟩) npX5_forWhom rfl (Nat.le_of_ble_eq_true rfl) rfl (qblk_ev2 (cf := cfX5_forWhom) (st := (fun n => qin [17, 37] n)) (K := (fun pc L S μ => if pc = 17 then jX5_forWhom_17 (fX5_forWhom_17 qfu) L S μ else none)) (cd := qcX5_forWhom) (M := 76) (d0 := 2) rfl qcok_X5_forWhom (Nat.le_refl _) (hcX5_forWhom hcv) (by
    intro pc L S μ r h
    split at h
    · rename_i e; subst e; exact jeX5_forWhom_17 (lbX5_forWhom_17 hcv qfu) h
    cases h) 400 (pc := 0) (L := qent [.ref a0, .int a1] 6) (S := []) h)
  · cases h
theorem gaX5_forWhom {base : Nat} {D : va_G} {ca : Nat → ClassId} {cv : Nat → Value} (hcv : ∀ j, (cv j).category = 1) {l : List Value} {μ : qM} {r : qR} (h : aX5_forWhom l μ = some r) : qGood false base D ca cv 3 76 l μ r := by
  unfold aX5_forWhom at h
  split at h
  · exact gdX5_forWhom hcv h
  · cases h
noncomputable def fX2_read_29 (k24 : Nat → Int32 → qM → Option qR) : Nat → Nat → Int32 → Int32 → qM → Option qR
  | 0 => fun _ _ _ _ => none
  | n + 1 => fun x0 x2 x3 μ =>
    if (8 : Int32) ≤ x3 then
      k24 x0 (x2 + (1 : Int32)) μ
    else
      qbnd (oGetP μ 2 x0 1) fun v1 =>
      qbnd (oLdI 20 μ v1 x3) fun v2 =>
      if ((qush v2 x2) &&& (1 : Int32)) = 0 then
        fX2_read_29 k24 n x0 x2 (x3 + (1 : Int32)) μ
      else
        qbnd (oGetP μ 2 x0 1) fun v3 =>
        qbnd (oLdI 20 μ v3 x3) fun v4 =>
        qbnd (oGetP μ 2 x0 1) fun v5 =>
        qbnd (oLdI 20 μ v5 x2) fun v6 =>
        qbnd (oStI 20 μ v3 x3 (v4 ||| v6)) fun μ7 =>
        fX2_read_29 k24 n x0 x2 (x3 + (1 : Int32)) μ7
noncomputable def fX2_read_24 : Nat → Nat → Int32 → qM → Option qR
  | 0 => fun _ _ _ => none
  | n + 1 => fun x0 x2 μ =>
    if (8 : Int32) ≤ x2 then
      some (0, 0, μ)
    else
      fX2_read_29 (fX2_read_24 n) qfu x0 x2 (0 : Int32) μ
noncomputable def fX2_read_2 : Nat → Nat → Nat → Int32 → qM → Option qR
  | 0 => fun _ _ _ _ => none
  | n + 1 => fun x0 x1 x2 μ =>
    if (8 : Int32) ≤ x2 then
      fX2_read_24 qfu x0 (0 : Int32) μ
    else
      qbnd (oGetP μ 2 x0 0) fun v1 =>
      qbnd (fX5_forWhom x1 x2 μ) fun r2 =>
      qbnd (oStI 20 r2.2.2 v1 x2 r2.1) fun μ3 =>
      qbnd (oGetP μ3 2 x0 1) fun v4 =>
      qbnd (oGetP μ3 2 x0 0) fun v5 =>
      qbnd (oLdI 20 μ3 v5 x2) fun v6 =>
      qbnd (oStI 20 μ3 v4 x2 v6) fun μ7 =>
      fX2_read_2 n x0 x1 (x2 + (1 : Int32)) μ7
noncomputable def gX2_read (a0 : Nat) (a1 : Nat) (μ : qM) : Option qR :=
  fX2_read_2 qfu a0 a1 (0 : Int32) μ
noncomputable def fX2_read (a0 : Nat) (a1 : Nat) (μ : qM) : Option qR := if (qk μ a0).1 = 2 then gX2_read a0 a1 μ else none
noncomputable def aX2_read (l : List Value) (μ : qM) : Option qR := match l with
  | [.ref x0, .ref x1] => fX2_read x0 x1 μ
  | _ => none
noncomputable def cfX2_read : qF := fun n l μ => if n = 76 then aX5_forWhom l μ else none
theorem hcX2_read {base : Nat} {D : va_G} {ca : Nat → ClassId} {cv : Nat → Value} (hcv : ∀ j, (cv j).category = 1) : ∀ M as μ r, cfX2_read M as μ = some r → qGood false base D ca cv 3 M as μ r := by
  intro M as μ r h
  unfold cfX2_read at h
  split at h
  · rename_i e; subst e; exact (gaX5_forWhom hcv h).mono (by omega)
  cases h
def jX2_read_2 (f : Nat → Nat → Int32 → qM → Option qR) (L S : List Value) (μ : qM) : Option qR := match L, S with
  | [.ref x0, .ref x1, .int x2, _], [] => f x0 x1 x2 μ
  | _, _ => none
theorem jeX2_read_2 {base : Nat} {D : va_G} {ca : Nat → ClassId} {cv : Nat → Value} {d : Nat} {f : Nat → Nat → Int32 → qM → Option qR} (hf : ∀ (x0 : Nat) (x1 : Nat) (x2 : Int32) (μ : qM) (r : qR), f x0 x1 x2 μ = some r → qEv false base D ca cv d 25 r 2 [.ref x0, .ref x1, .int x2, .null] [] μ) {L S : List Value} {μ : qM} {r : qR} (h : jX2_read_2 f L S μ = some r) : qEv false base D ca cv d 25 r 2 L S μ := by
  unfold jX2_read_2 at h
  split at h
  · exact (hf _ _ _ _ _ h).le rfl ⟨Or.inr rfl, Or.inr rfl, Or.inr rfl, Or.inl rfl, trivial⟩
  · cases h
def jX2_read_24 (f : Nat → Int32 → qM → Option qR) (L S : List Value) (μ : qM) : Option qR := match L, S with
  | [.ref x0, _, .int x2, _], [] => f x0 x2 μ
  | _, _ => none
theorem jeX2_read_24 {base : Nat} {D : va_G} {ca : Nat → ClassId} {cv : Nat → Value} {d : Nat} {f : Nat → Int32 → qM → Option qR} (hf : ∀ (x0 : Nat) (x2 : Int32) (μ : qM) (r : qR), f x0 x2 μ = some r → qEv false base D ca cv d 25 r 24 [.ref x0, .null, .int x2, .null] [] μ) {L S : List Value} {μ : qM} {r : qR} (h : jX2_read_24 f L S μ = some r) : qEv false base D ca cv d 25 r 24 L S μ := by
  unfold jX2_read_24 at h
  split at h
  · exact (hf _ _ _ _ h).le rfl ⟨Or.inr rfl, Or.inl rfl, Or.inr rfl, Or.inl rfl, trivial⟩
  · cases h
def jX2_read_29 (f : Nat → Int32 → Int32 → qM → Option qR) (L S : List Value) (μ : qM) : Option qR := match L, S with
  | [.ref x0, _, .int x2, .int x3], [] => f x0 x2 x3 μ
  | _, _ => none
theorem jeX2_read_29 {base : Nat} {D : va_G} {ca : Nat → ClassId} {cv : Nat → Value} {d : Nat} {f : Nat → Int32 → Int32 → qM → Option qR} (hf : ∀ (x0 : Nat) (x2 : Int32) (x3 : Int32) (μ : qM) (r : qR), f x0 x2 x3 μ = some r → qEv false base D ca cv d 25 r 29 [.ref x0, .null, .int x2, .int x3] [] μ) {L S : List Value} {μ : qM} {r : qR} (h : jX2_read_29 f L S μ = some r) : qEv false base D ca cv d 25 r 29 L S μ := by
  unfold jX2_read_29 at h
  split at h
  · exact (hf _ _ _ _ _ h).le rfl ⟨Or.inr rfl, Or.inl rfl, Or.inr rfl, Or.inr rfl, trivial⟩
  · cases h
set_option maxRecDepth 100000 in
theorem lbX2_read_29 {base : Nat} {D : va_G} {ca : Nat → ClassId} {cv : Nat → Value} (hcv : ∀ j, (cv j).category = 1) {k24 : Nat → Int32 → qM → Option qR} (hk24 : ∀ (y0 : Nat) (y2 : Int32) (μ : qM) (r : qR), k24 y0 y2 μ = some r → qEv false base D ca cv 4 25 r 24 [.ref y0, .null, .int y2, .null] [] μ) : ∀ (n : Nat) (x0 : Nat) (x2 : Int32) (x3 : Int32) (μ : qM) (r : qR), fX2_read_29 k24 n x0 x2 x3 μ = some r → qEv false base D ca cv 4 25 r 29 [.ref x0, .null, .int x2, .int x3] [] μ := by
  intro n
  induction n with
  | zero => intro x0 x2 x3 μ r h; cases (show (none : Option qR) = some r from h)
  | succ n ih =>
    intro x0 x2 x3 μ r h
    exact qblk_ev2 (cf := cfX2_read) (st := (fun n => qin [2, 24, 29] n)) (K := (fun pc L S μ => if pc = 24 then jX2_read_24 k24 L S μ else if pc = 29 then jX2_read_29 (fX2_read_29 k24 n) L S μ else none)) (cd := qcX2_read) (M := 25) (d0 := 3) rfl qcok_X2_read (Nat.le_refl _) (hcX2_read hcv) (by
    intro pc L S μ r h
    split at h
    · rename_i e; subst e; exact jeX2_read_24 hk24 h
    split at h
    · rename_i e; subst e; exact jeX2_read_29 ih h
    cases h) 400 (pc := 29) (L := [.ref x0, .null, .int x2, .int x3]) (S := []) h
set_option maxRecDepth 100000 in
theorem lbX2_read_24 {base : Nat} {D : va_G} {ca : Nat → ClassId} {cv : Nat → Value} (hcv : ∀ j, (cv j).category = 1) : ∀ (n : Nat) (x0 : Nat) (x2 : Int32) (μ : qM) (r : qR), fX2_read_24 n x0 x2 μ = some r → qEv false base D ca cv 4 25 r 24 [.ref x0, .null, .int x2, .null] [] μ := by
  intro n
  induction n with
  | zero => intro x0 x2 μ r h; cases (show (none : Option qR) = some r from h)
  | succ n ih =>
    intro x0 x2 μ r h
    exact qblk_ev2 (cf := cfX2_read) (st := (fun n => qin [2, 24, 29] n)) (K := (fun pc L S μ => if pc = 29 then jX2_read_29 (fX2_read_29 (fX2_read_24 n) qfu) L S μ else none)) (cd := qcX2_read) (M := 25) (d0 := 3) rfl qcok_X2_read (Nat.le_refl _) (hcX2_read hcv) (by
    intro pc L S μ r h
    split at h
    · rename_i e; subst e; exact jeX2_read_29 (lbX2_read_29 hcv ih qfu) h
    cases h) 400 (pc := 24) (L := [.ref x0, .null, .int x2, .null]) (S := []) h
set_option maxRecDepth 100000 in
theorem lbX2_read_2 {base : Nat} {D : va_G} {ca : Nat → ClassId} {cv : Nat → Value} (hcv : ∀ j, (cv j).category = 1) : ∀ (n : Nat) (x0 : Nat) (x1 : Nat) (x2 : Int32) (μ : qM) (r : qR), fX2_read_2 n x0 x1 x2 μ = some r → qEv false base D ca cv 4 25 r 2 [.ref x0, .ref x1, .int x2, .null] [] μ := by
  intro n
  induction n with
  | zero => intro x0 x1 x2 μ r h; cases (show (none : Option qR) = some r from h)
  | succ n ih =>
    intro x0 x1 x2 μ r h
    exact qblk_ev2 (cf := cfX2_read) (st := (fun n => qin [2, 24, 29] n)) (K := (fun pc L S μ => if pc = 2 then jX2_read_2 (fX2_read_2 n) L S μ else if pc = 24 then jX2_read_24 (fX2_read_24 qfu) L S μ else none)) (cd := qcX2_read) (M := 25) (d0 := 3) rfl qcok_X2_read (Nat.le_refl _) (hcX2_read hcv) (by
    intro pc L S μ r h
    split at h
    · rename_i e; subst e; exact jeX2_read_2 ih h
    split at h
    · rename_i e; subst e; exact jeX2_read_24 (lbX2_read_24 hcv qfu) h
    cases h) 400 (pc := 2) (L := [.ref x0, .ref x1, .int x2, .null]) (S := []) h
theorem npX2_read : (parseMethodDescriptor (qmy 25).desc).map (fun d => d.parameters.length) = some 1 := by decide +kernel
set_option maxRecDepth 100000 in
theorem gdX2_read {base : Nat} {D : va_G} {ca : Nat → ClassId} {cv : Nat → Value} (hcv : ∀ j, (cv j).category = 1) {a0 : Nat} {a1 : Nat} {μ : qM} {r : qR} (h : fX2_read a0 a1 μ = some r) : qGood false base D ca cv 4 25 [.ref a0, .ref a1] μ r := by
  unfold fX2_read at h
  split at h
  · rename_i hk0
    exact qgood_of (by decide) (by omega) hcv (Or.inr ⟨by decide +kernel, hk0⟩) npX2_read rfl (Nat.le_of_ble_eq_true rfl) rfl (qblk_ev2 (cf := cfX2_read) (st := (fun n => qin [2, 24, 29] n)) (K := (fun pc L S μ => if pc = 2 then jX2_read_2 (fX2_read_2 qfu) L S μ else none)) (cd := qcX2_read) (M := 25) (d0 := 3) rfl qcok_X2_read (Nat.le_refl _) (hcX2_read hcv) (by
    intro pc L S μ r h
    split at h
    · rename_i e; subst e; exact jeX2_read_2 (lbX2_read_2 hcv qfu) h
    cases h) 400 (pc := 0) (L := qent [.ref a0, .ref a1] 4) (S := []) h)
  · cases h
theorem gaX2_read {base : Nat} {D : va_G} {ca : Nat → ClassId} {cv : Nat → Value} (hcv : ∀ j, (cv j).category = 1) {l : List Value} {μ : qM} {r : qR} (h : aX2_read l μ = some r) : qGood false base D ca cv 4 25 l μ r := by
  unfold aX2_read at h
  split at h
  · exact gdX2_read hcv h
  · cases h
noncomputable def fX2_inRings_4 : Nat → Nat → Int32 → Int32 → qM → Option qR
  | 0 => fun _ _ _ _ => none
  | n + 1 => fun x0 x1 x2 μ =>
    if (8 : Int32) ≤ x2 then
      some (x1, 0, μ)
    else
      qbnd (oGetP μ 2 x0 1) fun v1 =>
      qbnd (oLdI 20 μ v1 x2) fun v2 =>
      let w3 : Int32 := (x1 ||| (v2 &&& ((1 : Int32) <<< (x2 &&& 31))))
      fX2_inRings_4 n x0 w3 (x2 + (1 : Int32)) μ
noncomputable def gX2_inRings (a0 : Nat) (μ : qM) : Option qR :=
  fX2_inRings_4 qfu a0 (0 : Int32) (0 : Int32) μ
noncomputable def fX2_inRings (a0 : Nat) (μ : qM) : Option qR := if (qk μ a0).1 = 2 then gX2_inRings a0 μ else none
noncomputable def aX2_inRings (l : List Value) (μ : qM) : Option qR := match l with
  | [.ref x0] => fX2_inRings x0 μ
  | _ => none
noncomputable def cfX2_inRings : qF := fun n l μ => none
theorem hcX2_inRings {base : Nat} {D : va_G} {ca : Nat → ClassId} {cv : Nat → Value} (hcv : ∀ j, (cv j).category = 1) : ∀ M as μ r, cfX2_inRings M as μ = some r → qGood false base D ca cv 0 M as μ r := by
  intro M as μ r h
  cases h
def jX2_inRings_4 (f : Nat → Int32 → Int32 → qM → Option qR) (L S : List Value) (μ : qM) : Option qR := match L, S with
  | [.ref x0, .int x1, .int x2], [] => f x0 x1 x2 μ
  | _, _ => none
theorem jeX2_inRings_4 {base : Nat} {D : va_G} {ca : Nat → ClassId} {cv : Nat → Value} {d : Nat} {f : Nat → Int32 → Int32 → qM → Option qR} (hf : ∀ (x0 : Nat) (x1 : Int32) (x2 : Int32) (μ : qM) (r : qR), f x0 x1 x2 μ = some r → qEv false base D ca cv d 28 r 4 [.ref x0, .int x1, .int x2] [] μ) {L S : List Value} {μ : qM} {r : qR} (h : jX2_inRings_4 f L S μ = some r) : qEv false base D ca cv d 28 r 4 L S μ := by
  unfold jX2_inRings_4 at h
  split at h
  · exact (hf _ _ _ _ _ h).le rfl ⟨Or.inr rfl, Or.inr rfl, Or.inr rfl, trivial⟩
  · cases h
set_option maxRecDepth 100000 in
theorem lbX2_inRings_4 {base : Nat} {D : va_G} {ca : Nat → ClassId} {cv : Nat → Value} (hcv : ∀ j, (cv j).category = 1) : ∀ (n : Nat) (x0 : Nat) (x1 : Int32) (x2 : Int32) (μ : qM) (r : qR), fX2_inRings_4 n x0 x1 x2 μ = some r → qEv false base D ca cv 1 28 r 4 [.ref x0, .int x1, .int x2] [] μ := by
  intro n
  induction n with
  | zero => intro x0 x1 x2 μ r h; cases (show (none : Option qR) = some r from h)
  | succ n ih =>
    intro x0 x1 x2 μ r h
    exact qblk_ev2 (cf := cfX2_inRings) (st := (fun n => qin [4] n)) (K := (fun pc L S μ => if pc = 4 then jX2_inRings_4 (fX2_inRings_4 n) L S μ else none)) (cd := qcX2_inRings) (M := 28) (d0 := 0) rfl qcok_X2_inRings (Nat.le_refl _) (hcX2_inRings hcv) (by
    intro pc L S μ r h
    split at h
    · rename_i e; subst e; exact jeX2_inRings_4 ih h
    cases h) 400 (pc := 4) (L := [.ref x0, .int x1, .int x2]) (S := []) h
theorem npX2_inRings : (parseMethodDescriptor (qmy 28).desc).map (fun d => d.parameters.length) = some 0 := by decide +kernel
set_option maxRecDepth 100000 in
theorem gdX2_inRings {base : Nat} {D : va_G} {ca : Nat → ClassId} {cv : Nat → Value} (hcv : ∀ j, (cv j).category = 1) {a0 : Nat} {μ : qM} {r : qR} (h : fX2_inRings a0 μ = some r) : qGood false base D ca cv 1 28 [.ref a0] μ r := by
  unfold fX2_inRings at h
  split at h
  · rename_i hk0
    exact qgood_of (by decide) (by omega) hcv (Or.inr ⟨by decide +kernel, hk0⟩) npX2_inRings rfl (Nat.le_of_ble_eq_true rfl) rfl (qblk_ev2 (cf := cfX2_inRings) (st := (fun n => qin [4] n)) (K := (fun pc L S μ => if pc = 4 then jX2_inRings_4 (fX2_inRings_4 qfu) L S μ else none)) (cd := qcX2_inRings) (M := 28) (d0 := 0) rfl qcok_X2_inRings (Nat.le_refl _) (hcX2_inRings hcv) (by
    intro pc L S μ r h
    split at h
    · rename_i e; subst e; exact jeX2_inRings_4 (lbX2_inRings_4 hcv qfu) h
    cases h) 400 (pc := 0) (L := qent [.ref a0] 3) (S := []) h)
  · cases h
theorem gaX2_inRings {base : Nat} {D : va_G} {ca : Nat → ClassId} {cv : Nat → Value} (hcv : ∀ j, (cv j).category = 1) {l : List Value} {μ : qM} {r : qR} (h : aX2_inRings l μ = some r) : qGood false base D ca cv 1 28 l μ r := by
  unfold aX2_inRings at h
  split at h
  · exact gdX2_inRings hcv h
  · cases h
noncomputable def fX2_waiters_4 : Nat → Nat → Int32 → Int32 → Int32 → qM → Option qR
  | 0 => fun _ _ _ _ _ => none
  | n + 1 => fun x0 x1 x2 x3 μ =>
    if (8 : Int32) ≤ x3 then
      some (x2, 0, μ)
    else
      qbnd (oGetP μ 2 x0 0) fun v1 =>
      qbnd (oLdI 20 μ v1 x3) fun v2 =>
      fX2_waiters_4 n x0 x1 (x2 + ((qush v2 x1) &&& (1 : Int32))) (x3 + (1 : Int32)) μ
noncomputable def gX2_waiters (a0 : Nat) (a1 : Int32) (μ : qM) : Option qR :=
  fX2_waiters_4 qfu a0 a1 (0 : Int32) (0 : Int32) μ
noncomputable def fX2_waiters (a0 : Nat) (a1 : Int32) (μ : qM) : Option qR := if (qk μ a0).1 = 2 then gX2_waiters a0 a1 μ else none
noncomputable def aX2_waiters (l : List Value) (μ : qM) : Option qR := match l with
  | [.ref x0, .int x1] => fX2_waiters x0 x1 μ
  | _ => none
noncomputable def cfX2_waiters : qF := fun n l μ => none
theorem hcX2_waiters {base : Nat} {D : va_G} {ca : Nat → ClassId} {cv : Nat → Value} (hcv : ∀ j, (cv j).category = 1) : ∀ M as μ r, cfX2_waiters M as μ = some r → qGood false base D ca cv 0 M as μ r := by
  intro M as μ r h
  cases h
def jX2_waiters_4 (f : Nat → Int32 → Int32 → Int32 → qM → Option qR) (L S : List Value) (μ : qM) : Option qR := match L, S with
  | [.ref x0, .int x1, .int x2, .int x3], [] => f x0 x1 x2 x3 μ
  | _, _ => none
theorem jeX2_waiters_4 {base : Nat} {D : va_G} {ca : Nat → ClassId} {cv : Nat → Value} {d : Nat} {f : Nat → Int32 → Int32 → Int32 → qM → Option qR} (hf : ∀ (x0 : Nat) (x1 : Int32) (x2 : Int32) (x3 : Int32) (μ : qM) (r : qR), f x0 x1 x2 x3 μ = some r → qEv false base D ca cv d 26 r 4 [.ref x0, .int x1, .int x2, .int x3] [] μ) {L S : List Value} {μ : qM} {r : qR} (h : jX2_waiters_4 f L S μ = some r) : qEv false base D ca cv d 26 r 4 L S μ := by
  unfold jX2_waiters_4 at h
  split at h
  · exact (hf _ _ _ _ _ _ h).le rfl ⟨Or.inr rfl, Or.inr rfl, Or.inr rfl, Or.inr rfl, trivial⟩
  · cases h
set_option maxRecDepth 100000 in
theorem lbX2_waiters_4 {base : Nat} {D : va_G} {ca : Nat → ClassId} {cv : Nat → Value} (hcv : ∀ j, (cv j).category = 1) : ∀ (n : Nat) (x0 : Nat) (x1 : Int32) (x2 : Int32) (x3 : Int32) (μ : qM) (r : qR), fX2_waiters_4 n x0 x1 x2 x3 μ = some r → qEv false base D ca cv 1 26 r 4 [.ref x0, .int x1, .int x2, .int x3] [] μ := by
  intro n
  induction n with
  | zero => intro x0 x1 x2 x3 μ r h; cases (show (none : Option qR) = some r from h)
  | succ n ih =>
    intro x0 x1 x2 x3 μ r h
    exact qblk_ev2 (cf := cfX2_waiters) (st := (fun n => qin [4] n)) (K := (fun pc L S μ => if pc = 4 then jX2_waiters_4 (fX2_waiters_4 n) L S μ else none)) (cd := qcX2_waiters) (M := 26) (d0 := 0) rfl qcok_X2_waiters (Nat.le_refl _) (hcX2_waiters hcv) (by
    intro pc L S μ r h
    split at h
    · rename_i e; subst e; exact jeX2_waiters_4 ih h
    cases h) 400 (pc := 4) (L := [.ref x0, .int x1, .int x2, .int x3]) (S := []) h
theorem npX2_waiters : (parseMethodDescriptor (qmy 26).desc).map (fun d => d.parameters.length) = some 1 := by decide +kernel
set_option maxRecDepth 100000 in
theorem gdX2_waiters {base : Nat} {D : va_G} {ca : Nat → ClassId} {cv : Nat → Value} (hcv : ∀ j, (cv j).category = 1) {a0 : Nat} {a1 : Int32} {μ : qM} {r : qR} (h : fX2_waiters a0 a1 μ = some r) : qGood false base D ca cv 1 26 [.ref a0, .int a1] μ r := by
  unfold fX2_waiters at h
  split at h
  · rename_i hk0
    exact qgood_of (by decide) (by omega) hcv (Or.inr ⟨by decide +kernel, hk0⟩) npX2_waiters rfl (Nat.le_of_ble_eq_true rfl) rfl (qblk_ev2 (cf := cfX2_waiters) (st := (fun n => qin [4] n)) (K := (fun pc L S μ => if pc = 4 then jX2_waiters_4 (fX2_waiters_4 qfu) L S μ else none)) (cd := qcX2_waiters) (M := 26) (d0 := 0) rfl qcok_X2_waiters (Nat.le_refl _) (hcX2_waiters hcv) (by
    intro pc L S μ r h
    split at h
    · rename_i e; subst e; exact jeX2_waiters_4 (lbX2_waiters_4 hcv qfu) h
    cases h) 400 (pc := 0) (L := qent [.ref a0, .int a1] 4) (S := []) h)
  · cases h
theorem gaX2_waiters {base : Nat} {D : va_G} {ca : Nat → ClassId} {cv : Nat → Value} (hcv : ∀ j, (cv j).category = 1) {l : List Value} {μ : qM} {r : qR} (h : aX2_waiters l μ = some r) : qGood false base D ca cv 1 26 l μ r := by
  unfold aX2_waiters at h
  split at h
  · exact gdX2_waiters hcv h
  · cases h
noncomputable def fX4_rankOf (a0 : Int32) (μ : qM) : Option qR :=
  if a0 = (42 : Int32) then
    some ((3 : Int32), 0, μ)
  else
  if a0 = (43 : Int32) then
    some ((2 : Int32), 0, μ)
  else
  if a0 = (45 : Int32) then
    some ((2 : Int32), 0, μ)
  else
  if a0 = (47 : Int32) then
    some ((3 : Int32), 0, μ)
  else
  if a0 = (60 : Int32) then
    some ((1 : Int32), 0, μ)
  else
  if a0 = (61 : Int32) then
    some ((1 : Int32), 0, μ)
  else
  if a0 = (62 : Int32) then
    some ((1 : Int32), 0, μ)
  else
  if a0 = (256 : Int32) then
    some ((4 : Int32), 0, μ)
  else
    some ((0 : Int32), 0, μ)
noncomputable def aX4_rankOf (l : List Value) (μ : qM) : Option qR := match l with
  | [.int x0] => fX4_rankOf x0 μ
  | _ => none
noncomputable def cfX4_rankOf : qF := fun n l μ => none
theorem hcX4_rankOf {base : Nat} {D : va_G} {ca : Nat → ClassId} {cv : Nat → Value} (hcv : ∀ j, (cv j).category = 1) : ∀ M as μ r, cfX4_rankOf M as μ = some r → qGood false base D ca cv 0 M as μ r := by
  intro M as μ r h
  cases h
theorem npX4_rankOf : (parseMethodDescriptor (qmy 50).desc).map (fun d => d.parameters.length) = some 1 := by decide +kernel
set_option maxRecDepth 100000 in
theorem gdX4_rankOf {base : Nat} {D : va_G} {ca : Nat → ClassId} {cv : Nat → Value} (hcv : ∀ j, (cv j).category = 1) {a0 : Int32} {μ : qM} {r : qR} (h : fX4_rankOf a0 μ = some r) : qGood false base D ca cv 1 50 [.int a0] μ r := by
  exact qgood_of (by decide) (by omega) hcv (Or.inl rfl) npX4_rankOf rfl (Nat.le_of_ble_eq_true rfl) rfl (qblk_ev2 (cf := cfX4_rankOf) (st := (fun n => qin [] n)) (K := (fun pc L S μ => none)) (cd := qcX4_rankOf) (M := 50) (d0 := 0) rfl qcok_X4_rankOf (Nat.le_refl _) (hcX4_rankOf hcv) (by
    intro pc L S μ r h
    cases h) 400 (pc := 0) (L := qent [.int a0] 1) (S := []) h)
theorem gaX4_rankOf {base : Nat} {D : va_G} {ca : Nat → ClassId} {cv : Nat → Value} (hcv : ∀ j, (cv j).category = 1) {l : List Value} {μ : qM} {r : qR} (h : aX4_rankOf l μ = some r) : qGood false base D ca cv 1 50 l μ r := by
  unfold aX4_rankOf at h
  split at h
  · exact gdX4_rankOf hcv h
  · cases h
noncomputable def fX4_reckon (a0 : Int32) (a1 : Int32) (a2 : Int32) (μ : qM) : Option qR :=
  if a0 = (42 : Int32) then
    some ((a1 * a2), 0, μ)
  else
  if a0 = (43 : Int32) then
    some ((a1 + a2), 0, μ)
  else
  if a0 = (45 : Int32) then
    some ((a1 - a2), 0, μ)
  else
  if a0 = (60 : Int32) then
    if a2 ≤ a1 then
      some ((0 : Int32), 0, μ)
    else
      some ((1 : Int32), 0, μ)
  else
  if a0 = (61 : Int32) then
    if a1 = a2 then
      some ((1 : Int32), 0, μ)
    else
      some ((0 : Int32), 0, μ)
  else
  if a0 = (62 : Int32) then
    if a1 ≤ a2 then
      some ((0 : Int32), 0, μ)
    else
      some ((1 : Int32), 0, μ)
  else
    if a2 = 0 then
      some ((0 : Int32), 0, μ)
    else
      if a2 = 0 then none else
      some ((a1 / a2), 0, μ)
noncomputable def aX4_reckon (l : List Value) (μ : qM) : Option qR := match l with
  | [.int x0, .int x1, .int x2] => fX4_reckon x0 x1 x2 μ
  | _ => none
noncomputable def cfX4_reckon : qF := fun n l μ => none
theorem hcX4_reckon {base : Nat} {D : va_G} {ca : Nat → ClassId} {cv : Nat → Value} (hcv : ∀ j, (cv j).category = 1) : ∀ M as μ r, cfX4_reckon M as μ = some r → qGood false base D ca cv 0 M as μ r := by
  intro M as μ r h
  cases h
theorem npX4_reckon : (parseMethodDescriptor (qmy 49).desc).map (fun d => d.parameters.length) = some 3 := by decide +kernel
set_option maxRecDepth 100000 in
theorem gdX4_reckon {base : Nat} {D : va_G} {ca : Nat → ClassId} {cv : Nat → Value} (hcv : ∀ j, (cv j).category = 1) {a0 : Int32} {a1 : Int32} {a2 : Int32} {μ : qM} {r : qR} (h : fX4_reckon a0 a1 a2 μ = some r) : qGood false base D ca cv 1 49 [.int a0, .int a1, .int a2] μ r := by
  exact qgood_of (by decide) (by omega) hcv (Or.inl rfl) npX4_reckon rfl (Nat.le_of_ble_eq_true rfl) rfl (qblk_ev2 (cf := cfX4_reckon) (st := (fun n => qin [] n)) (K := (fun pc L S μ => none)) (cd := qcX4_reckon) (M := 49) (d0 := 0) rfl qcok_X4_reckon (Nat.le_refl _) (hcX4_reckon hcv) (by
    intro pc L S μ r h
    cases h) 400 (pc := 0) (L := qent [.int a0, .int a1, .int a2] 3) (S := []) h)
theorem gaX4_reckon {base : Nat} {D : va_G} {ca : Nat → ClassId} {cv : Nat → Value} (hcv : ∀ j, (cv j).category = 1) {l : List Value} {μ : qM} {r : qR} (h : aX4_reckon l μ = some r) : qGood false base D ca cv 1 49 l μ r := by
  unfold aX4_reckon at h
  split at h
  · exact gdX4_reckon hcv h
  · cases h

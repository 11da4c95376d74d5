/-! FUNCTIONS out of the codes, and that the machine does as they do, 5 (printed by gen/emit6.py) -/
noncomputable def fX8_putsBy_2 : Nat → Nat → Int32 → qM → Option qR
  | 0 => fun _ _ _ => none
  | n + 1 => fun x0 x1 μ =>
    if (755 : Int32) ≤ x1 then
      some (0, 0, μ)
    else
      qbnd (oGetP μ 8 x0 19) fun v1 =>
      qbnd (oGetI μ 8 x0 18) fun v2 =>
      qbnd (oGetP μ 8 x0 14) fun v3 =>
      qbnd (oLdI 20 μ v3 x1) fun v4 =>
      qbnd (oStI 20 μ v1 (((755 : Int32) * v2) + x1) v4) fun μ5 =>
      fX8_putsBy_2 n x0 (x1 + (1 : Int32)) μ5
noncomputable def gX8_putsBy (a0 : Nat) (μ : qM) : Option qR :=
  fX8_putsBy_2 qfu a0 (0 : Int32) μ
noncomputable def fX8_putsBy (a0 : Nat) (μ : qM) : Option qR := if (qk μ a0).1 = 8 then gX8_putsBy a0 μ else none
noncomputable def aX8_putsBy (l : List Value) (μ : qM) : Option qR := match l with
  | [.ref x0] => fX8_putsBy x0 μ
  | _ => none
noncomputable def cfX8_putsBy : qF := fun n l μ => none
theorem hcX8_putsBy {base : Nat} {D : va_G} {ca : Nat → ClassId} {cv : Nat → Value} (hcv : ∀ j, (cv j).category = 1) : ∀ M as μ r, cfX8_putsBy M as μ = some r → qGood false base D ca cv 0 M as μ r := by
  intro M as μ r h
  cases h
def jX8_putsBy_2 (f : Nat → Int32 → qM → Option qR) (L S : List Value) (μ : qM) : Option qR := match L, S with
  | [.ref x0, .int x1], [] => f x0 x1 μ
  | _, _ => none
theorem jeX8_putsBy_2 {base : Nat} {D : va_G} {ca : Nat → ClassId} {cv : Nat → Value} {d : Nat} {f : Nat → Int32 → qM → Option qR} (hf : ∀ (x0 : Nat) (x1 : Int32) (μ : qM) (r : qR), f x0 x1 μ = some r → qEv false base D ca cv d 216 r 2 [.ref x0, .int x1] [] μ) {L S : List Value} {μ : qM} {r : qR} (h : jX8_putsBy_2 f L S μ = some r) : qEv false base D ca cv d 216 r 2 L S μ := by
  unfold jX8_putsBy_2 at h
  split at h
  · exact (hf _ _ _ _ h).le rfl ⟨Or.inr rfl, Or.inr rfl, trivial⟩
  · cases h
set_option maxRecDepth 100000 in
theorem lbX8_putsBy_2 {base : Nat} {D : va_G} {ca : Nat → ClassId} {cv : Nat → Value} (hcv : ∀ j, (cv j).category = 1) : ∀ (n : Nat) (x0 : Nat) (x1 : Int32) (μ : qM) (r : qR), fX8_putsBy_2 n x0 x1 μ = some r → qEv false base D ca cv 1 216 r 2 [.ref x0, .int x1] [] μ := by
  intro n
  induction n with
  | zero => intro x0 x1 μ r h; cases (show (none : Option qR) = some r from h)
  | succ n ih =>
    intro x0 x1 μ r h
    exact qblk_ev2 (cf := cfX8_putsBy) (st := (fun n => qin [2] n)) (K := (fun pc L S μ => if pc = 2 then jX8_putsBy_2 (fX8_putsBy_2 n) L S μ else none)) (cd := qcX8_putsBy) (M := 216) (d0 := 0) rfl qcok_X8_putsBy (Nat.le_refl _) (hcX8_putsBy hcv) (by
    intro pc L S μ r h
    split at h
    · rename_i e; subst e; exact jeX8_putsBy_2 ih h
    cases h) 400 (pc := 2) (L := [.ref x0, .int x1]) (S := []) h
theorem npX8_putsBy : (parseMethodDescriptor (qmy 216).desc).map (fun d => d.parameters.length) = some 0 := by decide +kernel
set_option maxRecDepth 100000 in
theorem gdX8_putsBy {base : Nat} {D : va_G} {ca : Nat → ClassId} {cv : Nat → Value} (hcv : ∀ j, (cv j).category = 1) {a0 : Nat} {μ : qM} {r : qR} (h : fX8_putsBy a0 μ = some r) : qGood false base D ca cv 1 216 [.ref a0] μ r := by
  unfold fX8_putsBy at h
  split at h
  · rename_i hk0
    exact qgood_of (by decide) (by omega) hcv (Or.inr ⟨by decide +kernel, hk0⟩) npX8_putsBy rfl (Nat.le_of_ble_eq_true rfl) rfl (qblk_ev2 (cf := cfX8_putsBy) (st := (fun n => qin [2] n)) (K := (fun pc L S μ => if pc = 2 then jX8_putsBy_2 (fX8_putsBy_2 qfu) L S μ else none)) (cd := qcX8_putsBy) (M := 216) (d0 := 0) rfl qcok_X8_putsBy (Nat.le_refl _) (hcX8_putsBy hcv) (by
    intro pc L S μ r h
    split at h
    · rename_i e; subst e; exact jeX8_putsBy_2 (lbX8_putsBy_2 hcv qfu) h
    cases h) 400 (pc := 0) (L := qent [.ref a0] 2) (S := []) h)
  · cases h
theorem gaX8_putsBy {base : Nat} {D : va_G} {ca : Nat → ClassId} {cv : Nat → Value} (hcv : ∀ j, (cv j).category = 1) {l : List Value} {μ : qM} {r : qR} (h : aX8_putsBy l μ = some r) : qGood false base D ca cv 1 216 l μ r := by
  unfold aX8_putsBy at h
  split at h
  · exact gdX8_putsBy hcv h
  · cases h
noncomputable def fX8_adds_12 : Nat → Nat → Int32 → Int32 → qM → Option qR
  | 0 => fun _ _ _ _ => none
  | n + 1 => fun x0 x1 x2 μ =>
    if (7550 : Int32) ≤ x2 then
      qbnd (oGetI μ 8 x0 18) fun v1 =>
      qbnd (oPutI μ 8 x0 18 (v1 - (1 : Int32))) fun μ2 =>
      some (x1, 0, μ2)
    else
      qbnd (oGetP μ 8 x0 19) fun v3 =>
      qbnd (oGetP μ 8 x0 19) fun v4 =>
      qbnd (oLdI 20 μ v4 (x2 + (755 : Int32))) fun v5 =>
      qbnd (oStI 20 μ v3 x2 v5) fun μ6 =>
      fX8_adds_12 n x0 x1 (x2 + (1 : Int32)) μ6
noncomputable def gX8_adds (a0 : Nat) (a1 : Int32) (μ : qM) : Option qR :=
  qbnd (oGetI μ 8 a0 18) fun v1 =>
  qbnd (oPutI μ 8 a0 18 (v1 + (1 : Int32))) fun μ2 =>
  qbnd (oGetI μ2 8 a0 18) fun v3 =>
  if v3 ≤ (10 : Int32) then
    some (a1, 0, μ2)
  else
    fX8_adds_12 qfu a0 a1 (0 : Int32) μ2
noncomputable def fX8_adds (a0 : Nat) (a1 : Int32) (μ : qM) : Option qR := if (qk μ a0).1 = 8 then gX8_adds a0 a1 μ else none
noncomputable def aX8_adds (l : List Value) (μ : qM) : Option qR := match l with
  | [.ref x0, .int x1] => fX8_adds x0 x1 μ
  | _ => none
noncomputable def cfX8_adds : qF := fun n l μ => none
theorem hcX8_adds {base : Nat} {D : va_G} {ca : Nat → ClassId} {cv : Nat → Value} (hcv : ∀ j, (cv j).category = 1) : ∀ M as μ r, cfX8_adds M as μ = some r → qGood false base D ca cv 0 M as μ r := by
  intro M as μ r h
  cases h
def jX8_adds_12 (f : Nat → Int32 → Int32 → qM → Option qR) (L S : List Value) (μ : qM) : Option qR := match L, S with
  | [.ref x0, .int x1, .int x2], [] => f x0 x1 x2 μ
  | _, _ => none
theorem jeX8_adds_12 {base : Nat} {D : va_G} {ca : Nat → ClassId} {cv : Nat → Value} {d : Nat} {f : Nat → Int32 → Int32 → qM → Option qR} (hf : ∀ (x0 : Nat) (x1 : Int32) (x2 : Int32) (μ : qM) (r : qR), f x0 x1 x2 μ = some r → qEv false base D ca cv d 217 r 12 [.ref x0, .int x1, .int x2] [] μ) {L S : List Value} {μ : qM} {r : qR} (h : jX8_adds_12 f L S μ = some r) : qEv false base D ca cv d 217 r 12 L S μ := by
  unfold jX8_adds_12 at h
  split at h
  · exact (hf _ _ _ _ _ h).le rfl ⟨Or.inr rfl, Or.inr rfl, Or.inr rfl, trivial⟩
  · cases h
set_option maxRecDepth 100000 in
theorem lbX8_adds_12 {base : Nat} {D : va_G} {ca : Nat → ClassId} {cv : Nat → Value} (hcv : ∀ j, (cv j).category = 1) : ∀ (n : Nat) (x0 : Nat) (x1 : Int32) (x2 : Int32) (μ : qM) (r : qR), fX8_adds_12 n x0 x1 x2 μ = some r → qEv false base D ca cv 1 217 r 12 [.ref x0, .int x1, .int x2] [] μ := by
  intro n
  induction n with
  | zero => intro x0 x1 x2 μ r h; cases (show (none : Option qR) = some r from h)
  | succ n ih =>
    intro x0 x1 x2 μ r h
    exact qblk_ev2 (cf := cfX8_adds) (st := (fun n => qin [12] n)) (K := (fun pc L S μ => if pc = 12 then jX8_adds_12 (fX8_adds_12 n) L S μ else none)) (cd := qcX8_adds) (M := 217) (d0 := 0) rfl qcok_X8_adds (Nat.le_refl _) (hcX8_adds hcv) (by
    intro pc L S μ r h
    split at h
    · rename_i e; subst e; exact jeX8_adds_12 ih h
    cases h) 400 (pc := 12) (L := [.ref x0, .int x1, .int x2]) (S := []) h
theorem npX8_adds : (parseMethodDescriptor (qmy 217).desc).map (fun d => d.parameters.length) = some 1 := by decide +kernel
set_option maxRecDepth 100000 in
theorem gdX8_adds {base : Nat} {D : va_G} {ca : Nat → ClassId} {cv : Nat → Value} (hcv : ∀ j, (cv j).category = 1) {a0 : Nat} {a1 : Int32} {μ : qM} {r : qR} (h : fX8_adds a0 a1 μ = some r) : qGood false base D ca cv 1 217 [.ref a0, .int a1] μ r := by
  unfold fX8_adds at h
  split at h
  · rename_i hk0
    exact qgood_of (by decide) (by omega) hcv (Or.inr ⟨by decide +kernel, hk0⟩) npX8_adds rfl (Nat.le_of_ble_eq_true rfl) rfl (qblk_ev2 (cf := cfX8_adds) (st := (fun n => qin [12] n)) (K := (fun pc L S μ => if pc = 12 then jX8_adds_12 (fX8_adds_12 qfu) L S μ else none)) (cd := qcX8_adds) (M := 217) (d0 := 0) rfl qcok_X8_adds (Nat.le_refl _) (hcX8_adds hcv) (by
    intro pc L S μ r h
    split at h
    · rename_i e; subst e; exact jeX8_adds_12 (lbX8_adds_12 hcv qfu) h
    cases h) 400 (pc := 0) (L := qent [.ref a0, .int a1] 3) (S := []) h)
  · cases h
theorem gaX8_adds {base : Nat} {D : va_G} {ca : Nat → ClassId} {cv : Nat → Value} (hcv : ∀ j, (cv j).category = 1) {l : List Value} {μ : qM} {r : qR} (h : aX8_adds l μ = some r) : qGood false base D ca cv 1 217 l μ r := by
  unfold aX8_adds at h
  split at h
  · exact gdX8_adds hcv h
  · cases h
noncomputable def gX8_counted (a0 : Nat) (a1 : Int32) (μ : qM) : Option qR :=
  if 0 ≤ a1 then
    qbnd (fX8_adds a0 a1 μ) fun r1 =>
    some (r1.1, 0, r1.2.2)
  else
    some (a1, 0, μ)
noncomputable def fX8_counted (a0 : Nat) (a1 : Int32) (μ : qM) : Option qR := if (qk μ a0).1 = 8 then gX8_counted a0 a1 μ else none
noncomputable def aX8_counted (l : List Value) (μ : qM) : Option qR := match l with
  | [.ref x0, .int x1] => fX8_counted x0 x1 μ
  | _ => none
noncomputable def cfX8_counted : qF := fun n l μ => if n = 217 then aX8_adds l μ else none
theorem hcX8_counted {base : Nat} {D : va_G} {ca : Nat → ClassId} {cv : Nat → Value} (hcv : ∀ j, (cv j).category = 1) : ∀ M as μ r, cfX8_counted M as μ = some r → qGood false base D ca cv 1 M as μ r := by
  intro M as μ r h
  unfold cfX8_counted at h
  split at h
  · rename_i e; subst e; exact (gaX8_adds hcv h).mono (by omega)
  cases h
theorem npX8_counted : (parseMethodDescriptor (qmy 218).desc).map (fun d => d.parameters.length) = some 1 := by decide +kernel
set_option maxRecDepth 100000 in
theorem gdX8_counted {base : Nat} {D : va_G} {ca : Nat → ClassId} {cv : Nat → Value} (hcv : ∀ j, (cv j).category = 1) {a0 : Nat} {a1 : Int32} {μ : qM} {r : qR} (h : fX8_counted a0 a1 μ = some r) : qGood false base D ca cv 2 218 [.ref a0, .int a1] μ r := by
  unfold fX8_counted at h
  split at h
  · rename_i hk0
    exact qgood_of (by decide) (by omega) hcv (Or.inr ⟨by decide +kernel, hk0⟩) npX8_counted rfl (Nat.le_of_ble_eq_true rfl) rfl (qblk_ev2 (cf := cfX8_counted) (st := (fun n => qin [] n)) (K := (fun pc L S μ => none)) (cd := qcX8_counted) (M := 218) (d0 := 1) rfl qcok_X8_counted (Nat.le_refl _) (hcX8_counted hcv) (by
    intro pc L S μ r h
    cases h) 400 (pc := 0) (L := qent [.ref a0, .int a1] 2) (S := []) h)
  · cases h
theorem gaX8_counted {base : Nat} {D : va_G} {ca : Nat → ClassId} {cv : Nat → Value} (hcv : ∀ j, (cv j).category = 1) {l : List Value} {μ : qM} {r : qR} (h : aX8_counted l μ = some r) : qGood false base D ca cv 2 218 l μ r := by
  unfold aX8_counted at h
  split at h
  · exact gdX8_counted hcv h
  · cases h
noncomputable def fX8_undo_16 : Nat → Nat → Int32 → qM → Option qR
  | 0 => fun _ _ _ => none
  | n + 1 => fun x0 x1 μ =>
    if (755 : Int32) ≤ x1 then
      qbnd (oGetI μ 8 x0 18) fun v1 =>
      some (v1, 0, μ)
    else
      qbnd (oGetP μ 8 x0 14) fun v2 =>
      qbnd (oGetP μ 8 x0 19) fun v3 =>
      qbnd (oGetI μ 8 x0 18) fun v4 =>
      qbnd (oLdI 20 μ v3 (((755 : Int32) * v4) + x1)) fun v5 =>
      qbnd (oStI 20 μ v2 x1 v5) fun μ6 =>
      fX8_undo_16 n x0 (x1 + (1 : Int32)) μ6
noncomputable def gX8_undo (a0 : Nat) (μ : qM) : Option qR :=
  qbnd (oPutI μ 8 a0 0 (0 : Int32)) fun μ1 =>
  qbnd (oGetI μ1 8 a0 18) fun v2 =>
  if v2 = 0 then
    some ((-1 : Int32), 0, μ1)
  else
    qbnd (oGetI μ1 8 a0 18) fun v3 =>
    qbnd (oPutI μ1 8 a0 18 (v3 - (1 : Int32))) fun μ4 =>
    fX8_undo_16 qfu a0 (0 : Int32) μ4
noncomputable def fX8_undo (a0 : Nat) (μ : qM) : Option qR := if (qk μ a0).1 = 8 then gX8_undo a0 μ else none
noncomputable def aX8_undo (l : List Value) (μ : qM) : Option qR := match l with
  | [.ref x0] => fX8_undo x0 μ
  | _ => none
noncomputable def cfX8_undo : qF := fun n l μ => none
theorem hcX8_undo {base : Nat} {D : va_G} {ca : Nat → ClassId} {cv : Nat → Value} (hcv : ∀ j, (cv j).category = 1) : ∀ M as μ r, cfX8_undo M as μ = some r → qGood false base D ca cv 0 M as μ r := by
  intro M as μ r h
  cases h
def jX8_undo_16 (f : Nat → Int32 → qM → Option qR) (L S : List Value) (μ : qM) : Option qR := match L, S with
  | [.ref x0, .int x1], [] => f x0 x1 μ
  | _, _ => none
theorem jeX8_undo_16 {base : Nat} {D : va_G} {ca : Nat → ClassId} {cv : Nat → Value} {d : Nat} {f : Nat → Int32 → qM → Option qR} (hf : ∀ (x0 : Nat) (x1 : Int32) (μ : qM) (r : qR), f x0 x1 μ = some r → qEv false base D ca cv d 219 r 16 [.ref x0, .int x1] [] μ) {L S : List Value} {μ : qM} {r : qR} (h : jX8_undo_16 f L S μ = some r) : qEv false base D ca cv d 219 r 16 L S μ := by
  unfold jX8_undo_16 at h
  split at h
  · exact (hf _ _ _ _ h).le rfl ⟨Or.inr rfl, Or.inr rfl, trivial⟩
  · cases h
set_option maxRecDepth 100000 in
theorem lbX8_undo_16 {base : Nat} {D : va_G} {ca : Nat → ClassId} {cv : Nat → Value} (hcv : ∀ j, (cv j).category = 1) : ∀ (n : Nat) (x0 : Nat) (x1 : Int32) (μ : qM) (r : qR), fX8_undo_16 n x0 x1 μ = some r → qEv false base D ca cv 1 219 r 16 [.ref x0, .int x1] [] μ := by
  intro n
  induction n with
  | zero => intro x0 x1 μ r h; cases (show (none : Option qR) = some r from h)
  | succ n ih =>
    intro x0 x1 μ r h
    exact qblk_ev2 (cf := cfX8_undo) (st := (fun n => qin [16] n)) (K := (fun pc L S μ => if pc = 16 then jX8_undo_16 (fX8_undo_16 n) L S μ else none)) (cd := qcX8_undo) (M := 219) (d0 := 0) rfl qcok_X8_undo (Nat.le_refl _) (hcX8_undo hcv) (by
    intro pc L S μ r h
    split at h
    · rename_i e; subst e; exact jeX8_undo_16 ih h
    cases h) 400 (pc := 16) (L := [.ref x0, .int x1]) (S := []) h
theorem npX8_undo : (parseMethodDescriptor (qmy 219).desc).map (fun d => d.parameters.length) = some 0 := by decide +kernel
set_option maxRecDepth 100000 in
theorem gdX8_undo {base : Nat} {D : va_G} {ca : Nat → ClassId} {cv : Nat → Value} (hcv : ∀ j, (cv j).category = 1) {a0 : Nat} {μ : qM} {r : qR} (h : fX8_undo a0 μ = some r) : qGood false base D ca cv 1 219 [.ref a0] μ r := by
  unfold fX8_undo at h
  split at h
  · rename_i hk0
    exact qgood_of (by decide) (by omega) hcv (Or.inr ⟨by decide +kernel, hk0⟩) npX8_undo rfl (Nat.le_of_ble_eq_true rfl) rfl (qblk_ev2 (cf := cfX8_undo) (st := (fun n => qin [16] n)) (K := (fun pc L S μ => if pc = 16 then jX8_undo_16 (fX8_undo_16 qfu) L S μ else none)) (cd := qcX8_undo) (M := 219) (d0 := 0) rfl qcok_X8_undo (Nat.le_refl _) (hcX8_undo hcv) (by
    intro pc L S μ r h
    split at h
    · rename_i e; subst e; exact jeX8_undo_16 (lbX8_undo_16 hcv qfu) h
    cases h) 400 (pc := 0) (L := qent [.ref a0] 2) (S := []) h)
  · cases h
theorem gaX8_undo {base : Nat} {D : va_G} {ca : Nat → ClassId} {cv : Nat → Value} (hcv : ∀ j, (cv j).category = 1) {l : List Value} {μ : qM} {r : qR} (h : aX8_undo l μ = some r) : qGood false base D ca cv 1 219 l μ r := by
  unfold aX8_undo at h
  split at h
  · exact gdX8_undo hcv h
  · cases h
noncomputable def gX8_owner (a0 : Nat) (a1 : Int32) (a2 : Int32) (μ : qM) : Option qR :=
  qbnd (oPutI μ 8 a0 0 (0 : Int32)) fun μ1 =>
  qbnd (fX8_isOwner a1 μ1) fun r2 =>
  if r2.1 = 0 then
    qbnd (fX8_refuse a0 r2.2.2) fun r3 =>
    some (r3.1, 0, r3.2.2)
  else
    qbnd (fX8_in (a2).toInt64 (0 : Int64) (5 : Int64) r2.2.2) fun r4 =>
    if r4.1 = 0 then
      qbnd (fX8_refuse a0 r4.2.2) fun r17 =>
      some (r17.1, 0, r17.2.2)
    else
      if a2 = (0 : Int32) then
        qbnd (oGetP r4.2.2 8 a0 14) fun v5 =>
        qbnd (oLdI 20 r4.2.2 v5 ((680 : Int32) + a1)) fun v6 =>
        some (v6, 0, r4.2.2)
      else
      if a2 = (1 : Int32) then
        qbnd (oGetP r4.2.2 8 a0 14) fun v7 =>
        qbnd (oLdI 20 r4.2.2 v7 ((688 : Int32) + a1)) fun v8 =>
        some (v8, 0, r4.2.2)
      else
      if a2 = (2 : Int32) then
        qbnd (oGetP r4.2.2 8 a0 14) fun v9 =>
        qbnd (oLdI 20 r4.2.2 v9 ((696 : Int32) + a1)) fun v10 =>
        some (v10, 0, r4.2.2)
      else
      if a2 = (3 : Int32) then
        qbnd (oGetP r4.2.2 8 a0 14) fun v11 =>
        qbnd (oLdI 20 r4.2.2 v11 ((704 : Int32) + a1)) fun v12 =>
        some (v12, 0, r4.2.2)
      else
      if a2 = (4 : Int32) then
        qbnd (oGetP r4.2.2 8 a0 14) fun v13 =>
        qbnd (fX8_heldMany v13 a1 r4.2.2) fun r14 =>
        some (r14.1, 0, r14.2.2)
      else
        qbnd (oGetP r4.2.2 8 a0 14) fun v15 =>
        qbnd (fX8_cost a0 v15 a1 r4.2.2) fun r16 =>
        some (r16.1, 0, r16.2.2)
noncomputable def fX8_owner (a0 : Nat) (a1 : Int32) (a2 : Int32) (μ : qM) : Option qR := if (qk μ a0).1 = 8 then gX8_owner a0 a1 a2 μ else none
noncomputable def aX8_owner (l : List Value) (μ : qM) : Option qR := match l with
  | [.ref x0, .int x1, .int x2] => fX8_owner x0 x1 x2 μ
  | _ => none
noncomputable def cfX8_owner : qF := fun n l μ => if n = 171 then aX8_isOwner l μ else if n = 141 then aX8_in l μ else if n = 140 then aX8_refuse l μ else if n = 173 then aX8_heldMany l μ else if n = 189 then aX8_cost l μ else none
theorem hcX8_owner {base : Nat} {D : va_G} {ca : Nat → ClassId} {cv : Nat → Value} (hcv : ∀ j, (cv j).category = 1) : ∀ M as μ r, cfX8_owner M as μ = some r → qGood false base D ca cv 6 M as μ r := by
  intro M as μ r h
  unfold cfX8_owner at h
  split at h
  · rename_i e; subst e; exact (gaX8_isOwner hcv h).mono (by omega)
  split at h
  · rename_i e; subst e; exact (gaX8_in hcv h).mono (by omega)
  split at h
  · rename_i e; subst e; exact (gaX8_refuse hcv h).mono (by omega)
  split at h
  · rename_i e; subst e; exact (gaX8_heldMany hcv h).mono (by omega)
  split at h
  · rename_i e; subst e; exact (gaX8_cost hcv h).mono (by omega)
  cases h
theorem npX8_owner : (parseMethodDescriptor (qmy 220).desc).map (fun d => d.parameters.length) = some 2 := by decide +kernel
set_option maxRecDepth 100000 in
theorem gdX8_owner {base : Nat} {D : va_G} {ca : Nat → ClassId} {cv : Nat → Value} (hcv : ∀ j, (cv j).category = 1) {a0 : Nat} {a1 : Int32} {a2 : Int32} {μ : qM} {r : qR} (h : fX8_owner a0 a1 a2 μ = some r) : qGood false base D ca cv 7 220 [.ref a0, .int a1, .int a2] μ r := by
  unfold fX8_owner at h
  split at h
  · rename_i hk0
    exact qgood_of (by decide) (by omega) hcv (Or.inr ⟨by decide +kernel, hk0⟩) npX8_owner rfl (Nat.le_of_ble_eq_true rfl) rfl (qblk_ev2 (cf := cfX8_owner) (st := (fun n => qin [] n)) (K := (fun pc L S μ => none)) (cd := qcX8_owner) (M := 220) (d0 := 6) rfl qcok_X8_owner (Nat.le_refl _) (hcX8_owner hcv) (by
    intro pc L S μ r h
    cases h) 400 (pc := 0) (L := qent [.ref a0, .int a1, .int a2] 3) (S := []) h)
  · cases h
theorem gaX8_owner {base : Nat} {D : va_G} {ca : Nat → ClassId} {cv : Nat → Value} (hcv : ∀ j, (cv j).category = 1) {l : List Value} {μ : qM} {r : qR} (h : aX8_owner l μ = some r) : qGood false base D ca cv 7 220 l μ r := by
  unfold aX8_owner at h
  split at h
  · exact gdX8_owner hcv h
  · cases h
noncomputable def gX8_held_ (a0 : Nat) (a1 : Int32) (a2 : Int32) (μ : qM) : Option qR :=
  qbnd (oPutI μ 8 a0 0 (0 : Int32)) fun μ1 =>
  qbnd (fX8_isOwner a1 μ1) fun r2 =>
  if r2.1 = 0 then
    qbnd (fX8_refuse a0 r2.2.2) fun r3 =>
    some (r3.1, 0, r3.2.2)
  else
    qbnd (fX8_isPlace a2 r2.2.2) fun r4 =>
    if r4.1 = 0 then
      qbnd (fX8_refuse a0 r4.2.2) fun r5 =>
      some (r5.1, 0, r5.2.2)
    else
      qbnd (oGetP r4.2.2 8 a0 14) fun v6 =>
      qbnd (fX8_held v6 a1 a2 r4.2.2) fun r7 =>
      some (r7.1, 0, r7.2.2)
noncomputable def fX8_held_ (a0 : Nat) (a1 : Int32) (a2 : Int32) (μ : qM) : Option qR := if (qk μ a0).1 = 8 then gX8_held_ a0 a1 a2 μ else none
noncomputable def aX8_held_ (l : List Value) (μ : qM) : Option qR := match l with
  | [.ref x0, .int x1, .int x2] => fX8_held_ x0 x1 x2 μ
  | _ => none
noncomputable def cfX8_held_ : qF := fun n l μ => if n = 171 then aX8_isOwner l μ else if n = 147 then aX8_isPlace l μ else if n = 172 then aX8_held l μ else if n = 140 then aX8_refuse l μ else none
theorem hcX8_held_ {base : Nat} {D : va_G} {ca : Nat → ClassId} {cv : Nat → Value} (hcv : ∀ j, (cv j).category = 1) : ∀ M as μ r, cfX8_held_ M as μ = some r → qGood false base D ca cv 2 M as μ r := by
  intro M as μ r h
  unfold cfX8_held_ at h
  split at h
  · rename_i e; subst e; exact (gaX8_isOwner hcv h).mono (by omega)
  split at h
  · rename_i e; subst e; exact (gaX8_isPlace hcv h).mono (by omega)
  split at h
  · rename_i e; subst e; exact (gaX8_held hcv h).mono (by omega)
  split at h
  · rename_i e; subst e; exact (gaX8_refuse hcv h).mono (by omega)
  cases h
theorem npX8_held_ : (parseMethodDescriptor (qmy 221).desc).map (fun d => d.parameters.length) = some 2 := by decide +kernel
set_option maxRecDepth 100000 in
theorem gdX8_held_ {base : Nat} {D : va_G} {ca : Nat → ClassId} {cv : Nat → Value} (hcv : ∀ j, (cv j).category = 1) {a0 : Nat} {a1 : Int32} {a2 : Int32} {μ : qM} {r : qR} (h : fX8_held_ a0 a1 a2 μ = some r) : qGood false base D ca cv 3 221 [.ref a0, .int a1, .int a2] μ r := by
  unfold fX8_held_ at h
  split at h
  · rename_i hk0
    exact qgood_of (by decide) (by omega) hcv (Or.inr ⟨by decide +kernel, hk0⟩) npX8_held_ rfl (Nat.le_of_ble_eq_true rfl) rfl (qblk_ev2 (cf := cfX8_held_) (st := (fun n => qin [] n)) (K := (fun pc L S μ => none)) (cd := qcX8_held_) (M := 221) (d0 := 2) rfl qcok_X8_held_ (Nat.le_refl _) (hcX8_held_ hcv) (by
    intro pc L S μ r h
    cases h) 400 (pc := 0) (L := qent [.ref a0, .int a1, .int a2] 3) (S := []) h)
  · cases h
theorem gaX8_held_ {base : Nat} {D : va_G} {ca : Nat → ClassId} {cv : Nat → Value} (hcv : ∀ j, (cv j).category = 1) {l : List Value} {μ : qM} {r : qR} (h : aX8_held_ l μ = some r) : qGood false base D ca cv 3 221 l μ r := by
  unfold aX8_held_ at h
  split at h
  · exact gdX8_held_ hcv h
  · cases h
noncomputable def gX8_begins (a0 : Nat) (a1 : Int32) (μ : qM) : Option qR :=
  qbnd (oPutI μ 8 a0 0 (0 : Int32)) fun μ1 =>
  qbnd (fX8_putsBy a0 μ1) fun r2 =>
  qbnd (oGetP r2.2.2 8 a0 14) fun v3 =>
  qbnd (fX8_beginsOne a0 v3 a1 r2.2.2) fun r4 =>
  qbnd (fX8_counted a0 r4.1 r4.2.2) fun r5 =>
  some (r5.1, 0, r5.2.2)
noncomputable def fX8_begins (a0 : Nat) (a1 : Int32) (μ : qM) : Option qR := if (qk μ a0).1 = 8 then gX8_begins a0 a1 μ else none
noncomputable def aX8_begins (l : List Value) (μ : qM) : Option qR := match l with
  | [.ref x0, .int x1] => fX8_begins x0 x1 μ
  | _ => none
noncomputable def cfX8_begins : qF := fun n l μ => if n = 216 then aX8_putsBy l μ else if n = 207 then aX8_beginsOne l μ else if n = 218 then aX8_counted l μ else none
theorem hcX8_begins {base : Nat} {D : va_G} {ca : Nat → ClassId} {cv : Nat → Value} (hcv : ∀ j, (cv j).category = 1) : ∀ M as μ r, cfX8_begins M as μ = some r → qGood false base D ca cv 3 M as μ r := by
  intro M as μ r h
  unfold cfX8_begins at h
  split at h
  · rename_i e; subst e; exact (gaX8_putsBy hcv h).mono (by omega)
  split at h
  · rename_i e; subst e; exact (gaX8_beginsOne hcv h).mono (by omega)
  split at h
  · rename_i e; subst e; exact (gaX8_counted hcv h).mono (by omega)
  cases h
theorem npX8_begins : (parseMethodDescriptor (qmy 222).desc).map (fun d => d.parameters.length) = some 1 := by decide +kernel
set_option maxRecDepth 100000 in
theorem gdX8_begins {base : Nat} {D : va_G} {ca : Nat → ClassId} {cv : Nat → Value} (hcv : ∀ j, (cv j).category = 1) {a0 : Nat} {a1 : Int32} {μ : qM} {r : qR} (h : fX8_begins a0 a1 μ = some r) : qGood false base D ca cv 4 222 [.ref a0, .int a1] μ r := by
  unfold fX8_begins at h
  split at h
  · rename_i hk0
    exact qgood_of (by decide) (by omega) hcv (Or.inr ⟨by decide +kernel, hk0⟩) npX8_begins rfl (Nat.le_of_ble_eq_true rfl) rfl (qblk_ev2 (cf := cfX8_begins) (st := (fun n => qin [] n)) (K := (fun pc L S μ => none)) (cd := qcX8_begins) (M := 222) (d0 := 3) rfl qcok_X8_begins (Nat.le_refl _) (hcX8_begins hcv) (by
    intro pc L S μ r h
    cases h) 400 (pc := 0) (L := qent [.ref a0, .int a1] 2) (S := []) h)
  · cases h
theorem gaX8_begins {base : Nat} {D : va_G} {ca : Nat → ClassId} {cv : Nat → Value} (hcv : ∀ j, (cv j).category = 1) {l : List Value} {μ : qM} {r : qR} (h : aX8_begins l μ = some r) : qGood false base D ca cv 4 222 l μ r := by
  unfold aX8_begins at h
  split at h
  · exact gdX8_begins hcv h
  · cases h
noncomputable def gX8_works (a0 : Nat) (a1 : Int32) (a2 : Int32) (μ : qM) : Option qR :=
  qbnd (oPutI μ 8 a0 0 (0 : Int32)) fun μ1 =>
  qbnd (fX8_putsBy a0 μ1) fun r2 =>
  qbnd (oGetP r2.2.2 8 a0 14) fun v3 =>
  qbnd (fX8_worksOne v3 a1 a2 r2.2.2) fun r4 =>
  qbnd (fX8_counted a0 r4.1 r4.2.2) fun r5 =>
  some (r5.1, 0, r5.2.2)
noncomputable def fX8_works (a0 : Nat) (a1 : Int32) (a2 : Int32) (μ : qM) : Option qR := if (qk μ a0).1 = 8 then gX8_works a0 a1 a2 μ else none
noncomputable def aX8_works (l : List Value) (μ : qM) : Option qR := match l with
  | [.ref x0, .int x1, .int x2] => fX8_works x0 x1 x2 μ
  | _ => none
noncomputable def cfX8_works : qF := fun n l μ => if n = 216 then aX8_putsBy l μ else if n = 208 then aX8_worksOne l μ else if n = 218 then aX8_counted l μ else none
theorem hcX8_works {base : Nat} {D : va_G} {ca : Nat → ClassId} {cv : Nat → Value} (hcv : ∀ j, (cv j).category = 1) : ∀ M as μ r, cfX8_works M as μ = some r → qGood false base D ca cv 3 M as μ r := by
  intro M as μ r h
  unfold cfX8_works at h
  split at h
  · rename_i e; subst e; exact (gaX8_putsBy hcv h).mono (by omega)
  split at h
  · rename_i e; subst e; exact (gaX8_worksOne hcv h).mono (by omega)
  split at h
  · rename_i e; subst e; exact (gaX8_counted hcv h).mono (by omega)
  cases h
theorem npX8_works : (parseMethodDescriptor (qmy 223).desc).map (fun d => d.parameters.length) = some 2 := by decide +kernel
set_option maxRecDepth 100000 in
theorem gdX8_works {base : Nat} {D : va_G} {ca : Nat → ClassId} {cv : Nat → Value} (hcv : ∀ j, (cv j).category = 1) {a0 : Nat} {a1 : Int32} {a2 : Int32} {μ : qM} {r : qR} (h : fX8_works a0 a1 a2 μ = some r) : qGood false base D ca cv 4 223 [.ref a0, .int a1, .int a2] μ r := by
  unfold fX8_works at h
  split at h
  · rename_i hk0
    exact qgood_of (by decide) (by omega) hcv (Or.inr ⟨by decide +kernel, hk0⟩) npX8_works rfl (Nat.le_of_ble_eq_true rfl) rfl (qblk_ev2 (cf := cfX8_works) (st := (fun n => qin [] n)) (K := (fun pc L S μ => none)) (cd := qcX8_works) (M := 223) (d0 := 3) rfl qcok_X8_works (Nat.le_refl _) (hcX8_works hcv) (by
    intro pc L S μ r h
    cases h) 400 (pc := 0) (L := qent [.ref a0, .int a1, .int a2] 3) (S := []) h)
  · cases h
theorem gaX8_works {base : Nat} {D : va_G} {ca : Nat → ClassId} {cv : Nat → Value} (hcv : ∀ j, (cv j).category = 1) {l : List Value} {μ : qM} {r : qR} (h : aX8_works l μ = some r) : qGood false base D ca cv 4 223 l μ r := by
  unfold aX8_works at h
  split at h
  · exact gdX8_works hcv h
  · cases h
noncomputable def gX8_locks (a0 : Nat) (a1 : Int32) (a2 : Int32) (a3 : Int32) (μ : qM) : Option qR :=
  qbnd (oPutI μ 8 a0 0 (0 : Int32)) fun μ1 =>
  qbnd (fX8_putsBy a0 μ1) fun r2 =>
  qbnd (oGetP r2.2.2 8 a0 14) fun v3 =>
  qbnd (fX8_locksOne a0 v3 a1 a2 a3 r2.2.2) fun r4 =>
  if r4.1 < 0 then
    qbnd (fX8_counted a0 r4.1 r4.2.2) fun r5 =>
    some (r5.1, 0, r5.2.2)
  else
    qbnd (oPutI r4.2.2 8 a0 1 (0 : Int32)) fun μ6 =>
    qbnd (oGetP μ6 8 a0 14) fun v7 =>
    qbnd (oLdI 20 μ6 v7 ((712 : Int32) + a1)) fun v8 =>
    qbnd (fX8_enters a0 (v8).toInt64 μ6) fun r9 =>
    qbnd (oGetI r9.2.2 8 a0 16) fun v10 =>
    qbnd (fX8_has v10 a1 r9.2.2) fun r11 =>
    qbnd (fX8_flag r11.1 r11.2.2) fun r12 =>
    qbnd (fX8_enters a0 (r12.1).toInt64 r12.2.2) fun r13 =>
    qbnd (fX8_counted a0 r4.1 r13.2.2) fun r14 =>
    some (r14.1, 0, r14.2.2)
noncomputable def fX8_locks (a0 : Nat) (a1 : Int32) (a2 : Int32) (a3 : Int32) (μ : qM) : Option qR := if (qk μ a0).1 = 8 then gX8_locks a0 a1 a2 a3 μ else none
noncomputable def aX8_locks (l : List Value) (μ : qM) : Option qR := match l with
  | [.ref x0, .int x1, .int x2, .int x3] => fX8_locks x0 x1 x2 x3 μ
  | _ => none
noncomputable def cfX8_locks : qF := fun n l μ => if n = 216 then aX8_putsBy l μ else if n = 206 then aX8_locksOne l μ else if n = 144 then aX8_enters l μ else if n = 142 then aX8_has l μ else if n = 143 then aX8_flag l μ else if n = 218 then aX8_counted l μ else none
theorem hcX8_locks {base : Nat} {D : va_G} {ca : Nat → ClassId} {cv : Nat → Value} (hcv : ∀ j, (cv j).category = 1) : ∀ M as μ r, cfX8_locks M as μ = some r → qGood false base D ca cv 1004 M as μ r := by
  intro M as μ r h
  unfold cfX8_locks at h
  split at h
  · rename_i e; subst e; exact (gaX8_putsBy hcv h).mono (by omega)
  split at h
  · rename_i e; subst e; exact (gaX8_locksOne hcv h).mono (by omega)
  split at h
  · rename_i e; subst e; exact (gaX8_enters hcv h).mono (by omega)
  split at h
  · rename_i e; subst e; exact (gaX8_has hcv h).mono (by omega)
  split at h
  · rename_i e; subst e; exact (gaX8_flag hcv h).mono (by omega)
  split at h
  · rename_i e; subst e; exact (gaX8_counted hcv h).mono (by omega)
  cases h
theorem npX8_locks : (parseMethodDescriptor (qmy 224).desc).map (fun d => d.parameters.length) = some 3 := by decide +kernel
set_option maxRecDepth 100000 in
theorem gdX8_locks {base : Nat} {D : va_G} {ca : Nat → ClassId} {cv : Nat → Value} (hcv : ∀ j, (cv j).category = 1) {a0 : Nat} {a1 : Int32} {a2 : Int32} {a3 : Int32} {μ : qM} {r : qR} (h : fX8_locks a0 a1 a2 a3 μ = some r) : qGood false base D ca cv 1005 224 [.ref a0, .int a1, .int a2, .int a3] μ r := by
  unfold fX8_locks at h
  split at h
  · rename_i hk0
    exact qgood_of (by decide) (by omega) hcv (Or.inr ⟨by decide +kernel, hk0⟩) npX8_locks rfl (Nat.le_of_ble_eq_true rfl) rfl (qblk_ev2 (cf := cfX8_locks) (st := (fun n => qin [] n)) (K := (fun pc L S μ => none)) (cd := qcX8_locks) (M := 224) (d0 := 1004) rfl qcok_X8_locks (Nat.le_refl _) (hcX8_locks hcv) (by
    intro pc L S μ r h
    cases h) 400 (pc := 0) (L := qent [.ref a0, .int a1, .int a2, .int a3] 5) (S := []) h)
  · cases h
theorem gaX8_locks {base : Nat} {D : va_G} {ca : Nat → ClassId} {cv : Nat → Value} (hcv : ∀ j, (cv j).category = 1) {l : List Value} {μ : qM} {r : qR} (h : aX8_locks l μ = some r) : qGood false base D ca cv 1005 224 l μ r := by
  unfold aX8_locks at h
  split at h
  · exact gdX8_locks hcv h
  · cases h
noncomputable def gX8_unlocks (a0 : Nat) (a1 : Int32) (a2 : Int32) (μ : qM) : Option qR :=
  qbnd (oPutI μ 8 a0 0 (0 : Int32)) fun μ1 =>
  qbnd (fX8_putsBy a0 μ1) fun r2 =>
  qbnd (oGetP r2.2.2 8 a0 14) fun v3 =>
  qbnd (fX8_unlocksOne a0 v3 a1 a2 r2.2.2) fun r4 =>
  qbnd (fX8_counted a0 r4.1 r4.2.2) fun r5 =>
  some (r5.1, 0, r5.2.2)
noncomputable def fX8_unlocks (a0 : Nat) (a1 : Int32) (a2 : Int32) (μ : qM) : Option qR := if (qk μ a0).1 = 8 then gX8_unlocks a0 a1 a2 μ else none
noncomputable def aX8_unlocks (l : List Value) (μ : qM) : Option qR := match l with
  | [.ref x0, .int x1, .int x2] => fX8_unlocks x0 x1 x2 μ
  | _ => none
noncomputable def cfX8_unlocks : qF := fun n l μ => if n = 216 then aX8_putsBy l μ else if n = 209 then aX8_unlocksOne l μ else if n = 218 then aX8_counted l μ else none
theorem hcX8_unlocks {base : Nat} {D : va_G} {ca : Nat → ClassId} {cv : Nat → Value} (hcv : ∀ j, (cv j).category = 1) : ∀ M as μ r, cfX8_unlocks M as μ = some r → qGood false base D ca cv 1005 M as μ r := by
  intro M as μ r h
  unfold cfX8_unlocks at h
  split at h
  · rename_i e; subst e; exact (gaX8_putsBy hcv h).mono (by omega)
  split at h
  · rename_i e; subst e; exact (gaX8_unlocksOne hcv h).mono (by omega)
  split at h
  · rename_i e; subst e; exact (gaX8_counted hcv h).mono (by omega)
  cases h
theorem npX8_unlocks : (parseMethodDescriptor (qmy 225).desc).map (fun d => d.parameters.length) = some 2 := by decide +kernel
set_option maxRecDepth 100000 in
theorem gdX8_unlocks {base : Nat} {D : va_G} {ca : Nat → ClassId} {cv : Nat → Value} (hcv : ∀ j, (cv j).category = 1) {a0 : Nat} {a1 : Int32} {a2 : Int32} {μ : qM} {r : qR} (h : fX8_unlocks a0 a1 a2 μ = some r) : qGood false base D ca cv 1006 225 [.ref a0, .int a1, .int a2] μ r := by
  unfold fX8_unlocks at h
  split at h
  · rename_i hk0
    exact qgood_of (by decide) (by omega) hcv (Or.inr ⟨by decide +kernel, hk0⟩) npX8_unlocks rfl (Nat.le_of_ble_eq_true rfl) rfl (qblk_ev2 (cf := cfX8_unlocks) (st := (fun n => qin [] n)) (K := (fun pc L S μ => none)) (cd := qcX8_unlocks) (M := 225) (d0 := 1005) rfl qcok_X8_unlocks (Nat.le_refl _) (hcX8_unlocks hcv) (by
    intro pc L S μ r h
    cases h) 400 (pc := 0) (L := qent [.ref a0, .int a1, .int a2] 3) (S := []) h)
  · cases h
theorem gaX8_unlocks {base : Nat} {D : va_G} {ca : Nat → ClassId} {cv : Nat → Value} (hcv : ∀ j, (cv j).category = 1) {l : List Value} {μ : qM} {r : qR} (h : aX8_unlocks l μ = some r) : qGood false base D ca cv 1006 225 l μ r := by
  unfold aX8_unlocks at h
  split at h
  · exact gdX8_unlocks hcv h
  · cases h
noncomputable def gX8_ends (a0 : Nat) (a1 : Int32) (μ : qM) : Option qR :=
  qbnd (oPutI μ 8 a0 0 (0 : Int32)) fun μ1 =>
  qbnd (fX8_putsBy a0 μ1) fun r2 =>
  qbnd (oGetP r2.2.2 8 a0 14) fun v3 =>
  qbnd (fX8_so v3 (2 : Int32) r2.2.2) fun r4 =>
  qbnd (oGetP r4.2.2 8 a0 14) fun v5 =>
  qbnd (fX8_endsOne a0 v5 a1 r4.2.2) fun r6 =>
  if r6.1 < 0 then
    qbnd (fX8_counted a0 r6.1 r6.2.2) fun r7 =>
    some (r7.1, 0, r7.2.2)
  else
    qbnd (oPutI r6.2.2 8 a0 1 (0 : Int32)) fun μ8 =>
    qbnd (oGetP μ8 8 a0 14) fun v9 =>
    qbnd (fX8_so v9 (1 : Int32) μ8) fun r10 =>
    qbnd (fJ6_bitCount_0f7a4 (r4.1 &&& r10.1) r10.2.2) fun r11 =>
    qbnd (fX8_enters a0 (r11.1).toInt64 r11.2.2) fun r12 =>
    qbnd (fX8_counted a0 r6.1 r12.2.2) fun r13 =>
    some (r13.1, 0, r13.2.2)
noncomputable def fX8_ends (a0 : Nat) (a1 : Int32) (μ : qM) : Option qR := if (qk μ a0).1 = 8 then gX8_ends a0 a1 μ else none
noncomputable def aX8_ends (l : List Value) (μ : qM) : Option qR := match l with
  | [.ref x0, .int x1] => fX8_ends x0 x1 μ
  | _ => none
noncomputable def cfX8_ends : qF := fun n l μ => if n = 216 then aX8_putsBy l μ else if n = 175 then aX8_so l μ else if n = 211 then aX8_endsOne l μ else if n = 267 then aJ6_bitCount_0f7a4 l μ else if n = 144 then aX8_enters l μ else if n = 218 then aX8_counted l μ else none
theorem hcX8_ends {base : Nat} {D : va_G} {ca : Nat → ClassId} {cv : Nat → Value} (hcv : ∀ j, (cv j).category = 1) : ∀ M as μ r, cfX8_ends M as μ = some r → qGood false base D ca cv 1003 M as μ r := by
  intro M as μ r h
  unfold cfX8_ends at h
  split at h
  · rename_i e; subst e; exact (gaX8_putsBy hcv h).mono (by omega)
  split at h
  · rename_i e; subst e; exact (gaX8_so hcv h).mono (by omega)
  split at h
  · rename_i e; subst e; exact (gaX8_endsOne hcv h).mono (by omega)
  split at h
  · rename_i e; subst e; exact (gaJ6_bitCount_0f7a4 hcv h).mono (by omega)
  split at h
  · rename_i e; subst e; exact (gaX8_enters hcv h).mono (by omega)
  split at h
  · rename_i e; subst e; exact (gaX8_counted hcv h).mono (by omega)
  cases h
theorem npX8_ends : (parseMethodDescriptor (qmy 226).desc).map (fun d => d.parameters.length) = some 1 := by decide +kernel
set_option maxRecDepth 100000 in
theorem gdX8_ends {base : Nat} {D : va_G} {ca : Nat → ClassId} {cv : Nat → Value} (hcv : ∀ j, (cv j).category = 1) {a0 : Nat} {a1 : Int32} {μ : qM} {r : qR} (h : fX8_ends a0 a1 μ = some r) : qGood false base D ca cv 1004 226 [.ref a0, .int a1] μ r := by
  unfold fX8_ends at h
  split at h
  · rename_i hk0
    exact qgood_of (by decide) (by omega) hcv (Or.inr ⟨by decide +kernel, hk0⟩) npX8_ends rfl (Nat.le_of_ble_eq_true rfl) rfl (qblk_ev2 (cf := cfX8_ends) (st := (fun n => qin [] n)) (K := (fun pc L S μ => none)) (cd := qcX8_ends) (M := 226) (d0 := 1003) rfl qcok_X8_ends (Nat.le_refl _) (hcX8_ends hcv) (by
    intro pc L S μ r h
    cases h) 400 (pc := 0) (L := qent [.ref a0, .int a1] 4) (S := []) h)
  · cases h
theorem gaX8_ends {base : Nat} {D : va_G} {ca : Nat → ClassId} {cv : Nat → Value} (hcv : ∀ j, (cv j).category = 1) {l : List Value} {μ : qM} {r : qR} (h : aX8_ends l μ = some r) : qGood false base D ca cv 1004 226 l μ r := by
  unfold aX8_ends at h
  split at h
  · exact gdX8_ends hcv h
  · cases h
noncomputable def gX8_gathers (a0 : Nat) (a1 : Int32) (a2 : Int32) (μ : qM) : Option qR :=
  qbnd (oPutI μ 8 a0 0 (0 : Int32)) fun μ1 =>
  qbnd (fX8_putsBy a0 μ1) fun r2 =>
  qbnd (oGetP r2.2.2 8 a0 14) fun v3 =>
  qbnd (fX8_gathersAt a0 v3 a1 a2 r2.2.2) fun r4 =>
  if r4.1 < 0 then
    qbnd (fX8_counted a0 r4.1 r4.2.2) fun r5 =>
    some (r5.1, 0, r5.2.2)
  else
    qbnd (oPutI r4.2.2 8 a0 1 (0 : Int32)) fun μ6 =>
    qbnd (oGetP μ6 8 a0 14) fun v7 =>
    qbnd (fX8_held v7 a1 a2 μ6) fun r8 =>
    qbnd (fX8_enters a0 (r8.1).toInt64 r8.2.2) fun r9 =>
    qbnd (fX8_counted a0 r4.1 r9.2.2) fun r10 =>
    some (r10.1, 0, r10.2.2)
noncomputable def fX8_gathers (a0 : Nat) (a1 : Int32) (a2 : Int32) (μ : qM) : Option qR := if (qk μ a0).1 = 8 then gX8_gathers a0 a1 a2 μ else none
noncomputable def aX8_gathers (l : List Value) (μ : qM) : Option qR := match l with
  | [.ref x0, .int x1, .int x2] => fX8_gathers x0 x1 x2 μ
  | _ => none
noncomputable def cfX8_gathers : qF := fun n l μ => if n = 216 then aX8_putsBy l μ else if n = 212 then aX8_gathersAt l μ else if n = 172 then aX8_held l μ else if n = 144 then aX8_enters l μ else if n = 218 then aX8_counted l μ else none
theorem hcX8_gathers {base : Nat} {D : va_G} {ca : Nat → ClassId} {cv : Nat → Value} (hcv : ∀ j, (cv j).category = 1) : ∀ M as μ r, cfX8_gathers M as μ = some r → qGood false base D ca cv 1003 M as μ r := by
  intro M as μ r h
  unfold cfX8_gathers at h
  split at h
  · rename_i e; subst e; exact (gaX8_putsBy hcv h).mono (by omega)
  split at h
  · rename_i e; subst e; exact (gaX8_gathersAt hcv h).mono (by omega)
  split at h
  · rename_i e; subst e; exact (gaX8_held hcv h).mono (by omega)
  split at h
  · rename_i e; subst e; exact (gaX8_enters hcv h).mono (by omega)
  split at h
  · rename_i e; subst e; exact (gaX8_counted hcv h).mono (by omega)
  cases h
theorem npX8_gathers : (parseMethodDescriptor (qmy 227).desc).map (fun d => d.parameters.length) = some 2 := by decide +kernel
set_option maxRecDepth 100000 in
theorem gdX8_gathers {base : Nat} {D : va_G} {ca : Nat → ClassId} {cv : Nat → Value} (hcv : ∀ j, (cv j).category = 1) {a0 : Nat} {a1 : Int32} {a2 : Int32} {μ : qM} {r : qR} (h : fX8_gathers a0 a1 a2 μ = some r) : qGood false base D ca cv 1004 227 [.ref a0, .int a1, .int a2] μ r := by
  unfold fX8_gathers at h
  split at h
  · rename_i hk0
    exact qgood_of (by decide) (by omega) hcv (Or.inr ⟨by decide +kernel, hk0⟩) npX8_gathers rfl (Nat.le_of_ble_eq_true rfl) rfl (qblk_ev2 (cf := cfX8_gathers) (st := (fun n => qin [] n)) (K := (fun pc L S μ => none)) (cd := qcX8_gathers) (M := 227) (d0 := 1003) rfl qcok_X8_gathers (Nat.le_refl _) (hcX8_gathers hcv) (by
    intro pc L S μ r h
    cases h) 400 (pc := 0) (L := qent [.ref a0, .int a1, .int a2] 4) (S := []) h)
  · cases h
theorem gaX8_gathers {base : Nat} {D : va_G} {ca : Nat → ClassId} {cv : Nat → Value} (hcv : ∀ j, (cv j).category = 1) {l : List Value} {μ : qM} {r : qR} (h : aX8_gathers l μ = some r) : qGood false base D ca cv 1004 227 l μ r := by
  unfold aX8_gathers at h
  split at h
  · exact gdX8_gathers hcv h
  · cases h
noncomputable def gX8_bulk (a0 : Nat) (a1 : Int32) (μ : qM) : Option qR :=
  qbnd (oPutI μ 8 a0 0 (0 : Int32)) fun μ1 =>
  qbnd (fX8_putsBy a0 μ1) fun r2 =>
  qbnd (oGetP r2.2.2 8 a0 14) fun v3 =>
  qbnd (fX8_bulksOne v3 a1 r2.2.2) fun r4 =>
  qbnd (fX8_counted a0 r4.1 r4.2.2) fun r5 =>
  some (r5.1, 0, r5.2.2)
noncomputable def fX8_bulk (a0 : Nat) (a1 : Int32) (μ : qM) : Option qR := if (qk μ a0).1 = 8 then gX8_bulk a0 a1 μ else none
noncomputable def aX8_bulk (l : List Value) (μ : qM) : Option qR := match l with
  | [.ref x0, .int x1] => fX8_bulk x0 x1 μ
  | _ => none
noncomputable def cfX8_bulk : qF := fun n l μ => if n = 216 then aX8_putsBy l μ else if n = 213 then aX8_bulksOne l μ else if n = 218 then aX8_counted l μ else none
theorem hcX8_bulk {base : Nat} {D : va_G} {ca : Nat → ClassId} {cv : Nat → Value} (hcv : ∀ j, (cv j).category = 1) : ∀ M as μ r, cfX8_bulk M as μ = some r → qGood false base D ca cv 2 M as μ r := by
  intro M as μ r h
  unfold cfX8_bulk at h
  split at h
  · rename_i e; subst e; exact (gaX8_putsBy hcv h).mono (by omega)
  split at h
  · rename_i e; subst e; exact (gaX8_bulksOne hcv h).mono (by omega)
  split at h
  · rename_i e; subst e; exact (gaX8_counted hcv h).mono (by omega)
  cases h
theorem npX8_bulk : (parseMethodDescriptor (qmy 228).desc).map (fun d => d.parameters.length) = some 1 := by decide +kernel
set_option maxRecDepth 100000 in
theorem gdX8_bulk {base : Nat} {D : va_G} {ca : Nat → ClassId} {cv : Nat → Value} (hcv : ∀ j, (cv j).category = 1) {a0 : Nat} {a1 : Int32} {μ : qM} {r : qR} (h : fX8_bulk a0 a1 μ = some r) : qGood false base D ca cv 3 228 [.ref a0, .int a1] μ r := by
  unfold fX8_bulk at h
  split at h
  · rename_i hk0
    exact qgood_of (by decide) (by omega) hcv (Or.inr ⟨by decide +kernel, hk0⟩) npX8_bulk rfl (Nat.le_of_ble_eq_true rfl) rfl (qblk_ev2 (cf := cfX8_bulk) (st := (fun n => qin [] n)) (K := (fun pc L S μ => none)) (cd := qcX8_bulk) (M := 228) (d0 := 2) rfl qcok_X8_bulk (Nat.le_refl _) (hcX8_bulk hcv) (by
    intro pc L S μ r h
    cases h) 400 (pc := 0) (L := qent [.ref a0, .int a1] 2) (S := []) h)
  · cases h
theorem gaX8_bulk {base : Nat} {D : va_G} {ca : Nat → ClassId} {cv : Nat → Value} (hcv : ∀ j, (cv j).category = 1) {l : List Value} {μ : qM} {r : qR} (h : aX8_bulk l μ = some r) : qGood false base D ca cv 3 228 l μ r := by
  unfold aX8_bulk at h
  split at h
  · exact gdX8_bulk hcv h
  · cases h
noncomputable def fX8_fells_15 : Nat → Nat → Int32 → Int32 → qM → Option qR
  | 0 => fun _ _ _ _ => none
  | n + 1 => fun x0 x1 x2 μ =>
    if x1 ≤ x2 then
      qbnd (fX8_adds x0 x1 μ) fun r1 =>
      some (r1.1, 0, r1.2.2)
    else
      qbnd (oGetP μ 8 x0 17) fun v2 =>
      qbnd (oLdI 20 μ v2 x2) fun v3 =>
      qbnd (fX8_enters x0 (v3).toInt64 μ) fun r4 =>
      fX8_fells_15 n x0 x1 (x2 + (1 : Int32)) r4.2.2
noncomputable def gX8_fells (a0 : Nat) (μ : qM) : Option qR :=
  qbnd (oPutI μ 8 a0 0 (0 : Int32)) fun μ1 =>
  qbnd (fX8_putsBy a0 μ1) fun r2 =>
  qbnd (oGetP r2.2.2 8 a0 14) fun v3 =>
  qbnd (fX8_fellsAll a0 v3 r2.2.2) fun r4 =>
  qbnd (oPutI r4.2.2 8 a0 1 (0 : Int32)) fun μ5 =>
  fX8_fells_15 qfu a0 r4.1 (0 : Int32) μ5
noncomputable def fX8_fells (a0 : Nat) (μ : qM) : Option qR := if (qk μ a0).1 = 8 then gX8_fells a0 μ else none
noncomputable def aX8_fells (l : List Value) (μ : qM) : Option qR := match l with
  | [.ref x0] => fX8_fells x0 μ
  | _ => none
noncomputable def cfX8_fells : qF := fun n l μ => if n = 216 then aX8_putsBy l μ else if n = 215 then aX8_fellsAll l μ else if n = 144 then aX8_enters l μ else if n = 217 then aX8_adds l μ else none
theorem hcX8_fells {base : Nat} {D : va_G} {ca : Nat → ClassId} {cv : Nat → Value} (hcv : ∀ j, (cv j).category = 1) : ∀ M as μ r, cfX8_fells M as μ = some r → qGood false base D ca cv 1003 M as μ r := by
  intro M as μ r h
  unfold cfX8_fells at h
  split at h
  · rename_i e; subst e; exact (gaX8_putsBy hcv h).mono (by omega)
  split at h
  · rename_i e; subst e; exact (gaX8_fellsAll hcv h).mono (by omega)
  split at h
  · rename_i e; subst e; exact (gaX8_enters hcv h).mono (by omega)
  split at h
  · rename_i e; subst e; exact (gaX8_adds hcv h).mono (by omega)
  cases h
def jX8_fells_15 (f : Nat → Int32 → Int32 → qM → Option qR) (L S : List Value) (μ : qM) : Option qR := match L, S with
  | [.ref x0, .int x1, .int x2], [] => f x0 x1 x2 μ
  | _, _ => none
theorem jeX8_fells_15 {base : Nat} {D : va_G} {ca : Nat → ClassId} {cv : Nat → Value} {d : Nat} {f : Nat → Int32 → Int32 → qM → Option qR} (hf : ∀ (x0 : Nat) (x1 : Int32) (x2 : Int32) (μ : qM) (r : qR), f x0 x1 x2 μ = some r → qEv false base D ca cv d 229 r 15 [.ref x0, .int x1, .int x2] [] μ) {L S : List Value} {μ : qM} {r : qR} (h : jX8_fells_15 f L S μ = some r) : qEv false base D ca cv d 229 r 15 L S μ := by
  unfold jX8_fells_15 at h
  split at h
  · exact (hf _ _ _ _ _ h).le rfl ⟨Or.inr rfl, Or.inr rfl, Or.inr rfl, trivial⟩
  · cases h
set_option maxRecDepth 100000 in
theorem lbX8_fells_15 {base : Nat} {D : va_G} {ca : Nat → ClassId} {cv : Nat → Value} (hcv : ∀ j, (cv j).category = 1) : ∀ (n : Nat) (x0 : Nat) (x1 : Int32) (x2 : Int32) (μ : qM) (r : qR), fX8_fells_15 n x0 x1 x2 μ = some r → qEv false base D ca cv 1004 229 r 15 [.ref x0, .int x1, .int x2] [] μ := by
  intro n
  induction n with
  | zero => intro x0 x1 x2 μ r h; cases (show (none : Option qR) = some r from h)
  | succ n ih =>
    intro x0 x1 x2 μ r h
    exact qblk_ev2 (cf := cfX8_fells) (st := (fun n => qin [15] n)) (K := (fun pc L S μ => if pc = 15 then jX8_fells_15 (fX8_fells_15 n) L S μ else none)) (cd := qcX8_fells) (M := 229) (d0 := 1003) rfl qcok_X8_fells (Nat.le_refl _) (hcX8_fells hcv) (by
    intro pc L S μ r h
    split at h
    · rename_i e; subst e; exact jeX8_fells_15 ih h
    cases h) 400 (pc := 15) (L := [.ref x0, .int x1, .int x2]) (S := []) h
theorem npX8_fells : (parseMethodDescriptor (qmy 229).desc).map (fun d => d.parameters.length) = some 0 := by decide +kernel
set_option maxRecDepth 100000 in
theorem gdX8_fells {base : Nat} {D : va_G} {ca : Nat → ClassId} {cv : Nat → Value} (hcv : ∀ j, (cv j).category = 1) {a0 : Nat} {μ : qM} {r : qR} (h : fX8_fells a0 μ = some r) : qGood false base D ca cv 1004 229 [.ref a0] μ r := by
  unfold fX8_fells at h
  split at h
  · rename_i hk0
    exact qgood_of (by decide) (by omega) hcv (Or.inr ⟨by decide +kernel, hk0⟩) npX8_fells rfl (Nat.le_of_ble_eq_true rfl) rfl (qblk_ev2 (cf := cfX8_fells) (st := (fun n => qin [15] n)) (K := (fun pc L S μ => if pc = 15 then jX8_fells_15 (fX8_fells_15 qfu) L S μ else none)) (cd := qcX8_fells) (M := 229) (d0 := 1003) rfl qcok_X8_fells (Nat.le_refl _) (hcX8_fells hcv) (by
    intro pc L S μ r h
    split at h
    · rename_i e; subst e; exact jeX8_fells_15 (lbX8_fells_15 hcv qfu) h
    cases h) 400 (pc := 0) (L := qent [.ref a0] 3) (S := []) h)
  · cases h
theorem gaX8_fells {base : Nat} {D : va_G} {ca : Nat → ClassId} {cv : Nat → Value} (hcv : ∀ j, (cv j).category = 1) {l : List Value} {μ : qM} {r : qR} (h : aX8_fells l μ = some r) : qGood false base D ca cv 1004 229 l μ r := by
  unfold aX8_fells at h
  split at h
  · exact gdX8_fells hcv h
  · cases h
noncomputable def fX8_readsAct_84 (x0 : Nat) (x1 : Int32) (μ : qM) : Option qR :=
  qbnd (oGetP μ 8 x0 22) fun v1 =>
  qbnd (oLdI 20 μ v1 x1) fun v2 =>
  if v2 < 0 then
    if qnz (0 : Int32) = (0 : Int32) then some ((0 : Int32), 0, μ) else none
  else
    if qnz (1 : Int32) = (1 : Int32) then some ((1 : Int32), 0, μ) else none
noncomputable def fX8_readsAct_72 (x0 : Nat) (x1 : Int32) (s0 : Int32) (s1 : Int32) (s2 : Nat) (μ : qM) : Option qR :=
  qbnd (oStI 20 μ s2 s1 s0) fun μ1 =>
  qbnd (oGetP μ1 8 x0 22) fun v2 =>
  qbnd (oLdI 20 μ1 v2 x1) fun v3 =>
  if v3 < 0 then
    fX8_readsAct_84 x0 x1 μ1
  else
    qbnd (oGetP μ1 8 x0 20) fun v4 =>
    qbnd (oLdI 20 μ1 v4 x1) fun v5 =>
    if (7 : Int32) ≤ v5 then
      qbnd (oGetP μ1 8 x0 23) fun v6 =>
      qbnd (fX8_number x0 (1 : Int32) μ1) fun r7 =>
      qbnd (oStI 20 r7.2.2 v6 x1 r7.1) fun μ8 =>
      qbnd (oGetP μ8 8 x0 23) fun v9 =>
      qbnd (oLdI 20 μ8 v9 x1) fun v10 =>
      if v10 < 0 then
        if qnz (0 : Int32) = (0 : Int32) then some ((0 : Int32), 0, μ8) else none
      else
        if qnz (1 : Int32) = (1 : Int32) then some ((1 : Int32), 0, μ8) else none
    else
      fX8_readsAct_84 x0 x1 μ1
noncomputable def fX8_readsAct_48 (x0 : Nat) (x1 : Int32) (μ : qM) : Option qR :=
  qbnd (oGetP μ 8 x0 21) fun v1 =>
  qbnd (oLdI 20 μ v1 x1) fun v2 =>
  if v2 < 0 then
    if qnz (0 : Int32) = (0 : Int32) then some ((0 : Int32), 0, μ) else none
  else
    if qnz (1 : Int32) = (1 : Int32) then some ((1 : Int32), 0, μ) else none
noncomputable def gX8_readsAct (a0 : Nat) (μ : qM) : Option qR :=
  qbnd (oGetI μ 8 a0 24) fun v1 =>
  qbnd (oGetP μ 8 a0 20) fun v2 =>
  qbnd (fX8_takesOf a0 22 μ) fun r3 =>
  qbnd (oStI 20 r3.2.2 v2 v1 r3.1) fun μ4 =>
  qbnd (oGetI μ4 8 a0 24) fun v5 =>
  qbnd (oPutI μ4 8 a0 24 (v5 + (1 : Int32))) fun μ6 =>
  qbnd (oGetP μ6 8 a0 20) fun v7 =>
  qbnd (oLdI 20 μ6 v7 v1) fun v8 =>
  if 0 < v8 then
    qbnd (oGetP μ6 8 a0 21) fun v9 =>
    qbnd (fX8_number a0 (1 : Int32) μ6) fun r10 =>
    qbnd (oStI 20 r10.2.2 v9 v1 r10.1) fun μ11 =>
    qbnd (oGetP μ11 8 a0 21) fun v12 =>
    qbnd (oLdI 20 μ11 v12 v1) fun v13 =>
    if v13 < 0 then
      fX8_readsAct_48 a0 v1 μ11
    else
      qbnd (oGetP μ11 8 a0 20) fun v14 =>
      qbnd (oLdI 20 μ11 v14 v1) fun v15 =>
      if (4 : Int32) ≤ v15 then
        qbnd (oGetP μ11 8 a0 22) fun v16 =>
        qbnd (oGetP μ11 8 a0 20) fun v17 =>
        qbnd (oLdI 20 μ11 v17 v1) fun v18 =>
        if v18 = (4 : Int32) then
          qbnd (fX8_number a0 (1 : Int32) μ11) fun r20 =>
          fX8_readsAct_72 a0 v1 r20.1 v1 v16 r20.2.2
        else
          qbnd (fX8_two a0 μ11) fun r19 =>
          fX8_readsAct_72 a0 v1 r19.1 v1 v16 r19.2.2
      else
        fX8_readsAct_48 a0 v1 μ11
  else
    qbnd (oGetP μ6 8 a0 20) fun v21 =>
    qbnd (oLdI 20 μ6 v21 v1) fun v22 =>
    if v22 = 0 then
      if qnz (1 : Int32) = (1 : Int32) then some ((1 : Int32), 0, μ6) else none
    else
      if qnz (0 : Int32) = (0 : Int32) then some ((0 : Int32), 0, μ6) else none
noncomputable def fX8_readsAct (a0 : Nat) (μ : qM) : Option qR := if (qk μ a0).1 = 8 then gX8_readsAct a0 μ else none
noncomputable def aX8_readsAct (l : List Value) (μ : qM) : Option qR := match l with
  | [.ref x0] => fX8_readsAct x0 μ
  | _ => none
noncomputable def cfX8_readsAct : qF := fun n l μ => if n = 157 then aX8_takesOf l μ else if n = 158 then aX8_number l μ else if n = 159 then aX8_two l μ else none
theorem hcX8_readsAct {base : Nat} {D : va_G} {ca : Nat → ClassId} {cv : Nat → Value} (hcv : ∀ j, (cv j).category = 1) : ∀ M as μ r, cfX8_readsAct M as μ = some r → qGood false base D ca cv 5 M as μ r := by
  intro M as μ r h
  unfold cfX8_readsAct at h
  split at h
  · rename_i e; subst e; exact (gaX8_takesOf hcv h).mono (by omega)
  split at h
  · rename_i e; subst e; exact (gaX8_number hcv h).mono (by omega)
  split at h
  · rename_i e; subst e; exact (gaX8_two hcv h).mono (by omega)
  cases h
def jX8_readsAct_48 (f : Nat → Int32 → qM → Option qR) (L S : List Value) (μ : qM) : Option qR := match L, S with
  | [.ref x0, .int x1], [] => f x0 x1 μ
  | _, _ => none
theorem jeX8_readsAct_48 {base : Nat} {D : va_G} {ca : Nat → ClassId} {cv : Nat → Value} {d : Nat} {f : Nat → Int32 → qM → Option qR} (hf : ∀ (x0 : Nat) (x1 : Int32) (μ : qM) (r : qR), f x0 x1 μ = some r → qEv false base D ca cv d 230 r 48 [.ref x0, .int x1] [] μ) {L S : List Value} {μ : qM} {r : qR} (h : jX8_readsAct_48 f L S μ = some r) : qEv false base D ca cv d 230 r 48 L S μ := by
  unfold jX8_readsAct_48 at h
  split at h
  · exact (hf _ _ _ _ h).le rfl ⟨Or.inr rfl, Or.inr rfl, trivial⟩
  · cases h
def jX8_readsAct_72 (f : Nat → Int32 → Int32 → Int32 → Nat → qM → Option qR) (L S : List Value) (μ : qM) : Option qR := match L, S with
  | [.ref x0, .int x1], [.int s0, .int s1, .ref s2] => f x0 x1 s0 s1 s2 μ
  | _, _ => none
theorem jeX8_readsAct_72 {base : Nat} {D : va_G} {ca : Nat → ClassId} {cv : Nat → Value} {d : Nat} {f : Nat → Int32 → Int32 → Int32 → Nat → qM → Option qR} (hf : ∀ (x0 : Nat) (x1 : Int32) (s0 : Int32) (s1 : Int32) (s2 : Nat) (μ : qM) (r : qR), f x0 x1 s0 s1 s2 μ = some r → qEv false base D ca cv d 230 r 72 [.ref x0, .int x1] [.int s0, .int s1, .ref s2] μ) {L S : List Value} {μ : qM} {r : qR} (h : jX8_readsAct_72 f L S μ = some r) : qEv false base D ca cv d 230 r 72 L S μ := by
  unfold jX8_readsAct_72 at h
  split at h
  · exact (hf _ _ _ _ _ _ _ h).le rfl ⟨Or.inr rfl, Or.inr rfl, trivial⟩
  · cases h
def jX8_readsAct_84 (f : Nat → Int32 → qM → Option qR) (L S : List Value) (μ : qM) : Option qR := match L, S with
  | [.ref x0, .int x1], [] => f x0 x1 μ
  | _, _ => none
theorem jeX8_readsAct_84 {base : Nat} {D : va_G} {ca : Nat → ClassId} {cv : Nat → Value} {d : Nat} {f : Nat → Int32 → qM → Option qR} (hf : ∀ (x0 : Nat) (x1 : Int32) (μ : qM) (r : qR), f x0 x1 μ = some r → qEv false base D ca cv d 230 r 84 [.ref x0, .int x1] [] μ) {L S : List Value} {μ : qM} {r : qR} (h : jX8_readsAct_84 f L S μ = some r) : qEv false base D ca cv d 230 r 84 L S μ := by
  unfold jX8_readsAct_84 at h
  split at h
  · exact (hf _ _ _ _ h).le rfl ⟨Or.inr rfl, Or.inr rfl, trivial⟩
  · cases h
set_option maxRecDepth 100000 in
theorem lbX8_readsAct_84 {base : Nat} {D : va_G} {ca : Nat → ClassId} {cv : Nat → Value} (hcv : ∀ j, (cv j).category = 1) (x0 : Nat) (x1 : Int32) (μ : qM) (r : qR) (h : fX8_readsAct_84 x0 x1 μ = some r) : qEv false base D ca cv 6 230 r 84 [.ref x0, .int x1] [] μ := by
    exact qblk_ev2 (cf := cfX8_readsAct) (st := (fun n => qin [48, 72, 84] n)) (K := (fun pc L S μ => none)) (cd := qcX8_readsAct) (M := 230) (d0 := 5) rfl qcok_X8_readsAct (Nat.le_refl _) (hcX8_readsAct hcv) (by
    intro pc L S μ r h
    cases h) 400 (pc := 84) (L := [.ref x0, .int x1]) (S := []) h
set_option maxRecDepth 100000 in
theorem lbX8_readsAct_72 {base : Nat} {D : va_G} {ca : Nat → ClassId} {cv : Nat → Value} (hcv : ∀ j, (cv j).category = 1) (x0 : Nat) (x1 : Int32) (s0 : Int32) (s1 : Int32) (s2 : Nat) (μ : qM) (r : qR) (h : fX8_readsAct_72 x0 x1 s0 s1 s2 μ = some r) : qEv false base D ca cv 6 230 r 72 [.ref x0, .int x1] [.int s0, .int s1, .ref s2] μ := by
    exact qblk_ev2 (cf := cfX8_readsAct) (st := (fun n => qin [48, 72, 84] n)) (K := (fun pc L S μ => if pc = 84 then jX8_readsAct_84 (fX8_readsAct_84) L S μ else none)) (cd := qcX8_readsAct) (M := 230) (d0 := 5) rfl qcok_X8_readsAct (Nat.le_refl _) (hcX8_readsAct hcv) (by
    intro pc L S μ r h
    split at h
    · rename_i e; subst e; exact jeX8_readsAct_84 (lbX8_readsAct_84 hcv) h
    cases h) 400 (pc := 72) (L := [.ref x0, .int x1]) (S := [.int s0, .int s1, .ref s2]) h
set_option maxRecDepth 100000 in
theorem lbX8_readsAct_48 {base : Nat} {D : va_G} {ca : Nat → ClassId} {cv : Nat → Value} (hcv : ∀ j, (cv j).category = 1) (x0 : Nat) (x1 : Int32) (μ : qM) (r : qR) (h : fX8_readsAct_48 x0 x1 μ = some r) : qEv false base D ca cv 6 230 r 48 [.ref x0, .int x1] [] μ := by
    exact qblk_ev2 (cf := cfX8_readsAct) (st := (fun n => qin [48, 72, 84] n)) (K := (fun pc L S μ => none)) (cd := qcX8_readsAct) (M := 230) (d0 := 5) rfl qcok_X8_readsAct (Nat.le_refl _) (hcX8_readsAct hcv) (by
    intro pc L S μ r h
    cases h) 400 (pc := 48) (L := [.ref x0, .int x1]) (S := []) h
theorem npX8_readsAct : (parseMethodDescriptor (qmy 230).desc).map (fun d => d.parameters.length) = some 0 := by decide +kernel
set_option maxRecDepth 100000 in
theorem gdX8_readsAct {base : Nat} {D : va_G} {ca : Nat → ClassId} {cv : Nat → Value} (hcv : ∀ j, (cv j).category = 1) {a0 : Nat} {μ : qM} {r : qR} (h : fX8_readsAct a0 μ = some r) : qGood false base D ca cv 6 230 [.ref a0] μ r := by
  unfold fX8_readsAct at h
  split at h
  · rename_i hk0
    exact qgood_of (by decide) (by omega) hcv (Or.inr ⟨by decide +kernel, hk0⟩) npX8_readsAct rfl (Nat.le_of_ble_eq_true rfl) rfl (qblk_ev2 (cf := cfX8_readsAct) (st := (fun n => qin [48, 72, 84] n)) (K := (fun pc L S μ => if pc = 48 then jX8_readsAct_48 (fX8_readsAct_48) L S μ else if pc = 72 then jX8_readsAct_72 (fX8_readsAct_72) L S μ else none)) (cd := qcX8_readsAct) (M := 230) (d0 := 5) rfl qcok_X8_readsAct (Nat.le_refl _) (hcX8_readsAct hcv) (by
    intro pc L S μ r h
    split at h
    · rename_i e; subst e; exact jeX8_readsAct_48 (lbX8_readsAct_48 hcv) h
    split at h
    · rename_i e; subst e; exact jeX8_readsAct_72 (lbX8_readsAct_72 hcv) h
    cases h) 400 (pc := 0) (L := qent [.ref a0] 2) (S := []) h)
  · cases h
theorem gaX8_readsAct {base : Nat} {D : va_G} {ca : Nat → ClassId} {cv : Nat → Value} (hcv : ∀ j, (cv j).category = 1) {l : List Value} {μ : qM} {r : qR} (h : aX8_readsAct l μ = some r) : qGood false base D ca cv 6 230 l μ r := by
  unfold aX8_readsAct at h
  split at h
  · exact gdX8_readsAct hcv h
  · cases h
noncomputable def gX8_does (a0 : Nat) (a1 : Int32) (μ : qM) : Option qR :=
  qbnd (oGetP μ 8 a0 21) fun v1 =>
  qbnd (oLdI 20 μ v1 a1) fun v2 =>
  qbnd (oGetP μ 8 a0 20) fun v3 =>
  qbnd (oLdI 20 μ v3 a1) fun v4 =>
  if v4 = (0 : Int32) then
    qbnd (oGetP μ 8 a0 14) fun v5 =>
    qbnd (fX8_fellsAll a0 v5 μ) fun r6 =>
    some (r6.1, 0, r6.2.2)
  else
  if v4 = (1 : Int32) then
    qbnd (oGetP μ 8 a0 14) fun v7 =>
    qbnd (fX8_beginsOne a0 v7 v2 μ) fun r8 =>
    some (r8.1, 0, r8.2.2)
  else
  if v4 = (2 : Int32) then
    qbnd (oGetP μ 8 a0 14) fun v9 =>
    qbnd (fX8_endsOne a0 v9 v2 μ) fun r10 =>
    some (r10.1, 0, r10.2.2)
  else
  if v4 = (3 : Int32) then
    qbnd (oGetP μ 8 a0 14) fun v11 =>
    qbnd (fX8_bulksOne v11 v2 μ) fun r12 =>
    some (r12.1, 0, r12.2.2)
  else
  if v4 = (4 : Int32) then
    qbnd (oGetP μ 8 a0 14) fun v13 =>
    qbnd (oGetP μ 8 a0 22) fun v14 =>
    qbnd (oLdI 20 μ v14 a1) fun v15 =>
    qbnd (fX8_worksOne v13 v2 v15 μ) fun r16 =>
    some (r16.1, 0, r16.2.2)
  else
  if v4 = (5 : Int32) then
    qbnd (oGetP μ 8 a0 14) fun v17 =>
    qbnd (oGetP μ 8 a0 22) fun v18 =>
    qbnd (oLdI 20 μ v18 a1) fun v19 =>
    qbnd (fX8_unlocksOne a0 v17 v2 v19 μ) fun r20 =>
    some (r20.1, 0, r20.2.2)
  else
  if v4 = (6 : Int32) then
    qbnd (oGetP μ 8 a0 14) fun v21 =>
    qbnd (oGetP μ 8 a0 22) fun v22 =>
    qbnd (oLdI 20 μ v22 a1) fun v23 =>
    qbnd (fX8_gathersAt a0 v21 v2 v23 μ) fun r24 =>
    some (r24.1, 0, r24.2.2)
  else
    qbnd (oGetP μ 8 a0 14) fun v25 =>
    qbnd (oGetP μ 8 a0 22) fun v26 =>
    qbnd (oLdI 20 μ v26 a1) fun v27 =>
    qbnd (oGetP μ 8 a0 23) fun v28 =>
    qbnd (oLdI 20 μ v28 a1) fun v29 =>
    qbnd (fX8_locksOne a0 v25 v2 v27 v29 μ) fun r30 =>
    some (r30.1, 0, r30.2.2)
noncomputable def fX8_does (a0 : Nat) (a1 : Int32) (μ : qM) : Option qR := if (qk μ a0).1 = 8 then gX8_does a0 a1 μ else none
noncomputable def aX8_does (l : List Value) (μ : qM) : Option qR := match l with
  | [.ref x0, .int x1] => fX8_does x0 x1 μ
  | _ => none
noncomputable def cfX8_does : qF := fun n l μ => if n = 215 then aX8_fellsAll l μ else if n = 207 then aX8_beginsOne l μ else if n = 211 then aX8_endsOne l μ else if n = 213 then aX8_bulksOne l μ else if n = 208 then aX8_worksOne l μ else if n = 209 then aX8_unlocksOne l μ else if n = 212 then aX8_gathersAt l μ else if n = 206 then aX8_locksOne l μ else none
theorem hcX8_does {base : Nat} {D : va_G} {ca : Nat → ClassId} {cv : Nat → Value} (hcv : ∀ j, (cv j).category = 1) : ∀ M as μ r, cfX8_does M as μ = some r → qGood false base D ca cv 1005 M as μ r := by
  intro M as μ r h
  unfold cfX8_does at h
  split at h
  · rename_i e; subst e; exact (gaX8_fellsAll hcv h).mono (by omega)
  split at h
  · rename_i e; subst e; exact (gaX8_beginsOne hcv h).mono (by omega)
  split at h
  · rename_i e; subst e; exact (gaX8_endsOne hcv h).mono (by omega)
  split at h
  · rename_i e; subst e; exact (gaX8_bulksOne hcv h).mono (by omega)
  split at h
  · rename_i e; subst e; exact (gaX8_worksOne hcv h).mono (by omega)
  split at h
  · rename_i e; subst e; exact (gaX8_unlocksOne hcv h).mono (by omega)
  split at h
  · rename_i e; subst e; exact (gaX8_gathersAt hcv h).mono (by omega)
  split at h
  · rename_i e; subst e; exact (gaX8_locksOne hcv h).mono (by omega)
  cases h
theorem npX8_does : (parseMethodDescriptor (qmy 231).desc).map (fun d => d.parameters.length) = some 1 := by decide +kernel
set_option maxRecDepth 100000 in
theorem gdX8_does {base : Nat} {D : va_G} {ca : Nat → ClassId} {cv : Nat → Value} (hcv : ∀ j, (cv j).category = 1) {a0 : Nat} {a1 : Int32} {μ : qM} {r : qR} (h : fX8_does a0 a1 μ = some r) : qGood false base D ca cv 1006 231 [.ref a0, .int a1] μ r := by
  unfold fX8_does at h
  split at h
  · rename_i hk0
    exact qgood_of (by decide) (by omega) hcv (Or.inr ⟨by decide +kernel, hk0⟩) npX8_does rfl (Nat.le_of_ble_eq_true rfl) rfl (qblk_ev2 (cf := cfX8_does) (st := (fun n => qin [] n)) (K := (fun pc L S μ => none)) (cd := qcX8_does) (M := 231) (d0 := 1005) rfl qcok_X8_does (Nat.le_refl _) (hcX8_does hcv) (by
    intro pc L S μ r h
    cases h) 400 (pc := 0) (L := qent [.ref a0, .int a1] 3) (S := []) h)
  · cases h
theorem gaX8_does {base : Nat} {D : va_G} {ca : Nat → ClassId} {cv : Nat → Value} (hcv : ∀ j, (cv j).category = 1) {l : List Value} {μ : qM} {r : qR} (h : aX8_does l μ = some r) : qGood false base D ca cv 1006 231 l μ r := by
  unfold aX8_does at h
  split at h
  · exact gdX8_does hcv h
  · cases h
noncomputable def fX8_day_48 (x0 : Nat) (x1 : Int32) (s0 : Int32) (s1 : Nat) (μ : qM) : Option qR :=
  qbnd (fX8_flag s0 μ) fun r1 =>
  qbnd (fX8_enters s1 (r1.1).toInt64 r1.2.2) fun r2 =>
  qbnd (oGetP r2.2.2 8 x0 14) fun v3 =>
  qbnd (fX8_so v3 (2 : Int32) r2.2.2) fun r4 =>
  qbnd (fX8_enters x0 (r4.1).toInt64 r4.2.2) fun r5 =>
  if x1 ≤ 0 then
    some ((0 : Int32), 0, r5.2.2)
  else
    qbnd (fX8_adds x0 x1 r5.2.2) fun r6 =>
    some (r6.1, 0, r6.2.2)
noncomputable def fX8_day_37 (x0 : Nat) (x1 : Int32) (μ : qM) : Option qR :=
  qbnd (oPutI μ 8 x0 1 (0 : Int32)) fun μ1 =>
  qbnd (oGetI μ1 8 x0 24) fun v2 =>
  if v2 ≤ x1 then
    fX8_day_48 x0 x1 (0 : Int32) x0 μ1
  else
    fX8_day_48 x0 x1 (1 : Int32) x0 μ1
noncomputable def fX8_day_27 : Nat → Nat → Int32 → qM → Option qR
  | 0 => fun _ _ _ => none
  | n + 1 => fun x0 x1 μ =>
    qbnd (oGetI μ 8 x0 24) fun v1 =>
    if v1 ≤ x1 then
      fX8_day_37 x0 x1 μ
    else
      qbnd (fX8_does x0 x1 μ) fun r2 =>
      if r2.1 < 0 then
        fX8_day_37 x0 x1 r2.2.2
      else
        fX8_day_27 n x0 (x1 + (1 : Int32)) r2.2.2
noncomputable def fX8_day_10 : Nat → Nat → qM → Option qR
  | 0 => fun _ _ => none
  | n + 1 => fun x0 μ =>
    qbnd (oGetI μ 8 x0 5) fun v1 =>
    qbnd (oGetI μ 8 x0 6) fun v2 =>
    if v2 ≤ v1 then
      qbnd (fX8_putsBy x0 μ) fun r3 =>
      fX8_day_27 qfu x0 (0 : Int32) r3.2.2
    else
      qbnd (fX8_readsAct x0 μ) fun r4 =>
      if r4.1 = 0 then
        qbnd (oGetI r4.2.2 8 x0 5) fun v5 =>
        some (((-1 : Int32) - v5), 0, r4.2.2)
      else
        fX8_day_10 n x0 r4.2.2
noncomputable def gX8_day (a0 : Nat) (μ : qM) : Option qR :=
  qbnd (oPutI μ 8 a0 0 (0 : Int32)) fun μ1 =>
  qbnd (fX8_reads a0 (80 : Int32) μ1) fun r2 =>
  qbnd (oPutI r2.2.2 8 a0 24 (0 : Int32)) fun μ3 =>
  fX8_day_10 qfu a0 μ3
noncomputable def fX8_day (a0 : Nat) (μ : qM) : Option qR := if (qk μ a0).1 = 8 then gX8_day a0 μ else none
noncomputable def aX8_day (l : List Value) (μ : qM) : Option qR := match l with
  | [.ref x0] => fX8_day x0 μ
  | _ => none
noncomputable def cfX8_day : qF := fun n l μ => if n = 154 then aX8_reads l μ else if n = 230 then aX8_readsAct l μ else if n = 216 then aX8_putsBy l μ else if n = 231 then aX8_does l μ else if n = 143 then aX8_flag l μ else if n = 144 then aX8_enters l μ else if n = 175 then aX8_so l μ else if n = 217 then aX8_adds l μ else none
theorem hcX8_day {base : Nat} {D : va_G} {ca : Nat → ClassId} {cv : Nat → Value} (hcv : ∀ j, (cv j).category = 1) : ∀ M as μ r, cfX8_day M as μ = some r → qGood false base D ca cv 1006 M as μ r := by
  intro M as μ r h
  unfold cfX8_day at h
  split at h
  · rename_i e; subst e; exact (gaX8_reads hcv h).mono (by omega)
  split at h
  · rename_i e; subst e; exact (gaX8_readsAct hcv h).mono (by omega)
  split at h
  · rename_i e; subst e; exact (gaX8_putsBy hcv h).mono (by omega)
  split at h
  · rename_i e; subst e; exact (gaX8_does hcv h).mono (by omega)
  split at h
  · rename_i e; subst e; exact (gaX8_flag hcv h).mono (by omega)
  split at h
  · rename_i e; subst e; exact (gaX8_enters hcv h).mono (by omega)
  split at h
  · rename_i e; subst e; exact (gaX8_so hcv h).mono (by omega)
  split at h
  · rename_i e; subst e; exact (gaX8_adds hcv h).mono (by omega)
  cases h
def jX8_day_10 (f : Nat → qM → Option qR) (L S : List Value) (μ : qM) : Option qR := match L, S with
  | [.ref x0, _], [] => f x0 μ
  | _, _ => none
theorem jeX8_day_10 {base : Nat} {D : va_G} {ca : Nat → ClassId} {cv : Nat → Value} {d : Nat} {f : Nat → qM → Option qR} (hf : ∀ (x0 : Nat) (μ : qM) (r : qR), f x0 μ = some r → qEv false base D ca cv d 232 r 10 [.ref x0, .null] [] μ) {L S : List Value} {μ : qM} {r : qR} (h : jX8_day_10 f L S μ = some r) : qEv false base D ca cv d 232 r 10 L S μ := by
  unfold jX8_day_10 at h
  split at h
  · exact (hf _ _ _ h).le rfl ⟨Or.inr rfl, Or.inl rfl, trivial⟩
  · cases h
def jX8_day_27 (f : Nat → Int32 → qM → Option qR) (L S : List Value) (μ : qM) : Option qR := match L, S with
  | [.ref x0, .int x1], [] => f x0 x1 μ
  | _, _ => none
theorem jeX8_day_27 {base : Nat} {D : va_G} {ca : Nat → ClassId} {cv : Nat → Value} {d : Nat} {f : Nat → Int32 → qM → Option qR} (hf : ∀ (x0 : Nat) (x1 : Int32) (μ : qM) (r : qR), f x0 x1 μ = some r → qEv false base D ca cv d 232 r 27 [.ref x0, .int x1] [] μ) {L S : List Value} {μ : qM} {r : qR} (h : jX8_day_27 f L S μ = some r) : qEv false base D ca cv d 232 r 27 L S μ := by
  unfold jX8_day_27 at h
  split at h
  · exact (hf _ _ _ _ h).le rfl ⟨Or.inr rfl, Or.inr rfl, trivial⟩
  · cases h
def jX8_day_37 (f : Nat → Int32 → qM → Option qR) (L S : List Value) (μ : qM) : Option qR := match L, S with
  | [.ref x0, .int x1], [] => f x0 x1 μ
  | _, _ => none
theorem jeX8_day_37 {base : Nat} {D : va_G} {ca : Nat → ClassId} {cv : Nat → Value} {d : Nat} {f : Nat → Int32 → qM → Option qR} (hf : ∀ (x0 : Nat) (x1 : Int32) (μ : qM) (r : qR), f x0 x1 μ = some r → qEv false base D ca cv d 232 r 37 [.ref x0, .int x1] [] μ) {L S : List Value} {μ : qM} {r : qR} (h : jX8_day_37 f L S μ = some r) : qEv false base D ca cv d 232 r 37 L S μ := by
  unfold jX8_day_37 at h
  split at h
  · exact (hf _ _ _ _ h).le rfl ⟨Or.inr rfl, Or.inr rfl, trivial⟩
  · cases h
def jX8_day_48 (f : Nat → Int32 → Int32 → Nat → qM → Option qR) (L S : List Value) (μ : qM) : Option qR := match L, S with
  | [.ref x0, .int x1], [.int s0, .ref s1] => f x0 x1 s0 s1 μ
  | _, _ => none
theorem jeX8_day_48 {base : Nat} {D : va_G} {ca : Nat → ClassId} {cv : Nat → Value} {d : Nat} {f : Nat → Int32 → Int32 → Nat → qM → Option qR} (hf : ∀ (x0 : Nat) (x1 : Int32) (s0 : Int32) (s1 : Nat) (μ : qM) (r : qR), f x0 x1 s0 s1 μ = some r → qEv false base D ca cv d 232 r 48 [.ref x0, .int x1] [.int s0, .ref s1] μ) {L S : List Value} {μ : qM} {r : qR} (h : jX8_day_48 f L S μ = some r) : qEv false base D ca cv d 232 r 48 L S μ := by
  unfold jX8_day_48 at h
  split at h
  · exact (hf _ _ _ _ _ _ h).le rfl ⟨Or.inr rfl, Or.inr rfl, trivial⟩
  · cases h
set_option maxRecDepth 100000 in
theorem lbX8_day_48 {base : Nat} {D : va_G} {ca : Nat → ClassId} {cv : Nat → Value} (hcv : ∀ j, (cv j).category = 1) (x0 : Nat) (x1 : Int32) (s0 : Int32) (s1 : Nat) (μ : qM) (r : qR) (h : fX8_day_48 x0 x1 s0 s1 μ = some r) : qEv false base D ca cv 1007 232 r 48 [.ref x0, .int x1] [.int s0, .ref s1] μ := by
    exact qblk_ev2 (cf := cfX8_day) (st := (fun n => qin [10, 27, 37, 48] n)) (K := (fun pc L S μ => none)) (cd := qcX8_day) (M := 232) (d0 := 1006) rfl qcok_X8_day (Nat.le_refl _) (hcX8_day hcv) (by
    intro pc L S μ r h
    cases h) 400 (pc := 48) (L := [.ref x0, .int x1]) (S := [.int s0, .ref s1]) h
set_option maxRecDepth 100000 in
theorem lbX8_day_37 {base : Nat} {D : va_G} {ca : Nat → ClassId} {cv : Nat → Value} (hcv : ∀ j, (cv j).category = 1) (x0 : Nat) (x1 : Int32) (μ : qM) (r : qR) (h : fX8_day_37 x0 x1 μ = some r) : qEv false base D ca cv 1007 232 r 37 [.ref x0, .int x1] [] μ := by
    exact qblk_ev2 (cf := cfX8_day) (st := (fun n => qin [10, 27, 37, 48] n)) (K := (fun pc L S μ => if pc = 48 then jX8_day_48 (fX8_day_48) L S μ else none)) (cd := qcX8_day) (M := 232) (d0 := 1006) rfl qcok_X8_day (Nat.le_refl _) (hcX8_day hcv) (by
    intro pc L S μ r h
    split at h
    · rename_i e; subst e; exact jeX8_day_48 (lbX8_day_48 hcv) h
    cases h) 400 (pc := 37) (L := [.ref x0, .int x1]) (S := []) h
set_option maxRecDepth 100000 in
theorem lbX8_day_27 {base : Nat} {D : va_G} {ca : Nat → ClassId} {cv : Nat → Value} (hcv : ∀ j, (cv j).category = 1) : ∀ (n : Nat) (x0 : Nat) (x1 : Int32) (μ : qM) (r : qR), fX8_day_27 n x0 x1 μ = some r → qEv false base D ca cv 1007 232 r 27 [.ref x0, .int x1] [] μ := by
  intro n
  induction n with
  | zero => intro x0 x1 μ r h; cases (show (none : Option qR) = some r from h)
  | succ n ih =>
    intro x0 x1 μ r h
    exact qblk_ev2 (cf := cfX8_day) (st := (fun n => qin [10, 27, 37, 48] n)) (K := (fun pc L S μ => if pc = 27 then jX8_day_27 (fX8_day_27 n) L S μ else if pc = 37 then jX8_day_37 (fX8_day_37) L S μ else none)) (cd := qcX8_day) (M := 232) (d0 := 1006) rfl qcok_X8_day (Nat.le_refl _) (hcX8_day hcv) (by
    intro pc L S μ r h
    split at h
    · rename_i e; subst e; exact jeX8_day_27 ih h
    split at h
    · rename_i e; subst e; exact jeX8_day_37 (lbX8_day_37 hcv) h
    cases h) 400 (pc := 27) (L := [.ref x0, .int x1]) (S := []) h
set_option maxRecDepth 100000 in
theorem lbX8_day_10 {base : Nat} {D : va_G} {ca : Nat → ClassId} {cv : Nat → Value} (hcv : ∀ j, (cv j).category = 1) : ∀ (n : Nat) (x0 : Nat) (μ : qM) (r : qR), fX8_day_10 n x0 μ = some r → qEv false base D ca cv 1007 232 r 10 [.ref x0, .null] [] μ := by
  intro n
  induction n with
  | zero => intro x0 μ r h; cases (show (none : Option qR) = some r from h)
  | succ n ih =>
    intro x0 μ r h
    exact qblk_ev2 (cf := cfX8_day) (st := (fun n => qin [10, 27, 37, 48] n)) (K := (fun pc L S μ => if pc = 10 then jX8_day_10 (fX8_day_10 n) L S μ else if pc = 27 then jX8_day_27 (fX8_day_27 qfu) L S μ else none)) (cd := qcX8_day) (M := 232) (d0 := 1006) rfl qcok_X8_day (Nat.le_refl _) (hcX8_day hcv) (by
    intro pc L S μ r h
    split at h
    · rename_i e; subst e; exact jeX8_day_10 ih h
    split at h
    · rename_i e; subst e; exact jeX8_day_27 (lbX8_day_27 hcv qfu) h
    cases h) 400 (pc := 10) (L := [.ref x0, .null]) (S := []) h
theorem npX8_day : (parseMethodDescriptor (qmy 232).desc).map (fun d => d.parameters.length) = some 0 := by decide +kernel
set_option maxRecDepth 100000 in
theorem gdX8_day {base : Nat} {D : va_G} {ca : Nat → ClassId} {cv : Nat → Value} (hcv : ∀ j, (cv j).category = 1) {a0 : Nat} {μ : qM} {r : qR} (h : fX8_day a0 μ = some r) : qGood false base D ca cv 1007 232 [.ref a0] μ r := by
  unfold fX8_day at h
  split at h
  · rename_i hk0
    exact qgood_of (by decide) (by omega) hcv (Or.inr ⟨by decide +kernel, hk0⟩) npX8_day rfl (Nat.le_of_ble_eq_true rfl) rfl (qblk_ev2 (cf := cfX8_day) (st := (fun n => qin [10, 27, 37, 48] n)) (K := (fun pc L S μ => if pc = 10 then jX8_day_10 (fX8_day_10 qfu) L S μ else none)) (cd := qcX8_day) (M := 232) (d0 := 1006) rfl qcok_X8_day (Nat.le_refl _) (hcX8_day hcv) (by
    intro pc L S μ r h
    split at h
    · rename_i e; subst e; exact jeX8_day_10 (lbX8_day_10 hcv qfu) h
    cases h) 400 (pc := 0) (L := qent [.ref a0] 2) (S := []) h)
  · cases h
theorem gaX8_day {base : Nat} {D : va_G} {ca : Nat → ClassId} {cv : Nat → Value} (hcv : ∀ j, (cv j).category = 1) {l : List Value} {μ : qM} {r : qR} (h : aX8_day l μ = some r) : qGood false base D ca cv 1007 232 l μ r := by
  unfold aX8_day at h
  split at h
  · exact gdX8_day hcv h
  · cases h
noncomputable def fX8_holders_29 (k14 : Nat → Int32 → Int32 → Int32 → Int32 → qM → Option qR) (x0 : Nat) (x1 : Int32) (x3 : Int32) (x4 : Int32) (s0 : Int32) (s1 : Int32) (μ : qM) : Option qR :=
  qbnd (oGetP μ 8 x0 14) fun v1 =>
  qbnd (fX8_held v1 x4 x1 μ) fun r2 =>
  qbnd (fX8_both x3 r2.1 r2.2.2) fun r3 =>
  k14 x0 x1 (s1 ||| s0) r3.1 (x4 + (1 : Int32)) r3.2.2
noncomputable def fX8_holders_14 : Nat → Nat → Int32 → Int32 → Int32 → Int32 → qM → Option qR
  | 0 => fun _ _ _ _ _ _ => none
  | n + 1 => fun x0 x1 x2 x3 x4 μ =>
    if (8 : Int32) ≤ x4 then
      qbnd (oPutI μ 8 x0 1 (0 : Int32)) fun μ1 =>
      qbnd (fX8_enters x0 (x3).toInt64 μ1) fun r2 =>
      some (x2, 0, r2.2.2)
    else
      qbnd (oGetP μ 8 x0 14) fun v3 =>
      qbnd (fX8_held v3 x4 x1 μ) fun r4 =>
      if r4.1 ≤ 0 then
        fX8_holders_29 (fX8_holders_14 n) x0 x1 x3 x4 (0 : Int32) x2 r4.2.2
      else
        fX8_holders_29 (fX8_holders_14 n) x0 x1 x3 x4 ((1 : Int32) <<< (x4 &&& 31)) x2 r4.2.2
noncomputable def gX8_holders (a0 : Nat) (a1 : Int32) (μ : qM) : Option qR :=
  qbnd (oPutI μ 8 a0 0 (0 : Int32)) fun μ1 =>
  qbnd (fX8_isPlace a1 μ1) fun r2 =>
  if r2.1 = 0 then
    some ((-1 : Int32), 0, r2.2.2)
  else
    fX8_holders_14 qfu a0 a1 (0 : Int32) (0 : Int32) (0 : Int32) r2.2.2
noncomputable def fX8_holders (a0 : Nat) (a1 : Int32) (μ : qM) : Option qR := if (qk μ a0).1 = 8 then gX8_holders a0 a1 μ else none
noncomputable def aX8_holders (l : List Value) (μ : qM) : Option qR := match l with
  | [.ref x0, .int x1] => fX8_holders x0 x1 μ
  | _ => none
noncomputable def cfX8_holders : qF := fun n l μ => if n = 147 then aX8_isPlace l μ else if n = 172 then aX8_held l μ else if n = 150 then aX8_both l μ else if n = 144 then aX8_enters l μ else none
theorem hcX8_holders {base : Nat} {D : va_G} {ca : Nat → ClassId} {cv : Nat → Value} (hcv : ∀ j, (cv j).category = 1) : ∀ M as μ r, cfX8_holders M as μ = some r → qGood false base D ca cv 2 M as μ r := by
  intro M as μ r h
  unfold cfX8_holders at h
  split at h
  · rename_i e; subst e; exact (gaX8_isPlace hcv h).mono (by omega)
  split at h
  · rename_i e; subst e; exact (gaX8_held hcv h).mono (by omega)
  split at h
  · rename_i e; subst e; exact (gaX8_both hcv h).mono (by omega)
  split at h
  · rename_i e; subst e; exact (gaX8_enters hcv h).mono (by omega)
  cases h
def jX8_holders_14 (f : Nat → Int32 → Int32 → Int32 → Int32 → qM → Option qR) (L S : List Value) (μ : qM) : Option qR := match L, S with
  | [.ref x0, .int x1, .int x2, .int x3, .int x4], [] => f x0 x1 x2 x3 x4 μ
  | _, _ => none
theorem jeX8_holders_14 {base : Nat} {D : va_G} {ca : Nat → ClassId} {cv : Nat → Value} {d : Nat} {f : Nat → Int32 → Int32 → Int32 → Int32 → qM → Option qR} (hf : ∀ (x0 : Nat) (x1 : Int32) (x2 : Int32) (x3 : Int32) (x4 : Int32) (μ : qM) (r : qR), f x0 x1 x2 x3 x4 μ = some r → qEv false base D ca cv d 233 r 14 [.ref x0, .int x1, .int x2, .int x3, .int x4] [] μ) {L S : List Value} {μ : qM} {r : qR} (h : jX8_holders_14 f L S μ = some r) : qEv false base D ca cv d 233 r 14 L S μ := by
  unfold jX8_holders_14 at h
  split at h
  · exact (hf _ _ _ _ _ _ _ h).le rfl ⟨Or.inr rfl, Or.inr rfl, Or.inr rfl, Or.inr rfl, Or.inr rfl, trivial⟩
  · cases h
def jX8_holders_29 (f : Nat → Int32 → Int32 → Int32 → Int32 → Int32 → qM → Option qR) (L S : List Value) (μ : qM) : Option qR := match L, S with
  | [.ref x0, .int x1, _, .int x3, .int x4], [.int s0, .int s1] => f x0 x1 x3 x4 s0 s1 μ
  | _, _ => none
theorem jeX8_holders_29 {base : Nat} {D : va_G} {ca : Nat → ClassId} {cv : Nat → Value} {d : Nat} {f : Nat → Int32 → Int32 → Int32 → Int32 → Int32 → qM → Option qR} (hf : ∀ (x0 : Nat) (x1 : Int32) (x3 : Int32) (x4 : Int32) (s0 : Int32) (s1 : Int32) (μ : qM) (r : qR), f x0 x1 x3 x4 s0 s1 μ = some r → qEv false base D ca cv d 233 r 29 [.ref x0, .int x1, .null, .int x3, .int x4] [.int s0, .int s1] μ) {L S : List Value} {μ : qM} {r : qR} (h : jX8_holders_29 f L S μ = some r) : qEv false base D ca cv d 233 r 29 L S μ := by
  unfold jX8_holders_29 at h
  split at h
  · exact (hf _ _ _ _ _ _ _ _ h).le rfl ⟨Or.inr rfl, Or.inr rfl, Or.inl rfl, Or.inr rfl, Or.inr rfl, trivial⟩
  · cases h
set_option maxRecDepth 100000 in
theorem lbX8_holders_29 {base : Nat} {D : va_G} {ca : Nat → ClassId} {cv : Nat → Value} (hcv : ∀ j, (cv j).category = 1) {k14 : Nat → Int32 → Int32 → Int32 → Int32 → qM → Option qR} (hk14 : ∀ (y0 : Nat) (y1 : Int32) (y2 : Int32) (y3 : Int32) (y4 : Int32) (μ : qM) (r : qR), k14 y0 y1 y2 y3 y4 μ = some r → qEv false base D ca cv 3 233 r 14 [.ref y0, .int y1, .int y2, .int y3, .int y4] [] μ) (x0 : Nat) (x1 : Int32) (x3 : Int32) (x4 : Int32) (s0 : Int32) (s1 : Int32) (μ : qM) (r : qR) (h : fX8_holders_29 k14 x0 x1 x3 x4 s0 s1 μ = some r) : qEv false base D ca cv 3 233 r 29 [.ref x0, .int x1, .null, .int x3, .int x4] [.int s0, .int s1] μ := by
    exact qblk_ev2 (cf := cfX8_holders) (st := (fun n => qin [14, 29] n)) (K := (fun pc L S μ => if pc = 14 then jX8_holders_14 k14 L S μ else none)) (cd := qcX8_holders) (M := 233) (d0 := 2) rfl qcok_X8_holders (Nat.le_refl _) (hcX8_holders hcv) (by
    intro pc L S μ r h
    split at h
    · rename_i e; subst e; exact jeX8_holders_14 hk14 h
    cases h) 400 (pc := 29) (L := [.ref x0, .int x1, .null, .int x3, .int x4]) (S := [.int s0, .int s1]) h
set_option maxRecDepth 100000 in
theorem lbX8_holders_14 {base : Nat} {D : va_G} {ca : Nat → ClassId} {cv : Nat → Value} (hcv : ∀ j, (cv j).category = 1) : ∀ (n : Nat) (x0 : Nat) (x1 : Int32) (x2 : Int32) (x3 : Int32) (x4 : Int32) (μ : qM) (r : qR), fX8_holders_14 n x0 x1 x2 x3 x4 μ = some r → qEv false base D ca cv 3 233 r 14 [.ref x0, .int x1, .int x2, .int x3, .int x4] [] μ := by
  intro n
  induction n with
  | zero => intro x0 x1 x2 x3 x4 μ r h; cases (show (none : Option qR) = some r from h)
  | succ n ih =>
    intro x0 x1 x2 x3 x4 μ r h
    exact qblk_ev2 (cf := cfX8_holders) (st := (fun n => qin [14, 29] n)) (K := (fun pc L S μ => if pc = 29 then jX8_holders_29 (fX8_holders_29 (fX8_holders_14 n)) L S μ else none)) (cd := qcX8_holders) (M := 233) (d0 := 2) rfl qcok_X8_holders (Nat.le_refl _) (hcX8_holders hcv) (by
    intro pc L S μ r h
    split at h
    · rename_i e; subst e; exact jeX8_holders_29 (lbX8_holders_29 hcv ih) h
    cases h) 400 (pc := 14) (L := [.ref x0, .int x1, .int x2, .int x3, .int x4]) (S := []) h
theorem npX8_holders : (parseMethodDescriptor (qmy 233).desc).map (fun d => d.parameters.length) = some 1 := by decide +kernel
set_option maxRecDepth 100000 in
theorem gdX8_holders {base : Nat} {D : va_G} {ca : Nat → ClassId} {cv : Nat → Value} (hcv : ∀ j, (cv j).category = 1) {a0 : Nat} {a1 : Int32} {μ : qM} {r : qR} (h : fX8_holders a0 a1 μ = some r) : qGood false base D ca cv 3 233 [.ref a0, .int a1] μ r := by
  unfold fX8_holders at h
  split at h
  · rename_i hk0
    exact qgood_of (by decide) (by omega) hcv (Or.inr ⟨by decide +kernel, hk0⟩) npX8_holders rfl (Nat.le_of_ble_eq_true rfl) rfl (qblk_ev2 (cf := cfX8_holders) (st := (fun n => qin [14, 29] n)) (K := (fun pc L S μ => if pc = 14 then jX8_holders_14 (fX8_holders_14 qfu) L S μ else none)) (cd := qcX8_holders) (M := 233) (d0 := 2) rfl qcok_X8_holders (Nat.le_refl _) (hcX8_holders hcv) (by
    intro pc L S μ r h
    split at h
    · rename_i e; subst e; exact jeX8_holders_14 (lbX8_holders_14 hcv qfu) h
    cases h) 400 (pc := 0) (L := qent [.ref a0, .int a1] 5) (S := []) h)
  · cases h
theorem gaX8_holders {base : Nat} {D : va_G} {ca : Nat → ClassId} {cv : Nat → Value} (hcv : ∀ j, (cv j).category = 1) {l : List Value} {μ : qM} {r : qR} (h : aX8_holders l μ = some r) : qGood false base D ca cv 3 233 l μ r := by
  unfold aX8_holders at h
  split at h
  · exact gdX8_holders hcv h
  · cases h
noncomputable def fX8_queue_18 : Nat → Nat → Int32 → Int32 → Int32 → qM → Option qR
  | 0 => fun _ _ _ _ _ => none
  | n + 1 => fun x0 x1 x2 x3 μ =>
    if x2 ≤ x3 then
      some (x2, 0, μ)
    else
      qbnd (oGetP μ 8 x0 14) fun v1 =>
      qbnd (fX8_inQueue v1 x1 x3 μ) fun r2 =>
      qbnd (fX8_enters x0 (r2.1).toInt64 r2.2.2) fun r3 =>
      fX8_queue_18 n x0 x1 x2 (x3 + (1 : Int32)) r3.2.2
noncomputable def gX8_queue (a0 : Nat) (a1 : Int32) (μ : qM) : Option qR :=
  qbnd (oPutI μ 8 a0 0 (0 : Int32)) fun μ1 =>
  qbnd (fX8_isPlace a1 μ1) fun r2 =>
  if r2.1 = 0 then
    some ((-1 : Int32), 0, r2.2.2)
  else
    qbnd (oGetP r2.2.2 8 a0 14) fun v3 =>
    qbnd (fX8_queued v3 a1 r2.2.2) fun r4 =>
    qbnd (oPutI r4.2.2 8 a0 1 (0 : Int32)) fun μ5 =>
    fX8_queue_18 qfu a0 a1 r4.1 (0 : Int32) μ5
noncomputable def fX8_queue (a0 : Nat) (a1 : Int32) (μ : qM) : Option qR := if (qk μ a0).1 = 8 then gX8_queue a0 a1 μ else none
noncomputable def aX8_queue (l : List Value) (μ : qM) : Option qR := match l with
  | [.ref x0, .int x1] => fX8_queue x0 x1 μ
  | _ => none
noncomputable def cfX8_queue : qF := fun n l μ => if n = 147 then aX8_isPlace l μ else if n = 179 then aX8_queued l μ else if n = 182 then aX8_inQueue l μ else if n = 144 then aX8_enters l μ else none
theorem hcX8_queue {base : Nat} {D : va_G} {ca : Nat → ClassId} {cv : Nat → Value} (hcv : ∀ j, (cv j).category = 1) : ∀ M as μ r, cfX8_queue M as μ = some r → qGood false base D ca cv 5 M as μ r := by
  intro M as μ r h
  unfold cfX8_queue at h
  split at h
  · rename_i e; subst e; exact (gaX8_isPlace hcv h).mono (by omega)
  split at h
  · rename_i e; subst e; exact (gaX8_queued hcv h).mono (by omega)
  split at h
  · rename_i e; subst e; exact (gaX8_inQueue hcv h).mono (by omega)
  split at h
  · rename_i e; subst e; exact (gaX8_enters hcv h).mono (by omega)
  cases h
def jX8_queue_18 (f : Nat → Int32 → Int32 → Int32 → qM → Option qR) (L S : List Value) (μ : qM) : Option qR := match L, S with
  | [.ref x0, .int x1, .int x2, .int x3], [] => f x0 x1 x2 x3 μ
  | _, _ => none
theorem jeX8_queue_18 {base : Nat} {D : va_G} {ca : Nat → ClassId} {cv : Nat → Value} {d : Nat} {f : Nat → Int32 → Int32 → Int32 → qM → Option qR} (hf : ∀ (x0 : Nat) (x1 : Int32) (x2 : Int32) (x3 : Int32) (μ : qM) (r : qR), f x0 x1 x2 x3 μ = some r → qEv false base D ca cv d 234 r 18 [.ref x0, .int x1, .int x2, .int x3] [] μ) {L S : List Value} {μ : qM} {r : qR} (h : jX8_queue_18 f L S μ = some r) : qEv false base D ca cv d 234 r 18 L S μ := by
  unfold jX8_queue_18 at h
  split at h
  · exact (hf _ _ _ _ _ _ h).le rfl ⟨Or.inr rfl, Or.inr rfl, Or.inr rfl, Or.inr rfl, trivial⟩
  · cases h
set_option maxRecDepth 100000 in
theorem lbX8_queue_18 {base : Nat} {D : va_G} {ca : Nat → ClassId} {cv : Nat → Value} (hcv : ∀ j, (cv j).category = 1) : ∀ (n : Nat) (x0 : Nat) (x1 : Int32) (x2 : Int32) (x3 : Int32) (μ : qM) (r : qR), fX8_queue_18 n x0 x1 x2 x3 μ = some r → qEv false base D ca cv 6 234 r 18 [.ref x0, .int x1, .int x2, .int x3] [] μ := by
  intro n
  induction n with
  | zero => intro x0 x1 x2 x3 μ r h; cases (show (none : Option qR) = some r from h)
  | succ n ih =>
    intro x0 x1 x2 x3 μ r h
    exact qblk_ev2 (cf := cfX8_queue) (st := (fun n => qin [18] n)) (K := (fun pc L S μ => if pc = 18 then jX8_queue_18 (fX8_queue_18 n) L S μ else none)) (cd := qcX8_queue) (M := 234) (d0 := 5) rfl qcok_X8_queue (Nat.le_refl _) (hcX8_queue hcv) (by
    intro pc L S μ r h
    split at h
    · rename_i e; subst e; exact jeX8_queue_18 ih h
    cases h) 400 (pc := 18) (L := [.ref x0, .int x1, .int x2, .int x3]) (S := []) h
theorem npX8_queue : (parseMethodDescriptor (qmy 234).desc).map (fun d => d.parameters.length) = some 1 := by decide +kernel
set_option maxRecDepth 100000 in
theorem gdX8_queue {base : Nat} {D : va_G} {ca : Nat → ClassId} {cv : Nat → Value} (hcv : ∀ j, (cv j).category = 1) {a0 : Nat} {a1 : Int32} {μ : qM} {r : qR} (h : fX8_queue a0 a1 μ = some r) : qGood false base D ca cv 6 234 [.ref a0, .int a1] μ r := by
  unfold fX8_queue at h
  split at h
  · rename_i hk0
    exact qgood_of (by decide) (by omega) hcv (Or.inr ⟨by decide +kernel, hk0⟩) npX8_queue rfl (Nat.le_of_ble_eq_true rfl) rfl (qblk_ev2 (cf := cfX8_queue) (st := (fun n => qin [18] n)) (K := (fun pc L S μ => if pc = 18 then jX8_queue_18 (fX8_queue_18 qfu) L S μ else none)) (cd := qcX8_queue) (M := 234) (d0 := 5) rfl qcok_X8_queue (Nat.le_refl _) (hcX8_queue hcv) (by
    intro pc L S μ r h
    split at h
    · rename_i e; subst e; exact jeX8_queue_18 (lbX8_queue_18 hcv qfu) h
    cases h) 400 (pc := 0) (L := qent [.ref a0, .int a1] 4) (S := []) h)
  · cases h
theorem gaX8_queue {base : Nat} {D : va_G} {ca : Nat → ClassId} {cv : Nat → Value} (hcv : ∀ j, (cv j).category = 1) {l : List Value} {μ : qM} {r : qR} (h : aX8_queue l μ = some r) : qGood false base D ca cv 6 234 l μ r := by
  unfold aX8_queue at h
  split at h
  · exact gdX8_queue hcv h
  · cases h
noncomputable def gX8_waits (a0 : Nat) (a1 : Int32) (μ : qM) : Option qR :=
  qbnd (oPutI μ 8 a0 0 (0 : Int32)) fun μ1 =>
  qbnd (fX8_isOwner a1 μ1) fun r2 =>
  if r2.1 = 0 then
    some ((-1 : Int32), 0, r2.2.2)
  else
    qbnd (oGetP r2.2.2 8 a0 14) fun v3 =>
    qbnd (oLdI 20 r2.2.2 v3 ((680 : Int32) + a1)) fun v4 =>
    if v4 = (2 : Int32) then
      qbnd (oPutI r2.2.2 8 a0 1 (0 : Int32)) fun μ5 =>
      qbnd (oGetP μ5 8 a0 14) fun v6 =>
      qbnd (oLdI 20 μ5 v6 ((720 : Int32) + a1)) fun v7 =>
      qbnd (fX8_enters a0 (v7).toInt64 μ5) fun r8 =>
      qbnd (oGetP r8.2.2 8 a0 14) fun v9 =>
      qbnd (fX8_aheadOf v9 a1 r8.2.2) fun r10 =>
      qbnd (fX8_enters a0 (r10.1).toInt64 r10.2.2) fun r11 =>
      qbnd (oGetP r11.2.2 8 a0 14) fun v12 =>
      qbnd (oLdI 20 r11.2.2 v12 ((728 : Int32) + a1)) fun v13 =>
      qbnd (fX8_enters a0 (v13).toInt64 r11.2.2) fun r14 =>
      qbnd (oGetP r14.2.2 8 a0 14) fun v15 =>
      qbnd (oLdI 20 r14.2.2 v15 ((736 : Int32) + a1)) fun v16 =>
      qbnd (fX8_enters a0 (v16).toInt64 r14.2.2) fun r17 =>
      qbnd (oGetP r17.2.2 8 a0 14) fun v18 =>
      qbnd (oLdI 20 r17.2.2 v18 ((712 : Int32) + a1)) fun v19 =>
      some (v19, 0, r17.2.2)
    else
      some ((-2 : Int32), 0, r2.2.2)
noncomputable def fX8_waits (a0 : Nat) (a1 : Int32) (μ : qM) : Option qR := if (qk μ a0).1 = 8 then gX8_waits a0 a1 μ else none
noncomputable def aX8_waits (l : List Value) (μ : qM) : Option qR := match l with
  | [.ref x0, .int x1] => fX8_waits x0 x1 μ
  | _ => none
noncomputable def cfX8_waits : qF := fun n l μ => if n = 171 then aX8_isOwner l μ else if n = 144 then aX8_enters l μ else if n = 181 then aX8_aheadOf l μ else none
theorem hcX8_waits {base : Nat} {D : va_G} {ca : Nat → ClassId} {cv : Nat → Value} (hcv : ∀ j, (cv j).category = 1) : ∀ M as μ r, cfX8_waits M as μ = some r → qGood false base D ca cv 4 M as μ r := by
  intro M as μ r h
  unfold cfX8_waits at h
  split at h
  · rename_i e; subst e; exact (gaX8_isOwner hcv h).mono (by omega)
  split at h
  · rename_i e; subst e; exact (gaX8_enters hcv h).mono (by omega)
  split at h
  · rename_i e; subst e; exact (gaX8_aheadOf hcv h).mono (by omega)
  cases h
theorem npX8_waits : (parseMethodDescriptor (qmy 235).desc).map (fun d => d.parameters.length) = some 1 := by decide +kernel
set_option maxRecDepth 100000 in
theorem gdX8_waits {base : Nat} {D : va_G} {ca : Nat → ClassId} {cv : Nat → Value} (hcv : ∀ j, (cv j).category = 1) {a0 : Nat} {a1 : Int32} {μ : qM} {r : qR} (h : fX8_waits a0 a1 μ = some r) : qGood false base D ca cv 5 235 [.ref a0, .int a1] μ r := by
  unfold fX8_waits at h
  split at h
  · rename_i hk0
    exact qgood_of (by decide) (by omega) hcv (Or.inr ⟨by decide +kernel, hk0⟩) npX8_waits rfl (Nat.le_of_ble_eq_true rfl) rfl (qblk_ev2 (cf := cfX8_waits) (st := (fun n => qin [] n)) (K := (fun pc L S μ => none)) (cd := qcX8_waits) (M := 235) (d0 := 4) rfl qcok_X8_waits (Nat.le_refl _) (hcX8_waits hcv) (by
    intro pc L S μ r h
    cases h) 400 (pc := 0) (L := qent [.ref a0, .int a1] 2) (S := []) h)
  · cases h
theorem gaX8_waits {base : Nat} {D : va_G} {ca : Nat → ClassId} {cv : Nat → Value} (hcv : ∀ j, (cv j).category = 1) {l : List Value} {μ : qM} {r : qR} (h : aX8_waits l μ = some r) : qGood false base D ca cv 5 235 l μ r := by
  unfold aX8_waits at h
  split at h
  · exact gdX8_waits hcv h
  · cases h
noncomputable def fX8_firstAbove_5 : Nat → Nat → Int32 → Int32 → Int32 → Int32 → qM → Option qR
  | 0 => fun _ _ _ _ _ _ => none
  | n + 1 => fun x0 x1 x3 x4 x5 μ =>
    if x5 < 0 then
      some (x4, 0, μ)
    else
      qbnd (oGetP μ 8 x0 14) fun v1 =>
      qbnd (fX8_held v1 x1 x5 μ) fun r2 =>
      qbnd (fX8_has x3 r2.1 r2.2.2) fun r3 =>
      if r3.1 = 0 then
        qbnd (fX8_parent x5 r3.2.2) fun r4 =>
        fX8_firstAbove_5 n x0 x1 x3 x4 r4.1 r4.2.2
      else
        qbnd (fX8_parent x5 r3.2.2) fun r5 =>
        fX8_firstAbove_5 n x0 x1 x3 x5 r5.1 r5.2.2
noncomputable def gX8_firstAbove (a0 : Nat) (a1 : Int32) (a2 : Int32) (a3 : Int32) (μ : qM) : Option qR :=
  qbnd (fX8_parent a2 μ) fun r1 =>
  fX8_firstAbove_5 qfu a0 a1 a3 (85 : Int32) r1.1 r1.2.2
noncomputable def fX8_firstAbove (a0 : Nat) (a1 : Int32) (a2 : Int32) (a3 : Int32) (μ : qM) : Option qR := if (qk μ a0).1 = 8 then gX8_firstAbove a0 a1 a2 a3 μ else none
noncomputable def aX8_firstAbove (l : List Value) (μ : qM) : Option qR := match l with
  | [.ref x0, .int x1, .int x2, .int x3] => fX8_firstAbove x0 x1 x2 x3 μ
  | _ => none
noncomputable def cfX8_firstAbove : qF := fun n l μ => if n = 145 then aX8_parent l μ else if n = 172 then aX8_held l μ else if n = 142 then aX8_has l μ else none
theorem hcX8_firstAbove {base : Nat} {D : va_G} {ca : Nat → ClassId} {cv : Nat → Value} (hcv : ∀ j, (cv j).category = 1) : ∀ M as μ r, cfX8_firstAbove M as μ = some r → qGood false base D ca cv 1 M as μ r := by
  intro M as μ r h
  unfold cfX8_firstAbove at h
  split at h
  · rename_i e; subst e; exact (gaX8_parent hcv h).mono (by omega)
  split at h
  · rename_i e; subst e; exact (gaX8_held hcv h).mono (by omega)
  split at h
  · rename_i e; subst e; exact (gaX8_has hcv h).mono (by omega)
  cases h
def jX8_firstAbove_5 (f : Nat → Int32 → Int32 → Int32 → Int32 → qM → Option qR) (L S : List Value) (μ : qM) : Option qR := match L, S with
  | [.ref x0, .int x1, _, .int x3, .int x4, .int x5], [] => f x0 x1 x3 x4 x5 μ
  | _, _ => none
theorem jeX8_firstAbove_5 {base : Nat} {D : va_G} {ca : Nat → ClassId} {cv : Nat → Value} {d : Nat} {f : Nat → Int32 → Int32 → Int32 → Int32 → qM → Option qR} (hf : ∀ (x0 : Nat) (x1 : Int32) (x3 : Int32) (x4 : Int32) (x5 : Int32) (μ : qM) (r : qR), f x0 x1 x3 x4 x5 μ = some r → qEv false base D ca cv d 236 r 5 [.ref x0, .int x1, .null, .int x3, .int x4, .int x5] [] μ) {L S : List Value} {μ : qM} {r : qR} (h : jX8_firstAbove_5 f L S μ = some r) : qEv false base D ca cv d 236 r 5 L S μ := by
  unfold jX8_firstAbove_5 at h
  split at h
  · exact (hf _ _ _ _ _ _ _ h).le rfl ⟨Or.inr rfl, Or.inr rfl, Or.inl rfl, Or.inr rfl, Or.inr rfl, Or.inr rfl, trivial⟩
  · cases h
set_option maxRecDepth 100000 in
theorem lbX8_firstAbove_5 {base : Nat} {D : va_G} {ca : Nat → ClassId} {cv : Nat → Value} (hcv : ∀ j, (cv j).category = 1) : ∀ (n : Nat) (x0 : Nat) (x1 : Int32) (x3 : Int32) (x4 : Int32) (x5 : Int32) (μ : qM) (r : qR), fX8_firstAbove_5 n x0 x1 x3 x4 x5 μ = some r → qEv false base D ca cv 2 236 r 5 [.ref x0, .int x1, .null, .int x3, .int x4, .int x5] [] μ := by
  intro n
  induction n with
  | zero => intro x0 x1 x3 x4 x5 μ r h; cases (show (none : Option qR) = some r from h)
  | succ n ih =>
    intro x0 x1 x3 x4 x5 μ r h
    exact qblk_ev2 (cf := cfX8_firstAbove) (st := (fun n => qin [5] n)) (K := (fun pc L S μ => if pc = 5 then jX8_firstAbove_5 (fX8_firstAbove_5 n) L S μ else none)) (cd := qcX8_firstAbove) (M := 236) (d0 := 1) rfl qcok_X8_firstAbove (Nat.le_refl _) (hcX8_firstAbove hcv) (by
    intro pc L S μ r h
    split at h
    · rename_i e; subst e; exact jeX8_firstAbove_5 ih h
    cases h) 400 (pc := 5) (L := [.ref x0, .int x1, .null, .int x3, .int x4, .int x5]) (S := []) h
theorem npX8_firstAbove : (parseMethodDescriptor (qmy 236).desc).map (fun d => d.parameters.length) = some 3 := by decide +kernel
set_option maxRecDepth 100000 in
theorem gdX8_firstAbove {base : Nat} {D : va_G} {ca : Nat → ClassId} {cv : Nat → Value} (hcv : ∀ j, (cv j).category = 1) {a0 : Nat} {a1 : Int32} {a2 : Int32} {a3 : Int32} {μ : qM} {r : qR} (h : fX8_firstAbove a0 a1 a2 a3 μ = some r) : qGood false base D ca cv 2 236 [.ref a0, .int a1, .int a2, .int a3] μ r := by
  unfold fX8_firstAbove at h
  split at h
  · rename_i hk0
    exact qgood_of (by decide) (by omega) hcv (Or.inr ⟨by decide +kernel, hk0⟩) npX8_firstAbove rfl (Nat.le_of_ble_eq_true rfl) rfl (qblk_ev2 (cf := cfX8_firstAbove) (st := (fun n => qin [5] n)) (K := (fun pc L S μ => if pc = 5 then jX8_firstAbove_5 (fX8_firstAbove_5 qfu) L S μ else none)) (cd := qcX8_firstAbove) (M := 236) (d0 := 1) rfl qcok_X8_firstAbove (Nat.le_refl _) (hcX8_firstAbove hcv) (by
    intro pc L S μ r h
    split at h
    · rename_i e; subst e; exact jeX8_firstAbove_5 (lbX8_firstAbove_5 hcv qfu) h
    cases h) 400 (pc := 0) (L := qent [.ref a0, .int a1, .int a2, .int a3] 6) (S := []) h)
  · cases h
theorem gaX8_firstAbove {base : Nat} {D : va_G} {ca : Nat → ClassId} {cv : Nat → Value} (hcv : ∀ j, (cv j).category = 1) {l : List Value} {μ : qM} {r : qR} (h : aX8_firstAbove l μ = some r) : qGood false base D ca cv 2 236 l μ r := by
  unfold aX8_firstAbove at h
  split at h
  · exact gdX8_firstAbove hcv h
  · cases h
noncomputable def fX8_covers_41 (x3 : Int32) (x4 : Int32) (x5 : Int32) (s0 : Int64) (s1 : Nat) (μ : qM) : Option qR :=
  qbnd (fX8_enters s1 s0 μ) fun r1 =>
  if (85 : Int32) ≤ x4 then
    if (85 : Int32) ≤ x5 then
      some (x3, 0, r1.2.2)
    else
      qbnd (fX8_both x3 (3 : Int32) r1.2.2) fun r2 =>
      some (r2.1, 0, r2.2.2)
  else
    some ((6 : Int32), 0, r1.2.2)
noncomputable def gX8_covers (a0 : Nat) (a1 : Int32) (a2 : Int32) (μ : qM) : Option qR :=
  qbnd (oPutI μ 8 a0 0 (0 : Int32)) fun μ1 =>
  qbnd (fX8_isOwner a1 μ1) fun r2 =>
  if r2.1 = 0 then
    some ((-1 : Int32), 0, r2.2.2)
  else
    qbnd (fX8_isPlace a2 r2.2.2) fun r3 =>
    if r3.1 = 0 then
      some ((-1 : Int32), 0, r3.2.2)
    else
      qbnd (oGetP r3.2.2 8 a0 14) fun v4 =>
      qbnd (fX8_held v4 a1 a2 r3.2.2) fun r5 =>
      qbnd (fX8_firstAbove a0 a1 a2 (64 : Int32) r5.2.2) fun r6 =>
      qbnd (fX8_firstAbove a0 a1 a2 (56 : Int32) r6.2.2) fun r7 =>
      qbnd (oPutI r7.2.2 8 a0 1 (0 : Int32)) fun μ8 =>
      if (85 : Int32) ≤ r6.1 then
        fX8_covers_41 r5.1 r6.1 r7.1 (r7.1).toInt64 a0 μ8
      else
        fX8_covers_41 r5.1 r6.1 r7.1 (r6.1).toInt64 a0 μ8
noncomputable def fX8_covers (a0 : Nat) (a1 : Int32) (a2 : Int32) (μ : qM) : Option qR := if (qk μ a0).1 = 8 then gX8_covers a0 a1 a2 μ else none
noncomputable def aX8_covers (l : List Value) (μ : qM) : Option qR := match l with
  | [.ref x0, .int x1, .int x2] => fX8_covers x0 x1 x2 μ
  | _ => none
noncomputable def cfX8_covers : qF := fun n l μ => if n = 171 then aX8_isOwner l μ else if n = 147 then aX8_isPlace l μ else if n = 172 then aX8_held l μ else if n = 236 then aX8_firstAbove l μ else if n = 144 then aX8_enters l μ else if n = 150 then aX8_both l μ else none
theorem hcX8_covers {base : Nat} {D : va_G} {ca : Nat → ClassId} {cv : Nat → Value} (hcv : ∀ j, (cv j).category = 1) : ∀ M as μ r, cfX8_covers M as μ = some r → qGood false base D ca cv 2 M as μ r := by
  intro M as μ r h
  unfold cfX8_covers at h
  split at h
  · rename_i e; subst e; exact (gaX8_isOwner hcv h).mono (by omega)
  split at h
  · rename_i e; subst e; exact (gaX8_isPlace hcv h).mono (by omega)
  split at h
  · rename_i e; subst e; exact (gaX8_held hcv h).mono (by omega)
  split at h
  · rename_i e; subst e; exact (gaX8_firstAbove hcv h).mono (by omega)
  split at h
  · rename_i e; subst e; exact (gaX8_enters hcv h).mono (by omega)
  split at h
  · rename_i e; subst e; exact (gaX8_both hcv h).mono (by omega)
  cases h
def jX8_covers_41 (f : Int32 → Int32 → Int32 → Int64 → Nat → qM → Option qR) (L S : List Value) (μ : qM) : Option qR := match L, S with
  | [_, _, _, .int x3, .int x4, .int x5], [.long s0, .ref s1] => f x3 x4 x5 s0 s1 μ
  | _, _ => none
theorem jeX8_covers_41 {base : Nat} {D : va_G} {ca : Nat → ClassId} {cv : Nat → Value} {d : Nat} {f : Int32 → Int32 → Int32 → Int64 → Nat → qM → Option qR} (hf : ∀ (x3 : Int32) (x4 : Int32) (x5 : Int32) (s0 : Int64) (s1 : Nat) (μ : qM) (r : qR), f x3 x4 x5 s0 s1 μ = some r → qEv false base D ca cv d 237 r 41 [.null, .null, .null, .int x3, .int x4, .int x5] [.long s0, .ref s1] μ) {L S : List Value} {μ : qM} {r : qR} (h : jX8_covers_41 f L S μ = some r) : qEv false base D ca cv d 237 r 41 L S μ := by
  unfold jX8_covers_41 at h
  split at h
  · exact (hf _ _ _ _ _ _ _ h).le rfl ⟨Or.inl rfl, Or.inl rfl, Or.inl rfl, Or.inr rfl, Or.inr rfl, Or.inr rfl, trivial⟩
  · cases h
set_option maxRecDepth 100000 in
theorem lbX8_covers_41 {base : Nat} {D : va_G} {ca : Nat → ClassId} {cv : Nat → Value} (hcv : ∀ j, (cv j).category = 1) (x3 : Int32) (x4 : Int32) (x5 : Int32) (s0 : Int64) (s1 : Nat) (μ : qM) (r : qR) (h : fX8_covers_41 x3 x4 x5 s0 s1 μ = some r) : qEv false base D ca cv 3 237 r 41 [.null, .null, .null, .int x3, .int x4, .int x5] [.long s0, .ref s1] μ := by
    exact qblk_ev2 (cf := cfX8_covers) (st := (fun n => qin [41] n)) (K := (fun pc L S μ => none)) (cd := qcX8_covers) (M := 237) (d0 := 2) rfl qcok_X8_covers (Nat.le_refl _) (hcX8_covers hcv) (by
    intro pc L S μ r h
    cases h) 400 (pc := 41) (L := [.null, .null, .null, .int x3, .int x4, .int x5]) (S := [.long s0, .ref s1]) h
theorem npX8_covers : (parseMethodDescriptor (qmy 237).desc).map (fun d => d.parameters.length) = some 2 := by decide +kernel
set_option maxRecDepth 100000 in
theorem gdX8_covers {base : Nat} {D : va_G} {ca : Nat → ClassId} {cv : Nat → Value} (hcv : ∀ j, (cv j).category = 1) {a0 : Nat} {a1 : Int32} {a2 : Int32} {μ : qM} {r : qR} (h : fX8_covers a0 a1 a2 μ = some r) : qGood false base D ca cv 3 237 [.ref a0, .int a1, .int a2] μ r := by
  unfold fX8_covers at h
  split at h
  · rename_i hk0
    exact qgood_of (by decide) (by omega) hcv (Or.inr ⟨by decide +kernel, hk0⟩) npX8_covers rfl (Nat.le_of_ble_eq_true rfl) rfl (qblk_ev2 (cf := cfX8_covers) (st := (fun n => qin [41] n)) (K := (fun pc L S μ => if pc = 41 then jX8_covers_41 (fX8_covers_41) L S μ else none)) (cd := qcX8_covers) (M := 237) (d0 := 2) rfl qcok_X8_covers (Nat.le_refl _) (hcX8_covers hcv) (by
    intro pc L S μ r h
    split at h
    · rename_i e; subst e; exact jeX8_covers_41 (lbX8_covers_41 hcv) h
    cases h) 400 (pc := 0) (L := qent [.ref a0, .int a1, .int a2] 6) (S := []) h)
  · cases h
theorem gaX8_covers {base : Nat} {D : va_G} {ca : Nat → ClassId} {cv : Nat → Value} (hcv : ∀ j, (cv j).category = 1) {l : List Value} {μ : qM} {r : qR} (h : aX8_covers l μ = some r) : qGood false base D ca cv 3 237 l μ r := by
  unfold aX8_covers at h
  split at h
  · exact gdX8_covers hcv h
  · cases h
noncomputable def fX8_wouldWait_14 : Nat → Nat → Int32 → Int32 → Int32 → Int32 → qM → Option qR
  | 0 => fun _ _ _ _ _ _ => none
  | n + 1 => fun x0 x1 x2 x3 x4 μ =>
    if x4 = x2 then
      some ((85 : Int32), 0, μ)
    else
      qbnd (fX8_nextOn x2 x4 μ) fun r1 =>
      qbnd (fX8_modeOn x2 r1.1 x3 r1.2.2) fun r2 =>
      qbnd (oGetP r2.2.2 8 x0 14) fun v3 =>
      qbnd (fX8_isGranted v3 x1 r1.1 r2.1 r2.2.2) fun r4 =>
      if r4.1 = 0 then
        some (r1.1, 0, r4.2.2)
      else
        qbnd (oGetI r4.2.2 8 x0 25) fun v5 =>
        qbnd (oGetP r4.2.2 8 x0 14) fun v6 =>
        qbnd (fX8_held v6 x1 r1.1 r4.2.2) fun r7 =>
        qbnd (oGetP r7.2.2 8 x0 14) fun v8 =>
        qbnd (fX8_wanted v8 x1 r1.1 r2.1 r7.2.2) fun r9 =>
        if r7.1 = r9.1 then
          qbnd (fX8_flag (0 : Int32) r9.2.2) fun r10 =>
          qbnd (oPutI r10.2.2 8 x0 25 (v5 + r10.1)) fun μ11 =>
          fX8_wouldWait_14 n x0 x1 x2 x3 r1.1 μ11
        else
          qbnd (fX8_flag (1 : Int32) r9.2.2) fun r12 =>
          qbnd (oPutI r12.2.2 8 x0 25 (v5 + r12.1)) fun μ13 =>
          fX8_wouldWait_14 n x0 x1 x2 x3 r1.1 μ13
noncomputable def gX8_wouldWait (a0 : Nat) (a1 : Int32) (a2 : Int32) (a3 : Int32) (μ : qM) : Option qR :=
  qbnd (oPutI μ 8 a0 25 (0 : Int32)) fun μ1 =>
  qbnd (oGetP μ1 8 a0 14) fun v2 =>
  qbnd (fX8_isCovered v2 a1 a2 a3 μ1) fun r3 =>
  if r3.1 = 0 then
    fX8_wouldWait_14 qfu a0 a1 a2 a3 (-1 : Int32) r3.2.2
  else
    some ((85 : Int32), 0, r3.2.2)
noncomputable def fX8_wouldWait (a0 : Nat) (a1 : Int32) (a2 : Int32) (a3 : Int32) (μ : qM) : Option qR := if (qk μ a0).1 = 8 then gX8_wouldWait a0 a1 a2 a3 μ else none
noncomputable def aX8_wouldWait (l : List Value) (μ : qM) : Option qR := match l with
  | [.ref x0, .int x1, .int x2, .int x3] => fX8_wouldWait x0 x1 x2 x3 μ
  | _ => none
noncomputable def cfX8_wouldWait : qF := fun n l μ => if n = 197 then aX8_isCovered l μ else if n = 195 then aX8_nextOn l μ else if n = 196 then aX8_modeOn l μ else if n = 193 then aX8_isGranted l μ else if n = 172 then aX8_held l μ else if n = 192 then aX8_wanted l μ else if n = 143 then aX8_flag l μ else none
theorem hcX8_wouldWait {base : Nat} {D : va_G} {ca : Nat → ClassId} {cv : Nat → Value} (hcv : ∀ j, (cv j).category = 1) : ∀ M as μ r, cfX8_wouldWait M as μ = some r → qGood false base D ca cv 4 M as μ r := by
  intro M as μ r h
  unfold cfX8_wouldWait at h
  split at h
  · rename_i e; subst e; exact (gaX8_isCovered hcv h).mono (by omega)
  split at h
  · rename_i e; subst e; exact (gaX8_nextOn hcv h).mono (by omega)
  split at h
  · rename_i e; subst e; exact (gaX8_modeOn hcv h).mono (by omega)
  split at h
  · rename_i e; subst e; exact (gaX8_isGranted hcv h).mono (by omega)
  split at h
  · rename_i e; subst e; exact (gaX8_held hcv h).mono (by omega)
  split at h
  · rename_i e; subst e; exact (gaX8_wanted hcv h).mono (by omega)
  split at h
  · rename_i e; subst e; exact (gaX8_flag hcv h).mono (by omega)
  cases h
def jX8_wouldWait_14 (f : Nat → Int32 → Int32 → Int32 → Int32 → qM → Option qR) (L S : List Value) (μ : qM) : Option qR := match L, S with
  | [.ref x0, .int x1, .int x2, .int x3, .int x4, _], [] => f x0 x1 x2 x3 x4 μ
  | _, _ => none
theorem jeX8_wouldWait_14 {base : Nat} {D : va_G} {ca : Nat → ClassId} {cv : Nat → Value} {d : Nat} {f : Nat → Int32 → Int32 → Int32 → Int32 → qM → Option qR} (hf : ∀ (x0 : Nat) (x1 : Int32) (x2 : Int32) (x3 : Int32) (x4 : Int32) (μ : qM) (r : qR), f x0 x1 x2 x3 x4 μ = some r → qEv false base D ca cv d 238 r 14 [.ref x0, .int x1, .int x2, .int x3, .int x4, .null] [] μ) {L S : List Value} {μ : qM} {r : qR} (h : jX8_wouldWait_14 f L S μ = some r) : qEv false base D ca cv d 238 r 14 L S μ := by
  unfold jX8_wouldWait_14 at h
  split at h
  · exact (hf _ _ _ _ _ _ _ h).le rfl ⟨Or.inr rfl, Or.inr rfl, Or.inr rfl, Or.inr rfl, Or.inr rfl, Or.inl rfl, trivial⟩
  · cases h
set_option maxRecDepth 100000 in
theorem lbX8_wouldWait_14 {base : Nat} {D : va_G} {ca : Nat → ClassId} {cv : Nat → Value} (hcv : ∀ j, (cv j).category = 1) : ∀ (n : Nat) (x0 : Nat) (x1 : Int32) (x2 : Int32) (x3 : Int32) (x4 : Int32) (μ : qM) (r : qR), fX8_wouldWait_14 n x0 x1 x2 x3 x4 μ = some r → qEv false base D ca cv 5 238 r 14 [.ref x0, .int x1, .int x2, .int x3, .int x4, .null] [] μ := by
  intro n
  induction n with
  | zero => intro x0 x1 x2 x3 x4 μ r h; cases (show (none : Option qR) = some r from h)
  | succ n ih =>
    intro x0 x1 x2 x3 x4 μ r h
    exact qblk_ev2 (cf := cfX8_wouldWait) (st := (fun n => qin [14] n)) (K := (fun pc L S μ => if pc = 14 then jX8_wouldWait_14 (fX8_wouldWait_14 n) L S μ else none)) (cd := qcX8_wouldWait) (M := 238) (d0 := 4) rfl qcok_X8_wouldWait (Nat.le_refl _) (hcX8_wouldWait hcv) (by
    intro pc L S μ r h
    split at h
    · rename_i e; subst e; exact jeX8_wouldWait_14 ih h
    cases h) 400 (pc := 14) (L := [.ref x0, .int x1, .int x2, .int x3, .int x4, .null]) (S := []) h
theorem npX8_wouldWait : (parseMethodDescriptor (qmy 238).desc).map (fun d => d.parameters.length) = some 3 := by decide +kernel
set_option maxRecDepth 100000 in
theorem gdX8_wouldWait {base : Nat} {D : va_G} {ca : Nat → ClassId} {cv : Nat → Value} (hcv : ∀ j, (cv j).category = 1) {a0 : Nat} {a1 : Int32} {a2 : Int32} {a3 : Int32} {μ : qM} {r : qR} (h : fX8_wouldWait a0 a1 a2 a3 μ = some r) : qGood false base D ca cv 5 238 [.ref a0, .int a1, .int a2, .int a3] μ r := by
  unfold fX8_wouldWait at h
  split at h
  · rename_i hk0
    exact qgood_of (by decide) (by omega) hcv (Or.inr ⟨by decide +kernel, hk0⟩) npX8_wouldWait rfl (Nat.le_of_ble_eq_true rfl) rfl (qblk_ev2 (cf := cfX8_wouldWait) (st := (fun n => qin [14] n)) (K := (fun pc L S μ => if pc = 14 then jX8_wouldWait_14 (fX8_wouldWait_14 qfu) L S μ else none)) (cd := qcX8_wouldWait) (M := 238) (d0 := 4) rfl qcok_X8_wouldWait (Nat.le_refl _) (hcX8_wouldWait hcv) (by
    intro pc L S μ r h
    split at h
    · rename_i e; subst e; exact jeX8_wouldWait_14 (lbX8_wouldWait_14 hcv qfu) h
    cases h) 400 (pc := 0) (L := qent [.ref a0, .int a1, .int a2, .int a3] 6) (S := []) h)
  · cases h
theorem gaX8_wouldWait {base : Nat} {D : va_G} {ca : Nat → ClassId} {cv : Nat → Value} (hcv : ∀ j, (cv j).category = 1) {l : List Value} {μ : qM} {r : qR} (h : aX8_wouldWait l μ = some r) : qGood false base D ca cv 5 238 l μ r := by
  unfold aX8_wouldWait at h
  split at h
  · exact gdX8_wouldWait hcv h
  · cases h
noncomputable def gX8_may (a0 : Nat) (a1 : Int32) (a2 : Int32) (a3 : Int32) (μ : qM) : Option qR :=
  qbnd (oPutI μ 8 a0 0 (0 : Int32)) fun μ1 =>
  qbnd (fX8_isOwner a1 μ1) fun r2 =>
  if r2.1 = 0 then
    some ((-1 : Int32), 0, r2.2.2)
  else
    qbnd (fX8_isPlace a2 r2.2.2) fun r3 =>
    if r3.1 = 0 then
      some ((-1 : Int32), 0, r3.2.2)
    else
      qbnd (fX8_isMode a3 r3.2.2) fun r4 =>
      if r4.1 = 0 then
        some ((-1 : Int32), 0, r4.2.2)
      else
        qbnd (oGetP r4.2.2 8 a0 14) fun v5 =>
        qbnd (oLdI 20 r4.2.2 v5 ((680 : Int32) + a1)) fun v6 =>
        if v6 = (1 : Int32) then
          qbnd (fX8_wouldWait a0 a1 a2 a3 r4.2.2) fun r7 =>
          qbnd (oPutI r7.2.2 8 a0 1 (0 : Int32)) fun μ8 =>
          qbnd (fX8_enters a0 (r7.1).toInt64 μ8) fun r9 =>
          qbnd (oGetI r9.2.2 8 a0 25) fun v10 =>
          qbnd (fX8_enters a0 (v10).toInt64 r9.2.2) fun r11 =>
          if r7.1 = (85 : Int32) then
            qbnd (fX8_flag (1 : Int32) r11.2.2) fun r13 =>
            some (r13.1, 0, r13.2.2)
          else
            qbnd (fX8_flag (0 : Int32) r11.2.2) fun r12 =>
            some (r12.1, 0, r12.2.2)
        else
          some ((-2 : Int32), 0, r4.2.2)
noncomputable def fX8_may (a0 : Nat) (a1 : Int32) (a2 : Int32) (a3 : Int32) (μ : qM) : Option qR := if (qk μ a0).1 = 8 then gX8_may a0 a1 a2 a3 μ else none
noncomputable def aX8_may (l : List Value) (μ : qM) : Option qR := match l with
  | [.ref x0, .int x1, .int x2, .int x3] => fX8_may x0 x1 x2 x3 μ
  | _ => none
noncomputable def cfX8_may : qF := fun n l μ => if n = 171 then aX8_isOwner l μ else if n = 147 then aX8_isPlace l μ else if n = 148 then aX8_isMode l μ else if n = 238 then aX8_wouldWait l μ else if n = 144 then aX8_enters l μ else if n = 143 then aX8_flag l μ else none
theorem hcX8_may {base : Nat} {D : va_G} {ca : Nat → ClassId} {cv : Nat → Value} (hcv : ∀ j, (cv j).category = 1) : ∀ M as μ r, cfX8_may M as μ = some r → qGood false base D ca cv 5 M as μ r := by
  intro M as μ r h
  unfold cfX8_may at h
  split at h
  · rename_i e; subst e; exact (gaX8_isOwner hcv h).mono (by omega)
  split at h
  · rename_i e; subst e; exact (gaX8_isPlace hcv h).mono (by omega)
  split at h
  · rename_i e; subst e; exact (gaX8_isMode hcv h).mono (by omega)
  split at h
  · rename_i e; subst e; exact (gaX8_wouldWait hcv h).mono (by omega)
  split at h
  · rename_i e; subst e; exact (gaX8_enters hcv h).mono (by omega)
  split at h
  · rename_i e; subst e; exact (gaX8_flag hcv h).mono (by omega)
  cases h
theorem npX8_may : (parseMethodDescriptor (qmy 239).desc).map (fun d => d.parameters.length) = some 3 := by decide +kernel
set_option maxRecDepth 100000 in
theorem gdX8_may {base : Nat} {D : va_G} {ca : Nat → ClassId} {cv : Nat → Value} (hcv : ∀ j, (cv j).category = 1) {a0 : Nat} {a1 : Int32} {a2 : Int32} {a3 : Int32} {μ : qM} {r : qR} (h : fX8_may a0 a1 a2 a3 μ = some r) : qGood false base D ca cv 6 239 [.ref a0, .int a1, .int a2, .int a3] μ r := by
  unfold fX8_may at h
  split at h
  · rename_i hk0
    exact qgood_of (by decide) (by omega) hcv (Or.inr ⟨by decide +kernel, hk0⟩) npX8_may rfl (Nat.le_of_ble_eq_true rfl) rfl (qblk_ev2 (cf := cfX8_may) (st := (fun n => qin [] n)) (K := (fun pc L S μ => none)) (cd := qcX8_may) (M := 239) (d0 := 5) rfl qcok_X8_may (Nat.le_refl _) (hcX8_may hcv) (by
    intro pc L S μ r h
    cases h) 400 (pc := 0) (L := qent [.ref a0, .int a1, .int a2, .int a3] 5) (S := []) h)
  · cases h
theorem gaX8_may {base : Nat} {D : va_G} {ca : Nat → ClassId} {cv : Nat → Value} (hcv : ∀ j, (cv j).category = 1) {l : List Value} {μ : qM} {r : qR} (h : aX8_may l μ = some r) : qGood false base D ca cv 6 239 l μ r := by
  unfold aX8_may at h
  split at h
  · exact gdX8_may hcv h
  · cases h
noncomputable def fX8_free_31 : Nat → Nat → Int32 → Int32 → Int32 → Int32 → Int32 → qM → Option qR
  | 0 => fun _ _ _ _ _ _ _ => none
  | n + 1 => fun x0 x1 x2 x3 x4 x5 μ =>
    if (16 : Int32) ≤ x5 then
      qbnd (oPutI μ 8 x0 1 (0 : Int32)) fun μ1 =>
      qbnd (fJ6_bitCount_0f7a4 x4 μ1) fun r2 =>
      qbnd (fX8_enters x0 (r2.1).toInt64 r2.2.2) fun r3 =>
      some (x4, 0, r3.2.2)
    else
      qbnd (fX8_wouldWait x0 x1 (((21 : Int32) + ((16 : Int32) * (x2 - (1 : Int32)))) + x5) x3 μ) fun r4 =>
      if r4.1 = (85 : Int32) then
        fX8_free_31 n x0 x1 x2 x3 (x4 ||| ((1 : Int32) <<< (x5 &&& 31))) (x5 + (1 : Int32)) r4.2.2
      else
        fX8_free_31 n x0 x1 x2 x3 (x4 ||| (0 : Int32)) (x5 + (1 : Int32)) r4.2.2
noncomputable def gX8_free (a0 : Nat) (a1 : Int32) (a2 : Int32) (a3 : Int32) (μ : qM) : Option qR :=
  qbnd (oPutI μ 8 a0 0 (0 : Int32)) fun μ1 =>
  qbnd (fX8_isOwner a1 μ1) fun r2 =>
  if r2.1 = 0 then
    some ((-1 : Int32), 0, r2.2.2)
  else
    qbnd (fX8_in (a2).toInt64 (1 : Int64) (4 : Int64) r2.2.2) fun r3 =>
    if r3.1 = 0 then
      some ((-1 : Int32), 0, r3.2.2)
    else
      qbnd (fX8_isMode a3 r3.2.2) fun r4 =>
      if r4.1 = 0 then
        some ((-1 : Int32), 0, r4.2.2)
      else
        qbnd (oGetP r4.2.2 8 a0 14) fun v5 =>
        qbnd (oLdI 20 r4.2.2 v5 ((680 : Int32) + a1)) fun v6 =>
        if v6 = (1 : Int32) then
          fX8_free_31 qfu a0 a1 a2 a3 (0 : Int32) (0 : Int32) r4.2.2
        else
          some ((-2 : Int32), 0, r4.2.2)
noncomputable def fX8_free (a0 : Nat) (a1 : Int32) (a2 : Int32) (a3 : Int32) (μ : qM) : Option qR := if (qk μ a0).1 = 8 then gX8_free a0 a1 a2 a3 μ else none
noncomputable def aX8_free (l : List Value) (μ : qM) : Option qR := match l with
  | [.ref x0, .int x1, .int x2, .int x3] => fX8_free x0 x1 x2 x3 μ
  | _ => none
noncomputable def cfX8_free : qF := fun n l μ => if n = 171 then aX8_isOwner l μ else if n = 141 then aX8_in l μ else if n = 148 then aX8_isMode l μ else if n = 238 then aX8_wouldWait l μ else if n = 267 then aJ6_bitCount_0f7a4 l μ else if n = 144 then aX8_enters l μ else none
theorem hcX8_free {base : Nat} {D : va_G} {ca : Nat → ClassId} {cv : Nat → Value} (hcv : ∀ j, (cv j).category = 1) : ∀ M as μ r, cfX8_free M as μ = some r → qGood false base D ca cv 5 M as μ r := by
  intro M as μ r h
  unfold cfX8_free at h
  split at h
  · rename_i e; subst e; exact (gaX8_isOwner hcv h).mono (by omega)
  split at h
  · rename_i e; subst e; exact (gaX8_in hcv h).mono (by omega)
  split at h
  · rename_i e; subst e; exact (gaX8_isMode hcv h).mono (by omega)
  split at h
  · rename_i e; subst e; exact (gaX8_wouldWait hcv h).mono (by omega)
  split at h
  · rename_i e; subst e; exact (gaJ6_bitCount_0f7a4 hcv h).mono (by omega)
  split at h
  · rename_i e; subst e; exact (gaX8_enters hcv h).mono (by omega)
  cases h
def jX8_free_31 (f : Nat → Int32 → Int32 → Int32 → Int32 → Int32 → qM → Option qR) (L S : List Value) (μ : qM) : Option qR := match L, S with
  | [.ref x0, .int x1, .int x2, .int x3, .int x4, .int x5], [] => f x0 x1 x2 x3 x4 x5 μ
  | _, _ => none
theorem jeX8_free_31 {base : Nat} {D : va_G} {ca : Nat → ClassId} {cv : Nat → Value} {d : Nat} {f : Nat → Int32 → Int32 → Int32 → Int32 → Int32 → qM → Option qR} (hf : ∀ (x0 : Nat) (x1 : Int32) (x2 : Int32) (x3 : Int32) (x4 : Int32) (x5 : Int32) (μ : qM) (r : qR), f x0 x1 x2 x3 x4 x5 μ = some r → qEv false base D ca cv d 240 r 31 [.ref x0, .int x1, .int x2, .int x3, .int x4, .int x5] [] μ) {L S : List Value} {μ : qM} {r : qR} (h : jX8_free_31 f L S μ = some r) : qEv false base D ca cv d 240 r 31 L S μ := by
  unfold jX8_free_31 at h
  split at h
  · exact (hf _ _ _ _ _ _ _ _ h).le rfl ⟨Or.inr rfl, Or.inr rfl, Or.inr rfl, Or.inr rfl, Or.inr rfl, Or.inr rfl, trivial⟩
  · cases h
set_option maxRecDepth 100000 in
theorem lbX8_free_31 {base : Nat} {D : va_G} {ca : Nat → ClassId} {cv : Nat → Value} (hcv : ∀ j, (cv j).category = 1) : ∀ (n : Nat) (x0 : Nat) (x1 : Int32) (x2 : Int32) (x3 : Int32) (x4 : Int32) (x5 : Int32) (μ : qM) (r : qR), fX8_free_31 n x0 x1 x2 x3 x4 x5 μ = some r → qEv false base D ca cv 6 240 r 31 [.ref x0, .int x1, .int x2, .int x3, .int x4, .int x5] [] μ := by
  intro n
  induction n with
  | zero => intro x0 x1 x2 x3 x4 x5 μ r h; cases (show (none : Option qR) = some r from h)
  | succ n ih =>
    intro x0 x1 x2 x3 x4 x5 μ r h
    exact qblk_ev2 (cf := cfX8_free) (st := (fun n => qin [31] n)) (K := (fun pc L S μ => if pc = 31 then jX8_free_31 (fX8_free_31 n) L S μ else none)) (cd := qcX8_free) (M := 240) (d0 := 5) rfl qcok_X8_free (Nat.le_refl _) (hcX8_free hcv) (by
    intro pc L S μ r h
    split at h
    · rename_i e; subst e; exact jeX8_free_31 ih h
    cases h) 400 (pc := 31) (L := [.ref x0, .int x1, .int x2, .int x3, .int x4, .int x5]) (S := []) h
theorem npX8_free : (parseMethodDescriptor (qmy 240).desc).map (fun d => d.parameters.length) = some 3 := by decide +kernel
set_option maxRecDepth 100000 in
theorem gdX8_free {base : Nat} {D : va_G} {ca : Nat → ClassId} {cv : Nat → Value} (hcv : ∀ j, (cv j).category = 1) {a0 : Nat} {a1 : Int32} {a2 : Int32} {a3 : Int32} {μ : qM} {r : qR} (h : fX8_free a0 a1 a2 a3 μ = some r) : qGood false base D ca cv 6 240 [.ref a0, .int a1, .int a2, .int a3] μ r := by
  unfold fX8_free at h
  split at h
  · rename_i hk0
    exact qgood_of (by decide) (by omega) hcv (Or.inr ⟨by decide +kernel, hk0⟩) npX8_free rfl (Nat.le_of_ble_eq_true rfl) rfl (qblk_ev2 (cf := cfX8_free) (st := (fun n => qin [31] n)) (K := (fun pc L S μ => if pc = 31 then jX8_free_31 (fX8_free_31 qfu) L S μ else none)) (cd := qcX8_free) (M := 240) (d0 := 5) rfl qcok_X8_free (Nat.le_refl _) (hcX8_free hcv) (by
    intro pc L S μ r h
    split at h
    · rename_i e; subst e; exact jeX8_free_31 (lbX8_free_31 hcv qfu) h
    cases h) 400 (pc := 0) (L := qent [.ref a0, .int a1, .int a2, .int a3] 6) (S := []) h)
  · cases h
theorem gaX8_free {base : Nat} {D : va_G} {ca : Nat → ClassId} {cv : Nat → Value} (hcv : ∀ j, (cv j).category = 1) {l : List Value} {μ : qM} {r : qR} (h : aX8_free l μ = some r) : qGood false base D ca cv 6 240 l μ r := by
  unfold aX8_free at h
  split at h
  · exact gdX8_free hcv h
  · cases h
noncomputable def gX8_behind (a0 : Nat) (a1 : Int32) (μ : qM) : Option qR :=
  qbnd (oPutI μ 8 a0 0 (0 : Int32)) fun μ1 =>
  qbnd (fX8_isOwner a1 μ1) fun r2 =>
  if r2.1 = 0 then
    some ((-1 : Int32), 0, r2.2.2)
  else
    qbnd (oGetP r2.2.2 8 a0 14) fun v3 =>
    qbnd (fX8_behindOf v3 a1 r2.2.2) fun r4 =>
    qbnd (oPutI r4.2.2 8 a0 1 (0 : Int32)) fun μ5 =>
    qbnd (fJ6_bitCount_0f7a4 r4.1 μ5) fun r6 =>
    qbnd (fX8_enters a0 (r6.1).toInt64 r6.2.2) fun r7 =>
    some (r4.1, 0, r7.2.2)
noncomputable def fX8_behind (a0 : Nat) (a1 : Int32) (μ : qM) : Option qR := if (qk μ a0).1 = 8 then gX8_behind a0 a1 μ else none
noncomputable def aX8_behind (l : List Value) (μ : qM) : Option qR := match l with
  | [.ref x0, .int x1] => fX8_behind x0 x1 μ
  | _ => none
noncomputable def cfX8_behind : qF := fun n l μ => if n = 171 then aX8_isOwner l μ else if n = 185 then aX8_behindOf l μ else if n = 267 then aJ6_bitCount_0f7a4 l μ else if n = 144 then aX8_enters l μ else none
theorem hcX8_behind {base : Nat} {D : va_G} {ca : Nat → ClassId} {cv : Nat → Value} (hcv : ∀ j, (cv j).category = 1) : ∀ M as μ r, cfX8_behind M as μ = some r → qGood false base D ca cv 5 M as μ r := by
  intro M as μ r h
  unfold cfX8_behind at h
  split at h
  · rename_i e; subst e; exact (gaX8_isOwner hcv h).mono (by omega)
  split at h
  · rename_i e; subst e; exact (gaX8_behindOf hcv h).mono (by omega)
  split at h
  · rename_i e; subst e; exact (gaJ6_bitCount_0f7a4 hcv h).mono (by omega)
  split at h
  · rename_i e; subst e; exact (gaX8_enters hcv h).mono (by omega)
  cases h
theorem npX8_behind : (parseMethodDescriptor (qmy 241).desc).map (fun d => d.parameters.length) = some 1 := by decide +kernel
set_option maxRecDepth 100000 in
theorem gdX8_behind {base : Nat} {D : va_G} {ca : Nat → ClassId} {cv : Nat → Value} (hcv : ∀ j, (cv j).category = 1) {a0 : Nat} {a1 : Int32} {μ : qM} {r : qR} (h : fX8_behind a0 a1 μ = some r) : qGood false base D ca cv 6 241 [.ref a0, .int a1] μ r := by
  unfold fX8_behind at h
  split at h
  · rename_i hk0
    exact qgood_of (by decide) (by omega) hcv (Or.inr ⟨by decide +kernel, hk0⟩) npX8_behind rfl (Nat.le_of_ble_eq_true rfl) rfl (qblk_ev2 (cf := cfX8_behind) (st := (fun n => qin [] n)) (K := (fun pc L S μ => none)) (cd := qcX8_behind) (M := 241) (d0 := 5) rfl qcok_X8_behind (Nat.le_refl _) (hcX8_behind hcv) (by
    intro pc L S μ r h
    cases h) 400 (pc := 0) (L := qent [.ref a0, .int a1] 3) (S := []) h)
  · cases h
theorem gaX8_behind {base : Nat} {D : va_G} {ca : Nat → ClassId} {cv : Nat → Value} (hcv : ∀ j, (cv j).category = 1) {l : List Value} {μ : qM} {r : qR} (h : aX8_behind l μ = some r) : qGood false base D ca cv 6 241 l μ r := by
  unfold aX8_behind at h
  split at h
  · exact gdX8_behind hcv h
  · cases h
noncomputable def fX8_stops_12 : Nat → Nat → Int32 → Int32 → Int32 → qM → Option qR
  | 0 => fun _ _ _ _ _ => none
  | n + 1 => fun x0 x1 x2 x3 μ =>
    if (8 : Int32) ≤ x3 then
      qbnd (oPutI μ 8 x0 1 (0 : Int32)) fun μ1 =>
      qbnd (oGetP μ1 8 x0 14) fun v2 =>
      qbnd (fX8_waitersOf v2 x1 μ1) fun r3 =>
      qbnd (fX8_enters x0 (r3.1).toInt64 r3.2.2) fun r4 =>
      some (x2, 0, r4.2.2)
    else
      qbnd (oGetP μ 8 x0 14) fun v5 =>
      qbnd (fX8_comesTo v5 x3 μ) fun r6 =>
      qbnd (fX8_has r6.1 x1 r6.2.2) fun r7 =>
      if r7.1 = 0 then
        fX8_stops_12 n x0 x1 (x2 ||| (0 : Int32)) (x3 + (1 : Int32)) r7.2.2
      else
        fX8_stops_12 n x0 x1 (x2 ||| ((1 : Int32) <<< (x3 &&& 31))) (x3 + (1 : Int32)) r7.2.2
noncomputable def gX8_stops (a0 : Nat) (a1 : Int32) (μ : qM) : Option qR :=
  qbnd (oPutI μ 8 a0 0 (0 : Int32)) fun μ1 =>
  qbnd (fX8_isOwner a1 μ1) fun r2 =>
  if r2.1 = 0 then
    some ((-1 : Int32), 0, r2.2.2)
  else
    fX8_stops_12 qfu a0 a1 (0 : Int32) (0 : Int32) r2.2.2
noncomputable def fX8_stops (a0 : Nat) (a1 : Int32) (μ : qM) : Option qR := if (qk μ a0).1 = 8 then gX8_stops a0 a1 μ else none
noncomputable def aX8_stops (l : List Value) (μ : qM) : Option qR := match l with
  | [.ref x0, .int x1] => fX8_stops x0 x1 μ
  | _ => none
noncomputable def cfX8_stops : qF := fun n l μ => if n = 171 then aX8_isOwner l μ else if n = 186 then aX8_comesTo l μ else if n = 142 then aX8_has l μ else if n = 188 then aX8_waitersOf l μ else if n = 144 then aX8_enters l μ else none
theorem hcX8_stops {base : Nat} {D : va_G} {ca : Nat → ClassId} {cv : Nat → Value} (hcv : ∀ j, (cv j).category = 1) : ∀ M as μ r, cfX8_stops M as μ = some r → qGood false base D ca cv 6 M as μ r := by
  intro M as μ r h
  unfold cfX8_stops at h
  split at h
  · rename_i e; subst e; exact (gaX8_isOwner hcv h).mono (by omega)
  split at h
  · rename_i e; subst e; exact (gaX8_comesTo hcv h).mono (by omega)
  split at h
  · rename_i e; subst e; exact (gaX8_has hcv h).mono (by omega)
  split at h
  · rename_i e; subst e; exact (gaX8_waitersOf hcv h).mono (by omega)
  split at h
  · rename_i e; subst e; exact (gaX8_enters hcv h).mono (by omega)
  cases h
def jX8_stops_12 (f : Nat → Int32 → Int32 → Int32 → qM → Option qR) (L S : List Value) (μ : qM) : Option qR := match L, S with
  | [.ref x0, .int x1, .int x2, .int x3], [] => f x0 x1 x2 x3 μ
  | _, _ => none
theorem jeX8_stops_12 {base : Nat} {D : va_G} {ca : Nat → ClassId} {cv : Nat → Value} {d : Nat} {f : Nat → Int32 → Int32 → Int32 → qM → Option qR} (hf : ∀ (x0 : Nat) (x1 : Int32) (x2 : Int32) (x3 : Int32) (μ : qM) (r : qR), f x0 x1 x2 x3 μ = some r → qEv false base D ca cv d 242 r 12 [.ref x0, .int x1, .int x2, .int x3] [] μ) {L S : List Value} {μ : qM} {r : qR} (h : jX8_stops_12 f L S μ = some r) : qEv false base D ca cv d 242 r 12 L S μ := by
  unfold jX8_stops_12 at h
  split at h
  · exact (hf _ _ _ _ _ _ h).le rfl ⟨Or.inr rfl, Or.inr rfl, Or.inr rfl, Or.inr rfl, trivial⟩
  · cases h
set_option maxRecDepth 100000 in
theorem lbX8_stops_12 {base : Nat} {D : va_G} {ca : Nat → ClassId} {cv : Nat → Value} (hcv : ∀ j, (cv j).category = 1) : ∀ (n : Nat) (x0 : Nat) (x1 : Int32) (x2 : Int32) (x3 : Int32) (μ : qM) (r : qR), fX8_stops_12 n x0 x1 x2 x3 μ = some r → qEv false base D ca cv 7 242 r 12 [.ref x0, .int x1, .int x2, .int x3] [] μ := by
  intro n
  induction n with
  | zero => intro x0 x1 x2 x3 μ r h; cases (show (none : Option qR) = some r from h)
  | succ n ih =>
    intro x0 x1 x2 x3 μ r h
    exact qblk_ev2 (cf := cfX8_stops) (st := (fun n => qin [12] n)) (K := (fun pc L S μ => if pc = 12 then jX8_stops_12 (fX8_stops_12 n) L S μ else none)) (cd := qcX8_stops) (M := 242) (d0 := 6) rfl qcok_X8_stops (Nat.le_refl _) (hcX8_stops hcv) (by
    intro pc L S μ r h
    split at h
    · rename_i e; subst e; exact jeX8_stops_12 ih h
    cases h) 400 (pc := 12) (L := [.ref x0, .int x1, .int x2, .int x3]) (S := []) h
theorem npX8_stops : (parseMethodDescriptor (qmy 242).desc).map (fun d => d.parameters.length) = some 1 := by decide +kernel
set_option maxRecDepth 100000 in
theorem gdX8_stops {base : Nat} {D : va_G} {ca : Nat → ClassId} {cv : Nat → Value} (hcv : ∀ j, (cv j).category = 1) {a0 : Nat} {a1 : Int32} {μ : qM} {r : qR} (h : fX8_stops a0 a1 μ = some r) : qGood false base D ca cv 7 242 [.ref a0, .int a1] μ r := by
  unfold fX8_stops at h
  split at h
  · rename_i hk0
    exact qgood_of (by decide) (by omega) hcv (Or.inr ⟨by decide +kernel, hk0⟩) npX8_stops rfl (Nat.le_of_ble_eq_true rfl) rfl (qblk_ev2 (cf := cfX8_stops) (st := (fun n => qin [12] n)) (K := (fun pc L S μ => if pc = 12 then jX8_stops_12 (fX8_stops_12 qfu) L S μ else none)) (cd := qcX8_stops) (M := 242) (d0 := 6) rfl qcok_X8_stops (Nat.le_refl _) (hcX8_stops hcv) (by
    intro pc L S μ r h
    split at h
    · rename_i e; subst e; exact jeX8_stops_12 (lbX8_stops_12 hcv qfu) h
    cases h) 400 (pc := 0) (L := qent [.ref a0, .int a1] 4) (S := []) h)
  · cases h
theorem gaX8_stops {base : Nat} {D : va_G} {ca : Nat → ClassId} {cv : Nat → Value} (hcv : ∀ j, (cv j).category = 1) {l : List Value} {μ : qM} {r : qR} (h : aX8_stops l μ = some r) : qGood false base D ca cv 7 242 l μ r := by
  unfold aX8_stops at h
  split at h
  · exact gdX8_stops hcv h
  · cases h
noncomputable def gX8_rings (a0 : Nat) (μ : qM) : Option qR :=
  qbnd (oPutI μ 8 a0 0 (0 : Int32)) fun μ1 =>
  qbnd (oGetP μ1 8 a0 14) fun v2 =>
  qbnd (fX8_ringed v2 μ1) fun r3 =>
  qbnd (oPutI r3.2.2 8 a0 1 (0 : Int32)) fun μ4 =>
  qbnd (fJ6_bitCount_0f7a4 r3.1 μ4) fun r5 =>
  qbnd (fX8_enters a0 (r5.1).toInt64 r5.2.2) fun r6 =>
  some (r3.1, 0, r6.2.2)
noncomputable def fX8_rings (a0 : Nat) (μ : qM) : Option qR := if (qk μ a0).1 = 8 then gX8_rings a0 μ else none
noncomputable def aX8_rings (l : List Value) (μ : qM) : Option qR := match l with
  | [.ref x0] => fX8_rings x0 μ
  | _ => none
noncomputable def cfX8_rings : qF := fun n l μ => if n = 187 then aX8_ringed l μ else if n = 267 then aJ6_bitCount_0f7a4 l μ else if n = 144 then aX8_enters l μ else none
theorem hcX8_rings {base : Nat} {D : va_G} {ca : Nat → ClassId} {cv : Nat → Value} (hcv : ∀ j, (cv j).category = 1) : ∀ M as μ r, cfX8_rings M as μ = some r → qGood false base D ca cv 7 M as μ r := by
  intro M as μ r h
  unfold cfX8_rings at h
  split at h
  · rename_i e; subst e; exact (gaX8_ringed hcv h).mono (by omega)
  split at h
  · rename_i e; subst e; exact (gaJ6_bitCount_0f7a4 hcv h).mono (by omega)
  split at h
  · rename_i e; subst e; exact (gaX8_enters hcv h).mono (by omega)
  cases h
theorem npX8_rings : (parseMethodDescriptor (qmy 243).desc).map (fun d => d.parameters.length) = some 0 := by decide +kernel
set_option maxRecDepth 100000 in
theorem gdX8_rings {base : Nat} {D : va_G} {ca : Nat → ClassId} {cv : Nat → Value} (hcv : ∀ j, (cv j).category = 1) {a0 : Nat} {μ : qM} {r : qR} (h : fX8_rings a0 μ = some r) : qGood false base D ca cv 8 243 [.ref a0] μ r := by
  unfold fX8_rings at h
  split at h
  · rename_i hk0
    exact qgood_of (by decide) (by omega) hcv (Or.inr ⟨by decide +kernel, hk0⟩) npX8_rings rfl (Nat.le_of_ble_eq_true rfl) rfl (qblk_ev2 (cf := cfX8_rings) (st := (fun n => qin [] n)) (K := (fun pc L S μ => none)) (cd := qcX8_rings) (M := 243) (d0 := 7) rfl qcok_X8_rings (Nat.le_refl _) (hcX8_rings hcv) (by
    intro pc L S μ r h
    cases h) 400 (pc := 0) (L := qent [.ref a0] 2) (S := []) h)
  · cases h
theorem gaX8_rings {base : Nat} {D : va_G} {ca : Nat → ClassId} {cv : Nat → Value} (hcv : ∀ j, (cv j).category = 1) {l : List Value} {μ : qM} {r : qR} (h : aX8_rings l μ = some r) : qGood false base D ca cv 8 243 l μ r := by
  unfold aX8_rings at h
  split at h
  · exact gdX8_rings hcv h
  · cases h
noncomputable def fX8_laysSteps_33 (k23 : Nat → Int32 → qM → Option qR) (k28 : Nat → Int32 → Int32 → qM → Option qR) : Nat → Nat → Int32 → Int32 → Int32 → qM → Option qR
  | 0 => fun _ _ _ _ _ => none
  | n + 1 => fun x0 x2 x3 x4 μ =>
    if (8 : Int32) ≤ x4 then
      k28 x0 x2 (x3 + (1 : Int32)) μ
    else
      qbnd (oGetP μ 8 x0 26) fun v1 =>
      qbnd (oGetP μ 8 x0 14) fun v2 =>
      qbnd (fX8_waitsFor v2 x3 x4 μ) fun r3 =>
      if r3.1 = 0 then
        qbnd (oGetP r3.2.2 8 x0 26) fun v4 =>
        qbnd (oLdI 20 r3.2.2 v4 x3) fun v5 =>
        qbnd (oStI 20 r3.2.2 v1 x3 v5) fun μ6 =>
        fX8_laysSteps_33 k23 k28 n x0 x2 x3 (x4 + (1 : Int32)) μ6
      else
        qbnd (oGetP r3.2.2 8 x0 26) fun v7 =>
        qbnd (oLdI 20 r3.2.2 v7 x3) fun v8 =>
        qbnd (oGetP r3.2.2 8 x0 26) fun v9 =>
        qbnd (oLdI 20 r3.2.2 v9 x4) fun v10 =>
        qbnd (oStI 20 r3.2.2 v1 x3 (if (v10 + (1 : Int32)) < v8 then (v10 + (1 : Int32)) else v8)) fun μ11 =>
        fX8_laysSteps_33 k23 k28 n x0 x2 x3 (x4 + (1 : Int32)) μ11
noncomputable def fX8_laysSteps_28 (k23 : Nat → Int32 → qM → Option qR) : Nat → Nat → Int32 → Int32 → qM → Option qR
  | 0 => fun _ _ _ _ => none
  | n + 1 => fun x0 x2 x3 μ =>
    if (8 : Int32) ≤ x3 then
      k23 x0 (x2 + (1 : Int32)) μ
    else
      fX8_laysSteps_33 k23 (fX8_laysSteps_28 k23 n) qfu x0 x2 x3 (0 : Int32) μ
noncomputable def fX8_laysSteps_23 : Nat → Nat → Int32 → qM → Option qR
  | 0 => fun _ _ _ => none
  | n + 1 => fun x0 x2 μ =>
    if (8 : Int32) ≤ x2 then
      some (0, 0, μ)
    else
      fX8_laysSteps_28 (fX8_laysSteps_23 n) qfu x0 x2 (0 : Int32) μ
noncomputable def fX8_laysSteps_2 : Nat → Nat → Int32 → Int32 → qM → Option qR
  | 0 => fun _ _ _ _ => none
  | n + 1 => fun x0 x1 x2 μ =>
    if (8 : Int32) ≤ x2 then
      fX8_laysSteps_23 qfu x0 (0 : Int32) μ
    else
      qbnd (oGetP μ 8 x0 26) fun v1 =>
      qbnd (oGetP μ 8 x0 14) fun v2 =>
      qbnd (fX8_behindOf v2 x2 μ) fun r3 =>
      qbnd (fX8_has r3.1 x1 r3.2.2) fun r4 =>
      if r4.1 = 0 then
        qbnd (oStI 20 r4.2.2 v1 x2 (1000000 : Int32)) fun μ5 =>
        fX8_laysSteps_2 n x0 x1 (x2 + (1 : Int32)) μ5
      else
        qbnd (oStI 20 r4.2.2 v1 x2 (1 : Int32)) fun μ6 =>
        fX8_laysSteps_2 n x0 x1 (x2 + (1 : Int32)) μ6
noncomputable def gX8_laysSteps (a0 : Nat) (a1 : Int32) (μ : qM) : Option qR :=
  fX8_laysSteps_2 qfu a0 a1 (0 : Int32) μ
noncomputable def fX8_laysSteps (a0 : Nat) (a1 : Int32) (μ : qM) : Option qR := if (qk μ a0).1 = 8 then gX8_laysSteps a0 a1 μ else none
noncomputable def aX8_laysSteps (l : List Value) (μ : qM) : Option qR := match l with
  | [.ref x0, .int x1] => fX8_laysSteps x0 x1 μ
  | _ => none
noncomputable def cfX8_laysSteps : qF := fun n l μ => if n = 185 then aX8_behindOf l μ else if n = 142 then aX8_has l μ else if n = 184 then aX8_waitsFor l μ else none
theorem hcX8_laysSteps {base : Nat} {D : va_G} {ca : Nat → ClassId} {cv : Nat → Value} (hcv : ∀ j, (cv j).category = 1) : ∀ M as μ r, cfX8_laysSteps M as μ = some r → qGood false base D ca cv 5 M as μ r := by
  intro M as μ r h
  unfold cfX8_laysSteps at h
  split at h
  · rename_i e; subst e; exact (gaX8_behindOf hcv h).mono (by omega)
  split at h
  · rename_i e; subst e; exact (gaX8_has hcv h).mono (by omega)
  split at h
  · rename_i e; subst e; exact (gaX8_waitsFor hcv h).mono (by omega)
  cases h
def jX8_laysSteps_2 (f : Nat → Int32 → Int32 → qM → Option qR) (L S : List Value) (μ : qM) : Option qR := match L, S with
  | [.ref x0, .int x1, .int x2, _, _], [] => f x0 x1 x2 μ
  | _, _ => none
theorem jeX8_laysSteps_2 {base : Nat} {D : va_G} {ca : Nat → ClassId} {cv : Nat → Value} {d : Nat} {f : Nat → Int32 → Int32 → qM → Option qR} (hf : ∀ (x0 : Nat) (x1 : Int32) (x2 : Int32) (μ : qM) (r : qR), f x0 x1 x2 μ = some r → qEv false base D ca cv d 244 r 2 [.ref x0, .int x1, .int x2, .null, .null] [] μ) {L S : List Value} {μ : qM} {r : qR} (h : jX8_laysSteps_2 f L S μ = some r) : qEv false base D ca cv d 244 r 2 L S μ := by
  unfold jX8_laysSteps_2 at h
  split at h
  · exact (hf _ _ _ _ _ h).le rfl ⟨Or.inr rfl, Or.inr rfl, Or.inr rfl, Or.inl rfl, Or.inl rfl, trivial⟩
  · cases h
def jX8_laysSteps_23 (f : Nat → Int32 → qM → Option qR) (L S : List Value) (μ : qM) : Option qR := match L, S with
  | [.ref x0, _, .int x2, _, _], [] => f x0 x2 μ
  | _, _ => none
theorem jeX8_laysSteps_23 {base : Nat} {D : va_G} {ca : Nat → ClassId} {cv : Nat → Value} {d : Nat} {f : Nat → Int32 → qM → Option qR} (hf : ∀ (x0 : Nat) (x2 : Int32) (μ : qM) (r : qR), f x0 x2 μ = some r → qEv false base D ca cv d 244 r 23 [.ref x0, .null, .int x2, .null, .null] [] μ) {L S : List Value} {μ : qM} {r : qR} (h : jX8_laysSteps_23 f L S μ = some r) : qEv false base D ca cv d 244 r 23 L S μ := by
  unfold jX8_laysSteps_23 at h
  split at h
  · exact (hf _ _ _ _ h).le rfl ⟨Or.inr rfl, Or.inl rfl, Or.inr rfl, Or.inl rfl, Or.inl rfl, trivial⟩
  · cases h
def jX8_laysSteps_28 (f : Nat → Int32 → Int32 → qM → Option qR) (L S : List Value) (μ : qM) : Option qR := match L, S with
  | [.ref x0, _, .int x2, .int x3, _], [] => f x0 x2 x3 μ
  | _, _ => none
theorem jeX8_laysSteps_28 {base : Nat} {D : va_G} {ca : Nat → ClassId} {cv : Nat → Value} {d : Nat} {f : Nat → Int32 → Int32 → qM → Option qR} (hf : ∀ (x0 : Nat) (x2 : Int32) (x3 : Int32) (μ : qM) (r : qR), f x0 x2 x3 μ = some r → qEv false base D ca cv d 244 r 28 [.ref x0, .null, .int x2, .int x3, .null] [] μ) {L S : List Value} {μ : qM} {r : qR} (h : jX8_laysSteps_28 f L S μ = some r) : qEv false base D ca cv d 244 r 28 L S μ := by
  unfold jX8_laysSteps_28 at h
  split at h
  · exact (hf _ _ _ _ _ h).le rfl ⟨Or.inr rfl, Or.inl rfl, Or.inr rfl, Or.inr rfl, Or.inl rfl, trivial⟩
  · cases h
def jX8_laysSteps_33 (f : Nat → Int32 → Int32 → Int32 → qM → Option qR) (L S : List Value) (μ : qM) : Option qR := match L, S with
  | [.ref x0, _, .int x2, .int x3, .int x4], [] => f x0 x2 x3 x4 μ
  | _, _ => none
theorem jeX8_laysSteps_33 {base : Nat} {D : va_G} {ca : Nat → ClassId} {cv : Nat → Value} {d : Nat} {f : Nat → Int32 → Int32 → Int32 → qM → Option qR} (hf : ∀ (x0 : Nat) (x2 : Int32) (x3 : Int32) (x4 : Int32) (μ : qM) (r : qR), f x0 x2 x3 x4 μ = some r → qEv false base D ca cv d 244 r 33 [.ref x0, .null, .int x2, .int x3, .int x4] [] μ) {L S : List Value} {μ : qM} {r : qR} (h : jX8_laysSteps_33 f L S μ = some r) : qEv false base D ca cv d 244 r 33 L S μ := by
  unfold jX8_laysSteps_33 at h
  split at h
  · exact (hf _ _ _ _ _ _ h).le rfl ⟨Or.inr rfl, Or.inl rfl, Or.inr rfl, Or.inr rfl, Or.inr rfl, trivial⟩
  · cases h
set_option maxRecDepth 100000 in
theorem lbX8_laysSteps_33 {base : Nat} {D : va_G} {ca : Nat → ClassId} {cv : Nat → Value} (hcv : ∀ j, (cv j).category = 1) {k23 : Nat → Int32 → qM → Option qR} (hk23 : ∀ (y0 : Nat) (y2 : Int32) (μ : qM) (r : qR), k23 y0 y2 μ = some r → qEv false base D ca cv 6 244 r 23 [.ref y0, .null, .int y2, .null, .null] [] μ) {k28 : Nat → Int32 → Int32 → qM → Option qR} (hk28 : ∀ (y0 : Nat) (y2 : Int32) (y3 : Int32) (μ : qM) (r : qR), k28 y0 y2 y3 μ = some r → qEv false base D ca cv 6 244 r 28 [.ref y0, .null, .int y2, .int y3, .null] [] μ) : ∀ (n : Nat) (x0 : Nat) (x2 : Int32) (x3 : Int32) (x4 : Int32) (μ : qM) (r : qR), fX8_laysSteps_33 k23 k28 n x0 x2 x3 x4 μ = some r → qEv false base D ca cv 6 244 r 33 [.ref x0, .null, .int x2, .int x3, .int x4] [] μ := by
  intro n
  induction n with
  | zero => intro x0 x2 x3 x4 μ r h; cases (show (none : Option qR) = some r from h)
  | succ n ih =>
    intro x0 x2 x3 x4 μ r h
    exact qblk_ev2 (cf := cfX8_laysSteps) (st := (fun n => qin [2, 23, 28, 33] n)) (K := (fun pc L S μ => if pc = 28 then jX8_laysSteps_28 k28 L S μ else if pc = 33 then jX8_laysSteps_33 (fX8_laysSteps_33 k23 k28 n) L S μ else none)) (cd := qcX8_laysSteps) (M := 244) (d0 := 5) rfl qcok_X8_laysSteps (Nat.le_refl _) (hcX8_laysSteps hcv) (by
    intro pc L S μ r h
    split at h
    · rename_i e; subst e; exact jeX8_laysSteps_28 hk28 h
    split at h
    · rename_i e; subst e; exact jeX8_laysSteps_33 ih h
    cases h) 400 (pc := 33) (L := [.ref x0, .null, .int x2, .int x3, .int x4]) (S := []) h
set_option maxRecDepth 100000 in
theorem lbX8_laysSteps_28 {base : Nat} {D : va_G} {ca : Nat → ClassId} {cv : Nat → Value} (hcv : ∀ j, (cv j).category = 1) {k23 : Nat → Int32 → qM → Option qR} (hk23 : ∀ (y0 : Nat) (y2 : Int32) (μ : qM) (r : qR), k23 y0 y2 μ = some r → qEv false base D ca cv 6 244 r 23 [.ref y0, .null, .int y2, .null, .null] [] μ) : ∀ (n : Nat) (x0 : Nat) (x2 : Int32) (x3 : Int32) (μ : qM) (r : qR), fX8_laysSteps_28 k23 n x0 x2 x3 μ = some r → qEv false base D ca cv 6 244 r 28 [.ref x0, .null, .int x2, .int x3, .null] [] μ := by
  intro n
  induction n with
  | zero => intro x0 x2 x3 μ r h; cases (show (none : Option qR) = some r from h)
  | succ n ih =>
    intro x0 x2 x3 μ r h
    exact qblk_ev2 (cf := cfX8_laysSteps) (st := (fun n => qin [2, 23, 28, 33] n)) (K := (fun pc L S μ => if pc = 23 then jX8_laysSteps_23 k23 L S μ else if pc = 33 then jX8_laysSteps_33 (fX8_laysSteps_33 k23 (fX8_laysSteps_28 k23 n) qfu) L S μ else none)) (cd := qcX8_laysSteps) (M := 244) (d0 := 5) rfl qcok_X8_laysSteps (Nat.le_refl _) (hcX8_laysSteps hcv) (by
    intro pc L S μ r h
    split at h
    · rename_i e; subst e; exact jeX8_laysSteps_23 hk23 h
    split at h
    · rename_i e; subst e; exact jeX8_laysSteps_33 (lbX8_laysSteps_33 hcv hk23 ih qfu) h
    cases h) 400 (pc := 28) (L := [.ref x0, .null, .int x2, .int x3, .null]) (S := []) h
set_option maxRecDepth 100000 in
theorem lbX8_laysSteps_23 {base : Nat} {D : va_G} {ca : Nat → ClassId} {cv : Nat → Value} (hcv : ∀ j, (cv j).category = 1) : ∀ (n : Nat) (x0 : Nat) (x2 : Int32) (μ : qM) (r : qR), fX8_laysSteps_23 n x0 x2 μ = some r → qEv false base D ca cv 6 244 r 23 [.ref x0, .null, .int x2, .null, .null] [] μ := by
  intro n
  induction n with
  | zero => intro x0 x2 μ r h; cases (show (none : Option qR) = some r from h)
  | succ n ih =>
    intro x0 x2 μ r h
    exact qblk_ev2 (cf := cfX8_laysSteps) (st := (fun n => qin [2, 23, 28, 33] n)) (K := (fun pc L S μ => if pc = 28 then jX8_laysSteps_28 (fX8_laysSteps_28 (fX8_laysSteps_23 n) qfu) L S μ else none)) (cd := qcX8_laysSteps) (M := 244) (d0 := 5) rfl qcok_X8_laysSteps (Nat.le_refl _) (hcX8_laysSteps hcv) (by
    intro pc L S μ r h
    split at h
    · rename_i e; subst e; exact jeX8_laysSteps_28 (lbX8_laysSteps_28 hcv ih qfu) h
    cases h) 400 (pc := 23) (L := [.ref x0, .null, .int x2, .null, .null]) (S := []) h
set_option maxRecDepth 100000 in
theorem lbX8_laysSteps_2 {base : Nat} {D : va_G} {ca : Nat → ClassId} {cv : Nat → Value} (hcv : ∀ j, (cv j).category = 1) : ∀ (n : Nat) (x0 : Nat) (x1 : Int32) (x2 : Int32) (μ : qM) (r : qR), fX8_laysSteps_2 n x0 x1 x2 μ = some r → qEv false base D ca cv 6 244 r 2 [.ref x0, .int x1, .int x2, .null, .null] [] μ := by
  intro n
  induction n with
  | zero => intro x0 x1 x2 μ r h; cases (show (none : Option qR) = some r from h)
  | succ n ih =>
    intro x0 x1 x2 μ r h
    exact qblk_ev2 (cf := cfX8_laysSteps) (st := (fun n => qin [2, 23, 28, 33] n)) (K := (fun pc L S μ => if pc = 2 then jX8_laysSteps_2 (fX8_laysSteps_2 n) L S μ else if pc = 23 then jX8_laysSteps_23 (fX8_laysSteps_23 qfu) L S μ else none)) (cd := qcX8_laysSteps) (M := 244) (d0 := 5) rfl qcok_X8_laysSteps (Nat.le_refl _) (hcX8_laysSteps hcv) (by
    intro pc L S μ r h
    split at h
    · rename_i e; subst e; exact jeX8_laysSteps_2 ih h
    split at h
    · rename_i e; subst e; exact jeX8_laysSteps_23 (lbX8_laysSteps_23 hcv qfu) h
    cases h) 400 (pc := 2) (L := [.ref x0, .int x1, .int x2, .null, .null]) (S := []) h
theorem npX8_laysSteps : (parseMethodDescriptor (qmy 244).desc).map (fun d => d.parameters.length) = some 1 := by decide +kernel
set_option maxRecDepth 100000 in
theorem gdX8_laysSteps {base : Nat} {D : va_G} {ca : Nat → ClassId} {cv : Nat → Value} (hcv : ∀ j, (cv j).category = 1) {a0 : Nat} {a1 : Int32} {μ : qM} {r : qR} (h : fX8_laysSteps a0 a1 μ = some r) : qGood false base D ca cv 6 244 [.ref a0, .int a1] μ r := by
  unfold fX8_laysSteps at h
  split at h
  · rename_i hk0
    exact qgood_of (by decide) (by omega) hcv (Or.inr ⟨by decide +kernel, hk0⟩) npX8_laysSteps rfl (Nat.le_of_ble_eq_true rfl) rfl (qblk_ev2 (cf := cfX8_laysSteps) (st := (fun n => qin [2, 23, 28, 33] n)) (K := (fun pc L S μ => if pc = 2 then jX8_laysSteps_2 (fX8_laysSteps_2 qfu) L S μ else none)) (cd := qcX8_laysSteps) (M := 244) (d0 := 5) rfl qcok_X8_laysSteps (Nat.le_refl _) (hcX8_laysSteps hcv) (by
    intro pc L S μ r h
    split at h
    · rename_i e; subst e; exact jeX8_laysSteps_2 (lbX8_laysSteps_2 hcv qfu) h
    cases h) 400 (pc := 0) (L := qent [.ref a0, .int a1] 5) (S := []) h)
  · cases h
theorem gaX8_laysSteps {base : Nat} {D : va_G} {ca : Nat → ClassId} {cv : Nat → Value} (hcv : ∀ j, (cv j).category = 1) {l : List Value} {μ : qM} {r : qR} (h : aX8_laysSteps l μ = some r) : qGood false base D ca cv 6 244 l μ r := by
  unfold aX8_laysSteps at h
  split at h
  · exact gdX8_laysSteps hcv h
  · cases h
noncomputable def fX8_ring_38 (k34 : Nat → Int32 → Int32 → Int32 → qM → Option qR) : Nat → Nat → Int32 → Int32 → Int32 → Int32 → qM → Option qR
  | 0 => fun _ _ _ _ _ _ => none
  | n + 1 => fun x0 x2 x3 x4 x5 μ =>
    qbnd (oGetP μ 8 x0 14) fun v1 =>
    qbnd (fX8_waitsFor v1 x3 x5 μ) fun r2 =>
    if r2.1 = 0 then
      fX8_ring_38 k34 n x0 x2 x3 x4 (x5 + (1 : Int32)) r2.2.2
    else
      qbnd (oGetP r2.2.2 8 x0 26) fun v3 =>
      qbnd (oLdI 20 r2.2.2 v3 x5) fun v4 =>
      if v4 = x4 then
        qbnd (fX8_enters x0 (x5).toInt64 r2.2.2) fun r5 =>
        k34 x0 x2 x5 (x4 + (-1 : Int32)) r5.2.2
      else
        fX8_ring_38 k34 n x0 x2 x3 x4 (x5 + (1 : Int32)) r2.2.2
noncomputable def fX8_ring_34 : Nat → Nat → Int32 → Int32 → Int32 → qM → Option qR
  | 0 => fun _ _ _ _ _ => none
  | n + 1 => fun x0 x2 x3 x4 μ =>
    if x4 ≤ 0 then
      some (x2, 0, μ)
    else
      fX8_ring_38 (fX8_ring_34 n) qfu x0 x2 x3 x4 (0 : Int32) μ
noncomputable def gX8_ring (a0 : Nat) (a1 : Int32) (μ : qM) : Option qR :=
  qbnd (oPutI μ 8 a0 0 (0 : Int32)) fun μ1 =>
  qbnd (fX8_isOwner a1 μ1) fun r2 =>
  if r2.1 = 0 then
    some ((-1 : Int32), 0, r2.2.2)
  else
    qbnd (fX8_laysSteps a0 a1 r2.2.2) fun r3 =>
    qbnd (oGetP r3.2.2 8 a0 26) fun v4 =>
    qbnd (oLdI 20 r3.2.2 v4 a1) fun v5 =>
    if v5 < (1000000 : Int32) then
      qbnd (oPutI r3.2.2 8 a0 1 (0 : Int32)) fun μ6 =>
      qbnd (fX8_enters a0 (a1).toInt64 μ6) fun r7 =>
      fX8_ring_34 qfu a0 v5 a1 (v5 - (1 : Int32)) r7.2.2
    else
      some ((-2 : Int32), 0, r3.2.2)
noncomputable def fX8_ring (a0 : Nat) (a1 : Int32) (μ : qM) : Option qR := if (qk μ a0).1 = 8 then gX8_ring a0 a1 μ else none
noncomputable def aX8_ring (l : List Value) (μ : qM) : Option qR := match l with
  | [.ref x0, .int x1] => fX8_ring x0 x1 μ
  | _ => none
noncomputable def cfX8_ring : qF := fun n l μ => if n = 171 then aX8_isOwner l μ else if n = 244 then aX8_laysSteps l μ else if n = 144 then aX8_enters l μ else if n = 184 then aX8_waitsFor l μ else none
theorem hcX8_ring {base : Nat} {D : va_G} {ca : Nat → ClassId} {cv : Nat → Value} (hcv : ∀ j, (cv j).category = 1) : ∀ M as μ r, cfX8_ring M as μ = some r → qGood false base D ca cv 6 M as μ r := by
  intro M as μ r h
  unfold cfX8_ring at h
  split at h
  · rename_i e; subst e; exact (gaX8_isOwner hcv h).mono (by omega)
  split at h
  · rename_i e; subst e; exact (gaX8_laysSteps hcv h).mono (by omega)
  split at h
  · rename_i e; subst e; exact (gaX8_enters hcv h).mono (by omega)
  split at h
  · rename_i e; subst e; exact (gaX8_waitsFor hcv h).mono (by omega)
  cases h
def jX8_ring_34 (f : Nat → Int32 → Int32 → Int32 → qM → Option qR) (L S : List Value) (μ : qM) : Option qR := match L, S with
  | [.ref x0, _, .int x2, .int x3, .int x4, _], [] => f x0 x2 x3 x4 μ
  | _, _ => none
theorem jeX8_ring_34 {base : Nat} {D : va_G} {ca : Nat → ClassId} {cv : Nat → Value} {d : Nat} {f : Nat → Int32 → Int32 → Int32 → qM → Option qR} (hf : ∀ (x0 : Nat) (x2 : Int32) (x3 : Int32) (x4 : Int32) (μ : qM) (r : qR), f x0 x2 x3 x4 μ = some r → qEv false base D ca cv d 245 r 34 [.ref x0, .null, .int x2, .int x3, .int x4, .null] [] μ) {L S : List Value} {μ : qM} {r : qR} (h : jX8_ring_34 f L S μ = some r) : qEv false base D ca cv d 245 r 34 L S μ := by
  unfold jX8_ring_34 at h
  split at h
  · exact (hf _ _ _ _ _ _ h).le rfl ⟨Or.inr rfl, Or.inl rfl, Or.inr rfl, Or.inr rfl, Or.inr rfl, Or.inl rfl, trivial⟩
  · cases h
def jX8_ring_38 (f : Nat → Int32 → Int32 → Int32 → Int32 → qM → Option qR) (L S : List Value) (μ : qM) : Option qR := match L, S with
  | [.ref x0, _, .int x2, .int x3, .int x4, .int x5], [] => f x0 x2 x3 x4 x5 μ
  | _, _ => none
theorem jeX8_ring_38 {base : Nat} {D : va_G} {ca : Nat → ClassId} {cv : Nat → Value} {d : Nat} {f : Nat → Int32 → Int32 → Int32 → Int32 → qM → Option qR} (hf : ∀ (x0 : Nat) (x2 : Int32) (x3 : Int32) (x4 : Int32) (x5 : Int32) (μ : qM) (r : qR), f x0 x2 x3 x4 x5 μ = some r → qEv false base D ca cv d 245 r 38 [.ref x0, .null, .int x2, .int x3, .int x4, .int x5] [] μ) {L S : List Value} {μ : qM} {r : qR} (h : jX8_ring_38 f L S μ = some r) : qEv false base D ca cv d 245 r 38 L S μ := by
  unfold jX8_ring_38 at h
  split at h
  · exact (hf _ _ _ _ _ _ _ h).le rfl ⟨Or.inr rfl, Or.inl rfl, Or.inr rfl, Or.inr rfl, Or.inr rfl, Or.inr rfl, trivial⟩
  · cases h
set_option maxRecDepth 100000 in
theorem lbX8_ring_38 {base : Nat} {D : va_G} {ca : Nat → ClassId} {cv : Nat → Value} (hcv : ∀ j, (cv j).category = 1) {k34 : Nat → Int32 → Int32 → Int32 → qM → Option qR} (hk34 : ∀ (y0 : Nat) (y2 : Int32) (y3 : Int32) (y4 : Int32) (μ : qM) (r : qR), k34 y0 y2 y3 y4 μ = some r → qEv false base D ca cv 7 245 r 34 [.ref y0, .null, .int y2, .int y3, .int y4, .null] [] μ) : ∀ (n : Nat) (x0 : Nat) (x2 : Int32) (x3 : Int32) (x4 : Int32) (x5 : Int32) (μ : qM) (r : qR), fX8_ring_38 k34 n x0 x2 x3 x4 x5 μ = some r → qEv false base D ca cv 7 245 r 38 [.ref x0, .null, .int x2, .int x3, .int x4, .int x5] [] μ := by
  intro n
  induction n with
  | zero => intro x0 x2 x3 x4 x5 μ r h; cases (show (none : Option qR) = some r from h)
  | succ n ih =>
    intro x0 x2 x3 x4 x5 μ r h
    exact qblk_ev2 (cf := cfX8_ring) (st := (fun n => qin [34, 38] n)) (K := (fun pc L S μ => if pc = 34 then jX8_ring_34 k34 L S μ else if pc = 38 then jX8_ring_38 (fX8_ring_38 k34 n) L S μ else none)) (cd := qcX8_ring) (M := 245) (d0 := 6) rfl qcok_X8_ring (Nat.le_refl _) (hcX8_ring hcv) (by
    intro pc L S μ r h
    split at h
    · rename_i e; subst e; exact jeX8_ring_34 hk34 h
    split at h
    · rename_i e; subst e; exact jeX8_ring_38 ih h
    cases h) 400 (pc := 38) (L := [.ref x0, .null, .int x2, .int x3, .int x4, .int x5]) (S := []) h
set_option maxRecDepth 100000 in
theorem lbX8_ring_34 {base : Nat} {D : va_G} {ca : Nat → ClassId} {cv : Nat → Value} (hcv : ∀ j, (cv j).category = 1) : ∀ (n : Nat) (x0 : Nat) (x2 : Int32) (x3 : Int32) (x4 : Int32) (μ : qM) (r : qR), fX8_ring_34 n x0 x2 x3 x4 μ = some r → qEv false base D ca cv 7 245 r 34 [.ref x0, .null, .int x2, .int x3, .int x4, .null] [] μ := by
  intro n
  induction n with
  | zero => intro x0 x2 x3 x4 μ r h; cases (show (none : Option qR) = some r from h)
  | succ n ih =>
    intro x0 x2 x3 x4 μ r h
    exact qblk_ev2 (cf := cfX8_ring) (st := (fun n => qin [34, 38] n)) (K := (fun pc L S μ => if pc = 38 then jX8_ring_38 (fX8_ring_38 (fX8_ring_34 n) qfu) L S μ else none)) (cd := qcX8_ring) (M := 245) (d0 := 6) rfl qcok_X8_ring (Nat.le_refl _) (hcX8_ring hcv) (by
    intro pc L S μ r h
    split at h
    · rename_i e; subst e; exact jeX8_ring_38 (lbX8_ring_38 hcv ih qfu) h
    cases h) 400 (pc := 34) (L := [.ref x0, .null, .int x2, .int x3, .int x4, .null]) (S := []) h
theorem npX8_ring : (parseMethodDescriptor (qmy 245).desc).map (fun d => d.parameters.length) = some 1 := by decide +kernel
set_option maxRecDepth 100000 in
theorem gdX8_ring {base : Nat} {D : va_G} {ca : Nat → ClassId} {cv : Nat → Value} (hcv : ∀ j, (cv j).category = 1) {a0 : Nat} {a1 : Int32} {μ : qM} {r : qR} (h : fX8_ring a0 a1 μ = some r) : qGood false base D ca cv 7 245 [.ref a0, .int a1] μ r := by
  unfold fX8_ring at h
  split at h
  · rename_i hk0
    exact qgood_of (by decide) (by omega) hcv (Or.inr ⟨by decide +kernel, hk0⟩) npX8_ring rfl (Nat.le_of_ble_eq_true rfl) rfl (qblk_ev2 (cf := cfX8_ring) (st := (fun n => qin [34, 38] n)) (K := (fun pc L S μ => if pc = 34 then jX8_ring_34 (fX8_ring_34 qfu) L S μ else none)) (cd := qcX8_ring) (M := 245) (d0 := 6) rfl qcok_X8_ring (Nat.le_refl _) (hcX8_ring hcv) (by
    intro pc L S μ r h
    split at h
    · rename_i e; subst e; exact jeX8_ring_34 (lbX8_ring_34 hcv qfu) h
    cases h) 400 (pc := 0) (L := qent [.ref a0, .int a1] 6) (S := []) h)
  · cases h
theorem gaX8_ring {base : Nat} {D : va_G} {ca : Nat → ClassId} {cv : Nat → Value} (hcv : ∀ j, (cv j).category = 1) {l : List Value} {μ : qM} {r : qR} (h : aX8_ring l μ = some r) : qGood false base D ca cv 7 245 l μ r := by
  unfold aX8_ring at h
  split at h
  · exact gdX8_ring hcv h
  · cases h
noncomputable def gX8_victim (a0 : Nat) (μ : qM) : Option qR :=
  qbnd (oPutI μ 8 a0 0 (0 : Int32)) fun μ1 =>
  qbnd (oGetP μ1 8 a0 14) fun v2 =>
  qbnd (fX8_cheapest a0 v2 μ1) fun r3 =>
  if 0 ≤ r3.1 then
    qbnd (oPutI r3.2.2 8 a0 1 (0 : Int32)) fun μ4 =>
    qbnd (oGetP μ4 8 a0 14) fun v5 =>
    qbnd (fX8_cost a0 v5 r3.1 μ4) fun r6 =>
    qbnd (fX8_enters a0 (r6.1).toInt64 r6.2.2) fun r7 =>
    some (r3.1, 0, r7.2.2)
  else
    some ((-2 : Int32), 0, r3.2.2)
noncomputable def fX8_victim (a0 : Nat) (μ : qM) : Option qR := if (qk μ a0).1 = 8 then gX8_victim a0 μ else none
noncomputable def aX8_victim (l : List Value) (μ : qM) : Option qR := match l with
  | [.ref x0] => fX8_victim x0 μ
  | _ => none
noncomputable def cfX8_victim : qF := fun n l μ => if n = 214 then aX8_cheapest l μ else if n = 189 then aX8_cost l μ else if n = 144 then aX8_enters l μ else none
theorem hcX8_victim {base : Nat} {D : va_G} {ca : Nat → ClassId} {cv : Nat → Value} (hcv : ∀ j, (cv j).category = 1) : ∀ M as μ r, cfX8_victim M as μ = some r → qGood false base D ca cv 8 M as μ r := by
  intro M as μ r h
  unfold cfX8_victim at h
  split at h
  · rename_i e; subst e; exact (gaX8_cheapest hcv h).mono (by omega)
  split at h
  · rename_i e; subst e; exact (gaX8_cost hcv h).mono (by omega)
  split at h
  · rename_i e; subst e; exact (gaX8_enters hcv h).mono (by omega)
  cases h
theorem npX8_victim : (parseMethodDescriptor (qmy 246).desc).map (fun d => d.parameters.length) = some 0 := by decide +kernel
set_option maxRecDepth 100000 in
theorem gdX8_victim {base : Nat} {D : va_G} {ca : Nat → ClassId} {cv : Nat → Value} (hcv : ∀ j, (cv j).category = 1) {a0 : Nat} {μ : qM} {r : qR} (h : fX8_victim a0 μ = some r) : qGood false base D ca cv 9 246 [.ref a0] μ r := by
  unfold fX8_victim at h
  split at h
  · rename_i hk0
    exact qgood_of (by decide) (by omega) hcv (Or.inr ⟨by decide +kernel, hk0⟩) npX8_victim rfl (Nat.le_of_ble_eq_true rfl) rfl (qblk_ev2 (cf := cfX8_victim) (st := (fun n => qin [] n)) (K := (fun pc L S μ => none)) (cd := qcX8_victim) (M := 246) (d0 := 8) rfl qcok_X8_victim (Nat.le_refl _) (hcX8_victim hcv) (by
    intro pc L S μ r h
    cases h) 400 (pc := 0) (L := qent [.ref a0] 2) (S := []) h)
  · cases h
theorem gaX8_victim {base : Nat} {D : va_G} {ca : Nat → ClassId} {cv : Nat → Value} (hcv : ∀ j, (cv j).category = 1) {l : List Value} {μ : qM} {r : qR} (h : aX8_victim l μ = some r) : qGood false base D ca cv 9 246 l μ r := by
  unfold aX8_victim at h
  split at h
  · exact gdX8_victim hcv h
  · cases h
noncomputable def fX8_copies_2 : Nat → Nat → Int32 → qM → Option qR
  | 0 => fun _ _ _ => none
  | n + 1 => fun x0 x1 μ =>
    if (755 : Int32) ≤ x1 then
      some (0, 0, μ)
    else
      qbnd (oGetP μ 8 x0 15) fun v1 =>
      qbnd (oGetP μ 8 x0 14) fun v2 =>
      qbnd (oLdI 20 μ v2 x1) fun v3 =>
      qbnd (oStI 20 μ v1 x1 v3) fun μ4 =>
      fX8_copies_2 n x0 (x1 + (1 : Int32)) μ4
noncomputable def gX8_copies (a0 : Nat) (μ : qM) : Option qR :=
  fX8_copies_2 qfu a0 (0 : Int32) μ
noncomputable def fX8_copies (a0 : Nat) (μ : qM) : Option qR := if (qk μ a0).1 = 8 then gX8_copies a0 μ else none
noncomputable def aX8_copies (l : List Value) (μ : qM) : Option qR := match l with
  | [.ref x0] => fX8_copies x0 μ
  | _ => none
noncomputable def cfX8_copies : qF := fun n l μ => none
theorem hcX8_copies {base : Nat} {D : va_G} {ca : Nat → ClassId} {cv : Nat → Value} (hcv : ∀ j, (cv j).category = 1) : ∀ M as μ r, cfX8_copies M as μ = some r → qGood false base D ca cv 0 M as μ r := by
  intro M as μ r h
  cases h
def jX8_copies_2 (f : Nat → Int32 → qM → Option qR) (L S : List Value) (μ : qM) : Option qR := match L, S with
  | [.ref x0, .int x1], [] => f x0 x1 μ
  | _, _ => none
theorem jeX8_copies_2 {base : Nat} {D : va_G} {ca : Nat → ClassId} {cv : Nat → Value} {d : Nat} {f : Nat → Int32 → qM → Option qR} (hf : ∀ (x0 : Nat) (x1 : Int32) (μ : qM) (r : qR), f x0 x1 μ = some r → qEv false base D ca cv d 247 r 2 [.ref x0, .int x1] [] μ) {L S : List Value} {μ : qM} {r : qR} (h : jX8_copies_2 f L S μ = some r) : qEv false base D ca cv d 247 r 2 L S μ := by
  unfold jX8_copies_2 at h
  split at h
  · exact (hf _ _ _ _ h).le rfl ⟨Or.inr rfl, Or.inr rfl, trivial⟩
  · cases h
set_option maxRecDepth 100000 in
theorem lbX8_copies_2 {base : Nat} {D : va_G} {ca : Nat → ClassId} {cv : Nat → Value} (hcv : ∀ j, (cv j).category = 1) : ∀ (n : Nat) (x0 : Nat) (x1 : Int32) (μ : qM) (r : qR), fX8_copies_2 n x0 x1 μ = some r → qEv false base D ca cv 1 247 r 2 [.ref x0, .int x1] [] μ := by
  intro n
  induction n with
  | zero => intro x0 x1 μ r h; cases (show (none : Option qR) = some r from h)
  | succ n ih =>
    intro x0 x1 μ r h
    exact qblk_ev2 (cf := cfX8_copies) (st := (fun n => qin [2] n)) (K := (fun pc L S μ => if pc = 2 then jX8_copies_2 (fX8_copies_2 n) L S μ else none)) (cd := qcX8_copies) (M := 247) (d0 := 0) rfl qcok_X8_copies (Nat.le_refl _) (hcX8_copies hcv) (by
    intro pc L S μ r h
    split at h
    · rename_i e; subst e; exact jeX8_copies_2 ih h
    cases h) 400 (pc := 2) (L := [.ref x0, .int x1]) (S := []) h
theorem npX8_copies : (parseMethodDescriptor (qmy 247).desc).map (fun d => d.parameters.length) = some 0 := by decide +kernel
set_option maxRecDepth 100000 in
theorem gdX8_copies {base : Nat} {D : va_G} {ca : Nat → ClassId} {cv : Nat → Value} (hcv : ∀ j, (cv j).category = 1) {a0 : Nat} {μ : qM} {r : qR} (h : fX8_copies a0 μ = some r) : qGood false base D ca cv 1 247 [.ref a0] μ r := by
  unfold fX8_copies at h
  split at h
  · rename_i hk0
    exact qgood_of (by decide) (by omega) hcv (Or.inr ⟨by decide +kernel, hk0⟩) npX8_copies rfl (Nat.le_of_ble_eq_true rfl) rfl (qblk_ev2 (cf := cfX8_copies) (st := (fun n => qin [2] n)) (K := (fun pc L S μ => if pc = 2 then jX8_copies_2 (fX8_copies_2 qfu) L S μ else none)) (cd := qcX8_copies) (M := 247) (d0 := 0) rfl qcok_X8_copies (Nat.le_refl _) (hcX8_copies hcv) (by
    intro pc L S μ r h
    split at h
    · rename_i e; subst e; exact jeX8_copies_2 (lbX8_copies_2 hcv qfu) h
    cases h) 400 (pc := 0) (L := qent [.ref a0] 2) (S := []) h)
  · cases h
theorem gaX8_copies {base : Nat} {D : va_G} {ca : Nat → ClassId} {cv : Nat → Value} (hcv : ∀ j, (cv j).category = 1) {l : List Value} {μ : qM} {r : qR} (h : aX8_copies l μ = some r) : qGood false base D ca cv 1 247 l μ r := by
  unfold aX8_copies at h
  split at h
  · exact gdX8_copies hcv h
  · cases h
noncomputable def fX8_frees_55 (k27 : Nat → Int32 → Int32 → Int32 → Int32 → qM → Option qR) : Nat → Nat → Int32 → Int32 → Int32 → Int32 → Int32 → qM → Option qR
  | 0 => fun _ _ _ _ _ _ _ => none
  | n + 1 => fun x0 x1 x2 x3 x4 x6 μ =>
    if (8 : Int32) ≤ x6 then
      qbnd (oGetP μ 8 x0 15) fun v1 =>
      qbnd (oLdI 20 μ v1 ((680 : Int32) + x1)) fun v2 =>
      if v2 = (1 : Int32) then
        k27 x0 x1 x2 x4 (x4 + (1 : Int32)) μ
      else
        k27 x0 x1 x2 x3 (x4 + (1 : Int32)) μ
    else
      qbnd (fX8_has x4 x6 μ) fun r3 =>
      if r3.1 = 0 then
        fX8_frees_55 k27 n x0 x1 x2 x3 x4 (x6 + (1 : Int32)) r3.2.2
      else
        qbnd (oGetP r3.2.2 8 x0 15) fun v4 =>
        qbnd (fX8_goes x0 v4 x6 r3.2.2) fun r5 =>
        fX8_frees_55 k27 n x0 x1 x2 x3 x4 (x6 + (1 : Int32)) r5.2.2
noncomputable def fX8_frees_48 (k27 : Nat → Int32 → Int32 → Int32 → Int32 → qM → Option qR) (x0 : Nat) (x1 : Int32) (x2 : Int32) (x3 : Int32) (x4 : Int32) (s0 : Int32) (μ : qM) : Option qR :=
  if s0 = 0 then
    k27 x0 x1 x2 x3 (x4 + (1 : Int32)) μ
  else
    qbnd (fX8_copies x0 μ) fun r1 =>
    fX8_frees_55 k27 qfu x0 x1 x2 x3 x4 (0 : Int32) r1.2.2
noncomputable def fX8_frees_47 (k27 : Nat → Int32 → Int32 → Int32 → Int32 → qM → Option qR) (x0 : Nat) (x1 : Int32) (x2 : Int32) (x3 : Int32) (x4 : Int32) (μ : qM) : Option qR :=
  fX8_frees_48 k27 x0 x1 x2 x3 x4 (0 : Int32) μ
noncomputable def fX8_frees_45 (k27 : Nat → Int32 → Int32 → Int32 → Int32 → qM → Option qR) (x0 : Nat) (x1 : Int32) (x2 : Int32) (x3 : Int32) (x4 : Int32) (μ : qM) : Option qR :=
  fX8_frees_48 k27 x0 x1 x2 x3 x4 (1 : Int32) μ
noncomputable def fX8_frees_27 : Nat → Nat → Int32 → Int32 → Int32 → Int32 → qM → Option qR
  | 0 => fun _ _ _ _ _ _ => none
  | n + 1 => fun x0 x1 x2 x3 x4 μ =>
    if (256 : Int32) ≤ x4 then
      qbnd (oPutI μ 8 x0 1 (0 : Int32)) fun μ1 =>
      qbnd (fX8_enters x0 (x3).toInt64 μ1) fun r2 =>
      qbnd (fJ6_bitCount_0f7a4 x3 r2.2.2) fun r3 =>
      some (r3.1, 0, r3.2.2)
    else
      qbnd (fX8_has x4 x1 μ) fun r4 =>
      if r4.1 = 0 then
        if (x4 &&& x2) = 0 then
          if x3 < 0 then
            fX8_frees_45 (fX8_frees_27 n) x0 x1 x2 x3 x4 r4.2.2
          else
            qbnd (fJ6_bitCount_0f7a4 x4 r4.2.2) fun r5 =>
            qbnd (fJ6_bitCount_0f7a4 x3 r5.2.2) fun r6 =>
            if r6.1 ≤ r5.1 then
              fX8_frees_47 (fX8_frees_27 n) x0 x1 x2 x3 x4 r6.2.2
            else
              fX8_frees_45 (fX8_frees_27 n) x0 x1 x2 x3 x4 r6.2.2
        else
          fX8_frees_47 (fX8_frees_27 n) x0 x1 x2 x3 x4 r4.2.2
      else
        fX8_frees_47 (fX8_frees_27 n) x0 x1 x2 x3 x4 r4.2.2
noncomputable def gX8_frees (a0 : Nat) (a1 : Int32) (μ : qM) : Option qR :=
  qbnd (oPutI μ 8 a0 0 (0 : Int32)) fun μ1 =>
  qbnd (fX8_isOwner a1 μ1) fun r2 =>
  if r2.1 = 0 then
    some ((-1 : Int32), 0, r2.2.2)
  else
    qbnd (oGetP r2.2.2 8 a0 14) fun v3 =>
    qbnd (oLdI 20 r2.2.2 v3 ((680 : Int32) + a1)) fun v4 =>
    if v4 = (2 : Int32) then
      qbnd (oGetP r2.2.2 8 a0 14) fun v5 =>
      qbnd (fX8_so v5 (0 : Int32) r2.2.2) fun r6 =>
      fX8_frees_27 qfu a0 a1 r6.1 (-1 : Int32) (0 : Int32) r6.2.2
    else
      some ((-2 : Int32), 0, r2.2.2)
noncomputable def fX8_frees (a0 : Nat) (a1 : Int32) (μ : qM) : Option qR := if (qk μ a0).1 = 8 then gX8_frees a0 a1 μ else none
noncomputable def aX8_frees (l : List Value) (μ : qM) : Option qR := match l with
  | [.ref x0, .int x1] => fX8_frees x0 x1 μ
  | _ => none
noncomputable def cfX8_frees : qF := fun n l μ => if n = 171 then aX8_isOwner l μ else if n = 175 then aX8_so l μ else if n = 142 then aX8_has l μ else if n = 267 then aJ6_bitCount_0f7a4 l μ else if n = 247 then aX8_copies l μ else if n = 210 then aX8_goes l μ else if n = 144 then aX8_enters l μ else none
theorem hcX8_frees {base : Nat} {D : va_G} {ca : Nat → ClassId} {cv : Nat → Value} (hcv : ∀ j, (cv j).category = 1) : ∀ M as μ r, cfX8_frees M as μ = some r → qGood false base D ca cv 1002 M as μ r := by
  intro M as μ r h
  unfold cfX8_frees at h
  split at h
  · rename_i e; subst e; exact (gaX8_isOwner hcv h).mono (by omega)
  split at h
  · rename_i e; subst e; exact (gaX8_so hcv h).mono (by omega)
  split at h
  · rename_i e; subst e; exact (gaX8_has hcv h).mono (by omega)
  split at h
  · rename_i e; subst e; exact (gaJ6_bitCount_0f7a4 hcv h).mono (by omega)
  split at h
  · rename_i e; subst e; exact (gaX8_copies hcv h).mono (by omega)
  split at h
  · rename_i e; subst e; exact (gaX8_goes hcv h).mono (by omega)
  split at h
  · rename_i e; subst e; exact (gaX8_enters hcv h).mono (by omega)
  cases h
def jX8_frees_27 (f : Nat → Int32 → Int32 → Int32 → Int32 → qM → Option qR) (L S : List Value) (μ : qM) : Option qR := match L, S with
  | [.ref x0, .int x1, .int x2, .int x3, .int x4, _, _], [] => f x0 x1 x2 x3 x4 μ
  | _, _ => none
theorem jeX8_frees_27 {base : Nat} {D : va_G} {ca : Nat → ClassId} {cv : Nat → Value} {d : Nat} {f : Nat → Int32 → Int32 → Int32 → Int32 → qM → Option qR} (hf : ∀ (x0 : Nat) (x1 : Int32) (x2 : Int32) (x3 : Int32) (x4 : Int32) (μ : qM) (r : qR), f x0 x1 x2 x3 x4 μ = some r → qEv false base D ca cv d 248 r 27 [.ref x0, .int x1, .int x2, .int x3, .int x4, .null, .null] [] μ) {L S : List Value} {μ : qM} {r : qR} (h : jX8_frees_27 f L S μ = some r) : qEv false base D ca cv d 248 r 27 L S μ := by
  unfold jX8_frees_27 at h
  split at h
  · exact (hf _ _ _ _ _ _ _ h).le rfl ⟨Or.inr rfl, Or.inr rfl, Or.inr rfl, Or.inr rfl, Or.inr rfl, Or.inl rfl, Or.inl rfl, trivial⟩
  · cases h
def jX8_frees_45 (f : Nat → Int32 → Int32 → Int32 → Int32 → qM → Option qR) (L S : List Value) (μ : qM) : Option qR := match L, S with
  | [.ref x0, .int x1, .int x2, .int x3, .int x4, _, _], [] => f x0 x1 x2 x3 x4 μ
  | _, _ => none
theorem jeX8_frees_45 {base : Nat} {D : va_G} {ca : Nat → ClassId} {cv : Nat → Value} {d : Nat} {f : Nat → Int32 → Int32 → Int32 → Int32 → qM → Option qR} (hf : ∀ (x0 : Nat) (x1 : Int32) (x2 : Int32) (x3 : Int32) (x4 : Int32) (μ : qM) (r : qR), f x0 x1 x2 x3 x4 μ = some r → qEv false base D ca cv d 248 r 45 [.ref x0, .int x1, .int x2, .int x3, .int x4, .null, .null] [] μ) {L S : List Value} {μ : qM} {r : qR} (h : jX8_frees_45 f L S μ = some r) : qEv false base D ca cv d 248 r 45 L S μ := by
  unfold jX8_frees_45 at h
  split at h
  · exact (hf _ _ _ _ _ _ _ h).le rfl ⟨Or.inr rfl, Or.inr rfl, Or.inr rfl, Or.inr rfl, Or.inr rfl, Or.inl rfl, Or.inl rfl, trivial⟩
  · cases h
def jX8_frees_47 (f : Nat → Int32 → Int32 → Int32 → Int32 → qM → Option qR) (L S : List Value) (μ : qM) : Option qR := match L, S with
  | [.ref x0, .int x1, .int x2, .int x3, .int x4, _, _], [] => f x0 x1 x2 x3 x4 μ
  | _, _ => none
theorem jeX8_frees_47 {base : Nat} {D : va_G} {ca : Nat → ClassId} {cv : Nat → Value} {d : Nat} {f : Nat → Int32 → Int32 → Int32 → Int32 → qM → Option qR} (hf : ∀ (x0 : Nat) (x1 : Int32) (x2 : Int32) (x3 : Int32) (x4 : Int32) (μ : qM) (r : qR), f x0 x1 x2 x3 x4 μ = some r → qEv false base D ca cv d 248 r 47 [.ref x0, .int x1, .int x2, .int x3, .int x4, .null, .null] [] μ) {L S : List Value} {μ : qM} {r : qR} (h : jX8_frees_47 f L S μ = some r) : qEv false base D ca cv d 248 r 47 L S μ := by
  unfold jX8_frees_47 at h
  split at h
  · exact (hf _ _ _ _ _ _ _ h).le rfl ⟨Or.inr rfl, Or.inr rfl, Or.inr rfl, Or.inr rfl, Or.inr rfl, Or.inl rfl, Or.inl rfl, trivial⟩
  · cases h
def jX8_frees_48 (f : Nat → Int32 → Int32 → Int32 → Int32 → Int32 → qM → Option qR) (L S : List Value) (μ : qM) : Option qR := match L, S with
  | [.ref x0, .int x1, .int x2, .int x3, .int x4, _, _], [.int s0] => f x0 x1 x2 x3 x4 s0 μ
  | _, _ => none
theorem jeX8_frees_48 {base : Nat} {D : va_G} {ca : Nat → ClassId} {cv : Nat → Value} {d : Nat} {f : Nat → Int32 → Int32 → Int32 → Int32 → Int32 → qM → Option qR} (hf : ∀ (x0 : Nat) (x1 : Int32) (x2 : Int32) (x3 : Int32) (x4 : Int32) (s0 : Int32) (μ : qM) (r : qR), f x0 x1 x2 x3 x4 s0 μ = some r → qEv false base D ca cv d 248 r 48 [.ref x0, .int x1, .int x2, .int x3, .int x4, .null, .null] [.int s0] μ) {L S : List Value} {μ : qM} {r : qR} (h : jX8_frees_48 f L S μ = some r) : qEv false base D ca cv d 248 r 48 L S μ := by
  unfold jX8_frees_48 at h
  split at h
  · exact (hf _ _ _ _ _ _ _ _ h).le rfl ⟨Or.inr rfl, Or.inr rfl, Or.inr rfl, Or.inr rfl, Or.inr rfl, Or.inl rfl, Or.inl rfl, trivial⟩
  · cases h
def jX8_frees_55 (f : Nat → Int32 → Int32 → Int32 → Int32 → Int32 → qM → Option qR) (L S : List Value) (μ : qM) : Option qR := match L, S with
  | [.ref x0, .int x1, .int x2, .int x3, .int x4, _, .int x6], [] => f x0 x1 x2 x3 x4 x6 μ
  | _, _ => none
theorem jeX8_frees_55 {base : Nat} {D : va_G} {ca : Nat → ClassId} {cv : Nat → Value} {d : Nat} {f : Nat → Int32 → Int32 → Int32 → Int32 → Int32 → qM → Option qR} (hf : ∀ (x0 : Nat) (x1 : Int32) (x2 : Int32) (x3 : Int32) (x4 : Int32) (x6 : Int32) (μ : qM) (r : qR), f x0 x1 x2 x3 x4 x6 μ = some r → qEv false base D ca cv d 248 r 55 [.ref x0, .int x1, .int x2, .int x3, .int x4, .null, .int x6] [] μ) {L S : List Value} {μ : qM} {r : qR} (h : jX8_frees_55 f L S μ = some r) : qEv false base D ca cv d 248 r 55 L S μ := by
  unfold jX8_frees_55 at h
  split at h
  · exact (hf _ _ _ _ _ _ _ _ h).le rfl ⟨Or.inr rfl, Or.inr rfl, Or.inr rfl, Or.inr rfl, Or.inr rfl, Or.inl rfl, Or.inr rfl, trivial⟩
  · cases h
set_option maxRecDepth 100000 in
theorem lbX8_frees_55 {base : Nat} {D : va_G} {ca : Nat → ClassId} {cv : Nat → Value} (hcv : ∀ j, (cv j).category = 1) {k27 : Nat → Int32 → Int32 → Int32 → Int32 → qM → Option qR} (hk27 : ∀ (y0 : Nat) (y1 : Int32) (y2 : Int32) (y3 : Int32) (y4 : Int32) (μ : qM) (r : qR), k27 y0 y1 y2 y3 y4 μ = some r → qEv false base D ca cv 1003 248 r 27 [.ref y0, .int y1, .int y2, .int y3, .int y4, .null, .null] [] μ) : ∀ (n : Nat) (x0 : Nat) (x1 : Int32) (x2 : Int32) (x3 : Int32) (x4 : Int32) (x6 : Int32) (μ : qM) (r : qR), fX8_frees_55 k27 n x0 x1 x2 x3 x4 x6 μ = some r → qEv false base D ca cv 1003 248 r 55 [.ref x0, .int x1, .int x2, .int x3, .int x4, .null, .int x6] [] μ := by
  intro n
  induction n with
  | zero => intro x0 x1 x2 x3 x4 x6 μ r h; cases (show (none : Option qR) = some r from h)
  | succ n ih =>
    intro x0 x1 x2 x3 x4 x6 μ r h
    exact qblk_ev2 (cf := cfX8_frees) (st := (fun n => qin [27, 45, 47, 48, 55] n)) (K := (fun pc L S μ => if pc = 27 then jX8_frees_27 k27 L S μ else if pc = 55 then jX8_frees_55 (fX8_frees_55 k27 n) L S μ else none)) (cd := qcX8_frees) (M := 248) (d0 := 1002) rfl qcok_X8_frees (Nat.le_refl _) (hcX8_frees hcv) (by
    intro pc L S μ r h
    split at h
    · rename_i e; subst e; exact jeX8_frees_27 hk27 h
    split at h
    · rename_i e; subst e; exact jeX8_frees_55 ih h
    cases h) 400 (pc := 55) (L := [.ref x0, .int x1, .int x2, .int x3, .int x4, .null, .int x6]) (S := []) h
set_option maxRecDepth 100000 in
theorem lbX8_frees_48 {base : Nat} {D : va_G} {ca : Nat → ClassId} {cv : Nat → Value} (hcv : ∀ j, (cv j).category = 1) {k27 : Nat → Int32 → Int32 → Int32 → Int32 → qM → Option qR} (hk27 : ∀ (y0 : Nat) (y1 : Int32) (y2 : Int32) (y3 : Int32) (y4 : Int32) (μ : qM) (r : qR), k27 y0 y1 y2 y3 y4 μ = some r → qEv false base D ca cv 1003 248 r 27 [.ref y0, .int y1, .int y2, .int y3, .int y4, .null, .null] [] μ) (x0 : Nat) (x1 : Int32) (x2 : Int32) (x3 : Int32) (x4 : Int32) (s0 : Int32) (μ : qM) (r : qR) (h : fX8_frees_48 k27 x0 x1 x2 x3 x4 s0 μ = some r) : qEv false base D ca cv 1003 248 r 48 [.ref x0, .int x1, .int x2, .int x3, .int x4, .null, .null] [.int s0] μ := by
    exact qblk_ev2 (cf := cfX8_frees) (st := (fun n => qin [27, 45, 47, 48, 55] n)) (K := (fun pc L S μ => if pc = 27 then jX8_frees_27 k27 L S μ else if pc = 55 then jX8_frees_55 (fX8_frees_55 k27 qfu) L S μ else none)) (cd := qcX8_frees) (M := 248) (d0 := 1002) rfl qcok_X8_frees (Nat.le_refl _) (hcX8_frees hcv) (by
    intro pc L S μ r h
    split at h
    · rename_i e; subst e; exact jeX8_frees_27 hk27 h
    split at h
    · rename_i e; subst e; exact jeX8_frees_55 (lbX8_frees_55 hcv hk27 qfu) h
    cases h) 400 (pc := 48) (L := [.ref x0, .int x1, .int x2, .int x3, .int x4, .null, .null]) (S := [.int s0]) h
set_option maxRecDepth 100000 in
theorem lbX8_frees_47 {base : Nat} {D : va_G} {ca : Nat → ClassId} {cv : Nat → Value} (hcv : ∀ j, (cv j).category = 1) {k27 : Nat → Int32 → Int32 → Int32 → Int32 → qM → Option qR} (hk27 : ∀ (y0 : Nat) (y1 : Int32) (y2 : Int32) (y3 : Int32) (y4 : Int32) (μ : qM) (r : qR), k27 y0 y1 y2 y3 y4 μ = some r → qEv false base D ca cv 1003 248 r 27 [.ref y0, .int y1, .int y2, .int y3, .int y4, .null, .null] [] μ) (x0 : Nat) (x1 : Int32) (x2 : Int32) (x3 : Int32) (x4 : Int32) (μ : qM) (r : qR) (h : fX8_frees_47 k27 x0 x1 x2 x3 x4 μ = some r) : qEv false base D ca cv 1003 248 r 47 [.ref x0, .int x1, .int x2, .int x3, .int x4, .null, .null] [] μ := by
    exact qblk_ev2 (cf := cfX8_frees) (st := (fun n => qin [27, 45, 47, 48, 55] n)) (K := (fun pc L S μ => if pc = 48 then jX8_frees_48 (fX8_frees_48 k27) L S μ else none)) (cd := qcX8_frees) (M := 248) (d0 := 1002) rfl qcok_X8_frees (Nat.le_refl _) (hcX8_frees hcv) (by
    intro pc L S μ r h
    split at h
    · rename_i e; subst e; exact jeX8_frees_48 (lbX8_frees_48 hcv hk27) h
    cases h) 400 (pc := 47) (L := [.ref x0, .int x1, .int x2, .int x3, .int x4, .null, .null]) (S := []) h
set_option maxRecDepth 100000 in
theorem lbX8_frees_45 {base : Nat} {D : va_G} {ca : Nat → ClassId} {cv : Nat → Value} (hcv : ∀ j, (cv j).category = 1) {k27 : Nat → Int32 → Int32 → Int32 → Int32 → qM → Option qR} (hk27 : ∀ (y0 : Nat) (y1 : Int32) (y2 : Int32) (y3 : Int32) (y4 : Int32) (μ : qM) (r : qR), k27 y0 y1 y2 y3 y4 μ = some r → qEv false base D ca cv 1003 248 r 27 [.ref y0, .int y1, .int y2, .int y3, .int y4, .null, .null] [] μ) (x0 : Nat) (x1 : Int32) (x2 : Int32) (x3 : Int32) (x4 : Int32) (μ : qM) (r : qR) (h : fX8_frees_45 k27 x0 x1 x2 x3 x4 μ = some r) : qEv false base D ca cv 1003 248 r 45 [.ref x0, .int x1, .int x2, .int x3, .int x4, .null, .null] [] μ := by
    exact qblk_ev2 (cf := cfX8_frees) (st := (fun n => qin [27, 45, 47, 48, 55] n)) (K := (fun pc L S μ => if pc = 48 then jX8_frees_48 (fX8_frees_48 k27) L S μ else none)) (cd := qcX8_frees) (M := 248) (d0 := 1002) rfl qcok_X8_frees (Nat.le_refl _) (hcX8_frees hcv) (by
    intro pc L S μ r h
    split at h
    · rename_i e; subst e; exact jeX8_frees_48 (lbX8_frees_48 hcv hk27) h
    cases h) 400 (pc := 45) (L := [.ref x0, .int x1, .int x2, .int x3, .int x4, .null, .null]) (S := []) h
set_option maxRecDepth 100000 in
theorem lbX8_frees_27 {base : Nat} {D : va_G} {ca : Nat → ClassId} {cv : Nat → Value} (hcv : ∀ j, (cv j).category = 1) : ∀ (n : Nat) (x0 : Nat) (x1 : Int32) (x2 : Int32) (x3 : Int32) (x4 : Int32) (μ : qM) (r : qR), fX8_frees_27 n x0 x1 x2 x3 x4 μ = some r → qEv false base D ca cv 1003 248 r 27 [.ref x0, .int x1, .int x2, .int x3, .int x4, .null, .null] [] μ := by
  intro n
  induction n with
  | zero => intro x0 x1 x2 x3 x4 μ r h; cases (show (none : Option qR) = some r from h)
  | succ n ih =>
    intro x0 x1 x2 x3 x4 μ r h
    exact qblk_ev2 (cf := cfX8_frees) (st := (fun n => qin [27, 45, 47, 48, 55] n)) (K := (fun pc L S μ => if pc = 45 then jX8_frees_45 (fX8_frees_45 (fX8_frees_27 n)) L S μ else if pc = 47 then jX8_frees_47 (fX8_frees_47 (fX8_frees_27 n)) L S μ else none)) (cd := qcX8_frees) (M := 248) (d0 := 1002) rfl qcok_X8_frees (Nat.le_refl _) (hcX8_frees hcv) (by
    intro pc L S μ r h
    split at h
    · rename_i e; subst e; exact jeX8_frees_45 (lbX8_frees_45 hcv ih) h
    split at h
    · rename_i e; subst e; exact jeX8_frees_47 (lbX8_frees_47 hcv ih) h
    cases h) 400 (pc := 27) (L := [.ref x0, .int x1, .int x2, .int x3, .int x4, .null, .null]) (S := []) h
theorem npX8_frees : (parseMethodDescriptor (qmy 248).desc).map (fun d => d.parameters.length) = some 1 := by decide +kernel
set_option maxRecDepth 100000 in
theorem gdX8_frees {base : Nat} {D : va_G} {ca : Nat → ClassId} {cv : Nat → Value} (hcv : ∀ j, (cv j).category = 1) {a0 : Nat} {a1 : Int32} {μ : qM} {r : qR} (h : fX8_frees a0 a1 μ = some r) : qGood false base D ca cv 1003 248 [.ref a0, .int a1] μ r := by
  unfold fX8_frees at h
  split at h
  · rename_i hk0
    exact qgood_of (by decide) (by omega) hcv (Or.inr ⟨by decide +kernel, hk0⟩) npX8_frees rfl (Nat.le_of_ble_eq_true rfl) rfl (qblk_ev2 (cf := cfX8_frees) (st := (fun n => qin [27, 45, 47, 48, 55] n)) (K := (fun pc L S μ => if pc = 27 then jX8_frees_27 (fX8_frees_27 qfu) L S μ else none)) (cd := qcX8_frees) (M := 248) (d0 := 1002) rfl qcok_X8_frees (Nat.le_refl _) (hcX8_frees hcv) (by
    intro pc L S μ r h
    split at h
    · rename_i e; subst e; exact jeX8_frees_27 (lbX8_frees_27 hcv qfu) h
    cases h) 400 (pc := 0) (L := qent [.ref a0, .int a1] 7) (S := []) h)
  · cases h
theorem gaX8_frees {base : Nat} {D : va_G} {ca : Nat → ClassId} {cv : Nat → Value} (hcv : ∀ j, (cv j).category = 1) {l : List Value} {μ : qM} {r : qR} (h : aX8_frees l μ = some r) : qGood false base D ca cv 1003 248 l μ r := by
  unfold aX8_frees at h
  split at h
  · exact gdX8_frees hcv h
  · cases h

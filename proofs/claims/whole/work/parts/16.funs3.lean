/-! FUNCTIONS out of the codes, and that the machine does as they do, 3 (printed by gen/emit6.py) -/
noncomputable def fX7_common_19 : Nat → Nat → Int32 → Int32 → Int32 → Int32 → Int32 → Int32 → qM → Option qR
  | 0 => fun _ _ _ _ _ _ _ _ => none
  | n + 1 => fun x0 x1 x2 x3 x4 x5 x6 μ =>
    if x6 < 0 then
      qbnd (oGetP μ 7 x0 7) fun v1 =>
      qbnd (fX3_two v1 (x4).toInt64 (x5).toInt64 μ) fun r2 =>
      some (x3, 0, r2.2.2)
    else
      qbnd (oGetP μ 7 x0 2) fun v3 =>
      qbnd (fX5_modeAt v3 x1 x6 μ) fun r4 =>
      if r4.1 = 0 then
        fX7_common_19 n x0 x1 x2 x3 x4 x5 (x6 + (-1 : Int32)) r4.2.2
      else
        qbnd (oGetP r4.2.2 7 x0 2) fun v5 =>
        qbnd (fX5_modeAt v5 x2 x6 r4.2.2) fun r6 =>
        if r6.1 = 0 then
          fX7_common_19 n x0 x1 x2 x3 x4 x5 (x6 + (-1 : Int32)) r6.2.2
        else
          qbnd (oGetP r6.2.2 7 x0 2) fun v7 =>
          qbnd (oGetP r6.2.2 5 v7 5) fun v8 =>
          qbnd (oLdI 20 r6.2.2 v8 x1) fun v9 =>
          if v9 = x6 then
            fX7_common_19 n x0 x1 x2 (x3 + (1 : Int32)) x6 (x5 + (1 : Int32)) (x6 + (-1 : Int32)) r6.2.2
          else
            qbnd (oGetP r6.2.2 7 x0 2) fun v10 =>
            qbnd (oGetP r6.2.2 5 v10 5) fun v11 =>
            qbnd (oLdI 20 r6.2.2 v11 x2) fun v12 =>
            if v12 = x6 then
              fX7_common_19 n x0 x1 x2 (x3 + (1 : Int32)) x6 (x5 + (1 : Int32)) (x6 + (-1 : Int32)) r6.2.2
            else
              fX7_common_19 n x0 x1 x2 (x3 + (1 : Int32)) x6 (x5 + (0 : Int32)) (x6 + (-1 : Int32)) r6.2.2
noncomputable def gX7_common (a0 : Nat) (a1 : Int32) (a2 : Int32) (μ : qM) : Option qR :=
  qbnd (fX7_isOwner a1 μ) fun r1 =>
  if r1.1 = 0 then
    some ((-1 : Int32), 0, r1.2.2)
  else
    qbnd (fX7_isOwner a2 r1.2.2) fun r2 =>
    if r2.1 = 0 then
      some ((-1 : Int32), 0, r2.2.2)
    else
      if a1 = a2 then
        some ((-1 : Int32), 0, r2.2.2)
      else
        fX7_common_19 qfu a0 a1 a2 (0 : Int32) (85 : Int32) (0 : Int32) (84 : Int32) r2.2.2
noncomputable def fX7_common (a0 : Nat) (a1 : Int32) (a2 : Int32) (μ : qM) : Option qR := if (qk μ a0).1 = 7 then gX7_common a0 a1 a2 μ else none
noncomputable def aX7_common (l : List Value) (μ : qM) : Option qR := match l with
  | [.ref x0, .int x1, .int x2] => fX7_common x0 x1 x2 μ
  | _ => none
noncomputable def cfX7_common : qF := fun n l μ => if n = 131 then aX7_isOwner l μ else if n = 54 then aX5_modeAt l μ else if n = 35 then aX3_two l μ else none
theorem hcX7_common {base : Nat} {D : va_G} {ca : Nat → ClassId} {cv : Nat → Value} (hcv : ∀ j, (cv j).category = 1) : ∀ M as μ r, cfX7_common M as μ = some r → qGood false base D ca cv 2 M as μ r := by
  intro M as μ r h
  unfold cfX7_common at h
  split at h
  · rename_i e; subst e; exact (gaX7_isOwner hcv h).mono (by omega)
  split at h
  · rename_i e; subst e; exact (gaX5_modeAt hcv h).mono (by omega)
  split at h
  · rename_i e; subst e; exact (gaX3_two hcv h).mono (by omega)
  cases h
def jX7_common_19 (f : Nat → Int32 → Int32 → Int32 → Int32 → Int32 → Int32 → qM → Option qR) (L S : List Value) (μ : qM) : Option qR := match L, S with
  | [.ref x0, .int x1, .int x2, .int x3, .int x4, .int x5, .int x6], [] => f x0 x1 x2 x3 x4 x5 x6 μ
  | _, _ => none
theorem jeX7_common_19 {base : Nat} {D : va_G} {ca : Nat → ClassId} {cv : Nat → Value} {d : Nat} {f : Nat → Int32 → Int32 → Int32 → Int32 → Int32 → Int32 → qM → Option qR} (hf : ∀ (x0 : Nat) (x1 : Int32) (x2 : Int32) (x3 : Int32) (x4 : Int32) (x5 : Int32) (x6 : Int32) (μ : qM) (r : qR), f x0 x1 x2 x3 x4 x5 x6 μ = some r → qEv false base D ca cv d 120 r 19 [.ref x0, .int x1, .int x2, .int x3, .int x4, .int x5, .int x6] [] μ) {L S : List Value} {μ : qM} {r : qR} (h : jX7_common_19 f L S μ = some r) : qEv false base D ca cv d 120 r 19 L S μ := by
  unfold jX7_common_19 at h
  split at h
  · exact (hf _ _ _ _ _ _ _ _ _ h).le rfl ⟨Or.inr rfl, Or.inr rfl, Or.inr rfl, Or.inr rfl, Or.inr rfl, Or.inr rfl, Or.inr rfl, trivial⟩
  · cases h
set_option maxRecDepth 100000 in
theorem lbX7_common_19 {base : Nat} {D : va_G} {ca : Nat → ClassId} {cv : Nat → Value} (hcv : ∀ j, (cv j).category = 1) : ∀ (n : Nat) (x0 : Nat) (x1 : Int32) (x2 : Int32) (x3 : Int32) (x4 : Int32) (x5 : Int32) (x6 : Int32) (μ : qM) (r : qR), fX7_common_19 n x0 x1 x2 x3 x4 x5 x6 μ = some r → qEv false base D ca cv 3 120 r 19 [.ref x0, .int x1, .int x2, .int x3, .int x4, .int x5, .int x6] [] μ := by
  intro n
  induction n with
  | zero => intro x0 x1 x2 x3 x4 x5 x6 μ r h; cases (show (none : Option qR) = some r from h)
  | succ n ih =>
    intro x0 x1 x2 x3 x4 x5 x6 μ r h
    exact qblk_ev2 (cf := cfX7_common) (st := (fun n => qin [19] n)) (K := (fun pc L S μ => if pc = 19 then jX7_common_19 (fX7_common_19 n) L S μ else none)) (cd := qcX7_common) (M := 120) (d0 := 2) rfl qcok_X7_common (Nat.le_refl _) (hcX7_common hcv) (by
    intro pc L S μ r h
    split at h
    · rename_i e; subst e; exact jeX7_common_19 ih h
    cases h) 400 (pc := 19) (L := [.ref x0, .int x1, .int x2, .int x3, .int x4, .int x5, .int x6]) (S := []) h
theorem npX7_common : (parseMethodDescriptor (qmy 120).desc).map (fun d => d.parameters.length) = some 2 := by decide +kernel
set_option maxRecDepth 100000 in
theorem gdX7_common {base : Nat} {D : va_G} {ca : Nat → ClassId} {cv : Nat → Value} (hcv : ∀ j, (cv j).category = 1) {a0 : Nat} {a1 : Int32} {a2 : Int32} {μ : qM} {r : qR} (h : fX7_common a0 a1 a2 μ = some r) : qGood false base D ca cv 3 120 [.ref a0, .int a1, .int a2] μ r := by
  unfold fX7_common at h
  split at h
  · rename_i hk0
    exact qgood_of (by decide) (by omega) hcv (Or.inr ⟨by decide +kernel, hk0⟩) npX7_common rfl (Nat.le_of_ble_eq_true rfl) rfl (qblk_ev2 (cf := cfX7_common) (st := (fun n => qin [19] n)) (K := (fun pc L S μ => if pc = 19 then jX7_common_19 (fX7_common_19 qfu) L S μ else none)) (cd := qcX7_common) (M := 120) (d0 := 2) rfl qcok_X7_common (Nat.le_refl _) (hcX7_common hcv) (by
    intro pc L S μ r h
    split at h
    · rename_i e; subst e; exact jeX7_common_19 (lbX7_common_19 hcv qfu) h
    cases h) 400 (pc := 0) (L := qent [.ref a0, .int a1, .int a2] 7) (S := []) h)
  · cases h
theorem gaX7_common {base : Nat} {D : va_G} {ca : Nat → ClassId} {cv : Nat → Value} (hcv : ∀ j, (cv j).category = 1) {l : List Value} {μ : qM} {r : qR} (h : aX7_common l μ = some r) : qGood false base D ca cv 3 120 l μ r := by
  unfold aX7_common at h
  split at h
  · exact gdX7_common hcv h
  · cases h
noncomputable def fX7_queues_19 (k8 : Nat → Int32 → Int32 → Int32 → Int32 → qM → Option qR) (x0 : Nat) (x1 : Int32) (x2 : Int32) (x3 : Int32) (x4 : Int32) (x5 : Int32) (μ : qM) : Option qR :=
  if x5 ≤ x3 then
    k8 x0 x1 x2 x3 (x4 + (1 : Int32)) μ
  else
    k8 x0 x1 x4 x5 (x4 + (1 : Int32)) μ
noncomputable def fX7_queues_8 : Nat → Nat → Int32 → Int32 → Int32 → Int32 → qM → Option qR
  | 0 => fun _ _ _ _ _ _ => none
  | n + 1 => fun x0 x1 x2 x3 x4 μ =>
    if (85 : Int32) ≤ x4 then
      qbnd (oGetP μ 7 x0 7) fun v1 =>
      qbnd (oPutI μ 3 v1 1 (0 : Int32)) fun μ2 =>
      if x1 ≤ 0 then
        some (x1, 0, μ2)
      else
        qbnd (oGetP μ2 7 x0 7) fun v3 =>
        qbnd (oGetP μ2 7 x0 2) fun v4 =>
        qbnd (fX5_changes v4 μ2) fun r5 =>
        qbnd (fX3_two v3 (x2).toInt64 (r5.1).toInt64 r5.2.2) fun r6 =>
        some (x1, 0, r6.2.2)
    else
      qbnd (oGetP μ 7 x0 2) fun v7 =>
      qbnd (fX5_requests v7 x4 μ) fun r8 =>
      if r8.1 ≤ 0 then
        fX7_queues_19 (fX7_queues_8 n) x0 x1 x2 x3 x4 r8.1 r8.2.2
      else
        fX7_queues_19 (fX7_queues_8 n) x0 (x1 + (1 : Int32)) x2 x3 x4 r8.1 r8.2.2
noncomputable def gX7_queues (a0 : Nat) (μ : qM) : Option qR :=
  fX7_queues_8 qfu a0 (0 : Int32) (85 : Int32) (0 : Int32) (0 : Int32) μ
noncomputable def fX7_queues (a0 : Nat) (μ : qM) : Option qR := if (qk μ a0).1 = 7 then gX7_queues a0 μ else none
noncomputable def aX7_queues (l : List Value) (μ : qM) : Option qR := match l with
  | [.ref x0] => fX7_queues x0 μ
  | _ => none
noncomputable def cfX7_queues : qF := fun n l μ => if n = 70 then aX5_requests l μ else if n = 71 then aX5_changes l μ else if n = 35 then aX3_two l μ else none
theorem hcX7_queues {base : Nat} {D : va_G} {ca : Nat → ClassId} {cv : Nat → Value} (hcv : ∀ j, (cv j).category = 1) : ∀ M as μ r, cfX7_queues M as μ = some r → qGood false base D ca cv 2 M as μ r := by
  intro M as μ r h
  unfold cfX7_queues at h
  split at h
  · rename_i e; subst e; exact (gaX5_requests hcv h).mono (by omega)
  split at h
  · rename_i e; subst e; exact (gaX5_changes hcv h).mono (by omega)
  split at h
  · rename_i e; subst e; exact (gaX3_two hcv h).mono (by omega)
  cases h
def jX7_queues_8 (f : Nat → Int32 → Int32 → Int32 → Int32 → qM → Option qR) (L S : List Value) (μ : qM) : Option qR := match L, S with
  | [.ref x0, .int x1, .int x2, .int x3, .int x4, _], [] => f x0 x1 x2 x3 x4 μ
  | _, _ => none
theorem jeX7_queues_8 {base : Nat} {D : va_G} {ca : Nat → ClassId} {cv : Nat → Value} {d : Nat} {f : Nat → Int32 → Int32 → Int32 → Int32 → qM → Option qR} (hf : ∀ (x0 : Nat) (x1 : Int32) (x2 : Int32) (x3 : Int32) (x4 : Int32) (μ : qM) (r : qR), f x0 x1 x2 x3 x4 μ = some r → qEv false base D ca cv d 121 r 8 [.ref x0, .int x1, .int x2, .int x3, .int x4, .null] [] μ) {L S : List Value} {μ : qM} {r : qR} (h : jX7_queues_8 f L S μ = some r) : qEv false base D ca cv d 121 r 8 L S μ := by
  unfold jX7_queues_8 at h
  split at h
  · exact (hf _ _ _ _ _ _ _ h).le rfl ⟨Or.inr rfl, Or.inr rfl, Or.inr rfl, Or.inr rfl, Or.inr rfl, Or.inl rfl, trivial⟩
  · cases h
def jX7_queues_19 (f : Nat → Int32 → Int32 → Int32 → Int32 → Int32 → qM → Option qR) (L S : List Value) (μ : qM) : Option qR := match L, S with
  | [.ref x0, .int x1, .int x2, .int x3, .int x4, .int x5], [] => f x0 x1 x2 x3 x4 x5 μ
  | _, _ => none
theorem jeX7_queues_19 {base : Nat} {D : va_G} {ca : Nat → ClassId} {cv : Nat → Value} {d : Nat} {f : Nat → Int32 → Int32 → Int32 → Int32 → Int32 → qM → Option qR} (hf : ∀ (x0 : Nat) (x1 : Int32) (x2 : Int32) (x3 : Int32) (x4 : Int32) (x5 : Int32) (μ : qM) (r : qR), f x0 x1 x2 x3 x4 x5 μ = some r → qEv false base D ca cv d 121 r 19 [.ref x0, .int x1, .int x2, .int x3, .int x4, .int x5] [] μ) {L S : List Value} {μ : qM} {r : qR} (h : jX7_queues_19 f L S μ = some r) : qEv false base D ca cv d 121 r 19 L S μ := by
  unfold jX7_queues_19 at h
  split at h
  · exact (hf _ _ _ _ _ _ _ _ h).le rfl ⟨Or.inr rfl, Or.inr rfl, Or.inr rfl, Or.inr rfl, Or.inr rfl, Or.inr rfl, trivial⟩
  · cases h
set_option maxRecDepth 100000 in
theorem lbX7_queues_19 {base : Nat} {D : va_G} {ca : Nat → ClassId} {cv : Nat → Value} (hcv : ∀ j, (cv j).category = 1) {k8 : Nat → Int32 → Int32 → Int32 → Int32 → qM → Option qR} (hk8 : ∀ (y0 : Nat) (y1 : Int32) (y2 : Int32) (y3 : Int32) (y4 : Int32) (μ : qM) (r : qR), k8 y0 y1 y2 y3 y4 μ = some r → qEv false base D ca cv 3 121 r 8 [.ref y0, .int y1, .int y2, .int y3, .int y4, .null] [] μ) (x0 : Nat) (x1 : Int32) (x2 : Int32) (x3 : Int32) (x4 : Int32) (x5 : Int32) (μ : qM) (r : qR) (h : fX7_queues_19 k8 x0 x1 x2 x3 x4 x5 μ = some r) : qEv false base D ca cv 3 121 r 19 [.ref x0, .int x1, .int x2, .int x3, .int x4, .int x5] [] μ := by
    exact qblk_ev2 (cf := cfX7_queues) (st := (fun n => qin [8, 19] n)) (K := (fun pc L S μ => if pc = 8 then jX7_queues_8 k8 L S μ else none)) (cd := qcX7_queues) (M := 121) (d0 := 2) rfl qcok_X7_queues (Nat.le_refl _) (hcX7_queues hcv) (by
    intro pc L S μ r h
    split at h
    · rename_i e; subst e; exact jeX7_queues_8 hk8 h
    cases h) 400 (pc := 19) (L := [.ref x0, .int x1, .int x2, .int x3, .int x4, .int x5]) (S := []) h
set_option maxRecDepth 100000 in
theorem lbX7_queues_8 {base : Nat} {D : va_G} {ca : Nat → ClassId} {cv : Nat → Value} (hcv : ∀ j, (cv j).category = 1) : ∀ (n : Nat) (x0 : Nat) (x1 : Int32) (x2 : Int32) (x3 : Int32) (x4 : Int32) (μ : qM) (r : qR), fX7_queues_8 n x0 x1 x2 x3 x4 μ = some r → qEv false base D ca cv 3 121 r 8 [.ref x0, .int x1, .int x2, .int x3, .int x4, .null] [] μ := by
  intro n
  induction n with
  | zero => intro x0 x1 x2 x3 x4 μ r h; cases (show (none : Option qR) = some r from h)
  | succ n ih =>
    intro x0 x1 x2 x3 x4 μ r h
    exact qblk_ev2 (cf := cfX7_queues) (st := (fun n => qin [8, 19] n)) (K := (fun pc L S μ => if pc = 19 then jX7_queues_19 (fX7_queues_19 (fX7_queues_8 n)) L S μ else none)) (cd := qcX7_queues) (M := 121) (d0 := 2) rfl qcok_X7_queues (Nat.le_refl _) (hcX7_queues hcv) (by
    intro pc L S μ r h
    split at h
    · rename_i e; subst e; exact jeX7_queues_19 (lbX7_queues_19 hcv ih) h
    cases h) 400 (pc := 8) (L := [.ref x0, .int x1, .int x2, .int x3, .int x4, .null]) (S := []) h
theorem npX7_queues : (parseMethodDescriptor (qmy 121).desc).map (fun d => d.parameters.length) = some 0 := by decide +kernel
set_option maxRecDepth 100000 in
theorem gdX7_queues {base : Nat} {D : va_G} {ca : Nat → ClassId} {cv : Nat → Value} (hcv : ∀ j, (cv j).category = 1) {a0 : Nat} {μ : qM} {r : qR} (h : fX7_queues a0 μ = some r) : qGood false base D ca cv 3 121 [.ref a0] μ r := by
  unfold fX7_queues at h
  split at h
  · rename_i hk0
    exact qgood_of (by decide) (by omega) hcv (Or.inr ⟨by decide +kernel, hk0⟩) npX7_queues rfl (Nat.le_of_ble_eq_true rfl) rfl (qblk_ev2 (cf := cfX7_queues) (st := (fun n => qin [8, 19] n)) (K := (fun pc L S μ => if pc = 8 then jX7_queues_8 (fX7_queues_8 qfu) L S μ else none)) (cd := qcX7_queues) (M := 121) (d0 := 2) rfl qcok_X7_queues (Nat.le_refl _) (hcX7_queues hcv) (by
    intro pc L S μ r h
    split at h
    · rename_i e; subst e; exact jeX7_queues_8 (lbX7_queues_8 hcv qfu) h
    cases h) 400 (pc := 0) (L := qent [.ref a0] 6) (S := []) h)
  · cases h
theorem gaX7_queues {base : Nat} {D : va_G} {ca : Nat → ClassId} {cv : Nat → Value} (hcv : ∀ j, (cv j).category = 1) {l : List Value} {μ : qM} {r : qR} (h : aX7_queues l μ = some r) : qGood false base D ca cv 3 121 l μ r := by
  unfold aX7_queues at h
  split at h
  · exact gdX7_queues hcv h
  · cases h
noncomputable def gX7_sum (a0 : Nat) (μ : qM) : Option qR :=
  qbnd (oGetP μ 7 a0 7) fun v1 =>
  qbnd (oGetP μ 7 a0 2) fun v2 =>
  qbnd (fX5_heldSum v2 μ) fun r3 =>
  qbnd (fX3_one v1 (r3.1).toInt64 r3.2.2) fun r4 =>
  some ((0 : Int32), 0, r4.2.2)
noncomputable def fX7_sum (a0 : Nat) (μ : qM) : Option qR := if (qk μ a0).1 = 7 then gX7_sum a0 μ else none
noncomputable def aX7_sum (l : List Value) (μ : qM) : Option qR := match l with
  | [.ref x0] => fX7_sum x0 μ
  | _ => none
noncomputable def cfX7_sum : qF := fun n l μ => if n = 61 then aX5_heldSum l μ else if n = 34 then aX3_one l μ else none
theorem hcX7_sum {base : Nat} {D : va_G} {ca : Nat → ClassId} {cv : Nat → Value} (hcv : ∀ j, (cv j).category = 1) : ∀ M as μ r, cfX7_sum M as μ = some r → qGood false base D ca cv 2 M as μ r := by
  intro M as μ r h
  unfold cfX7_sum at h
  split at h
  · rename_i e; subst e; exact (gaX5_heldSum hcv h).mono (by omega)
  split at h
  · rename_i e; subst e; exact (gaX3_one hcv h).mono (by omega)
  cases h
theorem npX7_sum : (parseMethodDescriptor (qmy 122).desc).map (fun d => d.parameters.length) = some 0 := by decide +kernel
set_option maxRecDepth 100000 in
theorem gdX7_sum {base : Nat} {D : va_G} {ca : Nat → ClassId} {cv : Nat → Value} (hcv : ∀ j, (cv j).category = 1) {a0 : Nat} {μ : qM} {r : qR} (h : fX7_sum a0 μ = some r) : qGood false base D ca cv 3 122 [.ref a0] μ r := by
  unfold fX7_sum at h
  split at h
  · rename_i hk0
    exact qgood_of (by decide) (by omega) hcv (Or.inr ⟨by decide +kernel, hk0⟩) npX7_sum rfl (Nat.le_of_ble_eq_true rfl) rfl (qblk_ev2 (cf := cfX7_sum) (st := (fun n => qin [] n)) (K := (fun pc L S μ => none)) (cd := qcX7_sum) (M := 122) (d0 := 2) rfl qcok_X7_sum (Nat.le_refl _) (hcX7_sum hcv) (by
    intro pc L S μ r h
    cases h) 400 (pc := 0) (L := qent [.ref a0] 1) (S := []) h)
  · cases h
theorem gaX7_sum {base : Nat} {D : va_G} {ca : Nat → ClassId} {cv : Nat → Value} (hcv : ∀ j, (cv j).category = 1) {l : List Value} {μ : qM} {r : qR} (h : aX7_sum l μ = some r) : qGood false base D ca cv 3 122 l μ r := by
  unfold aX7_sum at h
  split at h
  · exact gdX7_sum hcv h
  · cases h
noncomputable def fX7_law_34 (x0 : Nat) (x2 : Int32) (s0 : Int32) (μ : qM) : Option qR :=
  qbnd (oGetP μ 7 x0 1) fun v1 =>
  qbnd (oGetP μ 0 v1 0) fun v2 =>
  qbnd (oGetP μ 7 x0 2) fun v3 =>
  qbnd (fX5_copy v2 v3 μ) fun r4 =>
  qbnd (oGetP r4.2.2 7 x0 1) fun v5 =>
  qbnd (oGetP r4.2.2 7 x0 9) fun v6 =>
  qbnd (fX0_fellAll v5 v6 r4.2.2) fun r7 =>
  qbnd (oGetP r7.2.2 7 x0 1) fun v8 =>
  qbnd (oGetP r7.2.2 0 v8 0) fun v9 =>
  qbnd (oGetP r7.2.2 7 x0 2) fun v10 =>
  qbnd (fX5_copy v9 v10 r7.2.2) fun r11 =>
  qbnd (oGetP r11.2.2 7 x0 7) fun v12 =>
  qbnd (fX3_two v12 (s0).toInt64 (r7.1).toInt64 r11.2.2) fun r13 =>
  qbnd (oGetP r13.2.2 7 x0 7) fun v14 =>
  qbnd (oGetP r13.2.2 7 x0 1) fun v15 =>
  qbnd (oGetP r13.2.2 7 x0 8) fun v16 =>
  qbnd (fX0_fellAll v15 v16 r13.2.2) fun r17 =>
  qbnd (fX3_add v14 (r17.1).toInt64 r17.2.2) fun r18 =>
  if x2 = (-1 : Int32) then
    some ((8 : Int32), 0, r18.2.2)
  else
    some (x2, 0, r18.2.2)
noncomputable def gX7_law (a0 : Nat) (μ : qM) : Option qR :=
  qbnd (oGetP μ 7 a0 9) fun v1 =>
  qbnd (oGetP μ 7 a0 6) fun v2 =>
  qbnd (fX4_read v1 v2 μ) fun r3 =>
  qbnd (oGetP r3.2.2 7 a0 6) fun v4 =>
  qbnd (oPutI r3.2.2 6 v4 1 (0 : Int32)) fun μ5 =>
  if r3.1 = (-1 : Int32) then
    qbnd (oGetP μ5 7 a0 0) fun v6 =>
    qbnd (oGetP μ5 7 a0 9) fun v7 =>
    qbnd (fX0_cheapest v6 v7 μ5) fun r8 =>
    if r8.1 = (-1 : Int32) then
      fX7_law_34 a0 r8.1 (0 : Int32) r8.2.2
    else
      qbnd (oGetP r8.2.2 7 a0 0) fun v9 =>
      qbnd (oGetP r8.2.2 7 a0 9) fun v10 =>
      qbnd (fX0_costOf v9 r8.1 v10 r8.2.2) fun r11 =>
      fX7_law_34 a0 r8.1 r11.1 r11.2.2
  else
    some (((-100 : Int32) - r3.1), 0, μ5)
noncomputable def fX7_law (a0 : Nat) (μ : qM) : Option qR := if (qk μ a0).1 = 7 then gX7_law a0 μ else none
noncomputable def aX7_law (l : List Value) (μ : qM) : Option qR := match l with
  | [.ref x0] => fX7_law x0 μ
  | _ => none
noncomputable def cfX7_law : qF := fun n l μ => if n = 39 then aX4_read l μ else if n = 11 then aX0_cheapest l μ else if n = 12 then aX0_costOf l μ else if n = 53 then aX5_copy l μ else if n = 10 then aX0_fellAll l μ else if n = 35 then aX3_two l μ else if n = 33 then aX3_add l μ else none
theorem hcX7_law {base : Nat} {D : va_G} {ca : Nat → ClassId} {cv : Nat → Value} (hcv : ∀ j, (cv j).category = 1) : ∀ M as μ r, cfX7_law M as μ = some r → qGood false base D ca cv 1005 M as μ r := by
  intro M as μ r h
  unfold cfX7_law at h
  split at h
  · rename_i e; subst e; exact (gaX4_read hcv h).mono (by omega)
  split at h
  · rename_i e; subst e; exact (gaX0_cheapest hcv h).mono (by omega)
  split at h
  · rename_i e; subst e; exact (gaX0_costOf hcv h).mono (by omega)
  split at h
  · rename_i e; subst e; exact (gaX5_copy hcv h).mono (by omega)
  split at h
  · rename_i e; subst e; exact (gaX0_fellAll hcv h).mono (by omega)
  split at h
  · rename_i e; subst e; exact (gaX3_two hcv h).mono (by omega)
  split at h
  · rename_i e; subst e; exact (gaX3_add hcv h).mono (by omega)
  cases h
def jX7_law_34 (f : Nat → Int32 → Int32 → qM → Option qR) (L S : List Value) (μ : qM) : Option qR := match L, S with
  | [.ref x0, _, .int x2, _, _], [.int s0] => f x0 x2 s0 μ
  | _, _ => none
theorem jeX7_law_34 {base : Nat} {D : va_G} {ca : Nat → ClassId} {cv : Nat → Value} {d : Nat} {f : Nat → Int32 → Int32 → qM → Option qR} (hf : ∀ (x0 : Nat) (x2 : Int32) (s0 : Int32) (μ : qM) (r : qR), f x0 x2 s0 μ = some r → qEv false base D ca cv d 123 r 34 [.ref x0, .null, .int x2, .null, .null] [.int s0] μ) {L S : List Value} {μ : qM} {r : qR} (h : jX7_law_34 f L S μ = some r) : qEv false base D ca cv d 123 r 34 L S μ := by
  unfold jX7_law_34 at h
  split at h
  · exact (hf _ _ _ _ _ h).le rfl ⟨Or.inr rfl, Or.inl rfl, Or.inr rfl, Or.inl rfl, Or.inl rfl, trivial⟩
  · cases h
set_option maxRecDepth 100000 in
theorem lbX7_law_34 {base : Nat} {D : va_G} {ca : Nat → ClassId} {cv : Nat → Value} (hcv : ∀ j, (cv j).category = 1) (x0 : Nat) (x2 : Int32) (s0 : Int32) (μ : qM) (r : qR) (h : fX7_law_34 x0 x2 s0 μ = some r) : qEv false base D ca cv 1006 123 r 34 [.ref x0, .null, .int x2, .null, .null] [.int s0] μ := by
    exact qblk_ev2 (cf := cfX7_law) (st := (fun n => qin [34] n)) (K := (fun pc L S μ => none)) (cd := qcX7_law) (M := 123) (d0 := 1005) rfl qcok_X7_law (Nat.le_refl _) (hcX7_law hcv) (by
    intro pc L S μ r h
    cases h) 400 (pc := 34) (L := [.ref x0, .null, .int x2, .null, .null]) (S := [.int s0]) h
theorem npX7_law : (parseMethodDescriptor (qmy 123).desc).map (fun d => d.parameters.length) = some 0 := by decide +kernel
set_option maxRecDepth 100000 in
theorem gdX7_law {base : Nat} {D : va_G} {ca : Nat → ClassId} {cv : Nat → Value} (hcv : ∀ j, (cv j).category = 1) {a0 : Nat} {μ : qM} {r : qR} (h : fX7_law a0 μ = some r) : qGood false base D ca cv 1006 123 [.ref a0] μ r := by
  unfold fX7_law at h
  split at h
  · rename_i hk0
    exact qgood_of (by decide) (by omega) hcv (Or.inr ⟨by decide +kernel, hk0⟩) npX7_law rfl (Nat.le_of_ble_eq_true rfl) rfl (qblk_ev2 (cf := cfX7_law) (st := (fun n => qin [34] n)) (K := (fun pc L S μ => if pc = 34 then jX7_law_34 (fX7_law_34) L S μ else none)) (cd := qcX7_law) (M := 123) (d0 := 1005) rfl qcok_X7_law (Nat.le_refl _) (hcX7_law hcv) (by
    intro pc L S μ r h
    split at h
    · rename_i e; subst e; exact jeX7_law_34 (lbX7_law_34 hcv) h
    cases h) 400 (pc := 0) (L := qent [.ref a0] 5) (S := []) h)
  · cases h
theorem gaX7_law {base : Nat} {D : va_G} {ca : Nat → ClassId} {cv : Nat → Value} (hcv : ∀ j, (cv j).category = 1) {l : List Value} {μ : qM} {r : qR} (h : aX7_law l μ = some r) : qGood false base D ca cv 1006 123 l μ r := by
  unfold aX7_law at h
  split at h
  · exact gdX7_law hcv h
  · cases h
noncomputable def fX7_years_84 (k20 : Nat → Int32 → Int32 → qM → Option qR) (x0 : Nat) (x2 : Int32) (x3 : Int32) (x4 : Int32) (x5 : Int32) (x6 : Int32) (x7 : Int32) (μ : qM) : Option qR :=
  qbnd (oGetP μ 7 x0 1) fun v1 =>
  qbnd (oGetP μ 7 x0 8) fun v2 =>
  qbnd (fX0_act v1 x4 x5 x6 x7 v2 μ) fun r3 =>
  k20 x0 x2 (x3 + (1 : Int32)) r3.2.2
noncomputable def fX7_years_49 (k20 : Nat → Int32 → Int32 → qM → Option qR) (x0 : Nat) (x2 : Int32) (x3 : Int32) (x4 : Int32) (x5 : Int32) (x6 : Int32) (x7 : Int32) (μ : qM) : Option qR :=
  if x4 = (108 : Int32) then
    qbnd (oGetP μ 7 x0 1) fun v5 =>
    qbnd (fX0_draw v5 (85 : Int32) μ) fun r6 =>
    qbnd (oGetP r6.2.2 7 x0 1) fun v7 =>
    qbnd (fX0_draw v7 (6 : Int32) r6.2.2) fun r8 =>
    fX7_years_84 k20 x0 x2 x3 x4 x5 r6.1 (r8.1 + (1 : Int32)) r8.2.2
  else
    if x4 = (119 : Int32) then
      qbnd (oGetP μ 7 x0 1) fun v3 =>
      qbnd (fX0_draw v3 (9 : Int32) μ) fun r4 =>
      fX7_years_84 k20 x0 x2 x3 x4 x5 (r4.1 + (1 : Int32)) x7 r4.2.2
    else
      if x4 = (103 : Int32) then
        qbnd (oGetP μ 7 x0 1) fun v1 =>
        qbnd (fX0_draw v1 (21 : Int32) μ) fun r2 =>
        fX7_years_84 k20 x0 x2 x3 x4 x5 r2.1 x7 r2.2.2
      else
        fX7_years_84 k20 x0 x2 x3 x4 x5 x6 x7 μ
noncomputable def fX7_years_20 : Nat → Nat → Int32 → Int32 → qM → Option qR
  | 0 => fun _ _ _ _ => none
  | n + 1 => fun x0 x2 x3 μ =>
    if x2 ≤ x3 then
      qbnd (oGetP μ 7 x0 1) fun v1 =>
      qbnd (oGetP μ 0 v1 0) fun v2 =>
      qbnd (oGetP μ 7 x0 7) fun v3 =>
      qbnd (fX5_heldSum v2 μ) fun r4 =>
      qbnd (fX5_standing v2 (1 : Int32) r4.2.2) fun r5 =>
      qbnd (fX3_two v3 (r4.1).toInt64 (r5.1).toInt64 r5.2.2) fun r6 =>
      qbnd (oGetP r6.2.2 7 x0 7) fun v7 =>
      qbnd (fX5_allFalls v2 r6.2.2) fun r8 =>
      qbnd (fX3_add v7 (r8.1).toInt64 r8.2.2) fun r9 =>
      qbnd (fX5_standing v2 (2 : Int32) r9.2.2) fun r10 =>
      qbnd (fJ6_bitCount_0f7a4 r10.1 r10.2.2) fun r11 =>
      some (r11.1, 0, r11.2.2)
    else
      qbnd (oGetP μ 7 x0 1) fun v12 =>
      qbnd (fX0_draw v12 (6 : Int32) μ) fun r13 =>
      qbnd (fJ0_charAt_5068e 16 r13.1 r13.2.2) fun r14 =>
      qbnd (oGetP r14.2.2 7 x0 1) fun v15 =>
      qbnd (fX0_draw v15 (8 : Int32) r14.2.2) fun r16 =>
      if r14.1 = (111 : Int32) then
        qbnd (oGetP r16.2.2 7 x0 1) fun v17 =>
        qbnd (fX0_draw v17 (3 : Int32) r16.2.2) fun r18 =>
        qbnd (fJ0_charAt_5068e 17 r18.1 r18.2.2) fun r19 =>
        fX7_years_49 (fX7_years_20 n) x0 x2 x3 r19.1 r16.1 (0 : Int32) (0 : Int32) r19.2.2
      else
        fX7_years_49 (fX7_years_20 n) x0 x2 x3 r14.1 r16.1 (0 : Int32) (0 : Int32) r16.2.2
noncomputable def gX7_years (a0 : Nat) (a1 : Int32) (a2 : Int32) (μ : qM) : Option qR :=
  if a2 < (1 : Int32) then
    some ((-1 : Int32), 0, μ)
  else
    if a2 ≤ (40 : Int32) then
      qbnd (oGetP μ 7 a0 1) fun v1 =>
      qbnd (oGetP μ 0 v1 0) fun v2 =>
      qbnd (oGetP μ 7 a0 2) fun v3 =>
      qbnd (fX5_copy v2 v3 μ) fun r4 =>
      qbnd (oGetP r4.2.2 7 a0 1) fun v5 =>
      qbnd (oPutI r4.2.2 0 v5 4 a1) fun μ6 =>
      fX7_years_20 qfu a0 a2 (0 : Int32) μ6
    else
      some ((-1 : Int32), 0, μ)
noncomputable def fX7_years (a0 : Nat) (a1 : Int32) (a2 : Int32) (μ : qM) : Option qR := if (qk μ a0).1 = 7 then gX7_years a0 a1 a2 μ else none
noncomputable def aX7_years (l : List Value) (μ : qM) : Option qR := match l with
  | [.ref x0, .int x1, .int x2] => fX7_years x0 x1 x2 μ
  | _ => none
noncomputable def cfX7_years : qF := fun n l μ => if n = 53 then aX5_copy l μ else if n = 1 then aX0_draw l μ else if n = 269 then aJ0_charAt_5068e l μ else if n = 2 then aX0_act l μ else if n = 61 then aX5_heldSum l μ else if n = 56 then aX5_standing l μ else if n = 35 then aX3_two l μ else if n = 60 then aX5_allFalls l μ else if n = 33 then aX3_add l μ else if n = 267 then aJ6_bitCount_0f7a4 l μ else none
theorem hcX7_years {base : Nat} {D : va_G} {ca : Nat → ClassId} {cv : Nat → Value} (hcv : ∀ j, (cv j).category = 1) : ∀ M as μ r, cfX7_years M as μ = some r → qGood false base D ca cv 1006 M as μ r := by
  intro M as μ r h
  unfold cfX7_years at h
  split at h
  · rename_i e; subst e; exact (gaX5_copy hcv h).mono (by omega)
  split at h
  · rename_i e; subst e; exact (gaX0_draw hcv h).mono (by omega)
  split at h
  · rename_i e; subst e; exact (gaJ0_charAt_5068e hcv h).mono (by omega)
  split at h
  · rename_i e; subst e; exact (gaX0_act hcv h).mono (by omega)
  split at h
  · rename_i e; subst e; exact (gaX5_heldSum hcv h).mono (by omega)
  split at h
  · rename_i e; subst e; exact (gaX5_standing hcv h).mono (by omega)
  split at h
  · rename_i e; subst e; exact (gaX3_two hcv h).mono (by omega)
  split at h
  · rename_i e; subst e; exact (gaX5_allFalls hcv h).mono (by omega)
  split at h
  · rename_i e; subst e; exact (gaX3_add hcv h).mono (by omega)
  split at h
  · rename_i e; subst e; exact (gaJ6_bitCount_0f7a4 hcv h).mono (by omega)
  cases h
def jX7_years_20 (f : Nat → Int32 → Int32 → qM → Option qR) (L S : List Value) (μ : qM) : Option qR := match L, S with
  | [.ref x0, _, .int x2, .int x3, _, _, _, _], [] => f x0 x2 x3 μ
  | _, _ => none
theorem jeX7_years_20 {base : Nat} {D : va_G} {ca : Nat → ClassId} {cv : Nat → Value} {d : Nat} {f : Nat → Int32 → Int32 → qM → Option qR} (hf : ∀ (x0 : Nat) (x2 : Int32) (x3 : Int32) (μ : qM) (r : qR), f x0 x2 x3 μ = some r → qEv false base D ca cv d 124 r 20 [.ref x0, .null, .int x2, .int x3, .null, .null, .null, .null] [] μ) {L S : List Value} {μ : qM} {r : qR} (h : jX7_years_20 f L S μ = some r) : qEv false base D ca cv d 124 r 20 L S μ := by
  unfold jX7_years_20 at h
  split at h
  · exact (hf _ _ _ _ _ h).le rfl ⟨Or.inr rfl, Or.inl rfl, Or.inr rfl, Or.inr rfl, Or.inl rfl, Or.inl rfl, Or.inl rfl, Or.inl rfl, trivial⟩
  · cases h
def jX7_years_49 (f : Nat → Int32 → Int32 → Int32 → Int32 → Int32 → Int32 → qM → Option qR) (L S : List Value) (μ : qM) : Option qR := match L, S with
  | [.ref x0, _, .int x2, .int x3, .int x4, .int x5, .int x6, .int x7], [] => f x0 x2 x3 x4 x5 x6 x7 μ
  | _, _ => none
theorem jeX7_years_49 {base : Nat} {D : va_G} {ca : Nat → ClassId} {cv : Nat → Value} {d : Nat} {f : Nat → Int32 → Int32 → Int32 → Int32 → Int32 → Int32 → qM → Option qR} (hf : ∀ (x0 : Nat) (x2 : Int32) (x3 : Int32) (x4 : Int32) (x5 : Int32) (x6 : Int32) (x7 : Int32) (μ : qM) (r : qR), f x0 x2 x3 x4 x5 x6 x7 μ = some r → qEv false base D ca cv d 124 r 49 [.ref x0, .null, .int x2, .int x3, .int x4, .int x5, .int x6, .int x7] [] μ) {L S : List Value} {μ : qM} {r : qR} (h : jX7_years_49 f L S μ = some r) : qEv false base D ca cv d 124 r 49 L S μ := by
  unfold jX7_years_49 at h
  split at h
  · exact (hf _ _ _ _ _ _ _ _ _ h).le rfl ⟨Or.inr rfl, Or.inl rfl, Or.inr rfl, Or.inr rfl, Or.inr rfl, Or.inr rfl, Or.inr rfl, Or.inr rfl, trivial⟩
  · cases h
def jX7_years_84 (f : Nat → Int32 → Int32 → Int32 → Int32 → Int32 → Int32 → qM → Option qR) (L S : List Value) (μ : qM) : Option qR := match L, S with
  | [.ref x0, _, .int x2, .int x3, .int x4, .int x5, .int x6, .int x7], [] => f x0 x2 x3 x4 x5 x6 x7 μ
  | _, _ => none
theorem jeX7_years_84 {base : Nat} {D : va_G} {ca : Nat → ClassId} {cv : Nat → Value} {d : Nat} {f : Nat → Int32 → Int32 → Int32 → Int32 → Int32 → Int32 → qM → Option qR} (hf : ∀ (x0 : Nat) (x2 : Int32) (x3 : Int32) (x4 : Int32) (x5 : Int32) (x6 : Int32) (x7 : Int32) (μ : qM) (r : qR), f x0 x2 x3 x4 x5 x6 x7 μ = some r → qEv false base D ca cv d 124 r 84 [.ref x0, .null, .int x2, .int x3, .int x4, .int x5, .int x6, .int x7] [] μ) {L S : List Value} {μ : qM} {r : qR} (h : jX7_years_84 f L S μ = some r) : qEv false base D ca cv d 124 r 84 L S μ := by
  unfold jX7_years_84 at h
  split at h
  · exact (hf _ _ _ _ _ _ _ _ _ h).le rfl ⟨Or.inr rfl, Or.inl rfl, Or.inr rfl, Or.inr rfl, Or.inr rfl, Or.inr rfl, Or.inr rfl, Or.inr rfl, trivial⟩
  · cases h
set_option maxRecDepth 100000 in
theorem lbX7_years_84 {base : Nat} {D : va_G} {ca : Nat → ClassId} {cv : Nat → Value} (hcv : ∀ j, (cv j).category = 1) {k20 : Nat → Int32 → Int32 → qM → Option qR} (hk20 : ∀ (y0 : Nat) (y2 : Int32) (y3 : Int32) (μ : qM) (r : qR), k20 y0 y2 y3 μ = some r → qEv false base D ca cv 1007 124 r 20 [.ref y0, .null, .int y2, .int y3, .null, .null, .null, .null] [] μ) (x0 : Nat) (x2 : Int32) (x3 : Int32) (x4 : Int32) (x5 : Int32) (x6 : Int32) (x7 : Int32) (μ : qM) (r : qR) (h : fX7_years_84 k20 x0 x2 x3 x4 x5 x6 x7 μ = some r) : qEv false base D ca cv 1007 124 r 84 [.ref x0, .null, .int x2, .int x3, .int x4, .int x5, .int x6, .int x7] [] μ := by
    exact qblk_ev2 (cf := cfX7_years) (st := (fun n => qin [20, 49, 84] n)) (K := (fun pc L S μ => if pc = 20 then jX7_years_20 k20 L S μ else none)) (cd := qcX7_years) (M := 124) (d0 := 1006) rfl qcok_X7_years (Nat.le_refl _) (hcX7_years hcv) (by
    intro pc L S μ r h
    split at h
    · rename_i e; subst e; exact jeX7_years_20 hk20 h
    cases h) 400 (pc := 84) (L := [.ref x0, .null, .int x2, .int x3, .int x4, .int x5, .int x6, .int x7]) (S := []) h
set_option maxRecDepth 100000 in
theorem lbX7_years_49 {base : Nat} {D : va_G} {ca : Nat → ClassId} {cv : Nat → Value} (hcv : ∀ j, (cv j).category = 1) {k20 : Nat → Int32 → Int32 → qM → Option qR} (hk20 : ∀ (y0 : Nat) (y2 : Int32) (y3 : Int32) (μ : qM) (r : qR), k20 y0 y2 y3 μ = some r → qEv false base D ca cv 1007 124 r 20 [.ref y0, .null, .int y2, .int y3, .null, .null, .null, .null] [] μ) (x0 : Nat) (x2 : Int32) (x3 : Int32) (x4 : Int32) (x5 : Int32) (x6 : Int32) (x7 : Int32) (μ : qM) (r : qR) (h : fX7_years_49 k20 x0 x2 x3 x4 x5 x6 x7 μ = some r) : qEv false base D ca cv 1007 124 r 49 [.ref x0, .null, .int x2, .int x3, .int x4, .int x5, .int x6, .int x7] [] μ := by
    exact qblk_ev2 (cf := cfX7_years) (st := (fun n => qin [20, 49, 84] n)) (K := (fun pc L S μ => if pc = 84 then jX7_years_84 (fX7_years_84 k20) L S μ else none)) (cd := qcX7_years) (M := 124) (d0 := 1006) rfl qcok_X7_years (Nat.le_refl _) (hcX7_years hcv) (by
    intro pc L S μ r h
    split at h
    · rename_i e; subst e; exact jeX7_years_84 (lbX7_years_84 hcv hk20) h
    cases h) 400 (pc := 49) (L := [.ref x0, .null, .int x2, .int x3, .int x4, .int x5, .int x6, .int x7]) (S := []) h
set_option maxRecDepth 100000 in
theorem lbX7_years_20 {base : Nat} {D : va_G} {ca : Nat → ClassId} {cv : Nat → Value} (hcv : ∀ j, (cv j).category = 1) : ∀ (n : Nat) (x0 : Nat) (x2 : Int32) (x3 : Int32) (μ : qM) (r : qR), fX7_years_20 n x0 x2 x3 μ = some r → qEv false base D ca cv 1007 124 r 20 [.ref x0, .null, .int x2, .int x3, .null, .null, .null, .null] [] μ := by
  intro n
  induction n with
  | zero => intro x0 x2 x3 μ r h; cases (show (none : Option qR) = some r from h)
  | succ n ih =>
    intro x0 x2 x3 μ r h
    exact qblk_ev2 (cf := cfX7_years) (st := (fun n => qin [20, 49, 84] n)) (K := (fun pc L S μ => if pc = 49 then jX7_years_49 (fX7_years_49 (fX7_years_20 n)) L S μ else none)) (cd := qcX7_years) (M := 124) (d0 := 1006) rfl qcok_X7_years (Nat.le_refl _) (hcX7_years hcv) (by
    intro pc L S μ r h
    split at h
    · rename_i e; subst e; exact jeX7_years_49 (lbX7_years_49 hcv ih) h
    cases h) 400 (pc := 20) (L := [.ref x0, .null, .int x2, .int x3, .null, .null, .null, .null]) (S := []) h
theorem npX7_years : (parseMethodDescriptor (qmy 124).desc).map (fun d => d.parameters.length) = some 2 := by decide +kernel
set_option maxRecDepth 100000 in
theorem gdX7_years {base : Nat} {D : va_G} {ca : Nat → ClassId} {cv : Nat → Value} (hcv : ∀ j, (cv j).category = 1) {a0 : Nat} {a1 : Int32} {a2 : Int32} {μ : qM} {r : qR} (h : fX7_years a0 a1 a2 μ = some r) : qGood false base D ca cv 1007 124 [.ref a0, .int a1, .int a2] μ r := by
  unfold fX7_years at h
  split at h
  · rename_i hk0
    exact qgood_of (by decide) (by omega) hcv (Or.inr ⟨by decide +kernel, hk0⟩) npX7_years rfl (Nat.le_of_ble_eq_true rfl) rfl (qblk_ev2 (cf := cfX7_years) (st := (fun n => qin [20, 49, 84] n)) (K := (fun pc L S μ => if pc = 20 then jX7_years_20 (fX7_years_20 qfu) L S μ else none)) (cd := qcX7_years) (M := 124) (d0 := 1006) rfl qcok_X7_years (Nat.le_refl _) (hcX7_years hcv) (by
    intro pc L S μ r h
    split at h
    · rename_i e; subst e; exact jeX7_years_20 (lbX7_years_20 hcv qfu) h
    cases h) 400 (pc := 0) (L := qent [.ref a0, .int a1, .int a2] 8) (S := []) h)
  · cases h
theorem gaX7_years {base : Nat} {D : va_G} {ca : Nat → ClassId} {cv : Nat → Value} (hcv : ∀ j, (cv j).category = 1) {l : List Value} {μ : qM} {r : qR} (h : aX7_years l μ = some r) : qGood false base D ca cv 1007 124 l μ r := by
  unfold aX7_years at h
  split at h
  · exact gdX7_years hcv h
  · cases h
noncomputable def gX7_keep (a0 : Nat) (a1 : Int32) (μ : qM) : Option qR :=
  if a1 < 0 then
    if qnz (0 : Int32) = (0 : Int32) then some ((0 : Int32), 0, μ) else none
  else
    if a1 < (3 : Int32) then
      qbnd (oGetP μ 7 a0 4) fun v1 =>
      qbnd (oLdP μ v1 a1) fun v2 =>
      qbnd (oGetP μ 7 a0 2) fun v3 =>
      qbnd (fX5_copy v2 v3 μ) fun r4 =>
      qbnd (oGetP r4.2.2 7 a0 5) fun v5 =>
      qbnd (oStI 23 r4.2.2 v5 a1 (qnz (1 : Int32))) fun μ6 =>
      if qnz (1 : Int32) = (1 : Int32) then some ((1 : Int32), 0, μ6) else none
    else
      if qnz (0 : Int32) = (0 : Int32) then some ((0 : Int32), 0, μ) else none
noncomputable def fX7_keep (a0 : Nat) (a1 : Int32) (μ : qM) : Option qR := if (qk μ a0).1 = 7 then gX7_keep a0 a1 μ else none
noncomputable def aX7_keep (l : List Value) (μ : qM) : Option qR := match l with
  | [.ref x0, .int x1] => fX7_keep x0 x1 μ
  | _ => none
noncomputable def cfX7_keep : qF := fun n l μ => if n = 53 then aX5_copy l μ else none
theorem hcX7_keep {base : Nat} {D : va_G} {ca : Nat → ClassId} {cv : Nat → Value} (hcv : ∀ j, (cv j).category = 1) : ∀ M as μ r, cfX7_keep M as μ = some r → qGood false base D ca cv 1 M as μ r := by
  intro M as μ r h
  unfold cfX7_keep at h
  split at h
  · rename_i e; subst e; exact (gaX5_copy hcv h).mono (by omega)
  cases h
theorem npX7_keep : (parseMethodDescriptor (qmy 125).desc).map (fun d => d.parameters.length) = some 1 := by decide +kernel
set_option maxRecDepth 100000 in
theorem gdX7_keep {base : Nat} {D : va_G} {ca : Nat → ClassId} {cv : Nat → Value} (hcv : ∀ j, (cv j).category = 1) {a0 : Nat} {a1 : Int32} {μ : qM} {r : qR} (h : fX7_keep a0 a1 μ = some r) : qGood false base D ca cv 2 125 [.ref a0, .int a1] μ r := by
  unfold fX7_keep at h
  split at h
  · rename_i hk0
    exact qgood_of (by decide) (by omega) hcv (Or.inr ⟨by decide +kernel, hk0⟩) npX7_keep rfl (Nat.le_of_ble_eq_true rfl) rfl (qblk_ev2 (cf := cfX7_keep) (st := (fun n => qin [] n)) (K := (fun pc L S μ => none)) (cd := qcX7_keep) (M := 125) (d0 := 1) rfl qcok_X7_keep (Nat.le_refl _) (hcX7_keep hcv) (by
    intro pc L S μ r h
    cases h) 400 (pc := 0) (L := qent [.ref a0, .int a1] 2) (S := []) h)
  · cases h
theorem gaX7_keep {base : Nat} {D : va_G} {ca : Nat → ClassId} {cv : Nat → Value} (hcv : ∀ j, (cv j).category = 1) {l : List Value} {μ : qM} {r : qR} (h : aX7_keep l μ = some r) : qGood false base D ca cv 2 125 l μ r := by
  unfold aX7_keep at h
  split at h
  · exact gdX7_keep hcv h
  · cases h
noncomputable def gX7_again (a0 : Nat) (a1 : Int32) (μ : qM) : Option qR :=
  if a1 < 0 then
    if qnz (0 : Int32) = (0 : Int32) then some ((0 : Int32), 0, μ) else none
  else
    if (3 : Int32) ≤ a1 then
      if qnz (0 : Int32) = (0 : Int32) then some ((0 : Int32), 0, μ) else none
    else
      qbnd (oGetP μ 7 a0 5) fun v1 =>
      qbnd (oLdI 23 μ v1 a1) fun v2 =>
      if v2 = 0 then
        if qnz (0 : Int32) = (0 : Int32) then some ((0 : Int32), 0, μ) else none
      else
        qbnd (oGetP μ 7 a0 2) fun v3 =>
        qbnd (oGetP μ 7 a0 4) fun v4 =>
        qbnd (oLdP μ v4 a1) fun v5 =>
        qbnd (fX5_copy v3 v5 μ) fun r6 =>
        qbnd (oGetP r6.2.2 7 a0 3) fun v7 =>
        qbnd (oPutI r6.2.2 1 v7 2 (0 : Int32)) fun μ8 =>
        if qnz (1 : Int32) = (1 : Int32) then some ((1 : Int32), 0, μ8) else none
noncomputable def fX7_again (a0 : Nat) (a1 : Int32) (μ : qM) : Option qR := if (qk μ a0).1 = 7 then gX7_again a0 a1 μ else none
noncomputable def aX7_again (l : List Value) (μ : qM) : Option qR := match l with
  | [.ref x0, .int x1] => fX7_again x0 x1 μ
  | _ => none
noncomputable def cfX7_again : qF := fun n l μ => if n = 53 then aX5_copy l μ else none
theorem hcX7_again {base : Nat} {D : va_G} {ca : Nat → ClassId} {cv : Nat → Value} (hcv : ∀ j, (cv j).category = 1) : ∀ M as μ r, cfX7_again M as μ = some r → qGood false base D ca cv 1 M as μ r := by
  intro M as μ r h
  unfold cfX7_again at h
  split at h
  · rename_i e; subst e; exact (gaX5_copy hcv h).mono (by omega)
  cases h
theorem npX7_again : (parseMethodDescriptor (qmy 126).desc).map (fun d => d.parameters.length) = some 1 := by decide +kernel
set_option maxRecDepth 100000 in
theorem gdX7_again {base : Nat} {D : va_G} {ca : Nat → ClassId} {cv : Nat → Value} (hcv : ∀ j, (cv j).category = 1) {a0 : Nat} {a1 : Int32} {μ : qM} {r : qR} (h : fX7_again a0 a1 μ = some r) : qGood false base D ca cv 2 126 [.ref a0, .int a1] μ r := by
  unfold fX7_again at h
  split at h
  · rename_i hk0
    exact qgood_of (by decide) (by omega) hcv (Or.inr ⟨by decide +kernel, hk0⟩) npX7_again rfl (Nat.le_of_ble_eq_true rfl) rfl (qblk_ev2 (cf := cfX7_again) (st := (fun n => qin [] n)) (K := (fun pc L S μ => none)) (cd := qcX7_again) (M := 126) (d0 := 1) rfl qcok_X7_again (Nat.le_refl _) (hcX7_again hcv) (by
    intro pc L S μ r h
    cases h) 400 (pc := 0) (L := qent [.ref a0, .int a1] 2) (S := []) h)
  · cases h
theorem gaX7_again {base : Nat} {D : va_G} {ca : Nat → ClassId} {cv : Nat → Value} (hcv : ∀ j, (cv j).category = 1) {l : List Value} {μ : qM} {r : qR} (h : aX7_again l μ = some r) : qGood false base D ca cv 2 126 l μ r := by
  unfold aX7_again at h
  split at h
  · exact gdX7_again hcv h
  · cases h
noncomputable def gX7_count (a0 : Nat) (a1 : Int32) (μ : qM) : Option qR :=
  if a1 = (0 : Int32) then
    qbnd (oGetP μ 7 a0 2) fun v1 =>
    qbnd (fX5_standing v1 (1 : Int32) μ) fun r2 =>
    some (r2.1, 0, r2.2.2)
  else
  if a1 = (1 : Int32) then
    qbnd (oGetP μ 7 a0 2) fun v3 =>
    qbnd (fX5_standing v3 (2 : Int32) μ) fun r4 =>
    some (r4.1, 0, r4.2.2)
  else
  if a1 = (2 : Int32) then
    qbnd (oGetP μ 7 a0 2) fun v5 =>
    qbnd (oGetI μ 5 v5 11) fun v6 =>
    some (v6, 0, μ)
  else
  if a1 = (3 : Int32) then
    qbnd (oGetP μ 7 a0 2) fun v7 =>
    qbnd (oGetI μ 5 v7 12) fun v8 =>
    some (v8, 0, μ)
  else
  if a1 = (4 : Int32) then
    qbnd (oGetP μ 7 a0 2) fun v9 =>
    qbnd (fX5_standing v9 (2 : Int32) μ) fun r10 =>
    qbnd (fJ6_bitCount_0f7a4 r10.1 r10.2.2) fun r11 =>
    some (r11.1, 0, r11.2.2)
  else
  if a1 = (5 : Int32) then
    qbnd (oGetP μ 7 a0 2) fun v12 =>
    qbnd (fX5_allHoldings v12 μ) fun r13 =>
    some (r13.1, 0, r13.2.2)
  else
  if a1 = (6 : Int32) then
    qbnd (oGetP μ 7 a0 2) fun v14 =>
    qbnd (fX5_allFalls v14 μ) fun r15 =>
    some (r15.1, 0, r15.2.2)
  else
  if a1 = (7 : Int32) then
    qbnd (oGetP μ 7 a0 3) fun v16 =>
    qbnd (oGetI μ 1 v16 2) fun v17 =>
    some (v17, 0, μ)
  else
  if a1 = (8 : Int32) then
    qbnd (oGetP μ 7 a0 7) fun v18 =>
    qbnd (oGetI μ 3 v18 1) fun v19 =>
    some (v19, 0, μ)
  else
  if a1 = (9 : Int32) then
    qbnd (oGetP μ 7 a0 6) fun v20 =>
    qbnd (oGetI μ 6 v20 1) fun v21 =>
    some (v21, 0, μ)
  else
    some ((-100 : Int32), 0, μ)
noncomputable def fX7_count (a0 : Nat) (a1 : Int32) (μ : qM) : Option qR := if (qk μ a0).1 = 7 then gX7_count a0 a1 μ else none
noncomputable def aX7_count (l : List Value) (μ : qM) : Option qR := match l with
  | [.ref x0, .int x1] => fX7_count x0 x1 μ
  | _ => none
noncomputable def cfX7_count : qF := fun n l μ => if n = 56 then aX5_standing l μ else if n = 267 then aJ6_bitCount_0f7a4 l μ else if n = 59 then aX5_allHoldings l μ else if n = 60 then aX5_allFalls l μ else none
theorem hcX7_count {base : Nat} {D : va_G} {ca : Nat → ClassId} {cv : Nat → Value} (hcv : ∀ j, (cv j).category = 1) : ∀ M as μ r, cfX7_count M as μ = some r → qGood false base D ca cv 3 M as μ r := by
  intro M as μ r h
  unfold cfX7_count at h
  split at h
  · rename_i e; subst e; exact (gaX5_standing hcv h).mono (by omega)
  split at h
  · rename_i e; subst e; exact (gaJ6_bitCount_0f7a4 hcv h).mono (by omega)
  split at h
  · rename_i e; subst e; exact (gaX5_allHoldings hcv h).mono (by omega)
  split at h
  · rename_i e; subst e; exact (gaX5_allFalls hcv h).mono (by omega)
  cases h
theorem npX7_count : (parseMethodDescriptor (qmy 127).desc).map (fun d => d.parameters.length) = some 1 := by decide +kernel
set_option maxRecDepth 100000 in
theorem gdX7_count {base : Nat} {D : va_G} {ca : Nat → ClassId} {cv : Nat → Value} (hcv : ∀ j, (cv j).category = 1) {a0 : Nat} {a1 : Int32} {μ : qM} {r : qR} (h : fX7_count a0 a1 μ = some r) : qGood false base D ca cv 4 127 [.ref a0, .int a1] μ r := by
  unfold fX7_count at h
  split at h
  · rename_i hk0
    exact qgood_of (by decide) (by omega) hcv (Or.inr ⟨by decide +kernel, hk0⟩) npX7_count rfl (Nat.le_of_ble_eq_true rfl) rfl (qblk_ev2 (cf := cfX7_count) (st := (fun n => qin [] n)) (K := (fun pc L S μ => none)) (cd := qcX7_count) (M := 127) (d0 := 3) rfl qcok_X7_count (Nat.le_refl _) (hcX7_count hcv) (by
    intro pc L S μ r h
    cases h) 400 (pc := 0) (L := qent [.ref a0, .int a1] 2) (S := []) h)
  · cases h
theorem gaX7_count {base : Nat} {D : va_G} {ca : Nat → ClassId} {cv : Nat → Value} (hcv : ∀ j, (cv j).category = 1) {l : List Value} {μ : qM} {r : qR} (h : aX7_count l μ = some r) : qGood false base D ca cv 4 127 l μ r := by
  unfold aX7_count at h
  split at h
  · exact gdX7_count hcv h
  · cases h
noncomputable def gX7_row (a0 : Nat) (a1 : Int32) (μ : qM) : Option qR :=
  if a1 < 0 then
    none
  else
    qbnd (oGetP μ 7 a0 7) fun v1 =>
    qbnd (oGetI μ 3 v1 1) fun v2 =>
    if a1 < v2 then
      qbnd (oGetP μ 7 a0 7) fun v3 =>
      qbnd (oGetP μ 3 v3 0) fun v4 =>
      qbnd (oLdL μ v4 a1) fun v5 =>
      some (0, v5, μ)
    else
      none
noncomputable def fX7_row (a0 : Nat) (a1 : Int32) (μ : qM) : Option qR := if (qk μ a0).1 = 7 then gX7_row a0 a1 μ else none
noncomputable def aX7_row (l : List Value) (μ : qM) : Option qR := match l with
  | [.ref x0, .int x1] => fX7_row x0 x1 μ
  | _ => none
noncomputable def cfX7_row : qF := fun n l μ => none
theorem hcX7_row {base : Nat} {D : va_G} {ca : Nat → ClassId} {cv : Nat → Value} (hcv : ∀ j, (cv j).category = 1) : ∀ M as μ r, cfX7_row M as μ = some r → qGood false base D ca cv 0 M as μ r := by
  intro M as μ r h
  cases h
theorem npX7_row : (parseMethodDescriptor (qmy 128).desc).map (fun d => d.parameters.length) = some 1 := by decide +kernel
set_option maxRecDepth 100000 in
theorem gdX7_row {base : Nat} {D : va_G} {ca : Nat → ClassId} {cv : Nat → Value} (hcv : ∀ j, (cv j).category = 1) {a0 : Nat} {a1 : Int32} {μ : qM} {r : qR} (h : fX7_row a0 a1 μ = some r) : qGood false base D ca cv 1 128 [.ref a0, .int a1] μ r := by
  unfold fX7_row at h
  split at h
  · rename_i hk0
    exact qgood_of (by decide) (by omega) hcv (Or.inr ⟨by decide +kernel, hk0⟩) npX7_row rfl (Nat.le_of_ble_eq_true rfl) rfl (qblk_ev2 (cf := cfX7_row) (st := (fun n => qin [] n)) (K := (fun pc L S μ => none)) (cd := qcX7_row) (M := 128) (d0 := 0) rfl qcok_X7_row (Nat.le_refl _) (hcX7_row hcv) (by
    intro pc L S μ r h
    cases h) 400 (pc := 0) (L := qent [.ref a0, .int a1] 2) (S := []) h)
  · cases h
theorem gaX7_row {base : Nat} {D : va_G} {ca : Nat → ClassId} {cv : Nat → Value} (hcv : ∀ j, (cv j).category = 1) {l : List Value} {μ : qM} {r : qR} (h : aX7_row l μ = some r) : qGood false base D ca cv 1 128 l μ r := by
  unfold aX7_row at h
  split at h
  · exact gdX7_row hcv h
  · cases h
noncomputable def gX8_thrown (a0 : Nat) (μ : qM) : Option qR :=
  qbnd (oGetI μ 8 a0 0) fun v1 =>
  some (v1, 0, μ)
noncomputable def fX8_thrown (a0 : Nat) (μ : qM) : Option qR := if (qk μ a0).1 = 8 then gX8_thrown a0 μ else none
noncomputable def aX8_thrown (l : List Value) (μ : qM) : Option qR := match l with
  | [.ref x0] => fX8_thrown x0 μ
  | _ => none
noncomputable def cfX8_thrown : qF := fun n l μ => none
theorem hcX8_thrown {base : Nat} {D : va_G} {ca : Nat → ClassId} {cv : Nat → Value} (hcv : ∀ j, (cv j).category = 1) : ∀ M as μ r, cfX8_thrown M as μ = some r → qGood false base D ca cv 0 M as μ r := by
  intro M as μ r h
  cases h
theorem npX8_thrown : (parseMethodDescriptor (qmy 139).desc).map (fun d => d.parameters.length) = some 0 := by decide +kernel
set_option maxRecDepth 100000 in
theorem gdX8_thrown {base : Nat} {D : va_G} {ca : Nat → ClassId} {cv : Nat → Value} (hcv : ∀ j, (cv j).category = 1) {a0 : Nat} {μ : qM} {r : qR} (h : fX8_thrown a0 μ = some r) : qGood false base D ca cv 1 139 [.ref a0] μ r := by
  unfold fX8_thrown at h
  split at h
  · rename_i hk0
    exact qgood_of (by decide) (by omega) hcv (Or.inr ⟨by decide +kernel, hk0⟩) npX8_thrown rfl (Nat.le_of_ble_eq_true rfl) rfl (qblk_ev2 (cf := cfX8_thrown) (st := (fun n => qin [] n)) (K := (fun pc L S μ => none)) (cd := qcX8_thrown) (M := 139) (d0 := 0) rfl qcok_X8_thrown (Nat.le_refl _) (hcX8_thrown hcv) (by
    intro pc L S μ r h
    cases h) 400 (pc := 0) (L := qent [.ref a0] 1) (S := []) h)
  · cases h
theorem gaX8_thrown {base : Nat} {D : va_G} {ca : Nat → ClassId} {cv : Nat → Value} (hcv : ∀ j, (cv j).category = 1) {l : List Value} {μ : qM} {r : qR} (h : aX8_thrown l μ = some r) : qGood false base D ca cv 1 139 l μ r := by
  unfold aX8_thrown at h
  split at h
  · exact gdX8_thrown hcv h
  · cases h
noncomputable def gX8_refuse (a0 : Nat) (μ : qM) : Option qR :=
  qbnd (oPutI μ 8 a0 0 (1 : Int32)) fun μ1 =>
  some ((0 : Int32), 0, μ1)
noncomputable def fX8_refuse (a0 : Nat) (μ : qM) : Option qR := if (qk μ a0).1 = 8 then gX8_refuse a0 μ else none
noncomputable def aX8_refuse (l : List Value) (μ : qM) : Option qR := match l with
  | [.ref x0] => fX8_refuse x0 μ
  | _ => none
noncomputable def cfX8_refuse : qF := fun n l μ => none
theorem hcX8_refuse {base : Nat} {D : va_G} {ca : Nat → ClassId} {cv : Nat → Value} (hcv : ∀ j, (cv j).category = 1) : ∀ M as μ r, cfX8_refuse M as μ = some r → qGood false base D ca cv 0 M as μ r := by
  intro M as μ r h
  cases h
theorem npX8_refuse : (parseMethodDescriptor (qmy 140).desc).map (fun d => d.parameters.length) = some 0 := by decide +kernel
set_option maxRecDepth 100000 in
theorem gdX8_refuse {base : Nat} {D : va_G} {ca : Nat → ClassId} {cv : Nat → Value} (hcv : ∀ j, (cv j).category = 1) {a0 : Nat} {μ : qM} {r : qR} (h : fX8_refuse a0 μ = some r) : qGood false base D ca cv 1 140 [.ref a0] μ r := by
  unfold fX8_refuse at h
  split at h
  · rename_i hk0
    exact qgood_of (by decide) (by omega) hcv (Or.inr ⟨by decide +kernel, hk0⟩) npX8_refuse rfl (Nat.le_of_ble_eq_true rfl) rfl (qblk_ev2 (cf := cfX8_refuse) (st := (fun n => qin [] n)) (K := (fun pc L S μ => none)) (cd := qcX8_refuse) (M := 140) (d0 := 0) rfl qcok_X8_refuse (Nat.le_refl _) (hcX8_refuse hcv) (by
    intro pc L S μ r h
    cases h) 400 (pc := 0) (L := qent [.ref a0] 1) (S := []) h)
  · cases h
theorem gaX8_refuse {base : Nat} {D : va_G} {ca : Nat → ClassId} {cv : Nat → Value} (hcv : ∀ j, (cv j).category = 1) {l : List Value} {μ : qM} {r : qR} (h : aX8_refuse l μ = some r) : qGood false base D ca cv 1 140 l μ r := by
  unfold aX8_refuse at h
  split at h
  · exact gdX8_refuse hcv h
  · cases h
noncomputable def fX8_in (a0 : Int64) (a1 : Int64) (a2 : Int64) (μ : qM) : Option qR :=
  if (lg_cmp a0 a1) < 0 then
    if qnz (0 : Int32) = (0 : Int32) then some ((0 : Int32), 0, μ) else none
  else
    if 0 < (lg_cmp a0 a2) then
      if qnz (0 : Int32) = (0 : Int32) then some ((0 : Int32), 0, μ) else none
    else
      if qnz (1 : Int32) = (1 : Int32) then some ((1 : Int32), 0, μ) else none
noncomputable def aX8_in (l : List Value) (μ : qM) : Option qR := match l with
  | [.long x0, .long x1, .long x2] => fX8_in x0 x1 x2 μ
  | _ => none
noncomputable def cfX8_in : qF := fun n l μ => none
theorem hcX8_in {base : Nat} {D : va_G} {ca : Nat → ClassId} {cv : Nat → Value} (hcv : ∀ j, (cv j).category = 1) : ∀ M as μ r, cfX8_in M as μ = some r → qGood false base D ca cv 0 M as μ r := by
  intro M as μ r h
  cases h
theorem npX8_in : (parseMethodDescriptor (qmy 141).desc).map (fun d => d.parameters.length) = some 3 := by decide +kernel
set_option maxRecDepth 100000 in
theorem gdX8_in {base : Nat} {D : va_G} {ca : Nat → ClassId} {cv : Nat → Value} (hcv : ∀ j, (cv j).category = 1) {a0 : Int64} {a1 : Int64} {a2 : Int64} {μ : qM} {r : qR} (h : fX8_in a0 a1 a2 μ = some r) : qGood false base D ca cv 1 141 [.long a0, .long a1, .long a2] μ r := by
  exact qgood_of (by decide) (by omega) hcv (Or.inl rfl) npX8_in rfl (Nat.le_of_ble_eq_true rfl) rfl (qblk_ev2 (cf := cfX8_in) (st := (fun n => qin [] n)) (K := (fun pc L S μ => none)) (cd := qcX8_in) (M := 141) (d0 := 0) rfl qcok_X8_in (Nat.le_refl _) (hcX8_in hcv) (by
    intro pc L S μ r h
    cases h) 400 (pc := 0) (L := qent [.long a0, .long a1, .long a2] 6) (S := []) h)
theorem gaX8_in {base : Nat} {D : va_G} {ca : Nat → ClassId} {cv : Nat → Value} (hcv : ∀ j, (cv j).category = 1) {l : List Value} {μ : qM} {r : qR} (h : aX8_in l μ = some r) : qGood false base D ca cv 1 141 l μ r := by
  unfold aX8_in at h
  split at h
  · exact gdX8_in hcv h
  · cases h
noncomputable def fX8_has (a0 : Int32) (a1 : Int32) (μ : qM) : Option qR :=
  if ((a0 >>> (a1 &&& 31)) &&& (1 : Int32)) = (1 : Int32) then
    if qnz (1 : Int32) = (1 : Int32) then some ((1 : Int32), 0, μ) else none
  else
    if qnz (0 : Int32) = (0 : Int32) then some ((0 : Int32), 0, μ) else none
noncomputable def aX8_has (l : List Value) (μ : qM) : Option qR := match l with
  | [.int x0, .int x1] => fX8_has x0 x1 μ
  | _ => none
noncomputable def cfX8_has : qF := fun n l μ => none
theorem hcX8_has {base : Nat} {D : va_G} {ca : Nat → ClassId} {cv : Nat → Value} (hcv : ∀ j, (cv j).category = 1) : ∀ M as μ r, cfX8_has M as μ = some r → qGood false base D ca cv 0 M as μ r := by
  intro M as μ r h
  cases h
theorem npX8_has : (parseMethodDescriptor (qmy 142).desc).map (fun d => d.parameters.length) = some 2 := by decide +kernel
set_option maxRecDepth 100000 in
theorem gdX8_has {base : Nat} {D : va_G} {ca : Nat → ClassId} {cv : Nat → Value} (hcv : ∀ j, (cv j).category = 1) {a0 : Int32} {a1 : Int32} {μ : qM} {r : qR} (h : fX8_has a0 a1 μ = some r) : qGood false base D ca cv 1 142 [.int a0, .int a1] μ r := by
  exact qgood_of (by decide) (by omega) hcv (Or.inl rfl) npX8_has rfl (Nat.le_of_ble_eq_true rfl) rfl (qblk_ev2 (cf := cfX8_has) (st := (fun n => qin [] n)) (K := (fun pc L S μ => none)) (cd := qcX8_has) (M := 142) (d0 := 0) rfl qcok_X8_has (Nat.le_refl _) (hcX8_has hcv) (by
    intro pc L S μ r h
    cases h) 400 (pc := 0) (L := qent [.int a0, .int a1] 2) (S := []) h)
theorem gaX8_has {base : Nat} {D : va_G} {ca : Nat → ClassId} {cv : Nat → Value} (hcv : ∀ j, (cv j).category = 1) {l : List Value} {μ : qM} {r : qR} (h : aX8_has l μ = some r) : qGood false base D ca cv 1 142 l μ r := by
  unfold aX8_has at h
  split at h
  · exact gdX8_has hcv h
  · cases h
noncomputable def fX8_flag (a0 : Int32) (μ : qM) : Option qR :=
  if a0 = 0 then
    some ((0 : Int32), 0, μ)
  else
    some ((1 : Int32), 0, μ)
noncomputable def aX8_flag (l : List Value) (μ : qM) : Option qR := match l with
  | [.int x0] => fX8_flag x0 μ
  | _ => none
noncomputable def cfX8_flag : qF := fun n l μ => none
theorem hcX8_flag {base : Nat} {D : va_G} {ca : Nat → ClassId} {cv : Nat → Value} (hcv : ∀ j, (cv j).category = 1) : ∀ M as μ r, cfX8_flag M as μ = some r → qGood false base D ca cv 0 M as μ r := by
  intro M as μ r h
  cases h
theorem npX8_flag : (parseMethodDescriptor (qmy 143).desc).map (fun d => d.parameters.length) = some 1 := by decide +kernel
set_option maxRecDepth 100000 in
theorem gdX8_flag {base : Nat} {D : va_G} {ca : Nat → ClassId} {cv : Nat → Value} (hcv : ∀ j, (cv j).category = 1) {a0 : Int32} {μ : qM} {r : qR} (h : fX8_flag a0 μ = some r) : qGood false base D ca cv 1 143 [.int a0] μ r := by
  exact qgood_of (by decide) (by omega) hcv (Or.inl rfl) npX8_flag rfl (Nat.le_of_ble_eq_true rfl) rfl (qblk_ev2 (cf := cfX8_flag) (st := (fun n => qin [] n)) (K := (fun pc L S μ => none)) (cd := qcX8_flag) (M := 143) (d0 := 0) rfl qcok_X8_flag (Nat.le_refl _) (hcX8_flag hcv) (by
    intro pc L S μ r h
    cases h) 400 (pc := 0) (L := qent [.int a0] 1) (S := []) h)
theorem gaX8_flag {base : Nat} {D : va_G} {ca : Nat → ClassId} {cv : Nat → Value} (hcv : ∀ j, (cv j).category = 1) {l : List Value} {μ : qM} {r : qR} (h : aX8_flag l μ = some r) : qGood false base D ca cv 1 143 l μ r := by
  unfold aX8_flag at h
  split at h
  · exact gdX8_flag hcv h
  · cases h
noncomputable def gX8_enters (a0 : Nat) (a1 : Int64) (μ : qM) : Option qR :=
  qbnd (oGetP μ 8 a0 2) fun v1 =>
  qbnd (oGetI μ 8 a0 1) fun v2 =>
  qbnd (oStL μ v1 v2 a1) fun μ3 =>
  qbnd (oGetI μ3 8 a0 1) fun v4 =>
  qbnd (oPutI μ3 8 a0 1 (v4 + (1 : Int32))) fun μ5 =>
  some (0, 0, μ5)
noncomputable def fX8_enters (a0 : Nat) (a1 : Int64) (μ : qM) : Option qR := if (qk μ a0).1 = 8 then gX8_enters a0 a1 μ else none
noncomputable def aX8_enters (l : List Value) (μ : qM) : Option qR := match l with
  | [.ref x0, .long x1] => fX8_enters x0 x1 μ
  | _ => none
noncomputable def cfX8_enters : qF := fun n l μ => none
theorem hcX8_enters {base : Nat} {D : va_G} {ca : Nat → ClassId} {cv : Nat → Value} (hcv : ∀ j, (cv j).category = 1) : ∀ M as μ r, cfX8_enters M as μ = some r → qGood false base D ca cv 0 M as μ r := by
  intro M as μ r h
  cases h
theorem npX8_enters : (parseMethodDescriptor (qmy 144).desc).map (fun d => d.parameters.length) = some 1 := by decide +kernel
set_option maxRecDepth 100000 in
theorem gdX8_enters {base : Nat} {D : va_G} {ca : Nat → ClassId} {cv : Nat → Value} (hcv : ∀ j, (cv j).category = 1) {a0 : Nat} {a1 : Int64} {μ : qM} {r : qR} (h : fX8_enters a0 a1 μ = some r) : qGood false base D ca cv 1 144 [.ref a0, .long a1] μ r := by
  unfold fX8_enters at h
  split at h
  · rename_i hk0
    exact qgood_of (by decide) (by omega) hcv (Or.inr ⟨by decide +kernel, hk0⟩) npX8_enters rfl (Nat.le_of_ble_eq_true rfl) rfl (qblk_ev2 (cf := cfX8_enters) (st := (fun n => qin [] n)) (K := (fun pc L S μ => none)) (cd := qcX8_enters) (M := 144) (d0 := 0) rfl qcok_X8_enters (Nat.le_refl _) (hcX8_enters hcv) (by
    intro pc L S μ r h
    cases h) 400 (pc := 0) (L := qent [.ref a0, .long a1] 3) (S := []) h)
  · cases h
theorem gaX8_enters {base : Nat} {D : va_G} {ca : Nat → ClassId} {cv : Nat → Value} (hcv : ∀ j, (cv j).category = 1) {l : List Value} {μ : qM} {r : qR} (h : aX8_enters l μ = some r) : qGood false base D ca cv 1 144 l μ r := by
  unfold aX8_enters at h
  split at h
  · exact gdX8_enters hcv h
  · cases h
noncomputable def fX8_parent (a0 : Int32) (μ : qM) : Option qR :=
  if a0 = 0 then
    some ((-1 : Int32), 0, μ)
  else
    if (5 : Int32) ≤ a0 then
      if (21 : Int32) ≤ a0 then
        if (4 : Int32) = 0 then none else
        some (((5 : Int32) + ((a0 - (21 : Int32)) / (4 : Int32))), 0, μ)
      else
        if (4 : Int32) = 0 then none else
        some (((1 : Int32) + ((a0 - (5 : Int32)) / (4 : Int32))), 0, μ)
    else
      some ((0 : Int32), 0, μ)
noncomputable def aX8_parent (l : List Value) (μ : qM) : Option qR := match l with
  | [.int x0] => fX8_parent x0 μ
  | _ => none
noncomputable def cfX8_parent : qF := fun n l μ => none
theorem hcX8_parent {base : Nat} {D : va_G} {ca : Nat → ClassId} {cv : Nat → Value} (hcv : ∀ j, (cv j).category = 1) : ∀ M as μ r, cfX8_parent M as μ = some r → qGood false base D ca cv 0 M as μ r := by
  intro M as μ r h
  cases h
theorem npX8_parent : (parseMethodDescriptor (qmy 145).desc).map (fun d => d.parameters.length) = some 1 := by decide +kernel
set_option maxRecDepth 100000 in
theorem gdX8_parent {base : Nat} {D : va_G} {ca : Nat → ClassId} {cv : Nat → Value} (hcv : ∀ j, (cv j).category = 1) {a0 : Int32} {μ : qM} {r : qR} (h : fX8_parent a0 μ = some r) : qGood false base D ca cv 1 145 [.int a0] μ r := by
  exact qgood_of (by decide) (by omega) hcv (Or.inl rfl) npX8_parent rfl (Nat.le_of_ble_eq_true rfl) rfl (qblk_ev2 (cf := cfX8_parent) (st := (fun n => qin [] n)) (K := (fun pc L S μ => none)) (cd := qcX8_parent) (M := 145) (d0 := 0) rfl qcok_X8_parent (Nat.le_refl _) (hcX8_parent hcv) (by
    intro pc L S μ r h
    cases h) 400 (pc := 0) (L := qent [.int a0] 1) (S := []) h)
theorem gaX8_parent {base : Nat} {D : va_G} {ca : Nat → ClassId} {cv : Nat → Value} (hcv : ∀ j, (cv j).category = 1) {l : List Value} {μ : qM} {r : qR} (h : aX8_parent l μ = some r) : qGood false base D ca cv 1 145 l μ r := by
  unfold aX8_parent at h
  split at h
  · exact gdX8_parent hcv h
  · cases h
noncomputable def fX8_isBelow_12 (x2 : Int32) (μ : qM) : Option qR :=
  if x2 < 0 then
    if qnz (0 : Int32) = (0 : Int32) then some ((0 : Int32), 0, μ) else none
  else
    if qnz (1 : Int32) = (1 : Int32) then some ((1 : Int32), 0, μ) else none
noncomputable def fX8_isBelow_3 : Nat → Int32 → Int32 → qM → Option qR
  | 0 => fun _ _ _ => none
  | n + 1 => fun x1 x2 μ =>
    if x2 < 0 then
      fX8_isBelow_12 x2 μ
    else
      if x2 = x1 then
        fX8_isBelow_12 x2 μ
      else
        qbnd (fX8_parent x2 μ) fun r1 =>
        fX8_isBelow_3 n x1 r1.1 r1.2.2
noncomputable def fX8_isBelow (a0 : Int32) (a1 : Int32) (μ : qM) : Option qR :=
  qbnd (fX8_parent a0 μ) fun r1 =>
  fX8_isBelow_3 qfu a1 r1.1 r1.2.2
noncomputable def aX8_isBelow (l : List Value) (μ : qM) : Option qR := match l with
  | [.int x0, .int x1] => fX8_isBelow x0 x1 μ
  | _ => none
noncomputable def cfX8_isBelow : qF := fun n l μ => if n = 145 then aX8_parent l μ else none
theorem hcX8_isBelow {base : Nat} {D : va_G} {ca : Nat → ClassId} {cv : Nat → Value} (hcv : ∀ j, (cv j).category = 1) : ∀ M as μ r, cfX8_isBelow M as μ = some r → qGood false base D ca cv 1 M as μ r := by
  intro M as μ r h
  unfold cfX8_isBelow at h
  split at h
  · rename_i e; subst e; exact (gaX8_parent hcv h).mono (by omega)
  cases h
def jX8_isBelow_3 (f : Int32 → Int32 → qM → Option qR) (L S : List Value) (μ : qM) : Option qR := match L, S with
  | [_, .int x1, .int x2], [] => f x1 x2 μ
  | _, _ => none
theorem jeX8_isBelow_3 {base : Nat} {D : va_G} {ca : Nat → ClassId} {cv : Nat → Value} {d : Nat} {f : Int32 → Int32 → qM → Option qR} (hf : ∀ (x1 : Int32) (x2 : Int32) (μ : qM) (r : qR), f x1 x2 μ = some r → qEv false base D ca cv d 146 r 3 [.null, .int x1, .int x2] [] μ) {L S : List Value} {μ : qM} {r : qR} (h : jX8_isBelow_3 f L S μ = some r) : qEv false base D ca cv d 146 r 3 L S μ := by
  unfold jX8_isBelow_3 at h
  split at h
  · exact (hf _ _ _ _ h).le rfl ⟨Or.inl rfl, Or.inr rfl, Or.inr rfl, trivial⟩
  · cases h
def jX8_isBelow_12 (f : Int32 → qM → Option qR) (L S : List Value) (μ : qM) : Option qR := match L, S with
  | [_, _, .int x2], [] => f x2 μ
  | _, _ => none
theorem jeX8_isBelow_12 {base : Nat} {D : va_G} {ca : Nat → ClassId} {cv : Nat → Value} {d : Nat} {f : Int32 → qM → Option qR} (hf : ∀ (x2 : Int32) (μ : qM) (r : qR), f x2 μ = some r → qEv false base D ca cv d 146 r 12 [.null, .null, .int x2] [] μ) {L S : List Value} {μ : qM} {r : qR} (h : jX8_isBelow_12 f L S μ = some r) : qEv false base D ca cv d 146 r 12 L S μ := by
  unfold jX8_isBelow_12 at h
  split at h
  · exact (hf _ _ _ h).le rfl ⟨Or.inl rfl, Or.inl rfl, Or.inr rfl, trivial⟩
  · cases h
set_option maxRecDepth 100000 in
theorem lbX8_isBelow_12 {base : Nat} {D : va_G} {ca : Nat → ClassId} {cv : Nat → Value} (hcv : ∀ j, (cv j).category = 1) (x2 : Int32) (μ : qM) (r : qR) (h : fX8_isBelow_12 x2 μ = some r) : qEv false base D ca cv 2 146 r 12 [.null, .null, .int x2] [] μ := by
    exact qblk_ev2 (cf := cfX8_isBelow) (st := (fun n => qin [3, 12] n)) (K := (fun pc L S μ => none)) (cd := qcX8_isBelow) (M := 146) (d0 := 1) rfl qcok_X8_isBelow (Nat.le_refl _) (hcX8_isBelow hcv) (by
    intro pc L S μ r h
    cases h) 400 (pc := 12) (L := [.null, .null, .int x2]) (S := []) h
set_option maxRecDepth 100000 in
theorem lbX8_isBelow_3 {base : Nat} {D : va_G} {ca : Nat → ClassId} {cv : Nat → Value} (hcv : ∀ j, (cv j).category = 1) : ∀ (n : Nat) (x1 : Int32) (x2 : Int32) (μ : qM) (r : qR), fX8_isBelow_3 n x1 x2 μ = some r → qEv false base D ca cv 2 146 r 3 [.null, .int x1, .int x2] [] μ := by
  intro n
  induction n with
  | zero => intro x1 x2 μ r h; cases (show (none : Option qR) = some r from h)
  | succ n ih =>
    intro x1 x2 μ r h
    exact qblk_ev2 (cf := cfX8_isBelow) (st := (fun n => qin [3, 12] n)) (K := (fun pc L S μ => if pc = 3 then jX8_isBelow_3 (fX8_isBelow_3 n) L S μ else if pc = 12 then jX8_isBelow_12 (fX8_isBelow_12) L S μ else none)) (cd := qcX8_isBelow) (M := 146) (d0 := 1) rfl qcok_X8_isBelow (Nat.le_refl _) (hcX8_isBelow hcv) (by
    intro pc L S μ r h
    split at h
    · rename_i e; subst e; exact jeX8_isBelow_3 ih h
    split at h
    · rename_i e; subst e; exact jeX8_isBelow_12 (lbX8_isBelow_12 hcv) h
    cases h) 400 (pc := 3) (L := [.null, .int x1, .int x2]) (S := []) h
theorem npX8_isBelow : (parseMethodDescriptor (qmy 146).desc).map (fun d => d.parameters.length) = some 2 := by decide +kernel
set_option maxRecDepth 100000 in
theorem gdX8_isBelow {base : Nat} {D : va_G} {ca : Nat → ClassId} {cv : Nat → Value} (hcv : ∀ j, (cv j).category = 1) {a0 : Int32} {a1 : Int32} {μ : qM} {r : qR} (h : fX8_isBelow a0 a1 μ = some r) : qGood false base D ca cv 2 146 [.int a0, .int a1] μ r := by
  exact qgood_of (by decide) (by omega) hcv (Or.inl rfl) npX8_isBelow rfl (Nat.le_of_ble_eq_true rfl) rfl (qblk_ev2 (cf := cfX8_isBelow) (st := (fun n => qin [3, 12] n)) (K := (fun pc L S μ => if pc = 3 then jX8_isBelow_3 (fX8_isBelow_3 qfu) L S μ else none)) (cd := qcX8_isBelow) (M := 146) (d0 := 1) rfl qcok_X8_isBelow (Nat.le_refl _) (hcX8_isBelow hcv) (by
    intro pc L S μ r h
    split at h
    · rename_i e; subst e; exact jeX8_isBelow_3 (lbX8_isBelow_3 hcv qfu) h
    cases h) 400 (pc := 0) (L := qent [.int a0, .int a1] 3) (S := []) h)
theorem gaX8_isBelow {base : Nat} {D : va_G} {ca : Nat → ClassId} {cv : Nat → Value} (hcv : ∀ j, (cv j).category = 1) {l : List Value} {μ : qM} {r : qR} (h : aX8_isBelow l μ = some r) : qGood false base D ca cv 2 146 l μ r := by
  unfold aX8_isBelow at h
  split at h
  · exact gdX8_isBelow hcv h
  · cases h
noncomputable def fX8_isPlace (a0 : Int32) (μ : qM) : Option qR :=
  qbnd (fX8_in (a0).toInt64 (0 : Int64) (84 : Int64) μ) fun r1 =>
  if qnz r1.1 = r1.1 then some (r1.1, 0, r1.2.2) else none
noncomputable def aX8_isPlace (l : List Value) (μ : qM) : Option qR := match l with
  | [.int x0] => fX8_isPlace x0 μ
  | _ => none
noncomputable def cfX8_isPlace : qF := fun n l μ => if n = 141 then aX8_in l μ else none
theorem hcX8_isPlace {base : Nat} {D : va_G} {ca : Nat → ClassId} {cv : Nat → Value} (hcv : ∀ j, (cv j).category = 1) : ∀ M as μ r, cfX8_isPlace M as μ = some r → qGood false base D ca cv 1 M as μ r := by
  intro M as μ r h
  unfold cfX8_isPlace at h
  split at h
  · rename_i e; subst e; exact (gaX8_in hcv h).mono (by omega)
  cases h
theorem npX8_isPlace : (parseMethodDescriptor (qmy 147).desc).map (fun d => d.parameters.length) = some 1 := by decide +kernel
set_option maxRecDepth 100000 in
theorem gdX8_isPlace {base : Nat} {D : va_G} {ca : Nat → ClassId} {cv : Nat → Value} (hcv : ∀ j, (cv j).category = 1) {a0 : Int32} {μ : qM} {r : qR} (h : fX8_isPlace a0 μ = some r) : qGood false base D ca cv 2 147 [.int a0] μ r := by
  exact qgood_of (by decide) (by omega) hcv (Or.inl rfl) npX8_isPlace rfl (Nat.le_of_ble_eq_true rfl) rfl (qblk_ev2 (cf := cfX8_isPlace) (st := (fun n => qin [] n)) (K := (fun pc L S μ => none)) (cd := qcX8_isPlace) (M := 147) (d0 := 1) rfl qcok_X8_isPlace (Nat.le_refl _) (hcX8_isPlace hcv) (by
    intro pc L S μ r h
    cases h) 400 (pc := 0) (L := qent [.int a0] 1) (S := []) h)
theorem gaX8_isPlace {base : Nat} {D : va_G} {ca : Nat → ClassId} {cv : Nat → Value} (hcv : ∀ j, (cv j).category = 1) {l : List Value} {μ : qM} {r : qR} (h : aX8_isPlace l μ = some r) : qGood false base D ca cv 2 147 l μ r := by
  unfold aX8_isPlace at h
  split at h
  · exact gdX8_isPlace hcv h
  · cases h
noncomputable def fX8_isMode (a0 : Int32) (μ : qM) : Option qR :=
  qbnd (fX8_in (a0).toInt64 (1 : Int64) (6 : Int64) μ) fun r1 =>
  if qnz r1.1 = r1.1 then some (r1.1, 0, r1.2.2) else none
noncomputable def aX8_isMode (l : List Value) (μ : qM) : Option qR := match l with
  | [.int x0] => fX8_isMode x0 μ
  | _ => none
noncomputable def cfX8_isMode : qF := fun n l μ => if n = 141 then aX8_in l μ else none
theorem hcX8_isMode {base : Nat} {D : va_G} {ca : Nat → ClassId} {cv : Nat → Value} (hcv : ∀ j, (cv j).category = 1) : ∀ M as μ r, cfX8_isMode M as μ = some r → qGood false base D ca cv 1 M as μ r := by
  intro M as μ r h
  unfold cfX8_isMode at h
  split at h
  · rename_i e; subst e; exact (gaX8_in hcv h).mono (by omega)
  cases h
theorem npX8_isMode : (parseMethodDescriptor (qmy 148).desc).map (fun d => d.parameters.length) = some 1 := by decide +kernel
set_option maxRecDepth 100000 in
theorem gdX8_isMode {base : Nat} {D : va_G} {ca : Nat → ClassId} {cv : Nat → Value} (hcv : ∀ j, (cv j).category = 1) {a0 : Int32} {μ : qM} {r : qR} (h : fX8_isMode a0 μ = some r) : qGood false base D ca cv 2 148 [.int a0] μ r := by
  exact qgood_of (by decide) (by omega) hcv (Or.inl rfl) npX8_isMode rfl (Nat.le_of_ble_eq_true rfl) rfl (qblk_ev2 (cf := cfX8_isMode) (st := (fun n => qin [] n)) (K := (fun pc L S μ => none)) (cd := qcX8_isMode) (M := 148) (d0 := 1) rfl qcok_X8_isMode (Nat.le_refl _) (hcX8_isMode hcv) (by
    intro pc L S μ r h
    cases h) 400 (pc := 0) (L := qent [.int a0] 1) (S := []) h)
theorem gaX8_isMode {base : Nat} {D : va_G} {ca : Nat → ClassId} {cv : Nat → Value} (hcv : ∀ j, (cv j).category = 1) {l : List Value} {μ : qM} {r : qR} (h : aX8_isMode l μ = some r) : qGood false base D ca cv 2 148 l μ r := by
  unfold aX8_isMode at h
  split at h
  · exact gdX8_isMode hcv h
  · cases h
noncomputable def fX8_together (a0 : Int32) (a1 : Int32) (μ : qM) : Option qR :=
  qbnd (oTab 1 3 a0) fun v1 =>
  qbnd (fX8_has v1 a1 μ) fun r2 =>
  if qnz r2.1 = r2.1 then some (r2.1, 0, r2.2.2) else none
noncomputable def aX8_together (l : List Value) (μ : qM) : Option qR := match l with
  | [.int x0, .int x1] => fX8_together x0 x1 μ
  | _ => none
noncomputable def cfX8_together : qF := fun n l μ => if n = 142 then aX8_has l μ else none
theorem hcX8_together {base : Nat} {D : va_G} {ca : Nat → ClassId} {cv : Nat → Value} (hcv : ∀ j, (cv j).category = 1) : ∀ M as μ r, cfX8_together M as μ = some r → qGood false base D ca cv 1 M as μ r := by
  intro M as μ r h
  unfold cfX8_together at h
  split at h
  · rename_i e; subst e; exact (gaX8_has hcv h).mono (by omega)
  cases h
theorem npX8_together : (parseMethodDescriptor (qmy 149).desc).map (fun d => d.parameters.length) = some 2 := by decide +kernel
set_option maxRecDepth 100000 in
theorem gdX8_together {base : Nat} {D : va_G} {ca : Nat → ClassId} {cv : Nat → Value} (hcv : ∀ j, (cv j).category = 1) {a0 : Int32} {a1 : Int32} {μ : qM} {r : qR} (h : fX8_together a0 a1 μ = some r) : qGood false base D ca cv 2 149 [.int a0, .int a1] μ r := by
  exact qgood_of (by decide) (by omega) hcv (Or.inl rfl) npX8_together rfl (Nat.le_of_ble_eq_true rfl) rfl (qblk_ev2 (cf := cfX8_together) (st := (fun n => qin [] n)) (K := (fun pc L S μ => none)) (cd := qcX8_together) (M := 149) (d0 := 1) rfl qcok_X8_together (Nat.le_refl _) (hcX8_together hcv) (by
    intro pc L S μ r h
    cases h) 400 (pc := 0) (L := qent [.int a0, .int a1] 2) (S := []) h)
theorem gaX8_together {base : Nat} {D : va_G} {ca : Nat → ClassId} {cv : Nat → Value} (hcv : ∀ j, (cv j).category = 1) {l : List Value} {μ : qM} {r : qR} (h : aX8_together l μ = some r) : qGood false base D ca cv 2 149 l μ r := by
  unfold aX8_together at h
  split at h
  · exact gdX8_together hcv h
  · cases h
noncomputable def fX8_both_21 (k4 : Int32 → Int32 → Int32 → Int32 → qM → Option qR) (x0 : Int32) (x1 : Int32) (x2 : Int32) (x3 : Int32) (s0 : Int32) (μ : qM) : Option qR :=
  if s0 = 0 then
    k4 x0 x1 x2 (x3 + (-1 : Int32)) μ
  else
    qbnd (oTab 1 4 x2) fun v1 =>
    qbnd (fX8_has v1 x3 μ) fun r2 =>
    if r2.1 = 0 then
      k4 x0 x1 x2 (x3 + (-1 : Int32)) r2.2.2
    else
      k4 x0 x1 x3 (x3 + (-1 : Int32)) r2.2.2
noncomputable def fX8_both_20 (k4 : Int32 → Int32 → Int32 → Int32 → qM → Option qR) (x0 : Int32) (x1 : Int32) (x2 : Int32) (x3 : Int32) (μ : qM) : Option qR :=
  fX8_both_21 k4 x0 x1 x2 x3 (0 : Int32) μ
noncomputable def fX8_both_4 : Nat → Int32 → Int32 → Int32 → Int32 → qM → Option qR
  | 0 => fun _ _ _ _ _ => none
  | n + 1 => fun x0 x1 x2 x3 μ =>
    if x3 < 0 then
      some (x2, 0, μ)
    else
      qbnd (oTab 1 4 x3) fun v1 =>
      qbnd (fX8_has v1 x0 μ) fun r2 =>
      if r2.1 = 0 then
        fX8_both_20 (fX8_both_4 n) x0 x1 x2 x3 r2.2.2
      else
        qbnd (oTab 1 4 x3) fun v3 =>
        qbnd (fX8_has v3 x1 r2.2.2) fun r4 =>
        if r4.1 = 0 then
          fX8_both_20 (fX8_both_4 n) x0 x1 x2 x3 r4.2.2
        else
          fX8_both_21 (fX8_both_4 n) x0 x1 x2 x3 (1 : Int32) r4.2.2
noncomputable def fX8_both (a0 : Int32) (a1 : Int32) (μ : qM) : Option qR :=
  fX8_both_4 qfu a0 a1 (6 : Int32) (6 : Int32) μ
noncomputable def aX8_both (l : List Value) (μ : qM) : Option qR := match l with
  | [.int x0, .int x1] => fX8_both x0 x1 μ
  | _ => none
noncomputable def cfX8_both : qF := fun n l μ => if n = 142 then aX8_has l μ else none
theorem hcX8_both {base : Nat} {D : va_G} {ca : Nat → ClassId} {cv : Nat → Value} (hcv : ∀ j, (cv j).category = 1) : ∀ M as μ r, cfX8_both M as μ = some r → qGood false base D ca cv 1 M as μ r := by
  intro M as μ r h
  unfold cfX8_both at h
  split at h
  · rename_i e; subst e; exact (gaX8_has hcv h).mono (by omega)
  cases h
def jX8_both_4 (f : Int32 → Int32 → Int32 → Int32 → qM → Option qR) (L S : List Value) (μ : qM) : Option qR := match L, S with
  | [.int x0, .int x1, .int x2, .int x3, _], [] => f x0 x1 x2 x3 μ
  | _, _ => none
theorem jeX8_both_4 {base : Nat} {D : va_G} {ca : Nat → ClassId} {cv : Nat → Value} {d : Nat} {f : Int32 → Int32 → Int32 → Int32 → qM → Option qR} (hf : ∀ (x0 : Int32) (x1 : Int32) (x2 : Int32) (x3 : Int32) (μ : qM) (r : qR), f x0 x1 x2 x3 μ = some r → qEv false base D ca cv d 150 r 4 [.int x0, .int x1, .int x2, .int x3, .null] [] μ) {L S : List Value} {μ : qM} {r : qR} (h : jX8_both_4 f L S μ = some r) : qEv false base D ca cv d 150 r 4 L S μ := by
  unfold jX8_both_4 at h
  split at h
  · exact (hf _ _ _ _ _ _ h).le rfl ⟨Or.inr rfl, Or.inr rfl, Or.inr rfl, Or.inr rfl, Or.inl rfl, trivial⟩
  · cases h
def jX8_both_20 (f : Int32 → Int32 → Int32 → Int32 → qM → Option qR) (L S : List Value) (μ : qM) : Option qR := match L, S with
  | [.int x0, .int x1, .int x2, .int x3, _], [] => f x0 x1 x2 x3 μ
  | _, _ => none
theorem jeX8_both_20 {base : Nat} {D : va_G} {ca : Nat → ClassId} {cv : Nat → Value} {d : Nat} {f : Int32 → Int32 → Int32 → Int32 → qM → Option qR} (hf : ∀ (x0 : Int32) (x1 : Int32) (x2 : Int32) (x3 : Int32) (μ : qM) (r : qR), f x0 x1 x2 x3 μ = some r → qEv false base D ca cv d 150 r 20 [.int x0, .int x1, .int x2, .int x3, .null] [] μ) {L S : List Value} {μ : qM} {r : qR} (h : jX8_both_20 f L S μ = some r) : qEv false base D ca cv d 150 r 20 L S μ := by
  unfold jX8_both_20 at h
  split at h
  · exact (hf _ _ _ _ _ _ h).le rfl ⟨Or.inr rfl, Or.inr rfl, Or.inr rfl, Or.inr rfl, Or.inl rfl, trivial⟩
  · cases h
def jX8_both_21 (f : Int32 → Int32 → Int32 → Int32 → Int32 → qM → Option qR) (L S : List Value) (μ : qM) : Option qR := match L, S with
  | [.int x0, .int x1, .int x2, .int x3, _], [.int s0] => f x0 x1 x2 x3 s0 μ
  | _, _ => none
theorem jeX8_both_21 {base : Nat} {D : va_G} {ca : Nat → ClassId} {cv : Nat → Value} {d : Nat} {f : Int32 → Int32 → Int32 → Int32 → Int32 → qM → Option qR} (hf : ∀ (x0 : Int32) (x1 : Int32) (x2 : Int32) (x3 : Int32) (s0 : Int32) (μ : qM) (r : qR), f x0 x1 x2 x3 s0 μ = some r → qEv false base D ca cv d 150 r 21 [.int x0, .int x1, .int x2, .int x3, .null] [.int s0] μ) {L S : List Value} {μ : qM} {r : qR} (h : jX8_both_21 f L S μ = some r) : qEv false base D ca cv d 150 r 21 L S μ := by
  unfold jX8_both_21 at h
  split at h
  · exact (hf _ _ _ _ _ _ _ h).le rfl ⟨Or.inr rfl, Or.inr rfl, Or.inr rfl, Or.inr rfl, Or.inl rfl, trivial⟩
  · cases h
set_option maxRecDepth 100000 in
theorem lbX8_both_21 {base : Nat} {D : va_G} {ca : Nat → ClassId} {cv : Nat → Value} (hcv : ∀ j, (cv j).category = 1) {k4 : Int32 → Int32 → Int32 → Int32 → qM → Option qR} (hk4 : ∀ (y0 : Int32) (y1 : Int32) (y2 : Int32) (y3 : Int32) (μ : qM) (r : qR), k4 y0 y1 y2 y3 μ = some r → qEv false base D ca cv 2 150 r 4 [.int y0, .int y1, .int y2, .int y3, .null] [] μ) (x0 : Int32) (x1 : Int32) (x2 : Int32) (x3 : Int32) (s0 : Int32) (μ : qM) (r : qR) (h : fX8_both_21 k4 x0 x1 x2 x3 s0 μ = some r) : qEv false base D ca cv 2 150 r 21 [.int x0, .int x1, .int x2, .int x3, .null] [.int s0] μ := by
    exact qblk_ev2 (cf := cfX8_both) (st := (fun n => qin [4, 20, 21] n)) (K := (fun pc L S μ => if pc = 4 then jX8_both_4 k4 L S μ else none)) (cd := qcX8_both) (M := 150) (d0 := 1) rfl qcok_X8_both (Nat.le_refl _) (hcX8_both hcv) (by
    intro pc L S μ r h
    split at h
    · rename_i e; subst e; exact jeX8_both_4 hk4 h
    cases h) 400 (pc := 21) (L := [.int x0, .int x1, .int x2, .int x3, .null]) (S := [.int s0]) h
set_option maxRecDepth 100000 in
theorem lbX8_both_20 {base : Nat} {D : va_G} {ca : Nat → ClassId} {cv : Nat → Value} (hcv : ∀ j, (cv j).category = 1) {k4 : Int32 → Int32 → Int32 → Int32 → qM → Option qR} (hk4 : ∀ (y0 : Int32) (y1 : Int32) (y2 : Int32) (y3 : Int32) (μ : qM) (r : qR), k4 y0 y1 y2 y3 μ = some r → qEv false base D ca cv 2 150 r 4 [.int y0, .int y1, .int y2, .int y3, .null] [] μ) (x0 : Int32) (x1 : Int32) (x2 : Int32) (x3 : Int32) (μ : qM) (r : qR) (h : fX8_both_20 k4 x0 x1 x2 x3 μ = some r) : qEv false base D ca cv 2 150 r 20 [.int x0, .int x1, .int x2, .int x3, .null] [] μ := by
    exact qblk_ev2 (cf := cfX8_both) (st := (fun n => qin [4, 20, 21] n)) (K := (fun pc L S μ => if pc = 21 then jX8_both_21 (fX8_both_21 k4) L S μ else none)) (cd := qcX8_both) (M := 150) (d0 := 1) rfl qcok_X8_both (Nat.le_refl _) (hcX8_both hcv) (by
    intro pc L S μ r h
    split at h
    · rename_i e; subst e; exact jeX8_both_21 (lbX8_both_21 hcv hk4) h
    cases h) 400 (pc := 20) (L := [.int x0, .int x1, .int x2, .int x3, .null]) (S := []) h
set_option maxRecDepth 100000 in
theorem lbX8_both_4 {base : Nat} {D : va_G} {ca : Nat → ClassId} {cv : Nat → Value} (hcv : ∀ j, (cv j).category = 1) : ∀ (n : Nat) (x0 : Int32) (x1 : Int32) (x2 : Int32) (x3 : Int32) (μ : qM) (r : qR), fX8_both_4 n x0 x1 x2 x3 μ = some r → qEv false base D ca cv 2 150 r 4 [.int x0, .int x1, .int x2, .int x3, .null] [] μ := by
  intro n
  induction n with
  | zero => intro x0 x1 x2 x3 μ r h; cases (show (none : Option qR) = some r from h)
  | succ n ih =>
    intro x0 x1 x2 x3 μ r h
    exact qblk_ev2 (cf := cfX8_both) (st := (fun n => qin [4, 20, 21] n)) (K := (fun pc L S μ => if pc = 20 then jX8_both_20 (fX8_both_20 (fX8_both_4 n)) L S μ else if pc = 21 then jX8_both_21 (fX8_both_21 (fX8_both_4 n)) L S μ else none)) (cd := qcX8_both) (M := 150) (d0 := 1) rfl qcok_X8_both (Nat.le_refl _) (hcX8_both hcv) (by
    intro pc L S μ r h
    split at h
    · rename_i e; subst e; exact jeX8_both_20 (lbX8_both_20 hcv ih) h
    split at h
    · rename_i e; subst e; exact jeX8_both_21 (lbX8_both_21 hcv ih) h
    cases h) 400 (pc := 4) (L := [.int x0, .int x1, .int x2, .int x3, .null]) (S := []) h
theorem npX8_both : (parseMethodDescriptor (qmy 150).desc).map (fun d => d.parameters.length) = some 2 := by decide +kernel
set_option maxRecDepth 100000 in
theorem gdX8_both {base : Nat} {D : va_G} {ca : Nat → ClassId} {cv : Nat → Value} (hcv : ∀ j, (cv j).category = 1) {a0 : Int32} {a1 : Int32} {μ : qM} {r : qR} (h : fX8_both a0 a1 μ = some r) : qGood false base D ca cv 2 150 [.int a0, .int a1] μ r := by
  exact qgood_of (by decide) (by omega) hcv (Or.inl rfl) npX8_both rfl (Nat.le_of_ble_eq_true rfl) rfl (qblk_ev2 (cf := cfX8_both) (st := (fun n => qin [4, 20, 21] n)) (K := (fun pc L S μ => if pc = 4 then jX8_both_4 (fX8_both_4 qfu) L S μ else none)) (cd := qcX8_both) (M := 150) (d0 := 1) rfl qcok_X8_both (Nat.le_refl _) (hcX8_both hcv) (by
    intro pc L S μ r h
    split at h
    · rename_i e; subst e; exact jeX8_both_4 (lbX8_both_4 hcv qfu) h
    cases h) 400 (pc := 0) (L := qent [.int a0, .int a1] 5) (S := []) h)
theorem gaX8_both {base : Nat} {D : va_G} {ca : Nat → ClassId} {cv : Nat → Value} (hcv : ∀ j, (cv j).category = 1) {l : List Value} {μ : qM} {r : qR} (h : aX8_both l μ = some r) : qGood false base D ca cv 2 150 l μ r := by
  unfold aX8_both at h
  split at h
  · exact gdX8_both hcv h
  · cases h
noncomputable def gX8_modes (a0 : Nat) (a1 : Int32) (a2 : Int32) (μ : qM) : Option qR :=
  qbnd (oPutI μ 8 a0 0 (0 : Int32)) fun μ1 =>
  qbnd (fX8_in (a1).toInt64 (0 : Int64) (6 : Int64) μ1) fun r2 =>
  if r2.1 = 0 then
    some ((-1 : Int32), 0, r2.2.2)
  else
    qbnd (fX8_in (a2).toInt64 (0 : Int64) (6 : Int64) r2.2.2) fun r3 =>
    if r3.1 = 0 then
      some ((-1 : Int32), 0, r3.2.2)
    else
      qbnd (oPutI r3.2.2 8 a0 1 (0 : Int32)) fun μ4 =>
      qbnd (fX8_both a1 a2 μ4) fun r5 =>
      qbnd (fX8_enters a0 (r5.1).toInt64 r5.2.2) fun r6 =>
      qbnd (oTab 1 4 a1) fun v7 =>
      qbnd (fX8_has v7 a2 r6.2.2) fun r8 =>
      qbnd (fX8_flag r8.1 r8.2.2) fun r9 =>
      qbnd (fX8_enters a0 (r9.1).toInt64 r9.2.2) fun r10 =>
      qbnd (fX8_together a1 a2 r10.2.2) fun r11 =>
      qbnd (fX8_flag r11.1 r11.2.2) fun r12 =>
      some (r12.1, 0, r12.2.2)
noncomputable def fX8_modes (a0 : Nat) (a1 : Int32) (a2 : Int32) (μ : qM) : Option qR := if (qk μ a0).1 = 8 then gX8_modes a0 a1 a2 μ else none
noncomputable def aX8_modes (l : List Value) (μ : qM) : Option qR := match l with
  | [.ref x0, .int x1, .int x2] => fX8_modes x0 x1 x2 μ
  | _ => none
noncomputable def cfX8_modes : qF := fun n l μ => if n = 141 then aX8_in l μ else if n = 150 then aX8_both l μ else if n = 144 then aX8_enters l μ else if n = 142 then aX8_has l μ else if n = 143 then aX8_flag l μ else if n = 149 then aX8_together l μ else none
theorem hcX8_modes {base : Nat} {D : va_G} {ca : Nat → ClassId} {cv : Nat → Value} (hcv : ∀ j, (cv j).category = 1) : ∀ M as μ r, cfX8_modes M as μ = some r → qGood false base D ca cv 2 M as μ r := by
  intro M as μ r h
  unfold cfX8_modes at h
  split at h
  · rename_i e; subst e; exact (gaX8_in hcv h).mono (by omega)
  split at h
  · rename_i e; subst e; exact (gaX8_both hcv h).mono (by omega)
  split at h
  · rename_i e; subst e; exact (gaX8_enters hcv h).mono (by omega)
  split at h
  · rename_i e; subst e; exact (gaX8_has hcv h).mono (by omega)
  split at h
  · rename_i e; subst e; exact (gaX8_flag hcv h).mono (by omega)
  split at h
  · rename_i e; subst e; exact (gaX8_together hcv h).mono (by omega)
  cases h
theorem npX8_modes : (parseMethodDescriptor (qmy 151).desc).map (fun d => d.parameters.length) = some 2 := by decide +kernel
set_option maxRecDepth 100000 in
theorem gdX8_modes {base : Nat} {D : va_G} {ca : Nat → ClassId} {cv : Nat → Value} (hcv : ∀ j, (cv j).category = 1) {a0 : Nat} {a1 : Int32} {a2 : Int32} {μ : qM} {r : qR} (h : fX8_modes a0 a1 a2 μ = some r) : qGood false base D ca cv 3 151 [.ref a0, .int a1, .int a2] μ r := by
  unfold fX8_modes at h
  split at h
  · rename_i hk0
    exact qgood_of (by decide) (by omega) hcv (Or.inr ⟨by decide +kernel, hk0⟩) npX8_modes rfl (Nat.le_of_ble_eq_true rfl) rfl (qblk_ev2 (cf := cfX8_modes) (st := (fun n => qin [] n)) (K := (fun pc L S μ => none)) (cd := qcX8_modes) (M := 151) (d0 := 2) rfl qcok_X8_modes (Nat.le_refl _) (hcX8_modes hcv) (by
    intro pc L S μ r h
    cases h) 400 (pc := 0) (L := qent [.ref a0, .int a1, .int a2] 3) (S := []) h)
  · cases h
theorem gaX8_modes {base : Nat} {D : va_G} {ca : Nat → ClassId} {cv : Nat → Value} (hcv : ∀ j, (cv j).category = 1) {l : List Value} {μ : qM} {r : qR} (h : aX8_modes l μ = some r) : qGood false base D ca cv 3 151 l μ r := by
  unfold aX8_modes at h
  split at h
  · exact gdX8_modes hcv h
  · cases h
noncomputable def fX8_sign_11 : Nat → Nat → Int32 → Int32 → qM → Option qR
  | 0 => fun _ _ _ _ => none
  | n + 1 => fun x0 x1 x2 μ =>
    if (4 : Int32) ≤ x2 then
      qbnd (oGetI μ 8 x0 4) fun v1 =>
      qbnd (oPutI μ 8 x0 4 (v1 + (4 : Int32))) fun μ2 =>
      qbnd (oGetI μ2 8 x0 4) fun v3 =>
      some (v3, 0, μ2)
    else
      qbnd (oGetP μ 8 x0 3) fun v4 =>
      qbnd (oGetI μ 8 x0 4) fun v5 =>
      qbnd (oStI 20 μ v4 (v5 + x2) ((x1 >>> (((24 : Int32) - ((8 : Int32) * x2)) &&& 31)) &&& (255 : Int32))) fun μ6 =>
      fX8_sign_11 n x0 x1 (x2 + (1 : Int32)) μ6
noncomputable def gX8_sign (a0 : Nat) (a1 : Int32) (μ : qM) : Option qR :=
  qbnd (oPutI μ 8 a0 0 (0 : Int32)) fun μ1 =>
  qbnd (oGetI μ1 8 a0 4) fun v2 =>
  if v2 ≤ (76 : Int32) then
    fX8_sign_11 qfu a0 a1 (0 : Int32) μ1
  else
    some ((-1 : Int32), 0, μ1)
noncomputable def fX8_sign (a0 : Nat) (a1 : Int32) (μ : qM) : Option qR := if (qk μ a0).1 = 8 then gX8_sign a0 a1 μ else none
noncomputable def aX8_sign (l : List Value) (μ : qM) : Option qR := match l with
  | [.ref x0, .int x1] => fX8_sign x0 x1 μ
  | _ => none
noncomputable def cfX8_sign : qF := fun n l μ => none
theorem hcX8_sign {base : Nat} {D : va_G} {ca : Nat → ClassId} {cv : Nat → Value} (hcv : ∀ j, (cv j).category = 1) : ∀ M as μ r, cfX8_sign M as μ = some r → qGood false base D ca cv 0 M as μ r := by
  intro M as μ r h
  cases h
def jX8_sign_11 (f : Nat → Int32 → Int32 → qM → Option qR) (L S : List Value) (μ : qM) : Option qR := match L, S with
  | [.ref x0, .int x1, .int x2], [] => f x0 x1 x2 μ
  | _, _ => none
theorem jeX8_sign_11 {base : Nat} {D : va_G} {ca : Nat → ClassId} {cv : Nat → Value} {d : Nat} {f : Nat → Int32 → Int32 → qM → Option qR} (hf : ∀ (x0 : Nat) (x1 : Int32) (x2 : Int32) (μ : qM) (r : qR), f x0 x1 x2 μ = some r → qEv false base D ca cv d 152 r 11 [.ref x0, .int x1, .int x2] [] μ) {L S : List Value} {μ : qM} {r : qR} (h : jX8_sign_11 f L S μ = some r) : qEv false base D ca cv d 152 r 11 L S μ := by
  unfold jX8_sign_11 at h
  split at h
  · exact (hf _ _ _ _ _ h).le rfl ⟨Or.inr rfl, Or.inr rfl, Or.inr rfl, trivial⟩
  · cases h
set_option maxRecDepth 100000 in
theorem lbX8_sign_11 {base : Nat} {D : va_G} {ca : Nat → ClassId} {cv : Nat → Value} (hcv : ∀ j, (cv j).category = 1) : ∀ (n : Nat) (x0 : Nat) (x1 : Int32) (x2 : Int32) (μ : qM) (r : qR), fX8_sign_11 n x0 x1 x2 μ = some r → qEv false base D ca cv 1 152 r 11 [.ref x0, .int x1, .int x2] [] μ := by
  intro n
  induction n with
  | zero => intro x0 x1 x2 μ r h; cases (show (none : Option qR) = some r from h)
  | succ n ih =>
    intro x0 x1 x2 μ r h
    exact qblk_ev2 (cf := cfX8_sign) (st := (fun n => qin [11] n)) (K := (fun pc L S μ => if pc = 11 then jX8_sign_11 (fX8_sign_11 n) L S μ else none)) (cd := qcX8_sign) (M := 152) (d0 := 0) rfl qcok_X8_sign (Nat.le_refl _) (hcX8_sign hcv) (by
    intro pc L S μ r h
    split at h
    · rename_i e; subst e; exact jeX8_sign_11 ih h
    cases h) 400 (pc := 11) (L := [.ref x0, .int x1, .int x2]) (S := []) h
theorem npX8_sign : (parseMethodDescriptor (qmy 152).desc).map (fun d => d.parameters.length) = some 1 := by decide +kernel
set_option maxRecDepth 100000 in
theorem gdX8_sign {base : Nat} {D : va_G} {ca : Nat → ClassId} {cv : Nat → Value} (hcv : ∀ j, (cv j).category = 1) {a0 : Nat} {a1 : Int32} {μ : qM} {r : qR} (h : fX8_sign a0 a1 μ = some r) : qGood false base D ca cv 1 152 [.ref a0, .int a1] μ r := by
  unfold fX8_sign at h
  split at h
  · rename_i hk0
    exact qgood_of (by decide) (by omega) hcv (Or.inr ⟨by decide +kernel, hk0⟩) npX8_sign rfl (Nat.le_of_ble_eq_true rfl) rfl (qblk_ev2 (cf := cfX8_sign) (st := (fun n => qin [11] n)) (K := (fun pc L S μ => if pc = 11 then jX8_sign_11 (fX8_sign_11 qfu) L S μ else none)) (cd := qcX8_sign) (M := 152) (d0 := 0) rfl qcok_X8_sign (Nat.le_refl _) (hcX8_sign hcv) (by
    intro pc L S μ r h
    split at h
    · rename_i e; subst e; exact jeX8_sign_11 (lbX8_sign_11 hcv qfu) h
    cases h) 400 (pc := 0) (L := qent [.ref a0, .int a1] 3) (S := []) h)
  · cases h
theorem gaX8_sign {base : Nat} {D : va_G} {ca : Nat → ClassId} {cv : Nat → Value} (hcv : ∀ j, (cv j).category = 1) {l : List Value} {μ : qM} {r : qR} (h : aX8_sign l μ = some r) : qGood false base D ca cv 1 152 l μ r := by
  unfold aX8_sign at h
  split at h
  · exact gdX8_sign hcv h
  · cases h
noncomputable def gX8_end (a0 : Nat) (a1 : Int32) (μ : qM) : Option qR :=
  qbnd (oPutI μ 8 a0 0 (0 : Int32)) fun μ1 =>
  qbnd (oGetI μ1 8 a0 4) fun v2 =>
  qbnd (fX8_in (a1).toInt64 (0 : Int64) (v2).toInt64 μ1) fun r3 =>
  if r3.1 = 0 then
    if qnz (0 : Int32) = (0 : Int32) then some ((0 : Int32), 0, r3.2.2) else none
  else
    qbnd (oPutI r3.2.2 8 a0 4 a1) fun μ4 =>
    if qnz (1 : Int32) = (1 : Int32) then some ((1 : Int32), 0, μ4) else none
noncomputable def fX8_end (a0 : Nat) (a1 : Int32) (μ : qM) : Option qR := if (qk μ a0).1 = 8 then gX8_end a0 a1 μ else none
noncomputable def aX8_end (l : List Value) (μ : qM) : Option qR := match l with
  | [.ref x0, .int x1] => fX8_end x0 x1 μ
  | _ => none
noncomputable def cfX8_end : qF := fun n l μ => if n = 141 then aX8_in l μ else none
theorem hcX8_end {base : Nat} {D : va_G} {ca : Nat → ClassId} {cv : Nat → Value} (hcv : ∀ j, (cv j).category = 1) : ∀ M as μ r, cfX8_end M as μ = some r → qGood false base D ca cv 1 M as μ r := by
  intro M as μ r h
  unfold cfX8_end at h
  split at h
  · rename_i e; subst e; exact (gaX8_in hcv h).mono (by omega)
  cases h
theorem npX8_end : (parseMethodDescriptor (qmy 153).desc).map (fun d => d.parameters.length) = some 1 := by decide +kernel
set_option maxRecDepth 100000 in
theorem gdX8_end {base : Nat} {D : va_G} {ca : Nat → ClassId} {cv : Nat → Value} (hcv : ∀ j, (cv j).category = 1) {a0 : Nat} {a1 : Int32} {μ : qM} {r : qR} (h : fX8_end a0 a1 μ = some r) : qGood false base D ca cv 2 153 [.ref a0, .int a1] μ r := by
  unfold fX8_end at h
  split at h
  · rename_i hk0
    exact qgood_of (by decide) (by omega) hcv (Or.inr ⟨by decide +kernel, hk0⟩) npX8_end rfl (Nat.le_of_ble_eq_true rfl) rfl (qblk_ev2 (cf := cfX8_end) (st := (fun n => qin [] n)) (K := (fun pc L S μ => none)) (cd := qcX8_end) (M := 153) (d0 := 1) rfl qcok_X8_end (Nat.le_refl _) (hcX8_end hcv) (by
    intro pc L S μ r h
    cases h) 400 (pc := 0) (L := qent [.ref a0, .int a1] 2) (S := []) h)
  · cases h
theorem gaX8_end {base : Nat} {D : va_G} {ca : Nat → ClassId} {cv : Nat → Value} (hcv : ∀ j, (cv j).category = 1) {l : List Value} {μ : qM} {r : qR} (h : aX8_end l μ = some r) : qGood false base D ca cv 2 153 l μ r := by
  unfold aX8_end at h
  split at h
  · exact gdX8_end hcv h
  · cases h
noncomputable def gX8_reads (a0 : Nat) (a1 : Int32) (μ : qM) : Option qR :=
  qbnd (oGetI μ 8 a0 4) fun v1 =>
  qbnd (oPutI μ 8 a0 4 (0 : Int32)) fun μ2 =>
  qbnd (oPutI μ2 8 a0 5 (0 : Int32)) fun μ3 =>
  qbnd (oPutI μ3 8 a0 7 (0 : Int32)) fun μ4 =>
  qbnd (oPutI μ4 8 a0 6 (if a1 < v1 then a1 else v1)) fun μ5 =>
  some (v1, 0, μ5)
noncomputable def fX8_reads (a0 : Nat) (a1 : Int32) (μ : qM) : Option qR := if (qk μ a0).1 = 8 then gX8_reads a0 a1 μ else none
noncomputable def aX8_reads (l : List Value) (μ : qM) : Option qR := match l with
  | [.ref x0, .int x1] => fX8_reads x0 x1 μ
  | _ => none
noncomputable def cfX8_reads : qF := fun n l μ => none
theorem hcX8_reads {base : Nat} {D : va_G} {ca : Nat → ClassId} {cv : Nat → Value} (hcv : ∀ j, (cv j).category = 1) : ∀ M as μ r, cfX8_reads M as μ = some r → qGood false base D ca cv 0 M as μ r := by
  intro M as μ r h
  cases h
theorem npX8_reads : (parseMethodDescriptor (qmy 154).desc).map (fun d => d.parameters.length) = some 1 := by decide +kernel
set_option maxRecDepth 100000 in
theorem gdX8_reads {base : Nat} {D : va_G} {ca : Nat → ClassId} {cv : Nat → Value} (hcv : ∀ j, (cv j).category = 1) {a0 : Nat} {a1 : Int32} {μ : qM} {r : qR} (h : fX8_reads a0 a1 μ = some r) : qGood false base D ca cv 1 154 [.ref a0, .int a1] μ r := by
  unfold fX8_reads at h
  split at h
  · rename_i hk0
    exact qgood_of (by decide) (by omega) hcv (Or.inr ⟨by decide +kernel, hk0⟩) npX8_reads rfl (Nat.le_of_ble_eq_true rfl) rfl (qblk_ev2 (cf := cfX8_reads) (st := (fun n => qin [] n)) (K := (fun pc L S μ => none)) (cd := qcX8_reads) (M := 154) (d0 := 0) rfl qcok_X8_reads (Nat.le_refl _) (hcX8_reads hcv) (by
    intro pc L S μ r h
    cases h) 400 (pc := 0) (L := qent [.ref a0, .int a1] 3) (S := []) h)
  · cases h
theorem gaX8_reads {base : Nat} {D : va_G} {ca : Nat → ClassId} {cv : Nat → Value} (hcv : ∀ j, (cv j).category = 1) {l : List Value} {μ : qM} {r : qR} (h : aX8_reads l μ = some r) : qGood false base D ca cv 1 154 l μ r := by
  unfold aX8_reads at h
  split at h
  · exact gdX8_reads hcv h
  · cases h
noncomputable def fX8_takes_15 (x0 : Nat) (s0 : Int32) (μ : qM) : Option qR :=
  qbnd (oGetI μ 8 x0 5) fun v1 =>
  qbnd (fX8_flag s0 μ) fun r2 =>
  qbnd (oPutI r2.2.2 8 x0 5 (v1 + r2.1)) fun μ3 =>
  if qnz s0 = s0 then some (s0, 0, μ3) else none
noncomputable def fX8_takes_14 (x0 : Nat) (μ : qM) : Option qR :=
  fX8_takes_15 x0 (0 : Int32) μ
noncomputable def gX8_takes (a0 : Nat) (a1 : Int32) (μ : qM) : Option qR :=
  qbnd (oGetI μ 8 a0 5) fun v1 =>
  qbnd (oGetI μ 8 a0 6) fun v2 =>
  if v2 ≤ v1 then
    fX8_takes_14 a0 μ
  else
    qbnd (oGetP μ 8 a0 3) fun v3 =>
    qbnd (oGetI μ 8 a0 5) fun v4 =>
    qbnd (oLdI 20 μ v3 v4) fun v5 =>
    if v5 = a1 then
      fX8_takes_15 a0 (1 : Int32) μ
    else
      fX8_takes_14 a0 μ
noncomputable def fX8_takes (a0 : Nat) (a1 : Int32) (μ : qM) : Option qR := if (qk μ a0).1 = 8 then gX8_takes a0 a1 μ else none
noncomputable def aX8_takes (l : List Value) (μ : qM) : Option qR := match l with
  | [.ref x0, .int x1] => fX8_takes x0 x1 μ
  | _ => none
noncomputable def cfX8_takes : qF := fun n l μ => if n = 143 then aX8_flag l μ else none
theorem hcX8_takes {base : Nat} {D : va_G} {ca : Nat → ClassId} {cv : Nat → Value} (hcv : ∀ j, (cv j).category = 1) : ∀ M as μ r, cfX8_takes M as μ = some r → qGood false base D ca cv 1 M as μ r := by
  intro M as μ r h
  unfold cfX8_takes at h
  split at h
  · rename_i e; subst e; exact (gaX8_flag hcv h).mono (by omega)
  cases h
def jX8_takes_14 (f : Nat → qM → Option qR) (L S : List Value) (μ : qM) : Option qR := match L, S with
  | [.ref x0, _, _], [] => f x0 μ
  | _, _ => none
theorem jeX8_takes_14 {base : Nat} {D : va_G} {ca : Nat → ClassId} {cv : Nat → Value} {d : Nat} {f : Nat → qM → Option qR} (hf : ∀ (x0 : Nat) (μ : qM) (r : qR), f x0 μ = some r → qEv false base D ca cv d 155 r 14 [.ref x0, .null, .null] [] μ) {L S : List Value} {μ : qM} {r : qR} (h : jX8_takes_14 f L S μ = some r) : qEv false base D ca cv d 155 r 14 L S μ := by
  unfold jX8_takes_14 at h
  split at h
  · exact (hf _ _ _ h).le rfl ⟨Or.inr rfl, Or.inl rfl, Or.inl rfl, trivial⟩
  · cases h
def jX8_takes_15 (f : Nat → Int32 → qM → Option qR) (L S : List Value) (μ : qM) : Option qR := match L, S with
  | [.ref x0, _, _], [.int s0] => f x0 s0 μ
  | _, _ => none
theorem jeX8_takes_15 {base : Nat} {D : va_G} {ca : Nat → ClassId} {cv : Nat → Value} {d : Nat} {f : Nat → Int32 → qM → Option qR} (hf : ∀ (x0 : Nat) (s0 : Int32) (μ : qM) (r : qR), f x0 s0 μ = some r → qEv false base D ca cv d 155 r 15 [.ref x0, .null, .null] [.int s0] μ) {L S : List Value} {μ : qM} {r : qR} (h : jX8_takes_15 f L S μ = some r) : qEv false base D ca cv d 155 r 15 L S μ := by
  unfold jX8_takes_15 at h
  split at h
  · exact (hf _ _ _ _ h).le rfl ⟨Or.inr rfl, Or.inl rfl, Or.inl rfl, trivial⟩
  · cases h
set_option maxRecDepth 100000 in
theorem lbX8_takes_15 {base : Nat} {D : va_G} {ca : Nat → ClassId} {cv : Nat → Value} (hcv : ∀ j, (cv j).category = 1) (x0 : Nat) (s0 : Int32) (μ : qM) (r : qR) (h : fX8_takes_15 x0 s0 μ = some r) : qEv false base D ca cv 2 155 r 15 [.ref x0, .null, .null] [.int s0] μ := by
    exact qblk_ev2 (cf := cfX8_takes) (st := (fun n => qin [14, 15] n)) (K := (fun pc L S μ => none)) (cd := qcX8_takes) (M := 155) (d0 := 1) rfl qcok_X8_takes (Nat.le_refl _) (hcX8_takes hcv) (by
    intro pc L S μ r h
    cases h) 400 (pc := 15) (L := [.ref x0, .null, .null]) (S := [.int s0]) h
set_option maxRecDepth 100000 in
theorem lbX8_takes_14 {base : Nat} {D : va_G} {ca : Nat → ClassId} {cv : Nat → Value} (hcv : ∀ j, (cv j).category = 1) (x0 : Nat) (μ : qM) (r : qR) (h : fX8_takes_14 x0 μ = some r) : qEv false base D ca cv 2 155 r 14 [.ref x0, .null, .null] [] μ := by
    exact qblk_ev2 (cf := cfX8_takes) (st := (fun n => qin [14, 15] n)) (K := (fun pc L S μ => if pc = 15 then jX8_takes_15 (fX8_takes_15) L S μ else none)) (cd := qcX8_takes) (M := 155) (d0 := 1) rfl qcok_X8_takes (Nat.le_refl _) (hcX8_takes hcv) (by
    intro pc L S μ r h
    split at h
    · rename_i e; subst e; exact jeX8_takes_15 (lbX8_takes_15 hcv) h
    cases h) 400 (pc := 14) (L := [.ref x0, .null, .null]) (S := []) h
theorem npX8_takes : (parseMethodDescriptor (qmy 155).desc).map (fun d => d.parameters.length) = some 1 := by decide +kernel
set_option maxRecDepth 100000 in
theorem gdX8_takes {base : Nat} {D : va_G} {ca : Nat → ClassId} {cv : Nat → Value} (hcv : ∀ j, (cv j).category = 1) {a0 : Nat} {a1 : Int32} {μ : qM} {r : qR} (h : fX8_takes a0 a1 μ = some r) : qGood false base D ca cv 2 155 [.ref a0, .int a1] μ r := by
  unfold fX8_takes at h
  split at h
  · rename_i hk0
    exact qgood_of (by decide) (by omega) hcv (Or.inr ⟨by decide +kernel, hk0⟩) npX8_takes rfl (Nat.le_of_ble_eq_true rfl) rfl (qblk_ev2 (cf := cfX8_takes) (st := (fun n => qin [14, 15] n)) (K := (fun pc L S μ => if pc = 14 then jX8_takes_14 (fX8_takes_14) L S μ else if pc = 15 then jX8_takes_15 (fX8_takes_15) L S μ else none)) (cd := qcX8_takes) (M := 155) (d0 := 1) rfl qcok_X8_takes (Nat.le_refl _) (hcX8_takes hcv) (by
    intro pc L S μ r h
    split at h
    · rename_i e; subst e; exact jeX8_takes_14 (lbX8_takes_14 hcv) h
    split at h
    · rename_i e; subst e; exact jeX8_takes_15 (lbX8_takes_15 hcv) h
    cases h) 400 (pc := 0) (L := qent [.ref a0, .int a1] 3) (S := []) h)
  · cases h
theorem gaX8_takes {base : Nat} {D : va_G} {ca : Nat → ClassId} {cv : Nat → Value} (hcv : ∀ j, (cv j).category = 1) {l : List Value} {μ : qM} {r : qR} (h : aX8_takes l μ = some r) : qGood false base D ca cv 2 155 l μ r := by
  unfold aX8_takes at h
  split at h
  · exact gdX8_takes hcv h
  · cases h
noncomputable def gX8_isDigit (a0 : Nat) (μ : qM) : Option qR :=
  qbnd (oGetI μ 8 a0 5) fun v1 =>
  qbnd (oGetI μ 8 a0 6) fun v2 =>
  if v2 ≤ v1 then
    if qnz (0 : Int32) = (0 : Int32) then some ((0 : Int32), 0, μ) else none
  else
    qbnd (oGetP μ 8 a0 3) fun v3 =>
    qbnd (oGetI μ 8 a0 5) fun v4 =>
    qbnd (oLdI 20 μ v3 v4) fun v5 =>
    qbnd (fX8_in (v5).toInt64 (48 : Int64) (57 : Int64) μ) fun r6 =>
    if r6.1 = 0 then
      if qnz (0 : Int32) = (0 : Int32) then some ((0 : Int32), 0, r6.2.2) else none
    else
      if qnz (1 : Int32) = (1 : Int32) then some ((1 : Int32), 0, r6.2.2) else none
noncomputable def fX8_isDigit (a0 : Nat) (μ : qM) : Option qR := if (qk μ a0).1 = 8 then gX8_isDigit a0 μ else none
noncomputable def aX8_isDigit (l : List Value) (μ : qM) : Option qR := match l with
  | [.ref x0] => fX8_isDigit x0 μ
  | _ => none
noncomputable def cfX8_isDigit : qF := fun n l μ => if n = 141 then aX8_in l μ else none
theorem hcX8_isDigit {base : Nat} {D : va_G} {ca : Nat → ClassId} {cv : Nat → Value} (hcv : ∀ j, (cv j).category = 1) : ∀ M as μ r, cfX8_isDigit M as μ = some r → qGood false base D ca cv 1 M as μ r := by
  intro M as μ r h
  unfold cfX8_isDigit at h
  split at h
  · rename_i e; subst e; exact (gaX8_in hcv h).mono (by omega)
  cases h
theorem npX8_isDigit : (parseMethodDescriptor (qmy 156).desc).map (fun d => d.parameters.length) = some 0 := by decide +kernel
set_option maxRecDepth 100000 in
theorem gdX8_isDigit {base : Nat} {D : va_G} {ca : Nat → ClassId} {cv : Nat → Value} (hcv : ∀ j, (cv j).category = 1) {a0 : Nat} {μ : qM} {r : qR} (h : fX8_isDigit a0 μ = some r) : qGood false base D ca cv 2 156 [.ref a0] μ r := by
  unfold fX8_isDigit at h
  split at h
  · rename_i hk0
    exact qgood_of (by decide) (by omega) hcv (Or.inr ⟨by decide +kernel, hk0⟩) npX8_isDigit rfl (Nat.le_of_ble_eq_true rfl) rfl (qblk_ev2 (cf := cfX8_isDigit) (st := (fun n => qin [] n)) (K := (fun pc L S μ => none)) (cd := qcX8_isDigit) (M := 156) (d0 := 1) rfl qcok_X8_isDigit (Nat.le_refl _) (hcX8_isDigit hcv) (by
    intro pc L S μ r h
    cases h) 400 (pc := 0) (L := qent [.ref a0] 1) (S := []) h)
  · cases h
theorem gaX8_isDigit {base : Nat} {D : va_G} {ca : Nat → ClassId} {cv : Nat → Value} (hcv : ∀ j, (cv j).category = 1) {l : List Value} {μ : qM} {r : qR} (h : aX8_isDigit l μ = some r) : qGood false base D ca cv 2 156 l μ r := by
  unfold aX8_isDigit at h
  split at h
  · exact gdX8_isDigit hcv h
  · cases h
noncomputable def fX8_takesOf_2 : Nat → Nat → Nat → Int32 → qM → Option qR
  | 0 => fun _ _ _ _ => none
  | n + 1 => fun x0 x1 x2 μ =>
    qbnd (fJ0_length_8abf5 x1 μ) fun r1 =>
    if r1.1 ≤ x2 then
      some ((-1 : Int32), 0, r1.2.2)
    else
      qbnd (oGetI r1.2.2 8 x0 5) fun v2 =>
      qbnd (oGetI r1.2.2 8 x0 6) fun v3 =>
      if v3 ≤ v2 then
        some ((-1 : Int32), 0, r1.2.2)
      else
        qbnd (fJ0_charAt_5068e x1 x2 r1.2.2) fun r4 =>
        qbnd (oGetP r4.2.2 8 x0 3) fun v5 =>
        qbnd (oGetI r4.2.2 8 x0 5) fun v6 =>
        qbnd (oLdI 20 r4.2.2 v5 v6) fun v7 =>
        if r4.1 = v7 then
          qbnd (oGetI r4.2.2 8 x0 5) fun v8 =>
          qbnd (oPutI r4.2.2 8 x0 5 (v8 + (1 : Int32))) fun μ9 =>
          some (x2, 0, μ9)
        else
          fX8_takesOf_2 n x0 x1 (x2 + (1 : Int32)) r4.2.2
noncomputable def gX8_takesOf (a0 : Nat) (a1 : Nat) (μ : qM) : Option qR :=
  fX8_takesOf_2 qfu a0 a1 (0 : Int32) μ
noncomputable def fX8_takesOf (a0 : Nat) (a1 : Nat) (μ : qM) : Option qR := if (qk μ a0).1 = 8 then gX8_takesOf a0 a1 μ else none
noncomputable def aX8_takesOf (l : List Value) (μ : qM) : Option qR := match l with
  | [.ref x0, .retAddr x1] => fX8_takesOf x0 x1 μ
  | _ => none
noncomputable def cfX8_takesOf : qF := fun n l μ => if n = 268 then aJ0_length_8abf5 l μ else if n = 269 then aJ0_charAt_5068e l μ else none
theorem hcX8_takesOf {base : Nat} {D : va_G} {ca : Nat → ClassId} {cv : Nat → Value} (hcv : ∀ j, (cv j).category = 1) : ∀ M as μ r, cfX8_takesOf M as μ = some r → qGood false base D ca cv 4 M as μ r := by
  intro M as μ r h
  unfold cfX8_takesOf at h
  split at h
  · rename_i e; subst e; exact (gaJ0_length_8abf5 hcv h).mono (by omega)
  split at h
  · rename_i e; subst e; exact (gaJ0_charAt_5068e hcv h).mono (by omega)
  cases h
def jX8_takesOf_2 (f : Nat → Nat → Int32 → qM → Option qR) (L S : List Value) (μ : qM) : Option qR := match L, S with
  | [.ref x0, .retAddr x1, .int x2], [] => f x0 x1 x2 μ
  | _, _ => none
theorem jeX8_takesOf_2 {base : Nat} {D : va_G} {ca : Nat → ClassId} {cv : Nat → Value} {d : Nat} {f : Nat → Nat → Int32 → qM → Option qR} (hf : ∀ (x0 : Nat) (x1 : Nat) (x2 : Int32) (μ : qM) (r : qR), f x0 x1 x2 μ = some r → qEv false base D ca cv d 157 r 2 [.ref x0, .retAddr x1, .int x2] [] μ) {L S : List Value} {μ : qM} {r : qR} (h : jX8_takesOf_2 f L S μ = some r) : qEv false base D ca cv d 157 r 2 L S μ := by
  unfold jX8_takesOf_2 at h
  split at h
  · exact (hf _ _ _ _ _ h).le rfl ⟨Or.inr rfl, Or.inr rfl, Or.inr rfl, trivial⟩
  · cases h
set_option maxRecDepth 100000 in
theorem lbX8_takesOf_2 {base : Nat} {D : va_G} {ca : Nat → ClassId} {cv : Nat → Value} (hcv : ∀ j, (cv j).category = 1) : ∀ (n : Nat) (x0 : Nat) (x1 : Nat) (x2 : Int32) (μ : qM) (r : qR), fX8_takesOf_2 n x0 x1 x2 μ = some r → qEv false base D ca cv 5 157 r 2 [.ref x0, .retAddr x1, .int x2] [] μ := by
  intro n
  induction n with
  | zero => intro x0 x1 x2 μ r h; cases (show (none : Option qR) = some r from h)
  | succ n ih =>
    intro x0 x1 x2 μ r h
    exact qblk_ev2 (cf := cfX8_takesOf) (st := (fun n => qin [2] n)) (K := (fun pc L S μ => if pc = 2 then jX8_takesOf_2 (fX8_takesOf_2 n) L S μ else none)) (cd := qcX8_takesOf) (M := 157) (d0 := 4) rfl qcok_X8_takesOf (Nat.le_refl _) (hcX8_takesOf hcv) (by
    intro pc L S μ r h
    split at h
    · rename_i e; subst e; exact jeX8_takesOf_2 ih h
    cases h) 400 (pc := 2) (L := [.ref x0, .retAddr x1, .int x2]) (S := []) h
theorem npX8_takesOf : (parseMethodDescriptor (qmy 157).desc).map (fun d => d.parameters.length) = some 1 := by decide +kernel
set_option maxRecDepth 100000 in
theorem gdX8_takesOf {base : Nat} {D : va_G} {ca : Nat → ClassId} {cv : Nat → Value} (hcv : ∀ j, (cv j).category = 1) {a0 : Nat} {a1 : Nat} {μ : qM} {r : qR} (h : fX8_takesOf a0 a1 μ = some r) : qGood false base D ca cv 5 157 [.ref a0, .retAddr a1] μ r := by
  unfold fX8_takesOf at h
  split at h
  · rename_i hk0
    exact qgood_of (by decide) (by omega) hcv (Or.inr ⟨by decide +kernel, hk0⟩) npX8_takesOf rfl (Nat.le_of_ble_eq_true rfl) rfl (qblk_ev2 (cf := cfX8_takesOf) (st := (fun n => qin [2] n)) (K := (fun pc L S μ => if pc = 2 then jX8_takesOf_2 (fX8_takesOf_2 qfu) L S μ else none)) (cd := qcX8_takesOf) (M := 157) (d0 := 4) rfl qcok_X8_takesOf (Nat.le_refl _) (hcX8_takesOf hcv) (by
    intro pc L S μ r h
    split at h
    · rename_i e; subst e; exact jeX8_takesOf_2 (lbX8_takesOf_2 hcv qfu) h
    cases h) 400 (pc := 0) (L := qent [.ref a0, .retAddr a1] 3) (S := []) h)
  · cases h
theorem gaX8_takesOf {base : Nat} {D : va_G} {ca : Nat → ClassId} {cv : Nat → Value} (hcv : ∀ j, (cv j).category = 1) {l : List Value} {μ : qM} {r : qR} (h : aX8_takesOf l μ = some r) : qGood false base D ca cv 5 157 l μ r := by
  unfold aX8_takesOf at h
  split at h
  · exact gdX8_takesOf hcv h
  · cases h
noncomputable def fX8_number_9 : Nat → Nat → Int32 → Int32 → Int32 → qM → Option qR
  | 0 => fun _ _ _ _ _ => none
  | n + 1 => fun x0 x1 x2 x3 μ =>
    if x1 ≤ x3 then
      some (x2, 0, μ)
    else
      qbnd (fX8_isDigit x0 μ) fun r1 =>
      if r1.1 = 0 then
        some (x2, 0, r1.2.2)
      else
        qbnd (oGetP r1.2.2 8 x0 3) fun v2 =>
        qbnd (oGetI r1.2.2 8 x0 5) fun v3 =>
        qbnd (oLdI 20 r1.2.2 v2 v3) fun v4 =>
        qbnd (oGetI r1.2.2 8 x0 5) fun v5 =>
        qbnd (oPutI r1.2.2 8 x0 5 (v5 + (1 : Int32))) fun μ6 =>
        fX8_number_9 n x0 x1 ((((10 : Int32) * x2) + v4) - (48 : Int32)) (x3 + (1 : Int32)) μ6
noncomputable def gX8_number (a0 : Nat) (a1 : Int32) (μ : qM) : Option qR :=
  qbnd (fX8_isDigit a0 μ) fun r1 =>
  if r1.1 = 0 then
    some ((-1 : Int32), 0, r1.2.2)
  else
    fX8_number_9 qfu a0 a1 (0 : Int32) (0 : Int32) r1.2.2
noncomputable def fX8_number (a0 : Nat) (a1 : Int32) (μ : qM) : Option qR := if (qk μ a0).1 = 8 then gX8_number a0 a1 μ else none
noncomputable def aX8_number (l : List Value) (μ : qM) : Option qR := match l with
  | [.ref x0, .int x1] => fX8_number x0 x1 μ
  | _ => none
noncomputable def cfX8_number : qF := fun n l μ => if n = 156 then aX8_isDigit l μ else none
theorem hcX8_number {base : Nat} {D : va_G} {ca : Nat → ClassId} {cv : Nat → Value} (hcv : ∀ j, (cv j).category = 1) : ∀ M as μ r, cfX8_number M as μ = some r → qGood false base D ca cv 2 M as μ r := by
  intro M as μ r h
  unfold cfX8_number at h
  split at h
  · rename_i e; subst e; exact (gaX8_isDigit hcv h).mono (by omega)
  cases h
def jX8_number_9 (f : Nat → Int32 → Int32 → Int32 → qM → Option qR) (L S : List Value) (μ : qM) : Option qR := match L, S with
  | [.ref x0, .int x1, .int x2, .int x3], [] => f x0 x1 x2 x3 μ
  | _, _ => none
theorem jeX8_number_9 {base : Nat} {D : va_G} {ca : Nat → ClassId} {cv : Nat → Value} {d : Nat} {f : Nat → Int32 → Int32 → Int32 → qM → Option qR} (hf : ∀ (x0 : Nat) (x1 : Int32) (x2 : Int32) (x3 : Int32) (μ : qM) (r : qR), f x0 x1 x2 x3 μ = some r → qEv false base D ca cv d 158 r 9 [.ref x0, .int x1, .int x2, .int x3] [] μ) {L S : List Value} {μ : qM} {r : qR} (h : jX8_number_9 f L S μ = some r) : qEv false base D ca cv d 158 r 9 L S μ := by
  unfold jX8_number_9 at h
  split at h
  · exact (hf _ _ _ _ _ _ h).le rfl ⟨Or.inr rfl, Or.inr rfl, Or.inr rfl, Or.inr rfl, trivial⟩
  · cases h
set_option maxRecDepth 100000 in
theorem lbX8_number_9 {base : Nat} {D : va_G} {ca : Nat → ClassId} {cv : Nat → Value} (hcv : ∀ j, (cv j).category = 1) : ∀ (n : Nat) (x0 : Nat) (x1 : Int32) (x2 : Int32) (x3 : Int32) (μ : qM) (r : qR), fX8_number_9 n x0 x1 x2 x3 μ = some r → qEv false base D ca cv 3 158 r 9 [.ref x0, .int x1, .int x2, .int x3] [] μ := by
  intro n
  induction n with
  | zero => intro x0 x1 x2 x3 μ r h; cases (show (none : Option qR) = some r from h)
  | succ n ih =>
    intro x0 x1 x2 x3 μ r h
    exact qblk_ev2 (cf := cfX8_number) (st := (fun n => qin [9] n)) (K := (fun pc L S μ => if pc = 9 then jX8_number_9 (fX8_number_9 n) L S μ else none)) (cd := qcX8_number) (M := 158) (d0 := 2) rfl qcok_X8_number (Nat.le_refl _) (hcX8_number hcv) (by
    intro pc L S μ r h
    split at h
    · rename_i e; subst e; exact jeX8_number_9 ih h
    cases h) 400 (pc := 9) (L := [.ref x0, .int x1, .int x2, .int x3]) (S := []) h
theorem npX8_number : (parseMethodDescriptor (qmy 158).desc).map (fun d => d.parameters.length) = some 1 := by decide +kernel
set_option maxRecDepth 100000 in
theorem gdX8_number {base : Nat} {D : va_G} {ca : Nat → ClassId} {cv : Nat → Value} (hcv : ∀ j, (cv j).category = 1) {a0 : Nat} {a1 : Int32} {μ : qM} {r : qR} (h : fX8_number a0 a1 μ = some r) : qGood false base D ca cv 3 158 [.ref a0, .int a1] μ r := by
  unfold fX8_number at h
  split at h
  · rename_i hk0
    exact qgood_of (by decide) (by omega) hcv (Or.inr ⟨by decide +kernel, hk0⟩) npX8_number rfl (Nat.le_of_ble_eq_true rfl) rfl (qblk_ev2 (cf := cfX8_number) (st := (fun n => qin [9] n)) (K := (fun pc L S μ => if pc = 9 then jX8_number_9 (fX8_number_9 qfu) L S μ else none)) (cd := qcX8_number) (M := 158) (d0 := 2) rfl qcok_X8_number (Nat.le_refl _) (hcX8_number hcv) (by
    intro pc L S μ r h
    split at h
    · rename_i e; subst e; exact jeX8_number_9 (lbX8_number_9 hcv qfu) h
    cases h) 400 (pc := 0) (L := qent [.ref a0, .int a1] 4) (S := []) h)
  · cases h
theorem gaX8_number {base : Nat} {D : va_G} {ca : Nat → ClassId} {cv : Nat → Value} (hcv : ∀ j, (cv j).category = 1) {l : List Value} {μ : qM} {r : qR} (h : aX8_number l μ = some r) : qGood false base D ca cv 3 158 l μ r := by
  unfold aX8_number at h
  split at h
  · exact gdX8_number hcv h
  · cases h
noncomputable def fX8_two_11 (x1 : Int32) (s0 : Int32) (μ : qM) : Option qR :=
  if 0 ≤ s0 then
    some ((((10 : Int32) * x1) + s0), 0, μ)
  else
    some ((-1 : Int32), 0, μ)
noncomputable def gX8_two (a0 : Nat) (μ : qM) : Option qR :=
  qbnd (fX8_number a0 (1 : Int32) μ) fun r1 =>
  if 0 ≤ r1.1 then
    qbnd (fX8_number a0 (1 : Int32) r1.2.2) fun r2 =>
    fX8_two_11 r1.1 r2.1 r2.2.2
  else
    fX8_two_11 r1.1 (-1 : Int32) r1.2.2
noncomputable def fX8_two (a0 : Nat) (μ : qM) : Option qR := if (qk μ a0).1 = 8 then gX8_two a0 μ else none
noncomputable def aX8_two (l : List Value) (μ : qM) : Option qR := match l with
  | [.ref x0] => fX8_two x0 μ
  | _ => none
noncomputable def cfX8_two : qF := fun n l μ => if n = 158 then aX8_number l μ else none
theorem hcX8_two {base : Nat} {D : va_G} {ca : Nat → ClassId} {cv : Nat → Value} (hcv : ∀ j, (cv j).category = 1) : ∀ M as μ r, cfX8_two M as μ = some r → qGood false base D ca cv 3 M as μ r := by
  intro M as μ r h
  unfold cfX8_two at h
  split at h
  · rename_i e; subst e; exact (gaX8_number hcv h).mono (by omega)
  cases h
def jX8_two_11 (f : Int32 → Int32 → qM → Option qR) (L S : List Value) (μ : qM) : Option qR := match L, S with
  | [_, .int x1, _], [.int s0] => f x1 s0 μ
  | _, _ => none
theorem jeX8_two_11 {base : Nat} {D : va_G} {ca : Nat → ClassId} {cv : Nat → Value} {d : Nat} {f : Int32 → Int32 → qM → Option qR} (hf : ∀ (x1 : Int32) (s0 : Int32) (μ : qM) (r : qR), f x1 s0 μ = some r → qEv false base D ca cv d 159 r 11 [.null, .int x1, .null] [.int s0] μ) {L S : List Value} {μ : qM} {r : qR} (h : jX8_two_11 f L S μ = some r) : qEv false base D ca cv d 159 r 11 L S μ := by
  unfold jX8_two_11 at h
  split at h
  · exact (hf _ _ _ _ h).le rfl ⟨Or.inl rfl, Or.inr rfl, Or.inl rfl, trivial⟩
  · cases h
set_option maxRecDepth 100000 in
theorem lbX8_two_11 {base : Nat} {D : va_G} {ca : Nat → ClassId} {cv : Nat → Value} (hcv : ∀ j, (cv j).category = 1) (x1 : Int32) (s0 : Int32) (μ : qM) (r : qR) (h : fX8_two_11 x1 s0 μ = some r) : qEv false base D ca cv 4 159 r 11 [.null, .int x1, .null] [.int s0] μ := by
    exact qblk_ev2 (cf := cfX8_two) (st := (fun n => qin [11] n)) (K := (fun pc L S μ => none)) (cd := qcX8_two) (M := 159) (d0 := 3) rfl qcok_X8_two (Nat.le_refl _) (hcX8_two hcv) (by
    intro pc L S μ r h
    cases h) 400 (pc := 11) (L := [.null, .int x1, .null]) (S := [.int s0]) h
theorem npX8_two : (parseMethodDescriptor (qmy 159).desc).map (fun d => d.parameters.length) = some 0 := by decide +kernel
set_option maxRecDepth 100000 in
theorem gdX8_two {base : Nat} {D : va_G} {ca : Nat → ClassId} {cv : Nat → Value} (hcv : ∀ j, (cv j).category = 1) {a0 : Nat} {μ : qM} {r : qR} (h : fX8_two a0 μ = some r) : qGood false base D ca cv 4 159 [.ref a0] μ r := by
  unfold fX8_two at h
  split at h
  · rename_i hk0
    exact qgood_of (by decide) (by omega) hcv (Or.inr ⟨by decide +kernel, hk0⟩) npX8_two rfl (Nat.le_of_ble_eq_true rfl) rfl (qblk_ev2 (cf := cfX8_two) (st := (fun n => qin [11] n)) (K := (fun pc L S μ => if pc = 11 then jX8_two_11 (fX8_two_11) L S μ else none)) (cd := qcX8_two) (M := 159) (d0 := 3) rfl qcok_X8_two (Nat.le_refl _) (hcX8_two hcv) (by
    intro pc L S μ r h
    split at h
    · rename_i e; subst e; exact jeX8_two_11 (lbX8_two_11 hcv) h
    cases h) 400 (pc := 0) (L := qent [.ref a0] 3) (S := []) h)
  · cases h
theorem gaX8_two {base : Nat} {D : va_G} {ca : Nat → ClassId} {cv : Nat → Value} (hcv : ∀ j, (cv j).category = 1) {l : List Value} {μ : qM} {r : qR} (h : aX8_two l μ = some r) : qGood false base D ca cv 4 159 l μ r := by
  unfold aX8_two at h
  split at h
  · exact gdX8_two hcv h
  · cases h
noncomputable def fX8_faultOf_24 (x0 : Nat) (x4 : Int32) (μ : qM) : Option qR :=
  if x4 = 0 then
    qbnd (oGetI μ 8 x0 5) fun v1 =>
    some (((-1 : Int32) - v1), 0, μ)
  else
    some ((0 : Int32), 0, μ)
noncomputable def fX8_faultOf_10 (x0 : Nat) (x1 : Int32) (x2 : Int32) (s0 : Int32) (μ : qM) : Option qR :=
  if x1 ≤ x2 then
    fX8_faultOf_24 x0 s0 μ
  else
    if s0 = 0 then
      qbnd (oGetI μ 8 x0 5) fun v1 =>
      if v1 < x2 then
        fX8_faultOf_24 x0 s0 μ
      else
        some (((-1 : Int32) - x2), 0, μ)
    else
      some (((-1 : Int32) - x2), 0, μ)
noncomputable def fX8_faultOf_9 (x0 : Nat) (x1 : Int32) (x2 : Int32) (μ : qM) : Option qR :=
  fX8_faultOf_10 x0 x1 x2 (0 : Int32) μ
noncomputable def gX8_faultOf (a0 : Nat) (a1 : Int32) (a2 : Int32) (a3 : Int32) (μ : qM) : Option qR :=
  if a3 = 0 then
    fX8_faultOf_9 a0 a1 a2 μ
  else
    qbnd (oGetI μ 8 a0 5) fun v1 =>
    qbnd (oGetI μ 8 a0 6) fun v2 =>
    if v1 = v2 then
      fX8_faultOf_10 a0 a1 a2 (1 : Int32) μ
    else
      fX8_faultOf_9 a0 a1 a2 μ
noncomputable def fX8_faultOf (a0 : Nat) (a1 : Int32) (a2 : Int32) (a3 : Int32) (μ : qM) : Option qR := if (qk μ a0).1 = 8 then gX8_faultOf a0 a1 a2 a3 μ else none
noncomputable def aX8_faultOf (l : List Value) (μ : qM) : Option qR := match l with
  | [.ref x0, .int x1, .int x2, .int x3] => fX8_faultOf x0 x1 x2 x3 μ
  | _ => none
noncomputable def cfX8_faultOf : qF := fun n l μ => none
theorem hcX8_faultOf {base : Nat} {D : va_G} {ca : Nat → ClassId} {cv : Nat → Value} (hcv : ∀ j, (cv j).category = 1) : ∀ M as μ r, cfX8_faultOf M as μ = some r → qGood false base D ca cv 0 M as μ r := by
  intro M as μ r h
  cases h
def jX8_faultOf_9 (f : Nat → Int32 → Int32 → qM → Option qR) (L S : List Value) (μ : qM) : Option qR := match L, S with
  | [.ref x0, .int x1, .int x2, _, _], [] => f x0 x1 x2 μ
  | _, _ => none
theorem jeX8_faultOf_9 {base : Nat} {D : va_G} {ca : Nat → ClassId} {cv : Nat → Value} {d : Nat} {f : Nat → Int32 → Int32 → qM → Option qR} (hf : ∀ (x0 : Nat) (x1 : Int32) (x2 : Int32) (μ : qM) (r : qR), f x0 x1 x2 μ = some r → qEv false base D ca cv d 160 r 9 [.ref x0, .int x1, .int x2, .null, .null] [] μ) {L S : List Value} {μ : qM} {r : qR} (h : jX8_faultOf_9 f L S μ = some r) : qEv false base D ca cv d 160 r 9 L S μ := by
  unfold jX8_faultOf_9 at h
  split at h
  · exact (hf _ _ _ _ _ h).le rfl ⟨Or.inr rfl, Or.inr rfl, Or.inr rfl, Or.inl rfl, Or.inl rfl, trivial⟩
  · cases h
def jX8_faultOf_10 (f : Nat → Int32 → Int32 → Int32 → qM → Option qR) (L S : List Value) (μ : qM) : Option qR := match L, S with
  | [.ref x0, .int x1, .int x2, _, _], [.int s0] => f x0 x1 x2 s0 μ
  | _, _ => none
theorem jeX8_faultOf_10 {base : Nat} {D : va_G} {ca : Nat → ClassId} {cv : Nat → Value} {d : Nat} {f : Nat → Int32 → Int32 → Int32 → qM → Option qR} (hf : ∀ (x0 : Nat) (x1 : Int32) (x2 : Int32) (s0 : Int32) (μ : qM) (r : qR), f x0 x1 x2 s0 μ = some r → qEv false base D ca cv d 160 r 10 [.ref x0, .int x1, .int x2, .null, .null] [.int s0] μ) {L S : List Value} {μ : qM} {r : qR} (h : jX8_faultOf_10 f L S μ = some r) : qEv false base D ca cv d 160 r 10 L S μ := by
  unfold jX8_faultOf_10 at h
  split at h
  · exact (hf _ _ _ _ _ _ h).le rfl ⟨Or.inr rfl, Or.inr rfl, Or.inr rfl, Or.inl rfl, Or.inl rfl, trivial⟩
  · cases h
def jX8_faultOf_24 (f : Nat → Int32 → qM → Option qR) (L S : List Value) (μ : qM) : Option qR := match L, S with
  | [.ref x0, _, _, _, .int x4], [] => f x0 x4 μ
  | _, _ => none
theorem jeX8_faultOf_24 {base : Nat} {D : va_G} {ca : Nat → ClassId} {cv : Nat → Value} {d : Nat} {f : Nat → Int32 → qM → Option qR} (hf : ∀ (x0 : Nat) (x4 : Int32) (μ : qM) (r : qR), f x0 x4 μ = some r → qEv false base D ca cv d 160 r 24 [.ref x0, .null, .null, .null, .int x4] [] μ) {L S : List Value} {μ : qM} {r : qR} (h : jX8_faultOf_24 f L S μ = some r) : qEv false base D ca cv d 160 r 24 L S μ := by
  unfold jX8_faultOf_24 at h
  split at h
  · exact (hf _ _ _ _ h).le rfl ⟨Or.inr rfl, Or.inl rfl, Or.inl rfl, Or.inl rfl, Or.inr rfl, trivial⟩
  · cases h
set_option maxRecDepth 100000 in
theorem lbX8_faultOf_24 {base : Nat} {D : va_G} {ca : Nat → ClassId} {cv : Nat → Value} (hcv : ∀ j, (cv j).category = 1) (x0 : Nat) (x4 : Int32) (μ : qM) (r : qR) (h : fX8_faultOf_24 x0 x4 μ = some r) : qEv false base D ca cv 1 160 r 24 [.ref x0, .null, .null, .null, .int x4] [] μ := by
    exact qblk_ev2 (cf := cfX8_faultOf) (st := (fun n => qin [9, 10, 24] n)) (K := (fun pc L S μ => none)) (cd := qcX8_faultOf) (M := 160) (d0 := 0) rfl qcok_X8_faultOf (Nat.le_refl _) (hcX8_faultOf hcv) (by
    intro pc L S μ r h
    cases h) 400 (pc := 24) (L := [.ref x0, .null, .null, .null, .int x4]) (S := []) h
set_option maxRecDepth 100000 in
theorem lbX8_faultOf_10 {base : Nat} {D : va_G} {ca : Nat → ClassId} {cv : Nat → Value} (hcv : ∀ j, (cv j).category = 1) (x0 : Nat) (x1 : Int32) (x2 : Int32) (s0 : Int32) (μ : qM) (r : qR) (h : fX8_faultOf_10 x0 x1 x2 s0 μ = some r) : qEv false base D ca cv 1 160 r 10 [.ref x0, .int x1, .int x2, .null, .null] [.int s0] μ := by
    exact qblk_ev2 (cf := cfX8_faultOf) (st := (fun n => qin [9, 10, 24] n)) (K := (fun pc L S μ => if pc = 24 then jX8_faultOf_24 (fX8_faultOf_24) L S μ else none)) (cd := qcX8_faultOf) (M := 160) (d0 := 0) rfl qcok_X8_faultOf (Nat.le_refl _) (hcX8_faultOf hcv) (by
    intro pc L S μ r h
    split at h
    · rename_i e; subst e; exact jeX8_faultOf_24 (lbX8_faultOf_24 hcv) h
    cases h) 400 (pc := 10) (L := [.ref x0, .int x1, .int x2, .null, .null]) (S := [.int s0]) h
set_option maxRecDepth 100000 in
theorem lbX8_faultOf_9 {base : Nat} {D : va_G} {ca : Nat → ClassId} {cv : Nat → Value} (hcv : ∀ j, (cv j).category = 1) (x0 : Nat) (x1 : Int32) (x2 : Int32) (μ : qM) (r : qR) (h : fX8_faultOf_9 x0 x1 x2 μ = some r) : qEv false base D ca cv 1 160 r 9 [.ref x0, .int x1, .int x2, .null, .null] [] μ := by
    exact qblk_ev2 (cf := cfX8_faultOf) (st := (fun n => qin [9, 10, 24] n)) (K := (fun pc L S μ => if pc = 10 then jX8_faultOf_10 (fX8_faultOf_10) L S μ else none)) (cd := qcX8_faultOf) (M := 160) (d0 := 0) rfl qcok_X8_faultOf (Nat.le_refl _) (hcX8_faultOf hcv) (by
    intro pc L S μ r h
    split at h
    · rename_i e; subst e; exact jeX8_faultOf_10 (lbX8_faultOf_10 hcv) h
    cases h) 400 (pc := 9) (L := [.ref x0, .int x1, .int x2, .null, .null]) (S := []) h
theorem npX8_faultOf : (parseMethodDescriptor (qmy 160).desc).map (fun d => d.parameters.length) = some 3 := by decide +kernel
set_option maxRecDepth 100000 in
theorem gdX8_faultOf {base : Nat} {D : va_G} {ca : Nat → ClassId} {cv : Nat → Value} (hcv : ∀ j, (cv j).category = 1) {a0 : Nat} {a1 : Int32} {a2 : Int32} {a3 : Int32} {μ : qM} {r : qR} (h : fX8_faultOf a0 a1 a2 a3 μ = some r) : qGood false base D ca cv 1 160 [.ref a0, .int a1, .int a2, .int a3] μ r := by
  unfold fX8_faultOf at h
  split at h
  · rename_i hk0
    exact qgood_of (by decide) (by omega) hcv (Or.inr ⟨by decide +kernel, hk0⟩) npX8_faultOf rfl (Nat.le_of_ble_eq_true rfl) rfl (qblk_ev2 (cf := cfX8_faultOf) (st := (fun n => qin [9, 10, 24] n)) (K := (fun pc L S μ => if pc = 9 then jX8_faultOf_9 (fX8_faultOf_9) L S μ else if pc = 10 then jX8_faultOf_10 (fX8_faultOf_10) L S μ else none)) (cd := qcX8_faultOf) (M := 160) (d0 := 0) rfl qcok_X8_faultOf (Nat.le_refl _) (hcX8_faultOf hcv) (by
    intro pc L S μ r h
    split at h
    · rename_i e; subst e; exact jeX8_faultOf_9 (lbX8_faultOf_9 hcv) h
    split at h
    · rename_i e; subst e; exact jeX8_faultOf_10 (lbX8_faultOf_10 hcv) h
    cases h) 400 (pc := 0) (L := qent [.ref a0, .int a1, .int a2, .int a3] 5) (S := []) h)
  · cases h
theorem gaX8_faultOf {base : Nat} {D : va_G} {ca : Nat → ClassId} {cv : Nat → Value} (hcv : ∀ j, (cv j).category = 1) {l : List Value} {μ : qM} {r : qR} (h : aX8_faultOf l μ = some r) : qGood false base D ca cv 1 160 l μ r := by
  unfold aX8_faultOf at h
  split at h
  · exact gdX8_faultOf hcv h
  · cases h
noncomputable def fX8_named_83 (x2 : Int32) (x3 : Int32) (μ : qM) : Option qR :=
  if x2 = 0 then
    if x3 = 0 then
      some ((6 : Int32), 0, μ)
    else
      some ((2 : Int32), 0, μ)
  else
    some ((3 : Int32), 0, μ)
noncomputable def fX8_named_65 (x1 : Int32) (x2 : Int32) (x3 : Int32) (x5 : Int32) (x6 : Int32) (μ : qM) : Option qR :=
  if x1 = 0 then
    some ((0 : Int32), 0, μ)
  else
    if x6 = 0 then
      if x5 = 0 then
        if x2 = 0 then
          fX8_named_83 x2 x3 μ
        else
          if x3 = 0 then
            fX8_named_83 x2 x3 μ
          else
            some ((4 : Int32), 0, μ)
      else
        some ((1 : Int32), 0, μ)
    else
      some ((5 : Int32), 0, μ)
noncomputable def fX8_named_57 (x1 : Int32) (x2 : Int32) (x3 : Int32) (x4 : Int32) (x5 : Int32) (x6 : Int32) (μ : qM) : Option qR :=
  if x2 = 0 then
    fX8_named_65 x1 x2 x3 x5 x6 μ
  else
    if x3 = 0 then
      if x4 = 0 then
        fX8_named_65 x1 x2 x3 x5 x6 μ
      else
        some ((-1 : Int32), 0, μ)
    else
      fX8_named_65 x1 x2 x3 x5 x6 μ
noncomputable def fX8_named_46 (x0 : Nat) (x1 : Int32) (x2 : Int32) (x3 : Int32) (x4 : Int32) (x5 : Int32) (s0 : Int32) (μ : qM) : Option qR :=
  qbnd (oGetI μ 8 x0 5) fun v1 =>
  if v1 < x1 then
    some ((-1 : Int32), 0, μ)
  else
    if x3 = 0 then
      fX8_named_57 x1 x2 x3 x4 x5 s0 μ
    else
      if x4 = 0 then
        if x5 = 0 then
          some ((-1 : Int32), 0, μ)
        else
          fX8_named_57 x1 x2 x3 x4 x5 s0 μ
      else
        fX8_named_57 x1 x2 x3 x4 x5 s0 μ
noncomputable def fX8_named_45 (x0 : Nat) (x1 : Int32) (x2 : Int32) (x3 : Int32) (x4 : Int32) (x5 : Int32) (μ : qM) : Option qR :=
  fX8_named_46 x0 x1 x2 x3 x4 x5 (0 : Int32) μ
noncomputable def fX8_named_32 (x0 : Nat) (x1 : Int32) (x2 : Int32) (x3 : Int32) (x4 : Int32) (s0 : Int32) (μ : qM) : Option qR :=
  if x2 = 0 then
    if x3 = 0 then
      if x4 = 0 then
        qbnd (fX8_takes x0 (85 : Int32) μ) fun r1 =>
        if r1.1 = 0 then
          fX8_named_45 x0 x1 x2 x3 x4 s0 r1.2.2
        else
          fX8_named_46 x0 x1 x2 x3 x4 s0 (1 : Int32) r1.2.2
      else
        fX8_named_45 x0 x1 x2 x3 x4 s0 μ
    else
      fX8_named_45 x0 x1 x2 x3 x4 s0 μ
  else
    fX8_named_45 x0 x1 x2 x3 x4 s0 μ
noncomputable def fX8_named_31 (x0 : Nat) (x1 : Int32) (x2 : Int32) (x3 : Int32) (x4 : Int32) (μ : qM) : Option qR :=
  fX8_named_32 x0 x1 x2 x3 x4 (0 : Int32) μ
noncomputable def gX8_named (a0 : Nat) (μ : qM) : Option qR :=
  qbnd (oPutI μ 8 a0 0 (0 : Int32)) fun μ1 =>
  qbnd (fX8_reads a0 (80 : Int32) μ1) fun r2 =>
  qbnd (fX8_takes a0 (83 : Int32) r2.2.2) fun r3 =>
  qbnd (fX8_takes a0 (73 : Int32) r3.2.2) fun r4 =>
  qbnd (fX8_takes a0 (88 : Int32) r4.2.2) fun r5 =>
  if r4.1 = 0 then
    fX8_named_31 a0 r2.1 r3.1 r4.1 r5.1 r5.2.2
  else
    if r3.1 = 0 then
      if r5.1 = 0 then
        qbnd (fX8_takes a0 (83 : Int32) r5.2.2) fun r6 =>
        if r6.1 = 0 then
          fX8_named_31 a0 r2.1 r3.1 r4.1 r5.1 r6.2.2
        else
          fX8_named_32 a0 r2.1 r3.1 r4.1 r5.1 (1 : Int32) r6.2.2
      else
        fX8_named_31 a0 r2.1 r3.1 r4.1 r5.1 r5.2.2
    else
      fX8_named_31 a0 r2.1 r3.1 r4.1 r5.1 r5.2.2
noncomputable def fX8_named (a0 : Nat) (μ : qM) : Option qR := if (qk μ a0).1 = 8 then gX8_named a0 μ else none
noncomputable def aX8_named (l : List Value) (μ : qM) : Option qR := match l with
  | [.ref x0] => fX8_named x0 μ
  | _ => none
noncomputable def cfX8_named : qF := fun n l μ => if n = 154 then aX8_reads l μ else if n = 155 then aX8_takes l μ else none
theorem hcX8_named {base : Nat} {D : va_G} {ca : Nat → ClassId} {cv : Nat → Value} (hcv : ∀ j, (cv j).category = 1) : ∀ M as μ r, cfX8_named M as μ = some r → qGood false base D ca cv 2 M as μ r := by
  intro M as μ r h
  unfold cfX8_named at h
  split at h
  · rename_i e; subst e; exact (gaX8_reads hcv h).mono (by omega)
  split at h
  · rename_i e; subst e; exact (gaX8_takes hcv h).mono (by omega)
  cases h
def jX8_named_31 (f : Nat → Int32 → Int32 → Int32 → Int32 → qM → Option qR) (L S : List Value) (μ : qM) : Option qR := match L, S with
  | [.ref x0, .int x1, .int x2, .int x3, .int x4, _, _], [] => f x0 x1 x2 x3 x4 μ
  | _, _ => none
theorem jeX8_named_31 {base : Nat} {D : va_G} {ca : Nat → ClassId} {cv : Nat → Value} {d : Nat} {f : Nat → Int32 → Int32 → Int32 → Int32 → qM → Option qR} (hf : ∀ (x0 : Nat) (x1 : Int32) (x2 : Int32) (x3 : Int32) (x4 : Int32) (μ : qM) (r : qR), f x0 x1 x2 x3 x4 μ = some r → qEv false base D ca cv d 161 r 31 [.ref x0, .int x1, .int x2, .int x3, .int x4, .null, .null] [] μ) {L S : List Value} {μ : qM} {r : qR} (h : jX8_named_31 f L S μ = some r) : qEv false base D ca cv d 161 r 31 L S μ := by
  unfold jX8_named_31 at h
  split at h
  · exact (hf _ _ _ _ _ _ _ h).le rfl ⟨Or.inr rfl, Or.inr rfl, Or.inr rfl, Or.inr rfl, Or.inr rfl, Or.inl rfl, Or.inl rfl, trivial⟩
  · cases h
def jX8_named_32 (f : Nat → Int32 → Int32 → Int32 → Int32 → Int32 → qM → Option qR) (L S : List Value) (μ : qM) : Option qR := match L, S with
  | [.ref x0, .int x1, .int x2, .int x3, .int x4, _, _], [.int s0] => f x0 x1 x2 x3 x4 s0 μ
  | _, _ => none
theorem jeX8_named_32 {base : Nat} {D : va_G} {ca : Nat → ClassId} {cv : Nat → Value} {d : Nat} {f : Nat → Int32 → Int32 → Int32 → Int32 → Int32 → qM → Option qR} (hf : ∀ (x0 : Nat) (x1 : Int32) (x2 : Int32) (x3 : Int32) (x4 : Int32) (s0 : Int32) (μ : qM) (r : qR), f x0 x1 x2 x3 x4 s0 μ = some r → qEv false base D ca cv d 161 r 32 [.ref x0, .int x1, .int x2, .int x3, .int x4, .null, .null] [.int s0] μ) {L S : List Value} {μ : qM} {r : qR} (h : jX8_named_32 f L S μ = some r) : qEv false base D ca cv d 161 r 32 L S μ := by
  unfold jX8_named_32 at h
  split at h
  · exact (hf _ _ _ _ _ _ _ _ h).le rfl ⟨Or.inr rfl, Or.inr rfl, Or.inr rfl, Or.inr rfl, Or.inr rfl, Or.inl rfl, Or.inl rfl, trivial⟩
  · cases h
def jX8_named_45 (f : Nat → Int32 → Int32 → Int32 → Int32 → Int32 → qM → Option qR) (L S : List Value) (μ : qM) : Option qR := match L, S with
  | [.ref x0, .int x1, .int x2, .int x3, .int x4, .int x5, _], [] => f x0 x1 x2 x3 x4 x5 μ
  | _, _ => none
theorem jeX8_named_45 {base : Nat} {D : va_G} {ca : Nat → ClassId} {cv : Nat → Value} {d : Nat} {f : Nat → Int32 → Int32 → Int32 → Int32 → Int32 → qM → Option qR} (hf : ∀ (x0 : Nat) (x1 : Int32) (x2 : Int32) (x3 : Int32) (x4 : Int32) (x5 : Int32) (μ : qM) (r : qR), f x0 x1 x2 x3 x4 x5 μ = some r → qEv false base D ca cv d 161 r 45 [.ref x0, .int x1, .int x2, .int x3, .int x4, .int x5, .null] [] μ) {L S : List Value} {μ : qM} {r : qR} (h : jX8_named_45 f L S μ = some r) : qEv false base D ca cv d 161 r 45 L S μ := by
  unfold jX8_named_45 at h
  split at h
  · exact (hf _ _ _ _ _ _ _ _ h).le rfl ⟨Or.inr rfl, Or.inr rfl, Or.inr rfl, Or.inr rfl, Or.inr rfl, Or.inr rfl, Or.inl rfl, trivial⟩
  · cases h
def jX8_named_46 (f : Nat → Int32 → Int32 → Int32 → Int32 → Int32 → Int32 → qM → Option qR) (L S : List Value) (μ : qM) : Option qR := match L, S with
  | [.ref x0, .int x1, .int x2, .int x3, .int x4, .int x5, _], [.int s0] => f x0 x1 x2 x3 x4 x5 s0 μ
  | _, _ => none
theorem jeX8_named_46 {base : Nat} {D : va_G} {ca : Nat → ClassId} {cv : Nat → Value} {d : Nat} {f : Nat → Int32 → Int32 → Int32 → Int32 → Int32 → Int32 → qM → Option qR} (hf : ∀ (x0 : Nat) (x1 : Int32) (x2 : Int32) (x3 : Int32) (x4 : Int32) (x5 : Int32) (s0 : Int32) (μ : qM) (r : qR), f x0 x1 x2 x3 x4 x5 s0 μ = some r → qEv false base D ca cv d 161 r 46 [.ref x0, .int x1, .int x2, .int x3, .int x4, .int x5, .null] [.int s0] μ) {L S : List Value} {μ : qM} {r : qR} (h : jX8_named_46 f L S μ = some r) : qEv false base D ca cv d 161 r 46 L S μ := by
  unfold jX8_named_46 at h
  split at h
  · exact (hf _ _ _ _ _ _ _ _ _ h).le rfl ⟨Or.inr rfl, Or.inr rfl, Or.inr rfl, Or.inr rfl, Or.inr rfl, Or.inr rfl, Or.inl rfl, trivial⟩
  · cases h
def jX8_named_57 (f : Int32 → Int32 → Int32 → Int32 → Int32 → Int32 → qM → Option qR) (L S : List Value) (μ : qM) : Option qR := match L, S with
  | [_, .int x1, .int x2, .int x3, .int x4, .int x5, .int x6], [] => f x1 x2 x3 x4 x5 x6 μ
  | _, _ => none
theorem jeX8_named_57 {base : Nat} {D : va_G} {ca : Nat → ClassId} {cv : Nat → Value} {d : Nat} {f : Int32 → Int32 → Int32 → Int32 → Int32 → Int32 → qM → Option qR} (hf : ∀ (x1 : Int32) (x2 : Int32) (x3 : Int32) (x4 : Int32) (x5 : Int32) (x6 : Int32) (μ : qM) (r : qR), f x1 x2 x3 x4 x5 x6 μ = some r → qEv false base D ca cv d 161 r 57 [.null, .int x1, .int x2, .int x3, .int x4, .int x5, .int x6] [] μ) {L S : List Value} {μ : qM} {r : qR} (h : jX8_named_57 f L S μ = some r) : qEv false base D ca cv d 161 r 57 L S μ := by
  unfold jX8_named_57 at h
  split at h
  · exact (hf _ _ _ _ _ _ _ _ h).le rfl ⟨Or.inl rfl, Or.inr rfl, Or.inr rfl, Or.inr rfl, Or.inr rfl, Or.inr rfl, Or.inr rfl, trivial⟩
  · cases h
def jX8_named_65 (f : Int32 → Int32 → Int32 → Int32 → Int32 → qM → Option qR) (L S : List Value) (μ : qM) : Option qR := match L, S with
  | [_, .int x1, .int x2, .int x3, _, .int x5, .int x6], [] => f x1 x2 x3 x5 x6 μ
  | _, _ => none
theorem jeX8_named_65 {base : Nat} {D : va_G} {ca : Nat → ClassId} {cv : Nat → Value} {d : Nat} {f : Int32 → Int32 → Int32 → Int32 → Int32 → qM → Option qR} (hf : ∀ (x1 : Int32) (x2 : Int32) (x3 : Int32) (x5 : Int32) (x6 : Int32) (μ : qM) (r : qR), f x1 x2 x3 x5 x6 μ = some r → qEv false base D ca cv d 161 r 65 [.null, .int x1, .int x2, .int x3, .null, .int x5, .int x6] [] μ) {L S : List Value} {μ : qM} {r : qR} (h : jX8_named_65 f L S μ = some r) : qEv false base D ca cv d 161 r 65 L S μ := by
  unfold jX8_named_65 at h
  split at h
  · exact (hf _ _ _ _ _ _ _ h).le rfl ⟨Or.inl rfl, Or.inr rfl, Or.inr rfl, Or.inr rfl, Or.inl rfl, Or.inr rfl, Or.inr rfl, trivial⟩
  · cases h
def jX8_named_83 (f : Int32 → Int32 → qM → Option qR) (L S : List Value) (μ : qM) : Option qR := match L, S with
  | [_, _, .int x2, .int x3, _, _, _], [] => f x2 x3 μ
  | _, _ => none
theorem jeX8_named_83 {base : Nat} {D : va_G} {ca : Nat → ClassId} {cv : Nat → Value} {d : Nat} {f : Int32 → Int32 → qM → Option qR} (hf : ∀ (x2 : Int32) (x3 : Int32) (μ : qM) (r : qR), f x2 x3 μ = some r → qEv false base D ca cv d 161 r 83 [.null, .null, .int x2, .int x3, .null, .null, .null] [] μ) {L S : List Value} {μ : qM} {r : qR} (h : jX8_named_83 f L S μ = some r) : qEv false base D ca cv d 161 r 83 L S μ := by
  unfold jX8_named_83 at h
  split at h
  · exact (hf _ _ _ _ h).le rfl ⟨Or.inl rfl, Or.inl rfl, Or.inr rfl, Or.inr rfl, Or.inl rfl, Or.inl rfl, Or.inl rfl, trivial⟩
  · cases h
set_option maxRecDepth 100000 in
theorem lbX8_named_83 {base : Nat} {D : va_G} {ca : Nat → ClassId} {cv : Nat → Value} (hcv : ∀ j, (cv j).category = 1) (x2 : Int32) (x3 : Int32) (μ : qM) (r : qR) (h : fX8_named_83 x2 x3 μ = some r) : qEv false base D ca cv 3 161 r 83 [.null, .null, .int x2, .int x3, .null, .null, .null] [] μ := by
    exact qblk_ev2 (cf := cfX8_named) (st := (fun n => qin [31, 32, 45, 46, 57, 65, 83] n)) (K := (fun pc L S μ => none)) (cd := qcX8_named) (M := 161) (d0 := 2) rfl qcok_X8_named (Nat.le_refl _) (hcX8_named hcv) (by
    intro pc L S μ r h
    cases h) 400 (pc := 83) (L := [.null, .null, .int x2, .int x3, .null, .null, .null]) (S := []) h
set_option maxRecDepth 100000 in
theorem lbX8_named_65 {base : Nat} {D : va_G} {ca : Nat → ClassId} {cv : Nat → Value} (hcv : ∀ j, (cv j).category = 1) (x1 : Int32) (x2 : Int32) (x3 : Int32) (x5 : Int32) (x6 : Int32) (μ : qM) (r : qR) (h : fX8_named_65 x1 x2 x3 x5 x6 μ = some r) : qEv false base D ca cv 3 161 r 65 [.null, .int x1, .int x2, .int x3, .null, .int x5, .int x6] [] μ := by
    exact qblk_ev2 (cf := cfX8_named) (st := (fun n => qin [31, 32, 45, 46, 57, 65, 83] n)) (K := (fun pc L S μ => if pc = 83 then jX8_named_83 (fX8_named_83) L S μ else none)) (cd := qcX8_named) (M := 161) (d0 := 2) rfl qcok_X8_named (Nat.le_refl _) (hcX8_named hcv) (by
    intro pc L S μ r h
    split at h
    · rename_i e; subst e; exact jeX8_named_83 (lbX8_named_83 hcv) h
    cases h) 400 (pc := 65) (L := [.null, .int x1, .int x2, .int x3, .null, .int x5, .int x6]) (S := []) h
set_option maxRecDepth 100000 in
theorem lbX8_named_57 {base : Nat} {D : va_G} {ca : Nat → ClassId} {cv : Nat → Value} (hcv : ∀ j, (cv j).category = 1) (x1 : Int32) (x2 : Int32) (x3 : Int32) (x4 : Int32) (x5 : Int32) (x6 : Int32) (μ : qM) (r : qR) (h : fX8_named_57 x1 x2 x3 x4 x5 x6 μ = some r) : qEv false base D ca cv 3 161 r 57 [.null, .int x1, .int x2, .int x3, .int x4, .int x5, .int x6] [] μ := by
    exact qblk_ev2 (cf := cfX8_named) (st := (fun n => qin [31, 32, 45, 46, 57, 65, 83] n)) (K := (fun pc L S μ => if pc = 65 then jX8_named_65 (fX8_named_65) L S μ else none)) (cd := qcX8_named) (M := 161) (d0 := 2) rfl qcok_X8_named (Nat.le_refl _) (hcX8_named hcv) (by
    intro pc L S μ r h
    split at h
    · rename_i e; subst e; exact jeX8_named_65 (lbX8_named_65 hcv) h
    cases h) 400 (pc := 57) (L := [.null, .int x1, .int x2, .int x3, .int x4, .int x5, .int x6]) (S := []) h
set_option maxRecDepth 100000 in
theorem lbX8_named_46 {base : Nat} {D : va_G} {ca : Nat → ClassId} {cv : Nat → Value} (hcv : ∀ j, (cv j).category = 1) (x0 : Nat) (x1 : Int32) (x2 : Int32) (x3 : Int32) (x4 : Int32) (x5 : Int32) (s0 : Int32) (μ : qM) (r : qR) (h : fX8_named_46 x0 x1 x2 x3 x4 x5 s0 μ = some r) : qEv false base D ca cv 3 161 r 46 [.ref x0, .int x1, .int x2, .int x3, .int x4, .int x5, .null] [.int s0] μ := by
    exact qblk_ev2 (cf := cfX8_named) (st := (fun n => qin [31, 32, 45, 46, 57, 65, 83] n)) (K := (fun pc L S μ => if pc = 57 then jX8_named_57 (fX8_named_57) L S μ else none)) (cd := qcX8_named) (M := 161) (d0 := 2) rfl qcok_X8_named (Nat.le_refl _) (hcX8_named hcv) (by
    intro pc L S μ r h
    split at h
    · rename_i e; subst e; exact jeX8_named_57 (lbX8_named_57 hcv) h
    cases h) 400 (pc := 46) (L := [.ref x0, .int x1, .int x2, .int x3, .int x4, .int x5, .null]) (S := [.int s0]) h
set_option maxRecDepth 100000 in
theorem lbX8_named_45 {base : Nat} {D : va_G} {ca : Nat → ClassId} {cv : Nat → Value} (hcv : ∀ j, (cv j).category = 1) (x0 : Nat) (x1 : Int32) (x2 : Int32) (x3 : Int32) (x4 : Int32) (x5 : Int32) (μ : qM) (r : qR) (h : fX8_named_45 x0 x1 x2 x3 x4 x5 μ = some r) : qEv false base D ca cv 3 161 r 45 [.ref x0, .int x1, .int x2, .int x3, .int x4, .int x5, .null] [] μ := by
    exact qblk_ev2 (cf := cfX8_named) (st := (fun n => qin [31, 32, 45, 46, 57, 65, 83] n)) (K := (fun pc L S μ => if pc = 46 then jX8_named_46 (fX8_named_46) L S μ else none)) (cd := qcX8_named) (M := 161) (d0 := 2) rfl qcok_X8_named (Nat.le_refl _) (hcX8_named hcv) (by
    intro pc L S μ r h
    split at h
    · rename_i e; subst e; exact jeX8_named_46 (lbX8_named_46 hcv) h
    cases h) 400 (pc := 45) (L := [.ref x0, .int x1, .int x2, .int x3, .int x4, .int x5, .null]) (S := []) h
set_option maxRecDepth 100000 in
theorem lbX8_named_32 {base : Nat} {D : va_G} {ca : Nat → ClassId} {cv : Nat → Value} (hcv : ∀ j, (cv j).category = 1) (x0 : Nat) (x1 : Int32) (x2 : Int32) (x3 : Int32) (x4 : Int32) (s0 : Int32) (μ : qM) (r : qR) (h : fX8_named_32 x0 x1 x2 x3 x4 s0 μ = some r) : qEv false base D ca cv 3 161 r 32 [.ref x0, .int x1, .int x2, .int x3, .int x4, .null, .null] [.int s0] μ := by
    exact qblk_ev2 (cf := cfX8_named) (st := (fun n => qin [31, 32, 45, 46, 57, 65, 83] n)) (K := (fun pc L S μ => if pc = 45 then jX8_named_45 (fX8_named_45) L S μ else if pc = 46 then jX8_named_46 (fX8_named_46) L S μ else none)) (cd := qcX8_named) (M := 161) (d0 := 2) rfl qcok_X8_named (Nat.le_refl _) (hcX8_named hcv) (by
    intro pc L S μ r h
    split at h
    · rename_i e; subst e; exact jeX8_named_45 (lbX8_named_45 hcv) h
    split at h
    · rename_i e; subst e; exact jeX8_named_46 (lbX8_named_46 hcv) h
    cases h) 400 (pc := 32) (L := [.ref x0, .int x1, .int x2, .int x3, .int x4, .null, .null]) (S := [.int s0]) h
set_option maxRecDepth 100000 in
theorem lbX8_named_31 {base : Nat} {D : va_G} {ca : Nat → ClassId} {cv : Nat → Value} (hcv : ∀ j, (cv j).category = 1) (x0 : Nat) (x1 : Int32) (x2 : Int32) (x3 : Int32) (x4 : Int32) (μ : qM) (r : qR) (h : fX8_named_31 x0 x1 x2 x3 x4 μ = some r) : qEv false base D ca cv 3 161 r 31 [.ref x0, .int x1, .int x2, .int x3, .int x4, .null, .null] [] μ := by
    exact qblk_ev2 (cf := cfX8_named) (st := (fun n => qin [31, 32, 45, 46, 57, 65, 83] n)) (K := (fun pc L S μ => if pc = 32 then jX8_named_32 (fX8_named_32) L S μ else none)) (cd := qcX8_named) (M := 161) (d0 := 2) rfl qcok_X8_named (Nat.le_refl _) (hcX8_named hcv) (by
    intro pc L S μ r h
    split at h
    · rename_i e; subst e; exact jeX8_named_32 (lbX8_named_32 hcv) h
    cases h) 400 (pc := 31) (L := [.ref x0, .int x1, .int x2, .int x3, .int x4, .null, .null]) (S := []) h
theorem npX8_named : (parseMethodDescriptor (qmy 161).desc).map (fun d => d.parameters.length) = some 0 := by decide +kernel
set_option maxRecDepth 100000 in
theorem gdX8_named {base : Nat} {D : va_G} {ca : Nat → ClassId} {cv : Nat → Value} (hcv : ∀ j, (cv j).category = 1) {a0 : Nat} {μ : qM} {r : qR} (h : fX8_named a0 μ = some r) : qGood false base D ca cv 3 161 [.ref a0] μ r := by
  unfold fX8_named at h
  split at h
  · rename_i hk0
    exact qgood_of (by decide) (by omega) hcv (Or.inr ⟨by decide +kernel, hk0⟩) npX8_named rfl (Nat.le_of_ble_eq_true rfl) rfl (qblk_ev2 (cf := cfX8_named) (st := (fun n => qin [31, 32, 45, 46, 57, 65, 83] n)) (K := (fun pc L S μ => if pc = 31 then jX8_named_31 (fX8_named_31) L S μ else if pc = 32 then jX8_named_32 (fX8_named_32) L S μ else none)) (cd := qcX8_named) (M := 161) (d0 := 2) rfl qcok_X8_named (Nat.le_refl _) (hcX8_named hcv) (by
    intro pc L S μ r h
    split at h
    · rename_i e; subst e; exact jeX8_named_31 (lbX8_named_31 hcv) h
    split at h
    · rename_i e; subst e; exact jeX8_named_32 (lbX8_named_32 hcv) h
    cases h) 400 (pc := 0) (L := qent [.ref a0] 7) (S := []) h)
  · cases h
theorem gaX8_named {base : Nat} {D : va_G} {ca : Nat → ClassId} {cv : Nat → Value} (hcv : ∀ j, (cv j).category = 1) {l : List Value} {μ : qM} {r : qR} (h : aX8_named l μ = some r) : qGood false base D ca cv 3 161 l μ r := by
  unfold aX8_named at h
  split at h
  · exact gdX8_named hcv h
  · cases h
noncomputable def gX8_codes (a0 : Nat) (a1 : Int32) (μ : qM) : Option qR :=
  qbnd (oGetP μ 8 a0 9) fun v1 =>
  qbnd (oGetI μ 8 a0 11) fun v2 =>
  qbnd (oStI 20 μ v1 v2 a1) fun μ3 =>
  qbnd (oGetI μ3 8 a0 11) fun v4 =>
  qbnd (oPutI μ3 8 a0 11 (v4 + (1 : Int32))) fun μ5 =>
  some (0, 0, μ5)
noncomputable def fX8_codes (a0 : Nat) (a1 : Int32) (μ : qM) : Option qR := if (qk μ a0).1 = 8 then gX8_codes a0 a1 μ else none
noncomputable def aX8_codes (l : List Value) (μ : qM) : Option qR := match l with
  | [.ref x0, .int x1] => fX8_codes x0 x1 μ
  | _ => none
noncomputable def cfX8_codes : qF := fun n l μ => none
theorem hcX8_codes {base : Nat} {D : va_G} {ca : Nat → ClassId} {cv : Nat → Value} (hcv : ∀ j, (cv j).category = 1) : ∀ M as μ r, cfX8_codes M as μ = some r → qGood false base D ca cv 0 M as μ r := by
  intro M as μ r h
  cases h
theorem npX8_codes : (parseMethodDescriptor (qmy 162).desc).map (fun d => d.parameters.length) = some 1 := by decide +kernel
set_option maxRecDepth 100000 in
theorem gdX8_codes {base : Nat} {D : va_G} {ca : Nat → ClassId} {cv : Nat → Value} (hcv : ∀ j, (cv j).category = 1) {a0 : Nat} {a1 : Int32} {μ : qM} {r : qR} (h : fX8_codes a0 a1 μ = some r) : qGood false base D ca cv 1 162 [.ref a0, .int a1] μ r := by
  unfold fX8_codes at h
  split at h
  · rename_i hk0
    exact qgood_of (by decide) (by omega) hcv (Or.inr ⟨by decide +kernel, hk0⟩) npX8_codes rfl (Nat.le_of_ble_eq_true rfl) rfl (qblk_ev2 (cf := cfX8_codes) (st := (fun n => qin [] n)) (K := (fun pc L S μ => none)) (cd := qcX8_codes) (M := 162) (d0 := 0) rfl qcok_X8_codes (Nat.le_refl _) (hcX8_codes hcv) (by
    intro pc L S μ r h
    cases h) 400 (pc := 0) (L := qent [.ref a0, .int a1] 2) (S := []) h)
  · cases h
theorem gaX8_codes {base : Nat} {D : va_G} {ca : Nat → ClassId} {cv : Nat → Value} (hcv : ∀ j, (cv j).category = 1) {l : List Value} {μ : qM} {r : qR} (h : aX8_codes l μ = some r) : qGood false base D ca cv 1 162 l μ r := by
  unfold aX8_codes at h
  split at h
  · exact gdX8_codes hcv h
  · cases h
noncomputable def gX8_readsThing (R : qF) (a0 : Nat) (μ : qM) : Option qR :=
  qbnd (fX8_takes a0 (45 : Int32) μ) fun r1 =>
  if r1.1 = 0 then
    qbnd (fX8_isDigit a0 r1.2.2) fun r2 =>
    if r2.1 = 0 then
      qbnd (fX8_takesOf a0 18 r2.2.2) fun r3 =>
      if r3.1 < 0 then
        qbnd (oGetI r3.2.2 8 a0 7) fun v4 =>
        if v4 = (4 : Int32) then
          if qnz (0 : Int32) = (0 : Int32) then some ((0 : Int32), 0, r3.2.2) else none
        else
          qbnd (fX8_takes a0 (40 : Int32) r3.2.2) fun r5 =>
          if r5.1 = 0 then
            if qnz (0 : Int32) = (0 : Int32) then some ((0 : Int32), 0, r5.2.2) else none
          else
            qbnd (oGetI r5.2.2 8 a0 7) fun v6 =>
            qbnd (oPutI r5.2.2 8 a0 7 (v6 + (1 : Int32))) fun μ7 =>
            qbnd (R 164 [.ref a0, .int (0 : Int32)] μ7) fun r8 =>
            if r8.1 = 0 then
              if qnz (0 : Int32) = (0 : Int32) then some ((0 : Int32), 0, r8.2.2) else none
            else
              qbnd (fX8_takes a0 (41 : Int32) r8.2.2) fun r9 =>
              if r9.1 = 0 then
                if qnz (0 : Int32) = (0 : Int32) then some ((0 : Int32), 0, r9.2.2) else none
              else
                qbnd (oGetI r9.2.2 8 a0 7) fun v10 =>
                qbnd (oPutI r9.2.2 8 a0 7 (v10 - (1 : Int32))) fun μ11 =>
                if qnz (1 : Int32) = (1 : Int32) then some ((1 : Int32), 0, μ11) else none
      else
        qbnd (fX8_codes a0 ((1000 : Int32) + r3.1) r3.2.2) fun r12 =>
        if qnz (1 : Int32) = (1 : Int32) then some ((1 : Int32), 0, r12.2.2) else none
    else
      qbnd (fX8_number a0 (3 : Int32) r2.2.2) fun r13 =>
      qbnd (fX8_codes a0 r13.1 r13.2.2) fun r14 =>
      if qnz (1 : Int32) = (1 : Int32) then some ((1 : Int32), 0, r14.2.2) else none
  else
    qbnd (R 163 [.ref a0] r1.2.2) fun r15 =>
    qbnd (fX8_codes a0 (3000 : Int32) r15.2.2) fun r16 =>
    if qnz r15.1 = r15.1 then some (r15.1, 0, r16.2.2) else none
noncomputable def fX8_readsThing (R : qF) (a0 : Nat) (μ : qM) : Option qR := if (qk μ a0).1 = 8 then gX8_readsThing R a0 μ else none
noncomputable def aX8_readsThing (R : qF) (l : List Value) (μ : qM) : Option qR := match l with
  | [.ref x0] => fX8_readsThing R x0 μ
  | _ => none
noncomputable def cfX8_readsThing (R : qF) : qF := fun n l μ => if n = 155 then aX8_takes l μ else if n = 163 then R 163 l μ else if n = 162 then aX8_codes l μ else if n = 156 then aX8_isDigit l μ else if n = 158 then aX8_number l μ else if n = 157 then aX8_takesOf l μ else if n = 164 then R 164 l μ else none
theorem hcX8_readsThing {base : Nat} {D : va_G} {ca : Nat → ClassId} {cv : Nat → Value} (hcv : ∀ j, (cv j).category = 1) {δ : Nat} {R : qF} (hδ : 10 ≤ δ) (hR : ∀ M as μ r, R M as μ = some r → qGood false base D ca cv δ M as μ r) : ∀ M as μ r, cfX8_readsThing R M as μ = some r → qGood false base D ca cv (δ + 0) M as μ r := by
  intro M as μ r h
  unfold cfX8_readsThing at h
  split at h
  · rename_i e; subst e; exact (gaX8_takes hcv h).mono (by omega)
  split at h
  · rename_i e; subst e; exact (hR _ _ _ _ h).mono (by omega)
  split at h
  · rename_i e; subst e; exact (gaX8_codes hcv h).mono (by omega)
  split at h
  · rename_i e; subst e; exact (gaX8_isDigit hcv h).mono (by omega)
  split at h
  · rename_i e; subst e; exact (gaX8_number hcv h).mono (by omega)
  split at h
  · rename_i e; subst e; exact (gaX8_takesOf hcv h).mono (by omega)
  split at h
  · rename_i e; subst e; exact (hR _ _ _ _ h).mono (by omega)
  cases h
theorem npX8_readsThing : (parseMethodDescriptor (qmy 163).desc).map (fun d => d.parameters.length) = some 0 := by decide +kernel
set_option maxRecDepth 100000 in
theorem gdX8_readsThing {base : Nat} {D : va_G} {ca : Nat → ClassId} {cv : Nat → Value} (hcv : ∀ j, (cv j).category = 1) {δ : Nat} {R : qF} (hδ : 10 ≤ δ) (hR : ∀ M as μ r, R M as μ = some r → qGood false base D ca cv δ M as μ r) {a0 : Nat} {μ : qM} {r : qR} (h : fX8_readsThing R a0 μ = some r) : qGood false base D ca cv (δ + 1) 163 [.ref a0] μ r := by
  unfold fX8_readsThing at h
  split at h
  · rename_i hk0
    exact qgood_of (by decide) (by omega) hcv (Or.inr ⟨by decide +kernel, hk0⟩) npX8_readsThing rfl (Nat.le_of_ble_eq_true rfl) rfl (qblk_ev2 (cf := cfX8_readsThing R) (st := (fun n => qin [] n)) (K := (fun pc L S μ => none)) (cd := qcX8_readsThing) (M := 163) (d0 := (δ + 0)) rfl qcok_X8_readsThing (Nat.le_refl _) (hcX8_readsThing hcv hδ hR) (by
    intro pc L S μ r h
    cases h) 400 (pc := 0) (L := qent [.ref a0] 2) (S := []) h)
  · cases h
theorem gaX8_readsThing {base : Nat} {D : va_G} {ca : Nat → ClassId} {cv : Nat → Value} (hcv : ∀ j, (cv j).category = 1) {δ : Nat} {R : qF} (hδ : 10 ≤ δ) (hR : ∀ M as μ r, R M as μ = some r → qGood false base D ca cv δ M as μ r) {l : List Value} {μ : qM} {r : qR} (h : aX8_readsThing R l μ = some r) : qGood false base D ca cv (δ + 1) 163 l μ r := by
  unfold aX8_readsThing at h
  split at h
  · exact gdX8_readsThing hcv hδ hR h
  · cases h
noncomputable def fX8_readsRank_57 (R : qF) (k16 : Nat → Int32 → Int32 → qM → Option qR) (x0 : Nat) (x1 : Int32) (s0 : Int32) (s1 : Int32) (s2 : Nat) (μ : qM) : Option qR :=
  qbnd (fX8_codes s2 (s1 + s0) μ) fun r1 =>
  if x1 ≤ 0 then
    k16 x0 x1 (0 : Int32) r1.2.2
  else
    k16 x0 x1 (1 : Int32) r1.2.2
noncomputable def fX8_readsRank_29 (R : qF) (k16 : Nat → Int32 → Int32 → qM → Option qR) (x0 : Nat) (x1 : Int32) (s0 : Nat) (s1 : Nat) (μ : qM) : Option qR :=
  qbnd (fX8_takesOf s1 s0 μ) fun r1 =>
  if 0 ≤ r1.1 then
    qbnd (R 164 [.ref x0, .int (x1 + (1 : Int32))] r1.2.2) fun r2 =>
    if r2.1 = 0 then
      if qnz (0 : Int32) = (0 : Int32) then some ((0 : Int32), 0, r2.2.2) else none
    else
      if x1 = 0 then
        fX8_readsRank_57 R k16 x0 x1 (0 : Int32) ((2000 : Int32) + r1.1) x0 r2.2.2
      else
        if x1 = (1 : Int32) then
          fX8_readsRank_57 R k16 x0 x1 (3 : Int32) ((2000 : Int32) + r1.1) x0 r2.2.2
        else
          fX8_readsRank_57 R k16 x0 x1 (5 : Int32) ((2000 : Int32) + r1.1) x0 r2.2.2
  else
    if qnz (1 : Int32) = (1 : Int32) then some ((1 : Int32), 0, r1.2.2) else none
noncomputable def fX8_readsRank_16 (R : qF) : Nat → Nat → Int32 → Int32 → qM → Option qR
  | 0 => fun _ _ _ _ => none
  | n + 1 => fun x0 x1 x2 μ =>
    if x2 = 0 then
      if qnz (1 : Int32) = (1 : Int32) then some ((1 : Int32), 0, μ) else none
    else
      if x1 = 0 then
        fX8_readsRank_29 R (fX8_readsRank_16 R n) x0 x1 19 x0 μ
      else
        if x1 = (1 : Int32) then
          fX8_readsRank_29 R (fX8_readsRank_16 R n) x0 x1 20 x0 μ
        else
          fX8_readsRank_29 R (fX8_readsRank_16 R n) x0 x1 21 x0 μ
noncomputable def gX8_readsRank (R : qF) (a0 : Nat) (a1 : Int32) (μ : qM) : Option qR :=
  if a1 = (3 : Int32) then
    qbnd (R 163 [.ref a0] μ) fun r2 =>
    if qnz r2.1 = r2.1 then some (r2.1, 0, r2.2.2) else none
  else
    qbnd (R 164 [.ref a0, .int (a1 + (1 : Int32))] μ) fun r1 =>
    if r1.1 = 0 then
      if qnz (0 : Int32) = (0 : Int32) then some ((0 : Int32), 0, r1.2.2) else none
    else
      fX8_readsRank_16 R qfu a0 a1 (1 : Int32) r1.2.2
noncomputable def fX8_readsRank (R : qF) (a0 : Nat) (a1 : Int32) (μ : qM) : Option qR := if (qk μ a0).1 = 8 then gX8_readsRank R a0 a1 μ else none
noncomputable def aX8_readsRank (R : qF) (l : List Value) (μ : qM) : Option qR := match l with
  | [.ref x0, .int x1] => fX8_readsRank R x0 x1 μ
  | _ => none
noncomputable def cfX8_readsRank (R : qF) : qF := fun n l μ => if n = 163 then R 163 l μ else if n = 164 then R 164 l μ else if n = 157 then aX8_takesOf l μ else if n = 162 then aX8_codes l μ else none
theorem hcX8_readsRank {base : Nat} {D : va_G} {ca : Nat → ClassId} {cv : Nat → Value} (hcv : ∀ j, (cv j).category = 1) {δ : Nat} {R : qF} (hδ : 10 ≤ δ) (hR : ∀ M as μ r, R M as μ = some r → qGood false base D ca cv δ M as μ r) : ∀ M as μ r, cfX8_readsRank R M as μ = some r → qGood false base D ca cv (δ + 0) M as μ r := by
  intro M as μ r h
  unfold cfX8_readsRank at h
  split at h
  · rename_i e; subst e; exact (hR _ _ _ _ h).mono (by omega)
  split at h
  · rename_i e; subst e; exact (hR _ _ _ _ h).mono (by omega)
  split at h
  · rename_i e; subst e; exact (gaX8_takesOf hcv h).mono (by omega)
  split at h
  · rename_i e; subst e; exact (gaX8_codes hcv h).mono (by omega)
  cases h
def jX8_readsRank_16 (f : Nat → Int32 → Int32 → qM → Option qR) (L S : List Value) (μ : qM) : Option qR := match L, S with
  | [.ref x0, .int x1, .int x2, _], [] => f x0 x1 x2 μ
  | _, _ => none
theorem jeX8_readsRank_16 {base : Nat} {D : va_G} {ca : Nat → ClassId} {cv : Nat → Value} {d : Nat} {f : Nat → Int32 → Int32 → qM → Option qR} (hf : ∀ (x0 : Nat) (x1 : Int32) (x2 : Int32) (μ : qM) (r : qR), f x0 x1 x2 μ = some r → qEv false base D ca cv d 164 r 16 [.ref x0, .int x1, .int x2, .null] [] μ) {L S : List Value} {μ : qM} {r : qR} (h : jX8_readsRank_16 f L S μ = some r) : qEv false base D ca cv d 164 r 16 L S μ := by
  unfold jX8_readsRank_16 at h
  split at h
  · exact (hf _ _ _ _ _ h).le rfl ⟨Or.inr rfl, Or.inr rfl, Or.inr rfl, Or.inl rfl, trivial⟩
  · cases h
def jX8_readsRank_29 (f : Nat → Int32 → Nat → Nat → qM → Option qR) (L S : List Value) (μ : qM) : Option qR := match L, S with
  | [.ref x0, .int x1, _, _], [.retAddr s0, .ref s1] => f x0 x1 s0 s1 μ
  | _, _ => none
theorem jeX8_readsRank_29 {base : Nat} {D : va_G} {ca : Nat → ClassId} {cv : Nat → Value} {d : Nat} {f : Nat → Int32 → Nat → Nat → qM → Option qR} (hf : ∀ (x0 : Nat) (x1 : Int32) (s0 : Nat) (s1 : Nat) (μ : qM) (r : qR), f x0 x1 s0 s1 μ = some r → qEv false base D ca cv d 164 r 29 [.ref x0, .int x1, .null, .null] [.retAddr s0, .ref s1] μ) {L S : List Value} {μ : qM} {r : qR} (h : jX8_readsRank_29 f L S μ = some r) : qEv false base D ca cv d 164 r 29 L S μ := by
  unfold jX8_readsRank_29 at h
  split at h
  · exact (hf _ _ _ _ _ _ h).le rfl ⟨Or.inr rfl, Or.inr rfl, Or.inl rfl, Or.inl rfl, trivial⟩
  · cases h
def jX8_readsRank_57 (f : Nat → Int32 → Int32 → Int32 → Nat → qM → Option qR) (L S : List Value) (μ : qM) : Option qR := match L, S with
  | [.ref x0, .int x1, _, _], [.int s0, .int s1, .ref s2] => f x0 x1 s0 s1 s2 μ
  | _, _ => none
theorem jeX8_readsRank_57 {base : Nat} {D : va_G} {ca : Nat → ClassId} {cv : Nat → Value} {d : Nat} {f : Nat → Int32 → Int32 → Int32 → Nat → qM → Option qR} (hf : ∀ (x0 : Nat) (x1 : Int32) (s0 : Int32) (s1 : Int32) (s2 : Nat) (μ : qM) (r : qR), f x0 x1 s0 s1 s2 μ = some r → qEv false base D ca cv d 164 r 57 [.ref x0, .int x1, .null, .null] [.int s0, .int s1, .ref s2] μ) {L S : List Value} {μ : qM} {r : qR} (h : jX8_readsRank_57 f L S μ = some r) : qEv false base D ca cv d 164 r 57 L S μ := by
  unfold jX8_readsRank_57 at h
  split at h
  · exact (hf _ _ _ _ _ _ _ h).le rfl ⟨Or.inr rfl, Or.inr rfl, Or.inl rfl, Or.inl rfl, trivial⟩
  · cases h
set_option maxRecDepth 100000 in
theorem lbX8_readsRank_57 {base : Nat} {D : va_G} {ca : Nat → ClassId} {cv : Nat → Value} (hcv : ∀ j, (cv j).category = 1) {δ : Nat} {R : qF} (hδ : 10 ≤ δ) (hR : ∀ M as μ r, R M as μ = some r → qGood false base D ca cv δ M as μ r) {k16 : Nat → Int32 → Int32 → qM → Option qR} (hk16 : ∀ (y0 : Nat) (y1 : Int32) (y2 : Int32) (μ : qM) (r : qR), k16 y0 y1 y2 μ = some r → qEv false base D ca cv (δ + 1) 164 r 16 [.ref y0, .int y1, .int y2, .null] [] μ) (x0 : Nat) (x1 : Int32) (s0 : Int32) (s1 : Int32) (s2 : Nat) (μ : qM) (r : qR) (h : fX8_readsRank_57 R k16 x0 x1 s0 s1 s2 μ = some r) : qEv false base D ca cv (δ + 1) 164 r 57 [.ref x0, .int x1, .null, .null] [.int s0, .int s1, .ref s2] μ := by
    exact qblk_ev2 (cf := cfX8_readsRank R) (st := (fun n => qin [16, 29, 57] n)) (K := (fun pc L S μ => if pc = 16 then jX8_readsRank_16 k16 L S μ else none)) (cd := qcX8_readsRank) (M := 164) (d0 := (δ + 0)) rfl qcok_X8_readsRank (Nat.le_refl _) (hcX8_readsRank hcv hδ hR) (by
    intro pc L S μ r h
    split at h
    · rename_i e; subst e; exact jeX8_readsRank_16 hk16 h
    cases h) 400 (pc := 57) (L := [.ref x0, .int x1, .null, .null]) (S := [.int s0, .int s1, .ref s2]) h
set_option maxRecDepth 100000 in
theorem lbX8_readsRank_29 {base : Nat} {D : va_G} {ca : Nat → ClassId} {cv : Nat → Value} (hcv : ∀ j, (cv j).category = 1) {δ : Nat} {R : qF} (hδ : 10 ≤ δ) (hR : ∀ M as μ r, R M as μ = some r → qGood false base D ca cv δ M as μ r) {k16 : Nat → Int32 → Int32 → qM → Option qR} (hk16 : ∀ (y0 : Nat) (y1 : Int32) (y2 : Int32) (μ : qM) (r : qR), k16 y0 y1 y2 μ = some r → qEv false base D ca cv (δ + 1) 164 r 16 [.ref y0, .int y1, .int y2, .null] [] μ) (x0 : Nat) (x1 : Int32) (s0 : Nat) (s1 : Nat) (μ : qM) (r : qR) (h : fX8_readsRank_29 R k16 x0 x1 s0 s1 μ = some r) : qEv false base D ca cv (δ + 1) 164 r 29 [.ref x0, .int x1, .null, .null] [.retAddr s0, .ref s1] μ := by
    exact qblk_ev2 (cf := cfX8_readsRank R) (st := (fun n => qin [16, 29, 57] n)) (K := (fun pc L S μ => if pc = 57 then jX8_readsRank_57 (fX8_readsRank_57 R k16) L S μ else none)) (cd := qcX8_readsRank) (M := 164) (d0 := (δ + 0)) rfl qcok_X8_readsRank (Nat.le_refl _) (hcX8_readsRank hcv hδ hR) (by
    intro pc L S μ r h
    split at h
    · rename_i e; subst e; exact jeX8_readsRank_57 (lbX8_readsRank_57 hcv hδ hR hk16) h
    cases h) 400 (pc := 29) (L := [.ref x0, .int x1, .null, .null]) (S := [.retAddr s0, .ref s1]) h
set_option maxRecDepth 100000 in
theorem lbX8_readsRank_16 {base : Nat} {D : va_G} {ca : Nat → ClassId} {cv : Nat → Value} (hcv : ∀ j, (cv j).category = 1) {δ : Nat} {R : qF} (hδ : 10 ≤ δ) (hR : ∀ M as μ r, R M as μ = some r → qGood false base D ca cv δ M as μ r) : ∀ (n : Nat) (x0 : Nat) (x1 : Int32) (x2 : Int32) (μ : qM) (r : qR), fX8_readsRank_16 R n x0 x1 x2 μ = some r → qEv false base D ca cv (δ + 1) 164 r 16 [.ref x0, .int x1, .int x2, .null] [] μ := by
  intro n
  induction n with
  | zero => intro x0 x1 x2 μ r h; cases (show (none : Option qR) = some r from h)
  | succ n ih =>
    intro x0 x1 x2 μ r h
    exact qblk_ev2 (cf := cfX8_readsRank R) (st := (fun n => qin [16, 29, 57] n)) (K := (fun pc L S μ => if pc = 29 then jX8_readsRank_29 (fX8_readsRank_29 R (fX8_readsRank_16 R n)) L S μ else none)) (cd := qcX8_readsRank) (M := 164) (d0 := (δ + 0)) rfl qcok_X8_readsRank (Nat.le_refl _) (hcX8_readsRank hcv hδ hR) (by
    intro pc L S μ r h
    split at h
    · rename_i e; subst e; exact jeX8_readsRank_29 (lbX8_readsRank_29 hcv hδ hR ih) h
    cases h) 400 (pc := 16) (L := [.ref x0, .int x1, .int x2, .null]) (S := []) h
theorem npX8_readsRank : (parseMethodDescriptor (qmy 164).desc).map (fun d => d.parameters.length) = some 1 := by decide +kernel
set_option maxRecDepth 100000 in
theorem gdX8_readsRank {base : Nat} {D : va_G} {ca : Nat → ClassId} {cv : Nat → Value} (hcv : ∀ j, (cv j).category = 1) {δ : Nat} {R : qF} (hδ : 10 ≤ δ) (hR : ∀ M as μ r, R M as μ = some r → qGood false base D ca cv δ M as μ r) {a0 : Nat} {a1 : Int32} {μ : qM} {r : qR} (h : fX8_readsRank R a0 a1 μ = some r) : qGood false base D ca cv (δ + 1) 164 [.ref a0, .int a1] μ r := by
  unfold fX8_readsRank at h
  split at h
  · rename_i hk0
    exact qgood_of (by decide) (by omega) hcv (Or.inr ⟨by decide +kernel, hk0⟩) npX8_readsRank rfl (Nat.le_of_ble_eq_true rfl) rfl (qblk_ev2 (cf := cfX8_readsRank R) (st := (fun n => qin [16, 29, 57] n)) (K := (fun pc L S μ => if pc = 16 then jX8_readsRank_16 (fX8_readsRank_16 R qfu) L S μ else none)) (cd := qcX8_readsRank) (M := 164) (d0 := (δ + 0)) rfl qcok_X8_readsRank (Nat.le_refl _) (hcX8_readsRank hcv hδ hR) (by
    intro pc L S μ r h
    split at h
    · rename_i e; subst e; exact jeX8_readsRank_16 (lbX8_readsRank_16 hcv hδ hR qfu) h
    cases h) 400 (pc := 0) (L := qent [.ref a0, .int a1] 4) (S := []) h)
  · cases h
theorem gaX8_readsRank {base : Nat} {D : va_G} {ca : Nat → ClassId} {cv : Nat → Value} (hcv : ∀ j, (cv j).category = 1) {δ : Nat} {R : qF} (hδ : 10 ≤ δ) (hR : ∀ M as μ r, R M as μ = some r → qGood false base D ca cv δ M as μ r) {l : List Value} {μ : qM} {r : qR} (h : aX8_readsRank R l μ = some r) : qGood false base D ca cv (δ + 1) 164 l μ r := by
  unfold aX8_readsRank at h
  split at h
  · exact gdX8_readsRank hcv hδ hR h
  · cases h
noncomputable def sX8_readsRank_X8_readsThing : Nat → qF
  | 0 => fun _ _ _ => none
  | n + 1 => fun m l μ => if m = 163 then aX8_readsThing (sX8_readsRank_X8_readsThing n) l μ else if m = 164 then aX8_readsRank (sX8_readsRank_X8_readsThing n) l μ else none
theorem gdsX8_readsRank_X8_readsThing {base : Nat} {D : va_G} {ca : Nat → ClassId} {cv : Nat → Value} (hcv : ∀ j, (cv j).category = 1) : ∀ n M as μ r, sX8_readsRank_X8_readsThing n M as μ = some r → qGood false base D ca cv (10 + 1 * n) M as μ r := by
  intro n
  induction n with
  | zero => intro M as μ r h; cases (show (none : Option qR) = some r from h)
  | succ n ih =>
    intro M as μ r h
    simp only [sX8_readsRank_X8_readsThing] at h
    split at h
    · rename_i e; subst e; exact (gaX8_readsThing hcv (by omega) ih h).mono (by omega)
    split at h
    · rename_i e; subst e; exact (gaX8_readsRank hcv (by omega) ih h).mono (by omega)
    cases h
theorem gssX8_readsRank_X8_readsThing_X8_readsThing {base : Nat} {D : va_G} {ca : Nat → ClassId} {cv : Nat → Value} (hcv : ∀ j, (cv j).category = 1) {l : List Value} {μ : qM} {r : qR} (h : aX8_readsThing (sX8_readsRank_X8_readsThing qdp) l μ = some r) : qGood false base D ca cv (1000 + 1) 163 l μ r := (gaX8_readsThing hcv (by omega) (gdsX8_readsRank_X8_readsThing hcv qdp) h).mono (by rw [qdp_eq]; omega)
theorem gssX8_readsRank_X8_readsThing_X8_readsRank {base : Nat} {D : va_G} {ca : Nat → ClassId} {cv : Nat → Value} (hcv : ∀ j, (cv j).category = 1) {l : List Value} {μ : qM} {r : qR} (h : aX8_readsRank (sX8_readsRank_X8_readsThing qdp) l μ = some r) : qGood false base D ca cv (1000 + 1) 164 l μ r := (gaX8_readsRank hcv (by omega) (gdsX8_readsRank_X8_readsThing hcv qdp) h).mono (by rw [qdp_eq]; omega)
noncomputable def fX8_readsRule_13 (x0 : Nat) (x1 : Int32) (μ : qM) : Option qR :=
  qbnd (fX8_faultOf x0 x1 (40 : Int32) (1 : Int32) μ) fun r1 =>
  some (r1.1, 0, r1.2.2)
noncomputable def gX8_readsRule (a0 : Nat) (μ : qM) : Option qR :=
  qbnd (fX8_reads a0 (40 : Int32) μ) fun r1 =>
  qbnd (oPutI r1.2.2 8 a0 11 (0 : Int32)) fun μ2 =>
  if r1.1 = 0 then
    fX8_readsRule_13 a0 r1.1 μ2
  else
    qbnd (fX8_readsRank (sX8_readsRank_X8_readsThing qdp) a0 (0 : Int32) μ2) fun r3 =>
    if r3.1 = 0 then
      qbnd (fX8_faultOf a0 r1.1 (40 : Int32) (0 : Int32) r3.2.2) fun r4 =>
      some (r4.1, 0, r4.2.2)
    else
      fX8_readsRule_13 a0 r1.1 r3.2.2
noncomputable def fX8_readsRule (a0 : Nat) (μ : qM) : Option qR := if (qk μ a0).1 = 8 then gX8_readsRule a0 μ else none
noncomputable def aX8_readsRule (l : List Value) (μ : qM) : Option qR := match l with
  | [.ref x0] => fX8_readsRule x0 μ
  | _ => none
noncomputable def cfX8_readsRule : qF := fun n l μ => if n = 154 then aX8_reads l μ else if n = 164 then aX8_readsRank (sX8_readsRank_X8_readsThing qdp) l μ else if n = 160 then aX8_faultOf l μ else none
theorem hcX8_readsRule {base : Nat} {D : va_G} {ca : Nat → ClassId} {cv : Nat → Value} (hcv : ∀ j, (cv j).category = 1) : ∀ M as μ r, cfX8_readsRule M as μ = some r → qGood false base D ca cv 1001 M as μ r := by
  intro M as μ r h
  unfold cfX8_readsRule at h
  split at h
  · rename_i e; subst e; exact (gaX8_reads hcv h).mono (by omega)
  split at h
  · rename_i e; subst e; exact (gssX8_readsRank_X8_readsThing_X8_readsRank hcv h).mono (by omega)
  split at h
  · rename_i e; subst e; exact (gaX8_faultOf hcv h).mono (by omega)
  cases h
def jX8_readsRule_13 (f : Nat → Int32 → qM → Option qR) (L S : List Value) (μ : qM) : Option qR := match L, S with
  | [.ref x0, .int x1, _], [] => f x0 x1 μ
  | _, _ => none
theorem jeX8_readsRule_13 {base : Nat} {D : va_G} {ca : Nat → ClassId} {cv : Nat → Value} {d : Nat} {f : Nat → Int32 → qM → Option qR} (hf : ∀ (x0 : Nat) (x1 : Int32) (μ : qM) (r : qR), f x0 x1 μ = some r → qEv false base D ca cv d 165 r 13 [.ref x0, .int x1, .null] [] μ) {L S : List Value} {μ : qM} {r : qR} (h : jX8_readsRule_13 f L S μ = some r) : qEv false base D ca cv d 165 r 13 L S μ := by
  unfold jX8_readsRule_13 at h
  split at h
  · exact (hf _ _ _ _ h).le rfl ⟨Or.inr rfl, Or.inr rfl, Or.inl rfl, trivial⟩
  · cases h
set_option maxRecDepth 100000 in
theorem lbX8_readsRule_13 {base : Nat} {D : va_G} {ca : Nat → ClassId} {cv : Nat → Value} (hcv : ∀ j, (cv j).category = 1) (x0 : Nat) (x1 : Int32) (μ : qM) (r : qR) (h : fX8_readsRule_13 x0 x1 μ = some r) : qEv false base D ca cv 1002 165 r 13 [.ref x0, .int x1, .null] [] μ := by
    exact qblk_ev2 (cf := cfX8_readsRule) (st := (fun n => qin [13] n)) (K := (fun pc L S μ => none)) (cd := qcX8_readsRule) (M := 165) (d0 := 1001) rfl qcok_X8_readsRule (Nat.le_refl _) (hcX8_readsRule hcv) (by
    intro pc L S μ r h
    cases h) 400 (pc := 13) (L := [.ref x0, .int x1, .null]) (S := []) h
theorem npX8_readsRule : (parseMethodDescriptor (qmy 165).desc).map (fun d => d.parameters.length) = some 0 := by decide +kernel
set_option maxRecDepth 100000 in
theorem gdX8_readsRule {base : Nat} {D : va_G} {ca : Nat → ClassId} {cv : Nat → Value} (hcv : ∀ j, (cv j).category = 1) {a0 : Nat} {μ : qM} {r : qR} (h : fX8_readsRule a0 μ = some r) : qGood false base D ca cv 1002 165 [.ref a0] μ r := by
  unfold fX8_readsRule at h
  split at h
  · rename_i hk0
    exact qgood_of (by decide) (by omega) hcv (Or.inr ⟨by decide +kernel, hk0⟩) npX8_readsRule rfl (Nat.le_of_ble_eq_true rfl) rfl (qblk_ev2 (cf := cfX8_readsRule) (st := (fun n => qin [13] n)) (K := (fun pc L S μ => if pc = 13 then jX8_readsRule_13 (fX8_readsRule_13) L S μ else none)) (cd := qcX8_readsRule) (M := 165) (d0 := 1001) rfl qcok_X8_readsRule (Nat.le_refl _) (hcX8_readsRule hcv) (by
    intro pc L S μ r h
    split at h
    · rename_i e; subst e; exact jeX8_readsRule_13 (lbX8_readsRule_13 hcv) h
    cases h) 400 (pc := 0) (L := qent [.ref a0] 3) (S := []) h)
  · cases h
theorem gaX8_readsRule {base : Nat} {D : va_G} {ca : Nat → ClassId} {cv : Nat → Value} (hcv : ∀ j, (cv j).category = 1) {l : List Value} {μ : qM} {r : qR} (h : aX8_readsRule l μ = some r) : qGood false base D ca cv 1002 165 l μ r := by
  unfold aX8_readsRule at h
  split at h
  · exact gdX8_readsRule hcv h
  · cases h
noncomputable def fX8_laysCode_5 : Nat → Nat → Nat → Int32 → Int32 → qM → Option qR
  | 0 => fun _ _ _ _ _ => none
  | n + 1 => fun x0 x1 x2 x3 μ =>
    if x2 ≤ x3 then
      some (0, 0, μ)
    else
      qbnd (oGetP μ 8 x0 8) fun v1 =>
      qbnd (oLdI 20 μ x1 x3) fun v2 =>
      qbnd (oStI 20 μ v1 x3 v2) fun μ3 =>
      fX8_laysCode_5 n x0 x1 x2 (x3 + (1 : Int32)) μ3
noncomputable def gX8_laysCode (a0 : Nat) (a1 : Nat) (a2 : Int32) (μ : qM) : Option qR :=
  qbnd (oPutI μ 8 a0 10 a2) fun μ1 =>
  fX8_laysCode_5 qfu a0 a1 a2 (0 : Int32) μ1
noncomputable def fX8_laysCode (a0 : Nat) (a1 : Nat) (a2 : Int32) (μ : qM) : Option qR := if (qk μ a0).1 = 8 then gX8_laysCode a0 a1 a2 μ else none
noncomputable def aX8_laysCode (l : List Value) (μ : qM) : Option qR := match l with
  | [.ref x0, .ref x1, .int x2] => fX8_laysCode x0 x1 x2 μ
  | _ => none
noncomputable def cfX8_laysCode : qF := fun n l μ => none
theorem hcX8_laysCode {base : Nat} {D : va_G} {ca : Nat → ClassId} {cv : Nat → Value} (hcv : ∀ j, (cv j).category = 1) : ∀ M as μ r, cfX8_laysCode M as μ = some r → qGood false base D ca cv 0 M as μ r := by
  intro M as μ r h
  cases h
def jX8_laysCode_5 (f : Nat → Nat → Int32 → Int32 → qM → Option qR) (L S : List Value) (μ : qM) : Option qR := match L, S with
  | [.ref x0, .ref x1, .int x2, .int x3], [] => f x0 x1 x2 x3 μ
  | _, _ => none
theorem jeX8_laysCode_5 {base : Nat} {D : va_G} {ca : Nat → ClassId} {cv : Nat → Value} {d : Nat} {f : Nat → Nat → Int32 → Int32 → qM → Option qR} (hf : ∀ (x0 : Nat) (x1 : Nat) (x2 : Int32) (x3 : Int32) (μ : qM) (r : qR), f x0 x1 x2 x3 μ = some r → qEv false base D ca cv d 166 r 5 [.ref x0, .ref x1, .int x2, .int x3] [] μ) {L S : List Value} {μ : qM} {r : qR} (h : jX8_laysCode_5 f L S μ = some r) : qEv false base D ca cv d 166 r 5 L S μ := by
  unfold jX8_laysCode_5 at h
  split at h
  · exact (hf _ _ _ _ _ _ h).le rfl ⟨Or.inr rfl, Or.inr rfl, Or.inr rfl, Or.inr rfl, trivial⟩
  · cases h
set_option maxRecDepth 100000 in
theorem lbX8_laysCode_5 {base : Nat} {D : va_G} {ca : Nat → ClassId} {cv : Nat → Value} (hcv : ∀ j, (cv j).category = 1) : ∀ (n : Nat) (x0 : Nat) (x1 : Nat) (x2 : Int32) (x3 : Int32) (μ : qM) (r : qR), fX8_laysCode_5 n x0 x1 x2 x3 μ = some r → qEv false base D ca cv 1 166 r 5 [.ref x0, .ref x1, .int x2, .int x3] [] μ := by
  intro n
  induction n with
  | zero => intro x0 x1 x2 x3 μ r h; cases (show (none : Option qR) = some r from h)
  | succ n ih =>
    intro x0 x1 x2 x3 μ r h
    exact qblk_ev2 (cf := cfX8_laysCode) (st := (fun n => qin [5] n)) (K := (fun pc L S μ => if pc = 5 then jX8_laysCode_5 (fX8_laysCode_5 n) L S μ else none)) (cd := qcX8_laysCode) (M := 166) (d0 := 0) rfl qcok_X8_laysCode (Nat.le_refl _) (hcX8_laysCode hcv) (by
    intro pc L S μ r h
    split at h
    · rename_i e; subst e; exact jeX8_laysCode_5 ih h
    cases h) 400 (pc := 5) (L := [.ref x0, .ref x1, .int x2, .int x3]) (S := []) h
theorem npX8_laysCode : (parseMethodDescriptor (qmy 166).desc).map (fun d => d.parameters.length) = some 2 := by decide +kernel
set_option maxRecDepth 100000 in
theorem gdX8_laysCode {base : Nat} {D : va_G} {ca : Nat → ClassId} {cv : Nat → Value} (hcv : ∀ j, (cv j).category = 1) {a0 : Nat} {a1 : Nat} {a2 : Int32} {μ : qM} {r : qR} (h : fX8_laysCode a0 a1 a2 μ = some r) : qGood false base D ca cv 1 166 [.ref a0, .ref a1, .int a2] μ r := by
  unfold fX8_laysCode at h
  split at h
  · rename_i hk0
    exact qgood_of (by decide) (by omega) hcv (Or.inr ⟨by decide +kernel, hk0⟩) npX8_laysCode rfl (Nat.le_of_ble_eq_true rfl) rfl (qblk_ev2 (cf := cfX8_laysCode) (st := (fun n => qin [5] n)) (K := (fun pc L S μ => if pc = 5 then jX8_laysCode_5 (fX8_laysCode_5 qfu) L S μ else none)) (cd := qcX8_laysCode) (M := 166) (d0 := 0) rfl qcok_X8_laysCode (Nat.le_refl _) (hcX8_laysCode hcv) (by
    intro pc L S μ r h
    split at h
    · rename_i e; subst e; exact jeX8_laysCode_5 (lbX8_laysCode_5 hcv qfu) h
    cases h) 400 (pc := 0) (L := qent [.ref a0, .ref a1, .int a2] 4) (S := []) h)
  · cases h
theorem gaX8_laysCode {base : Nat} {D : va_G} {ca : Nat → ClassId} {cv : Nat → Value} (hcv : ∀ j, (cv j).category = 1) {l : List Value} {μ : qM} {r : qR} (h : aX8_laysCode l μ = some r) : qGood false base D ca cv 1 166 l μ r := by
  unfold aX8_laysCode at h
  split at h
  · exact gdX8_laysCode hcv h
  · cases h
noncomputable def gX8_rule (a0 : Nat) (μ : qM) : Option qR :=
  qbnd (oPutI μ 8 a0 0 (0 : Int32)) fun μ1 =>
  qbnd (fX8_readsRule a0 μ1) fun r2 =>
  if r2.1 = 0 then
    qbnd (oGetP r2.2.2 8 a0 9) fun v3 =>
    qbnd (oGetI r2.2.2 8 a0 11) fun v4 =>
    qbnd (fX8_laysCode a0 v3 v4 r2.2.2) fun r5 =>
    some (r2.1, 0, r5.2.2)
  else
    some (r2.1, 0, r2.2.2)
noncomputable def fX8_rule (a0 : Nat) (μ : qM) : Option qR := if (qk μ a0).1 = 8 then gX8_rule a0 μ else none
noncomputable def aX8_rule (l : List Value) (μ : qM) : Option qR := match l with
  | [.ref x0] => fX8_rule x0 μ
  | _ => none
noncomputable def cfX8_rule : qF := fun n l μ => if n = 165 then aX8_readsRule l μ else if n = 166 then aX8_laysCode l μ else none
theorem hcX8_rule {base : Nat} {D : va_G} {ca : Nat → ClassId} {cv : Nat → Value} (hcv : ∀ j, (cv j).category = 1) : ∀ M as μ r, cfX8_rule M as μ = some r → qGood false base D ca cv 1002 M as μ r := by
  intro M as μ r h
  unfold cfX8_rule at h
  split at h
  · rename_i e; subst e; exact (gaX8_readsRule hcv h).mono (by omega)
  split at h
  · rename_i e; subst e; exact (gaX8_laysCode hcv h).mono (by omega)
  cases h
theorem npX8_rule : (parseMethodDescriptor (qmy 167).desc).map (fun d => d.parameters.length) = some 0 := by decide +kernel
set_option maxRecDepth 100000 in
theorem gdX8_rule {base : Nat} {D : va_G} {ca : Nat → ClassId} {cv : Nat → Value} (hcv : ∀ j, (cv j).category = 1) {a0 : Nat} {μ : qM} {r : qR} (h : fX8_rule a0 μ = some r) : qGood false base D ca cv 1003 167 [.ref a0] μ r := by
  unfold fX8_rule at h
  split at h
  · rename_i hk0
    exact qgood_of (by decide) (by omega) hcv (Or.inr ⟨by decide +kernel, hk0⟩) npX8_rule rfl (Nat.le_of_ble_eq_true rfl) rfl (qblk_ev2 (cf := cfX8_rule) (st := (fun n => qin [] n)) (K := (fun pc L S μ => none)) (cd := qcX8_rule) (M := 167) (d0 := 1002) rfl qcok_X8_rule (Nat.le_refl _) (hcX8_rule hcv) (by
    intro pc L S μ r h
    cases h) 400 (pc := 0) (L := qent [.ref a0] 2) (S := []) h)
  · cases h
theorem gaX8_rule {base : Nat} {D : va_G} {ca : Nat → ClassId} {cv : Nat → Value} (hcv : ∀ j, (cv j).category = 1) {l : List Value} {μ : qM} {r : qR} (h : aX8_rule l μ = some r) : qGood false base D ca cv 1003 167 l μ r := by
  unfold aX8_rule at h
  split at h
  · exact gdX8_rule hcv h
  · cases h
noncomputable def fX8_worked (a0 : Int32) (a1 : Int32) (a2 : Int32) (μ : qM) : Option qR :=
  if a0 = (0 : Int32) then
    if a2 ≤ a1 then
      qbnd (fX8_flag (0 : Int32) μ) fun r1 =>
      some (r1.1, 0, r1.2.2)
    else
      qbnd (fX8_flag (1 : Int32) μ) fun r2 =>
      some (r2.1, 0, r2.2.2)
  else
  if a0 = (1 : Int32) then
    if a1 ≤ a2 then
      qbnd (fX8_flag (0 : Int32) μ) fun r3 =>
      some (r3.1, 0, r3.2.2)
    else
      qbnd (fX8_flag (1 : Int32) μ) fun r4 =>
      some (r4.1, 0, r4.2.2)
  else
  if a0 = (2 : Int32) then
    if a1 = a2 then
      qbnd (fX8_flag (1 : Int32) μ) fun r6 =>
      some (r6.1, 0, r6.2.2)
    else
      qbnd (fX8_flag (0 : Int32) μ) fun r5 =>
      some (r5.1, 0, r5.2.2)
  else
  if a0 = (3 : Int32) then
    some ((a1 + a2), 0, μ)
  else
  if a0 = (4 : Int32) then
    some ((a1 - a2), 0, μ)
  else
  if a0 = (5 : Int32) then
    some ((a1 * a2), 0, μ)
  else
    if a2 = 0 then
      some ((0 : Int32), 0, μ)
    else
      if a2 = 0 then none else
      some ((a1 / a2), 0, μ)
noncomputable def aX8_worked (l : List Value) (μ : qM) : Option qR := match l with
  | [.int x0, .int x1, .int x2] => fX8_worked x0 x1 x2 μ
  | _ => none
noncomputable def cfX8_worked : qF := fun n l μ => if n = 143 then aX8_flag l μ else none
theorem hcX8_worked {base : Nat} {D : va_G} {ca : Nat → ClassId} {cv : Nat → Value} (hcv : ∀ j, (cv j).category = 1) : ∀ M as μ r, cfX8_worked M as μ = some r → qGood false base D ca cv 1 M as μ r := by
  intro M as μ r h
  unfold cfX8_worked at h
  split at h
  · rename_i e; subst e; exact (gaX8_flag hcv h).mono (by omega)
  cases h
theorem npX8_worked : (parseMethodDescriptor (qmy 168).desc).map (fun d => d.parameters.length) = some 3 := by decide +kernel
set_option maxRecDepth 100000 in
theorem gdX8_worked {base : Nat} {D : va_G} {ca : Nat → ClassId} {cv : Nat → Value} (hcv : ∀ j, (cv j).category = 1) {a0 : Int32} {a1 : Int32} {a2 : Int32} {μ : qM} {r : qR} (h : fX8_worked a0 a1 a2 μ = some r) : qGood false base D ca cv 2 168 [.int a0, .int a1, .int a2] μ r := by
  exact qgood_of (by decide) (by omega) hcv (Or.inl rfl) npX8_worked rfl (Nat.le_of_ble_eq_true rfl) rfl (qblk_ev2 (cf := cfX8_worked) (st := (fun n => qin [] n)) (K := (fun pc L S μ => none)) (cd := qcX8_worked) (M := 168) (d0 := 1) rfl qcok_X8_worked (Nat.le_refl _) (hcX8_worked hcv) (by
    intro pc L S μ r h
    cases h) 400 (pc := 0) (L := qent [.int a0, .int a1, .int a2] 3) (S := []) h)
theorem gaX8_worked {base : Nat} {D : va_G} {ca : Nat → ClassId} {cv : Nat → Value} (hcv : ∀ j, (cv j).category = 1) {l : List Value} {μ : qM} {r : qR} (h : aX8_worked l μ = some r) : qGood false base D ca cv 2 168 l μ r := by
  unfold aX8_worked at h
  split at h
  · exact gdX8_worked hcv h
  · cases h
noncomputable def fX8_ruled_4 : Nat → Nat → Int32 → Int32 → qM → Option qR
  | 0 => fun _ _ _ _ => none
  | n + 1 => fun x0 x1 x2 μ =>
    qbnd (oGetI μ 8 x0 10) fun v1 =>
    if v1 ≤ x2 then
      qbnd (oGetI μ 8 x0 10) fun v2 =>
      if v2 = 0 then
        qbnd (oGetP μ 8 x0 13) fun v5 =>
        qbnd (oLdI 20 μ v5 (0 : Int32)) fun v6 =>
        qbnd (oGetP μ 8 x0 13) fun v7 =>
        qbnd (oLdI 20 μ v7 (1 : Int32)) fun v8 =>
        some ((v6 + v8), 0, μ)
      else
        qbnd (oGetP μ 8 x0 12) fun v3 =>
        qbnd (oLdI 20 μ v3 (0 : Int32)) fun v4 =>
        some (v4, 0, μ)
    else
      qbnd (oGetP μ 8 x0 8) fun v9 =>
      qbnd (oLdI 20 μ v9 x2) fun v10 =>
      if v10 = (3000 : Int32) then
        qbnd (oGetP μ 8 x0 12) fun v23 =>
        qbnd (oGetP μ 8 x0 12) fun v24 =>
        qbnd (oLdI 20 μ v24 (x1 - (1 : Int32))) fun v25 =>
        qbnd (oStI 20 μ v23 (x1 - (1 : Int32)) (-v25)) fun μ26 =>
        fX8_ruled_4 n x0 x1 (x2 + (1 : Int32)) μ26
      else
        if v10 < (2000 : Int32) then
          qbnd (oGetP μ 8 x0 12) fun v11 =>
          if v10 < (1000 : Int32) then
            qbnd (oStI 20 μ v11 x1 v10) fun μ12 =>
            fX8_ruled_4 n x0 (x1 + (1 : Int32)) (x2 + (1 : Int32)) μ12
          else
            qbnd (oGetP μ 8 x0 13) fun v13 =>
            qbnd (oLdI 20 μ v13 (v10 - (1000 : Int32))) fun v14 =>
            qbnd (oStI 20 μ v11 x1 v14) fun μ15 =>
            fX8_ruled_4 n x0 (x1 + (1 : Int32)) (x2 + (1 : Int32)) μ15
        else
          qbnd (oGetP μ 8 x0 12) fun v16 =>
          qbnd (oGetP μ 8 x0 12) fun v17 =>
          qbnd (oLdI 20 μ v17 ((x1 + (-1 : Int32)) - (1 : Int32))) fun v18 =>
          qbnd (oGetP μ 8 x0 12) fun v19 =>
          qbnd (oLdI 20 μ v19 (x1 + (-1 : Int32))) fun v20 =>
          qbnd (fX8_worked (v10 - (2000 : Int32)) v18 v20 μ) fun r21 =>
          qbnd (oStI 20 r21.2.2 v16 ((x1 + (-1 : Int32)) - (1 : Int32)) r21.1) fun μ22 =>
          fX8_ruled_4 n x0 (x1 + (-1 : Int32)) (x2 + (1 : Int32)) μ22
noncomputable def gX8_ruled (a0 : Nat) (μ : qM) : Option qR :=
  fX8_ruled_4 qfu a0 (0 : Int32) (0 : Int32) μ
noncomputable def fX8_ruled (a0 : Nat) (μ : qM) : Option qR := if (qk μ a0).1 = 8 then gX8_ruled a0 μ else none
noncomputable def aX8_ruled (l : List Value) (μ : qM) : Option qR := match l with
  | [.ref x0] => fX8_ruled x0 μ
  | _ => none
noncomputable def cfX8_ruled : qF := fun n l μ => if n = 168 then aX8_worked l μ else none
theorem hcX8_ruled {base : Nat} {D : va_G} {ca : Nat → ClassId} {cv : Nat → Value} (hcv : ∀ j, (cv j).category = 1) : ∀ M as μ r, cfX8_ruled M as μ = some r → qGood false base D ca cv 2 M as μ r := by
  intro M as μ r h
  unfold cfX8_ruled at h
  split at h
  · rename_i e; subst e; exact (gaX8_worked hcv h).mono (by omega)
  cases h
def jX8_ruled_4 (f : Nat → Int32 → Int32 → qM → Option qR) (L S : List Value) (μ : qM) : Option qR := match L, S with
  | [.ref x0, .int x1, .int x2, _], [] => f x0 x1 x2 μ
  | _, _ => none
theorem jeX8_ruled_4 {base : Nat} {D : va_G} {ca : Nat → ClassId} {cv : Nat → Value} {d : Nat} {f : Nat → Int32 → Int32 → qM → Option qR} (hf : ∀ (x0 : Nat) (x1 : Int32) (x2 : Int32) (μ : qM) (r : qR), f x0 x1 x2 μ = some r → qEv false base D ca cv d 169 r 4 [.ref x0, .int x1, .int x2, .null] [] μ) {L S : List Value} {μ : qM} {r : qR} (h : jX8_ruled_4 f L S μ = some r) : qEv false base D ca cv d 169 r 4 L S μ := by
  unfold jX8_ruled_4 at h
  split at h
  · exact (hf _ _ _ _ _ h).le rfl ⟨Or.inr rfl, Or.inr rfl, Or.inr rfl, Or.inl rfl, trivial⟩
  · cases h
set_option maxRecDepth 100000 in
theorem lbX8_ruled_4 {base : Nat} {D : va_G} {ca : Nat → ClassId} {cv : Nat → Value} (hcv : ∀ j, (cv j).category = 1) : ∀ (n : Nat) (x0 : Nat) (x1 : Int32) (x2 : Int32) (μ : qM) (r : qR), fX8_ruled_4 n x0 x1 x2 μ = some r → qEv false base D ca cv 3 169 r 4 [.ref x0, .int x1, .int x2, .null] [] μ := by
  intro n
  induction n with
  | zero => intro x0 x1 x2 μ r h; cases (show (none : Option qR) = some r from h)
  | succ n ih =>
    intro x0 x1 x2 μ r h
    exact qblk_ev2 (cf := cfX8_ruled) (st := (fun n => qin [4] n)) (K := (fun pc L S μ => if pc = 4 then jX8_ruled_4 (fX8_ruled_4 n) L S μ else none)) (cd := qcX8_ruled) (M := 169) (d0 := 2) rfl qcok_X8_ruled (Nat.le_refl _) (hcX8_ruled hcv) (by
    intro pc L S μ r h
    split at h
    · rename_i e; subst e; exact jeX8_ruled_4 ih h
    cases h) 400 (pc := 4) (L := [.ref x0, .int x1, .int x2, .null]) (S := []) h
theorem npX8_ruled : (parseMethodDescriptor (qmy 169).desc).map (fun d => d.parameters.length) = some 0 := by decide +kernel
set_option maxRecDepth 100000 in
theorem gdX8_ruled {base : Nat} {D : va_G} {ca : Nat → ClassId} {cv : Nat → Value} (hcv : ∀ j, (cv j).category = 1) {a0 : Nat} {μ : qM} {r : qR} (h : fX8_ruled a0 μ = some r) : qGood false base D ca cv 3 169 [.ref a0] μ r := by
  unfold fX8_ruled at h
  split at h
  · rename_i hk0
    exact qgood_of (by decide) (by omega) hcv (Or.inr ⟨by decide +kernel, hk0⟩) npX8_ruled rfl (Nat.le_of_ble_eq_true rfl) rfl (qblk_ev2 (cf := cfX8_ruled) (st := (fun n => qin [4] n)) (K := (fun pc L S μ => if pc = 4 then jX8_ruled_4 (fX8_ruled_4 qfu) L S μ else none)) (cd := qcX8_ruled) (M := 169) (d0 := 2) rfl qcok_X8_ruled (Nat.le_refl _) (hcX8_ruled hcv) (by
    intro pc L S μ r h
    split at h
    · rename_i e; subst e; exact jeX8_ruled_4 (lbX8_ruled_4 hcv qfu) h
    cases h) 400 (pc := 0) (L := qent [.ref a0] 4) (S := []) h)
  · cases h
theorem gaX8_ruled {base : Nat} {D : va_G} {ca : Nat → ClassId} {cv : Nat → Value} (hcv : ∀ j, (cv j).category = 1) {l : List Value} {μ : qM} {r : qR} (h : aX8_ruled l μ = some r) : qGood false base D ca cv 3 169 l μ r := by
  unfold aX8_ruled at h
  split at h
  · exact gdX8_ruled hcv h
  · cases h
noncomputable def fX8_isOwner (a0 : Int32) (μ : qM) : Option qR :=
  qbnd (fX8_in (a0).toInt64 (0 : Int64) (7 : Int64) μ) fun r1 =>
  if qnz r1.1 = r1.1 then some (r1.1, 0, r1.2.2) else none
noncomputable def aX8_isOwner (l : List Value) (μ : qM) : Option qR := match l with
  | [.int x0] => fX8_isOwner x0 μ
  | _ => none
noncomputable def cfX8_isOwner : qF := fun n l μ => if n = 141 then aX8_in l μ else none
theorem hcX8_isOwner {base : Nat} {D : va_G} {ca : Nat → ClassId} {cv : Nat → Value} (hcv : ∀ j, (cv j).category = 1) : ∀ M as μ r, cfX8_isOwner M as μ = some r → qGood false base D ca cv 1 M as μ r := by
  intro M as μ r h
  unfold cfX8_isOwner at h
  split at h
  · rename_i e; subst e; exact (gaX8_in hcv h).mono (by omega)
  cases h
theorem npX8_isOwner : (parseMethodDescriptor (qmy 171).desc).map (fun d => d.parameters.length) = some 1 := by decide +kernel
set_option maxRecDepth 100000 in
theorem gdX8_isOwner {base : Nat} {D : va_G} {ca : Nat → ClassId} {cv : Nat → Value} (hcv : ∀ j, (cv j).category = 1) {a0 : Int32} {μ : qM} {r : qR} (h : fX8_isOwner a0 μ = some r) : qGood false base D ca cv 2 171 [.int a0] μ r := by
  exact qgood_of (by decide) (by omega) hcv (Or.inl rfl) npX8_isOwner rfl (Nat.le_of_ble_eq_true rfl) rfl (qblk_ev2 (cf := cfX8_isOwner) (st := (fun n => qin [] n)) (K := (fun pc L S μ => none)) (cd := qcX8_isOwner) (M := 171) (d0 := 1) rfl qcok_X8_isOwner (Nat.le_refl _) (hcX8_isOwner hcv) (by
    intro pc L S μ r h
    cases h) 400 (pc := 0) (L := qent [.int a0] 1) (S := []) h)
theorem gaX8_isOwner {base : Nat} {D : va_G} {ca : Nat → ClassId} {cv : Nat → Value} (hcv : ∀ j, (cv j).category = 1) {l : List Value} {μ : qM} {r : qR} (h : aX8_isOwner l μ = some r) : qGood false base D ca cv 2 171 l μ r := by
  unfold aX8_isOwner at h
  split at h
  · exact gdX8_isOwner hcv h
  · cases h
noncomputable def fX8_held (a0 : Nat) (a1 : Int32) (a2 : Int32) (μ : qM) : Option qR :=
  qbnd (oLdI 20 μ a0 (((85 : Int32) * a1) + a2)) fun v1 =>
  some (v1, 0, μ)
noncomputable def aX8_held (l : List Value) (μ : qM) : Option qR := match l with
  | [.ref x0, .int x1, .int x2] => fX8_held x0 x1 x2 μ
  | _ => none
noncomputable def cfX8_held : qF := fun n l μ => none
theorem hcX8_held {base : Nat} {D : va_G} {ca : Nat → ClassId} {cv : Nat → Value} (hcv : ∀ j, (cv j).category = 1) : ∀ M as μ r, cfX8_held M as μ = some r → qGood false base D ca cv 0 M as μ r := by
  intro M as μ r h
  cases h
theorem npX8_held : (parseMethodDescriptor (qmy 172).desc).map (fun d => d.parameters.length) = some 3 := by decide +kernel
set_option maxRecDepth 100000 in
theorem gdX8_held {base : Nat} {D : va_G} {ca : Nat → ClassId} {cv : Nat → Value} (hcv : ∀ j, (cv j).category = 1) {a0 : Nat} {a1 : Int32} {a2 : Int32} {μ : qM} {r : qR} (h : fX8_held a0 a1 a2 μ = some r) : qGood false base D ca cv 1 172 [.ref a0, .int a1, .int a2] μ r := by
  exact qgood_of (by decide) (by omega) hcv (Or.inl rfl) npX8_held rfl (Nat.le_of_ble_eq_true rfl) rfl (qblk_ev2 (cf := cfX8_held) (st := (fun n => qin [] n)) (K := (fun pc L S μ => none)) (cd := qcX8_held) (M := 172) (d0 := 0) rfl qcok_X8_held (Nat.le_refl _) (hcX8_held hcv) (by
    intro pc L S μ r h
    cases h) 400 (pc := 0) (L := qent [.ref a0, .int a1, .int a2] 3) (S := []) h)
theorem gaX8_held {base : Nat} {D : va_G} {ca : Nat → ClassId} {cv : Nat → Value} (hcv : ∀ j, (cv j).category = 1) {l : List Value} {μ : qM} {r : qR} (h : aX8_held l μ = some r) : qGood false base D ca cv 1 172 l μ r := by
  unfold aX8_held at h
  split at h
  · exact gdX8_held hcv h
  · cases h
noncomputable def fX8_heldMany_4 : Nat → Nat → Int32 → Int32 → Int32 → qM → Option qR
  | 0 => fun _ _ _ _ _ => none
  | n + 1 => fun x0 x1 x2 x3 μ =>
    if (85 : Int32) ≤ x3 then
      some (x2, 0, μ)
    else
      qbnd (fX8_held x0 x1 x3 μ) fun r1 =>
      if r1.1 ≤ 0 then
        qbnd (fX8_flag (0 : Int32) r1.2.2) fun r2 =>
        fX8_heldMany_4 n x0 x1 (x2 + r2.1) (x3 + (1 : Int32)) r2.2.2
      else
        qbnd (fX8_flag (1 : Int32) r1.2.2) fun r3 =>
        fX8_heldMany_4 n x0 x1 (x2 + r3.1) (x3 + (1 : Int32)) r3.2.2
noncomputable def fX8_heldMany (a0 : Nat) (a1 : Int32) (μ : qM) : Option qR :=
  fX8_heldMany_4 qfu a0 a1 (0 : Int32) (0 : Int32) μ
noncomputable def aX8_heldMany (l : List Value) (μ : qM) : Option qR := match l with
  | [.ref x0, .int x1] => fX8_heldMany x0 x1 μ
  | _ => none
noncomputable def cfX8_heldMany : qF := fun n l μ => if n = 172 then aX8_held l μ else if n = 143 then aX8_flag l μ else none
theorem hcX8_heldMany {base : Nat} {D : va_G} {ca : Nat → ClassId} {cv : Nat → Value} (hcv : ∀ j, (cv j).category = 1) : ∀ M as μ r, cfX8_heldMany M as μ = some r → qGood false base D ca cv 1 M as μ r := by
  intro M as μ r h
  unfold cfX8_heldMany at h
  split at h
  · rename_i e; subst e; exact (gaX8_held hcv h).mono (by omega)
  split at h
  · rename_i e; subst e; exact (gaX8_flag hcv h).mono (by omega)
  cases h
def jX8_heldMany_4 (f : Nat → Int32 → Int32 → Int32 → qM → Option qR) (L S : List Value) (μ : qM) : Option qR := match L, S with
  | [.ref x0, .int x1, .int x2, .int x3], [] => f x0 x1 x2 x3 μ
  | _, _ => none
theorem jeX8_heldMany_4 {base : Nat} {D : va_G} {ca : Nat → ClassId} {cv : Nat → Value} {d : Nat} {f : Nat → Int32 → Int32 → Int32 → qM → Option qR} (hf : ∀ (x0 : Nat) (x1 : Int32) (x2 : Int32) (x3 : Int32) (μ : qM) (r : qR), f x0 x1 x2 x3 μ = some r → qEv false base D ca cv d 173 r 4 [.ref x0, .int x1, .int x2, .int x3] [] μ) {L S : List Value} {μ : qM} {r : qR} (h : jX8_heldMany_4 f L S μ = some r) : qEv false base D ca cv d 173 r 4 L S μ := by
  unfold jX8_heldMany_4 at h
  split at h
  · exact (hf _ _ _ _ _ _ h).le rfl ⟨Or.inr rfl, Or.inr rfl, Or.inr rfl, Or.inr rfl, trivial⟩
  · cases h
set_option maxRecDepth 100000 in
theorem lbX8_heldMany_4 {base : Nat} {D : va_G} {ca : Nat → ClassId} {cv : Nat → Value} (hcv : ∀ j, (cv j).category = 1) : ∀ (n : Nat) (x0 : Nat) (x1 : Int32) (x2 : Int32) (x3 : Int32) (μ : qM) (r : qR), fX8_heldMany_4 n x0 x1 x2 x3 μ = some r → qEv false base D ca cv 2 173 r 4 [.ref x0, .int x1, .int x2, .int x3] [] μ := by
  intro n
  induction n with
  | zero => intro x0 x1 x2 x3 μ r h; cases (show (none : Option qR) = some r from h)
  | succ n ih =>
    intro x0 x1 x2 x3 μ r h
    exact qblk_ev2 (cf := cfX8_heldMany) (st := (fun n => qin [4] n)) (K := (fun pc L S μ => if pc = 4 then jX8_heldMany_4 (fX8_heldMany_4 n) L S μ else none)) (cd := qcX8_heldMany) (M := 173) (d0 := 1) rfl qcok_X8_heldMany (Nat.le_refl _) (hcX8_heldMany hcv) (by
    intro pc L S μ r h
    split at h
    · rename_i e; subst e; exact jeX8_heldMany_4 ih h
    cases h) 400 (pc := 4) (L := [.ref x0, .int x1, .int x2, .int x3]) (S := []) h
theorem npX8_heldMany : (parseMethodDescriptor (qmy 173).desc).map (fun d => d.parameters.length) = some 2 := by decide +kernel
set_option maxRecDepth 100000 in
theorem gdX8_heldMany {base : Nat} {D : va_G} {ca : Nat → ClassId} {cv : Nat → Value} (hcv : ∀ j, (cv j).category = 1) {a0 : Nat} {a1 : Int32} {μ : qM} {r : qR} (h : fX8_heldMany a0 a1 μ = some r) : qGood false base D ca cv 2 173 [.ref a0, .int a1] μ r := by
  exact qgood_of (by decide) (by omega) hcv (Or.inl rfl) npX8_heldMany rfl (Nat.le_of_ble_eq_true rfl) rfl (qblk_ev2 (cf := cfX8_heldMany) (st := (fun n => qin [4] n)) (K := (fun pc L S μ => if pc = 4 then jX8_heldMany_4 (fX8_heldMany_4 qfu) L S μ else none)) (cd := qcX8_heldMany) (M := 173) (d0 := 1) rfl qcok_X8_heldMany (Nat.le_refl _) (hcX8_heldMany hcv) (by
    intro pc L S μ r h
    split at h
    · rename_i e; subst e; exact jeX8_heldMany_4 (lbX8_heldMany_4 hcv qfu) h
    cases h) 400 (pc := 0) (L := qent [.ref a0, .int a1] 4) (S := []) h)
theorem gaX8_heldMany {base : Nat} {D : va_G} {ca : Nat → ClassId} {cv : Nat → Value} (hcv : ∀ j, (cv j).category = 1) {l : List Value} {μ : qM} {r : qR} (h : aX8_heldMany l μ = some r) : qGood false base D ca cv 2 173 l μ r := by
  unfold aX8_heldMany at h
  split at h
  · exact gdX8_heldMany hcv h
  · cases h
noncomputable def fX8_aloneMany_4 : Nat → Nat → Int32 → Int32 → Int32 → qM → Option qR
  | 0 => fun _ _ _ _ _ => none
  | n + 1 => fun x0 x1 x2 x3 μ =>
    if (85 : Int32) ≤ x3 then
      some (x2, 0, μ)
    else
      qbnd (fX8_held x0 x1 x3 μ) fun r1 =>
      if r1.1 = (6 : Int32) then
        qbnd (fX8_flag (1 : Int32) r1.2.2) fun r3 =>
        fX8_aloneMany_4 n x0 x1 (x2 + r3.1) (x3 + (1 : Int32)) r3.2.2
      else
        qbnd (fX8_flag (0 : Int32) r1.2.2) fun r2 =>
        fX8_aloneMany_4 n x0 x1 (x2 + r2.1) (x3 + (1 : Int32)) r2.2.2
noncomputable def fX8_aloneMany (a0 : Nat) (a1 : Int32) (μ : qM) : Option qR :=
  fX8_aloneMany_4 qfu a0 a1 (0 : Int32) (0 : Int32) μ
noncomputable def aX8_aloneMany (l : List Value) (μ : qM) : Option qR := match l with
  | [.ref x0, .int x1] => fX8_aloneMany x0 x1 μ
  | _ => none
noncomputable def cfX8_aloneMany : qF := fun n l μ => if n = 172 then aX8_held l μ else if n = 143 then aX8_flag l μ else none
theorem hcX8_aloneMany {base : Nat} {D : va_G} {ca : Nat → ClassId} {cv : Nat → Value} (hcv : ∀ j, (cv j).category = 1) : ∀ M as μ r, cfX8_aloneMany M as μ = some r → qGood false base D ca cv 1 M as μ r := by
  intro M as μ r h
  unfold cfX8_aloneMany at h
  split at h
  · rename_i e; subst e; exact (gaX8_held hcv h).mono (by omega)
  split at h
  · rename_i e; subst e; exact (gaX8_flag hcv h).mono (by omega)
  cases h
def jX8_aloneMany_4 (f : Nat → Int32 → Int32 → Int32 → qM → Option qR) (L S : List Value) (μ : qM) : Option qR := match L, S with
  | [.ref x0, .int x1, .int x2, .int x3], [] => f x0 x1 x2 x3 μ
  | _, _ => none
theorem jeX8_aloneMany_4 {base : Nat} {D : va_G} {ca : Nat → ClassId} {cv : Nat → Value} {d : Nat} {f : Nat → Int32 → Int32 → Int32 → qM → Option qR} (hf : ∀ (x0 : Nat) (x1 : Int32) (x2 : Int32) (x3 : Int32) (μ : qM) (r : qR), f x0 x1 x2 x3 μ = some r → qEv false base D ca cv d 174 r 4 [.ref x0, .int x1, .int x2, .int x3] [] μ) {L S : List Value} {μ : qM} {r : qR} (h : jX8_aloneMany_4 f L S μ = some r) : qEv false base D ca cv d 174 r 4 L S μ := by
  unfold jX8_aloneMany_4 at h
  split at h
  · exact (hf _ _ _ _ _ _ h).le rfl ⟨Or.inr rfl, Or.inr rfl, Or.inr rfl, Or.inr rfl, trivial⟩
  · cases h
set_option maxRecDepth 100000 in
theorem lbX8_aloneMany_4 {base : Nat} {D : va_G} {ca : Nat → ClassId} {cv : Nat → Value} (hcv : ∀ j, (cv j).category = 1) : ∀ (n : Nat) (x0 : Nat) (x1 : Int32) (x2 : Int32) (x3 : Int32) (μ : qM) (r : qR), fX8_aloneMany_4 n x0 x1 x2 x3 μ = some r → qEv false base D ca cv 2 174 r 4 [.ref x0, .int x1, .int x2, .int x3] [] μ := by
  intro n
  induction n with
  | zero => intro x0 x1 x2 x3 μ r h; cases (show (none : Option qR) = some r from h)
  | succ n ih =>
    intro x0 x1 x2 x3 μ r h
    exact qblk_ev2 (cf := cfX8_aloneMany) (st := (fun n => qin [4] n)) (K := (fun pc L S μ => if pc = 4 then jX8_aloneMany_4 (fX8_aloneMany_4 n) L S μ else none)) (cd := qcX8_aloneMany) (M := 174) (d0 := 1) rfl qcok_X8_aloneMany (Nat.le_refl _) (hcX8_aloneMany hcv) (by
    intro pc L S μ r h
    split at h
    · rename_i e; subst e; exact jeX8_aloneMany_4 ih h
    cases h) 400 (pc := 4) (L := [.ref x0, .int x1, .int x2, .int x3]) (S := []) h
theorem npX8_aloneMany : (parseMethodDescriptor (qmy 174).desc).map (fun d => d.parameters.length) = some 2 := by decide +kernel
set_option maxRecDepth 100000 in
theorem gdX8_aloneMany {base : Nat} {D : va_G} {ca : Nat → ClassId} {cv : Nat → Value} (hcv : ∀ j, (cv j).category = 1) {a0 : Nat} {a1 : Int32} {μ : qM} {r : qR} (h : fX8_aloneMany a0 a1 μ = some r) : qGood false base D ca cv 2 174 [.ref a0, .int a1] μ r := by
  exact qgood_of (by decide) (by omega) hcv (Or.inl rfl) npX8_aloneMany rfl (Nat.le_of_ble_eq_true rfl) rfl (qblk_ev2 (cf := cfX8_aloneMany) (st := (fun n => qin [4] n)) (K := (fun pc L S μ => if pc = 4 then jX8_aloneMany_4 (fX8_aloneMany_4 qfu) L S μ else none)) (cd := qcX8_aloneMany) (M := 174) (d0 := 1) rfl qcok_X8_aloneMany (Nat.le_refl _) (hcX8_aloneMany hcv) (by
    intro pc L S μ r h
    split at h
    · rename_i e; subst e; exact jeX8_aloneMany_4 (lbX8_aloneMany_4 hcv qfu) h
    cases h) 400 (pc := 0) (L := qent [.ref a0, .int a1] 4) (S := []) h)
theorem gaX8_aloneMany {base : Nat} {D : va_G} {ca : Nat → ClassId} {cv : Nat → Value} (hcv : ∀ j, (cv j).category = 1) {l : List Value} {μ : qM} {r : qR} (h : aX8_aloneMany l μ = some r) : qGood false base D ca cv 2 174 l μ r := by
  unfold aX8_aloneMany at h
  split at h
  · exact gdX8_aloneMany hcv h
  · cases h
noncomputable def fX8_so_4 : Nat → Nat → Int32 → Int32 → Int32 → qM → Option qR
  | 0 => fun _ _ _ _ _ => none
  | n + 1 => fun x0 x1 x2 x3 μ =>
    if (8 : Int32) ≤ x3 then
      some (x2, 0, μ)
    else
      qbnd (oLdI 20 μ x0 ((680 : Int32) + x3)) fun v1 =>
      if v1 = x1 then
        fX8_so_4 n x0 x1 (x2 ||| ((1 : Int32) <<< (x3 &&& 31))) (x3 + (1 : Int32)) μ
      else
        fX8_so_4 n x0 x1 (x2 ||| (0 : Int32)) (x3 + (1 : Int32)) μ
noncomputable def fX8_so (a0 : Nat) (a1 : Int32) (μ : qM) : Option qR :=
  fX8_so_4 qfu a0 a1 (0 : Int32) (0 : Int32) μ
noncomputable def aX8_so (l : List Value) (μ : qM) : Option qR := match l with
  | [.ref x0, .int x1] => fX8_so x0 x1 μ
  | _ => none
noncomputable def cfX8_so : qF := fun n l μ => none
theorem hcX8_so {base : Nat} {D : va_G} {ca : Nat → ClassId} {cv : Nat → Value} (hcv : ∀ j, (cv j).category = 1) : ∀ M as μ r, cfX8_so M as μ = some r → qGood false base D ca cv 0 M as μ r := by
  intro M as μ r h
  cases h
def jX8_so_4 (f : Nat → Int32 → Int32 → Int32 → qM → Option qR) (L S : List Value) (μ : qM) : Option qR := match L, S with
  | [.ref x0, .int x1, .int x2, .int x3], [] => f x0 x1 x2 x3 μ
  | _, _ => none
theorem jeX8_so_4 {base : Nat} {D : va_G} {ca : Nat → ClassId} {cv : Nat → Value} {d : Nat} {f : Nat → Int32 → Int32 → Int32 → qM → Option qR} (hf : ∀ (x0 : Nat) (x1 : Int32) (x2 : Int32) (x3 : Int32) (μ : qM) (r : qR), f x0 x1 x2 x3 μ = some r → qEv false base D ca cv d 175 r 4 [.ref x0, .int x1, .int x2, .int x3] [] μ) {L S : List Value} {μ : qM} {r : qR} (h : jX8_so_4 f L S μ = some r) : qEv false base D ca cv d 175 r 4 L S μ := by
  unfold jX8_so_4 at h
  split at h
  · exact (hf _ _ _ _ _ _ h).le rfl ⟨Or.inr rfl, Or.inr rfl, Or.inr rfl, Or.inr rfl, trivial⟩
  · cases h
set_option maxRecDepth 100000 in
theorem lbX8_so_4 {base : Nat} {D : va_G} {ca : Nat → ClassId} {cv : Nat → Value} (hcv : ∀ j, (cv j).category = 1) : ∀ (n : Nat) (x0 : Nat) (x1 : Int32) (x2 : Int32) (x3 : Int32) (μ : qM) (r : qR), fX8_so_4 n x0 x1 x2 x3 μ = some r → qEv false base D ca cv 1 175 r 4 [.ref x0, .int x1, .int x2, .int x3] [] μ := by
  intro n
  induction n with
  | zero => intro x0 x1 x2 x3 μ r h; cases (show (none : Option qR) = some r from h)
  | succ n ih =>
    intro x0 x1 x2 x3 μ r h
    exact qblk_ev2 (cf := cfX8_so) (st := (fun n => qin [4] n)) (K := (fun pc L S μ => if pc = 4 then jX8_so_4 (fX8_so_4 n) L S μ else none)) (cd := qcX8_so) (M := 175) (d0 := 0) rfl qcok_X8_so (Nat.le_refl _) (hcX8_so hcv) (by
    intro pc L S μ r h
    split at h
    · rename_i e; subst e; exact jeX8_so_4 ih h
    cases h) 400 (pc := 4) (L := [.ref x0, .int x1, .int x2, .int x3]) (S := []) h
theorem npX8_so : (parseMethodDescriptor (qmy 175).desc).map (fun d => d.parameters.length) = some 2 := by decide +kernel
set_option maxRecDepth 100000 in
theorem gdX8_so {base : Nat} {D : va_G} {ca : Nat → ClassId} {cv : Nat → Value} (hcv : ∀ j, (cv j).category = 1) {a0 : Nat} {a1 : Int32} {μ : qM} {r : qR} (h : fX8_so a0 a1 μ = some r) : qGood false base D ca cv 1 175 [.ref a0, .int a1] μ r := by
  exact qgood_of (by decide) (by omega) hcv (Or.inl rfl) npX8_so rfl (Nat.le_of_ble_eq_true rfl) rfl (qblk_ev2 (cf := cfX8_so) (st := (fun n => qin [4] n)) (K := (fun pc L S μ => if pc = 4 then jX8_so_4 (fX8_so_4 qfu) L S μ else none)) (cd := qcX8_so) (M := 175) (d0 := 0) rfl qcok_X8_so (Nat.le_refl _) (hcX8_so hcv) (by
    intro pc L S μ r h
    split at h
    · rename_i e; subst e; exact jeX8_so_4 (lbX8_so_4 hcv qfu) h
    cases h) 400 (pc := 0) (L := qent [.ref a0, .int a1] 4) (S := []) h)
theorem gaX8_so {base : Nat} {D : va_G} {ca : Nat → ClassId} {cv : Nat → Value} (hcv : ∀ j, (cv j).category = 1) {l : List Value} {μ : qM} {r : qR} (h : aX8_so l μ = some r) : qGood false base D ca cv 1 175 l μ r := by
  unfold aX8_so at h
  split at h
  · exact gdX8_so hcv h
  · cases h
noncomputable def fX8_isChange (a0 : Nat) (a1 : Int32) (μ : qM) : Option qR :=
  qbnd (oLdI 20 μ a0 ((712 : Int32) + a1)) fun v1 =>
  qbnd (fX8_held a0 a1 v1 μ) fun r2 =>
  if r2.1 ≤ 0 then
    if qnz (0 : Int32) = (0 : Int32) then some ((0 : Int32), 0, r2.2.2) else none
  else
    if qnz (1 : Int32) = (1 : Int32) then some ((1 : Int32), 0, r2.2.2) else none
noncomputable def aX8_isChange (l : List Value) (μ : qM) : Option qR := match l with
  | [.ref x0, .int x1] => fX8_isChange x0 x1 μ
  | _ => none
noncomputable def cfX8_isChange : qF := fun n l μ => if n = 172 then aX8_held l μ else none
theorem hcX8_isChange {base : Nat} {D : va_G} {ca : Nat → ClassId} {cv : Nat → Value} (hcv : ∀ j, (cv j).category = 1) : ∀ M as μ r, cfX8_isChange M as μ = some r → qGood false base D ca cv 1 M as μ r := by
  intro M as μ r h
  unfold cfX8_isChange at h
  split at h
  · rename_i e; subst e; exact (gaX8_held hcv h).mono (by omega)
  cases h
theorem npX8_isChange : (parseMethodDescriptor (qmy 176).desc).map (fun d => d.parameters.length) = some 2 := by decide +kernel
set_option maxRecDepth 100000 in
theorem gdX8_isChange {base : Nat} {D : va_G} {ca : Nat → ClassId} {cv : Nat → Value} (hcv : ∀ j, (cv j).category = 1) {a0 : Nat} {a1 : Int32} {μ : qM} {r : qR} (h : fX8_isChange a0 a1 μ = some r) : qGood false base D ca cv 2 176 [.ref a0, .int a1] μ r := by
  exact qgood_of (by decide) (by omega) hcv (Or.inl rfl) npX8_isChange rfl (Nat.le_of_ble_eq_true rfl) rfl (qblk_ev2 (cf := cfX8_isChange) (st := (fun n => qin [] n)) (K := (fun pc L S μ => none)) (cd := qcX8_isChange) (M := 176) (d0 := 1) rfl qcok_X8_isChange (Nat.le_refl _) (hcX8_isChange hcv) (by
    intro pc L S μ r h
    cases h) 400 (pc := 0) (L := qent [.ref a0, .int a1] 2) (S := []) h)
theorem gaX8_isChange {base : Nat} {D : va_G} {ca : Nat → ClassId} {cv : Nat → Value} (hcv : ∀ j, (cv j).category = 1) {l : List Value} {μ : qM} {r : qR} (h : aX8_isChange l μ = some r) : qGood false base D ca cv 2 176 l μ r := by
  unfold aX8_isChange at h
  split at h
  · exact gdX8_isChange hcv h
  · cases h

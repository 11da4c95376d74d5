/-! FUNCTIONS out of the codes, and that the machine does as they do, 1 (printed by gen/emit6.py) -/
noncomputable def fX4_valueOf (a0 : Int32) (a1 : Nat) (a2 : Int32) (a3 : Int32) (μ : qM) : Option qR :=
  if a0 = (97 : Int32) then
    qbnd (oGetP μ 5 a1 2) fun v1 =>
    qbnd (oLdI 20 μ v1 a2) fun v2 =>
    some (v2, 0, μ)
  else
  if a0 = (102 : Int32) then
    qbnd (oGetP μ 5 a1 4) fun v3 =>
    qbnd (oLdI 20 μ v3 a2) fun v4 =>
    some (v4, 0, μ)
  else
  if a0 = (104 : Int32) then
    qbnd (fX5_holdings a1 a2 (0 : Int32) μ) fun r5 =>
    some (r5.1, 0, r5.2.2)
  else
  if a0 = (105 : Int32) then
    some (a2, 0, μ)
  else
  if a0 = (113 : Int32) then
    some (a3, 0, μ)
  else
  if a0 = (119 : Int32) then
    qbnd (oGetP μ 5 a1 3) fun v6 =>
    qbnd (oLdI 20 μ v6 a2) fun v7 =>
    some (v7, 0, μ)
  else
  if a0 = (120 : Int32) then
    qbnd (fX5_holdings a1 a2 (6 : Int32) μ) fun r8 =>
    some (r8.1, 0, r8.2.2)
  else
    some ((0 : Int32), 0, μ)
noncomputable def aX4_valueOf (l : List Value) (μ : qM) : Option qR := match l with
  | [.int x0, .ref x1, .int x2, .int x3] => fX4_valueOf x0 x1 x2 x3 μ
  | _ => none
noncomputable def cfX4_valueOf : qF := fun n l μ => if n = 58 then aX5_holdings l μ else none
theorem hcX4_valueOf {base : Nat} {D : va_G} {ca : Nat → ClassId} {cv : Nat → Value} (hcv : ∀ j, (cv j).category = 1) : ∀ M as μ r, cfX4_valueOf M as μ = some r → qGood false base D ca cv 2 M as μ r := by
  intro M as μ r h
  unfold cfX4_valueOf at h
  split at h
  · rename_i e; subst e; exact (gaX5_holdings hcv h).mono (by omega)
  cases h
theorem npX4_valueOf : (parseMethodDescriptor (qmy 48).desc).map (fun d => d.parameters.length) = some 4 := by decide +kernel
set_option maxRecDepth 100000 in
theorem gdX4_valueOf {base : Nat} {D : va_G} {ca : Nat → ClassId} {cv : Nat → Value} (hcv : ∀ j, (cv j).category = 1) {a0 : Int32} {a1 : Nat} {a2 : Int32} {a3 : Int32} {μ : qM} {r : qR} (h : fX4_valueOf a0 a1 a2 a3 μ = some r) : qGood false base D ca cv 3 48 [.int a0, .ref a1, .int a2, .int a3] μ r := by
  exact qgood_of (by decide) (by omega) hcv (Or.inl rfl) npX4_valueOf rfl (Nat.le_of_ble_eq_true rfl) rfl (qblk_ev2 (cf := cfX4_valueOf) (st := (fun n => qin [] n)) (K := (fun pc L S μ => none)) (cd := qcX4_valueOf) (M := 48) (d0 := 2) rfl qcok_X4_valueOf (Nat.le_refl _) (hcX4_valueOf hcv) (by
    intro pc L S μ r h
    cases h) 400 (pc := 0) (L := qent [.int a0, .ref a1, .int a2, .int a3] 4) (S := []) h)
theorem gaX4_valueOf {base : Nat} {D : va_G} {ca : Nat → ClassId} {cv : Nat → Value} (hcv : ∀ j, (cv j).category = 1) {l : List Value} {μ : qM} {r : qR} (h : aX4_valueOf l μ = some r) : qGood false base D ca cv 3 48 l μ r := by
  unfold aX4_valueOf at h
  split at h
  · exact gdX4_valueOf hcv h
  · cases h
noncomputable def fX4_cost_75 (k17 : Nat → Nat → Int32 → Int32 → Int32 → Int32 → qM → Option qR) (x0 : Nat) (x1 : Nat) (x2 : Int32) (x3 : Int32) (x4 : Int32) (x5 : Int32) (x6 : Int32) (μ : qM) : Option qR :=
  if (40 : Int32) ≤ x4 then
    k17 x0 x1 x2 x3 x4 (x5 + (1 : Int32)) μ
  else
    qbnd (oGetP μ 4 x0 2) fun v1 =>
    if x6 < 0 then
      qbnd (fX4_valueOf (-x6) x1 x2 x3 μ) fun r2 =>
      qbnd (oStI 20 r2.2.2 v1 x4 r2.1) fun μ3 =>
      k17 x0 x1 x2 x3 (x4 + (1 : Int32)) (x5 + (1 : Int32)) μ3
    else
      qbnd (oStI 20 μ v1 x4 x6) fun μ4 =>
      k17 x0 x1 x2 x3 (x4 + (1 : Int32)) (x5 + (1 : Int32)) μ4
noncomputable def fX4_cost_17 : Nat → Nat → Nat → Int32 → Int32 → Int32 → Int32 → qM → Option qR
  | 0 => fun _ _ _ _ _ _ _ => none
  | n + 1 => fun x0 x1 x2 x3 x4 x5 μ =>
    qbnd (oGetI μ 4 x0 3) fun v1 =>
    if v1 ≤ x5 then
      qbnd (oGetP μ 4 x0 2) fun v2 =>
      qbnd (oLdI 20 μ v2 (0 : Int32)) fun v3 =>
      some (v3, 0, μ)
    else
      qbnd (oGetP μ 4 x0 0) fun v4 =>
      qbnd (oLdI 20 μ v4 x5) fun v5 =>
      if v5 = (-256 : Int32) then
        if x4 ≤ 0 then
          fX4_cost_17 n x0 x1 x2 x3 x4 (x5 + (1 : Int32)) μ
        else
          qbnd (oGetP μ 4 x0 2) fun v14 =>
          qbnd (oGetP μ 4 x0 2) fun v15 =>
          qbnd (oLdI 20 μ v15 (x4 - (1 : Int32))) fun v16 =>
          qbnd (oStI 20 μ v14 (x4 - (1 : Int32)) (-v16)) fun μ17 =>
          fX4_cost_17 n x0 x1 x2 x3 x4 (x5 + (1 : Int32)) μ17
      else
        if 0 ≤ v5 then
          fX4_cost_75 (fX4_cost_17 n) x0 x1 x2 x3 x4 x5 v5 μ
        else
          qbnd (fX4_rankOf (-v5) μ) fun r6 =>
          if r6.1 ≤ 0 then
            fX4_cost_75 (fX4_cost_17 n) x0 x1 x2 x3 x4 x5 v5 r6.2.2
          else
            if x4 ≤ (1 : Int32) then
              fX4_cost_17 n x0 x1 x2 x3 x4 (x5 + (1 : Int32)) r6.2.2
            else
              qbnd (oGetP r6.2.2 4 x0 2) fun v7 =>
              qbnd (oGetP r6.2.2 4 x0 2) fun v8 =>
              qbnd (oLdI 20 r6.2.2 v8 ((x4 + (-1 : Int32)) - (1 : Int32))) fun v9 =>
              qbnd (oGetP r6.2.2 4 x0 2) fun v10 =>
              qbnd (oLdI 20 r6.2.2 v10 (x4 + (-1 : Int32))) fun v11 =>
              qbnd (fX4_reckon (-v5) v9 v11 r6.2.2) fun r12 =>
              qbnd (oStI 20 r12.2.2 v7 ((x4 + (-1 : Int32)) - (1 : Int32)) r12.1) fun μ13 =>
              fX4_cost_17 n x0 x1 x2 x3 (x4 + (-1 : Int32)) (x5 + (1 : Int32)) μ13
noncomputable def gX4_cost (a0 : Nat) (a1 : Nat) (a2 : Int32) (a3 : Int32) (μ : qM) : Option qR :=
  qbnd (oGetI μ 4 a0 3) fun v1 =>
  if v1 = 0 then
    qbnd (oGetP μ 5 a1 3) fun v2 =>
    qbnd (oLdI 20 μ v2 a2) fun v3 =>
    qbnd (fX5_holdings a1 a2 (0 : Int32) μ) fun r4 =>
    some ((v3 + r4.1), 0, r4.2.2)
  else
    fX4_cost_17 qfu a0 a1 a2 a3 (0 : Int32) (0 : Int32) μ
noncomputable def fX4_cost (a0 : Nat) (a1 : Nat) (a2 : Int32) (a3 : Int32) (μ : qM) : Option qR := if (qk μ a0).1 = 4 then gX4_cost a0 a1 a2 a3 μ else none
noncomputable def aX4_cost (l : List Value) (μ : qM) : Option qR := match l with
  | [.ref x0, .ref x1, .int x2, .int x3] => fX4_cost x0 x1 x2 x3 μ
  | _ => none
noncomputable def cfX4_cost : qF := fun n l μ => if n = 58 then aX5_holdings l μ else if n = 50 then aX4_rankOf l μ else if n = 49 then aX4_reckon l μ else if n = 48 then aX4_valueOf l μ else none
theorem hcX4_cost {base : Nat} {D : va_G} {ca : Nat → ClassId} {cv : Nat → Value} (hcv : ∀ j, (cv j).category = 1) : ∀ M as μ r, cfX4_cost M as μ = some r → qGood false base D ca cv 3 M as μ r := by
  intro M as μ r h
  unfold cfX4_cost at h
  split at h
  · rename_i e; subst e; exact (gaX5_holdings hcv h).mono (by omega)
  split at h
  · rename_i e; subst e; exact (gaX4_rankOf hcv h).mono (by omega)
  split at h
  · rename_i e; subst e; exact (gaX4_reckon hcv h).mono (by omega)
  split at h
  · rename_i e; subst e; exact (gaX4_valueOf hcv h).mono (by omega)
  cases h
def jX4_cost_17 (f : Nat → Nat → Int32 → Int32 → Int32 → Int32 → qM → Option qR) (L S : List Value) (μ : qM) : Option qR := match L, S with
  | [.ref x0, .ref x1, .int x2, .int x3, .int x4, .int x5, _], [] => f x0 x1 x2 x3 x4 x5 μ
  | _, _ => none
theorem jeX4_cost_17 {base : Nat} {D : va_G} {ca : Nat → ClassId} {cv : Nat → Value} {d : Nat} {f : Nat → Nat → Int32 → Int32 → Int32 → Int32 → qM → Option qR} (hf : ∀ (x0 : Nat) (x1 : Nat) (x2 : Int32) (x3 : Int32) (x4 : Int32) (x5 : Int32) (μ : qM) (r : qR), f x0 x1 x2 x3 x4 x5 μ = some r → qEv false base D ca cv d 47 r 17 [.ref x0, .ref x1, .int x2, .int x3, .int x4, .int x5, .null] [] μ) {L S : List Value} {μ : qM} {r : qR} (h : jX4_cost_17 f L S μ = some r) : qEv false base D ca cv d 47 r 17 L S μ := by
  unfold jX4_cost_17 at h
  split at h
  · exact (hf _ _ _ _ _ _ _ _ h).le rfl ⟨Or.inr rfl, Or.inr rfl, Or.inr rfl, Or.inr rfl, Or.inr rfl, Or.inr rfl, Or.inl rfl, trivial⟩
  · cases h
def jX4_cost_75 (f : Nat → Nat → Int32 → Int32 → Int32 → Int32 → Int32 → qM → Option qR) (L S : List Value) (μ : qM) : Option qR := match L, S with
  | [.ref x0, .ref x1, .int x2, .int x3, .int x4, .int x5, .int x6], [] => f x0 x1 x2 x3 x4 x5 x6 μ
  | _, _ => none
theorem jeX4_cost_75 {base : Nat} {D : va_G} {ca : Nat → ClassId} {cv : Nat → Value} {d : Nat} {f : Nat → Nat → Int32 → Int32 → Int32 → Int32 → Int32 → qM → Option qR} (hf : ∀ (x0 : Nat) (x1 : Nat) (x2 : Int32) (x3 : Int32) (x4 : Int32) (x5 : Int32) (x6 : Int32) (μ : qM) (r : qR), f x0 x1 x2 x3 x4 x5 x6 μ = some r → qEv false base D ca cv d 47 r 75 [.ref x0, .ref x1, .int x2, .int x3, .int x4, .int x5, .int x6] [] μ) {L S : List Value} {μ : qM} {r : qR} (h : jX4_cost_75 f L S μ = some r) : qEv false base D ca cv d 47 r 75 L S μ := by
  unfold jX4_cost_75 at h
  split at h
  · exact (hf _ _ _ _ _ _ _ _ _ h).le rfl ⟨Or.inr rfl, Or.inr rfl, Or.inr rfl, Or.inr rfl, Or.inr rfl, Or.inr rfl, Or.inr rfl, trivial⟩
  · cases h
set_option maxRecDepth 100000 in
theorem lbX4_cost_75 {base : Nat} {D : va_G} {ca : Nat → ClassId} {cv : Nat → Value} (hcv : ∀ j, (cv j).category = 1) {k17 : Nat → Nat → Int32 → Int32 → Int32 → Int32 → qM → Option qR} (hk17 : ∀ (y0 : Nat) (y1 : Nat) (y2 : Int32) (y3 : Int32) (y4 : Int32) (y5 : Int32) (μ : qM) (r : qR), k17 y0 y1 y2 y3 y4 y5 μ = some r → qEv false base D ca cv 4 47 r 17 [.ref y0, .ref y1, .int y2, .int y3, .int y4, .int y5, .null] [] μ) (x0 : Nat) (x1 : Nat) (x2 : Int32) (x3 : Int32) (x4 : Int32) (x5 : Int32) (x6 : Int32) (μ : qM) (r : qR) (h : fX4_cost_75 k17 x0 x1 x2 x3 x4 x5 x6 μ = some r) : qEv false base D ca cv 4 47 r 75 [.ref x0, .ref x1, .int x2, .int x3, .int x4, .int x5, .int x6] [] μ := by
    exact qblk_ev2 (cf := cfX4_cost) (st := (fun n => qin [17, 75] n)) (K := (fun pc L S μ => if pc = 17 then jX4_cost_17 k17 L S μ else none)) (cd := qcX4_cost) (M := 47) (d0 := 3) rfl qcok_X4_cost (Nat.le_refl _) (hcX4_cost hcv) (by
    intro pc L S μ r h
    split at h
    · rename_i e; subst e; exact jeX4_cost_17 hk17 h
    cases h) 400 (pc := 75) (L := [.ref x0, .ref x1, .int x2, .int x3, .int x4, .int x5, .int x6]) (S := []) h
set_option maxRecDepth 100000 in
theorem lbX4_cost_17 {base : Nat} {D : va_G} {ca : Nat → ClassId} {cv : Nat → Value} (hcv : ∀ j, (cv j).category = 1) : ∀ (n : Nat) (x0 : Nat) (x1 : Nat) (x2 : Int32) (x3 : Int32) (x4 : Int32) (x5 : Int32) (μ : qM) (r : qR), fX4_cost_17 n x0 x1 x2 x3 x4 x5 μ = some r → qEv false base D ca cv 4 47 r 17 [.ref x0, .ref x1, .int x2, .int x3, .int x4, .int x5, .null] [] μ := by
  intro n
  induction n with
  | zero => intro x0 x1 x2 x3 x4 x5 μ r h; cases (show (none : Option qR) = some r from h)
  | succ n ih =>
    intro x0 x1 x2 x3 x4 x5 μ r h
    exact qblk_ev2 (cf := cfX4_cost) (st := (fun n => qin [17, 75] n)) (K := (fun pc L S μ => if pc = 17 then jX4_cost_17 (fX4_cost_17 n) L S μ else if pc = 75 then jX4_cost_75 (fX4_cost_75 (fX4_cost_17 n)) L S μ else none)) (cd := qcX4_cost) (M := 47) (d0 := 3) rfl qcok_X4_cost (Nat.le_refl _) (hcX4_cost hcv) (by
    intro pc L S μ r h
    split at h
    · rename_i e; subst e; exact jeX4_cost_17 ih h
    split at h
    · rename_i e; subst e; exact jeX4_cost_75 (lbX4_cost_75 hcv ih) h
    cases h) 400 (pc := 17) (L := [.ref x0, .ref x1, .int x2, .int x3, .int x4, .int x5, .null]) (S := []) h
theorem npX4_cost : (parseMethodDescriptor (qmy 47).desc).map (fun d => d.parameters.length) = some 3 := by decide +kernel
set_option maxRecDepth 100000 in
theorem gdX4_cost {base : Nat} {D : va_G} {ca : Nat → ClassId} {cv : Nat → Value} (hcv : ∀ j, (cv j).category = 1) {a0 : Nat} {a1 : Nat} {a2 : Int32} {a3 : Int32} {μ : qM} {r : qR} (h : fX4_cost a0 a1 a2 a3 μ = some r) : qGood false base D ca cv 4 47 [.ref a0, .ref a1, .int a2, .int a3] μ r := by
  unfold fX4_cost at h
  split at h
  · rename_i hk0
    exact qgood_of (by decide) (by omega) hcv (Or.inr ⟨by decide +kernel, hk0⟩) npX4_cost rfl (Nat.le_of_ble_eq_true rfl) rfl (qblk_ev2 (cf := cfX4_cost) (st := (fun n => qin [17, 75] n)) (K := (fun pc L S μ => if pc = 17 then jX4_cost_17 (fX4_cost_17 qfu) L S μ else none)) (cd := qcX4_cost) (M := 47) (d0 := 3) rfl qcok_X4_cost (Nat.le_refl _) (hcX4_cost hcv) (by
    intro pc L S μ r h
    split at h
    · rename_i e; subst e; exact jeX4_cost_17 (lbX4_cost_17 hcv qfu) h
    cases h) 400 (pc := 0) (L := qent [.ref a0, .ref a1, .int a2, .int a3] 7) (S := []) h)
  · cases h
theorem gaX4_cost {base : Nat} {D : va_G} {ca : Nat → ClassId} {cv : Nat → Value} (hcv : ∀ j, (cv j).category = 1) {l : List Value} {μ : qM} {r : qR} (h : aX4_cost l μ = some r) : qGood false base D ca cv 4 47 l μ r := by
  unfold aX4_cost at h
  split at h
  · exact gdX4_cost hcv h
  · cases h
noncomputable def fX0_cheapest_15 : Nat → Nat → Nat → Int32 → Int32 → Int32 → Int32 → qM → Option qR
  | 0 => fun _ _ _ _ _ _ _ => none
  | n + 1 => fun x0 x1 x2 x3 x4 x5 μ =>
    if (8 : Int32) ≤ x5 then
      some (x3, 0, μ)
    else
      if ((qush x2 x5) &&& (1 : Int32)) = 0 then
        fX0_cheapest_15 n x0 x1 x2 x3 x4 (x5 + (1 : Int32)) μ
      else
        qbnd (oGetP μ 0 x0 0) fun v1 =>
        qbnd (oGetP μ 0 x0 1) fun v2 =>
        qbnd (fX2_waiters v2 x5 μ) fun r3 =>
        qbnd (fX4_cost x1 v1 x5 r3.1 r3.2.2) fun r4 =>
        if x3 = (-1 : Int32) then
          fX0_cheapest_15 n x0 x1 x2 x5 r4.1 (x5 + (1 : Int32)) r4.2.2
        else
          if r4.1 < x4 then
            fX0_cheapest_15 n x0 x1 x2 x5 r4.1 (x5 + (1 : Int32)) r4.2.2
          else
            if r4.1 = x4 then
              qbnd (oGetP r4.2.2 0 x0 0) fun v5 =>
              qbnd (oGetP r4.2.2 5 v5 2) fun v6 =>
              qbnd (oLdI 20 r4.2.2 v6 x5) fun v7 =>
              qbnd (oGetP r4.2.2 0 x0 0) fun v8 =>
              qbnd (oGetP r4.2.2 5 v8 2) fun v9 =>
              qbnd (oLdI 20 r4.2.2 v9 x3) fun v10 =>
              if v7 ≤ v10 then
                fX0_cheapest_15 n x0 x1 x2 x3 x4 (x5 + (1 : Int32)) r4.2.2
              else
                fX0_cheapest_15 n x0 x1 x2 x5 r4.1 (x5 + (1 : Int32)) r4.2.2
            else
              fX0_cheapest_15 n x0 x1 x2 x3 x4 (x5 + (1 : Int32)) r4.2.2
noncomputable def gX0_cheapest (a0 : Nat) (a1 : Nat) (μ : qM) : Option qR :=
  qbnd (oGetP μ 0 a0 1) fun v1 =>
  qbnd (oGetP μ 0 a0 0) fun v2 =>
  qbnd (fX2_read v1 v2 μ) fun r3 =>
  qbnd (oGetP r3.2.2 0 a0 1) fun v4 =>
  qbnd (fX2_inRings v4 r3.2.2) fun r5 =>
  fX0_cheapest_15 qfu a0 a1 r5.1 (-1 : Int32) (0 : Int32) (0 : Int32) r5.2.2
noncomputable def fX0_cheapest (a0 : Nat) (a1 : Nat) (μ : qM) : Option qR := if (qk μ a0).1 = 0 then gX0_cheapest a0 a1 μ else none
noncomputable def aX0_cheapest (l : List Value) (μ : qM) : Option qR := match l with
  | [.ref x0, .ref x1] => fX0_cheapest x0 x1 μ
  | _ => none
noncomputable def cfX0_cheapest : qF := fun n l μ => if n = 25 then aX2_read l μ else if n = 28 then aX2_inRings l μ else if n = 26 then aX2_waiters l μ else if n = 47 then aX4_cost l μ else none
theorem hcX0_cheapest {base : Nat} {D : va_G} {ca : Nat → ClassId} {cv : Nat → Value} (hcv : ∀ j, (cv j).category = 1) : ∀ M as μ r, cfX0_cheapest M as μ = some r → qGood false base D ca cv 4 M as μ r := by
  intro M as μ r h
  unfold cfX0_cheapest at h
  split at h
  · rename_i e; subst e; exact (gaX2_read hcv h).mono (by omega)
  split at h
  · rename_i e; subst e; exact (gaX2_inRings hcv h).mono (by omega)
  split at h
  · rename_i e; subst e; exact (gaX2_waiters hcv h).mono (by omega)
  split at h
  · rename_i e; subst e; exact (gaX4_cost hcv h).mono (by omega)
  cases h
def jX0_cheapest_15 (f : Nat → Nat → Int32 → Int32 → Int32 → Int32 → qM → Option qR) (L S : List Value) (μ : qM) : Option qR := match L, S with
  | [.ref x0, .ref x1, .int x2, .int x3, .int x4, .int x5, _], [] => f x0 x1 x2 x3 x4 x5 μ
  | _, _ => none
theorem jeX0_cheapest_15 {base : Nat} {D : va_G} {ca : Nat → ClassId} {cv : Nat → Value} {d : Nat} {f : Nat → Nat → Int32 → Int32 → Int32 → Int32 → qM → Option qR} (hf : ∀ (x0 : Nat) (x1 : Nat) (x2 : Int32) (x3 : Int32) (x4 : Int32) (x5 : Int32) (μ : qM) (r : qR), f x0 x1 x2 x3 x4 x5 μ = some r → qEv false base D ca cv d 11 r 15 [.ref x0, .ref x1, .int x2, .int x3, .int x4, .int x5, .null] [] μ) {L S : List Value} {μ : qM} {r : qR} (h : jX0_cheapest_15 f L S μ = some r) : qEv false base D ca cv d 11 r 15 L S μ := by
  unfold jX0_cheapest_15 at h
  split at h
  · exact (hf _ _ _ _ _ _ _ _ h).le rfl ⟨Or.inr rfl, Or.inr rfl, Or.inr rfl, Or.inr rfl, Or.inr rfl, Or.inr rfl, Or.inl rfl, trivial⟩
  · cases h
set_option maxRecDepth 100000 in
theorem lbX0_cheapest_15 {base : Nat} {D : va_G} {ca : Nat → ClassId} {cv : Nat → Value} (hcv : ∀ j, (cv j).category = 1) : ∀ (n : Nat) (x0 : Nat) (x1 : Nat) (x2 : Int32) (x3 : Int32) (x4 : Int32) (x5 : Int32) (μ : qM) (r : qR), fX0_cheapest_15 n x0 x1 x2 x3 x4 x5 μ = some r → qEv false base D ca cv 5 11 r 15 [.ref x0, .ref x1, .int x2, .int x3, .int x4, .int x5, .null] [] μ := by
  intro n
  induction n with
  | zero => intro x0 x1 x2 x3 x4 x5 μ r h; cases (show (none : Option qR) = some r from h)
  | succ n ih =>
    intro x0 x1 x2 x3 x4 x5 μ r h
    exact qblk_ev2 (cf := cfX0_cheapest) (st := (fun n => qin [15] n)) (K := (fun pc L S μ => if pc = 15 then jX0_cheapest_15 (fX0_cheapest_15 n) L S μ else none)) (cd := qcX0_cheapest) (M := 11) (d0 := 4) rfl qcok_X0_cheapest (Nat.le_refl _) (hcX0_cheapest hcv) (by
    intro pc L S μ r h
    split at h
    · rename_i e; subst e; exact jeX0_cheapest_15 ih h
    cases h) 400 (pc := 15) (L := [.ref x0, .ref x1, .int x2, .int x3, .int x4, .int x5, .null]) (S := []) h
theorem npX0_cheapest : (parseMethodDescriptor (qmy 11).desc).map (fun d => d.parameters.length) = some 1 := by decide +kernel
set_option maxRecDepth 100000 in
theorem gdX0_cheapest {base : Nat} {D : va_G} {ca : Nat → ClassId} {cv : Nat → Value} (hcv : ∀ j, (cv j).category = 1) {a0 : Nat} {a1 : Nat} {μ : qM} {r : qR} (h : fX0_cheapest a0 a1 μ = some r) : qGood false base D ca cv 5 11 [.ref a0, .ref a1] μ r := by
  unfold fX0_cheapest at h
  split at h
  · rename_i hk0
    exact qgood_of (by decide) (by omega) hcv (Or.inr ⟨by decide +kernel, hk0⟩) npX0_cheapest rfl (Nat.le_of_ble_eq_true rfl) rfl (qblk_ev2 (cf := cfX0_cheapest) (st := (fun n => qin [15] n)) (K := (fun pc L S μ => if pc = 15 then jX0_cheapest_15 (fX0_cheapest_15 qfu) L S μ else none)) (cd := qcX0_cheapest) (M := 11) (d0 := 4) rfl qcok_X0_cheapest (Nat.le_refl _) (hcX0_cheapest hcv) (by
    intro pc L S μ r h
    split at h
    · rename_i e; subst e; exact jeX0_cheapest_15 (lbX0_cheapest_15 hcv qfu) h
    cases h) 400 (pc := 0) (L := qent [.ref a0, .ref a1] 7) (S := []) h)
  · cases h
theorem gaX0_cheapest {base : Nat} {D : va_G} {ca : Nat → ClassId} {cv : Nat → Value} (hcv : ∀ j, (cv j).category = 1) {l : List Value} {μ : qM} {r : qR} (h : aX0_cheapest l μ = some r) : qGood false base D ca cv 5 11 l μ r := by
  unfold aX0_cheapest at h
  split at h
  · exact gdX0_cheapest hcv h
  · cases h
noncomputable def fX0_fellAll_4 : Nat → Nat → Nat → Int32 → Int32 → qM → Option qR
  | 0 => fun _ _ _ _ _ => none
  | n + 1 => fun x0 x1 x2 x3 μ =>
    if (8 : Int32) ≤ x3 then
      some (x2, 0, μ)
    else
      qbnd (fX0_cheapest x0 x1 μ) fun r1 =>
      if r1.1 = (-1 : Int32) then
        some (x2, 0, r1.2.2)
      else
        qbnd (oGetP r1.2.2 0 x0 0) fun v2 =>
        qbnd (oGetP r1.2.2 5 v2 4) fun v3 =>
        qbnd (oGetP r1.2.2 0 x0 0) fun v4 =>
        qbnd (oGetP r1.2.2 5 v4 4) fun v5 =>
        qbnd (oLdI 20 r1.2.2 v5 r1.1) fun v6 =>
        qbnd (oStI 20 r1.2.2 v3 r1.1 (if (v6 + (1 : Int32)) < (99 : Int32) then (v6 + (1 : Int32)) else (99 : Int32))) fun μ7 =>
        qbnd (oGetP μ7 0 x0 2) fun v8 =>
        qbnd (oStI 20 μ7 v8 x3 r1.1) fun μ9 =>
        qbnd (fX0_leave x0 r1.1 μ9) fun r10 =>
        fX0_fellAll_4 n x0 x1 (x2 + (1 : Int32)) (x3 + (1 : Int32)) r10.2.2
noncomputable def gX0_fellAll (a0 : Nat) (a1 : Nat) (μ : qM) : Option qR :=
  fX0_fellAll_4 qfu a0 a1 (0 : Int32) (0 : Int32) μ
noncomputable def fX0_fellAll (a0 : Nat) (a1 : Nat) (μ : qM) : Option qR := if (qk μ a0).1 = 0 then gX0_fellAll a0 a1 μ else none
noncomputable def aX0_fellAll (l : List Value) (μ : qM) : Option qR := match l with
  | [.ref x0, .ref x1] => fX0_fellAll x0 x1 μ
  | _ => none
noncomputable def cfX0_fellAll : qF := fun n l μ => if n = 11 then aX0_cheapest l μ else if n = 13 then aX0_leave l μ else none
theorem hcX0_fellAll {base : Nat} {D : va_G} {ca : Nat → ClassId} {cv : Nat → Value} (hcv : ∀ j, (cv j).category = 1) : ∀ M as μ r, cfX0_fellAll M as μ = some r → qGood false base D ca cv 1004 M as μ r := by
  intro M as μ r h
  unfold cfX0_fellAll at h
  split at h
  · rename_i e; subst e; exact (gaX0_cheapest hcv h).mono (by omega)
  split at h
  · rename_i e; subst e; exact (gaX0_leave hcv h).mono (by omega)
  cases h
def jX0_fellAll_4 (f : Nat → Nat → Int32 → Int32 → qM → Option qR) (L S : List Value) (μ : qM) : Option qR := match L, S with
  | [.ref x0, .ref x1, .int x2, .int x3, _], [] => f x0 x1 x2 x3 μ
  | _, _ => none
theorem jeX0_fellAll_4 {base : Nat} {D : va_G} {ca : Nat → ClassId} {cv : Nat → Value} {d : Nat} {f : Nat → Nat → Int32 → Int32 → qM → Option qR} (hf : ∀ (x0 : Nat) (x1 : Nat) (x2 : Int32) (x3 : Int32) (μ : qM) (r : qR), f x0 x1 x2 x3 μ = some r → qEv false base D ca cv d 10 r 4 [.ref x0, .ref x1, .int x2, .int x3, .null] [] μ) {L S : List Value} {μ : qM} {r : qR} (h : jX0_fellAll_4 f L S μ = some r) : qEv false base D ca cv d 10 r 4 L S μ := by
  unfold jX0_fellAll_4 at h
  split at h
  · exact (hf _ _ _ _ _ _ h).le rfl ⟨Or.inr rfl, Or.inr rfl, Or.inr rfl, Or.inr rfl, Or.inl rfl, trivial⟩
  · cases h
set_option maxRecDepth 100000 in
theorem lbX0_fellAll_4 {base : Nat} {D : va_G} {ca : Nat → ClassId} {cv : Nat → Value} (hcv : ∀ j, (cv j).category = 1) : ∀ (n : Nat) (x0 : Nat) (x1 : Nat) (x2 : Int32) (x3 : Int32) (μ : qM) (r : qR), fX0_fellAll_4 n x0 x1 x2 x3 μ = some r → qEv false base D ca cv 1005 10 r 4 [.ref x0, .ref x1, .int x2, .int x3, .null] [] μ := by
  intro n
  induction n with
  | zero => intro x0 x1 x2 x3 μ r h; cases (show (none : Option qR) = some r from h)
  | succ n ih =>
    intro x0 x1 x2 x3 μ r h
    exact qblk_ev2 (cf := cfX0_fellAll) (st := (fun n => qin [4] n)) (K := (fun pc L S μ => if pc = 4 then jX0_fellAll_4 (fX0_fellAll_4 n) L S μ else none)) (cd := qcX0_fellAll) (M := 10) (d0 := 1004) rfl qcok_X0_fellAll (Nat.le_refl _) (hcX0_fellAll hcv) (by
    intro pc L S μ r h
    split at h
    · rename_i e; subst e; exact jeX0_fellAll_4 ih h
    cases h) 400 (pc := 4) (L := [.ref x0, .ref x1, .int x2, .int x3, .null]) (S := []) h
theorem npX0_fellAll : (parseMethodDescriptor (qmy 10).desc).map (fun d => d.parameters.length) = some 1 := by decide +kernel
set_option maxRecDepth 100000 in
theorem gdX0_fellAll {base : Nat} {D : va_G} {ca : Nat → ClassId} {cv : Nat → Value} (hcv : ∀ j, (cv j).category = 1) {a0 : Nat} {a1 : Nat} {μ : qM} {r : qR} (h : fX0_fellAll a0 a1 μ = some r) : qGood false base D ca cv 1005 10 [.ref a0, .ref a1] μ r := by
  unfold fX0_fellAll at h
  split at h
  · rename_i hk0
    exact qgood_of (by decide) (by omega) hcv (Or.inr ⟨by decide +kernel, hk0⟩) npX0_fellAll rfl (Nat.le_of_ble_eq_true rfl) rfl (qblk_ev2 (cf := cfX0_fellAll) (st := (fun n => qin [4] n)) (K := (fun pc L S μ => if pc = 4 then jX0_fellAll_4 (fX0_fellAll_4 qfu) L S μ else none)) (cd := qcX0_fellAll) (M := 10) (d0 := 1004) rfl qcok_X0_fellAll (Nat.le_refl _) (hcX0_fellAll hcv) (by
    intro pc L S μ r h
    split at h
    · rename_i e; subst e; exact jeX0_fellAll_4 (lbX0_fellAll_4 hcv qfu) h
    cases h) 400 (pc := 0) (L := qent [.ref a0, .ref a1] 5) (S := []) h)
  · cases h
theorem gaX0_fellAll {base : Nat} {D : va_G} {ca : Nat → ClassId} {cv : Nat → Value} (hcv : ∀ j, (cv j).category = 1) {l : List Value} {μ : qM} {r : qR} (h : aX0_fellAll l μ = some r) : qGood false base D ca cv 1005 10 l μ r := by
  unfold aX0_fellAll at h
  split at h
  · exact gdX0_fellAll hcv h
  · cases h
noncomputable def gX0_setBulk (a0 : Nat) (a1 : Int32) (μ : qM) : Option qR :=
  if a1 < (2 : Int32) then
    some ((-1 : Int32), 0, μ)
  else
    if a1 ≤ (5 : Int32) then
      qbnd (oGetP μ 0 a0 0) fun v1 =>
      qbnd (oGetI μ 5 v1 12) fun v2 =>
      if a1 = v2 then
        some ((-2 : Int32), 0, μ)
      else
        qbnd (oGetP μ 0 a0 0) fun v3 =>
        qbnd (oPutI μ 5 v3 12 a1) fun μ4 =>
        some (((10 : Int32) + v2), 0, μ4)
    else
      some ((-1 : Int32), 0, μ)
noncomputable def fX0_setBulk (a0 : Nat) (a1 : Int32) (μ : qM) : Option qR := if (qk μ a0).1 = 0 then gX0_setBulk a0 a1 μ else none
noncomputable def aX0_setBulk (l : List Value) (μ : qM) : Option qR := match l with
  | [.ref x0, .int x1] => fX0_setBulk x0 x1 μ
  | _ => none
noncomputable def cfX0_setBulk : qF := fun n l μ => none
theorem hcX0_setBulk {base : Nat} {D : va_G} {ca : Nat → ClassId} {cv : Nat → Value} (hcv : ∀ j, (cv j).category = 1) : ∀ M as μ r, cfX0_setBulk M as μ = some r → qGood false base D ca cv 0 M as μ r := by
  intro M as μ r h
  cases h
theorem npX0_setBulk : (parseMethodDescriptor (qmy 9).desc).map (fun d => d.parameters.length) = some 1 := by decide +kernel
set_option maxRecDepth 100000 in
theorem gdX0_setBulk {base : Nat} {D : va_G} {ca : Nat → ClassId} {cv : Nat → Value} (hcv : ∀ j, (cv j).category = 1) {a0 : Nat} {a1 : Int32} {μ : qM} {r : qR} (h : fX0_setBulk a0 a1 μ = some r) : qGood false base D ca cv 1 9 [.ref a0, .int a1] μ r := by
  unfold fX0_setBulk at h
  split at h
  · rename_i hk0
    exact qgood_of (by decide) (by omega) hcv (Or.inr ⟨by decide +kernel, hk0⟩) npX0_setBulk rfl (Nat.le_of_ble_eq_true rfl) rfl (qblk_ev2 (cf := cfX0_setBulk) (st := (fun n => qin [] n)) (K := (fun pc L S μ => none)) (cd := qcX0_setBulk) (M := 9) (d0 := 0) rfl qcok_X0_setBulk (Nat.le_refl _) (hcX0_setBulk hcv) (by
    intro pc L S μ r h
    cases h) 400 (pc := 0) (L := qent [.ref a0, .int a1] 3) (S := []) h)
  · cases h
theorem gaX0_setBulk {base : Nat} {D : va_G} {ca : Nat → ClassId} {cv : Nat → Value} (hcv : ∀ j, (cv j).category = 1) {l : List Value} {μ : qM} {r : qR} (h : aX0_setBulk l μ = some r) : qGood false base D ca cv 1 9 l μ r := by
  unfold aX0_setBulk at h
  split at h
  · exact gdX0_setBulk hcv h
  · cases h
noncomputable def gX0_act (a0 : Nat) (a1 : Int32) (a2 : Int32) (a3 : Int32) (a4 : Int32) (a5 : Nat) (μ : qM) : Option qR :=
  if a1 = (98 : Int32) then
    qbnd (fX0_start a0 a2 μ) fun r1 =>
    some (r1.1, 0, r1.2.2)
  else
  if a1 = (101 : Int32) then
    qbnd (fX0_finish a0 a2 μ) fun r2 =>
    some (r2.1, 0, r2.2.2)
  else
  if a1 = (102 : Int32) then
    qbnd (fX0_fellAll a0 a5 μ) fun r3 =>
    some (r3.1, 0, r3.2.2)
  else
  if a1 = (103 : Int32) then
    qbnd (fX0_collect a0 a2 a3 μ) fun r4 =>
    some (r4.1, 0, r4.2.2)
  else
  if a1 = (108 : Int32) then
    qbnd (fX0_lock a0 a2 a3 a4 μ) fun r5 =>
    some (r5.1, 0, r5.2.2)
  else
  if a1 = (117 : Int32) then
    qbnd (fX0_unlock a0 a2 a3 μ) fun r6 =>
    some (r6.1, 0, r6.2.2)
  else
  if a1 = (118 : Int32) then
    qbnd (fX0_setBulk a0 a2 μ) fun r7 =>
    some (r7.1, 0, r7.2.2)
  else
  if a1 = (119 : Int32) then
    qbnd (fX0_labour a0 a2 a3 μ) fun r8 =>
    some (r8.1, 0, r8.2.2)
  else
    some ((-1 : Int32), 0, μ)
noncomputable def fX0_act (a0 : Nat) (a1 : Int32) (a2 : Int32) (a3 : Int32) (a4 : Int32) (a5 : Nat) (μ : qM) : Option qR := if (qk μ a0).1 = 0 then gX0_act a0 a1 a2 a3 a4 a5 μ else none
noncomputable def aX0_act (l : List Value) (μ : qM) : Option qR := match l with
  | [.ref x0, .int x1, .int x2, .int x3, .int x4, .ref x5] => fX0_act x0 x1 x2 x3 x4 x5 μ
  | _ => none
noncomputable def cfX0_act : qF := fun n l μ => if n = 3 then aX0_start l μ else if n = 4 then aX0_labour l μ else if n = 5 then aX0_lock l μ else if n = 6 then aX0_unlock l μ else if n = 7 then aX0_finish l μ else if n = 8 then aX0_collect l μ else if n = 10 then aX0_fellAll l μ else if n = 9 then aX0_setBulk l μ else none
theorem hcX0_act {base : Nat} {D : va_G} {ca : Nat → ClassId} {cv : Nat → Value} (hcv : ∀ j, (cv j).category = 1) : ∀ M as μ r, cfX0_act M as μ = some r → qGood false base D ca cv 1005 M as μ r := by
  intro M as μ r h
  unfold cfX0_act at h
  split at h
  · rename_i e; subst e; exact (gaX0_start hcv h).mono (by omega)
  split at h
  · rename_i e; subst e; exact (gaX0_labour hcv h).mono (by omega)
  split at h
  · rename_i e; subst e; exact (gaX0_lock hcv h).mono (by omega)
  split at h
  · rename_i e; subst e; exact (gaX0_unlock hcv h).mono (by omega)
  split at h
  · rename_i e; subst e; exact (gaX0_finish hcv h).mono (by omega)
  split at h
  · rename_i e; subst e; exact (gaX0_collect hcv h).mono (by omega)
  split at h
  · rename_i e; subst e; exact (gaX0_fellAll hcv h).mono (by omega)
  split at h
  · rename_i e; subst e; exact (gaX0_setBulk hcv h).mono (by omega)
  cases h
theorem npX0_act : (parseMethodDescriptor (qmy 2).desc).map (fun d => d.parameters.length) = some 5 := by decide +kernel
set_option maxRecDepth 100000 in
theorem gdX0_act {base : Nat} {D : va_G} {ca : Nat → ClassId} {cv : Nat → Value} (hcv : ∀ j, (cv j).category = 1) {a0 : Nat} {a1 : Int32} {a2 : Int32} {a3 : Int32} {a4 : Int32} {a5 : Nat} {μ : qM} {r : qR} (h : fX0_act a0 a1 a2 a3 a4 a5 μ = some r) : qGood false base D ca cv 1006 2 [.ref a0, .int a1, .int a2, .int a3, .int a4, .ref a5] μ r := by
  unfold fX0_act at h
  split at h
  · rename_i hk0
    exact qgood_of (by decide) (by omega) hcv (Or.inr ⟨by decide +kernel, hk0⟩) npX0_act rfl (Nat.le_of_ble_eq_true rfl) rfl (qblk_ev2 (cf := cfX0_act) (st := (fun n => qin [] n)) (K := (fun pc L S μ => none)) (cd := qcX0_act) (M := 2) (d0 := 1005) rfl qcok_X0_act (Nat.le_refl _) (hcX0_act hcv) (by
    intro pc L S μ r h
    cases h) 400 (pc := 0) (L := qent [.ref a0, .int a1, .int a2, .int a3, .int a4, .ref a5] 6) (S := []) h)
  · cases h
theorem gaX0_act {base : Nat} {D : va_G} {ca : Nat → ClassId} {cv : Nat → Value} (hcv : ∀ j, (cv j).category = 1) {l : List Value} {μ : qM} {r : qR} (h : aX0_act l μ = some r) : qGood false base D ca cv 1006 2 l μ r := by
  unfold aX0_act at h
  split at h
  · exact gdX0_act hcv h
  · cases h
noncomputable def gX0_costOf (a0 : Nat) (a1 : Int32) (a2 : Nat) (μ : qM) : Option qR :=
  qbnd (oGetP μ 0 a0 1) fun v1 =>
  qbnd (oGetP μ 0 a0 0) fun v2 =>
  qbnd (fX2_read v1 v2 μ) fun r3 =>
  qbnd (oGetP r3.2.2 0 a0 0) fun v4 =>
  qbnd (oGetP r3.2.2 0 a0 1) fun v5 =>
  qbnd (fX2_waiters v5 a1 r3.2.2) fun r6 =>
  qbnd (fX4_cost a2 v4 a1 r6.1 r6.2.2) fun r7 =>
  some (r7.1, 0, r7.2.2)
noncomputable def fX0_costOf (a0 : Nat) (a1 : Int32) (a2 : Nat) (μ : qM) : Option qR := if (qk μ a0).1 = 0 then gX0_costOf a0 a1 a2 μ else none
noncomputable def aX0_costOf (l : List Value) (μ : qM) : Option qR := match l with
  | [.ref x0, .int x1, .ref x2] => fX0_costOf x0 x1 x2 μ
  | _ => none
noncomputable def cfX0_costOf : qF := fun n l μ => if n = 25 then aX2_read l μ else if n = 26 then aX2_waiters l μ else if n = 47 then aX4_cost l μ else none
theorem hcX0_costOf {base : Nat} {D : va_G} {ca : Nat → ClassId} {cv : Nat → Value} (hcv : ∀ j, (cv j).category = 1) : ∀ M as μ r, cfX0_costOf M as μ = some r → qGood false base D ca cv 4 M as μ r := by
  intro M as μ r h
  unfold cfX0_costOf at h
  split at h
  · rename_i e; subst e; exact (gaX2_read hcv h).mono (by omega)
  split at h
  · rename_i e; subst e; exact (gaX2_waiters hcv h).mono (by omega)
  split at h
  · rename_i e; subst e; exact (gaX4_cost hcv h).mono (by omega)
  cases h
theorem npX0_costOf : (parseMethodDescriptor (qmy 12).desc).map (fun d => d.parameters.length) = some 2 := by decide +kernel
set_option maxRecDepth 100000 in
theorem gdX0_costOf {base : Nat} {D : va_G} {ca : Nat → ClassId} {cv : Nat → Value} (hcv : ∀ j, (cv j).category = 1) {a0 : Nat} {a1 : Int32} {a2 : Nat} {μ : qM} {r : qR} (h : fX0_costOf a0 a1 a2 μ = some r) : qGood false base D ca cv 5 12 [.ref a0, .int a1, .ref a2] μ r := by
  unfold fX0_costOf at h
  split at h
  · rename_i hk0
    exact qgood_of (by decide) (by omega) hcv (Or.inr ⟨by decide +kernel, hk0⟩) npX0_costOf rfl (Nat.le_of_ble_eq_true rfl) rfl (qblk_ev2 (cf := cfX0_costOf) (st := (fun n => qin [] n)) (K := (fun pc L S μ => none)) (cd := qcX0_costOf) (M := 12) (d0 := 4) rfl qcok_X0_costOf (Nat.le_refl _) (hcX0_costOf hcv) (by
    intro pc L S μ r h
    cases h) 400 (pc := 0) (L := qent [.ref a0, .int a1, .ref a2] 3) (S := []) h)
  · cases h
theorem gaX0_costOf {base : Nat} {D : va_G} {ca : Nat → ClassId} {cv : Nat → Value} (hcv : ∀ j, (cv j).category = 1) {l : List Value} {μ : qM} {r : qR} (h : aX0_costOf l μ = some r) : qGood false base D ca cv 5 12 l μ r := by
  unfold aX0_costOf at h
  split at h
  · exact gdX0_costOf hcv h
  · cases h
noncomputable def gX5_copy (a0 : Nat) (a1 : Nat) (μ : qM) : Option qR :=
  qbnd (oGetP μ 5 a1 0) fun v1 =>
  qbnd (oGetP μ 5 a0 0) fun v2 =>
  qbnd (oCpy μ v1 (0 : Int32) v2 (0 : Int32) (85 : Int32)) fun μ3 =>
  qbnd (oGetP μ3 5 a1 1) fun v4 =>
  qbnd (oGetP μ3 5 a0 1) fun v5 =>
  qbnd (oCpy μ3 v4 (0 : Int32) v5 (0 : Int32) (8 : Int32)) fun μ6 =>
  qbnd (oGetP μ6 5 a1 2) fun v7 =>
  qbnd (oGetP μ6 5 a0 2) fun v8 =>
  qbnd (oCpy μ6 v7 (0 : Int32) v8 (0 : Int32) (8 : Int32)) fun μ9 =>
  qbnd (oGetP μ9 5 a1 3) fun v10 =>
  qbnd (oGetP μ9 5 a0 3) fun v11 =>
  qbnd (oCpy μ9 v10 (0 : Int32) v11 (0 : Int32) (8 : Int32)) fun μ12 =>
  qbnd (oGetP μ12 5 a1 4) fun v13 =>
  qbnd (oGetP μ12 5 a0 4) fun v14 =>
  qbnd (oCpy μ12 v13 (0 : Int32) v14 (0 : Int32) (8 : Int32)) fun μ15 =>
  qbnd (oGetP μ15 5 a1 5) fun v16 =>
  qbnd (oGetP μ15 5 a0 5) fun v17 =>
  qbnd (oCpy μ15 v16 (0 : Int32) v17 (0 : Int32) (8 : Int32)) fun μ18 =>
  qbnd (oGetP μ18 5 a1 6) fun v19 =>
  qbnd (oGetP μ18 5 a0 6) fun v20 =>
  qbnd (oCpy μ18 v19 (0 : Int32) v20 (0 : Int32) (8 : Int32)) fun μ21 =>
  qbnd (oGetP μ21 5 a1 7) fun v22 =>
  qbnd (oGetP μ21 5 a0 7) fun v23 =>
  qbnd (oCpy μ21 v22 (0 : Int32) v23 (0 : Int32) (8 : Int32)) fun μ24 =>
  qbnd (oGetP μ24 5 a1 8) fun v25 =>
  qbnd (oGetP μ24 5 a0 8) fun v26 =>
  qbnd (oCpy μ24 v25 (0 : Int32) v26 (0 : Int32) (8 : Int32)) fun μ27 =>
  qbnd (oGetP μ27 5 a1 9) fun v28 =>
  qbnd (oGetP μ27 5 a0 9) fun v29 =>
  qbnd (oCpy μ27 v28 (0 : Int32) v29 (0 : Int32) (8 : Int32)) fun μ30 =>
  qbnd (oGetI μ30 5 a1 10) fun v31 =>
  qbnd (oPutI μ30 5 a0 10 v31) fun μ32 =>
  qbnd (oGetI μ32 5 a1 11) fun v33 =>
  qbnd (oPutI μ32 5 a0 11 v33) fun μ34 =>
  qbnd (oGetI μ34 5 a1 12) fun v35 =>
  qbnd (oPutI μ34 5 a0 12 v35) fun μ36 =>
  some (0, 0, μ36)
noncomputable def fX5_copy (a0 : Nat) (a1 : Nat) (μ : qM) : Option qR := if (qk μ a0).1 = 5 then gX5_copy a0 a1 μ else none
noncomputable def aX5_copy (l : List Value) (μ : qM) : Option qR := match l with
  | [.ref x0, .ref x1] => fX5_copy x0 x1 μ
  | _ => none
noncomputable def cfX5_copy : qF := fun n l μ => none
theorem hcX5_copy {base : Nat} {D : va_G} {ca : Nat → ClassId} {cv : Nat → Value} (hcv : ∀ j, (cv j).category = 1) : ∀ M as μ r, cfX5_copy M as μ = some r → qGood false base D ca cv 0 M as μ r := by
  intro M as μ r h
  cases h
theorem npX5_copy : (parseMethodDescriptor (qmy 53).desc).map (fun d => d.parameters.length) = some 1 := by decide +kernel
set_option maxRecDepth 100000 in
theorem gdX5_copy {base : Nat} {D : va_G} {ca : Nat → ClassId} {cv : Nat → Value} (hcv : ∀ j, (cv j).category = 1) {a0 : Nat} {a1 : Nat} {μ : qM} {r : qR} (h : fX5_copy a0 a1 μ = some r) : qGood false base D ca cv 1 53 [.ref a0, .ref a1] μ r := by
  unfold fX5_copy at h
  split at h
  · rename_i hk0
    exact qgood_of (by decide) (by omega) hcv (Or.inr ⟨by decide +kernel, hk0⟩) npX5_copy rfl (Nat.le_of_ble_eq_true rfl) rfl (qblk_ev2 (cf := cfX5_copy) (st := (fun n => qin [] n)) (K := (fun pc L S μ => none)) (cd := qcX5_copy) (M := 53) (d0 := 0) rfl qcok_X5_copy (Nat.le_refl _) (hcX5_copy hcv) (by
    intro pc L S μ r h
    cases h) 400 (pc := 0) (L := qent [.ref a0, .ref a1] 2) (S := []) h)
  · cases h
theorem gaX5_copy {base : Nat} {D : va_G} {ca : Nat → ClassId} {cv : Nat → Value} (hcv : ∀ j, (cv j).category = 1) {l : List Value} {μ : qM} {r : qR} (h : aX5_copy l μ = some r) : qGood false base D ca cv 1 53 l μ r := by
  unfold aX5_copy at h
  split at h
  · exact gdX5_copy hcv h
  · cases h
noncomputable def gX1_mark (a0 : Nat) (a1 : Nat) (μ : qM) : Option qR :=
  qbnd (oGetP μ 1 a0 0) fun v1 =>
  qbnd (oGetI μ 1 a0 1) fun v2 =>
  qbnd (oGetI μ 1 a0 2) fun v3 =>
  if (11 : Int32) = 0 then none else
  qbnd (oLdP μ v1 ((v2 + v3) - (v2 + v3) / (11 : Int32) * (11 : Int32))) fun v4 =>
  qbnd (fX5_copy v4 a1 μ) fun r5 =>
  some (0, 0, r5.2.2)
noncomputable def fX1_mark (a0 : Nat) (a1 : Nat) (μ : qM) : Option qR := if (qk μ a0).1 = 1 then gX1_mark a0 a1 μ else none
noncomputable def aX1_mark (l : List Value) (μ : qM) : Option qR := match l with
  | [.ref x0, .ref x1] => fX1_mark x0 x1 μ
  | _ => none
noncomputable def cfX1_mark : qF := fun n l μ => if n = 53 then aX5_copy l μ else none
theorem hcX1_mark {base : Nat} {D : va_G} {ca : Nat → ClassId} {cv : Nat → Value} (hcv : ∀ j, (cv j).category = 1) : ∀ M as μ r, cfX1_mark M as μ = some r → qGood false base D ca cv 1 M as μ r := by
  intro M as μ r h
  unfold cfX1_mark at h
  split at h
  · rename_i e; subst e; exact (gaX5_copy hcv h).mono (by omega)
  cases h
theorem npX1_mark : (parseMethodDescriptor (qmy 21).desc).map (fun d => d.parameters.length) = some 1 := by decide +kernel
set_option maxRecDepth 100000 in
theorem gdX1_mark {base : Nat} {D : va_G} {ca : Nat → ClassId} {cv : Nat → Value} (hcv : ∀ j, (cv j).category = 1) {a0 : Nat} {a1 : Nat} {μ : qM} {r : qR} (h : fX1_mark a0 a1 μ = some r) : qGood false base D ca cv 2 21 [.ref a0, .ref a1] μ r := by
  unfold fX1_mark at h
  split at h
  · rename_i hk0
    exact qgood_of (by decide) (by omega) hcv (Or.inr ⟨by decide +kernel, hk0⟩) npX1_mark rfl (Nat.le_of_ble_eq_true rfl) rfl (qblk_ev2 (cf := cfX1_mark) (st := (fun n => qin [] n)) (K := (fun pc L S μ => none)) (cd := qcX1_mark) (M := 21) (d0 := 1) rfl qcok_X1_mark (Nat.le_refl _) (hcX1_mark hcv) (by
    intro pc L S μ r h
    cases h) 400 (pc := 0) (L := qent [.ref a0, .ref a1] 2) (S := []) h)
  · cases h
theorem gaX1_mark {base : Nat} {D : va_G} {ca : Nat → ClassId} {cv : Nat → Value} (hcv : ∀ j, (cv j).category = 1) {l : List Value} {μ : qM} {r : qR} (h : aX1_mark l μ = some r) : qGood false base D ca cv 2 21 l μ r := by
  unfold aX1_mark at h
  split at h
  · exact gdX1_mark hcv h
  · cases h
noncomputable def gX1_commit (a0 : Nat) (μ : qM) : Option qR :=
  qbnd (oGetI μ 1 a0 2) fun v1 =>
  if (10 : Int32) ≤ v1 then
    qbnd (oGetI μ 1 a0 1) fun v2 =>
    if (11 : Int32) = 0 then none else
    qbnd (oPutI μ 1 a0 1 ((v2 + (1 : Int32)) - (v2 + (1 : Int32)) / (11 : Int32) * (11 : Int32))) fun μ3 =>
    some (0, 0, μ3)
  else
    qbnd (oGetI μ 1 a0 2) fun v4 =>
    qbnd (oPutI μ 1 a0 2 (v4 + (1 : Int32))) fun μ5 =>
    some (0, 0, μ5)
noncomputable def fX1_commit (a0 : Nat) (μ : qM) : Option qR := if (qk μ a0).1 = 1 then gX1_commit a0 μ else none
noncomputable def aX1_commit (l : List Value) (μ : qM) : Option qR := match l with
  | [.ref x0] => fX1_commit x0 μ
  | _ => none
noncomputable def cfX1_commit : qF := fun n l μ => none
theorem hcX1_commit {base : Nat} {D : va_G} {ca : Nat → ClassId} {cv : Nat → Value} (hcv : ∀ j, (cv j).category = 1) : ∀ M as μ r, cfX1_commit M as μ = some r → qGood false base D ca cv 0 M as μ r := by
  intro M as μ r h
  cases h
theorem npX1_commit : (parseMethodDescriptor (qmy 22).desc).map (fun d => d.parameters.length) = some 0 := by decide +kernel
set_option maxRecDepth 100000 in
theorem gdX1_commit {base : Nat} {D : va_G} {ca : Nat → ClassId} {cv : Nat → Value} (hcv : ∀ j, (cv j).category = 1) {a0 : Nat} {μ : qM} {r : qR} (h : fX1_commit a0 μ = some r) : qGood false base D ca cv 1 22 [.ref a0] μ r := by
  unfold fX1_commit at h
  split at h
  · rename_i hk0
    exact qgood_of (by decide) (by omega) hcv (Or.inr ⟨by decide +kernel, hk0⟩) npX1_commit rfl (Nat.le_of_ble_eq_true rfl) rfl (qblk_ev2 (cf := cfX1_commit) (st := (fun n => qin [] n)) (K := (fun pc L S μ => none)) (cd := qcX1_commit) (M := 22) (d0 := 0) rfl qcok_X1_commit (Nat.le_refl _) (hcX1_commit hcv) (by
    intro pc L S μ r h
    cases h) 400 (pc := 0) (L := qent [.ref a0] 1) (S := []) h)
  · cases h
theorem gaX1_commit {base : Nat} {D : va_G} {ca : Nat → ClassId} {cv : Nat → Value} (hcv : ∀ j, (cv j).category = 1) {l : List Value} {μ : qM} {r : qR} (h : aX1_commit l μ = some r) : qGood false base D ca cv 1 22 l μ r := by
  unfold aX1_commit at h
  split at h
  · exact gdX1_commit hcv h
  · cases h
noncomputable def gX1_back (a0 : Nat) (a1 : Nat) (μ : qM) : Option qR :=
  qbnd (oGetI μ 1 a0 2) fun v1 =>
  if v1 ≤ 0 then
    some (0, 0, μ)
  else
    qbnd (oGetI μ 1 a0 2) fun v2 =>
    qbnd (oPutI μ 1 a0 2 (v2 - (1 : Int32))) fun μ3 =>
    qbnd (oGetP μ3 1 a0 0) fun v4 =>
    qbnd (oGetI μ3 1 a0 1) fun v5 =>
    qbnd (oGetI μ3 1 a0 2) fun v6 =>
    if (11 : Int32) = 0 then none else
    qbnd (oLdP μ3 v4 ((v5 + v6) - (v5 + v6) / (11 : Int32) * (11 : Int32))) fun v7 =>
    qbnd (fX5_copy a1 v7 μ3) fun r8 =>
    some (0, 0, r8.2.2)
noncomputable def fX1_back (a0 : Nat) (a1 : Nat) (μ : qM) : Option qR := if (qk μ a0).1 = 1 then gX1_back a0 a1 μ else none
noncomputable def aX1_back (l : List Value) (μ : qM) : Option qR := match l with
  | [.ref x0, .ref x1] => fX1_back x0 x1 μ
  | _ => none
noncomputable def cfX1_back : qF := fun n l μ => if n = 53 then aX5_copy l μ else none
theorem hcX1_back {base : Nat} {D : va_G} {ca : Nat → ClassId} {cv : Nat → Value} (hcv : ∀ j, (cv j).category = 1) : ∀ M as μ r, cfX1_back M as μ = some r → qGood false base D ca cv 1 M as μ r := by
  intro M as μ r h
  unfold cfX1_back at h
  split at h
  · rename_i e; subst e; exact (gaX5_copy hcv h).mono (by omega)
  cases h
theorem npX1_back : (parseMethodDescriptor (qmy 23).desc).map (fun d => d.parameters.length) = some 1 := by decide +kernel
set_option maxRecDepth 100000 in
theorem gdX1_back {base : Nat} {D : va_G} {ca : Nat → ClassId} {cv : Nat → Value} (hcv : ∀ j, (cv j).category = 1) {a0 : Nat} {a1 : Nat} {μ : qM} {r : qR} (h : fX1_back a0 a1 μ = some r) : qGood false base D ca cv 2 23 [.ref a0, .ref a1] μ r := by
  unfold fX1_back at h
  split at h
  · rename_i hk0
    exact qgood_of (by decide) (by omega) hcv (Or.inr ⟨by decide +kernel, hk0⟩) npX1_back rfl (Nat.le_of_ble_eq_true rfl) rfl (qblk_ev2 (cf := cfX1_back) (st := (fun n => qin [] n)) (K := (fun pc L S μ => none)) (cd := qcX1_back) (M := 23) (d0 := 1) rfl qcok_X1_back (Nat.le_refl _) (hcX1_back hcv) (by
    intro pc L S μ r h
    cases h) 400 (pc := 0) (L := qent [.ref a0, .ref a1] 2) (S := []) h)
  · cases h
theorem gaX1_back {base : Nat} {D : va_G} {ca : Nat → ClassId} {cv : Nat → Value} (hcv : ∀ j, (cv j).category = 1) {l : List Value} {μ : qM} {r : qR} (h : aX1_back l μ = some r) : qGood false base D ca cv 2 23 l μ r := by
  unfold aX1_back at h
  split at h
  · exact gdX1_back hcv h
  · cases h
noncomputable def fX2_reachers_4 : Nat → Nat → Int32 → Int32 → Int32 → qM → Option qR
  | 0 => fun _ _ _ _ _ => none
  | n + 1 => fun x0 x1 x2 x3 μ =>
    if (8 : Int32) ≤ x3 then
      some (x2, 0, μ)
    else
      qbnd (oGetP μ 2 x0 1) fun v1 =>
      qbnd (oLdI 20 μ v1 x3) fun v2 =>
      let w3 : Int32 := (x2 ||| (((qush v2 x1) &&& (1 : Int32)) <<< (x3 &&& 31)))
      fX2_reachers_4 n x0 x1 w3 (x3 + (1 : Int32)) μ
noncomputable def gX2_reachers (a0 : Nat) (a1 : Int32) (μ : qM) : Option qR :=
  fX2_reachers_4 qfu a0 a1 (0 : Int32) (0 : Int32) μ
noncomputable def fX2_reachers (a0 : Nat) (a1 : Int32) (μ : qM) : Option qR := if (qk μ a0).1 = 2 then gX2_reachers a0 a1 μ else none
noncomputable def aX2_reachers (l : List Value) (μ : qM) : Option qR := match l with
  | [.ref x0, .int x1] => fX2_reachers x0 x1 μ
  | _ => none
noncomputable def cfX2_reachers : qF := fun n l μ => none
theorem hcX2_reachers {base : Nat} {D : va_G} {ca : Nat → ClassId} {cv : Nat → Value} (hcv : ∀ j, (cv j).category = 1) : ∀ M as μ r, cfX2_reachers M as μ = some r → qGood false base D ca cv 0 M as μ r := by
  intro M as μ r h
  cases h
def jX2_reachers_4 (f : Nat → Int32 → Int32 → Int32 → qM → Option qR) (L S : List Value) (μ : qM) : Option qR := match L, S with
  | [.ref x0, .int x1, .int x2, .int x3], [] => f x0 x1 x2 x3 μ
  | _, _ => none
theorem jeX2_reachers_4 {base : Nat} {D : va_G} {ca : Nat → ClassId} {cv : Nat → Value} {d : Nat} {f : Nat → Int32 → Int32 → Int32 → qM → Option qR} (hf : ∀ (x0 : Nat) (x1 : Int32) (x2 : Int32) (x3 : Int32) (μ : qM) (r : qR), f x0 x1 x2 x3 μ = some r → qEv false base D ca cv d 27 r 4 [.ref x0, .int x1, .int x2, .int x3] [] μ) {L S : List Value} {μ : qM} {r : qR} (h : jX2_reachers_4 f L S μ = some r) : qEv false base D ca cv d 27 r 4 L S μ := by
  unfold jX2_reachers_4 at h
  split at h
  · exact (hf _ _ _ _ _ _ h).le rfl ⟨Or.inr rfl, Or.inr rfl, Or.inr rfl, Or.inr rfl, trivial⟩
  · cases h
set_option maxRecDepth 100000 in
theorem lbX2_reachers_4 {base : Nat} {D : va_G} {ca : Nat → ClassId} {cv : Nat → Value} (hcv : ∀ j, (cv j).category = 1) : ∀ (n : Nat) (x0 : Nat) (x1 : Int32) (x2 : Int32) (x3 : Int32) (μ : qM) (r : qR), fX2_reachers_4 n x0 x1 x2 x3 μ = some r → qEv false base D ca cv 1 27 r 4 [.ref x0, .int x1, .int x2, .int x3] [] μ := by
  intro n
  induction n with
  | zero => intro x0 x1 x2 x3 μ r h; cases (show (none : Option qR) = some r from h)
  | succ n ih =>
    intro x0 x1 x2 x3 μ r h
    exact qblk_ev2 (cf := cfX2_reachers) (st := (fun n => qin [4] n)) (K := (fun pc L S μ => if pc = 4 then jX2_reachers_4 (fX2_reachers_4 n) L S μ else none)) (cd := qcX2_reachers) (M := 27) (d0 := 0) rfl qcok_X2_reachers (Nat.le_refl _) (hcX2_reachers hcv) (by
    intro pc L S μ r h
    split at h
    · rename_i e; subst e; exact jeX2_reachers_4 ih h
    cases h) 400 (pc := 4) (L := [.ref x0, .int x1, .int x2, .int x3]) (S := []) h
theorem npX2_reachers : (parseMethodDescriptor (qmy 27).desc).map (fun d => d.parameters.length) = some 1 := by decide +kernel
set_option maxRecDepth 100000 in
theorem gdX2_reachers {base : Nat} {D : va_G} {ca : Nat → ClassId} {cv : Nat → Value} (hcv : ∀ j, (cv j).category = 1) {a0 : Nat} {a1 : Int32} {μ : qM} {r : qR} (h : fX2_reachers a0 a1 μ = some r) : qGood false base D ca cv 1 27 [.ref a0, .int a1] μ r := by
  unfold fX2_reachers at h
  split at h
  · rename_i hk0
    exact qgood_of (by decide) (by omega) hcv (Or.inr ⟨by decide +kernel, hk0⟩) npX2_reachers rfl (Nat.le_of_ble_eq_true rfl) rfl (qblk_ev2 (cf := cfX2_reachers) (st := (fun n => qin [4] n)) (K := (fun pc L S μ => if pc = 4 then jX2_reachers_4 (fX2_reachers_4 qfu) L S μ else none)) (cd := qcX2_reachers) (M := 27) (d0 := 0) rfl qcok_X2_reachers (Nat.le_refl _) (hcX2_reachers hcv) (by
    intro pc L S μ r h
    split at h
    · rename_i e; subst e; exact jeX2_reachers_4 (lbX2_reachers_4 hcv qfu) h
    cases h) 400 (pc := 0) (L := qent [.ref a0, .int a1] 4) (S := []) h)
  · cases h
theorem gaX2_reachers {base : Nat} {D : va_G} {ca : Nat → ClassId} {cv : Nat → Value} (hcv : ∀ j, (cv j).category = 1) {l : List Value} {μ : qM} {r : qR} (h : aX2_reachers l μ = some r) : qGood false base D ca cv 1 27 l μ r := by
  unfold aX2_reachers at h
  split at h
  · exact gdX2_reachers hcv h
  · cases h
noncomputable def fX2_nearer_2 : Nat → Nat → Int32 → Int32 → Int32 → qM → Option qR
  | 0 => fun _ _ _ _ _ => none
  | n + 1 => fun x0 x1 x2 x3 μ =>
    if (8 : Int32) ≤ x3 then
      some ((-1 : Int32), 0, μ)
    else
      if x1 = (-1 : Int32) then
        some ((-1 : Int32), 0, μ)
      else
        qbnd (oGetP μ 2 x0 0) fun v1 =>
        qbnd (oLdI 20 μ v1 x1) fun v2 =>
        if ((qush v2 x3) &&& (1 : Int32)) = 0 then
          fX2_nearer_2 n x0 x1 x2 (x3 + (1 : Int32)) μ
        else
          qbnd (oGetP μ 2 x0 2) fun v3 =>
          qbnd (oLdI 20 μ v3 x3) fun v4 =>
          if v4 = x2 then
            some (x3, 0, μ)
          else
            fX2_nearer_2 n x0 x1 x2 (x3 + (1 : Int32)) μ
noncomputable def gX2_nearer (a0 : Nat) (a1 : Int32) (a2 : Int32) (μ : qM) : Option qR :=
  fX2_nearer_2 qfu a0 a1 a2 (0 : Int32) μ
noncomputable def fX2_nearer (a0 : Nat) (a1 : Int32) (a2 : Int32) (μ : qM) : Option qR := if (qk μ a0).1 = 2 then gX2_nearer a0 a1 a2 μ else none
noncomputable def aX2_nearer (l : List Value) (μ : qM) : Option qR := match l with
  | [.ref x0, .int x1, .int x2] => fX2_nearer x0 x1 x2 μ
  | _ => none
noncomputable def cfX2_nearer : qF := fun n l μ => none
theorem hcX2_nearer {base : Nat} {D : va_G} {ca : Nat → ClassId} {cv : Nat → Value} (hcv : ∀ j, (cv j).category = 1) : ∀ M as μ r, cfX2_nearer M as μ = some r → qGood false base D ca cv 0 M as μ r := by
  intro M as μ r h
  cases h
def jX2_nearer_2 (f : Nat → Int32 → Int32 → Int32 → qM → Option qR) (L S : List Value) (μ : qM) : Option qR := match L, S with
  | [.ref x0, .int x1, .int x2, .int x3], [] => f x0 x1 x2 x3 μ
  | _, _ => none
theorem jeX2_nearer_2 {base : Nat} {D : va_G} {ca : Nat → ClassId} {cv : Nat → Value} {d : Nat} {f : Nat → Int32 → Int32 → Int32 → qM → Option qR} (hf : ∀ (x0 : Nat) (x1 : Int32) (x2 : Int32) (x3 : Int32) (μ : qM) (r : qR), f x0 x1 x2 x3 μ = some r → qEv false base D ca cv d 31 r 2 [.ref x0, .int x1, .int x2, .int x3] [] μ) {L S : List Value} {μ : qM} {r : qR} (h : jX2_nearer_2 f L S μ = some r) : qEv false base D ca cv d 31 r 2 L S μ := by
  unfold jX2_nearer_2 at h
  split at h
  · exact (hf _ _ _ _ _ _ h).le rfl ⟨Or.inr rfl, Or.inr rfl, Or.inr rfl, Or.inr rfl, trivial⟩
  · cases h
set_option maxRecDepth 100000 in
theorem lbX2_nearer_2 {base : Nat} {D : va_G} {ca : Nat → ClassId} {cv : Nat → Value} (hcv : ∀ j, (cv j).category = 1) : ∀ (n : Nat) (x0 : Nat) (x1 : Int32) (x2 : Int32) (x3 : Int32) (μ : qM) (r : qR), fX2_nearer_2 n x0 x1 x2 x3 μ = some r → qEv false base D ca cv 1 31 r 2 [.ref x0, .int x1, .int x2, .int x3] [] μ := by
  intro n
  induction n with
  | zero => intro x0 x1 x2 x3 μ r h; cases (show (none : Option qR) = some r from h)
  | succ n ih =>
    intro x0 x1 x2 x3 μ r h
    exact qblk_ev2 (cf := cfX2_nearer) (st := (fun n => qin [2] n)) (K := (fun pc L S μ => if pc = 2 then jX2_nearer_2 (fX2_nearer_2 n) L S μ else none)) (cd := qcX2_nearer) (M := 31) (d0 := 0) rfl qcok_X2_nearer (Nat.le_refl _) (hcX2_nearer hcv) (by
    intro pc L S μ r h
    split at h
    · rename_i e; subst e; exact jeX2_nearer_2 ih h
    cases h) 400 (pc := 2) (L := [.ref x0, .int x1, .int x2, .int x3]) (S := []) h
theorem npX2_nearer : (parseMethodDescriptor (qmy 31).desc).map (fun d => d.parameters.length) = some 2 := by decide +kernel
set_option maxRecDepth 100000 in
theorem gdX2_nearer {base : Nat} {D : va_G} {ca : Nat → ClassId} {cv : Nat → Value} (hcv : ∀ j, (cv j).category = 1) {a0 : Nat} {a1 : Int32} {a2 : Int32} {μ : qM} {r : qR} (h : fX2_nearer a0 a1 a2 μ = some r) : qGood false base D ca cv 1 31 [.ref a0, .int a1, .int a2] μ r := by
  unfold fX2_nearer at h
  split at h
  · rename_i hk0
    exact qgood_of (by decide) (by omega) hcv (Or.inr ⟨by decide +kernel, hk0⟩) npX2_nearer rfl (Nat.le_of_ble_eq_true rfl) rfl (qblk_ev2 (cf := cfX2_nearer) (st := (fun n => qin [2] n)) (K := (fun pc L S μ => if pc = 2 then jX2_nearer_2 (fX2_nearer_2 qfu) L S μ else none)) (cd := qcX2_nearer) (M := 31) (d0 := 0) rfl qcok_X2_nearer (Nat.le_refl _) (hcX2_nearer hcv) (by
    intro pc L S μ r h
    split at h
    · rename_i e; subst e; exact jeX2_nearer_2 (lbX2_nearer_2 hcv qfu) h
    cases h) 400 (pc := 0) (L := qent [.ref a0, .int a1, .int a2] 4) (S := []) h)
  · cases h
theorem gaX2_nearer {base : Nat} {D : va_G} {ca : Nat → ClassId} {cv : Nat → Value} (hcv : ∀ j, (cv j).category = 1) {l : List Value} {μ : qM} {r : qR} (h : aX2_nearer l μ = some r) : qGood false base D ca cv 1 31 l μ r := by
  unfold aX2_nearer at h
  split at h
  · exact gdX2_nearer hcv h
  · cases h
noncomputable def fX2_measure_24 (k19 : Nat → Int32 → qM → Option qR) : Nat → Nat → Int32 → Int32 → qM → Option qR
  | 0 => fun _ _ _ _ => none
  | n + 1 => fun x0 x2 x3 μ =>
    if (8 : Int32) ≤ x3 then
      k19 x0 (x2 + (1 : Int32)) μ
    else
      qbnd (oGetP μ 2 x0 2) fun v1 =>
      qbnd (oLdI 20 μ v1 x3) fun v2 =>
      if v2 = (8 : Int32) then
        qbnd (fX2_nearer x0 x3 (x2 - (1 : Int32)) μ) fun r3 =>
        if r3.1 = (-1 : Int32) then
          fX2_measure_24 k19 n x0 x2 (x3 + (1 : Int32)) r3.2.2
        else
          qbnd (oGetP r3.2.2 2 x0 2) fun v4 =>
          qbnd (oStI 20 r3.2.2 v4 x3 x2) fun μ5 =>
          fX2_measure_24 k19 n x0 x2 (x3 + (1 : Int32)) μ5
      else
        fX2_measure_24 k19 n x0 x2 (x3 + (1 : Int32)) μ
noncomputable def fX2_measure_19 : Nat → Nat → Int32 → qM → Option qR
  | 0 => fun _ _ _ => none
  | n + 1 => fun x0 x2 μ =>
    if (8 : Int32) ≤ x2 then
      some (0, 0, μ)
    else
      fX2_measure_24 (fX2_measure_19 n) qfu x0 x2 (0 : Int32) μ
noncomputable def fX2_measure_2 : Nat → Nat → Int32 → Int32 → qM → Option qR
  | 0 => fun _ _ _ _ => none
  | n + 1 => fun x0 x1 x2 μ =>
    if (8 : Int32) ≤ x2 then
      fX2_measure_19 qfu x0 (1 : Int32) μ
    else
      qbnd (oGetP μ 2 x0 2) fun v1 =>
      if x2 = x1 then
        qbnd (oStI 20 μ v1 x2 (0 : Int32)) fun μ3 =>
        fX2_measure_2 n x0 x1 (x2 + (1 : Int32)) μ3
      else
        qbnd (oStI 20 μ v1 x2 (8 : Int32)) fun μ2 =>
        fX2_measure_2 n x0 x1 (x2 + (1 : Int32)) μ2
noncomputable def gX2_measure (a0 : Nat) (a1 : Int32) (μ : qM) : Option qR :=
  fX2_measure_2 qfu a0 a1 (0 : Int32) μ
noncomputable def fX2_measure (a0 : Nat) (a1 : Int32) (μ : qM) : Option qR := if (qk μ a0).1 = 2 then gX2_measure a0 a1 μ else none
noncomputable def aX2_measure (l : List Value) (μ : qM) : Option qR := match l with
  | [.ref x0, .int x1] => fX2_measure x0 x1 μ
  | _ => none
noncomputable def cfX2_measure : qF := fun n l μ => if n = 31 then aX2_nearer l μ else none
theorem hcX2_measure {base : Nat} {D : va_G} {ca : Nat → ClassId} {cv : Nat → Value} (hcv : ∀ j, (cv j).category = 1) : ∀ M as μ r, cfX2_measure M as μ = some r → qGood false base D ca cv 1 M as μ r := by
  intro M as μ r h
  unfold cfX2_measure at h
  split at h
  · rename_i e; subst e; exact (gaX2_nearer hcv h).mono (by omega)
  cases h
def jX2_measure_2 (f : Nat → Int32 → Int32 → qM → Option qR) (L S : List Value) (μ : qM) : Option qR := match L, S with
  | [.ref x0, .int x1, .int x2, _], [] => f x0 x1 x2 μ
  | _, _ => none
theorem jeX2_measure_2 {base : Nat} {D : va_G} {ca : Nat → ClassId} {cv : Nat → Value} {d : Nat} {f : Nat → Int32 → Int32 → qM → Option qR} (hf : ∀ (x0 : Nat) (x1 : Int32) (x2 : Int32) (μ : qM) (r : qR), f x0 x1 x2 μ = some r → qEv false base D ca cv d 30 r 2 [.ref x0, .int x1, .int x2, .null] [] μ) {L S : List Value} {μ : qM} {r : qR} (h : jX2_measure_2 f L S μ = some r) : qEv false base D ca cv d 30 r 2 L S μ := by
  unfold jX2_measure_2 at h
  split at h
  · exact (hf _ _ _ _ _ h).le rfl ⟨Or.inr rfl, Or.inr rfl, Or.inr rfl, Or.inl rfl, trivial⟩
  · cases h
def jX2_measure_19 (f : Nat → Int32 → qM → Option qR) (L S : List Value) (μ : qM) : Option qR := match L, S with
  | [.ref x0, _, .int x2, _], [] => f x0 x2 μ
  | _, _ => none
theorem jeX2_measure_19 {base : Nat} {D : va_G} {ca : Nat → ClassId} {cv : Nat → Value} {d : Nat} {f : Nat → Int32 → qM → Option qR} (hf : ∀ (x0 : Nat) (x2 : Int32) (μ : qM) (r : qR), f x0 x2 μ = some r → qEv false base D ca cv d 30 r 19 [.ref x0, .null, .int x2, .null] [] μ) {L S : List Value} {μ : qM} {r : qR} (h : jX2_measure_19 f L S μ = some r) : qEv false base D ca cv d 30 r 19 L S μ := by
  unfold jX2_measure_19 at h
  split at h
  · exact (hf _ _ _ _ h).le rfl ⟨Or.inr rfl, Or.inl rfl, Or.inr rfl, Or.inl rfl, trivial⟩
  · cases h
def jX2_measure_24 (f : Nat → Int32 → Int32 → qM → Option qR) (L S : List Value) (μ : qM) : Option qR := match L, S with
  | [.ref x0, _, .int x2, .int x3], [] => f x0 x2 x3 μ
  | _, _ => none
theorem jeX2_measure_24 {base : Nat} {D : va_G} {ca : Nat → ClassId} {cv : Nat → Value} {d : Nat} {f : Nat → Int32 → Int32 → qM → Option qR} (hf : ∀ (x0 : Nat) (x2 : Int32) (x3 : Int32) (μ : qM) (r : qR), f x0 x2 x3 μ = some r → qEv false base D ca cv d 30 r 24 [.ref x0, .null, .int x2, .int x3] [] μ) {L S : List Value} {μ : qM} {r : qR} (h : jX2_measure_24 f L S μ = some r) : qEv false base D ca cv d 30 r 24 L S μ := by
  unfold jX2_measure_24 at h
  split at h
  · exact (hf _ _ _ _ _ h).le rfl ⟨Or.inr rfl, Or.inl rfl, Or.inr rfl, Or.inr rfl, trivial⟩
  · cases h
set_option maxRecDepth 100000 in
theorem lbX2_measure_24 {base : Nat} {D : va_G} {ca : Nat → ClassId} {cv : Nat → Value} (hcv : ∀ j, (cv j).category = 1) {k19 : Nat → Int32 → qM → Option qR} (hk19 : ∀ (y0 : Nat) (y2 : Int32) (μ : qM) (r : qR), k19 y0 y2 μ = some r → qEv false base D ca cv 2 30 r 19 [.ref y0, .null, .int y2, .null] [] μ) : ∀ (n : Nat) (x0 : Nat) (x2 : Int32) (x3 : Int32) (μ : qM) (r : qR), fX2_measure_24 k19 n x0 x2 x3 μ = some r → qEv false base D ca cv 2 30 r 24 [.ref x0, .null, .int x2, .int x3] [] μ := by
  intro n
  induction n with
  | zero => intro x0 x2 x3 μ r h; cases (show (none : Option qR) = some r from h)
  | succ n ih =>
    intro x0 x2 x3 μ r h
    exact qblk_ev2 (cf := cfX2_measure) (st := (fun n => qin [2, 19, 24] n)) (K := (fun pc L S μ => if pc = 19 then jX2_measure_19 k19 L S μ else if pc = 24 then jX2_measure_24 (fX2_measure_24 k19 n) L S μ else none)) (cd := qcX2_measure) (M := 30) (d0 := 1) rfl qcok_X2_measure (Nat.le_refl _) (hcX2_measure hcv) (by
    intro pc L S μ r h
    split at h
    · rename_i e; subst e; exact jeX2_measure_19 hk19 h
    split at h
    · rename_i e; subst e; exact jeX2_measure_24 ih h
    cases h) 400 (pc := 24) (L := [.ref x0, .null, .int x2, .int x3]) (S := []) h
set_option maxRecDepth 100000 in
theorem lbX2_measure_19 {base : Nat} {D : va_G} {ca : Nat → ClassId} {cv : Nat → Value} (hcv : ∀ j, (cv j).category = 1) : ∀ (n : Nat) (x0 : Nat) (x2 : Int32) (μ : qM) (r : qR), fX2_measure_19 n x0 x2 μ = some r → qEv false base D ca cv 2 30 r 19 [.ref x0, .null, .int x2, .null] [] μ := by
  intro n
  induction n with
  | zero => intro x0 x2 μ r h; cases (show (none : Option qR) = some r from h)
  | succ n ih =>
    intro x0 x2 μ r h
    exact qblk_ev2 (cf := cfX2_measure) (st := (fun n => qin [2, 19, 24] n)) (K := (fun pc L S μ => if pc = 24 then jX2_measure_24 (fX2_measure_24 (fX2_measure_19 n) qfu) L S μ else none)) (cd := qcX2_measure) (M := 30) (d0 := 1) rfl qcok_X2_measure (Nat.le_refl _) (hcX2_measure hcv) (by
    intro pc L S μ r h
    split at h
    · rename_i e; subst e; exact jeX2_measure_24 (lbX2_measure_24 hcv ih qfu) h
    cases h) 400 (pc := 19) (L := [.ref x0, .null, .int x2, .null]) (S := []) h
set_option maxRecDepth 100000 in
theorem lbX2_measure_2 {base : Nat} {D : va_G} {ca : Nat → ClassId} {cv : Nat → Value} (hcv : ∀ j, (cv j).category = 1) : ∀ (n : Nat) (x0 : Nat) (x1 : Int32) (x2 : Int32) (μ : qM) (r : qR), fX2_measure_2 n x0 x1 x2 μ = some r → qEv false base D ca cv 2 30 r 2 [.ref x0, .int x1, .int x2, .null] [] μ := by
  intro n
  induction n with
  | zero => intro x0 x1 x2 μ r h; cases (show (none : Option qR) = some r from h)
  | succ n ih =>
    intro x0 x1 x2 μ r h
    exact qblk_ev2 (cf := cfX2_measure) (st := (fun n => qin [2, 19, 24] n)) (K := (fun pc L S μ => if pc = 2 then jX2_measure_2 (fX2_measure_2 n) L S μ else if pc = 19 then jX2_measure_19 (fX2_measure_19 qfu) L S μ else none)) (cd := qcX2_measure) (M := 30) (d0 := 1) rfl qcok_X2_measure (Nat.le_refl _) (hcX2_measure hcv) (by
    intro pc L S μ r h
    split at h
    · rename_i e; subst e; exact jeX2_measure_2 ih h
    split at h
    · rename_i e; subst e; exact jeX2_measure_19 (lbX2_measure_19 hcv qfu) h
    cases h) 400 (pc := 2) (L := [.ref x0, .int x1, .int x2, .null]) (S := []) h
theorem npX2_measure : (parseMethodDescriptor (qmy 30).desc).map (fun d => d.parameters.length) = some 1 := by decide +kernel
set_option maxRecDepth 100000 in
theorem gdX2_measure {base : Nat} {D : va_G} {ca : Nat → ClassId} {cv : Nat → Value} (hcv : ∀ j, (cv j).category = 1) {a0 : Nat} {a1 : Int32} {μ : qM} {r : qR} (h : fX2_measure a0 a1 μ = some r) : qGood false base D ca cv 2 30 [.ref a0, .int a1] μ r := by
  unfold fX2_measure at h
  split at h
  · rename_i hk0
    exact qgood_of (by decide) (by omega) hcv (Or.inr ⟨by decide +kernel, hk0⟩) npX2_measure rfl (Nat.le_of_ble_eq_true rfl) rfl (qblk_ev2 (cf := cfX2_measure) (st := (fun n => qin [2, 19, 24] n)) (K := (fun pc L S μ => if pc = 2 then jX2_measure_2 (fX2_measure_2 qfu) L S μ else none)) (cd := qcX2_measure) (M := 30) (d0 := 1) rfl qcok_X2_measure (Nat.le_refl _) (hcX2_measure hcv) (by
    intro pc L S μ r h
    split at h
    · rename_i e; subst e; exact jeX2_measure_2 (lbX2_measure_2 hcv qfu) h
    cases h) 400 (pc := 0) (L := qent [.ref a0, .int a1] 4) (S := []) h)
  · cases h
theorem gaX2_measure {base : Nat} {D : va_G} {ca : Nat → ClassId} {cv : Nat → Value} (hcv : ∀ j, (cv j).category = 1) {l : List Value} {μ : qM} {r : qR} (h : aX2_measure l μ = some r) : qGood false base D ca cv 2 30 l μ r := by
  unfold aX2_measure at h
  split at h
  · exact gdX2_measure hcv h
  · cases h
noncomputable def fX2_shortest_41 : Nat → Nat → Int32 → Int32 → qM → Option qR
  | 0 => fun _ _ _ _ => none
  | n + 1 => fun x0 x2 x3 μ =>
    if x2 ≤ x3 then
      some (x2, 0, μ)
    else
      qbnd (oGetP μ 2 x0 3) fun v1 =>
      qbnd (oGetP μ 2 x0 3) fun v2 =>
      qbnd (oLdI 20 μ v2 (x3 - (1 : Int32))) fun v3 =>
      qbnd (fX2_nearer x0 v3 (x2 - x3) μ) fun r4 =>
      qbnd (oStI 20 r4.2.2 v1 x3 r4.1) fun μ5 =>
      fX2_shortest_41 n x0 x2 (x3 + (1 : Int32)) μ5
noncomputable def fX2_shortest_7 : Nat → Nat → Int32 → Int32 → Int32 → qM → Option qR
  | 0 => fun _ _ _ _ _ => none
  | n + 1 => fun x0 x1 x2 x3 μ =>
    if (8 : Int32) ≤ x3 then
      qbnd (oGetP μ 2 x0 3) fun v1 =>
      qbnd (oStI 20 μ v1 (0 : Int32) x1) fun μ2 =>
      fX2_shortest_41 qfu x0 x2 (1 : Int32) μ2
    else
      qbnd (oGetP μ 2 x0 0) fun v3 =>
      qbnd (oLdI 20 μ v3 x1) fun v4 =>
      if ((qush v4 x3) &&& (1 : Int32)) = 0 then
        fX2_shortest_7 n x0 x1 x2 (x3 + (1 : Int32)) μ
      else
        qbnd (oGetP μ 2 x0 2) fun v5 =>
        qbnd (oLdI 20 μ v5 x3) fun v6 =>
        if x2 ≤ v6 then
          fX2_shortest_7 n x0 x1 x2 (x3 + (1 : Int32)) μ
        else
          qbnd (oGetP μ 2 x0 2) fun v7 =>
          qbnd (oLdI 20 μ v7 x3) fun v8 =>
          fX2_shortest_7 n x0 x1 (v8 + (1 : Int32)) (x3 + (1 : Int32)) μ
noncomputable def gX2_shortest (a0 : Nat) (a1 : Int32) (μ : qM) : Option qR :=
  qbnd (fX2_measure a0 a1 μ) fun r1 =>
  fX2_shortest_7 qfu a0 a1 (8 : Int32) (0 : Int32) r1.2.2
noncomputable def fX2_shortest (a0 : Nat) (a1 : Int32) (μ : qM) : Option qR := if (qk μ a0).1 = 2 then gX2_shortest a0 a1 μ else none
noncomputable def aX2_shortest (l : List Value) (μ : qM) : Option qR := match l with
  | [.ref x0, .int x1] => fX2_shortest x0 x1 μ
  | _ => none
noncomputable def cfX2_shortest : qF := fun n l μ => if n = 30 then aX2_measure l μ else if n = 31 then aX2_nearer l μ else none
theorem hcX2_shortest {base : Nat} {D : va_G} {ca : Nat → ClassId} {cv : Nat → Value} (hcv : ∀ j, (cv j).category = 1) : ∀ M as μ r, cfX2_shortest M as μ = some r → qGood false base D ca cv 2 M as μ r := by
  intro M as μ r h
  unfold cfX2_shortest at h
  split at h
  · rename_i e; subst e; exact (gaX2_measure hcv h).mono (by omega)
  split at h
  · rename_i e; subst e; exact (gaX2_nearer hcv h).mono (by omega)
  cases h
def jX2_shortest_7 (f : Nat → Int32 → Int32 → Int32 → qM → Option qR) (L S : List Value) (μ : qM) : Option qR := match L, S with
  | [.ref x0, .int x1, .int x2, .int x3], [] => f x0 x1 x2 x3 μ
  | _, _ => none
theorem jeX2_shortest_7 {base : Nat} {D : va_G} {ca : Nat → ClassId} {cv : Nat → Value} {d : Nat} {f : Nat → Int32 → Int32 → Int32 → qM → Option qR} (hf : ∀ (x0 : Nat) (x1 : Int32) (x2 : Int32) (x3 : Int32) (μ : qM) (r : qR), f x0 x1 x2 x3 μ = some r → qEv false base D ca cv d 29 r 7 [.ref x0, .int x1, .int x2, .int x3] [] μ) {L S : List Value} {μ : qM} {r : qR} (h : jX2_shortest_7 f L S μ = some r) : qEv false base D ca cv d 29 r 7 L S μ := by
  unfold jX2_shortest_7 at h
  split at h
  · exact (hf _ _ _ _ _ _ h).le rfl ⟨Or.inr rfl, Or.inr rfl, Or.inr rfl, Or.inr rfl, trivial⟩
  · cases h
def jX2_shortest_41 (f : Nat → Int32 → Int32 → qM → Option qR) (L S : List Value) (μ : qM) : Option qR := match L, S with
  | [.ref x0, _, .int x2, .int x3], [] => f x0 x2 x3 μ
  | _, _ => none
theorem jeX2_shortest_41 {base : Nat} {D : va_G} {ca : Nat → ClassId} {cv : Nat → Value} {d : Nat} {f : Nat → Int32 → Int32 → qM → Option qR} (hf : ∀ (x0 : Nat) (x2 : Int32) (x3 : Int32) (μ : qM) (r : qR), f x0 x2 x3 μ = some r → qEv false base D ca cv d 29 r 41 [.ref x0, .null, .int x2, .int x3] [] μ) {L S : List Value} {μ : qM} {r : qR} (h : jX2_shortest_41 f L S μ = some r) : qEv false base D ca cv d 29 r 41 L S μ := by
  unfold jX2_shortest_41 at h
  split at h
  · exact (hf _ _ _ _ _ h).le rfl ⟨Or.inr rfl, Or.inl rfl, Or.inr rfl, Or.inr rfl, trivial⟩
  · cases h
set_option maxRecDepth 100000 in
theorem lbX2_shortest_41 {base : Nat} {D : va_G} {ca : Nat → ClassId} {cv : Nat → Value} (hcv : ∀ j, (cv j).category = 1) : ∀ (n : Nat) (x0 : Nat) (x2 : Int32) (x3 : Int32) (μ : qM) (r : qR), fX2_shortest_41 n x0 x2 x3 μ = some r → qEv false base D ca cv 3 29 r 41 [.ref x0, .null, .int x2, .int x3] [] μ := by
  intro n
  induction n with
  | zero => intro x0 x2 x3 μ r h; cases (show (none : Option qR) = some r from h)
  | succ n ih =>
    intro x0 x2 x3 μ r h
    exact qblk_ev2 (cf := cfX2_shortest) (st := (fun n => qin [7, 41] n)) (K := (fun pc L S μ => if pc = 41 then jX2_shortest_41 (fX2_shortest_41 n) L S μ else none)) (cd := qcX2_shortest) (M := 29) (d0 := 2) rfl qcok_X2_shortest (Nat.le_refl _) (hcX2_shortest hcv) (by
    intro pc L S μ r h
    split at h
    · rename_i e; subst e; exact jeX2_shortest_41 ih h
    cases h) 400 (pc := 41) (L := [.ref x0, .null, .int x2, .int x3]) (S := []) h
set_option maxRecDepth 100000 in
theorem lbX2_shortest_7 {base : Nat} {D : va_G} {ca : Nat → ClassId} {cv : Nat → Value} (hcv : ∀ j, (cv j).category = 1) : ∀ (n : Nat) (x0 : Nat) (x1 : Int32) (x2 : Int32) (x3 : Int32) (μ : qM) (r : qR), fX2_shortest_7 n x0 x1 x2 x3 μ = some r → qEv false base D ca cv 3 29 r 7 [.ref x0, .int x1, .int x2, .int x3] [] μ := by
  intro n
  induction n with
  | zero => intro x0 x1 x2 x3 μ r h; cases (show (none : Option qR) = some r from h)
  | succ n ih =>
    intro x0 x1 x2 x3 μ r h
    exact qblk_ev2 (cf := cfX2_shortest) (st := (fun n => qin [7, 41] n)) (K := (fun pc L S μ => if pc = 7 then jX2_shortest_7 (fX2_shortest_7 n) L S μ else if pc = 41 then jX2_shortest_41 (fX2_shortest_41 qfu) L S μ else none)) (cd := qcX2_shortest) (M := 29) (d0 := 2) rfl qcok_X2_shortest (Nat.le_refl _) (hcX2_shortest hcv) (by
    intro pc L S μ r h
    split at h
    · rename_i e; subst e; exact jeX2_shortest_7 ih h
    split at h
    · rename_i e; subst e; exact jeX2_shortest_41 (lbX2_shortest_41 hcv qfu) h
    cases h) 400 (pc := 7) (L := [.ref x0, .int x1, .int x2, .int x3]) (S := []) h
theorem npX2_shortest : (parseMethodDescriptor (qmy 29).desc).map (fun d => d.parameters.length) = some 1 := by decide +kernel
set_option maxRecDepth 100000 in
theorem gdX2_shortest {base : Nat} {D : va_G} {ca : Nat → ClassId} {cv : Nat → Value} (hcv : ∀ j, (cv j).category = 1) {a0 : Nat} {a1 : Int32} {μ : qM} {r : qR} (h : fX2_shortest a0 a1 μ = some r) : qGood false base D ca cv 3 29 [.ref a0, .int a1] μ r := by
  unfold fX2_shortest at h
  split at h
  · rename_i hk0
    exact qgood_of (by decide) (by omega) hcv (Or.inr ⟨by decide +kernel, hk0⟩) npX2_shortest rfl (Nat.le_of_ble_eq_true rfl) rfl (qblk_ev2 (cf := cfX2_shortest) (st := (fun n => qin [7, 41] n)) (K := (fun pc L S μ => if pc = 7 then jX2_shortest_7 (fX2_shortest_7 qfu) L S μ else none)) (cd := qcX2_shortest) (M := 29) (d0 := 2) rfl qcok_X2_shortest (Nat.le_refl _) (hcX2_shortest hcv) (by
    intro pc L S μ r h
    split at h
    · rename_i e; subst e; exact jeX2_shortest_7 (lbX2_shortest_7 hcv qfu) h
    cases h) 400 (pc := 0) (L := qent [.ref a0, .int a1] 4) (S := []) h)
  · cases h
theorem gaX2_shortest {base : Nat} {D : va_G} {ca : Nat → ClassId} {cv : Nat → Value} (hcv : ∀ j, (cv j).category = 1) {l : List Value} {μ : qM} {r : qR} (h : aX2_shortest l μ = some r) : qGood false base D ca cv 3 29 l μ r := by
  unfold aX2_shortest at h
  split at h
  · exact gdX2_shortest hcv h
  · cases h
noncomputable def gX3_add (a0 : Nat) (a1 : Int64) (μ : qM) : Option qR :=
  qbnd (oGetI μ 3 a0 1) fun v1 =>
  qbnd (oGetP μ 3 a0 0) fun v2 =>
  qbnd (oLen μ v2) fun v3 =>
  if v3 ≤ v1 then
    some (0, 0, μ)
  else
    qbnd (oGetP μ 3 a0 0) fun v4 =>
    qbnd (oGetI μ 3 a0 1) fun v5 =>
    qbnd (oStL μ v4 v5 a1) fun μ6 =>
    qbnd (oGetI μ6 3 a0 1) fun v7 =>
    qbnd (oPutI μ6 3 a0 1 (v7 + (1 : Int32))) fun μ8 =>
    some (0, 0, μ8)
noncomputable def fX3_add (a0 : Nat) (a1 : Int64) (μ : qM) : Option qR := if (qk μ a0).1 = 3 then gX3_add a0 a1 μ else none
noncomputable def aX3_add (l : List Value) (μ : qM) : Option qR := match l with
  | [.ref x0, .long x1] => fX3_add x0 x1 μ
  | _ => none
noncomputable def cfX3_add : qF := fun n l μ => none
theorem hcX3_add {base : Nat} {D : va_G} {ca : Nat → ClassId} {cv : Nat → Value} (hcv : ∀ j, (cv j).category = 1) : ∀ M as μ r, cfX3_add M as μ = some r → qGood false base D ca cv 0 M as μ r := by
  intro M as μ r h
  cases h
theorem npX3_add : (parseMethodDescriptor (qmy 33).desc).map (fun d => d.parameters.length) = some 1 := by decide +kernel
set_option maxRecDepth 100000 in
theorem gdX3_add {base : Nat} {D : va_G} {ca : Nat → ClassId} {cv : Nat → Value} (hcv : ∀ j, (cv j).category = 1) {a0 : Nat} {a1 : Int64} {μ : qM} {r : qR} (h : fX3_add a0 a1 μ = some r) : qGood false base D ca cv 1 33 [.ref a0, .long a1] μ r := by
  unfold fX3_add at h
  split at h
  · rename_i hk0
    exact qgood_of (by decide) (by omega) hcv (Or.inr ⟨by decide +kernel, hk0⟩) npX3_add rfl (Nat.le_of_ble_eq_true rfl) rfl (qblk_ev2 (cf := cfX3_add) (st := (fun n => qin [] n)) (K := (fun pc L S μ => none)) (cd := qcX3_add) (M := 33) (d0 := 0) rfl qcok_X3_add (Nat.le_refl _) (hcX3_add hcv) (by
    intro pc L S μ r h
    cases h) 400 (pc := 0) (L := qent [.ref a0, .long a1] 3) (S := []) h)
  · cases h
theorem gaX3_add {base : Nat} {D : va_G} {ca : Nat → ClassId} {cv : Nat → Value} (hcv : ∀ j, (cv j).category = 1) {l : List Value} {μ : qM} {r : qR} (h : aX3_add l μ = some r) : qGood false base D ca cv 1 33 l μ r := by
  unfold aX3_add at h
  split at h
  · exact gdX3_add hcv h
  · cases h
noncomputable def gX3_one (a0 : Nat) (a1 : Int64) (μ : qM) : Option qR :=
  qbnd (oPutI μ 3 a0 1 (0 : Int32)) fun μ1 =>
  qbnd (fX3_add a0 a1 μ1) fun r2 =>
  some (0, 0, r2.2.2)
noncomputable def fX3_one (a0 : Nat) (a1 : Int64) (μ : qM) : Option qR := if (qk μ a0).1 = 3 then gX3_one a0 a1 μ else none
noncomputable def aX3_one (l : List Value) (μ : qM) : Option qR := match l with
  | [.ref x0, .long x1] => fX3_one x0 x1 μ
  | _ => none
noncomputable def cfX3_one : qF := fun n l μ => if n = 33 then aX3_add l μ else none
theorem hcX3_one {base : Nat} {D : va_G} {ca : Nat → ClassId} {cv : Nat → Value} (hcv : ∀ j, (cv j).category = 1) : ∀ M as μ r, cfX3_one M as μ = some r → qGood false base D ca cv 1 M as μ r := by
  intro M as μ r h
  unfold cfX3_one at h
  split at h
  · rename_i e; subst e; exact (gaX3_add hcv h).mono (by omega)
  cases h
theorem npX3_one : (parseMethodDescriptor (qmy 34).desc).map (fun d => d.parameters.length) = some 1 := by decide +kernel
set_option maxRecDepth 100000 in
theorem gdX3_one {base : Nat} {D : va_G} {ca : Nat → ClassId} {cv : Nat → Value} (hcv : ∀ j, (cv j).category = 1) {a0 : Nat} {a1 : Int64} {μ : qM} {r : qR} (h : fX3_one a0 a1 μ = some r) : qGood false base D ca cv 2 34 [.ref a0, .long a1] μ r := by
  unfold fX3_one at h
  split at h
  · rename_i hk0
    exact qgood_of (by decide) (by omega) hcv (Or.inr ⟨by decide +kernel, hk0⟩) npX3_one rfl (Nat.le_of_ble_eq_true rfl) rfl (qblk_ev2 (cf := cfX3_one) (st := (fun n => qin [] n)) (K := (fun pc L S μ => none)) (cd := qcX3_one) (M := 34) (d0 := 1) rfl qcok_X3_one (Nat.le_refl _) (hcX3_one hcv) (by
    intro pc L S μ r h
    cases h) 400 (pc := 0) (L := qent [.ref a0, .long a1] 3) (S := []) h)
  · cases h
theorem gaX3_one {base : Nat} {D : va_G} {ca : Nat → ClassId} {cv : Nat → Value} (hcv : ∀ j, (cv j).category = 1) {l : List Value} {μ : qM} {r : qR} (h : aX3_one l μ = some r) : qGood false base D ca cv 2 34 l μ r := by
  unfold aX3_one at h
  split at h
  · exact gdX3_one hcv h
  · cases h
noncomputable def gX3_two (a0 : Nat) (a1 : Int64) (a2 : Int64) (μ : qM) : Option qR :=
  qbnd (oPutI μ 3 a0 1 (0 : Int32)) fun μ1 =>
  qbnd (fX3_add a0 a1 μ1) fun r2 =>
  qbnd (fX3_add a0 a2 r2.2.2) fun r3 =>
  some (0, 0, r3.2.2)
noncomputable def fX3_two (a0 : Nat) (a1 : Int64) (a2 : Int64) (μ : qM) : Option qR := if (qk μ a0).1 = 3 then gX3_two a0 a1 a2 μ else none
noncomputable def aX3_two (l : List Value) (μ : qM) : Option qR := match l with
  | [.ref x0, .long x1, .long x2] => fX3_two x0 x1 x2 μ
  | _ => none
noncomputable def cfX3_two : qF := fun n l μ => if n = 33 then aX3_add l μ else none
theorem hcX3_two {base : Nat} {D : va_G} {ca : Nat → ClassId} {cv : Nat → Value} (hcv : ∀ j, (cv j).category = 1) : ∀ M as μ r, cfX3_two M as μ = some r → qGood false base D ca cv 1 M as μ r := by
  intro M as μ r h
  unfold cfX3_two at h
  split at h
  · rename_i e; subst e; exact (gaX3_add hcv h).mono (by omega)
  cases h
theorem npX3_two : (parseMethodDescriptor (qmy 35).desc).map (fun d => d.parameters.length) = some 2 := by decide +kernel
set_option maxRecDepth 100000 in
theorem gdX3_two {base : Nat} {D : va_G} {ca : Nat → ClassId} {cv : Nat → Value} (hcv : ∀ j, (cv j).category = 1) {a0 : Nat} {a1 : Int64} {a2 : Int64} {μ : qM} {r : qR} (h : fX3_two a0 a1 a2 μ = some r) : qGood false base D ca cv 2 35 [.ref a0, .long a1, .long a2] μ r := by
  unfold fX3_two at h
  split at h
  · rename_i hk0
    exact qgood_of (by decide) (by omega) hcv (Or.inr ⟨by decide +kernel, hk0⟩) npX3_two rfl (Nat.le_of_ble_eq_true rfl) rfl (qblk_ev2 (cf := cfX3_two) (st := (fun n => qin [] n)) (K := (fun pc L S μ => none)) (cd := qcX3_two) (M := 35) (d0 := 1) rfl qcok_X3_two (Nat.le_refl _) (hcX3_two hcv) (by
    intro pc L S μ r h
    cases h) 400 (pc := 0) (L := qent [.ref a0, .long a1, .long a2] 5) (S := []) h)
  · cases h
theorem gaX3_two {base : Nat} {D : va_G} {ca : Nat → ClassId} {cv : Nat → Value} (hcv : ∀ j, (cv j).category = 1) {l : List Value} {μ : qM} {r : qR} (h : aX3_two l μ = some r) : qGood false base D ca cv 2 35 l μ r := by
  unfold aX3_two at h
  split at h
  · exact gdX3_two hcv h
  · cases h
noncomputable def fX3_list_5 : Nat → Nat → Nat → Int32 → Int32 → qM → Option qR
  | 0 => fun _ _ _ _ _ => none
  | n + 1 => fun x0 x1 x2 x3 μ =>
    if x2 ≤ x3 then
      some (0, 0, μ)
    else
      qbnd (oLen μ x1) fun v1 =>
      if v1 ≤ x3 then
        some (0, 0, μ)
      else
        qbnd (oLdI 20 μ x1 x3) fun v2 =>
        qbnd (fX3_add x0 (v2).toInt64 μ) fun r3 =>
        fX3_list_5 n x0 x1 x2 (x3 + (1 : Int32)) r3.2.2
noncomputable def gX3_list (a0 : Nat) (a1 : Nat) (a2 : Int32) (μ : qM) : Option qR :=
  qbnd (oPutI μ 3 a0 1 (0 : Int32)) fun μ1 =>
  fX3_list_5 qfu a0 a1 a2 (0 : Int32) μ1
noncomputable def fX3_list (a0 : Nat) (a1 : Nat) (a2 : Int32) (μ : qM) : Option qR := if (qk μ a0).1 = 3 then gX3_list a0 a1 a2 μ else none
noncomputable def aX3_list (l : List Value) (μ : qM) : Option qR := match l with
  | [.ref x0, .ref x1, .int x2] => fX3_list x0 x1 x2 μ
  | _ => none
noncomputable def cfX3_list : qF := fun n l μ => if n = 33 then aX3_add l μ else none
theorem hcX3_list {base : Nat} {D : va_G} {ca : Nat → ClassId} {cv : Nat → Value} (hcv : ∀ j, (cv j).category = 1) : ∀ M as μ r, cfX3_list M as μ = some r → qGood false base D ca cv 1 M as μ r := by
  intro M as μ r h
  unfold cfX3_list at h
  split at h
  · rename_i e; subst e; exact (gaX3_add hcv h).mono (by omega)
  cases h
def jX3_list_5 (f : Nat → Nat → Int32 → Int32 → qM → Option qR) (L S : List Value) (μ : qM) : Option qR := match L, S with
  | [.ref x0, .ref x1, .int x2, .int x3], [] => f x0 x1 x2 x3 μ
  | _, _ => none
theorem jeX3_list_5 {base : Nat} {D : va_G} {ca : Nat → ClassId} {cv : Nat → Value} {d : Nat} {f : Nat → Nat → Int32 → Int32 → qM → Option qR} (hf : ∀ (x0 : Nat) (x1 : Nat) (x2 : Int32) (x3 : Int32) (μ : qM) (r : qR), f x0 x1 x2 x3 μ = some r → qEv false base D ca cv d 36 r 5 [.ref x0, .ref x1, .int x2, .int x3] [] μ) {L S : List Value} {μ : qM} {r : qR} (h : jX3_list_5 f L S μ = some r) : qEv false base D ca cv d 36 r 5 L S μ := by
  unfold jX3_list_5 at h
  split at h
  · exact (hf _ _ _ _ _ _ h).le rfl ⟨Or.inr rfl, Or.inr rfl, Or.inr rfl, Or.inr rfl, trivial⟩
  · cases h
set_option maxRecDepth 100000 in
theorem lbX3_list_5 {base : Nat} {D : va_G} {ca : Nat → ClassId} {cv : Nat → Value} (hcv : ∀ j, (cv j).category = 1) : ∀ (n : Nat) (x0 : Nat) (x1 : Nat) (x2 : Int32) (x3 : Int32) (μ : qM) (r : qR), fX3_list_5 n x0 x1 x2 x3 μ = some r → qEv false base D ca cv 2 36 r 5 [.ref x0, .ref x1, .int x2, .int x3] [] μ := by
  intro n
  induction n with
  | zero => intro x0 x1 x2 x3 μ r h; cases (show (none : Option qR) = some r from h)
  | succ n ih =>
    intro x0 x1 x2 x3 μ r h
    exact qblk_ev2 (cf := cfX3_list) (st := (fun n => qin [5] n)) (K := (fun pc L S μ => if pc = 5 then jX3_list_5 (fX3_list_5 n) L S μ else none)) (cd := qcX3_list) (M := 36) (d0 := 1) rfl qcok_X3_list (Nat.le_refl _) (hcX3_list hcv) (by
    intro pc L S μ r h
    split at h
    · rename_i e; subst e; exact jeX3_list_5 ih h
    cases h) 400 (pc := 5) (L := [.ref x0, .ref x1, .int x2, .int x3]) (S := []) h
theorem npX3_list : (parseMethodDescriptor (qmy 36).desc).map (fun d => d.parameters.length) = some 2 := by decide +kernel
set_option maxRecDepth 100000 in
theorem gdX3_list {base : Nat} {D : va_G} {ca : Nat → ClassId} {cv : Nat → Value} (hcv : ∀ j, (cv j).category = 1) {a0 : Nat} {a1 : Nat} {a2 : Int32} {μ : qM} {r : qR} (h : fX3_list a0 a1 a2 μ = some r) : qGood false base D ca cv 2 36 [.ref a0, .ref a1, .int a2] μ r := by
  unfold fX3_list at h
  split at h
  · rename_i hk0
    exact qgood_of (by decide) (by omega) hcv (Or.inr ⟨by decide +kernel, hk0⟩) npX3_list rfl (Nat.le_of_ble_eq_true rfl) rfl (qblk_ev2 (cf := cfX3_list) (st := (fun n => qin [5] n)) (K := (fun pc L S μ => if pc = 5 then jX3_list_5 (fX3_list_5 qfu) L S μ else none)) (cd := qcX3_list) (M := 36) (d0 := 1) rfl qcok_X3_list (Nat.le_refl _) (hcX3_list hcv) (by
    intro pc L S μ r h
    split at h
    · rename_i e; subst e; exact jeX3_list_5 (lbX3_list_5 hcv qfu) h
    cases h) 400 (pc := 0) (L := qent [.ref a0, .ref a1, .int a2] 4) (S := []) h)
  · cases h
theorem gaX3_list {base : Nat} {D : va_G} {ca : Nat → ClassId} {cv : Nat → Value} (hcv : ∀ j, (cv j).category = 1) {l : List Value} {μ : qM} {r : qR} (h : aX3_list l μ = some r) : qGood false base D ca cv 2 36 l μ r := by
  unfold aX3_list at h
  split at h
  · exact gdX3_list hcv h
  · cases h
noncomputable def gX4_copy (a0 : Nat) (a1 : Nat) (μ : qM) : Option qR :=
  qbnd (oGetP μ 4 a1 0) fun v1 =>
  qbnd (oGetP μ 4 a0 0) fun v2 =>
  qbnd (oCpy μ v1 (0 : Int32) v2 (0 : Int32) (40 : Int32)) fun μ3 =>
  qbnd (oGetI μ3 4 a1 3) fun v4 =>
  qbnd (oPutI μ3 4 a0 3 v4) fun μ5 =>
  some (0, 0, μ5)
noncomputable def fX4_copy (a0 : Nat) (a1 : Nat) (μ : qM) : Option qR := if (qk μ a0).1 = 4 then gX4_copy a0 a1 μ else none
noncomputable def aX4_copy (l : List Value) (μ : qM) : Option qR := match l with
  | [.ref x0, .ref x1] => fX4_copy x0 x1 μ
  | _ => none
noncomputable def cfX4_copy : qF := fun n l μ => none
theorem hcX4_copy {base : Nat} {D : va_G} {ca : Nat → ClassId} {cv : Nat → Value} (hcv : ∀ j, (cv j).category = 1) : ∀ M as μ r, cfX4_copy M as μ = some r → qGood false base D ca cv 0 M as μ r := by
  intro M as μ r h
  cases h
theorem npX4_copy : (parseMethodDescriptor (qmy 38).desc).map (fun d => d.parameters.length) = some 1 := by decide +kernel
set_option maxRecDepth 100000 in
theorem gdX4_copy {base : Nat} {D : va_G} {ca : Nat → ClassId} {cv : Nat → Value} (hcv : ∀ j, (cv j).category = 1) {a0 : Nat} {a1 : Nat} {μ : qM} {r : qR} (h : fX4_copy a0 a1 μ = some r) : qGood false base D ca cv 1 38 [.ref a0, .ref a1] μ r := by
  unfold fX4_copy at h
  split at h
  · rename_i hk0
    exact qgood_of (by decide) (by omega) hcv (Or.inr ⟨by decide +kernel, hk0⟩) npX4_copy rfl (Nat.le_of_ble_eq_true rfl) rfl (qblk_ev2 (cf := cfX4_copy) (st := (fun n => qin [] n)) (K := (fun pc L S μ => none)) (cd := qcX4_copy) (M := 38) (d0 := 0) rfl qcok_X4_copy (Nat.le_refl _) (hcX4_copy hcv) (by
    intro pc L S μ r h
    cases h) 400 (pc := 0) (L := qent [.ref a0, .ref a1] 2) (S := []) h)
  · cases h
theorem gaX4_copy {base : Nat} {D : va_G} {ca : Nat → ClassId} {cv : Nat → Value} (hcv : ∀ j, (cv j).category = 1) {l : List Value} {μ : qM} {r : qR} (h : aX4_copy l μ = some r) : qGood false base D ca cv 1 38 l μ r := by
  unfold aX4_copy at h
  split at h
  · exact gdX4_copy hcv h
  · cases h
noncomputable def gX6_at (a0 : Nat) (a1 : Int32) (μ : qM) : Option qR :=
  if a1 < 0 then
    some ((0 : Int32), 0, μ)
  else
    qbnd (oGetI μ 6 a0 1) fun v1 =>
    if v1 ≤ a1 then
      some ((0 : Int32), 0, μ)
    else
      qbnd (oGetP μ 6 a0 0) fun v2 =>
      qbnd (oLdI 22 μ v2 a1) fun v3 =>
      some (v3, 0, μ)
noncomputable def fX6_at (a0 : Nat) (a1 : Int32) (μ : qM) : Option qR := if (qk μ a0).1 = 6 then gX6_at a0 a1 μ else none
noncomputable def aX6_at (l : List Value) (μ : qM) : Option qR := match l with
  | [.ref x0, .int x1] => fX6_at x0 x1 μ
  | _ => none
noncomputable def cfX6_at : qF := fun n l μ => none
theorem hcX6_at {base : Nat} {D : va_G} {ca : Nat → ClassId} {cv : Nat → Value} (hcv : ∀ j, (cv j).category = 1) : ∀ M as μ r, cfX6_at M as μ = some r → qGood false base D ca cv 0 M as μ r := by
  intro M as μ r h
  cases h
theorem npX6_at : (parseMethodDescriptor (qmy 81).desc).map (fun d => d.parameters.length) = some 1 := by decide +kernel
set_option maxRecDepth 100000 in
theorem gdX6_at {base : Nat} {D : va_G} {ca : Nat → ClassId} {cv : Nat → Value} (hcv : ∀ j, (cv j).category = 1) {a0 : Nat} {a1 : Int32} {μ : qM} {r : qR} (h : fX6_at a0 a1 μ = some r) : qGood false base D ca cv 1 81 [.ref a0, .int a1] μ r := by
  unfold fX6_at at h
  split at h
  · rename_i hk0
    exact qgood_of (by decide) (by omega) hcv (Or.inr ⟨by decide +kernel, hk0⟩) npX6_at rfl (Nat.le_of_ble_eq_true rfl) rfl (qblk_ev2 (cf := cfX6_at) (st := (fun n => qin [] n)) (K := (fun pc L S μ => none)) (cd := qcX6_at) (M := 81) (d0 := 0) rfl qcok_X6_at (Nat.le_refl _) (hcX6_at hcv) (by
    intro pc L S μ r h
    cases h) 400 (pc := 0) (L := qent [.ref a0, .int a1] 2) (S := []) h)
  · cases h
theorem gaX6_at {base : Nat} {D : va_G} {ca : Nat → ClassId} {cv : Nat → Value} (hcv : ∀ j, (cv j).category = 1) {l : List Value} {μ : qM} {r : qR} (h : aX6_at l μ = some r) : qGood false base D ca cv 1 81 l μ r := by
  unfold aX6_at at h
  split at h
  · exact gdX6_at hcv h
  · cases h
noncomputable def fX7_isDigit (a0 : Int32) (μ : qM) : Option qR :=
  if a0 < (48 : Int32) then
    if qnz (0 : Int32) = (0 : Int32) then some ((0 : Int32), 0, μ) else none
  else
    if (57 : Int32) < a0 then
      if qnz (0 : Int32) = (0 : Int32) then some ((0 : Int32), 0, μ) else none
    else
      if qnz (1 : Int32) = (1 : Int32) then some ((1 : Int32), 0, μ) else none
noncomputable def aX7_isDigit (l : List Value) (μ : qM) : Option qR := match l with
  | [.int x0] => fX7_isDigit x0 μ
  | _ => none
noncomputable def cfX7_isDigit : qF := fun n l μ => none
theorem hcX7_isDigit {base : Nat} {D : va_G} {ca : Nat → ClassId} {cv : Nat → Value} (hcv : ∀ j, (cv j).category = 1) : ∀ M as μ r, cfX7_isDigit M as μ = some r → qGood false base D ca cv 0 M as μ r := by
  intro M as μ r h
  cases h
theorem npX7_isDigit : (parseMethodDescriptor (qmy 138).desc).map (fun d => d.parameters.length) = some 1 := by decide +kernel
set_option maxRecDepth 100000 in
theorem gdX7_isDigit {base : Nat} {D : va_G} {ca : Nat → ClassId} {cv : Nat → Value} (hcv : ∀ j, (cv j).category = 1) {a0 : Int32} {μ : qM} {r : qR} (h : fX7_isDigit a0 μ = some r) : qGood false base D ca cv 1 138 [.int a0] μ r := by
  exact qgood_of (by decide) (by omega) hcv (Or.inl rfl) npX7_isDigit rfl (Nat.le_of_ble_eq_true rfl) rfl (qblk_ev2 (cf := cfX7_isDigit) (st := (fun n => qin [] n)) (K := (fun pc L S μ => none)) (cd := qcX7_isDigit) (M := 138) (d0 := 0) rfl qcok_X7_isDigit (Nat.le_refl _) (hcX7_isDigit hcv) (by
    intro pc L S μ r h
    cases h) 400 (pc := 0) (L := qent [.int a0] 1) (S := []) h)
theorem gaX7_isDigit {base : Nat} {D : va_G} {ca : Nat → ClassId} {cv : Nat → Value} (hcv : ∀ j, (cv j).category = 1) {l : List Value} {μ : qM} {r : qR} (h : aX7_isDigit l μ = some r) : qGood false base D ca cv 1 138 l μ r := by
  unfold aX7_isDigit at h
  split at h
  · exact gdX7_isDigit hcv h
  · cases h
noncomputable def gX4_takeDigit (a0 : Nat) (a1 : Int32) (μ : qM) : Option qR :=
  qbnd (oGetI μ 4 a0 6) fun v1 =>
  if v1 < (1 : Int32) then
    if qnz (0 : Int32) = (0 : Int32) then some ((0 : Int32), 0, μ) else none
  else
    qbnd (oGetI μ 4 a0 6) fun v2 =>
    if (2 : Int32) < v2 then
      if qnz (0 : Int32) = (0 : Int32) then some ((0 : Int32), 0, μ) else none
    else
      qbnd (oGetI μ 4 a0 3) fun v3 =>
      if (1 : Int32) ≤ v3 then
        qbnd (oGetP μ 4 a0 0) fun v4 =>
        qbnd (oGetI μ 4 a0 3) fun v5 =>
        qbnd (oGetP μ 4 a0 0) fun v6 =>
        qbnd (oGetI μ 4 a0 3) fun v7 =>
        qbnd (oLdI 20 μ v6 (v7 - (1 : Int32))) fun v8 =>
        qbnd (oStI 20 μ v4 (v5 - (1 : Int32)) ((((10 : Int32) * v8) + a1) - (48 : Int32))) fun μ9 =>
        qbnd (oGetI μ9 4 a0 6) fun v10 =>
        qbnd (oPutI μ9 4 a0 6 (v10 + (1 : Int32))) fun μ11 =>
        if qnz (1 : Int32) = (1 : Int32) then some ((1 : Int32), 0, μ11) else none
      else
        if qnz (0 : Int32) = (0 : Int32) then some ((0 : Int32), 0, μ) else none
noncomputable def fX4_takeDigit (a0 : Nat) (a1 : Int32) (μ : qM) : Option qR := if (qk μ a0).1 = 4 then gX4_takeDigit a0 a1 μ else none
noncomputable def aX4_takeDigit (l : List Value) (μ : qM) : Option qR := match l with
  | [.ref x0, .int x1] => fX4_takeDigit x0 x1 μ
  | _ => none
noncomputable def cfX4_takeDigit : qF := fun n l μ => none
theorem hcX4_takeDigit {base : Nat} {D : va_G} {ca : Nat → ClassId} {cv : Nat → Value} (hcv : ∀ j, (cv j).category = 1) : ∀ M as μ r, cfX4_takeDigit M as μ = some r → qGood false base D ca cv 0 M as μ r := by
  intro M as μ r h
  cases h
theorem npX4_takeDigit : (parseMethodDescriptor (qmy 42).desc).map (fun d => d.parameters.length) = some 1 := by decide +kernel
set_option maxRecDepth 100000 in
theorem gdX4_takeDigit {base : Nat} {D : va_G} {ca : Nat → ClassId} {cv : Nat → Value} (hcv : ∀ j, (cv j).category = 1) {a0 : Nat} {a1 : Int32} {μ : qM} {r : qR} (h : fX4_takeDigit a0 a1 μ = some r) : qGood false base D ca cv 1 42 [.ref a0, .int a1] μ r := by
  unfold fX4_takeDigit at h
  split at h
  · rename_i hk0
    exact qgood_of (by decide) (by omega) hcv (Or.inr ⟨by decide +kernel, hk0⟩) npX4_takeDigit rfl (Nat.le_of_ble_eq_true rfl) rfl (qblk_ev2 (cf := cfX4_takeDigit) (st := (fun n => qin [] n)) (K := (fun pc L S μ => none)) (cd := qcX4_takeDigit) (M := 42) (d0 := 0) rfl qcok_X4_takeDigit (Nat.le_refl _) (hcX4_takeDigit hcv) (by
    intro pc L S μ r h
    cases h) 400 (pc := 0) (L := qent [.ref a0, .int a1] 2) (S := []) h)
  · cases h
theorem gaX4_takeDigit {base : Nat} {D : va_G} {ca : Nat → ClassId} {cv : Nat → Value} (hcv : ∀ j, (cv j).category = 1) {l : List Value} {μ : qM} {r : qR} (h : aX4_takeDigit l μ = some r) : qGood false base D ca cv 1 42 l μ r := by
  unfold aX4_takeDigit at h
  split at h
  · exact gdX4_takeDigit hcv h
  · cases h
noncomputable def gX4_put (a0 : Nat) (a1 : Int32) (μ : qM) : Option qR :=
  qbnd (oGetI μ 4 a0 3) fun v1 =>
  if (40 : Int32) ≤ v1 then
    some (0, 0, μ)
  else
    qbnd (oGetP μ 4 a0 0) fun v2 =>
    qbnd (oGetI μ 4 a0 3) fun v3 =>
    qbnd (oStI 20 μ v2 v3 a1) fun μ4 =>
    qbnd (oGetI μ4 4 a0 3) fun v5 =>
    qbnd (oPutI μ4 4 a0 3 (v5 + (1 : Int32))) fun μ6 =>
    some (0, 0, μ6)
noncomputable def fX4_put (a0 : Nat) (a1 : Int32) (μ : qM) : Option qR := if (qk μ a0).1 = 4 then gX4_put a0 a1 μ else none
noncomputable def aX4_put (l : List Value) (μ : qM) : Option qR := match l with
  | [.ref x0, .int x1] => fX4_put x0 x1 μ
  | _ => none
noncomputable def cfX4_put : qF := fun n l μ => none
theorem hcX4_put {base : Nat} {D : va_G} {ca : Nat → ClassId} {cv : Nat → Value} (hcv : ∀ j, (cv j).category = 1) : ∀ M as μ r, cfX4_put M as μ = some r → qGood false base D ca cv 0 M as μ r := by
  intro M as μ r h
  cases h
theorem npX4_put : (parseMethodDescriptor (qmy 46).desc).map (fun d => d.parameters.length) = some 1 := by decide +kernel
set_option maxRecDepth 100000 in
theorem gdX4_put {base : Nat} {D : va_G} {ca : Nat → ClassId} {cv : Nat → Value} (hcv : ∀ j, (cv j).category = 1) {a0 : Nat} {a1 : Int32} {μ : qM} {r : qR} (h : fX4_put a0 a1 μ = some r) : qGood false base D ca cv 1 46 [.ref a0, .int a1] μ r := by
  unfold fX4_put at h
  split at h
  · rename_i hk0
    exact qgood_of (by decide) (by omega) hcv (Or.inr ⟨by decide +kernel, hk0⟩) npX4_put rfl (Nat.le_of_ble_eq_true rfl) rfl (qblk_ev2 (cf := cfX4_put) (st := (fun n => qin [] n)) (K := (fun pc L S μ => none)) (cd := qcX4_put) (M := 46) (d0 := 0) rfl qcok_X4_put (Nat.le_refl _) (hcX4_put hcv) (by
    intro pc L S μ r h
    cases h) 400 (pc := 0) (L := qent [.ref a0, .int a1] 2) (S := []) h)
  · cases h
theorem gaX4_put {base : Nat} {D : va_G} {ca : Nat → ClassId} {cv : Nat → Value} (hcv : ∀ j, (cv j).category = 1) {l : List Value} {μ : qM} {r : qR} (h : aX4_put l μ = some r) : qGood false base D ca cv 1 46 l μ r := by
  unfold aX4_put at h
  split at h
  · exact gdX4_put hcv h
  · cases h
noncomputable def fX4_settle_3 : Nat → Nat → Int32 → Int32 → qM → Option qR
  | 0 => fun _ _ _ _ => none
  | n + 1 => fun x0 x1 x2 μ =>
    if x2 ≤ 0 then
      some (0, 0, μ)
    else
      qbnd (oGetP μ 4 x0 1) fun v1 =>
      qbnd (oLdI 20 μ v1 (x2 - (1 : Int32))) fun v2 =>
      qbnd (fX4_rankOf v2 μ) fun r3 =>
      if x1 ≤ r3.1 then
        qbnd (fX4_put x0 (-v2) r3.2.2) fun r4 =>
        qbnd (oGetI r4.2.2 4 x0 4) fun v5 =>
        qbnd (oPutI r4.2.2 4 x0 4 (v5 - (1 : Int32))) fun μ6 =>
        fX4_settle_3 n x0 x1 (x2 + (-1 : Int32)) μ6
      else
        some (0, 0, r3.2.2)
noncomputable def gX4_settle (a0 : Nat) (a1 : Int32) (μ : qM) : Option qR :=
  qbnd (oGetI μ 4 a0 4) fun v1 =>
  fX4_settle_3 qfu a0 a1 v1 μ
noncomputable def fX4_settle (a0 : Nat) (a1 : Int32) (μ : qM) : Option qR := if (qk μ a0).1 = 4 then gX4_settle a0 a1 μ else none
noncomputable def aX4_settle (l : List Value) (μ : qM) : Option qR := match l with
  | [.ref x0, .int x1] => fX4_settle x0 x1 μ
  | _ => none
noncomputable def cfX4_settle : qF := fun n l μ => if n = 50 then aX4_rankOf l μ else if n = 46 then aX4_put l μ else none
theorem hcX4_settle {base : Nat} {D : va_G} {ca : Nat → ClassId} {cv : Nat → Value} (hcv : ∀ j, (cv j).category = 1) : ∀ M as μ r, cfX4_settle M as μ = some r → qGood false base D ca cv 1 M as μ r := by
  intro M as μ r h
  unfold cfX4_settle at h
  split at h
  · rename_i e; subst e; exact (gaX4_rankOf hcv h).mono (by omega)
  split at h
  · rename_i e; subst e; exact (gaX4_put hcv h).mono (by omega)
  cases h
def jX4_settle_3 (f : Nat → Int32 → Int32 → qM → Option qR) (L S : List Value) (μ : qM) : Option qR := match L, S with
  | [.ref x0, .int x1, .int x2, _], [] => f x0 x1 x2 μ
  | _, _ => none
theorem jeX4_settle_3 {base : Nat} {D : va_G} {ca : Nat → ClassId} {cv : Nat → Value} {d : Nat} {f : Nat → Int32 → Int32 → qM → Option qR} (hf : ∀ (x0 : Nat) (x1 : Int32) (x2 : Int32) (μ : qM) (r : qR), f x0 x1 x2 μ = some r → qEv false base D ca cv d 44 r 3 [.ref x0, .int x1, .int x2, .null] [] μ) {L S : List Value} {μ : qM} {r : qR} (h : jX4_settle_3 f L S μ = some r) : qEv false base D ca cv d 44 r 3 L S μ := by
  unfold jX4_settle_3 at h
  split at h
  · exact (hf _ _ _ _ _ h).le rfl ⟨Or.inr rfl, Or.inr rfl, Or.inr rfl, Or.inl rfl, trivial⟩
  · cases h
set_option maxRecDepth 100000 in
theorem lbX4_settle_3 {base : Nat} {D : va_G} {ca : Nat → ClassId} {cv : Nat → Value} (hcv : ∀ j, (cv j).category = 1) : ∀ (n : Nat) (x0 : Nat) (x1 : Int32) (x2 : Int32) (μ : qM) (r : qR), fX4_settle_3 n x0 x1 x2 μ = some r → qEv false base D ca cv 2 44 r 3 [.ref x0, .int x1, .int x2, .null] [] μ := by
  intro n
  induction n with
  | zero => intro x0 x1 x2 μ r h; cases (show (none : Option qR) = some r from h)
  | succ n ih =>
    intro x0 x1 x2 μ r h
    exact qblk_ev2 (cf := cfX4_settle) (st := (fun n => qin [3] n)) (K := (fun pc L S μ => if pc = 3 then jX4_settle_3 (fX4_settle_3 n) L S μ else none)) (cd := qcX4_settle) (M := 44) (d0 := 1) rfl qcok_X4_settle (Nat.le_refl _) (hcX4_settle hcv) (by
    intro pc L S μ r h
    split at h
    · rename_i e; subst e; exact jeX4_settle_3 ih h
    cases h) 400 (pc := 3) (L := [.ref x0, .int x1, .int x2, .null]) (S := []) h
theorem npX4_settle : (parseMethodDescriptor (qmy 44).desc).map (fun d => d.parameters.length) = some 1 := by decide +kernel
set_option maxRecDepth 100000 in
theorem gdX4_settle {base : Nat} {D : va_G} {ca : Nat → ClassId} {cv : Nat → Value} (hcv : ∀ j, (cv j).category = 1) {a0 : Nat} {a1 : Int32} {μ : qM} {r : qR} (h : fX4_settle a0 a1 μ = some r) : qGood false base D ca cv 2 44 [.ref a0, .int a1] μ r := by
  unfold fX4_settle at h
  split at h
  · rename_i hk0
    exact qgood_of (by decide) (by omega) hcv (Or.inr ⟨by decide +kernel, hk0⟩) npX4_settle rfl (Nat.le_of_ble_eq_true rfl) rfl (qblk_ev2 (cf := cfX4_settle) (st := (fun n => qin [3] n)) (K := (fun pc L S μ => if pc = 3 then jX4_settle_3 (fX4_settle_3 qfu) L S μ else none)) (cd := qcX4_settle) (M := 44) (d0 := 1) rfl qcok_X4_settle (Nat.le_refl _) (hcX4_settle hcv) (by
    intro pc L S μ r h
    split at h
    · rename_i e; subst e; exact jeX4_settle_3 (lbX4_settle_3 hcv qfu) h
    cases h) 400 (pc := 0) (L := qent [.ref a0, .int a1] 4) (S := []) h)
  · cases h
theorem gaX4_settle {base : Nat} {D : va_G} {ca : Nat → ClassId} {cv : Nat → Value} (hcv : ∀ j, (cv j).category = 1) {l : List Value} {μ : qM} {r : qR} (h : aX4_settle l μ = some r) : qGood false base D ca cv 2 44 l μ r := by
  unfold aX4_settle at h
  split at h
  · exact gdX4_settle hcv h
  · cases h
noncomputable def fX4_close_17 (x0 : Nat) (μ : qM) : Option qR :=
  qbnd (oGetI μ 4 x0 5) fun v1 =>
  qbnd (oPutI μ 4 x0 5 (v1 - (1 : Int32))) fun μ2 =>
  qbnd (oPutI μ2 4 x0 6 (0 : Int32)) fun μ3 =>
  if qnz (1 : Int32) = (1 : Int32) then some ((1 : Int32), 0, μ3) else none
noncomputable def gX4_close (a0 : Nat) (μ : qM) : Option qR :=
  qbnd (oGetI μ 4 a0 5) fun v1 =>
  if v1 = 0 then
    if qnz (0 : Int32) = (0 : Int32) then some ((0 : Int32), 0, μ) else none
  else
    qbnd (fX4_settle a0 (1 : Int32) μ) fun r2 =>
    qbnd (oGetI r2.2.2 4 a0 4) fun v3 =>
    if v3 ≤ 0 then
      fX4_close_17 a0 r2.2.2
    else
      qbnd (oGetI r2.2.2 4 a0 4) fun v4 =>
      qbnd (oPutI r2.2.2 4 a0 4 (v4 - (1 : Int32))) fun μ5 =>
      fX4_close_17 a0 μ5
noncomputable def fX4_close (a0 : Nat) (μ : qM) : Option qR := if (qk μ a0).1 = 4 then gX4_close a0 μ else none
noncomputable def aX4_close (l : List Value) (μ : qM) : Option qR := match l with
  | [.ref x0] => fX4_close x0 μ
  | _ => none
noncomputable def cfX4_close : qF := fun n l μ => if n = 44 then aX4_settle l μ else none
theorem hcX4_close {base : Nat} {D : va_G} {ca : Nat → ClassId} {cv : Nat → Value} (hcv : ∀ j, (cv j).category = 1) : ∀ M as μ r, cfX4_close M as μ = some r → qGood false base D ca cv 2 M as μ r := by
  intro M as μ r h
  unfold cfX4_close at h
  split at h
  · rename_i e; subst e; exact (gaX4_settle hcv h).mono (by omega)
  cases h
def jX4_close_17 (f : Nat → qM → Option qR) (L S : List Value) (μ : qM) : Option qR := match L, S with
  | [.ref x0], [] => f x0 μ
  | _, _ => none
theorem jeX4_close_17 {base : Nat} {D : va_G} {ca : Nat → ClassId} {cv : Nat → Value} {d : Nat} {f : Nat → qM → Option qR} (hf : ∀ (x0 : Nat) (μ : qM) (r : qR), f x0 μ = some r → qEv false base D ca cv d 43 r 17 [.ref x0] [] μ) {L S : List Value} {μ : qM} {r : qR} (h : jX4_close_17 f L S μ = some r) : qEv false base D ca cv d 43 r 17 L S μ := by
  unfold jX4_close_17 at h
  split at h
  · exact (hf _ _ _ h).le rfl ⟨Or.inr rfl, trivial⟩
  · cases h
set_option maxRecDepth 100000 in
theorem lbX4_close_17 {base : Nat} {D : va_G} {ca : Nat → ClassId} {cv : Nat → Value} (hcv : ∀ j, (cv j).category = 1) (x0 : Nat) (μ : qM) (r : qR) (h : fX4_close_17 x0 μ = some r) : qEv false base D ca cv 3 43 r 17 [.ref x0] [] μ := by
    exact qblk_ev2 (cf := cfX4_close) (st := (fun n => qin [17] n)) (K := (fun pc L S μ => none)) (cd := qcX4_close) (M := 43) (d0 := 2) rfl qcok_X4_close (Nat.le_refl _) (hcX4_close hcv) (by
    intro pc L S μ r h
    cases h) 400 (pc := 17) (L := [.ref x0]) (S := []) h
theorem npX4_close : (parseMethodDescriptor (qmy 43).desc).map (fun d => d.parameters.length) = some 0 := by decide +kernel
set_option maxRecDepth 100000 in
theorem gdX4_close {base : Nat} {D : va_G} {ca : Nat → ClassId} {cv : Nat → Value} (hcv : ∀ j, (cv j).category = 1) {a0 : Nat} {μ : qM} {r : qR} (h : fX4_close a0 μ = some r) : qGood false base D ca cv 3 43 [.ref a0] μ r := by
  unfold fX4_close at h
  split at h
  · rename_i hk0
    exact qgood_of (by decide) (by omega) hcv (Or.inr ⟨by decide +kernel, hk0⟩) npX4_close rfl (Nat.le_of_ble_eq_true rfl) rfl (qblk_ev2 (cf := cfX4_close) (st := (fun n => qin [17] n)) (K := (fun pc L S μ => if pc = 17 then jX4_close_17 (fX4_close_17) L S μ else none)) (cd := qcX4_close) (M := 43) (d0 := 2) rfl qcok_X4_close (Nat.le_refl _) (hcX4_close hcv) (by
    intro pc L S μ r h
    split at h
    · rename_i e; subst e; exact jeX4_close_17 (lbX4_close_17 hcv) h
    cases h) 400 (pc := 0) (L := qent [.ref a0] 1) (S := []) h)
  · cases h
theorem gaX4_close {base : Nat} {D : va_G} {ca : Nat → ClassId} {cv : Nat → Value} (hcv : ∀ j, (cv j).category = 1) {l : List Value} {μ : qM} {r : qR} (h : aX4_close l μ = some r) : qGood false base D ca cv 3 43 l μ r := by
  unfold aX4_close at h
  split at h
  · exact gdX4_close hcv h
  · cases h
noncomputable def gX4_postpone (a0 : Nat) (a1 : Int32) (μ : qM) : Option qR :=
  qbnd (oGetI μ 4 a0 4) fun v1 =>
  if (40 : Int32) ≤ v1 then
    some (0, 0, μ)
  else
    qbnd (oGetP μ 4 a0 1) fun v2 =>
    qbnd (oGetI μ 4 a0 4) fun v3 =>
    qbnd (oStI 20 μ v2 v3 a1) fun μ4 =>
    qbnd (oGetI μ4 4 a0 4) fun v5 =>
    qbnd (oPutI μ4 4 a0 4 (v5 + (1 : Int32))) fun μ6 =>
    some (0, 0, μ6)
noncomputable def fX4_postpone (a0 : Nat) (a1 : Int32) (μ : qM) : Option qR := if (qk μ a0).1 = 4 then gX4_postpone a0 a1 μ else none
noncomputable def aX4_postpone (l : List Value) (μ : qM) : Option qR := match l with
  | [.ref x0, .int x1] => fX4_postpone x0 x1 μ
  | _ => none
noncomputable def cfX4_postpone : qF := fun n l μ => none
theorem hcX4_postpone {base : Nat} {D : va_G} {ca : Nat → ClassId} {cv : Nat → Value} (hcv : ∀ j, (cv j).category = 1) : ∀ M as μ r, cfX4_postpone M as μ = some r → qGood false base D ca cv 0 M as μ r := by
  intro M as μ r h
  cases h
theorem npX4_postpone : (parseMethodDescriptor (qmy 45).desc).map (fun d => d.parameters.length) = some 1 := by decide +kernel
set_option maxRecDepth 100000 in
theorem gdX4_postpone {base : Nat} {D : va_G} {ca : Nat → ClassId} {cv : Nat → Value} (hcv : ∀ j, (cv j).category = 1) {a0 : Nat} {a1 : Int32} {μ : qM} {r : qR} (h : fX4_postpone a0 a1 μ = some r) : qGood false base D ca cv 1 45 [.ref a0, .int a1] μ r := by
  unfold fX4_postpone at h
  split at h
  · rename_i hk0
    exact qgood_of (by decide) (by omega) hcv (Or.inr ⟨by decide +kernel, hk0⟩) npX4_postpone rfl (Nat.le_of_ble_eq_true rfl) rfl (qblk_ev2 (cf := cfX4_postpone) (st := (fun n => qin [] n)) (K := (fun pc L S μ => none)) (cd := qcX4_postpone) (M := 45) (d0 := 0) rfl qcok_X4_postpone (Nat.le_refl _) (hcX4_postpone hcv) (by
    intro pc L S μ r h
    cases h) 400 (pc := 0) (L := qent [.ref a0, .int a1] 2) (S := []) h)
  · cases h
theorem gaX4_postpone {base : Nat} {D : va_G} {ca : Nat → ClassId} {cv : Nat → Value} (hcv : ∀ j, (cv j).category = 1) {l : List Value} {μ : qM} {r : qR} (h : aX4_postpone l μ = some r) : qGood false base D ca cv 1 45 l μ r := by
  unfold aX4_postpone at h
  split at h
  · exact gdX4_postpone hcv h
  · cases h
noncomputable def fX4_takeBehind_43 (x0 : Nat) (x1 : Int32) (x2 : Int32) (μ : qM) : Option qR :=
  qbnd (fX4_settle x0 x2 μ) fun r1 =>
  qbnd (fX4_postpone x0 x1 r1.2.2) fun r2 =>
  if (0 : Int32) = 0 ∨ (0 : Int32) = 1 then
    qbnd (oPutI r2.2.2 4 x0 8 (0 : Int32)) fun μ3 =>
    if qnz (1 : Int32) = (1 : Int32) then some ((1 : Int32), 0, μ3) else none
  else none
noncomputable def fX4_takeBehind_31 (x0 : Nat) (x1 : Int32) (x2 : Int32) (μ : qM) : Option qR :=
  if x2 = (1 : Int32) then
    qbnd (oGetI μ 4 x0 7) fun v1 =>
    qbnd (oGetI μ 4 x0 5) fun v2 =>
    qbnd (oPutI μ 4 x0 7 (v1 ||| ((1 : Int32) <<< (v2 &&& 31)))) fun μ3 =>
    fX4_takeBehind_43 x0 x1 x2 μ3
  else
    fX4_takeBehind_43 x0 x1 x2 μ
noncomputable def gX4_takeBehind (a0 : Nat) (a1 : Int32) (μ : qM) : Option qR :=
  qbnd (fX7_isDigit a1 μ) fun r1 =>
  if r1.1 = 0 then
    if a1 = (41 : Int32) then
      qbnd (fX4_close a0 r1.2.2) fun r5 =>
      if qnz r5.1 = r5.1 then some (r5.1, 0, r5.2.2) else none
    else
      qbnd (fX4_rankOf a1 r1.2.2) fun r2 =>
      if r2.1 = 0 then
        if qnz (0 : Int32) = (0 : Int32) then some ((0 : Int32), 0, r2.2.2) else none
      else
        if r2.1 = (1 : Int32) then
          qbnd (oGetI r2.2.2 4 a0 7) fun v3 =>
          qbnd (oGetI r2.2.2 4 a0 5) fun v4 =>
          if ((qush v3 v4) &&& (1 : Int32)) = 0 then
            fX4_takeBehind_31 a0 a1 r2.1 r2.2.2
          else
            if qnz (0 : Int32) = (0 : Int32) then some ((0 : Int32), 0, r2.2.2) else none
        else
          fX4_takeBehind_31 a0 a1 r2.1 r2.2.2
  else
    qbnd (fX4_takeDigit a0 a1 r1.2.2) fun r6 =>
    if qnz r6.1 = r6.1 then some (r6.1, 0, r6.2.2) else none
noncomputable def fX4_takeBehind (a0 : Nat) (a1 : Int32) (μ : qM) : Option qR := if (qk μ a0).1 = 4 then gX4_takeBehind a0 a1 μ else none
noncomputable def aX4_takeBehind (l : List Value) (μ : qM) : Option qR := match l with
  | [.ref x0, .int x1] => fX4_takeBehind x0 x1 μ
  | _ => none
noncomputable def cfX4_takeBehind : qF := fun n l μ => if n = 138 then aX7_isDigit l μ else if n = 42 then aX4_takeDigit l μ else if n = 43 then aX4_close l μ else if n = 50 then aX4_rankOf l μ else if n = 44 then aX4_settle l μ else if n = 45 then aX4_postpone l μ else none
theorem hcX4_takeBehind {base : Nat} {D : va_G} {ca : Nat → ClassId} {cv : Nat → Value} (hcv : ∀ j, (cv j).category = 1) : ∀ M as μ r, cfX4_takeBehind M as μ = some r → qGood false base D ca cv 3 M as μ r := by
  intro M as μ r h
  unfold cfX4_takeBehind at h
  split at h
  · rename_i e; subst e; exact (gaX7_isDigit hcv h).mono (by omega)
  split at h
  · rename_i e; subst e; exact (gaX4_takeDigit hcv h).mono (by omega)
  split at h
  · rename_i e; subst e; exact (gaX4_close hcv h).mono (by omega)
  split at h
  · rename_i e; subst e; exact (gaX4_rankOf hcv h).mono (by omega)
  split at h
  · rename_i e; subst e; exact (gaX4_settle hcv h).mono (by omega)
  split at h
  · rename_i e; subst e; exact (gaX4_postpone hcv h).mono (by omega)
  cases h
def jX4_takeBehind_31 (f : Nat → Int32 → Int32 → qM → Option qR) (L S : List Value) (μ : qM) : Option qR := match L, S with
  | [.ref x0, .int x1, .int x2], [] => f x0 x1 x2 μ
  | _, _ => none
theorem jeX4_takeBehind_31 {base : Nat} {D : va_G} {ca : Nat → ClassId} {cv : Nat → Value} {d : Nat} {f : Nat → Int32 → Int32 → qM → Option qR} (hf : ∀ (x0 : Nat) (x1 : Int32) (x2 : Int32) (μ : qM) (r : qR), f x0 x1 x2 μ = some r → qEv false base D ca cv d 41 r 31 [.ref x0, .int x1, .int x2] [] μ) {L S : List Value} {μ : qM} {r : qR} (h : jX4_takeBehind_31 f L S μ = some r) : qEv false base D ca cv d 41 r 31 L S μ := by
  unfold jX4_takeBehind_31 at h
  split at h
  · exact (hf _ _ _ _ _ h).le rfl ⟨Or.inr rfl, Or.inr rfl, Or.inr rfl, trivial⟩
  · cases h
def jX4_takeBehind_43 (f : Nat → Int32 → Int32 → qM → Option qR) (L S : List Value) (μ : qM) : Option qR := match L, S with
  | [.ref x0, .int x1, .int x2], [] => f x0 x1 x2 μ
  | _, _ => none
theorem jeX4_takeBehind_43 {base : Nat} {D : va_G} {ca : Nat → ClassId} {cv : Nat → Value} {d : Nat} {f : Nat → Int32 → Int32 → qM → Option qR} (hf : ∀ (x0 : Nat) (x1 : Int32) (x2 : Int32) (μ : qM) (r : qR), f x0 x1 x2 μ = some r → qEv false base D ca cv d 41 r 43 [.ref x0, .int x1, .int x2] [] μ) {L S : List Value} {μ : qM} {r : qR} (h : jX4_takeBehind_43 f L S μ = some r) : qEv false base D ca cv d 41 r 43 L S μ := by
  unfold jX4_takeBehind_43 at h
  split at h
  · exact (hf _ _ _ _ _ h).le rfl ⟨Or.inr rfl, Or.inr rfl, Or.inr rfl, trivial⟩
  · cases h
set_option maxRecDepth 100000 in
theorem lbX4_takeBehind_43 {base : Nat} {D : va_G} {ca : Nat → ClassId} {cv : Nat → Value} (hcv : ∀ j, (cv j).category = 1) (x0 : Nat) (x1 : Int32) (x2 : Int32) (μ : qM) (r : qR) (h : fX4_takeBehind_43 x0 x1 x2 μ = some r) : qEv false base D ca cv 4 41 r 43 [.ref x0, .int x1, .int x2] [] μ := by
    exact qblk_ev2 (cf := cfX4_takeBehind) (st := (fun n => qin [31, 43] n)) (K := (fun pc L S μ => none)) (cd := qcX4_takeBehind) (M := 41) (d0 := 3) rfl qcok_X4_takeBehind (Nat.le_refl _) (hcX4_takeBehind hcv) (by
    intro pc L S μ r h
    cases h) 400 (pc := 43) (L := [.ref x0, .int x1, .int x2]) (S := []) h
set_option maxRecDepth 100000 in
theorem lbX4_takeBehind_31 {base : Nat} {D : va_G} {ca : Nat → ClassId} {cv : Nat → Value} (hcv : ∀ j, (cv j).category = 1) (x0 : Nat) (x1 : Int32) (x2 : Int32) (μ : qM) (r : qR) (h : fX4_takeBehind_31 x0 x1 x2 μ = some r) : qEv false base D ca cv 4 41 r 31 [.ref x0, .int x1, .int x2] [] μ := by
    exact qblk_ev2 (cf := cfX4_takeBehind) (st := (fun n => qin [31, 43] n)) (K := (fun pc L S μ => if pc = 43 then jX4_takeBehind_43 (fX4_takeBehind_43) L S μ else none)) (cd := qcX4_takeBehind) (M := 41) (d0 := 3) rfl qcok_X4_takeBehind (Nat.le_refl _) (hcX4_takeBehind hcv) (by
    intro pc L S μ r h
    split at h
    · rename_i e; subst e; exact jeX4_takeBehind_43 (lbX4_takeBehind_43 hcv) h
    cases h) 400 (pc := 31) (L := [.ref x0, .int x1, .int x2]) (S := []) h
theorem npX4_takeBehind : (parseMethodDescriptor (qmy 41).desc).map (fun d => d.parameters.length) = some 1 := by decide +kernel
set_option maxRecDepth 100000 in
theorem gdX4_takeBehind {base : Nat} {D : va_G} {ca : Nat → ClassId} {cv : Nat → Value} (hcv : ∀ j, (cv j).category = 1) {a0 : Nat} {a1 : Int32} {μ : qM} {r : qR} (h : fX4_takeBehind a0 a1 μ = some r) : qGood false base D ca cv 4 41 [.ref a0, .int a1] μ r := by
  unfold fX4_takeBehind at h
  split at h
  · rename_i hk0
    exact qgood_of (by decide) (by omega) hcv (Or.inr ⟨by decide +kernel, hk0⟩) npX4_takeBehind rfl (Nat.le_of_ble_eq_true rfl) rfl (qblk_ev2 (cf := cfX4_takeBehind) (st := (fun n => qin [31, 43] n)) (K := (fun pc L S μ => if pc = 31 then jX4_takeBehind_31 (fX4_takeBehind_31) L S μ else none)) (cd := qcX4_takeBehind) (M := 41) (d0 := 3) rfl qcok_X4_takeBehind (Nat.le_refl _) (hcX4_takeBehind hcv) (by
    intro pc L S μ r h
    split at h
    · rename_i e; subst e; exact jeX4_takeBehind_31 (lbX4_takeBehind_31 hcv) h
    cases h) 400 (pc := 0) (L := qent [.ref a0, .int a1] 3) (S := []) h)
  · cases h
theorem gaX4_takeBehind {base : Nat} {D : va_G} {ca : Nat → ClassId} {cv : Nat → Value} (hcv : ∀ j, (cv j).category = 1) {l : List Value} {μ : qM} {r : qR} (h : aX4_takeBehind l μ = some r) : qGood false base D ca cv 4 41 l μ r := by
  unfold aX4_takeBehind at h
  split at h
  · exact gdX4_takeBehind hcv h
  · cases h
noncomputable def fX4_isLetter (a0 : Int32) (μ : qM) : Option qR :=
  if a0 = (119 : Int32) then
    if qnz (1 : Int32) = (1 : Int32) then some ((1 : Int32), 0, μ) else none
  else
    if a0 = (104 : Int32) then
      if qnz (1 : Int32) = (1 : Int32) then some ((1 : Int32), 0, μ) else none
    else
      if a0 = (97 : Int32) then
        if qnz (1 : Int32) = (1 : Int32) then some ((1 : Int32), 0, μ) else none
      else
        if a0 = (102 : Int32) then
          if qnz (1 : Int32) = (1 : Int32) then some ((1 : Int32), 0, μ) else none
        else
          if a0 = (105 : Int32) then
            if qnz (1 : Int32) = (1 : Int32) then some ((1 : Int32), 0, μ) else none
          else
            if a0 = (113 : Int32) then
              if qnz (1 : Int32) = (1 : Int32) then some ((1 : Int32), 0, μ) else none
            else
              if a0 = (120 : Int32) then
                if qnz (1 : Int32) = (1 : Int32) then some ((1 : Int32), 0, μ) else none
              else
                if qnz (0 : Int32) = (0 : Int32) then some ((0 : Int32), 0, μ) else none
noncomputable def aX4_isLetter (l : List Value) (μ : qM) : Option qR := match l with
  | [.int x0] => fX4_isLetter x0 μ
  | _ => none
noncomputable def cfX4_isLetter : qF := fun n l μ => none
theorem hcX4_isLetter {base : Nat} {D : va_G} {ca : Nat → ClassId} {cv : Nat → Value} (hcv : ∀ j, (cv j).category = 1) : ∀ M as μ r, cfX4_isLetter M as μ = some r → qGood false base D ca cv 0 M as μ r := by
  intro M as μ r h
  cases h
theorem npX4_isLetter : (parseMethodDescriptor (qmy 51).desc).map (fun d => d.parameters.length) = some 1 := by decide +kernel
set_option maxRecDepth 100000 in
theorem gdX4_isLetter {base : Nat} {D : va_G} {ca : Nat → ClassId} {cv : Nat → Value} (hcv : ∀ j, (cv j).category = 1) {a0 : Int32} {μ : qM} {r : qR} (h : fX4_isLetter a0 μ = some r) : qGood false base D ca cv 1 51 [.int a0] μ r := by
  exact qgood_of (by decide) (by omega) hcv (Or.inl rfl) npX4_isLetter rfl (Nat.le_of_ble_eq_true rfl) rfl (qblk_ev2 (cf := cfX4_isLetter) (st := (fun n => qin [] n)) (K := (fun pc L S μ => none)) (cd := qcX4_isLetter) (M := 51) (d0 := 0) rfl qcok_X4_isLetter (Nat.le_refl _) (hcX4_isLetter hcv) (by
    intro pc L S μ r h
    cases h) 400 (pc := 0) (L := qent [.int a0] 1) (S := []) h)
theorem gaX4_isLetter {base : Nat} {D : va_G} {ca : Nat → ClassId} {cv : Nat → Value} (hcv : ∀ j, (cv j).category = 1) {l : List Value} {μ : qM} {r : qR} (h : aX4_isLetter l μ = some r) : qGood false base D ca cv 1 51 l μ r := by
  unfold aX4_isLetter at h
  split at h
  · exact gdX4_isLetter hcv h
  · cases h
noncomputable def fX4_takeThing_55 (x0 : Nat) (x1 : Int32) (x2 : Int32) (s0 : Int32) (s1 : Nat) (μ : qM) : Option qR :=
  qbnd (oPutI μ 4 s1 6 s0) fun μ1 =>
  if x2 = 0 then
    qbnd (fX4_put x0 (-x1) μ1) fun r2 =>
    if (1 : Int32) = 0 ∨ (1 : Int32) = 1 then
      qbnd (oPutI r2.2.2 4 x0 8 (1 : Int32)) fun μ3 =>
      if qnz (1 : Int32) = (1 : Int32) then some ((1 : Int32), 0, μ3) else none
    else none
  else
    qbnd (fX4_put x0 (x1 - (48 : Int32)) μ1) fun r4 =>
    if (1 : Int32) = 0 ∨ (1 : Int32) = 1 then
      qbnd (oPutI r4.2.2 4 x0 8 (1 : Int32)) fun μ5 =>
      if qnz (1 : Int32) = (1 : Int32) then some ((1 : Int32), 0, μ5) else none
    else none
noncomputable def fX4_takeThing_49 (x0 : Nat) (x1 : Int32) (x2 : Int32) (μ : qM) : Option qR :=
  if x2 = 0 then
    fX4_takeThing_55 x0 x1 x2 (0 : Int32) x0 μ
  else
    fX4_takeThing_55 x0 x1 x2 (1 : Int32) x0 μ
noncomputable def gX4_takeThing (a0 : Nat) (a1 : Int32) (μ : qM) : Option qR :=
  if a1 = (45 : Int32) then
    qbnd (fX4_postpone a0 (256 : Int32) μ) fun r10 =>
    if qnz (1 : Int32) = (1 : Int32) then some ((1 : Int32), 0, r10.2.2) else none
  else
    if a1 = (40 : Int32) then
      qbnd (oGetI μ 4 a0 5) fun v3 =>
      if v3 < (4 : Int32) then
        qbnd (fX4_postpone a0 a1 μ) fun r4 =>
        qbnd (oGetI r4.2.2 4 a0 5) fun v5 =>
        qbnd (oPutI r4.2.2 4 a0 5 (v5 + (1 : Int32))) fun μ6 =>
        qbnd (oGetI μ6 4 a0 7) fun v7 =>
        qbnd (oGetI μ6 4 a0 5) fun v8 =>
        qbnd (oPutI μ6 4 a0 7 (v7 &&& (((1 : Int32) <<< (v8 &&& 31)) ^^^ (-1 : Int32)))) fun μ9 =>
        if qnz (1 : Int32) = (1 : Int32) then some ((1 : Int32), 0, μ9) else none
      else
        if qnz (0 : Int32) = (0 : Int32) then some ((0 : Int32), 0, μ) else none
    else
      qbnd (fX7_isDigit a1 μ) fun r1 =>
      if r1.1 = 0 then
        qbnd (fX4_isLetter a1 r1.2.2) fun r2 =>
        if r2.1 = 0 then
          if qnz (0 : Int32) = (0 : Int32) then some ((0 : Int32), 0, r2.2.2) else none
        else
          fX4_takeThing_49 a0 a1 r1.1 r2.2.2
      else
        fX4_takeThing_49 a0 a1 r1.1 r1.2.2
noncomputable def fX4_takeThing (a0 : Nat) (a1 : Int32) (μ : qM) : Option qR := if (qk μ a0).1 = 4 then gX4_takeThing a0 a1 μ else none
noncomputable def aX4_takeThing (l : List Value) (μ : qM) : Option qR := match l with
  | [.ref x0, .int x1] => fX4_takeThing x0 x1 μ
  | _ => none
noncomputable def cfX4_takeThing : qF := fun n l μ => if n = 45 then aX4_postpone l μ else if n = 138 then aX7_isDigit l μ else if n = 51 then aX4_isLetter l μ else if n = 46 then aX4_put l μ else none
theorem hcX4_takeThing {base : Nat} {D : va_G} {ca : Nat → ClassId} {cv : Nat → Value} (hcv : ∀ j, (cv j).category = 1) : ∀ M as μ r, cfX4_takeThing M as μ = some r → qGood false base D ca cv 1 M as μ r := by
  intro M as μ r h
  unfold cfX4_takeThing at h
  split at h
  · rename_i e; subst e; exact (gaX4_postpone hcv h).mono (by omega)
  split at h
  · rename_i e; subst e; exact (gaX7_isDigit hcv h).mono (by omega)
  split at h
  · rename_i e; subst e; exact (gaX4_isLetter hcv h).mono (by omega)
  split at h
  · rename_i e; subst e; exact (gaX4_put hcv h).mono (by omega)
  cases h
def jX4_takeThing_49 (f : Nat → Int32 → Int32 → qM → Option qR) (L S : List Value) (μ : qM) : Option qR := match L, S with
  | [.ref x0, .int x1, .int x2], [] => f x0 x1 x2 μ
  | _, _ => none
theorem jeX4_takeThing_49 {base : Nat} {D : va_G} {ca : Nat → ClassId} {cv : Nat → Value} {d : Nat} {f : Nat → Int32 → Int32 → qM → Option qR} (hf : ∀ (x0 : Nat) (x1 : Int32) (x2 : Int32) (μ : qM) (r : qR), f x0 x1 x2 μ = some r → qEv false base D ca cv d 40 r 49 [.ref x0, .int x1, .int x2] [] μ) {L S : List Value} {μ : qM} {r : qR} (h : jX4_takeThing_49 f L S μ = some r) : qEv false base D ca cv d 40 r 49 L S μ := by
  unfold jX4_takeThing_49 at h
  split at h
  · exact (hf _ _ _ _ _ h).le rfl ⟨Or.inr rfl, Or.inr rfl, Or.inr rfl, trivial⟩
  · cases h
def jX4_takeThing_55 (f : Nat → Int32 → Int32 → Int32 → Nat → qM → Option qR) (L S : List Value) (μ : qM) : Option qR := match L, S with
  | [.ref x0, .int x1, .int x2], [.int s0, .ref s1] => f x0 x1 x2 s0 s1 μ
  | _, _ => none
theorem jeX4_takeThing_55 {base : Nat} {D : va_G} {ca : Nat → ClassId} {cv : Nat → Value} {d : Nat} {f : Nat → Int32 → Int32 → Int32 → Nat → qM → Option qR} (hf : ∀ (x0 : Nat) (x1 : Int32) (x2 : Int32) (s0 : Int32) (s1 : Nat) (μ : qM) (r : qR), f x0 x1 x2 s0 s1 μ = some r → qEv false base D ca cv d 40 r 55 [.ref x0, .int x1, .int x2] [.int s0, .ref s1] μ) {L S : List Value} {μ : qM} {r : qR} (h : jX4_takeThing_55 f L S μ = some r) : qEv false base D ca cv d 40 r 55 L S μ := by
  unfold jX4_takeThing_55 at h
  split at h
  · exact (hf _ _ _ _ _ _ _ h).le rfl ⟨Or.inr rfl, Or.inr rfl, Or.inr rfl, trivial⟩
  · cases h
set_option maxRecDepth 100000 in
theorem lbX4_takeThing_55 {base : Nat} {D : va_G} {ca : Nat → ClassId} {cv : Nat → Value} (hcv : ∀ j, (cv j).category = 1) (x0 : Nat) (x1 : Int32) (x2 : Int32) (s0 : Int32) (s1 : Nat) (μ : qM) (r : qR) (h : fX4_takeThing_55 x0 x1 x2 s0 s1 μ = some r) : qEv false base D ca cv 2 40 r 55 [.ref x0, .int x1, .int x2] [.int s0, .ref s1] μ := by
    exact qblk_ev2 (cf := cfX4_takeThing) (st := (fun n => qin [49, 55] n)) (K := (fun pc L S μ => none)) (cd := qcX4_takeThing) (M := 40) (d0 := 1) rfl qcok_X4_takeThing (Nat.le_refl _) (hcX4_takeThing hcv) (by
    intro pc L S μ r h
    cases h) 400 (pc := 55) (L := [.ref x0, .int x1, .int x2]) (S := [.int s0, .ref s1]) h
set_option maxRecDepth 100000 in
theorem lbX4_takeThing_49 {base : Nat} {D : va_G} {ca : Nat → ClassId} {cv : Nat → Value} (hcv : ∀ j, (cv j).category = 1) (x0 : Nat) (x1 : Int32) (x2 : Int32) (μ : qM) (r : qR) (h : fX4_takeThing_49 x0 x1 x2 μ = some r) : qEv false base D ca cv 2 40 r 49 [.ref x0, .int x1, .int x2] [] μ := by
    exact qblk_ev2 (cf := cfX4_takeThing) (st := (fun n => qin [49, 55] n)) (K := (fun pc L S μ => if pc = 55 then jX4_takeThing_55 (fX4_takeThing_55) L S μ else none)) (cd := qcX4_takeThing) (M := 40) (d0 := 1) rfl qcok_X4_takeThing (Nat.le_refl _) (hcX4_takeThing hcv) (by
    intro pc L S μ r h
    split at h
    · rename_i e; subst e; exact jeX4_takeThing_55 (lbX4_takeThing_55 hcv) h
    cases h) 400 (pc := 49) (L := [.ref x0, .int x1, .int x2]) (S := []) h
theorem npX4_takeThing : (parseMethodDescriptor (qmy 40).desc).map (fun d => d.parameters.length) = some 1 := by decide +kernel
set_option maxRecDepth 100000 in
theorem gdX4_takeThing {base : Nat} {D : va_G} {ca : Nat → ClassId} {cv : Nat → Value} (hcv : ∀ j, (cv j).category = 1) {a0 : Nat} {a1 : Int32} {μ : qM} {r : qR} (h : fX4_takeThing a0 a1 μ = some r) : qGood false base D ca cv 2 40 [.ref a0, .int a1] μ r := by
  unfold fX4_takeThing at h
  split at h
  · rename_i hk0
    exact qgood_of (by decide) (by omega) hcv (Or.inr ⟨by decide +kernel, hk0⟩) npX4_takeThing rfl (Nat.le_of_ble_eq_true rfl) rfl (qblk_ev2 (cf := cfX4_takeThing) (st := (fun n => qin [49, 55] n)) (K := (fun pc L S μ => if pc = 49 then jX4_takeThing_49 (fX4_takeThing_49) L S μ else none)) (cd := qcX4_takeThing) (M := 40) (d0 := 1) rfl qcok_X4_takeThing (Nat.le_refl _) (hcX4_takeThing hcv) (by
    intro pc L S μ r h
    split at h
    · rename_i e; subst e; exact jeX4_takeThing_49 (lbX4_takeThing_49 hcv) h
    cases h) 400 (pc := 0) (L := qent [.ref a0, .int a1] 3) (S := []) h)
  · cases h
theorem gaX4_takeThing {base : Nat} {D : va_G} {ca : Nat → ClassId} {cv : Nat → Value} (hcv : ∀ j, (cv j).category = 1) {l : List Value} {μ : qM} {r : qR} (h : aX4_takeThing l μ = some r) : qGood false base D ca cv 2 40 l μ r := by
  unfold aX4_takeThing at h
  split at h
  · exact gdX4_takeThing hcv h
  · cases h
noncomputable def fX4_read_42 (k25 : Nat → Nat → Int32 → Int32 → qM → Option qR) (x0 : Nat) (x1 : Nat) (x2 : Int32) (x3 : Int32) (s0 : Int32) (μ : qM) : Option qR :=
  if s0 = 0 then
    some (x3, 0, μ)
  else
    k25 x0 x1 x2 (x3 + (1 : Int32)) μ
noncomputable def fX4_read_25 : Nat → Nat → Nat → Int32 → Int32 → qM → Option qR
  | 0 => fun _ _ _ _ _ => none
  | n + 1 => fun x0 x1 x2 x3 μ =>
    if x2 ≤ x3 then
      qbnd (oGetI μ 6 x1 1) fun v1 =>
      if v1 ≤ (40 : Int32) then
        if x2 ≤ 0 then
          qbnd (fX4_settle x0 (1 : Int32) μ) fun r2 =>
          some ((-1 : Int32), 0, r2.2.2)
        else
          qbnd (oGetI μ 4 x0 8) fun v3 =>
          if v3 = 0 then
            some (x2, 0, μ)
          else
            qbnd (oGetI μ 4 x0 5) fun v4 =>
            if v4 ≤ 0 then
              qbnd (fX4_settle x0 (1 : Int32) μ) fun r5 =>
              some ((-1 : Int32), 0, r5.2.2)
            else
              some (x2, 0, μ)
      else
        some ((40 : Int32), 0, μ)
    else
      qbnd (fX6_at x1 x3 μ) fun r6 =>
      qbnd (oGetI r6.2.2 4 x0 8) fun v7 =>
      if v7 = 0 then
        qbnd (fX4_takeThing x0 r6.1 r6.2.2) fun r8 =>
        fX4_read_42 (fX4_read_25 n) x0 x1 x2 x3 r8.1 r8.2.2
      else
        qbnd (fX4_takeBehind x0 r6.1 r6.2.2) fun r9 =>
        fX4_read_42 (fX4_read_25 n) x0 x1 x2 x3 r9.1 r9.2.2
noncomputable def gX4_read (a0 : Nat) (a1 : Nat) (μ : qM) : Option qR :=
  qbnd (oPutI μ 4 a0 3 (0 : Int32)) fun μ1 =>
  qbnd (oPutI μ1 4 a0 4 (0 : Int32)) fun μ2 =>
  qbnd (oPutI μ2 4 a0 5 (0 : Int32)) fun μ3 =>
  qbnd (oPutI μ3 4 a0 6 (0 : Int32)) fun μ4 =>
  qbnd (oPutI μ4 4 a0 7 (0 : Int32)) fun μ5 =>
  if (0 : Int32) = 0 ∨ (0 : Int32) = 1 then
    qbnd (oPutI μ5 4 a0 8 (0 : Int32)) fun μ6 =>
    qbnd (oGetI μ6 6 a1 1) fun v7 =>
    let w8 : Int32 := (if (40 : Int32) < v7 then (40 : Int32) else v7)
    fX4_read_25 qfu a0 a1 w8 (0 : Int32) μ6
  else none
noncomputable def fX4_read (a0 : Nat) (a1 : Nat) (μ : qM) : Option qR := if (qk μ a0).1 = 4 then gX4_read a0 a1 μ else none
noncomputable def aX4_read (l : List Value) (μ : qM) : Option qR := match l with
  | [.ref x0, .ref x1] => fX4_read x0 x1 μ
  | _ => none
noncomputable def cfX4_read : qF := fun n l μ => if n = 81 then aX6_at l μ else if n = 41 then aX4_takeBehind l μ else if n = 40 then aX4_takeThing l μ else if n = 44 then aX4_settle l μ else none
theorem hcX4_read {base : Nat} {D : va_G} {ca : Nat → ClassId} {cv : Nat → Value} (hcv : ∀ j, (cv j).category = 1) : ∀ M as μ r, cfX4_read M as μ = some r → qGood false base D ca cv 4 M as μ r := by
  intro M as μ r h
  unfold cfX4_read at h
  split at h
  · rename_i e; subst e; exact (gaX6_at hcv h).mono (by omega)
  split at h
  · rename_i e; subst e; exact (gaX4_takeBehind hcv h).mono (by omega)
  split at h
  · rename_i e; subst e; exact (gaX4_takeThing hcv h).mono (by omega)
  split at h
  · rename_i e; subst e; exact (gaX4_settle hcv h).mono (by omega)
  cases h
def jX4_read_25 (f : Nat → Nat → Int32 → Int32 → qM → Option qR) (L S : List Value) (μ : qM) : Option qR := match L, S with
  | [.ref x0, .ref x1, .int x2, .int x3, _, _], [] => f x0 x1 x2 x3 μ
  | _, _ => none
theorem jeX4_read_25 {base : Nat} {D : va_G} {ca : Nat → ClassId} {cv : Nat → Value} {d : Nat} {f : Nat → Nat → Int32 → Int32 → qM → Option qR} (hf : ∀ (x0 : Nat) (x1 : Nat) (x2 : Int32) (x3 : Int32) (μ : qM) (r : qR), f x0 x1 x2 x3 μ = some r → qEv false base D ca cv d 39 r 25 [.ref x0, .ref x1, .int x2, .int x3, .null, .null] [] μ) {L S : List Value} {μ : qM} {r : qR} (h : jX4_read_25 f L S μ = some r) : qEv false base D ca cv d 39 r 25 L S μ := by
  unfold jX4_read_25 at h
  split at h
  · exact (hf _ _ _ _ _ _ h).le rfl ⟨Or.inr rfl, Or.inr rfl, Or.inr rfl, Or.inr rfl, Or.inl rfl, Or.inl rfl, trivial⟩
  · cases h
def jX4_read_42 (f : Nat → Nat → Int32 → Int32 → Int32 → qM → Option qR) (L S : List Value) (μ : qM) : Option qR := match L, S with
  | [.ref x0, .ref x1, .int x2, .int x3, _, _], [.int s0] => f x0 x1 x2 x3 s0 μ
  | _, _ => none
theorem jeX4_read_42 {base : Nat} {D : va_G} {ca : Nat → ClassId} {cv : Nat → Value} {d : Nat} {f : Nat → Nat → Int32 → Int32 → Int32 → qM → Option qR} (hf : ∀ (x0 : Nat) (x1 : Nat) (x2 : Int32) (x3 : Int32) (s0 : Int32) (μ : qM) (r : qR), f x0 x1 x2 x3 s0 μ = some r → qEv false base D ca cv d 39 r 42 [.ref x0, .ref x1, .int x2, .int x3, .null, .null] [.int s0] μ) {L S : List Value} {μ : qM} {r : qR} (h : jX4_read_42 f L S μ = some r) : qEv false base D ca cv d 39 r 42 L S μ := by
  unfold jX4_read_42 at h
  split at h
  · exact (hf _ _ _ _ _ _ _ h).le rfl ⟨Or.inr rfl, Or.inr rfl, Or.inr rfl, Or.inr rfl, Or.inl rfl, Or.inl rfl, trivial⟩
  · cases h
set_option maxRecDepth 100000 in
theorem lbX4_read_42 {base : Nat} {D : va_G} {ca : Nat → ClassId} {cv : Nat → Value} (hcv : ∀ j, (cv j).category = 1) {k25 : Nat → Nat → Int32 → Int32 → qM → Option qR} (hk25 : ∀ (y0 : Nat) (y1 : Nat) (y2 : Int32) (y3 : Int32) (μ : qM) (r : qR), k25 y0 y1 y2 y3 μ = some r → qEv false base D ca cv 5 39 r 25 [.ref y0, .ref y1, .int y2, .int y3, .null, .null] [] μ) (x0 : Nat) (x1 : Nat) (x2 : Int32) (x3 : Int32) (s0 : Int32) (μ : qM) (r : qR) (h : fX4_read_42 k25 x0 x1 x2 x3 s0 μ = some r) : qEv false base D ca cv 5 39 r 42 [.ref x0, .ref x1, .int x2, .int x3, .null, .null] [.int s0] μ := by
    exact qblk_ev2 (cf := cfX4_read) (st := (fun n => qin [25, 42] n)) (K := (fun pc L S μ => if pc = 25 then jX4_read_25 k25 L S μ else none)) (cd := qcX4_read) (M := 39) (d0 := 4) rfl qcok_X4_read (Nat.le_refl _) (hcX4_read hcv) (by
    intro pc L S μ r h
    split at h
    · rename_i e; subst e; exact jeX4_read_25 hk25 h
    cases h) 400 (pc := 42) (L := [.ref x0, .ref x1, .int x2, .int x3, .null, .null]) (S := [.int s0]) h
set_option maxRecDepth 100000 in
theorem lbX4_read_25 {base : Nat} {D : va_G} {ca : Nat → ClassId} {cv : Nat → Value} (hcv : ∀ j, (cv j).category = 1) : ∀ (n : Nat) (x0 : Nat) (x1 : Nat) (x2 : Int32) (x3 : Int32) (μ : qM) (r : qR), fX4_read_25 n x0 x1 x2 x3 μ = some r → qEv false base D ca cv 5 39 r 25 [.ref x0, .ref x1, .int x2, .int x3, .null, .null] [] μ := by
  intro n
  induction n with
  | zero => intro x0 x1 x2 x3 μ r h; cases (show (none : Option qR) = some r from h)
  | succ n ih =>
    intro x0 x1 x2 x3 μ r h
    exact qblk_ev2 (cf := cfX4_read) (st := (fun n => qin [25, 42] n)) (K := (fun pc L S μ => if pc = 42 then jX4_read_42 (fX4_read_42 (fX4_read_25 n)) L S μ else none)) (cd := qcX4_read) (M := 39) (d0 := 4) rfl qcok_X4_read (Nat.le_refl _) (hcX4_read hcv) (by
    intro pc L S μ r h
    split at h
    · rename_i e; subst e; exact jeX4_read_42 (lbX4_read_42 hcv ih) h
    cases h) 400 (pc := 25) (L := [.ref x0, .ref x1, .int x2, .int x3, .null, .null]) (S := []) h
theorem npX4_read : (parseMethodDescriptor (qmy 39).desc).map (fun d => d.parameters.length) = some 1 := by decide +kernel
set_option maxRecDepth 100000 in
theorem gdX4_read {base : Nat} {D : va_G} {ca : Nat → ClassId} {cv : Nat → Value} (hcv : ∀ j, (cv j).category = 1) {a0 : Nat} {a1 : Nat} {μ : qM} {r : qR} (h : fX4_read a0 a1 μ = some r) : qGood false base D ca cv 5 39 [.ref a0, .ref a1] μ r := by
  unfold fX4_read at h
  split at h
  · rename_i hk0
    exact qgood_of (by decide) (by omega) hcv (Or.inr ⟨by decide +kernel, hk0⟩) npX4_read rfl (Nat.le_of_ble_eq_true rfl) rfl (qblk_ev2 (cf := cfX4_read) (st := (fun n => qin [25, 42] n)) (K := (fun pc L S μ => if pc = 25 then jX4_read_25 (fX4_read_25 qfu) L S μ else none)) (cd := qcX4_read) (M := 39) (d0 := 4) rfl qcok_X4_read (Nat.le_refl _) (hcX4_read hcv) (by
    intro pc L S μ r h
    split at h
    · rename_i e; subst e; exact jeX4_read_25 (lbX4_read_25 hcv qfu) h
    cases h) 400 (pc := 0) (L := qent [.ref a0, .ref a1] 6) (S := []) h)
  · cases h
theorem gaX4_read {base : Nat} {D : va_G} {ca : Nat → ClassId} {cv : Nat → Value} (hcv : ∀ j, (cv j).category = 1) {l : List Value} {μ : qM} {r : qR} (h : aX4_read l μ = some r) : qGood false base D ca cv 5 39 l μ r := by
  unfold aX4_read at h
  split at h
  · exact gdX4_read hcv h
  · cases h
noncomputable def fX5_standing_4 : Nat → Nat → Int32 → Int32 → Int32 → qM → Option qR
  | 0 => fun _ _ _ _ _ => none
  | n + 1 => fun x0 x1 x2 x3 μ =>
    if (8 : Int32) ≤ x3 then
      some (x2, 0, μ)
    else
      qbnd (oGetP μ 5 x0 1) fun v1 =>
      qbnd (oLdI 20 μ v1 x3) fun v2 =>
      if v2 = x1 then
        fX5_standing_4 n x0 x1 (x2 ||| ((1 : Int32) <<< (x3 &&& 31))) (x3 + (1 : Int32)) μ
      else
        fX5_standing_4 n x0 x1 x2 (x3 + (1 : Int32)) μ
noncomputable def gX5_standing (a0 : Nat) (a1 : Int32) (μ : qM) : Option qR :=
  fX5_standing_4 qfu a0 a1 (0 : Int32) (0 : Int32) μ
noncomputable def fX5_standing (a0 : Nat) (a1 : Int32) (μ : qM) : Option qR := if (qk μ a0).1 = 5 then gX5_standing a0 a1 μ else none
noncomputable def aX5_standing (l : List Value) (μ : qM) : Option qR := match l with
  | [.ref x0, .int x1] => fX5_standing x0 x1 μ
  | _ => none
noncomputable def cfX5_standing : qF := fun n l μ => none
theorem hcX5_standing {base : Nat} {D : va_G} {ca : Nat → ClassId} {cv : Nat → Value} (hcv : ∀ j, (cv j).category = 1) : ∀ M as μ r, cfX5_standing M as μ = some r → qGood false base D ca cv 0 M as μ r := by
  intro M as μ r h
  cases h
def jX5_standing_4 (f : Nat → Int32 → Int32 → Int32 → qM → Option qR) (L S : List Value) (μ : qM) : Option qR := match L, S with
  | [.ref x0, .int x1, .int x2, .int x3], [] => f x0 x1 x2 x3 μ
  | _, _ => none
theorem jeX5_standing_4 {base : Nat} {D : va_G} {ca : Nat → ClassId} {cv : Nat → Value} {d : Nat} {f : Nat → Int32 → Int32 → Int32 → qM → Option qR} (hf : ∀ (x0 : Nat) (x1 : Int32) (x2 : Int32) (x3 : Int32) (μ : qM) (r : qR), f x0 x1 x2 x3 μ = some r → qEv false base D ca cv d 56 r 4 [.ref x0, .int x1, .int x2, .int x3] [] μ) {L S : List Value} {μ : qM} {r : qR} (h : jX5_standing_4 f L S μ = some r) : qEv false base D ca cv d 56 r 4 L S μ := by
  unfold jX5_standing_4 at h
  split at h
  · exact (hf _ _ _ _ _ _ h).le rfl ⟨Or.inr rfl, Or.inr rfl, Or.inr rfl, Or.inr rfl, trivial⟩
  · cases h
set_option maxRecDepth 100000 in
theorem lbX5_standing_4 {base : Nat} {D : va_G} {ca : Nat → ClassId} {cv : Nat → Value} (hcv : ∀ j, (cv j).category = 1) : ∀ (n : Nat) (x0 : Nat) (x1 : Int32) (x2 : Int32) (x3 : Int32) (μ : qM) (r : qR), fX5_standing_4 n x0 x1 x2 x3 μ = some r → qEv false base D ca cv 1 56 r 4 [.ref x0, .int x1, .int x2, .int x3] [] μ := by
  intro n
  induction n with
  | zero => intro x0 x1 x2 x3 μ r h; cases (show (none : Option qR) = some r from h)
  | succ n ih =>
    intro x0 x1 x2 x3 μ r h
    exact qblk_ev2 (cf := cfX5_standing) (st := (fun n => qin [4] n)) (K := (fun pc L S μ => if pc = 4 then jX5_standing_4 (fX5_standing_4 n) L S μ else none)) (cd := qcX5_standing) (M := 56) (d0 := 0) rfl qcok_X5_standing (Nat.le_refl _) (hcX5_standing hcv) (by
    intro pc L S μ r h
    split at h
    · rename_i e; subst e; exact jeX5_standing_4 ih h
    cases h) 400 (pc := 4) (L := [.ref x0, .int x1, .int x2, .int x3]) (S := []) h
theorem npX5_standing : (parseMethodDescriptor (qmy 56).desc).map (fun d => d.parameters.length) = some 1 := by decide +kernel
set_option maxRecDepth 100000 in
theorem gdX5_standing {base : Nat} {D : va_G} {ca : Nat → ClassId} {cv : Nat → Value} (hcv : ∀ j, (cv j).category = 1) {a0 : Nat} {a1 : Int32} {μ : qM} {r : qR} (h : fX5_standing a0 a1 μ = some r) : qGood false base D ca cv 1 56 [.ref a0, .int a1] μ r := by
  unfold fX5_standing at h
  split at h
  · rename_i hk0
    exact qgood_of (by decide) (by omega) hcv (Or.inr ⟨by decide +kernel, hk0⟩) npX5_standing rfl (Nat.le_of_ble_eq_true rfl) rfl (qblk_ev2 (cf := cfX5_standing) (st := (fun n => qin [4] n)) (K := (fun pc L S μ => if pc = 4 then jX5_standing_4 (fX5_standing_4 qfu) L S μ else none)) (cd := qcX5_standing) (M := 56) (d0 := 0) rfl qcok_X5_standing (Nat.le_refl _) (hcX5_standing hcv) (by
    intro pc L S μ r h
    split at h
    · rename_i e; subst e; exact jeX5_standing_4 (lbX5_standing_4 hcv qfu) h
    cases h) 400 (pc := 0) (L := qent [.ref a0, .int a1] 4) (S := []) h)
  · cases h
theorem gaX5_standing {base : Nat} {D : va_G} {ca : Nat → ClassId} {cv : Nat → Value} (hcv : ∀ j, (cv j).category = 1) {l : List Value} {μ : qM} {r : qR} (h : aX5_standing l μ = some r) : qGood false base D ca cv 1 56 l μ r := by
  unfold aX5_standing at h
  split at h
  · exact gdX5_standing hcv h
  · cases h
noncomputable def fX5_firstRunning_2 : Nat → Nat → Int32 → qM → Option qR
  | 0 => fun _ _ _ => none
  | n + 1 => fun x0 x1 μ =>
    if (8 : Int32) ≤ x1 then
      some ((-1 : Int32), 0, μ)
    else
      qbnd (oGetP μ 5 x0 1) fun v1 =>
      qbnd (oLdI 20 μ v1 x1) fun v2 =>
      if v2 = (1 : Int32) then
        some (x1, 0, μ)
      else
        fX5_firstRunning_2 n x0 (x1 + (1 : Int32)) μ
noncomputable def gX5_firstRunning (a0 : Nat) (μ : qM) : Option qR :=
  fX5_firstRunning_2 qfu a0 (0 : Int32) μ
noncomputable def fX5_firstRunning (a0 : Nat) (μ : qM) : Option qR := if (qk μ a0).1 = 5 then gX5_firstRunning a0 μ else none
noncomputable def aX5_firstRunning (l : List Value) (μ : qM) : Option qR := match l with
  | [.ref x0] => fX5_firstRunning x0 μ
  | _ => none
noncomputable def cfX5_firstRunning : qF := fun n l μ => none
theorem hcX5_firstRunning {base : Nat} {D : va_G} {ca : Nat → ClassId} {cv : Nat → Value} (hcv : ∀ j, (cv j).category = 1) : ∀ M as μ r, cfX5_firstRunning M as μ = some r → qGood false base D ca cv 0 M as μ r := by
  intro M as μ r h
  cases h
def jX5_firstRunning_2 (f : Nat → Int32 → qM → Option qR) (L S : List Value) (μ : qM) : Option qR := match L, S with
  | [.ref x0, .int x1], [] => f x0 x1 μ
  | _, _ => none
theorem jeX5_firstRunning_2 {base : Nat} {D : va_G} {ca : Nat → ClassId} {cv : Nat → Value} {d : Nat} {f : Nat → Int32 → qM → Option qR} (hf : ∀ (x0 : Nat) (x1 : Int32) (μ : qM) (r : qR), f x0 x1 μ = some r → qEv false base D ca cv d 57 r 2 [.ref x0, .int x1] [] μ) {L S : List Value} {μ : qM} {r : qR} (h : jX5_firstRunning_2 f L S μ = some r) : qEv false base D ca cv d 57 r 2 L S μ := by
  unfold jX5_firstRunning_2 at h
  split at h
  · exact (hf _ _ _ _ h).le rfl ⟨Or.inr rfl, Or.inr rfl, trivial⟩
  · cases h
set_option maxRecDepth 100000 in
theorem lbX5_firstRunning_2 {base : Nat} {D : va_G} {ca : Nat → ClassId} {cv : Nat → Value} (hcv : ∀ j, (cv j).category = 1) : ∀ (n : Nat) (x0 : Nat) (x1 : Int32) (μ : qM) (r : qR), fX5_firstRunning_2 n x0 x1 μ = some r → qEv false base D ca cv 1 57 r 2 [.ref x0, .int x1] [] μ := by
  intro n
  induction n with
  | zero => intro x0 x1 μ r h; cases (show (none : Option qR) = some r from h)
  | succ n ih =>
    intro x0 x1 μ r h
    exact qblk_ev2 (cf := cfX5_firstRunning) (st := (fun n => qin [2] n)) (K := (fun pc L S μ => if pc = 2 then jX5_firstRunning_2 (fX5_firstRunning_2 n) L S μ else none)) (cd := qcX5_firstRunning) (M := 57) (d0 := 0) rfl qcok_X5_firstRunning (Nat.le_refl _) (hcX5_firstRunning hcv) (by
    intro pc L S μ r h
    split at h
    · rename_i e; subst e; exact jeX5_firstRunning_2 ih h
    cases h) 400 (pc := 2) (L := [.ref x0, .int x1]) (S := []) h
theorem npX5_firstRunning : (parseMethodDescriptor (qmy 57).desc).map (fun d => d.parameters.length) = some 0 := by decide +kernel
set_option maxRecDepth 100000 in
theorem gdX5_firstRunning {base : Nat} {D : va_G} {ca : Nat → ClassId} {cv : Nat → Value} (hcv : ∀ j, (cv j).category = 1) {a0 : Nat} {μ : qM} {r : qR} (h : fX5_firstRunning a0 μ = some r) : qGood false base D ca cv 1 57 [.ref a0] μ r := by
  unfold fX5_firstRunning at h
  split at h
  · rename_i hk0
    exact qgood_of (by decide) (by omega) hcv (Or.inr ⟨by decide +kernel, hk0⟩) npX5_firstRunning rfl (Nat.le_of_ble_eq_true rfl) rfl (qblk_ev2 (cf := cfX5_firstRunning) (st := (fun n => qin [2] n)) (K := (fun pc L S μ => if pc = 2 then jX5_firstRunning_2 (fX5_firstRunning_2 qfu) L S μ else none)) (cd := qcX5_firstRunning) (M := 57) (d0 := 0) rfl qcok_X5_firstRunning (Nat.le_refl _) (hcX5_firstRunning hcv) (by
    intro pc L S μ r h
    split at h
    · rename_i e; subst e; exact jeX5_firstRunning_2 (lbX5_firstRunning_2 hcv qfu) h
    cases h) 400 (pc := 0) (L := qent [.ref a0] 2) (S := []) h)
  · cases h
theorem gaX5_firstRunning {base : Nat} {D : va_G} {ca : Nat → ClassId} {cv : Nat → Value} (hcv : ∀ j, (cv j).category = 1) {l : List Value} {μ : qM} {r : qR} (h : aX5_firstRunning l μ = some r) : qGood false base D ca cv 1 57 l μ r := by
  unfold aX5_firstRunning at h
  split at h
  · exact gdX5_firstRunning hcv h
  · cases h
noncomputable def fX5_allHoldings_4 : Nat → Nat → Int32 → Int32 → qM → Option qR
  | 0 => fun _ _ _ _ => none
  | n + 1 => fun x0 x1 x2 μ =>
    if (8 : Int32) ≤ x2 then
      some (x1, 0, μ)
    else
      qbnd (fX5_holdings x0 x2 (0 : Int32) μ) fun r1 =>
      fX5_allHoldings_4 n x0 (x1 + r1.1) (x2 + (1 : Int32)) r1.2.2
noncomputable def gX5_allHoldings (a0 : Nat) (μ : qM) : Option qR :=
  fX5_allHoldings_4 qfu a0 (0 : Int32) (0 : Int32) μ
noncomputable def fX5_allHoldings (a0 : Nat) (μ : qM) : Option qR := if (qk μ a0).1 = 5 then gX5_allHoldings a0 μ else none
noncomputable def aX5_allHoldings (l : List Value) (μ : qM) : Option qR := match l with
  | [.ref x0] => fX5_allHoldings x0 μ
  | _ => none
noncomputable def cfX5_allHoldings : qF := fun n l μ => if n = 58 then aX5_holdings l μ else none
theorem hcX5_allHoldings {base : Nat} {D : va_G} {ca : Nat → ClassId} {cv : Nat → Value} (hcv : ∀ j, (cv j).category = 1) : ∀ M as μ r, cfX5_allHoldings M as μ = some r → qGood false base D ca cv 2 M as μ r := by
  intro M as μ r h
  unfold cfX5_allHoldings at h
  split at h
  · rename_i e; subst e; exact (gaX5_holdings hcv h).mono (by omega)
  cases h
def jX5_allHoldings_4 (f : Nat → Int32 → Int32 → qM → Option qR) (L S : List Value) (μ : qM) : Option qR := match L, S with
  | [.ref x0, .int x1, .int x2], [] => f x0 x1 x2 μ
  | _, _ => none
theorem jeX5_allHoldings_4 {base : Nat} {D : va_G} {ca : Nat → ClassId} {cv : Nat → Value} {d : Nat} {f : Nat → Int32 → Int32 → qM → Option qR} (hf : ∀ (x0 : Nat) (x1 : Int32) (x2 : Int32) (μ : qM) (r : qR), f x0 x1 x2 μ = some r → qEv false base D ca cv d 59 r 4 [.ref x0, .int x1, .int x2] [] μ) {L S : List Value} {μ : qM} {r : qR} (h : jX5_allHoldings_4 f L S μ = some r) : qEv false base D ca cv d 59 r 4 L S μ := by
  unfold jX5_allHoldings_4 at h
  split at h
  · exact (hf _ _ _ _ _ h).le rfl ⟨Or.inr rfl, Or.inr rfl, Or.inr rfl, trivial⟩
  · cases h
set_option maxRecDepth 100000 in
theorem lbX5_allHoldings_4 {base : Nat} {D : va_G} {ca : Nat → ClassId} {cv : Nat → Value} (hcv : ∀ j, (cv j).category = 1) : ∀ (n : Nat) (x0 : Nat) (x1 : Int32) (x2 : Int32) (μ : qM) (r : qR), fX5_allHoldings_4 n x0 x1 x2 μ = some r → qEv false base D ca cv 3 59 r 4 [.ref x0, .int x1, .int x2] [] μ := by
  intro n
  induction n with
  | zero => intro x0 x1 x2 μ r h; cases (show (none : Option qR) = some r from h)
  | succ n ih =>
    intro x0 x1 x2 μ r h
    exact qblk_ev2 (cf := cfX5_allHoldings) (st := (fun n => qin [4] n)) (K := (fun pc L S μ => if pc = 4 then jX5_allHoldings_4 (fX5_allHoldings_4 n) L S μ else none)) (cd := qcX5_allHoldings) (M := 59) (d0 := 2) rfl qcok_X5_allHoldings (Nat.le_refl _) (hcX5_allHoldings hcv) (by
    intro pc L S μ r h
    split at h
    · rename_i e; subst e; exact jeX5_allHoldings_4 ih h
    cases h) 400 (pc := 4) (L := [.ref x0, .int x1, .int x2]) (S := []) h
theorem npX5_allHoldings : (parseMethodDescriptor (qmy 59).desc).map (fun d => d.parameters.length) = some 0 := by decide +kernel
set_option maxRecDepth 100000 in
theorem gdX5_allHoldings {base : Nat} {D : va_G} {ca : Nat → ClassId} {cv : Nat → Value} (hcv : ∀ j, (cv j).category = 1) {a0 : Nat} {μ : qM} {r : qR} (h : fX5_allHoldings a0 μ = some r) : qGood false base D ca cv 3 59 [.ref a0] μ r := by
  unfold fX5_allHoldings at h
  split at h
  · rename_i hk0
    exact qgood_of (by decide) (by omega) hcv (Or.inr ⟨by decide +kernel, hk0⟩) npX5_allHoldings rfl (Nat.le_of_ble_eq_true rfl) rfl (qblk_ev2 (cf := cfX5_allHoldings) (st := (fun n => qin [4] n)) (K := (fun pc L S μ => if pc = 4 then jX5_allHoldings_4 (fX5_allHoldings_4 qfu) L S μ else none)) (cd := qcX5_allHoldings) (M := 59) (d0 := 2) rfl qcok_X5_allHoldings (Nat.le_refl _) (hcX5_allHoldings hcv) (by
    intro pc L S μ r h
    split at h
    · rename_i e; subst e; exact jeX5_allHoldings_4 (lbX5_allHoldings_4 hcv qfu) h
    cases h) 400 (pc := 0) (L := qent [.ref a0] 3) (S := []) h)
  · cases h
theorem gaX5_allHoldings {base : Nat} {D : va_G} {ca : Nat → ClassId} {cv : Nat → Value} (hcv : ∀ j, (cv j).category = 1) {l : List Value} {μ : qM} {r : qR} (h : aX5_allHoldings l μ = some r) : qGood false base D ca cv 3 59 l μ r := by
  unfold aX5_allHoldings at h
  split at h
  · exact gdX5_allHoldings hcv h
  · cases h
noncomputable def fX5_allFalls_4 : Nat → Nat → Int32 → Int32 → qM → Option qR
  | 0 => fun _ _ _ _ => none
  | n + 1 => fun x0 x1 x2 μ =>
    if (8 : Int32) ≤ x2 then
      some (x1, 0, μ)
    else
      qbnd (oGetP μ 5 x0 4) fun v1 =>
      qbnd (oLdI 20 μ v1 x2) fun v2 =>
      fX5_allFalls_4 n x0 (x1 + v2) (x2 + (1 : Int32)) μ
noncomputable def gX5_allFalls (a0 : Nat) (μ : qM) : Option qR :=
  fX5_allFalls_4 qfu a0 (0 : Int32) (0 : Int32) μ
noncomputable def fX5_allFalls (a0 : Nat) (μ : qM) : Option qR := if (qk μ a0).1 = 5 then gX5_allFalls a0 μ else none
noncomputable def aX5_allFalls (l : List Value) (μ : qM) : Option qR := match l with
  | [.ref x0] => fX5_allFalls x0 μ
  | _ => none
noncomputable def cfX5_allFalls : qF := fun n l μ => none
theorem hcX5_allFalls {base : Nat} {D : va_G} {ca : Nat → ClassId} {cv : Nat → Value} (hcv : ∀ j, (cv j).category = 1) : ∀ M as μ r, cfX5_allFalls M as μ = some r → qGood false base D ca cv 0 M as μ r := by
  intro M as μ r h
  cases h
def jX5_allFalls_4 (f : Nat → Int32 → Int32 → qM → Option qR) (L S : List Value) (μ : qM) : Option qR := match L, S with
  | [.ref x0, .int x1, .int x2], [] => f x0 x1 x2 μ
  | _, _ => none
theorem jeX5_allFalls_4 {base : Nat} {D : va_G} {ca : Nat → ClassId} {cv : Nat → Value} {d : Nat} {f : Nat → Int32 → Int32 → qM → Option qR} (hf : ∀ (x0 : Nat) (x1 : Int32) (x2 : Int32) (μ : qM) (r : qR), f x0 x1 x2 μ = some r → qEv false base D ca cv d 60 r 4 [.ref x0, .int x1, .int x2] [] μ) {L S : List Value} {μ : qM} {r : qR} (h : jX5_allFalls_4 f L S μ = some r) : qEv false base D ca cv d 60 r 4 L S μ := by
  unfold jX5_allFalls_4 at h
  split at h
  · exact (hf _ _ _ _ _ h).le rfl ⟨Or.inr rfl, Or.inr rfl, Or.inr rfl, trivial⟩
  · cases h
set_option maxRecDepth 100000 in
theorem lbX5_allFalls_4 {base : Nat} {D : va_G} {ca : Nat → ClassId} {cv : Nat → Value} (hcv : ∀ j, (cv j).category = 1) : ∀ (n : Nat) (x0 : Nat) (x1 : Int32) (x2 : Int32) (μ : qM) (r : qR), fX5_allFalls_4 n x0 x1 x2 μ = some r → qEv false base D ca cv 1 60 r 4 [.ref x0, .int x1, .int x2] [] μ := by
  intro n
  induction n with
  | zero => intro x0 x1 x2 μ r h; cases (show (none : Option qR) = some r from h)
  | succ n ih =>
    intro x0 x1 x2 μ r h
    exact qblk_ev2 (cf := cfX5_allFalls) (st := (fun n => qin [4] n)) (K := (fun pc L S μ => if pc = 4 then jX5_allFalls_4 (fX5_allFalls_4 n) L S μ else none)) (cd := qcX5_allFalls) (M := 60) (d0 := 0) rfl qcok_X5_allFalls (Nat.le_refl _) (hcX5_allFalls hcv) (by
    intro pc L S μ r h
    split at h
    · rename_i e; subst e; exact jeX5_allFalls_4 ih h
    cases h) 400 (pc := 4) (L := [.ref x0, .int x1, .int x2]) (S := []) h
theorem npX5_allFalls : (parseMethodDescriptor (qmy 60).desc).map (fun d => d.parameters.length) = some 0 := by decide +kernel
set_option maxRecDepth 100000 in
theorem gdX5_allFalls {base : Nat} {D : va_G} {ca : Nat → ClassId} {cv : Nat → Value} (hcv : ∀ j, (cv j).category = 1) {a0 : Nat} {μ : qM} {r : qR} (h : fX5_allFalls a0 μ = some r) : qGood false base D ca cv 1 60 [.ref a0] μ r := by
  unfold fX5_allFalls at h
  split at h
  · rename_i hk0
    exact qgood_of (by decide) (by omega) hcv (Or.inr ⟨by decide +kernel, hk0⟩) npX5_allFalls rfl (Nat.le_of_ble_eq_true rfl) rfl (qblk_ev2 (cf := cfX5_allFalls) (st := (fun n => qin [4] n)) (K := (fun pc L S μ => if pc = 4 then jX5_allFalls_4 (fX5_allFalls_4 qfu) L S μ else none)) (cd := qcX5_allFalls) (M := 60) (d0 := 0) rfl qcok_X5_allFalls (Nat.le_refl _) (hcX5_allFalls hcv) (by
    intro pc L S μ r h
    split at h
    · rename_i e; subst e; exact jeX5_allFalls_4 (lbX5_allFalls_4 hcv qfu) h
    cases h) 400 (pc := 0) (L := qent [.ref a0] 3) (S := []) h)
  · cases h
theorem gaX5_allFalls {base : Nat} {D : va_G} {ca : Nat → ClassId} {cv : Nat → Value} (hcv : ∀ j, (cv j).category = 1) {l : List Value} {μ : qM} {r : qR} (h : aX5_allFalls l μ = some r) : qGood false base D ca cv 1 60 l μ r := by
  unfold aX5_allFalls at h
  split at h
  · exact gdX5_allFalls hcv h
  · cases h
noncomputable def fX5_heldSum_9 (k4 : Nat → Int32 → Int32 → qM → Option qR) : Nat → Nat → Int32 → Int32 → Int32 → qM → Option qR
  | 0 => fun _ _ _ _ _ => none
  | n + 1 => fun x0 x1 x2 x3 μ =>
    if (8 : Int32) ≤ x3 then
      k4 x0 x1 (x2 + (1 : Int32)) μ
    else
      qbnd (fX5_modeAt x0 x3 x2 μ) fun r1 =>
      fX5_heldSum_9 k4 n x0 (((31 : Int32) * x1) + r1.1) x2 (x3 + (1 : Int32)) r1.2.2
noncomputable def fX5_heldSum_4 : Nat → Nat → Int32 → Int32 → qM → Option qR
  | 0 => fun _ _ _ _ => none
  | n + 1 => fun x0 x1 x2 μ =>
    if (85 : Int32) ≤ x2 then
      some (x1, 0, μ)
    else
      fX5_heldSum_9 (fX5_heldSum_4 n) qfu x0 x1 x2 (0 : Int32) μ
noncomputable def gX5_heldSum (a0 : Nat) (μ : qM) : Option qR :=
  fX5_heldSum_4 qfu a0 (7 : Int32) (0 : Int32) μ
noncomputable def fX5_heldSum (a0 : Nat) (μ : qM) : Option qR := if (qk μ a0).1 = 5 then gX5_heldSum a0 μ else none
noncomputable def aX5_heldSum (l : List Value) (μ : qM) : Option qR := match l with
  | [.ref x0] => fX5_heldSum x0 μ
  | _ => none
noncomputable def cfX5_heldSum : qF := fun n l μ => if n = 54 then aX5_modeAt l μ else none
theorem hcX5_heldSum {base : Nat} {D : va_G} {ca : Nat → ClassId} {cv : Nat → Value} (hcv : ∀ j, (cv j).category = 1) : ∀ M as μ r, cfX5_heldSum M as μ = some r → qGood false base D ca cv 1 M as μ r := by
  intro M as μ r h
  unfold cfX5_heldSum at h
  split at h
  · rename_i e; subst e; exact (gaX5_modeAt hcv h).mono (by omega)
  cases h
def jX5_heldSum_4 (f : Nat → Int32 → Int32 → qM → Option qR) (L S : List Value) (μ : qM) : Option qR := match L, S with
  | [.ref x0, .int x1, .int x2, _], [] => f x0 x1 x2 μ
  | _, _ => none
theorem jeX5_heldSum_4 {base : Nat} {D : va_G} {ca : Nat → ClassId} {cv : Nat → Value} {d : Nat} {f : Nat → Int32 → Int32 → qM → Option qR} (hf : ∀ (x0 : Nat) (x1 : Int32) (x2 : Int32) (μ : qM) (r : qR), f x0 x1 x2 μ = some r → qEv false base D ca cv d 61 r 4 [.ref x0, .int x1, .int x2, .null] [] μ) {L S : List Value} {μ : qM} {r : qR} (h : jX5_heldSum_4 f L S μ = some r) : qEv false base D ca cv d 61 r 4 L S μ := by
  unfold jX5_heldSum_4 at h
  split at h
  · exact (hf _ _ _ _ _ h).le rfl ⟨Or.inr rfl, Or.inr rfl, Or.inr rfl, Or.inl rfl, trivial⟩
  · cases h
def jX5_heldSum_9 (f : Nat → Int32 → Int32 → Int32 → qM → Option qR) (L S : List Value) (μ : qM) : Option qR := match L, S with
  | [.ref x0, .int x1, .int x2, .int x3], [] => f x0 x1 x2 x3 μ
  | _, _ => none
theorem jeX5_heldSum_9 {base : Nat} {D : va_G} {ca : Nat → ClassId} {cv : Nat → Value} {d : Nat} {f : Nat → Int32 → Int32 → Int32 → qM → Option qR} (hf : ∀ (x0 : Nat) (x1 : Int32) (x2 : Int32) (x3 : Int32) (μ : qM) (r : qR), f x0 x1 x2 x3 μ = some r → qEv false base D ca cv d 61 r 9 [.ref x0, .int x1, .int x2, .int x3] [] μ) {L S : List Value} {μ : qM} {r : qR} (h : jX5_heldSum_9 f L S μ = some r) : qEv false base D ca cv d 61 r 9 L S μ := by
  unfold jX5_heldSum_9 at h
  split at h
  · exact (hf _ _ _ _ _ _ h).le rfl ⟨Or.inr rfl, Or.inr rfl, Or.inr rfl, Or.inr rfl, trivial⟩
  · cases h
set_option maxRecDepth 100000 in
theorem lbX5_heldSum_9 {base : Nat} {D : va_G} {ca : Nat → ClassId} {cv : Nat → Value} (hcv : ∀ j, (cv j).category = 1) {k4 : Nat → Int32 → Int32 → qM → Option qR} (hk4 : ∀ (y0 : Nat) (y1 : Int32) (y2 : Int32) (μ : qM) (r : qR), k4 y0 y1 y2 μ = some r → qEv false base D ca cv 2 61 r 4 [.ref y0, .int y1, .int y2, .null] [] μ) : ∀ (n : Nat) (x0 : Nat) (x1 : Int32) (x2 : Int32) (x3 : Int32) (μ : qM) (r : qR), fX5_heldSum_9 k4 n x0 x1 x2 x3 μ = some r → qEv false base D ca cv 2 61 r 9 [.ref x0, .int x1, .int x2, .int x3] [] μ := by
  intro n
  induction n with
  | zero => intro x0 x1 x2 x3 μ r h; cases (show (none : Option qR) = some r from h)
  | succ n ih =>
    intro x0 x1 x2 x3 μ r h
    exact qblk_ev2 (cf := cfX5_heldSum) (st := (fun n => qin [4, 9] n)) (K := (fun pc L S μ => if pc = 4 then jX5_heldSum_4 k4 L S μ else if pc = 9 then jX5_heldSum_9 (fX5_heldSum_9 k4 n) L S μ else none)) (cd := qcX5_heldSum) (M := 61) (d0 := 1) rfl qcok_X5_heldSum (Nat.le_refl _) (hcX5_heldSum hcv) (by
    intro pc L S μ r h
    split at h
    · rename_i e; subst e; exact jeX5_heldSum_4 hk4 h
    split at h
    · rename_i e; subst e; exact jeX5_heldSum_9 ih h
    cases h) 400 (pc := 9) (L := [.ref x0, .int x1, .int x2, .int x3]) (S := []) h
set_option maxRecDepth 100000 in
theorem lbX5_heldSum_4 {base : Nat} {D : va_G} {ca : Nat → ClassId} {cv : Nat → Value} (hcv : ∀ j, (cv j).category = 1) : ∀ (n : Nat) (x0 : Nat) (x1 : Int32) (x2 : Int32) (μ : qM) (r : qR), fX5_heldSum_4 n x0 x1 x2 μ = some r → qEv false base D ca cv 2 61 r 4 [.ref x0, .int x1, .int x2, .null] [] μ := by
  intro n
  induction n with
  | zero => intro x0 x1 x2 μ r h; cases (show (none : Option qR) = some r from h)
  | succ n ih =>
    intro x0 x1 x2 μ r h
    exact qblk_ev2 (cf := cfX5_heldSum) (st := (fun n => qin [4, 9] n)) (K := (fun pc L S μ => if pc = 9 then jX5_heldSum_9 (fX5_heldSum_9 (fX5_heldSum_4 n) qfu) L S μ else none)) (cd := qcX5_heldSum) (M := 61) (d0 := 1) rfl qcok_X5_heldSum (Nat.le_refl _) (hcX5_heldSum hcv) (by
    intro pc L S μ r h
    split at h
    · rename_i e; subst e; exact jeX5_heldSum_9 (lbX5_heldSum_9 hcv ih qfu) h
    cases h) 400 (pc := 4) (L := [.ref x0, .int x1, .int x2, .null]) (S := []) h
theorem npX5_heldSum : (parseMethodDescriptor (qmy 61).desc).map (fun d => d.parameters.length) = some 0 := by decide +kernel
set_option maxRecDepth 100000 in
theorem gdX5_heldSum {base : Nat} {D : va_G} {ca : Nat → ClassId} {cv : Nat → Value} (hcv : ∀ j, (cv j).category = 1) {a0 : Nat} {μ : qM} {r : qR} (h : fX5_heldSum a0 μ = some r) : qGood false base D ca cv 2 61 [.ref a0] μ r := by
  unfold fX5_heldSum at h
  split at h
  · rename_i hk0
    exact qgood_of (by decide) (by omega) hcv (Or.inr ⟨by decide +kernel, hk0⟩) npX5_heldSum rfl (Nat.le_of_ble_eq_true rfl) rfl (qblk_ev2 (cf := cfX5_heldSum) (st := (fun n => qin [4, 9] n)) (K := (fun pc L S μ => if pc = 4 then jX5_heldSum_4 (fX5_heldSum_4 qfu) L S μ else none)) (cd := qcX5_heldSum) (M := 61) (d0 := 1) rfl qcok_X5_heldSum (Nat.le_refl _) (hcX5_heldSum hcv) (by
    intro pc L S μ r h
    split at h
    · rename_i e; subst e; exact jeX5_heldSum_4 (lbX5_heldSum_4 hcv qfu) h
    cases h) 400 (pc := 0) (L := qent [.ref a0] 4) (S := []) h)
  · cases h
theorem gaX5_heldSum {base : Nat} {D : va_G} {ca : Nat → ClassId} {cv : Nat → Value} (hcv : ∀ j, (cv j).category = 1) {l : List Value} {μ : qM} {r : qR} (h : aX5_heldSum l μ = some r) : qGood false base D ca cv 2 61 l μ r := by
  unfold aX5_heldSum at h
  split at h
  · exact gdX5_heldSum hcv h
  · cases h
noncomputable def fX5_stopLevel_5 : Nat → Nat → Int32 → Int32 → Int32 → Int32 → Int32 → qM → Option qR
  | 0 => fun _ _ _ _ _ _ _ => none
  | n + 1 => fun x0 x1 x2 x3 x4 x5 μ =>
    if x4 < x5 then
      some ((x4 + (1 : Int32)), 0, μ)
    else
      qbnd (fX7_onPath x2 x5 μ) fun r1 =>
      qbnd (fX5_modeAt x0 x1 r1.1 r1.2.2) fun r2 =>
      qbnd (fX7_stepMode x2 x5 x3 r2.2.2) fun r3 =>
      qbnd (oTab 1 2 (((7 : Int32) * r2.1) + r3.1)) fun v4 =>
      if v4 = r2.1 then
        fX5_stopLevel_5 n x0 x1 x2 x3 x4 (x5 + (1 : Int32)) r3.2.2
      else
        qbnd (fX5_isOpen x0 x1 r1.1 v4 r3.2.2) fun r5 =>
        if r5.1 = 0 then
          some (x5, 0, r5.2.2)
        else
          fX5_stopLevel_5 n x0 x1 x2 x3 x4 (x5 + (1 : Int32)) r5.2.2
noncomputable def gX5_stopLevel (a0 : Nat) (a1 : Int32) (a2 : Int32) (a3 : Int32) (μ : qM) : Option qR :=
  qbnd (fX7_levelOf a2 μ) fun r1 =>
  fX5_stopLevel_5 qfu a0 a1 a2 a3 r1.1 (0 : Int32) r1.2.2
noncomputable def fX5_stopLevel (a0 : Nat) (a1 : Int32) (a2 : Int32) (a3 : Int32) (μ : qM) : Option qR := if (qk μ a0).1 = 5 then gX5_stopLevel a0 a1 a2 a3 μ else none
noncomputable def aX5_stopLevel (l : List Value) (μ : qM) : Option qR := match l with
  | [.ref x0, .int x1, .int x2, .int x3] => fX5_stopLevel x0 x1 x2 x3 μ
  | _ => none
noncomputable def cfX5_stopLevel : qF := fun n l μ => if n = 135 then aX7_levelOf l μ else if n = 136 then aX7_onPath l μ else if n = 54 then aX5_modeAt l μ else if n = 137 then aX7_stepMode l μ else if n = 67 then aX5_isOpen l μ else none
theorem hcX5_stopLevel {base : Nat} {D : va_G} {ca : Nat → ClassId} {cv : Nat → Value} (hcv : ∀ j, (cv j).category = 1) : ∀ M as μ r, cfX5_stopLevel M as μ = some r → qGood false base D ca cv 2 M as μ r := by
  intro M as μ r h
  unfold cfX5_stopLevel at h
  split at h
  · rename_i e; subst e; exact (gaX7_levelOf hcv h).mono (by omega)
  split at h
  · rename_i e; subst e; exact (gaX7_onPath hcv h).mono (by omega)
  split at h
  · rename_i e; subst e; exact (gaX5_modeAt hcv h).mono (by omega)
  split at h
  · rename_i e; subst e; exact (gaX7_stepMode hcv h).mono (by omega)
  split at h
  · rename_i e; subst e; exact (gaX5_isOpen hcv h).mono (by omega)
  cases h
def jX5_stopLevel_5 (f : Nat → Int32 → Int32 → Int32 → Int32 → Int32 → qM → Option qR) (L S : List Value) (μ : qM) : Option qR := match L, S with
  | [.ref x0, .int x1, .int x2, .int x3, .int x4, .int x5, _, _, _], [] => f x0 x1 x2 x3 x4 x5 μ
  | _, _ => none
theorem jeX5_stopLevel_5 {base : Nat} {D : va_G} {ca : Nat → ClassId} {cv : Nat → Value} {d : Nat} {f : Nat → Int32 → Int32 → Int32 → Int32 → Int32 → qM → Option qR} (hf : ∀ (x0 : Nat) (x1 : Int32) (x2 : Int32) (x3 : Int32) (x4 : Int32) (x5 : Int32) (μ : qM) (r : qR), f x0 x1 x2 x3 x4 x5 μ = some r → qEv false base D ca cv d 68 r 5 [.ref x0, .int x1, .int x2, .int x3, .int x4, .int x5, .null, .null, .null] [] μ) {L S : List Value} {μ : qM} {r : qR} (h : jX5_stopLevel_5 f L S μ = some r) : qEv false base D ca cv d 68 r 5 L S μ := by
  unfold jX5_stopLevel_5 at h
  split at h
  · exact (hf _ _ _ _ _ _ _ _ h).le rfl ⟨Or.inr rfl, Or.inr rfl, Or.inr rfl, Or.inr rfl, Or.inr rfl, Or.inr rfl, Or.inl rfl, Or.inl rfl, Or.inl rfl, trivial⟩
  · cases h
set_option maxRecDepth 100000 in
theorem lbX5_stopLevel_5 {base : Nat} {D : va_G} {ca : Nat → ClassId} {cv : Nat → Value} (hcv : ∀ j, (cv j).category = 1) : ∀ (n : Nat) (x0 : Nat) (x1 : Int32) (x2 : Int32) (x3 : Int32) (x4 : Int32) (x5 : Int32) (μ : qM) (r : qR), fX5_stopLevel_5 n x0 x1 x2 x3 x4 x5 μ = some r → qEv false base D ca cv 3 68 r 5 [.ref x0, .int x1, .int x2, .int x3, .int x4, .int x5, .null, .null, .null] [] μ := by
  intro n
  induction n with
  | zero => intro x0 x1 x2 x3 x4 x5 μ r h; cases (show (none : Option qR) = some r from h)
  | succ n ih =>
    intro x0 x1 x2 x3 x4 x5 μ r h
    exact qblk_ev2 (cf := cfX5_stopLevel) (st := (fun n => qin [5] n)) (K := (fun pc L S μ => if pc = 5 then jX5_stopLevel_5 (fX5_stopLevel_5 n) L S μ else none)) (cd := qcX5_stopLevel) (M := 68) (d0 := 2) rfl qcok_X5_stopLevel (Nat.le_refl _) (hcX5_stopLevel hcv) (by
    intro pc L S μ r h
    split at h
    · rename_i e; subst e; exact jeX5_stopLevel_5 ih h
    cases h) 400 (pc := 5) (L := [.ref x0, .int x1, .int x2, .int x3, .int x4, .int x5, .null, .null, .null]) (S := []) h
theorem npX5_stopLevel : (parseMethodDescriptor (qmy 68).desc).map (fun d => d.parameters.length) = some 3 := by decide +kernel
set_option maxRecDepth 100000 in
theorem gdX5_stopLevel {base : Nat} {D : va_G} {ca : Nat → ClassId} {cv : Nat → Value} (hcv : ∀ j, (cv j).category = 1) {a0 : Nat} {a1 : Int32} {a2 : Int32} {a3 : Int32} {μ : qM} {r : qR} (h : fX5_stopLevel a0 a1 a2 a3 μ = some r) : qGood false base D ca cv 3 68 [.ref a0, .int a1, .int a2, .int a3] μ r := by
  unfold fX5_stopLevel at h
  split at h
  · rename_i hk0
    exact qgood_of (by decide) (by omega) hcv (Or.inr ⟨by decide +kernel, hk0⟩) npX5_stopLevel rfl (Nat.le_of_ble_eq_true rfl) rfl (qblk_ev2 (cf := cfX5_stopLevel) (st := (fun n => qin [5] n)) (K := (fun pc L S μ => if pc = 5 then jX5_stopLevel_5 (fX5_stopLevel_5 qfu) L S μ else none)) (cd := qcX5_stopLevel) (M := 68) (d0 := 2) rfl qcok_X5_stopLevel (Nat.le_refl _) (hcX5_stopLevel hcv) (by
    intro pc L S μ r h
    split at h
    · rename_i e; subst e; exact jeX5_stopLevel_5 (lbX5_stopLevel_5 hcv qfu) h
    cases h) 400 (pc := 0) (L := qent [.ref a0, .int a1, .int a2, .int a3] 9) (S := []) h)
  · cases h
theorem gaX5_stopLevel {base : Nat} {D : va_G} {ca : Nat → ClassId} {cv : Nat → Value} (hcv : ∀ j, (cv j).category = 1) {l : List Value} {μ : qM} {r : qR} (h : aX5_stopLevel l μ = some r) : qGood false base D ca cv 3 68 l μ r := by
  unfold aX5_stopLevel at h
  split at h
  · exact gdX5_stopLevel hcv h
  · cases h
noncomputable def fX5_newSteps_4 : Nat → Nat → Int32 → Int32 → Int32 → Int32 → Int32 → Int32 → qM → Option qR
  | 0 => fun _ _ _ _ _ _ _ _ => none
  | n + 1 => fun x0 x1 x2 x3 x4 x5 x6 μ =>
    if x4 ≤ x6 then
      some (x5, 0, μ)
    else
      qbnd (fX7_onPath x2 x6 μ) fun r1 =>
      qbnd (fX5_modeAt x0 x1 r1.1 r1.2.2) fun r2 =>
      qbnd (fX7_stepMode x2 x6 x3 r2.2.2) fun r3 =>
      qbnd (oTab 1 2 (((7 : Int32) * r2.1) + r3.1)) fun v4 =>
      if v4 = r2.1 then
        fX5_newSteps_4 n x0 x1 x2 x3 x4 x5 (x6 + (1 : Int32)) r3.2.2
      else
        fX5_newSteps_4 n x0 x1 x2 x3 x4 (x5 + (1 : Int32)) (x6 + (1 : Int32)) r3.2.2
noncomputable def gX5_newSteps (a0 : Nat) (a1 : Int32) (a2 : Int32) (a3 : Int32) (a4 : Int32) (μ : qM) : Option qR :=
  fX5_newSteps_4 qfu a0 a1 a2 a3 a4 (0 : Int32) (0 : Int32) μ
noncomputable def fX5_newSteps (a0 : Nat) (a1 : Int32) (a2 : Int32) (a3 : Int32) (a4 : Int32) (μ : qM) : Option qR := if (qk μ a0).1 = 5 then gX5_newSteps a0 a1 a2 a3 a4 μ else none
noncomputable def aX5_newSteps (l : List Value) (μ : qM) : Option qR := match l with
  | [.ref x0, .int x1, .int x2, .int x3, .int x4] => fX5_newSteps x0 x1 x2 x3 x4 μ
  | _ => none
noncomputable def cfX5_newSteps : qF := fun n l μ => if n = 136 then aX7_onPath l μ else if n = 54 then aX5_modeAt l μ else if n = 137 then aX7_stepMode l μ else none
theorem hcX5_newSteps {base : Nat} {D : va_G} {ca : Nat → ClassId} {cv : Nat → Value} (hcv : ∀ j, (cv j).category = 1) : ∀ M as μ r, cfX5_newSteps M as μ = some r → qGood false base D ca cv 2 M as μ r := by
  intro M as μ r h
  unfold cfX5_newSteps at h
  split at h
  · rename_i e; subst e; exact (gaX7_onPath hcv h).mono (by omega)
  split at h
  · rename_i e; subst e; exact (gaX5_modeAt hcv h).mono (by omega)
  split at h
  · rename_i e; subst e; exact (gaX7_stepMode hcv h).mono (by omega)
  cases h
def jX5_newSteps_4 (f : Nat → Int32 → Int32 → Int32 → Int32 → Int32 → Int32 → qM → Option qR) (L S : List Value) (μ : qM) : Option qR := match L, S with
  | [.ref x0, .int x1, .int x2, .int x3, .int x4, .int x5, .int x6, _], [] => f x0 x1 x2 x3 x4 x5 x6 μ
  | _, _ => none
theorem jeX5_newSteps_4 {base : Nat} {D : va_G} {ca : Nat → ClassId} {cv : Nat → Value} {d : Nat} {f : Nat → Int32 → Int32 → Int32 → Int32 → Int32 → Int32 → qM → Option qR} (hf : ∀ (x0 : Nat) (x1 : Int32) (x2 : Int32) (x3 : Int32) (x4 : Int32) (x5 : Int32) (x6 : Int32) (μ : qM) (r : qR), f x0 x1 x2 x3 x4 x5 x6 μ = some r → qEv false base D ca cv d 69 r 4 [.ref x0, .int x1, .int x2, .int x3, .int x4, .int x5, .int x6, .null] [] μ) {L S : List Value} {μ : qM} {r : qR} (h : jX5_newSteps_4 f L S μ = some r) : qEv false base D ca cv d 69 r 4 L S μ := by
  unfold jX5_newSteps_4 at h
  split at h
  · exact (hf _ _ _ _ _ _ _ _ _ h).le rfl ⟨Or.inr rfl, Or.inr rfl, Or.inr rfl, Or.inr rfl, Or.inr rfl, Or.inr rfl, Or.inr rfl, Or.inl rfl, trivial⟩
  · cases h
set_option maxRecDepth 100000 in
theorem lbX5_newSteps_4 {base : Nat} {D : va_G} {ca : Nat → ClassId} {cv : Nat → Value} (hcv : ∀ j, (cv j).category = 1) : ∀ (n : Nat) (x0 : Nat) (x1 : Int32) (x2 : Int32) (x3 : Int32) (x4 : Int32) (x5 : Int32) (x6 : Int32) (μ : qM) (r : qR), fX5_newSteps_4 n x0 x1 x2 x3 x4 x5 x6 μ = some r → qEv false base D ca cv 3 69 r 4 [.ref x0, .int x1, .int x2, .int x3, .int x4, .int x5, .int x6, .null] [] μ := by
  intro n
  induction n with
  | zero => intro x0 x1 x2 x3 x4 x5 x6 μ r h; cases (show (none : Option qR) = some r from h)
  | succ n ih =>
    intro x0 x1 x2 x3 x4 x5 x6 μ r h
    exact qblk_ev2 (cf := cfX5_newSteps) (st := (fun n => qin [4] n)) (K := (fun pc L S μ => if pc = 4 then jX5_newSteps_4 (fX5_newSteps_4 n) L S μ else none)) (cd := qcX5_newSteps) (M := 69) (d0 := 2) rfl qcok_X5_newSteps (Nat.le_refl _) (hcX5_newSteps hcv) (by
    intro pc L S μ r h
    split at h
    · rename_i e; subst e; exact jeX5_newSteps_4 ih h
    cases h) 400 (pc := 4) (L := [.ref x0, .int x1, .int x2, .int x3, .int x4, .int x5, .int x6, .null]) (S := []) h
theorem npX5_newSteps : (parseMethodDescriptor (qmy 69).desc).map (fun d => d.parameters.length) = some 4 := by decide +kernel
set_option maxRecDepth 100000 in
theorem gdX5_newSteps {base : Nat} {D : va_G} {ca : Nat → ClassId} {cv : Nat → Value} (hcv : ∀ j, (cv j).category = 1) {a0 : Nat} {a1 : Int32} {a2 : Int32} {a3 : Int32} {a4 : Int32} {μ : qM} {r : qR} (h : fX5_newSteps a0 a1 a2 a3 a4 μ = some r) : qGood false base D ca cv 3 69 [.ref a0, .int a1, .int a2, .int a3, .int a4] μ r := by
  unfold fX5_newSteps at h
  split at h
  · rename_i hk0
    exact qgood_of (by decide) (by omega) hcv (Or.inr ⟨by decide +kernel, hk0⟩) npX5_newSteps rfl (Nat.le_of_ble_eq_true rfl) rfl (qblk_ev2 (cf := cfX5_newSteps) (st := (fun n => qin [4] n)) (K := (fun pc L S μ => if pc = 4 then jX5_newSteps_4 (fX5_newSteps_4 qfu) L S μ else none)) (cd := qcX5_newSteps) (M := 69) (d0 := 2) rfl qcok_X5_newSteps (Nat.le_refl _) (hcX5_newSteps hcv) (by
    intro pc L S μ r h
    split at h
    · rename_i e; subst e; exact jeX5_newSteps_4 (lbX5_newSteps_4 hcv qfu) h
    cases h) 400 (pc := 0) (L := qent [.ref a0, .int a1, .int a2, .int a3, .int a4] 8) (S := []) h)
  · cases h
theorem gaX5_newSteps {base : Nat} {D : va_G} {ca : Nat → ClassId} {cv : Nat → Value} (hcv : ∀ j, (cv j).category = 1) {l : List Value} {μ : qM} {r : qR} (h : aX5_newSteps l μ = some r) : qGood false base D ca cv 3 69 l μ r := by
  unfold aX5_newSteps at h
  split at h
  · exact gdX5_newSteps hcv h
  · cases h
noncomputable def fX5_requests_4 : Nat → Nat → Int32 → Int32 → Int32 → qM → Option qR
  | 0 => fun _ _ _ _ _ => none
  | n + 1 => fun x0 x1 x2 x3 μ =>
    if (8 : Int32) ≤ x3 then
      some (x2, 0, μ)
    else
      qbnd (oGetP μ 5 x0 5) fun v1 =>
      qbnd (oLdI 20 μ v1 x3) fun v2 =>
      if v2 = x1 then
        fX5_requests_4 n x0 x1 (x2 + (1 : Int32)) (x3 + (1 : Int32)) μ
      else
        fX5_requests_4 n x0 x1 (x2 + (0 : Int32)) (x3 + (1 : Int32)) μ
noncomputable def gX5_requests (a0 : Nat) (a1 : Int32) (μ : qM) : Option qR :=
  fX5_requests_4 qfu a0 a1 (0 : Int32) (0 : Int32) μ
noncomputable def fX5_requests (a0 : Nat) (a1 : Int32) (μ : qM) : Option qR := if (qk μ a0).1 = 5 then gX5_requests a0 a1 μ else none
noncomputable def aX5_requests (l : List Value) (μ : qM) : Option qR := match l with
  | [.ref x0, .int x1] => fX5_requests x0 x1 μ
  | _ => none
noncomputable def cfX5_requests : qF := fun n l μ => none
theorem hcX5_requests {base : Nat} {D : va_G} {ca : Nat → ClassId} {cv : Nat → Value} (hcv : ∀ j, (cv j).category = 1) : ∀ M as μ r, cfX5_requests M as μ = some r → qGood false base D ca cv 0 M as μ r := by
  intro M as μ r h
  cases h
def jX5_requests_4 (f : Nat → Int32 → Int32 → Int32 → qM → Option qR) (L S : List Value) (μ : qM) : Option qR := match L, S with
  | [.ref x0, .int x1, .int x2, .int x3], [] => f x0 x1 x2 x3 μ
  | _, _ => none
theorem jeX5_requests_4 {base : Nat} {D : va_G} {ca : Nat → ClassId} {cv : Nat → Value} {d : Nat} {f : Nat → Int32 → Int32 → Int32 → qM → Option qR} (hf : ∀ (x0 : Nat) (x1 : Int32) (x2 : Int32) (x3 : Int32) (μ : qM) (r : qR), f x0 x1 x2 x3 μ = some r → qEv false base D ca cv d 70 r 4 [.ref x0, .int x1, .int x2, .int x3] [] μ) {L S : List Value} {μ : qM} {r : qR} (h : jX5_requests_4 f L S μ = some r) : qEv false base D ca cv d 70 r 4 L S μ := by
  unfold jX5_requests_4 at h
  split at h
  · exact (hf _ _ _ _ _ _ h).le rfl ⟨Or.inr rfl, Or.inr rfl, Or.inr rfl, Or.inr rfl, trivial⟩
  · cases h
set_option maxRecDepth 100000 in
theorem lbX5_requests_4 {base : Nat} {D : va_G} {ca : Nat → ClassId} {cv : Nat → Value} (hcv : ∀ j, (cv j).category = 1) : ∀ (n : Nat) (x0 : Nat) (x1 : Int32) (x2 : Int32) (x3 : Int32) (μ : qM) (r : qR), fX5_requests_4 n x0 x1 x2 x3 μ = some r → qEv false base D ca cv 1 70 r 4 [.ref x0, .int x1, .int x2, .int x3] [] μ := by
  intro n
  induction n with
  | zero => intro x0 x1 x2 x3 μ r h; cases (show (none : Option qR) = some r from h)
  | succ n ih =>
    intro x0 x1 x2 x3 μ r h
    exact qblk_ev2 (cf := cfX5_requests) (st := (fun n => qin [4] n)) (K := (fun pc L S μ => if pc = 4 then jX5_requests_4 (fX5_requests_4 n) L S μ else none)) (cd := qcX5_requests) (M := 70) (d0 := 0) rfl qcok_X5_requests (Nat.le_refl _) (hcX5_requests hcv) (by
    intro pc L S μ r h
    split at h
    · rename_i e; subst e; exact jeX5_requests_4 ih h
    cases h) 400 (pc := 4) (L := [.ref x0, .int x1, .int x2, .int x3]) (S := []) h
theorem npX5_requests : (parseMethodDescriptor (qmy 70).desc).map (fun d => d.parameters.length) = some 1 := by decide +kernel
set_option maxRecDepth 100000 in
theorem gdX5_requests {base : Nat} {D : va_G} {ca : Nat → ClassId} {cv : Nat → Value} (hcv : ∀ j, (cv j).category = 1) {a0 : Nat} {a1 : Int32} {μ : qM} {r : qR} (h : fX5_requests a0 a1 μ = some r) : qGood false base D ca cv 1 70 [.ref a0, .int a1] μ r := by
  unfold fX5_requests at h
  split at h
  · rename_i hk0
    exact qgood_of (by decide) (by omega) hcv (Or.inr ⟨by decide +kernel, hk0⟩) npX5_requests rfl (Nat.le_of_ble_eq_true rfl) rfl (qblk_ev2 (cf := cfX5_requests) (st := (fun n => qin [4] n)) (K := (fun pc L S μ => if pc = 4 then jX5_requests_4 (fX5_requests_4 qfu) L S μ else none)) (cd := qcX5_requests) (M := 70) (d0 := 0) rfl qcok_X5_requests (Nat.le_refl _) (hcX5_requests hcv) (by
    intro pc L S μ r h
    split at h
    · rename_i e; subst e; exact jeX5_requests_4 (lbX5_requests_4 hcv qfu) h
    cases h) 400 (pc := 0) (L := qent [.ref a0, .int a1] 4) (S := []) h)
  · cases h
theorem gaX5_requests {base : Nat} {D : va_G} {ca : Nat → ClassId} {cv : Nat → Value} (hcv : ∀ j, (cv j).category = 1) {l : List Value} {μ : qM} {r : qR} (h : aX5_requests l μ = some r) : qGood false base D ca cv 1 70 l μ r := by
  unfold aX5_requests at h
  split at h
  · exact gdX5_requests hcv h
  · cases h
noncomputable def fX5_changes_4 : Nat → Nat → Int32 → Int32 → qM → Option qR
  | 0 => fun _ _ _ _ => none
  | n + 1 => fun x0 x1 x2 μ =>
    if (8 : Int32) ≤ x2 then
      some (x1, 0, μ)
    else
      qbnd (fX5_isChange x0 x2 μ) fun r1 =>
      if r1.1 = 0 then
        fX5_changes_4 n x0 (x1 + (0 : Int32)) (x2 + (1 : Int32)) r1.2.2
      else
        fX5_changes_4 n x0 (x1 + (1 : Int32)) (x2 + (1 : Int32)) r1.2.2
noncomputable def gX5_changes (a0 : Nat) (μ : qM) : Option qR :=
  fX5_changes_4 qfu a0 (0 : Int32) (0 : Int32) μ
noncomputable def fX5_changes (a0 : Nat) (μ : qM) : Option qR := if (qk μ a0).1 = 5 then gX5_changes a0 μ else none
noncomputable def aX5_changes (l : List Value) (μ : qM) : Option qR := match l with
  | [.ref x0] => fX5_changes x0 μ
  | _ => none
noncomputable def cfX5_changes : qF := fun n l μ => if n = 72 then aX5_isChange l μ else none
theorem hcX5_changes {base : Nat} {D : va_G} {ca : Nat → ClassId} {cv : Nat → Value} (hcv : ∀ j, (cv j).category = 1) : ∀ M as μ r, cfX5_changes M as μ = some r → qGood false base D ca cv 1 M as μ r := by
  intro M as μ r h
  unfold cfX5_changes at h
  split at h
  · rename_i e; subst e; exact (gaX5_isChange hcv h).mono (by omega)
  cases h
def jX5_changes_4 (f : Nat → Int32 → Int32 → qM → Option qR) (L S : List Value) (μ : qM) : Option qR := match L, S with
  | [.ref x0, .int x1, .int x2], [] => f x0 x1 x2 μ
  | _, _ => none
theorem jeX5_changes_4 {base : Nat} {D : va_G} {ca : Nat → ClassId} {cv : Nat → Value} {d : Nat} {f : Nat → Int32 → Int32 → qM → Option qR} (hf : ∀ (x0 : Nat) (x1 : Int32) (x2 : Int32) (μ : qM) (r : qR), f x0 x1 x2 μ = some r → qEv false base D ca cv d 71 r 4 [.ref x0, .int x1, .int x2] [] μ) {L S : List Value} {μ : qM} {r : qR} (h : jX5_changes_4 f L S μ = some r) : qEv false base D ca cv d 71 r 4 L S μ := by
  unfold jX5_changes_4 at h
  split at h
  · exact (hf _ _ _ _ _ h).le rfl ⟨Or.inr rfl, Or.inr rfl, Or.inr rfl, trivial⟩
  · cases h
set_option maxRecDepth 100000 in
theorem lbX5_changes_4 {base : Nat} {D : va_G} {ca : Nat → ClassId} {cv : Nat → Value} (hcv : ∀ j, (cv j).category = 1) : ∀ (n : Nat) (x0 : Nat) (x1 : Int32) (x2 : Int32) (μ : qM) (r : qR), fX5_changes_4 n x0 x1 x2 μ = some r → qEv false base D ca cv 2 71 r 4 [.ref x0, .int x1, .int x2] [] μ := by
  intro n
  induction n with
  | zero => intro x0 x1 x2 μ r h; cases (show (none : Option qR) = some r from h)
  | succ n ih =>
    intro x0 x1 x2 μ r h
    exact qblk_ev2 (cf := cfX5_changes) (st := (fun n => qin [4] n)) (K := (fun pc L S μ => if pc = 4 then jX5_changes_4 (fX5_changes_4 n) L S μ else none)) (cd := qcX5_changes) (M := 71) (d0 := 1) rfl qcok_X5_changes (Nat.le_refl _) (hcX5_changes hcv) (by
    intro pc L S μ r h
    split at h
    · rename_i e; subst e; exact jeX5_changes_4 ih h
    cases h) 400 (pc := 4) (L := [.ref x0, .int x1, .int x2]) (S := []) h
theorem npX5_changes : (parseMethodDescriptor (qmy 71).desc).map (fun d => d.parameters.length) = some 0 := by decide +kernel
set_option maxRecDepth 100000 in
theorem gdX5_changes {base : Nat} {D : va_G} {ca : Nat → ClassId} {cv : Nat → Value} (hcv : ∀ j, (cv j).category = 1) {a0 : Nat} {μ : qM} {r : qR} (h : fX5_changes a0 μ = some r) : qGood false base D ca cv 2 71 [.ref a0] μ r := by
  unfold fX5_changes at h
  split at h
  · rename_i hk0
    exact qgood_of (by decide) (by omega) hcv (Or.inr ⟨by decide +kernel, hk0⟩) npX5_changes rfl (Nat.le_of_ble_eq_true rfl) rfl (qblk_ev2 (cf := cfX5_changes) (st := (fun n => qin [4] n)) (K := (fun pc L S μ => if pc = 4 then jX5_changes_4 (fX5_changes_4 qfu) L S μ else none)) (cd := qcX5_changes) (M := 71) (d0 := 1) rfl qcok_X5_changes (Nat.le_refl _) (hcX5_changes hcv) (by
    intro pc L S μ r h
    split at h
    · rename_i e; subst e; exact jeX5_changes_4 (lbX5_changes_4 hcv qfu) h
    cases h) 400 (pc := 0) (L := qent [.ref a0] 3) (S := []) h)
  · cases h
theorem gaX5_changes {base : Nat} {D : va_G} {ca : Nat → ClassId} {cv : Nat → Value} (hcv : ∀ j, (cv j).category = 1) {l : List Value} {μ : qM} {r : qR} (h : aX5_changes l μ = some r) : qGood false base D ca cv 2 71 l μ r := by
  unfold aX5_changes at h
  split at h
  · exact gdX5_changes hcv h
  · cases h
noncomputable def fX5_position_4 : Nat → Nat → Int32 → Int32 → Int32 → qM → Option qR
  | 0 => fun _ _ _ _ _ => none
  | n + 1 => fun x0 x1 x2 x3 μ =>
    if (8 : Int32) ≤ x3 then
      some (x2, 0, μ)
    else
      if x3 = x1 then
        fX5_position_4 n x0 x1 (x2 + (0 : Int32)) (x3 + (1 : Int32)) μ
      else
        qbnd (oGetP μ 5 x0 5) fun v1 =>
        qbnd (oLdI 20 μ v1 x3) fun v2 =>
        qbnd (oGetP μ 5 x0 5) fun v3 =>
        qbnd (oLdI 20 μ v3 x1) fun v4 =>
        if v2 = v4 then
          qbnd (fX5_isAhead x0 x3 x1 μ) fun r5 =>
          if r5.1 = 0 then
            fX5_position_4 n x0 x1 (x2 + (0 : Int32)) (x3 + (1 : Int32)) r5.2.2
          else
            fX5_position_4 n x0 x1 (x2 + (1 : Int32)) (x3 + (1 : Int32)) r5.2.2
        else
          fX5_position_4 n x0 x1 (x2 + (0 : Int32)) (x3 + (1 : Int32)) μ
noncomputable def gX5_position (a0 : Nat) (a1 : Int32) (μ : qM) : Option qR :=
  fX5_position_4 qfu a0 a1 (0 : Int32) (0 : Int32) μ
noncomputable def fX5_position (a0 : Nat) (a1 : Int32) (μ : qM) : Option qR := if (qk μ a0).1 = 5 then gX5_position a0 a1 μ else none
noncomputable def aX5_position (l : List Value) (μ : qM) : Option qR := match l with
  | [.ref x0, .int x1] => fX5_position x0 x1 μ
  | _ => none
noncomputable def cfX5_position : qF := fun n l μ => if n = 73 then aX5_isAhead l μ else none
theorem hcX5_position {base : Nat} {D : va_G} {ca : Nat → ClassId} {cv : Nat → Value} (hcv : ∀ j, (cv j).category = 1) : ∀ M as μ r, cfX5_position M as μ = some r → qGood false base D ca cv 2 M as μ r := by
  intro M as μ r h
  unfold cfX5_position at h
  split at h
  · rename_i e; subst e; exact (gaX5_isAhead hcv h).mono (by omega)
  cases h
def jX5_position_4 (f : Nat → Int32 → Int32 → Int32 → qM → Option qR) (L S : List Value) (μ : qM) : Option qR := match L, S with
  | [.ref x0, .int x1, .int x2, .int x3], [] => f x0 x1 x2 x3 μ
  | _, _ => none
theorem jeX5_position_4 {base : Nat} {D : va_G} {ca : Nat → ClassId} {cv : Nat → Value} {d : Nat} {f : Nat → Int32 → Int32 → Int32 → qM → Option qR} (hf : ∀ (x0 : Nat) (x1 : Int32) (x2 : Int32) (x3 : Int32) (μ : qM) (r : qR), f x0 x1 x2 x3 μ = some r → qEv false base D ca cv d 74 r 4 [.ref x0, .int x1, .int x2, .int x3] [] μ) {L S : List Value} {μ : qM} {r : qR} (h : jX5_position_4 f L S μ = some r) : qEv false base D ca cv d 74 r 4 L S μ := by
  unfold jX5_position_4 at h
  split at h
  · exact (hf _ _ _ _ _ _ h).le rfl ⟨Or.inr rfl, Or.inr rfl, Or.inr rfl, Or.inr rfl, trivial⟩
  · cases h
set_option maxRecDepth 100000 in
theorem lbX5_position_4 {base : Nat} {D : va_G} {ca : Nat → ClassId} {cv : Nat → Value} (hcv : ∀ j, (cv j).category = 1) : ∀ (n : Nat) (x0 : Nat) (x1 : Int32) (x2 : Int32) (x3 : Int32) (μ : qM) (r : qR), fX5_position_4 n x0 x1 x2 x3 μ = some r → qEv false base D ca cv 3 74 r 4 [.ref x0, .int x1, .int x2, .int x3] [] μ := by
  intro n
  induction n with
  | zero => intro x0 x1 x2 x3 μ r h; cases (show (none : Option qR) = some r from h)
  | succ n ih =>
    intro x0 x1 x2 x3 μ r h
    exact qblk_ev2 (cf := cfX5_position) (st := (fun n => qin [4] n)) (K := (fun pc L S μ => if pc = 4 then jX5_position_4 (fX5_position_4 n) L S μ else none)) (cd := qcX5_position) (M := 74) (d0 := 2) rfl qcok_X5_position (Nat.le_refl _) (hcX5_position hcv) (by
    intro pc L S μ r h
    split at h
    · rename_i e; subst e; exact jeX5_position_4 ih h
    cases h) 400 (pc := 4) (L := [.ref x0, .int x1, .int x2, .int x3]) (S := []) h
theorem npX5_position : (parseMethodDescriptor (qmy 74).desc).map (fun d => d.parameters.length) = some 1 := by decide +kernel
set_option maxRecDepth 100000 in
theorem gdX5_position {base : Nat} {D : va_G} {ca : Nat → ClassId} {cv : Nat → Value} (hcv : ∀ j, (cv j).category = 1) {a0 : Nat} {a1 : Int32} {μ : qM} {r : qR} (h : fX5_position a0 a1 μ = some r) : qGood false base D ca cv 3 74 [.ref a0, .int a1] μ r := by
  unfold fX5_position at h
  split at h
  · rename_i hk0
    exact qgood_of (by decide) (by omega) hcv (Or.inr ⟨by decide +kernel, hk0⟩) npX5_position rfl (Nat.le_of_ble_eq_true rfl) rfl (qblk_ev2 (cf := cfX5_position) (st := (fun n => qin [4] n)) (K := (fun pc L S μ => if pc = 4 then jX5_position_4 (fX5_position_4 qfu) L S μ else none)) (cd := qcX5_position) (M := 74) (d0 := 2) rfl qcok_X5_position (Nat.le_refl _) (hcX5_position hcv) (by
    intro pc L S μ r h
    split at h
    · rename_i e; subst e; exact jeX5_position_4 (lbX5_position_4 hcv qfu) h
    cases h) 400 (pc := 0) (L := qent [.ref a0, .int a1] 4) (S := []) h)
  · cases h
theorem gaX5_position {base : Nat} {D : va_G} {ca : Nat → ClassId} {cv : Nat → Value} (hcv : ∀ j, (cv j).category = 1) {l : List Value} {μ : qM} {r : qR} (h : aX5_position l μ = some r) : qGood false base D ca cv 3 74 l μ r := by
  unfold aX5_position at h
  split at h
  · exact gdX5_position hcv h
  · cases h
noncomputable def fX6_addFour_8 : Nat → Nat → Int32 → Int32 → qM → Option qR
  | 0 => fun _ _ _ _ => none
  | n + 1 => fun x0 x1 x2 μ =>
    if x2 < 0 then
      qbnd (oGetI μ 6 x0 1) fun v1 =>
      some (v1, 0, μ)
    else
      qbnd (oGetP μ 6 x0 0) fun v2 =>
      qbnd (oGetI μ 6 x0 1) fun v3 =>
      qbnd (oStI 22 μ v2 v3 (qnc ((((qush x1 x2) &&& (255 : Int32))).toUInt32 % 65536).toInt32)) fun μ4 =>
      qbnd (oGetI μ4 6 x0 1) fun v5 =>
      qbnd (oPutI μ4 6 x0 1 (v5 + (1 : Int32))) fun μ6 =>
      fX6_addFour_8 n x0 x1 (x2 + (-8 : Int32)) μ6
noncomputable def gX6_addFour (a0 : Nat) (a1 : Int32) (μ : qM) : Option qR :=
  qbnd (oGetI μ 6 a0 1) fun v1 =>
  if v1 ≤ (76 : Int32) then
    fX6_addFour_8 qfu a0 a1 (24 : Int32) μ
  else
    some ((-1 : Int32), 0, μ)
noncomputable def fX6_addFour (a0 : Nat) (a1 : Int32) (μ : qM) : Option qR := if (qk μ a0).1 = 6 then gX6_addFour a0 a1 μ else none
noncomputable def aX6_addFour (l : List Value) (μ : qM) : Option qR := match l with
  | [.ref x0, .int x1] => fX6_addFour x0 x1 μ
  | _ => none
noncomputable def cfX6_addFour : qF := fun n l μ => none
theorem hcX6_addFour {base : Nat} {D : va_G} {ca : Nat → ClassId} {cv : Nat → Value} (hcv : ∀ j, (cv j).category = 1) : ∀ M as μ r, cfX6_addFour M as μ = some r → qGood false base D ca cv 0 M as μ r := by
  intro M as μ r h
  cases h
def jX6_addFour_8 (f : Nat → Int32 → Int32 → qM → Option qR) (L S : List Value) (μ : qM) : Option qR := match L, S with
  | [.ref x0, .int x1, .int x2], [] => f x0 x1 x2 μ
  | _, _ => none
theorem jeX6_addFour_8 {base : Nat} {D : va_G} {ca : Nat → ClassId} {cv : Nat → Value} {d : Nat} {f : Nat → Int32 → Int32 → qM → Option qR} (hf : ∀ (x0 : Nat) (x1 : Int32) (x2 : Int32) (μ : qM) (r : qR), f x0 x1 x2 μ = some r → qEv false base D ca cv d 80 r 8 [.ref x0, .int x1, .int x2] [] μ) {L S : List Value} {μ : qM} {r : qR} (h : jX6_addFour_8 f L S μ = some r) : qEv false base D ca cv d 80 r 8 L S μ := by
  unfold jX6_addFour_8 at h
  split at h
  · exact (hf _ _ _ _ _ h).le rfl ⟨Or.inr rfl, Or.inr rfl, Or.inr rfl, trivial⟩
  · cases h
set_option maxRecDepth 100000 in
theorem lbX6_addFour_8 {base : Nat} {D : va_G} {ca : Nat → ClassId} {cv : Nat → Value} (hcv : ∀ j, (cv j).category = 1) : ∀ (n : Nat) (x0 : Nat) (x1 : Int32) (x2 : Int32) (μ : qM) (r : qR), fX6_addFour_8 n x0 x1 x2 μ = some r → qEv false base D ca cv 1 80 r 8 [.ref x0, .int x1, .int x2] [] μ := by
  intro n
  induction n with
  | zero => intro x0 x1 x2 μ r h; cases (show (none : Option qR) = some r from h)
  | succ n ih =>
    intro x0 x1 x2 μ r h
    exact qblk_ev2 (cf := cfX6_addFour) (st := (fun n => qin [8] n)) (K := (fun pc L S μ => if pc = 8 then jX6_addFour_8 (fX6_addFour_8 n) L S μ else none)) (cd := qcX6_addFour) (M := 80) (d0 := 0) rfl qcok_X6_addFour (Nat.le_refl _) (hcX6_addFour hcv) (by
    intro pc L S μ r h
    split at h
    · rename_i e; subst e; exact jeX6_addFour_8 ih h
    cases h) 400 (pc := 8) (L := [.ref x0, .int x1, .int x2]) (S := []) h
theorem npX6_addFour : (parseMethodDescriptor (qmy 80).desc).map (fun d => d.parameters.length) = some 1 := by decide +kernel
set_option maxRecDepth 100000 in
theorem gdX6_addFour {base : Nat} {D : va_G} {ca : Nat → ClassId} {cv : Nat → Value} (hcv : ∀ j, (cv j).category = 1) {a0 : Nat} {a1 : Int32} {μ : qM} {r : qR} (h : fX6_addFour a0 a1 μ = some r) : qGood false base D ca cv 1 80 [.ref a0, .int a1] μ r := by
  unfold fX6_addFour at h
  split at h
  · rename_i hk0
    exact qgood_of (by decide) (by omega) hcv (Or.inr ⟨by decide +kernel, hk0⟩) npX6_addFour rfl (Nat.le_of_ble_eq_true rfl) rfl (qblk_ev2 (cf := cfX6_addFour) (st := (fun n => qin [8] n)) (K := (fun pc L S μ => if pc = 8 then jX6_addFour_8 (fX6_addFour_8 qfu) L S μ else none)) (cd := qcX6_addFour) (M := 80) (d0 := 0) rfl qcok_X6_addFour (Nat.le_refl _) (hcX6_addFour hcv) (by
    intro pc L S μ r h
    split at h
    · rename_i e; subst e; exact jeX6_addFour_8 (lbX6_addFour_8 hcv qfu) h
    cases h) 400 (pc := 0) (L := qent [.ref a0, .int a1] 3) (S := []) h)
  · cases h
theorem gaX6_addFour {base : Nat} {D : va_G} {ca : Nat → ClassId} {cv : Nat → Value} (hcv : ∀ j, (cv j).category = 1) {l : List Value} {μ : qM} {r : qR} (h : aX6_addFour l μ = some r) : qGood false base D ca cv 1 80 l μ r := by
  unfold aX6_addFour at h
  split at h
  · exact gdX6_addFour hcv h
  · cases h
noncomputable def gX6_digit (a0 : Nat) (a1 : Int32) (μ : qM) : Option qR :=
  qbnd (fX6_at a0 a1 μ) fun r1 =>
  qbnd (fX7_isDigit r1.1 r1.2.2) fun r2 =>
  if r2.1 = 0 then
    some ((0 : Int32), 0, r2.2.2)
  else
    some ((r1.1 - (48 : Int32)), 0, r2.2.2)
noncomputable def fX6_digit (a0 : Nat) (a1 : Int32) (μ : qM) : Option qR := if (qk μ a0).1 = 6 then gX6_digit a0 a1 μ else none
noncomputable def aX6_digit (l : List Value) (μ : qM) : Option qR := match l with
  | [.ref x0, .int x1] => fX6_digit x0 x1 μ
  | _ => none
noncomputable def cfX6_digit : qF := fun n l μ => if n = 81 then aX6_at l μ else if n = 138 then aX7_isDigit l μ else none
theorem hcX6_digit {base : Nat} {D : va_G} {ca : Nat → ClassId} {cv : Nat → Value} (hcv : ∀ j, (cv j).category = 1) : ∀ M as μ r, cfX6_digit M as μ = some r → qGood false base D ca cv 1 M as μ r := by
  intro M as μ r h
  unfold cfX6_digit at h
  split at h
  · rename_i e; subst e; exact (gaX6_at hcv h).mono (by omega)
  split at h
  · rename_i e; subst e; exact (gaX7_isDigit hcv h).mono (by omega)
  cases h
theorem npX6_digit : (parseMethodDescriptor (qmy 82).desc).map (fun d => d.parameters.length) = some 1 := by decide +kernel
set_option maxRecDepth 100000 in
theorem gdX6_digit {base : Nat} {D : va_G} {ca : Nat → ClassId} {cv : Nat → Value} (hcv : ∀ j, (cv j).category = 1) {a0 : Nat} {a1 : Int32} {μ : qM} {r : qR} (h : fX6_digit a0 a1 μ = some r) : qGood false base D ca cv 2 82 [.ref a0, .int a1] μ r := by
  unfold fX6_digit at h
  split at h
  · rename_i hk0
    exact qgood_of (by decide) (by omega) hcv (Or.inr ⟨by decide +kernel, hk0⟩) npX6_digit rfl (Nat.le_of_ble_eq_true rfl) rfl (qblk_ev2 (cf := cfX6_digit) (st := (fun n => qin [] n)) (K := (fun pc L S μ => none)) (cd := qcX6_digit) (M := 82) (d0 := 1) rfl qcok_X6_digit (Nat.le_refl _) (hcX6_digit hcv) (by
    intro pc L S μ r h
    cases h) 400 (pc := 0) (L := qent [.ref a0, .int a1] 3) (S := []) h)
  · cases h
theorem gaX6_digit {base : Nat} {D : va_G} {ca : Nat → ClassId} {cv : Nat → Value} (hcv : ∀ j, (cv j).category = 1) {l : List Value} {μ : qM} {r : qR} (h : aX6_digit l μ = some r) : qGood false base D ca cv 2 82 l μ r := by
  unfold aX6_digit at h
  split at h
  · exact gdX6_digit hcv h
  · cases h
noncomputable def gJ0_coder_7d493 (a0 : Nat) (μ : qM) : Option qR :=
  if (1 : Int32) = 0 then
    if qnb (1 : Int32) = (1 : Int32) then some ((1 : Int32), 0, μ) else none
  else
    if qtk a0 = 2 then
      if qnb (0 : Int32) = (0 : Int32) then some ((0 : Int32), 0, μ) else none
    else none
noncomputable def fJ0_coder_7d493 (a0 : Nat) (μ : qM) : Option qR := if qtk a0 = 2 then gJ0_coder_7d493 a0 μ else none
noncomputable def aJ0_coder_7d493 (l : List Value) (μ : qM) : Option qR := match l with
  | [.retAddr x0] => fJ0_coder_7d493 x0 μ
  | _ => none
noncomputable def cfJ0_coder_7d493 : qF := fun n l μ => none
theorem hcJ0_coder_7d493 {base : Nat} {D : va_G} {ca : Nat → ClassId} {cv : Nat → Value} (hcv : ∀ j, (cv j).category = 1) : ∀ M as μ r, cfJ0_coder_7d493 M as μ = some r → qGood false base D ca cv 0 M as μ r := by
  intro M as μ r h
  cases h
theorem npJ0_coder_7d493 : (parseMethodDescriptor (qmy 270).desc).map (fun d => d.parameters.length) = some 0 := by decide +kernel
set_option maxRecDepth 100000 in
theorem gdJ0_coder_7d493 {base : Nat} {D : va_G} {ca : Nat → ClassId} {cv : Nat → Value} (hcv : ∀ j, (cv j).category = 1) {a0 : Nat} {μ : qM} {r : qR} (h : fJ0_coder_7d493 a0 μ = some r) : qGood false base D ca cv 1 270 [.retAddr a0] μ r := by
  unfold fJ0_coder_7d493 at h
  split at h
  · rename_i hk0
    exact qgood_of (by decide) (by omega) hcv (Or.inr ⟨by decide +kernel, hk0⟩) npJ0_coder_7d493 rfl (Nat.le_of_ble_eq_true rfl) rfl (qblk_ev2 (cf := cfJ0_coder_7d493) (st := (fun n => qin [] n)) (K := (fun pc L S μ => none)) (cd := qcJ0_coder_7d493) (M := 270) (d0 := 0) rfl qcok_J0_coder_7d493 (Nat.le_refl _) (hcJ0_coder_7d493 hcv) (by
    intro pc L S μ r h
    cases h) 400 (pc := 0) (L := qent [.retAddr a0] 1) (S := []) h)
  · cases h
theorem gaJ0_coder_7d493 {base : Nat} {D : va_G} {ca : Nat → ClassId} {cv : Nat → Value} (hcv : ∀ j, (cv j).category = 1) {l : List Value} {μ : qM} {r : qR} (h : aJ0_coder_7d493 l μ = some r) : qGood false base D ca cv 1 270 l μ r := by
  unfold aJ0_coder_7d493 at h
  split at h
  · exact gdJ0_coder_7d493 hcv h
  · cases h
noncomputable def gJ0_length_8abf5 (a0 : Nat) (μ : qM) : Option qR :=
  if qtk a0 = 2 then
    if qtk (a0 + 20) = 1 ∨ qtk (a0 + 20) = 3 then
      qbnd (fJ0_coder_7d493 a0 μ) fun r1 =>
      some (((Int32.ofNat (qtv (a0 + 20)).length) >>> (r1.1 &&& 31)), 0, r1.2.2)
    else none
  else none
noncomputable def fJ0_length_8abf5 (a0 : Nat) (μ : qM) : Option qR := if qtk a0 = 2 then gJ0_length_8abf5 a0 μ else none
noncomputable def aJ0_length_8abf5 (l : List Value) (μ : qM) : Option qR := match l with
  | [.retAddr x0] => fJ0_length_8abf5 x0 μ
  | _ => none
noncomputable def cfJ0_length_8abf5 : qF := fun n l μ => if n = 270 then aJ0_coder_7d493 l μ else none
theorem hcJ0_length_8abf5 {base : Nat} {D : va_G} {ca : Nat → ClassId} {cv : Nat → Value} (hcv : ∀ j, (cv j).category = 1) : ∀ M as μ r, cfJ0_length_8abf5 M as μ = some r → qGood false base D ca cv 1 M as μ r := by
  intro M as μ r h
  unfold cfJ0_length_8abf5 at h
  split at h
  · rename_i e; subst e; exact (gaJ0_coder_7d493 hcv h).mono (by omega)
  cases h
theorem npJ0_length_8abf5 : (parseMethodDescriptor (qmy 268).desc).map (fun d => d.parameters.length) = some 0 := by decide +kernel
set_option maxRecDepth 100000 in
theorem gdJ0_length_8abf5 {base : Nat} {D : va_G} {ca : Nat → ClassId} {cv : Nat → Value} (hcv : ∀ j, (cv j).category = 1) {a0 : Nat} {μ : qM} {r : qR} (h : fJ0_length_8abf5 a0 μ = some r) : qGood false base D ca cv 2 268 [.retAddr a0] μ r := by
  unfold fJ0_length_8abf5 at h
  split at h
  · rename_i hk0
    exact qgood_of (by decide) (by omega) hcv (Or.inr ⟨by decide +kernel, hk0⟩) npJ0_length_8abf5 rfl (Nat.le_of_ble_eq_true rfl) rfl (qblk_ev2 (cf := cfJ0_length_8abf5) (st := (fun n => qin [] n)) (K := (fun pc L S μ => none)) (cd := qcJ0_length_8abf5) (M := 268) (d0 := 1) rfl qcok_J0_length_8abf5 (Nat.le_refl _) (hcJ0_length_8abf5 hcv) (by
    intro pc L S μ r h
    cases h) 400 (pc := 0) (L := qent [.retAddr a0] 1) (S := []) h)
  · cases h
theorem gaJ0_length_8abf5 {base : Nat} {D : va_G} {ca : Nat → ClassId} {cv : Nat → Value} (hcv : ∀ j, (cv j).category = 1) {l : List Value} {μ : qM} {r : qR} (h : aJ0_length_8abf5 l μ = some r) : qGood false base D ca cv 2 268 l μ r := by
  unfold aJ0_length_8abf5 at h
  split at h
  · exact gdJ0_length_8abf5 hcv h
  · cases h
noncomputable def gJ0_isLatin1_aae02 (a0 : Nat) (μ : qM) : Option qR :=
  if (1 : Int32) = 0 then
    if qnz (0 : Int32) = (0 : Int32) then some ((0 : Int32), 0, μ) else none
  else
    if qtk a0 = 2 then
      if (0 : Int32) = 0 then
        if qnz (1 : Int32) = (1 : Int32) then some ((1 : Int32), 0, μ) else none
      else
        if qnz (0 : Int32) = (0 : Int32) then some ((0 : Int32), 0, μ) else none
    else none
noncomputable def fJ0_isLatin1_aae02 (a0 : Nat) (μ : qM) : Option qR := if qtk a0 = 2 then gJ0_isLatin1_aae02 a0 μ else none
noncomputable def aJ0_isLatin1_aae02 (l : List Value) (μ : qM) : Option qR := match l with
  | [.retAddr x0] => fJ0_isLatin1_aae02 x0 μ
  | _ => none
noncomputable def cfJ0_isLatin1_aae02 : qF := fun n l μ => none
theorem hcJ0_isLatin1_aae02 {base : Nat} {D : va_G} {ca : Nat → ClassId} {cv : Nat → Value} (hcv : ∀ j, (cv j).category = 1) : ∀ M as μ r, cfJ0_isLatin1_aae02 M as μ = some r → qGood false base D ca cv 0 M as μ r := by
  intro M as μ r h
  cases h
theorem npJ0_isLatin1_aae02 : (parseMethodDescriptor (qmy 271).desc).map (fun d => d.parameters.length) = some 0 := by decide +kernel
set_option maxRecDepth 100000 in
theorem gdJ0_isLatin1_aae02 {base : Nat} {D : va_G} {ca : Nat → ClassId} {cv : Nat → Value} (hcv : ∀ j, (cv j).category = 1) {a0 : Nat} {μ : qM} {r : qR} (h : fJ0_isLatin1_aae02 a0 μ = some r) : qGood false base D ca cv 1 271 [.retAddr a0] μ r := by
  unfold fJ0_isLatin1_aae02 at h
  split at h
  · rename_i hk0
    exact qgood_of (by decide) (by omega) hcv (Or.inr ⟨by decide +kernel, hk0⟩) npJ0_isLatin1_aae02 rfl (Nat.le_of_ble_eq_true rfl) rfl (qblk_ev2 (cf := cfJ0_isLatin1_aae02) (st := (fun n => qin [] n)) (K := (fun pc L S μ => none)) (cd := qcJ0_isLatin1_aae02) (M := 271) (d0 := 0) rfl qcok_J0_isLatin1_aae02 (Nat.le_refl _) (hcJ0_isLatin1_aae02 hcv) (by
    intro pc L S μ r h
    cases h) 400 (pc := 0) (L := qent [.retAddr a0] 1) (S := []) h)
  · cases h
theorem gaJ0_isLatin1_aae02 {base : Nat} {D : va_G} {ca : Nat → ClassId} {cv : Nat → Value} (hcv : ∀ j, (cv j).category = 1) {l : List Value} {μ : qM} {r : qR} (h : aJ0_isLatin1_aae02 l μ = some r) : qGood false base D ca cv 1 271 l μ r := by
  unfold aJ0_isLatin1_aae02 at h
  split at h
  · exact gdJ0_isLatin1_aae02 hcv h
  · cases h

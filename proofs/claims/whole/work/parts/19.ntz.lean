/-! numberOfTrailingZeros: its labels' functions are variables where the blocks are tied (else the kernel unfolds what it need not) -/
noncomputable def fJ6_numberOfTrailingZeros_0f7a4_40 (x0 : Int32) (x1 : Int32) (μ : qM) : Option qR :=
  if x0 ≤ (4 : Int32) then
    some ((x1 + (qush x0 (1 : Int32))), 0, μ)
  else
    some (((x1 + (2 : Int32)) + (qush (qush x0 (2 : Int32)) (1 : Int32))), 0, μ)
noncomputable def fJ6_numberOfTrailingZeros_0f7a4_32 (k40 : Int32 → Int32 → qM → Option qR) (x0 : Int32) (x1 : Int32) (μ : qM) : Option qR :=
  if x0 ≤ (16 : Int32) then k40 x0 x1 μ else k40 (qush x0 (4 : Int32)) (x1 + (4 : Int32)) μ
noncomputable def fJ6_numberOfTrailingZeros_0f7a4_24 (k32 : Int32 → Int32 → qM → Option qR) (x0 : Int32) (x1 : Int32) (μ : qM) : Option qR :=
  if x0 ≤ (256 : Int32) then k32 x0 x1 μ else k32 (qush x0 (8 : Int32)) (x1 + (8 : Int32)) μ
noncomputable def fJ6_numberOfTrailingZeros_0f7a4_8 (k24 : Int32 → Int32 → qM → Option qR) (x0 : Int32) (μ : qM) : Option qR :=
  if 0 < x0 then
    if x0 ≤ (65536 : Int32) then k24 x0 (1 : Int32) μ else k24 (qush x0 (16 : Int32)) ((1 : Int32) + (16 : Int32)) μ
  else
    some ((x0 &&& (32 : Int32)), 0, μ)
noncomputable def fJ6_numberOfTrailingZeros_0f7a4 (a0 : Int32) (μ : qM) : Option qR := fJ6_numberOfTrailingZeros_0f7a4_8 (fJ6_numberOfTrailingZeros_0f7a4_24 (fJ6_numberOfTrailingZeros_0f7a4_32 fJ6_numberOfTrailingZeros_0f7a4_40)) ((a0 ^^^ (-1 : Int32)) &&& (a0 - (1 : Int32))) μ
noncomputable def aJ6_numberOfTrailingZeros_0f7a4 (l : List Value) (μ : qM) : Option qR := match l with
  | [.int x0] => fJ6_numberOfTrailingZeros_0f7a4 x0 μ
  | _ => none
noncomputable def cfJ6_numberOfTrailingZeros_0f7a4 : qF := fun n l μ => none
def jJ6_numberOfTrailingZeros_0f7a4_2 (f : Int32 → Int32 → qM → Option qR) (L S : List Value) (μ : qM) : Option qR := match L, S with
  | [.int x0, .int x1], [] => f x0 x1 μ
  | _, _ => none
def jJ6_numberOfTrailingZeros_0f7a4_8 (f : Int32 → qM → Option qR) (L S : List Value) (μ : qM) : Option qR := match L, S with
  | [.int x0, _], [] => f x0 μ
  | _, _ => none
theorem jeJ6_numberOfTrailingZeros_0f7a4_2 {base : Nat} {D : va_G} {ca : Nat → ClassId} {cv : Nat → Value} {d i : Nat} {f : Int32 → Int32 → qM → Option qR} (hf : ∀ (x0 : Int32) (x1 : Int32) (μ : qM) (r : qR), f x0 x1 μ = some r → qEv false base D ca cv d 266 r i [.int x0, .int x1] [] μ) {L S : List Value} {μ : qM} {r : qR} (h : jJ6_numberOfTrailingZeros_0f7a4_2 f L S μ = some r) : qEv false base D ca cv d 266 r i L S μ := by
  unfold jJ6_numberOfTrailingZeros_0f7a4_2 at h
  split at h
  · exact (hf _ _ _ _ h).le rfl ⟨Or.inr rfl, Or.inr rfl, trivial⟩
  · cases h
theorem jeJ6_numberOfTrailingZeros_0f7a4_8 {base : Nat} {D : va_G} {ca : Nat → ClassId} {cv : Nat → Value} {d : Nat} {f : Int32 → qM → Option qR} (hf : ∀ (x0 : Int32) (μ : qM) (r : qR), f x0 μ = some r → qEv false base D ca cv d 266 r 8 [.int x0, .null] [] μ) {L S : List Value} {μ : qM} {r : qR} (h : jJ6_numberOfTrailingZeros_0f7a4_8 f L S μ = some r) : qEv false base D ca cv d 266 r 8 L S μ := by
  unfold jJ6_numberOfTrailingZeros_0f7a4_8 at h
  split at h
  · exact (hf _ _ _ h).le rfl ⟨Or.inr rfl, Or.inl rfl, trivial⟩
  · cases h
theorem hcJ6_numberOfTrailingZeros_0f7a4 {base : Nat} {D : va_G} {ca : Nat → ClassId} {cv : Nat → Value} (hcv : ∀ j, (cv j).category = 1) : ∀ M as μ r, cfJ6_numberOfTrailingZeros_0f7a4 M as μ = some r → qGood false base D ca cv 0 M as μ r := by
  intro M as μ r h
  cases h
set_option maxRecDepth 100000 in
theorem lbJ6_numberOfTrailingZeros_0f7a4_40 {base : Nat} {D : va_G} {ca : Nat → ClassId} {cv : Nat → Value} (hcv : ∀ j, (cv j).category = 1) (x0 x1 : Int32) (μ : qM) (r : qR) (h : fJ6_numberOfTrailingZeros_0f7a4_40 x0 x1 μ = some r) : qEv false base D ca cv 1 266 r 40 [.int x0, .int x1] [] μ :=
  qblk_ev2 (cf := cfJ6_numberOfTrailingZeros_0f7a4) (st := fun n => qin [8, 24, 32, 40] n) (K := fun pc L S μ => none) (cd := qcJ6_numberOfTrailingZeros_0f7a4) (M := 266) (d0 := 0) rfl qcok_J6_numberOfTrailingZeros_0f7a4 (Nat.le_refl _) (hcJ6_numberOfTrailingZeros_0f7a4 hcv) (fun pc L S μ r h => by cases h) 400 (pc := 40) (L := [.int x0, .int x1]) (S := []) h
set_option maxRecDepth 100000 in
theorem lbJ6_numberOfTrailingZeros_0f7a4_32 {base : Nat} {D : va_G} {ca : Nat → ClassId} {cv : Nat → Value} (hcv : ∀ j, (cv j).category = 1) {k40 : Int32 → Int32 → qM → Option qR} (hk : ∀ (x0 x1 : Int32) (μ : qM) (r : qR), k40 x0 x1 μ = some r → qEv false base D ca cv 1 266 r 40 [.int x0, .int x1] [] μ) (x0 x1 : Int32) (μ : qM) (r : qR) (h : fJ6_numberOfTrailingZeros_0f7a4_32 k40 x0 x1 μ = some r) : qEv false base D ca cv 1 266 r 32 [.int x0, .int x1] [] μ :=
  qblk_ev2 (cf := cfJ6_numberOfTrailingZeros_0f7a4) (st := fun n => qin [8, 24, 32, 40] n) (K := fun pc L S μ => if pc = 40 then jJ6_numberOfTrailingZeros_0f7a4_2 k40 L S μ else none) (cd := qcJ6_numberOfTrailingZeros_0f7a4) (M := 266) (d0 := 0) rfl qcok_J6_numberOfTrailingZeros_0f7a4 (Nat.le_refl _) (hcJ6_numberOfTrailingZeros_0f7a4 hcv) (fun pc L S μ r h => by
    split at h
    · rename_i e; subst e; exact jeJ6_numberOfTrailingZeros_0f7a4_2 hk h
    · cases h) 400 (pc := 32) (L := [.int x0, .int x1]) (S := []) h
set_option maxRecDepth 100000 in
theorem lbJ6_numberOfTrailingZeros_0f7a4_24 {base : Nat} {D : va_G} {ca : Nat → ClassId} {cv : Nat → Value} (hcv : ∀ j, (cv j).category = 1) {k32 : Int32 → Int32 → qM → Option qR} (hk : ∀ (x0 x1 : Int32) (μ : qM) (r : qR), k32 x0 x1 μ = some r → qEv false base D ca cv 1 266 r 32 [.int x0, .int x1] [] μ) (x0 x1 : Int32) (μ : qM) (r : qR) (h : fJ6_numberOfTrailingZeros_0f7a4_24 k32 x0 x1 μ = some r) : qEv false base D ca cv 1 266 r 24 [.int x0, .int x1] [] μ :=
  qblk_ev2 (cf := cfJ6_numberOfTrailingZeros_0f7a4) (st := fun n => qin [8, 24, 32, 40] n) (K := fun pc L S μ => if pc = 32 then jJ6_numberOfTrailingZeros_0f7a4_2 k32 L S μ else none) (cd := qcJ6_numberOfTrailingZeros_0f7a4) (M := 266) (d0 := 0) rfl qcok_J6_numberOfTrailingZeros_0f7a4 (Nat.le_refl _) (hcJ6_numberOfTrailingZeros_0f7a4 hcv) (fun pc L S μ r h => by
    split at h
    · rename_i e; subst e; exact jeJ6_numberOfTrailingZeros_0f7a4_2 hk h
    · cases h) 400 (pc := 24) (L := [.int x0, .int x1]) (S := []) h
set_option maxRecDepth 100000 in
theorem lbJ6_numberOfTrailingZeros_0f7a4_8 {base : Nat} {D : va_G} {ca : Nat → ClassId} {cv : Nat → Value} (hcv : ∀ j, (cv j).category = 1) {k24 : Int32 → Int32 → qM → Option qR} (hk : ∀ (x0 x1 : Int32) (μ : qM) (r : qR), k24 x0 x1 μ = some r → qEv false base D ca cv 1 266 r 24 [.int x0, .int x1] [] μ) (x0 : Int32) (μ : qM) (r : qR) (h : fJ6_numberOfTrailingZeros_0f7a4_8 k24 x0 μ = some r) : qEv false base D ca cv 1 266 r 8 [.int x0, .null] [] μ :=
  qblk_ev2 (cf := cfJ6_numberOfTrailingZeros_0f7a4) (st := fun n => qin [8, 24, 32, 40] n) (K := fun pc L S μ => if pc = 24 then jJ6_numberOfTrailingZeros_0f7a4_2 k24 L S μ else none) (cd := qcJ6_numberOfTrailingZeros_0f7a4) (M := 266) (d0 := 0) rfl qcok_J6_numberOfTrailingZeros_0f7a4 (Nat.le_refl _) (hcJ6_numberOfTrailingZeros_0f7a4 hcv) (fun pc L S μ r h => by
    split at h
    · rename_i e; subst e; exact jeJ6_numberOfTrailingZeros_0f7a4_2 hk h
    · cases h) 400 (pc := 8) (L := [.int x0, .null]) (S := []) h
theorem npJ6_numberOfTrailingZeros_0f7a4 : (parseMethodDescriptor (qmy 266).desc).map (fun d => d.parameters.length) = some 1 := by decide +kernel
set_option maxRecDepth 100000 in
theorem lbJ6_numberOfTrailingZeros_0f7a4_0 {base : Nat} {D : va_G} {ca : Nat → ClassId} {cv : Nat → Value} (hcv : ∀ j, (cv j).category = 1) {k8 : Int32 → qM → Option qR} (hk : ∀ (x0 : Int32) (μ : qM) (r : qR), k8 x0 μ = some r → qEv false base D ca cv 1 266 r 8 [.int x0, .null] [] μ) {a0 : Int32} {μ : qM} {r : qR} (h : k8 ((a0 ^^^ (-1 : Int32)) &&& (a0 - (1 : Int32))) μ = some r) : qGood false base D ca cv 1 266 [.int a0] μ r :=
  qgood_of (by decide) (by omega) hcv (Or.inl rfl) npJ6_numberOfTrailingZeros_0f7a4 rfl (Nat.le_of_ble_eq_true rfl) rfl (qblk_ev2 (cf := cfJ6_numberOfTrailingZeros_0f7a4) (st := fun n => qin [8, 24, 32, 40] n) (K := fun pc L S μ => if pc = 8 then jJ6_numberOfTrailingZeros_0f7a4_8 k8 L S μ else none) (cd := qcJ6_numberOfTrailingZeros_0f7a4) (M := 266) (d0 := 0) rfl qcok_J6_numberOfTrailingZeros_0f7a4 (Nat.le_refl _) (hcJ6_numberOfTrailingZeros_0f7a4 hcv) (fun pc L S μ r h => by
    split at h
    · rename_i e; subst e; exact jeJ6_numberOfTrailingZeros_0f7a4_8 hk h
    · cases h) 400 (pc := 0) (L := qent [.int a0] 2) (S := []) h)
theorem gdJ6_numberOfTrailingZeros_0f7a4 {base : Nat} {D : va_G} {ca : Nat → ClassId} {cv : Nat → Value} (hcv : ∀ j, (cv j).category = 1) {a0 : Int32} {μ : qM} {r : qR} (h : fJ6_numberOfTrailingZeros_0f7a4 a0 μ = some r) : qGood false base D ca cv 1 266 [.int a0] μ r :=
  lbJ6_numberOfTrailingZeros_0f7a4_0 hcv (k8 := fJ6_numberOfTrailingZeros_0f7a4_8 (fJ6_numberOfTrailingZeros_0f7a4_24 (fJ6_numberOfTrailingZeros_0f7a4_32 fJ6_numberOfTrailingZeros_0f7a4_40))) (lbJ6_numberOfTrailingZeros_0f7a4_8 hcv (lbJ6_numberOfTrailingZeros_0f7a4_24 hcv (lbJ6_numberOfTrailingZeros_0f7a4_32 hcv (lbJ6_numberOfTrailingZeros_0f7a4_40 hcv)))) h
theorem gaJ6_numberOfTrailingZeros_0f7a4 {base : Nat} {D : va_G} {ca : Nat → ClassId} {cv : Nat → Value} (hcv : ∀ j, (cv j).category = 1) {l : List Value} {μ : qM} {r : qR} (h : aJ6_numberOfTrailingZeros_0f7a4 l μ = some r) : qGood false base D ca cv 1 266 l μ r := by
  unfold aJ6_numberOfTrailingZeros_0f7a4 at h
  split at h
  · exact gdJ6_numberOfTrailingZeros_0f7a4 hcv h
  · cases h

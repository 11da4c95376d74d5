/-! THE LAW'S LOOP: both worlds together -/
section Z0
variable {I I' : Nat → Nat → Int32} {L L' : Nat → Nat → Int64} {c t N N' : Nat} {s s' : St} {h h' : List St} {kp kp' : Nat → Option St} {tx tx' : List Nat} {row row' : List Int64} {cs cs' : List Nat} {B : FB}
theorem w7_mv (w : @W7 B I L s h kp tx row cs) (f : Fy I I') (g : ∀ i, L' 201 i = L 201 i) : @W7 (Inhabited.mk L') I' L' s h kp tx row cs :=
  ⟨w.1.on fun b i _ _ => f b i (by omega), w.2.1.imp fun z q => q.on fun b i _ _ => f b i (by omega), w.2.2.1.fr fun b i _ _ => f b i (by omega), w.2.2.2.1.on fun b i _ _ => f b i (by omega), w.2.2.2.2.1.on fun b i _ _ => f b i (by omega), ⟨w.2.2.2.2.2.1.1.on (fun i => f _ i (by omega)) g, FL.rf L' 201⟩, w.2.2.2.2.2.2.fr (fun i => f _ i (by omega)) (f _ _ (by omega))⟩
theorem w8_mv (w : @W8 B I L s h kp tx row cs) (f : Fw I I') (g : ∀ i, L' 211 i = L 211 i) : @W8 (Inhabited.mk L') I' L' s h kp tx row cs :=
  ⟨w.1.on fun k _ => f 217 k (by omega), w.2.1.imp fun G q => (f 210 16 (by omega)).trans q, w.2.2.1.on (f _ _ (by omega)) (fun i => f _ i (by omega)), w.2.2.2.1.on (fun i => f _ i (by omega)) (fun i => f _ i (by omega)), w.2.2.2.2.1.on (f _ _ (by omega)) (fun i => f _ i (by omega)), ⟨(f _ _ (by omega)).trans w.2.2.2.2.2.1.1, w.2.2.2.2.2.1.2.1, fun i hi => (g i).trans (w.2.2.2.2.2.1.2.2.1 i hi), FL.rf L' 211⟩, w.2.2.2.2.2.2.on (f _ _ (by omega)) (fun i => f _ i (by omega))⟩
theorem Fw.rfl (I : Nat → Nat → Int32) : Fw I I := fun _ _ _ => Eq.refl _
theorem Fy.rfl (I : Nat → Nat → Int32) : Fy I I := fun _ _ _ => Eq.refl _
/-- all states that an act may bring back are good -/
def Gs (N : Nat) (s : St) (h : List St) (kp : Nat → Option St) : Prop := Gd N s ∧ (∀ z, z ∈ h → Gd N z) ∧ ∀ i z, i < 3 → kp i = some z → Gd N z
def Ws (N : Nat) (I : Nat → Nat → Int32) (L : Nat → Nat → Int64) : Prop := ∃ s h kp tx row cs, @W7 (Inhabited.mk L) I L s h kp tx row cs ∧ @W8 (Inhabited.mk L) I L s h kp tx row cs ∧ Gs N s h kp
/-- the class's call, then the reference's: one answer, and related worlds -/
def Z7q (F7 F8 : qM → Option qR) (I : Nat → Nat → Int32) (L : Nat → Nat → Int64) (c t N : Nat) : Prop := ∃ a μ1 I' L', F7 (mk I L c t) = some (a, 0, μ1) ∧ F8 μ1 = some (a, 0, mk I' L' c t) ∧ Ws N I' L'
theorem st_go {F7 F8 : qM → Option qR} {a : Int32} (w : @W7 (Inhabited.mk L) I L s h kp tx row cs) (v : @W8 (Inhabited.mk L) I L s h kp tx row cs) (g : Gs N' s' h' kp')
    (h7 : ∀ [FB], W7 I L s h kp tx row cs → ∃ I' L', F7 (mk I L c t) = some (a, 0, mk I' L' c t) ∧ W7 I' L' s' h' kp' tx' row' cs' ∧ Fw I I')
    (h8 : ∀ [FB] (I1 : Nat → Nat → Int32) (L1 : Nat → Nat → Int64), W8 I1 L1 s h kp tx row cs → ∃ I' L', F8 (mk I1 L1 c t) = some (a, 0, mk I' L' c t) ∧ W8 I' L' s' h' kp' tx' row' cs' ∧ Fy I1 I') : Z7q F7 F8 I L c t N' := by
  obtain ⟨I1, L1, a1, a2, a3⟩ := @h7 (Inhabited.mk L) w
  have f1 : FL L L1 201 := a2.2.2.2.2.2.1.2
  have v1 := w8_mv (L' := L1) v a3 fun i => f1 211 i (by omega)
  obtain ⟨I2, L2, b1, b2, b3⟩ := @h8 (Inhabited.mk L1) I1 L1 v1
  have f2 : FL L1 L2 211 := b2.2.2.2.2.2.1.2.2.2
  exact ⟨a, mk I1 L1 c t, I2, L2, a1, b1, s', h', kp', tx', row', cs', w7_mv (L' := L2) a2 b3 fun i => f2 201 i (by omega), w8_mv (L' := L2) b2 (Fw.rfl I2) (fun i => rfl), g⟩
theorem mem_push {z : St} (hz : z ∈ pushH h s) : z ∈ h ∨ z = s := by
  unfold pushH at hz
  split at hz
  · rcases List.mem_append.mp hz with q | q
    · exact Or.inl q
    · exact Or.inr (List.mem_singleton.mp q)
  · rcases List.mem_append.mp hz with q | q
    · exact Or.inl (List.mem_of_mem_tail q)
    · exact Or.inr (List.mem_singleton.mp q)
theorem mem_note {z : St} {x : Int32} (hz : z ∈ noteH h s x) : z ∈ h ∨ z = s := by
  unfold noteH at hz
  split at hz
  · exact Or.inl hz
  · exact mem_push hz
theorem Gs.act (g : Gs N s h kp) (hN : N ≤ N') (hg : Gd N' s') (hm : ∀ z, z ∈ h' → z ∈ h ∨ z = s) : Gs N' s' h' kp := by
  refine ⟨hg, fun z hz => ?_, fun i z hi hz => (g.2.2 i z hi hz).mono hN⟩
  rcases hm z hz with q | rfl
  · exact (g.2.1 z q).mono hN
  · exact g.1.mono hN
theorem Gs.no (g : Gs N s h kp) (hN : N ≤ N') {x : Int32} (hg : Gd N' s') : Gs N' s' (noteH h s x) kp := g.act hN hg fun _ hz => mem_note hz
theorem Gs.pu (g : Gs N s h kp) (hN : N ≤ N') (hg : Gd N' s') : Gs N' s' (pushH h s) kp := g.act hN hg fun _ hz => mem_push hz
theorem Gs.up (g : Gs N s h kp) (hN : N ≤ N') : Gs N' s h kp := g.act hN (g.1.mono hN) fun _ hz => Or.inl hz
end Z0

/-! PURE SIDE, THE CLASS: who would run without others -/
section S7T
variable {I : Nat → Nat → Int32} {L : Nat → Nat → Int64} {c t N : Nat} {s : St} {h : List St} {kp : Nat → Option St} {tx : List Nat} {row : List Int64} {cs : List Nat} {μ : qM}
/-- the trial desk has changed alone -/
theorem W7.trial {I' : Nat → Nat → Int32} {z : St} (hW : W7 I L s h kp tx row cs) (hf : ∀ b i, b < 21 ∨ 40 ≤ b → I' b i = I b i) (hz : DW I' 21 z D0) : W7 I' L s h kp tx row cs :=
  ⟨hW.dw.on fun b i h1 h2 => hf b i (by omega), ⟨z, hz⟩, hW.hi.fr fun b i h1 h2 => hf b i (by omega), hW.ke.on fun b i h1 h2 => hf b i (by omega), hW.te.on fun b i h1 h2 => hf b i (by omega), hW.ro.on (fun i => hf _ i (by omega)) fun i => rfl, hW.ru.fr (fun i => hf _ i (by omega)) (hf _ _ (by omega))⟩
theorem w7_copy (hW : W7 I L s h kp tx row cs) : ∃ I1, fX5_copy 22 3 (mk I L c t) = some (n2 0, 0, mk I1 L c t) ∧ DW I1 21 s D0 ∧ ∀ b i, b < 21 ∨ 40 ≤ b → I1 b i = I b i := by
  obtain ⟨z, hz⟩ := hW.sh
  obtain ⟨I1, r1, r2, r3⟩ := x5_copy (L := L) (c := c) (t := t) (show 22 ∈ stl by decide) (show 3 ∈ stl by decide) (by omega) hW.dw.1
  exact ⟨I1, r1, ⟨r2, fun p hp => by rw [r3 _ _ (by omega)]; exact hz.2 p hp⟩, fun b i hb => r3 b i (by omega)⟩
def outS (P : Nat → Bool) (z : St) (o : Nat) : St := if P o = true then leaveS z o else z
def outAll (P : Nat → Bool) (z : St) : St := (List.range 8).foldl (outS P) z
end S7T

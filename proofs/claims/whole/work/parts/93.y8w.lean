/-! PURE SIDE, THE REFERENCE: its world -/
theorem R8.on {f f' : Nat → Int32} {s : St} (h : R8 f s) (hf : ∀ k, k < 755 → f' k = f k) : R8 f' s := by
  obtain ⟨h1, h2, h3, h4, h5⟩ := h
  refine ⟨fun p o hp ho => (hf _ (by omega)).trans (h1 p o hp ho), fun o ho => ?_, (hf _ (by omega)).trans h3, (hf _ (by omega)).trans h4, (hf _ (by omega)).trans h5⟩
  obtain ⟨a1, a2, a3, a4, a5, a6, a7, a8, a9⟩ := h2 o ho
  exact ⟨(hf _ (by omega)).trans a1, (hf _ (by omega)).trans a2, (hf _ (by omega)).trans a3, (hf _ (by omega)).trans a4, (hf _ (by omega)).trans a5, (hf _ (by omega)).trans a6, (hf _ (by omega)).trans a7, (hf _ (by omega)).trans a8, fun hz => (hf _ (by omega)).trans (a9 hz)⟩
def Un8 (I : Nat → Nat → Int32) (h : List St) : Prop := I 210 18 = n2 h.length ∧ h.length ≤ 10 ∧ ∀ k, k < h.length → R8 (fun j => I 220 (755 * k + j)) (h.getD k fun _ _ => 0)
def Kp8 (I : Nat → Nat → Int32) (kp : Nat → Option St) : Prop := ∀ i, i < 3 → I 227 i = n2 (bn (kp i).isSome) ∧ ∀ s, kp i = some s → R8 (fun j => I 228 (755 * i + j)) s
def Tp8 (I : Nat → Nat → Int32) (tx : List Nat) : Prop := I 210 4 = n2 tx.length ∧ tx.length ≤ 80 ∧ ∀ i, i < tx.length → I 212 i = n2 (tx.getD i 0) ∧ tx.getD i 0 < 256
def Ro8 [B : FB] (I : Nat → Nat → Int32) (L : Nat → Nat → Int64) (l : List Int64) : Prop := I 210 1 = n2 l.length ∧ l.length ≤ 24 ∧ (∀ i, i < l.length → L 211 i = l.getD i 0) ∧ FL B.default L 211
/-- the reference's world -/
def W8 [FB] (I : Nat → Nat → Int32) (L : Nat → Nat → Int64) (s : St) (h : List St) (kp : Nat → Option St) (tx : List Nat) (row : List Int64) (cs : List Nat) : Prop := R8 (I 217) s ∧ (∃ G, I 210 16 = n2 (bits8 G)) ∧ Un8 I h ∧ Kp8 I kp ∧ Tp8 I tx ∧ Ro8 I L row ∧ CdW I cs
/-- what lies outside the reference is as it was -/
def Fy (I I' : Nat → Nat → Int32) : Prop := ∀ b i, b < 210 → I' b i = I b i
theorem Fy.rf (I : Nat → Nat → Int32) : Fy I I := fun _ _ _ => rfl
theorem Fy.trans {I I1 I2 : Nat → Nat → Int32} (h1 : Fy I I1) (h2 : Fy I1 I2) : Fy I I2 := fun b i h => (h2 b i h).trans (h1 b i h)
theorem Fy.up {I : Nat → Nat → Int32} {b i : Nat} {x : Int32} (hb : 210 ≤ b) : Fy I (upI I b i x) := fun a j h => upI_ne (by omega)
theorem F9.v {I I' : Nat → Nat → Int32} {r : Nat} (hr : r = 217 ∨ r = 218) (h : F9 I I' r) : Fy I I' := fun b i hb => h b i (by omega) (by omega) (by omega) (by omega) (by omega)
theorem F8.v {I I' : Nat → Nat → Int32} {r : Nat} (hr : r = 217 ∨ r = 218) (h : F8 I I' r) : Fy I I' := h.f9.v hr
theorem Fx.v {I I' : Nat → Nat → Int32} {r : Nat} (hr : r = 217 ∨ r = 218) (h : Fx I I' r) : Fy I I' := h.f8.v hr
/-- the numbers that the world doesn't speak of -/
def Fs (I I' : Nat → Nat → Int32) : Prop := ∀ b i, b ≠ 214 → b ≠ 215 → b ≠ 216 → b ≠ 218 → b ≠ 219 → b ≠ 221 → b ≠ 222 → b ≠ 223 → b ≠ 224 → b ≠ 225 → b ≠ 226 → ¬ (b = 210 ∧ i ≠ 1 ∧ i ≠ 4 ∧ i ≠ 10 ∧ i ≠ 16 ∧ i ≠ 18) → I' b i = I b i
theorem Fs.rf (I : Nat → Nat → Int32) : Fs I I := fun _ _ _ _ _ _ _ _ _ _ _ _ _ _ => rfl
theorem Fs.trans {I I1 I2 : Nat → Nat → Int32} (h1 : Fs I I1) (h2 : Fs I1 I2) : Fs I I2 := fun b i a1 a2 a3 a4 a5 a6 a7 a8 a9 b1 b2 b3 => (h2 b i a1 a2 a3 a4 a5 a6 a7 a8 a9 b1 b2 b3).trans (h1 b i a1 a2 a3 a4 a5 a6 a7 a8 a9 b1 b2 b3)
theorem Fs.up {I : Nat → Nat → Int32} {b i : Nat} {x : Int32} (h : b = 214 ∨ b = 215 ∨ b = 216 ∨ b = 218 ∨ b = 219 ∨ b = 221 ∨ b = 222 ∨ b = 223 ∨ b = 224 ∨ b = 225 ∨ b = 226) : Fs I (upI I b i x) := fun a j a1 a2 a3 a4 a5 a6 a7 a8 a9 b1 b2 b3 => upI_ne (by omega)
theorem Fs.up2 {I : Nat → Nat → Int32} {i : Nat} {x : Int32} (h : i ≠ 1 ∧ i ≠ 4 ∧ i ≠ 10 ∧ i ≠ 16 ∧ i ≠ 18) : Fs I (upI I 210 i x) := fun a j a1 a2 a3 a4 a5 a6 a7 a8 a9 b1 b2 b3 => by
  by_cases e : a = 210
  · subst e
    exact upI_ni (by omega)
  · exact upI_ne e
theorem Fs.v {I I' : Nat → Nat → Int32} (h : Fs I I') : Fy I I' := fun b i hb => h b i (by omega) (by omega) (by omega) (by omega) (by omega) (by omega) (by omega) (by omega) (by omega) (by omega) (by omega) (by omega)
section S8O
variable {I I' : Nat → Nat → Int32} {L : Nat → Nat → Int64} {c t r N T n : Nat} {s s' : St} {μ : qM} {h : List St} {kp : Nat → Option St} {tx : List Nat} {row : List Int64} {cs : List Nat}
theorem W8.nw [FB] (w : W8 I L s h kp tx row cs) : R8 (I 217) s := w.1
theorem W8.ga [FB] (w : W8 I L s h kp tx row cs) : ∃ G, I 210 16 = n2 (bits8 G) := w.2.1
theorem W8.un [FB] (w : W8 I L s h kp tx row cs) : Un8 I h := w.2.2.1
theorem W8.ke [FB] (w : W8 I L s h kp tx row cs) : Kp8 I kp := w.2.2.2.1
theorem W8.te [FB] (w : W8 I L s h kp tx row cs) : Tp8 I tx := w.2.2.2.2.1
theorem W8.ro [FB] (w : W8 I L s h kp tx row cs) : Ro8 I L row := w.2.2.2.2.2.1
theorem W8.cd [FB] (w : W8 I L s h kp tx row cs) : CdW I cs := w.2.2.2.2.2.2
theorem Un8.on (h1 : Un8 I h) (h2 : I' 210 18 = I 210 18) (h3 : ∀ i, I' 220 i = I 220 i) : Un8 I' h := ⟨h2.trans h1.1, h1.2.1, fun k hk => (h1.2.2 k hk).on fun _ _ => h3 _⟩
theorem Kp8.on (h1 : Kp8 I kp) (h2 : ∀ i, I' 227 i = I 227 i) (h3 : ∀ i, I' 228 i = I 228 i) : Kp8 I' kp := fun i hi => ⟨(h2 i).trans (h1 i hi).1, fun s hs => ((h1 i hi).2 s hs).on fun _ _ => h3 _⟩
theorem Tp8.on (h1 : Tp8 I tx) (h2 : I' 210 4 = I 210 4) (h3 : ∀ i, I' 212 i = I 212 i) : Tp8 I' tx := ⟨h2.trans h1.1, h1.2.1, fun i hi => ⟨(h3 i).trans (h1.2.2 i hi).1, (h1.2.2 i hi).2⟩⟩
theorem Ro8.on [FB] (h1 : Ro8 I L row) (h2 : I' 210 1 = I 210 1) : Ro8 I' L row := ⟨h2.trans h1.1, h1.2⟩
theorem W8.sc [FB] (w : W8 I L s h kp tx row cs) (f : Fs I I') : W8 I' L s h kp tx row cs := by
  have k : ∀ i, (i = 1 ∨ i = 4 ∨ i = 10 ∨ i = 16 ∨ i = 18) → I' 210 i = I 210 i := fun i hi => f 210 i (by omega) (by omega) (by omega) (by omega) (by omega) (by omega) (by omega) (by omega) (by omega) (by omega) (by omega) (by omega)
  have a : ∀ b i, (b = 217 ∨ b = 220 ∨ b = 227 ∨ b = 228 ∨ b = 212 ∨ b = 213) → I' b i = I b i := fun b i hb => f b i (by omega) (by omega) (by omega) (by omega) (by omega) (by omega) (by omega) (by omega) (by omega) (by omega) (by omega) (by omega)
  obtain ⟨G, hG⟩ := w.ga
  exact ⟨w.nw.on fun _ _ => a _ _ (by omega), ⟨G, (k 16 (by omega)).trans hG⟩, w.un.on (k 18 (by omega)) fun i => a _ _ (by omega), w.ke.on (fun i => a _ _ (by omega)) fun i => a _ _ (by omega), w.te.on (k 4 (by omega)) fun i => a _ _ (by omega), w.ro.on (k 1 (by omega)), w.cd.on (k 10 (by omega)) fun i => a _ _ (by omega)⟩
/-- what is now is another -/
theorem W8.now [FB] (w : W8 I L s h kp tx row cs) (f : F9 I I' 217) (hR : R8 (I' 217) s') {G : Nat → Bool} (hG : I' 210 16 = n2 (bits8 G)) : W8 I' L s' h kp tx row cs := by
  have k : ∀ i, i ≠ 16 → I' 210 i = I 210 i := fun i hi => f 210 i (by omega) (by omega) (by omega) (by omega) (by omega)
  have a : ∀ b i, (b = 220 ∨ b = 227 ∨ b = 228 ∨ b = 212 ∨ b = 213) → I' b i = I b i := fun b i hb => f b i (by omega) (by omega) (by omega) (by omega) (by omega)
  exact ⟨hR, ⟨G, hG⟩, w.un.on (k 18 (by omega)) fun i => a _ _ (by omega), w.ke.on (fun i => a _ _ (by omega)) fun i => a _ _ (by omega), w.te.on (k 4 (by omega)) fun i => a _ _ (by omega), w.ro.on (k 1 (by omega)), w.cd.on (k 10 (by omega)) fun i => a _ _ (by omega)⟩
/-- what is then is another -/
theorem W8.then [FB] (w : W8 I L s h kp tx row cs) (f : F9 I I' 218) {G : Nat → Bool} (hG : I' 210 16 = n2 (bits8 G)) : W8 I' L s h kp tx row cs := by
  have k : ∀ i, i ≠ 16 → I' 210 i = I 210 i := fun i hi => f 210 i (by omega) (by omega) (by omega) (by omega) (by omega)
  have a : ∀ b i, (b = 217 ∨ b = 220 ∨ b = 227 ∨ b = 228 ∨ b = 212 ∨ b = 213) → I' b i = I b i := fun b i hb => f b i (by omega) (by omega) (by omega) (by omega) (by omega)
  exact ⟨w.nw.on fun _ _ => a _ _ (by omega), ⟨G, hG⟩, w.un.on (k 18 (by omega)) fun i => a _ _ (by omega), w.ke.on (fun i => a _ _ (by omega)) fun i => a _ _ (by omega), w.te.on (k 4 (by omega)) fun i => a _ _ (by omega), w.ro.on (k 1 (by omega)), w.cd.on (k 10 (by omega)) fun i => a _ _ (by omega)⟩
/-- told is nothing -/
theorem W8.t0 [FB] (w : W8 I L s h kp tx row cs) : W8 (upI I 210 1 (n2 0)) L s h kp tx [] cs := by
  have k : ∀ i, i ≠ 1 → (upI I 210 1 (n2 0)) 210 i = I 210 i := fun i hi => upI_ni hi
  have a : ∀ b i, b ≠ 210 → (upI I 210 1 (n2 0)) b i = I b i := fun b i hb => upI_ne hb
  obtain ⟨G, hG⟩ := w.ga
  exact ⟨w.nw.on fun _ _ => a _ _ (by omega), ⟨G, (k 16 (by omega)).trans hG⟩, w.un.on (k 18 (by omega)) fun i => a _ _ (by omega), w.ke.on (fun i => a _ _ (by omega)) fun i => a _ _ (by omega), w.te.on (k 4 (by omega)) fun i => a _ _ (by omega), ⟨upI_eq, by simp, fun i hi => absurd hi (Nat.not_lt_zero i), w.ro.2.2.2⟩, w.cd.on (k 10 (by omega)) fun i => a _ _ (by omega)⟩
theorem x8_enters [FB] (w : W8 I L s h kp tx row cs) (hl : row.length < 24) (v : Int64) : ∃ I' L', fX8_enters 210 v (mk I L c t) = some (n2 0, 0, mk I' L' c t) ∧ W8 I' L' s h kp tx (row ++ [v]) cs ∧ (∀ b i, ¬ (b = 210 ∧ i = 1) → I' b i = I b i) := by
  obtain ⟨r1, r2, r3, r4⟩ := w.ro
  have hk : ∀ b i, ¬ (b = 210 ∧ i = 1) → (upI I 210 1 (n2 (row.length + 1))) b i = I b i := fun b i hb => by
    by_cases e : b = 210
    · rw [e]
      exact upI_ni (fun z => hb ⟨e, z⟩)
    · exact upI_ne e
  have k : ∀ i, i ≠ 1 → (upI I 210 1 (n2 (row.length + 1))) 210 i = I 210 i := fun i hi => hk _ _ (by omega)
  have a : ∀ b i, b ≠ 210 → (upI I 210 1 (n2 (row.length + 1))) b i = I b i := fun b i hb => hk _ _ (by omega)
  obtain ⟨G, hG⟩ := w.ga
  refine ⟨upI I 210 1 (n2 (row.length + 1)), upL L 211 row.length v, ?_, ⟨w.nw.on fun _ _ => a _ _ (by omega), ⟨G, (k 16 (by omega)).trans hG⟩, w.un.on (k 18 (by omega)) fun i => a _ _ (by omega), w.ke.on (fun i => a _ _ (by omega)) fun i => a _ _ (by omega), w.te.on (k 4 (by omega)) fun i => a _ _ (by omega), ⟨by rw [upI_eq]; simp, by simp; omega, fun i hi => ?_, fun b i hb => by rw [upL_ne hb]; exact r4 b i hb⟩, w.cd.on (k 10 (by omega)) fun i => a _ _ (by omega)⟩, hk⟩
  · unfold fX8_enters
    rw [if_pos (by rw [kk_210])]
    unfold gX8_enters
    rw [g210_2, qbnd_s, g210_1, qbnd_s, r1, sd211 hl, qbnd_s, g210_1, qbnd_s, r1, l_1, n2_add, u210_1, qbnd_s]
    rfl
  · rw [List.length_append, List.length_singleton] at hi
    by_cases e : i = row.length
    · subst e
      rw [List.getD_eq_getElem?_getD, List.getElem?_append_right (Nat.le_refl _), Nat.sub_self]
      show upL L 211 row.length v 211 row.length = v
      unfold upL
      rw [if_pos ⟨rfl, rfl⟩]
    · rw [List.getD_eq_getElem?_getD, List.getElem?_append_left (by omega), ← List.getD_eq_getElem?_getD, ← r3 i (by omega)]
      show upL L 211 row.length v 211 i = _
      unfold upL
      rw [if_neg (by omega)]
end S8O

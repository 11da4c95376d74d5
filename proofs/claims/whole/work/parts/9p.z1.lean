/-! THE LAW'S LOOP: each call of the script, both sides -/
section Z1
variable {I I' : Nat → Nat → Int32} {L L' : Nat → Nat → Int64} {c t N N' : Nat} {s s' : St} {h h' : List St} {kp kp' : Nat → Option St} {tx tx' : List Nat} {row row' : List Int64} {cs cs' : List Nat}
theorem ex_L {F : Option qR} {a : Int32} {W : (Nat → Nat → Int32) → (Nat → Nat → Int64) → Prop} {Q : (Nat → Nat → Int32) → Prop} (z : ∃ I', F = some (a, 0, mk I' L c t) ∧ W I' L ∧ Q I') : ∃ I' L', F = some (a, 0, mk I' L' c t) ∧ W I' L' ∧ Q I' := by
  obtain ⟨I', z1, z2, z3⟩ := z
  exact ⟨I', L, z1, z2, z3⟩
theorem st_go1 {F7 F8 : qM → Option qR} {a : Int32} (v : @W8 (Inhabited.mk L) I L s h kp tx row cs) (g : Gs N' s' h' kp')
    (h7 : ∃ I' L', F7 (mk I L c t) = some (a, 0, mk I' L' c t) ∧ @W7 (Inhabited.mk L) I' L' s' h' kp' tx' row' cs' ∧ Fw I I')
    (h8 : ∀ [FB] (I1 : Nat → Nat → Int32) (L1 : Nat → Nat → Int64), W8 I1 L1 s h kp tx row cs → ∃ I' L', F8 (mk I1 L1 c t) = some (a, 0, mk I' L' c t) ∧ W8 I' L' s' h' kp' tx' row' cs' ∧ Fy I1 I') : Z7q F7 F8 I L c t N' := by
  obtain ⟨I1, L1, a1, a2, a3⟩ := h7
  have f1 : FL L L1 201 := a2.2.2.2.2.2.1.2
  have v1 := w8_mv (L' := L1) v a3 fun i => f1 211 i (by omega)
  obtain ⟨I2, L2, b1, b2, b3⟩ := @h8 (Inhabited.mk L1) I1 L1 v1
  have f2 : FL L1 L2 211 := b2.2.2.2.2.2.1.2.2.2
  exact ⟨a, mk I1 L1 c t, I2, L2, a1, b1, s', h', kp', tx', row', cs', w7_mv (L' := L2) a2 b3 fun i => f2 201 i (by omega), w8_mv (L' := L2) b2 (Fw.rfl I2) (fun i => rfl), g⟩
theorem gdmem {α : Type} {d : α} : ∀ (l : List α) (i : Nat), i < l.length → l.getD i d ∈ l := by
  intro l
  induction l with
  | nil => intro i hi; exact absurd hi (Nat.not_lt_zero _)
  | cons a l ih =>
    intro i hi
    cases i with
    | zero => exact List.mem_cons_self
    | succ i => exact List.mem_cons_of_mem _ (ih i (Nat.lt_of_succ_lt_succ hi))
theorem dlmem {α : Type} {z : α} : ∀ (l : List α), z ∈ l.dropLast → z ∈ l := by
  intro l
  induction l with
  | nil => intro hz; cases hz
  | cons a l ih =>
    intro hz
    cases l with
    | nil => cases hz
    | cons b l =>
      rcases List.mem_cons.mp (show z ∈ a :: (b :: l).dropLast from hz) with rfl | q
      · exact List.mem_cons_self
      · exact List.mem_cons_of_mem _ (ih q)
theorem sp_sign (q : Ws N I L) (hN : N < 899000000) (x : Int32) : Z7q (fX7_sign 1 x) (fX8_sign 210 x) I L c t (N + 400) := by
  obtain ⟨s, h, kp, tx, row, cs, w, v, g⟩ := q
  have hN9 : N < 900000000 := by omega
  have hN8 : N < 899999000 := by omega
  exact st_go w v (g.up (by omega)) (fun w => ex_L (x7_sign w x)) (fun _ _ v => ex_L (y8_sign v x))
theorem sp_end (q : Ws N I L) (hN : N < 899000000) (x : Int32) : Z7q (fX7_end 1 x) (fX8_end 210 x) I L c t (N + 400) := by
  obtain ⟨s, h, kp, tx, row, cs, w, v, g⟩ := q
  have hN9 : N < 900000000 := by omega
  have hN8 : N < 899999000 := by omega
  exact st_go w v (g.up (by omega)) (fun w => ex_L (x7_end w x)) (fun _ _ v => ex_L (y8_end v x))
theorem sp_rule (q : Ws N I L) (hN : N < 899000000) : Z7q (fX7_rule 1) (fX8_rule 210) I L c t (N + 400) := by
  obtain ⟨s, h, kp, tx, row, cs, w, v, g⟩ := q
  have hN9 : N < 900000000 := by omega
  have hN8 : N < 899999000 := by omega
  exact st_go w v (g.up (by omega)) (fun w => ex_L (x7_rule w)) (fun _ _ v => ex_L (y8_rule v))
theorem sp_modes (q : Ws N I L) (hN : N < 899000000) (x : Int32) (y : Int32) : Z7q (fX7_modes 1 x y) (fX8_modes 210 x y) I L c t (N + 400) := by
  obtain ⟨s, h, kp, tx, row, cs, w, v, g⟩ := q
  have hN9 : N < 900000000 := by omega
  have hN8 : N < 899999000 := by omega
  exact st_go w v (g.up (by omega)) (fun w => x7_modes w x y) (fun _ _ v => y8_modes v x y)
theorem sp_named (q : Ws N I L) (hN : N < 899000000) : Z7q (fX7_named 1) (fX8_named 210) I L c t (N + 400) := by
  obtain ⟨s, h, kp, tx, row, cs, w, v, g⟩ := q
  have hN9 : N < 900000000 := by omega
  have hN8 : N < 899999000 := by omega
  exact st_go w v (g.up (by omega)) (fun w => ex_L (x7_named w)) (fun _ _ v => ex_L (y8_named v))
theorem sp_begins (q : Ws N I L) (hN : N < 899000000) (x : Int32) : Z7q (fX7_begins 1 x) (fX8_begins 210 x) I L c t (N + 400) := by
  obtain ⟨s, h, kp, tx, row, cs, w, v, g⟩ := q
  have hN9 : N < 900000000 := by omega
  have hN8 : N < 899999000 := by omega
  exact st_go w v (g.no (by omega) ((gd_start g.1 hN9).mono (by omega))) (fun w => ex_L (x7_begins w g.1 hN9 x)) (fun _ _ v => ex_L (y8_begins v g.1 hN9 x))
theorem sp_works (q : Ws N I L) (hN : N < 899000000) (x : Int32) (y : Int32) : Z7q (fX7_works 1 x y) (fX8_works 210 x y) I L c t (N + 400) := by
  obtain ⟨s, h, kp, tx, row, cs, w, v, g⟩ := q
  have hN9 : N < 900000000 := by omega
  have hN8 : N < 899999000 := by omega
  exact st_go w v (g.no (by omega) ((gd_labour g.1).mono (by omega))) (fun w => ex_L (x7_works w g.1 hN9 x y)) (fun _ _ v => ex_L (y8_works v g.1 hN9 x y))
theorem sp_locks (q : Ws N I L) (hN : N < 899000000) (x : Int32) (y : Int32) (z : Int32) : Z7q (fX7_locks 1 x y z) (fX8_locks 210 x y z) I L c t (N + 400) := by
  obtain ⟨s, h, kp, tx, row, cs, w, v, g⟩ := q
  have hN9 : N < 900000000 := by omega
  have hN8 : N < 899999000 := by omega
  obtain ⟨r, hr⟩ : ∃ r, lockS s (nIx x) (nIx y) (nIx z) = r := ⟨_, rfl⟩
  have hg : Gd (N + 4) r.2 := hr ▸ gd_lock g.1
  exact st_go w v (g.no (by omega) (hg.mono (by omega))) (fun w => x7_locks w g.1 hN9 x y z hr) (fun _ _ v => y8_locks v g.1 hN9 x y z hr)
theorem sp_unlocks (q : Ws N I L) (hN : N < 899000000) (x : Int32) (y : Int32) : Z7q (fX7_unlocks 1 x y) (fX8_unlocks 210 x y) I L c t (N + 400) := by
  obtain ⟨s, h, kp, tx, row, cs, w, v, g⟩ := q
  have hN9 : N < 900000000 := by omega
  have hN8 : N < 899999000 := by omega
  exact st_go w v (g.no (by omega) ((gd_unlock g.1).mono (by omega))) (fun w => ex_L (x7_unlocks w g.1 hN9 x y)) (fun _ _ v => ex_L (y8_unlocks v g.1 hN9 x y))
theorem sp_ends (q : Ws N I L) (hN : N < 899000000) (x : Int32) : Z7q (fX7_ends 1 x) (fX8_ends 210 x) I L c t (N + 400) := by
  obtain ⟨s, h, kp, tx, row, cs, w, v, g⟩ := q
  have hN9 : N < 900000000 := by omega
  have hN8 : N < 899999000 := by omega
  exact st_go w v (g.no (by omega) ((gd_finish g.1).mono (by omega))) (fun w => x7_ends w g.1 hN9 x) (fun _ _ v => y8_ends v g.1 hN9 x)
theorem sp_gathers (q : Ws N I L) (hN : N < 899000000) (x : Int32) (y : Int32) : Z7q (fX7_gathers 1 x y) (fX8_gathers 210 x y) I L c t (N + 400) := by
  obtain ⟨s, h, kp, tx, row, cs, w, v, g⟩ := q
  have hN9 : N < 900000000 := by omega
  have hN8 : N < 899999000 := by omega
  exact st_go w v (g.no (by omega) ((gd_collect g.1).mono (by omega))) (fun w => x7_gathers w g.1 hN9 x y) (fun _ _ v => y8_gathers v g.1 hN9 x y)
theorem sp_bulk (q : Ws N I L) (hN : N < 899000000) (x : Int32) : Z7q (fX7_bulk 1 x) (fX8_bulk 210 x) I L c t (N + 400) := by
  obtain ⟨s, h, kp, tx, row, cs, w, v, g⟩ := q
  have hN9 : N < 900000000 := by omega
  have hN8 : N < 899999000 := by omega
  exact st_go w v (g.no (by omega) ((gd_setb g.1).mono (by omega))) (fun w => ex_L (x7_bulk w g.1 hN9 x)) (fun _ _ v => ex_L (y8_bulk v g.1 hN9 x))
theorem sp_fells (q : Ws N I L) (hN : N < 899000000) : Z7q (fX7_fells 1) (fX8_fells 210) I L c t (N + 400) := by
  obtain ⟨s, h, kp, tx, row, cs, w, v, g⟩ := q
  have hN9 : N < 900000000 := by omega
  have hN8 : N < 899999000 := by omega
  obtain ⟨p, hr⟩ : ∃ p, fellS 8 s cs = p := ⟨_, rfl⟩
  obtain ⟨l, s'⟩ := p
  have hg : Gd N s' := by
    have := (gd_fell (cs := cs) 8 s g.1).1
    rw [hr] at this
    exact this
  exact st_go w v (g.pu (by omega) (hg.mono (by omega))) (fun w => x7_fells w g.1 hN9 hr) (fun _ _ v => y8_fells v g.1 hN9 hr)
theorem sp_day (q : Ws N I L) (hN : N < 899000000) : Z7q (fX7_day 1) (fX8_day 210) I L c t (N + 400) := by
  obtain ⟨s, h, kp, tx, row, cs, w, v, g⟩ := q
  have hN9 : N < 900000000 := by omega
  have hN8 : N < 899999000 := by omega
  exact st_go w v (by
    have hd := gd_day (tx := tx) (cs := cs) 81 0 s g.1 (by omega)
    cases widS tx tx.length 0 0 with
    | some p => exact g.up (by omega)
    | none =>
      dsimp only
      split
      · exact g.act (by omega) (hd.mono (by omega)) fun _ hz => Or.inl hz
      · exact g.pu (by omega) (hd.mono (by omega))) (fun w => x7_day w g.1 hN8) (fun _ _ v => y8_day v g.1 hN8)
theorem sp_undo (q : Ws N I L) (hN : N < 899000000) : Z7q (fX7_undo 1) (fX8_undo 210) I L c t (N + 400) := by
  obtain ⟨s, h, kp, tx, row, cs, w, v, g⟩ := q
  have hN9 : N < 900000000 := by omega
  have hN8 : N < 899999000 := by omega
  by_cases e : h = []
  · subst e
    exact st_go w v (g.up (by omega)) (fun w => ⟨I, L, x7_undo0 w, w, Fw.rfl I⟩) (fun _ _ v => ex_L (y8_undo0 v))
  · have hl : h.length - 1 < h.length := by
      cases h with
      | nil => exact absurd rfl e
      | cons a l => exact Nat.lt_succ_self _
    exact st_go w v (g.act (by omega) ((g.2.1 _ (gdmem h _ hl)).mono (by omega)) fun _ hz => Or.inl (dlmem h hz)) (fun w => ex_L (x7_undo w e)) (fun _ _ v => ex_L (y8_undo v e))
theorem sp_holders (q : Ws N I L) (hN : N < 899000000) (x : Int32) : Z7q (fX7_holders 1 x) (fX8_holders 210 x) I L c t (N + 400) := by
  obtain ⟨s, h, kp, tx, row, cs, w, v, g⟩ := q
  have hN9 : N < 900000000 := by omega
  have hN8 : N < 899999000 := by omega
  exact st_go w v (g.up (by omega)) (fun w => x7_holders w g.1 hN9 x) (fun _ _ v => y8_holders v g.1 hN9 x)
theorem sp_queue (q : Ws N I L) (hN : N < 899000000) (x : Int32) : Z7q (fX7_queue 1 x) (fX8_queue 210 x) I L c t (N + 400) := by
  obtain ⟨s, h, kp, tx, row, cs, w, v, g⟩ := q
  have hN9 : N < 900000000 := by omega
  have hN8 : N < 899999000 := by omega
  by_cases e : nIx x < 85
  · exact st_go w v (g.up (by omega)) (fun w => x7_queue_y w g.1 hN9 x e) (fun _ _ v => y8_queue v g.1 hN9 x e)
  · exact st_go w v (g.up (by omega)) (fun w => ⟨I, L, x7_queue_n x e, w, Fw.rfl I⟩) (fun _ _ v => ex_L (y8_queue_n v x e))
theorem sp_waits (q : Ws N I L) (hN : N < 899000000) (x : Int32) : Z7q (fX7_waits 1 x) (fX8_waits 210 x) I L c t (N + 400) := by
  obtain ⟨s, h, kp, tx, row, cs, w, v, g⟩ := q
  have hN9 : N < 900000000 := by omega
  have hN8 : N < 899999000 := by omega
  by_cases e : nIx x < 8
  · exact st_go w v (g.up (by omega)) (fun w => x7_waits_y w g.1 hN9 x e) (fun _ _ v => y8_waits v g.1 hN9 x e)
  · exact st_go w v (g.up (by omega)) (fun w => ⟨I, L, x7_waits_n x e, w, Fw.rfl I⟩) (fun _ _ v => ex_L (y8_waits_n v x e))
theorem sp_covers (q : Ws N I L) (hN : N < 899000000) (x : Int32) (y : Int32) : Z7q (fX7_covers 1 x y) (fX8_covers 210 x y) I L c t (N + 400) := by
  obtain ⟨s, h, kp, tx, row, cs, w, v, g⟩ := q
  have hN9 : N < 900000000 := by omega
  have hN8 : N < 899999000 := by omega
  exact st_go w v (g.up (by omega)) (fun w => x7_covers w g.1 hN9 x y) (fun _ _ v => y8_covers v g.1 hN9 x y)
theorem sp_may (q : Ws N I L) (hN : N < 899000000) (x : Int32) (y : Int32) (z : Int32) : Z7q (fX7_may 1 x y z) (fX8_may 210 x y z) I L c t (N + 400) := by
  obtain ⟨s, h, kp, tx, row, cs, w, v, g⟩ := q
  have hN9 : N < 900000000 := by omega
  have hN8 : N < 899999000 := by omega
  by_cases e : nIx x < 8 ∧ nIx y < 85 ∧ 1 ≤ nIx z ∧ nIx z < 7
  · exact st_go w v (g.up (by omega)) (fun w => x7_may_y w g.1 hN9 x y z e.1 e.2.1 e.2.2) (fun _ _ v => y8_may v g.1 hN9 x y z e.1 e.2.1 e.2.2)
  · exact st_go w v (g.up (by omega)) (fun w => ⟨I, L, x7_may_n x y z e, w, Fw.rfl I⟩) (fun _ _ v => ex_L (y8_may_n v x y z e))
theorem sp_free (q : Ws N I L) (hN : N < 899000000) (x : Int32) (y : Int32) (z : Int32) : Z7q (fX7_free 1 x y z) (fX8_free 210 x y z) I L c t (N + 400) := by
  obtain ⟨s, h, kp, tx, row, cs, w, v, g⟩ := q
  have hN9 : N < 900000000 := by omega
  have hN8 : N < 899999000 := by omega
  by_cases e : nIx x < 8 ∧ 1 ≤ nIx y ∧ nIx y < 5 ∧ 1 ≤ nIx z ∧ nIx z < 7
  · exact st_go w v (g.up (by omega)) (fun w => x7_free_y w g.1 hN9 x y z e.1 ⟨e.2.1, e.2.2.1⟩ e.2.2.2) (fun _ _ v => y8_free v g.1 hN9 x y z e.1 ⟨e.2.1, e.2.2.1⟩ e.2.2.2)
  · exact st_go w v (g.up (by omega)) (fun w => ⟨I, L, x7_free_n x y z e, w, Fw.rfl I⟩) (fun _ _ v => ex_L (y8_free_n v x y z e))
theorem sp_behind (q : Ws N I L) (hN : N < 899000000) (x : Int32) : Z7q (fX7_behind 1 x) (fX8_behind 210 x) I L c t (N + 400) := by
  obtain ⟨s, h, kp, tx, row, cs, w, v, g⟩ := q
  have hN9 : N < 900000000 := by omega
  have hN8 : N < 899999000 := by omega
  exact st_go w v (g.up (by omega)) (fun w => x7_behind w g.1 hN9 x) (fun _ _ v => y8_behind v g.1 hN9 x)
theorem sp_stops (q : Ws N I L) (hN : N < 899000000) (x : Int32) : Z7q (fX7_stops 1 x) (fX8_stops 210 x) I L c t (N + 400) := by
  obtain ⟨s, h, kp, tx, row, cs, w, v, g⟩ := q
  have hN9 : N < 900000000 := by omega
  have hN8 : N < 899999000 := by omega
  exact st_go w v (g.up (by omega)) (fun w => x7_stops w g.1 hN9 x) (fun _ _ v => y8_stops v g.1 hN9 x)
theorem sp_rings (q : Ws N I L) (hN : N < 899000000) : Z7q (fX7_rings 1) (fX8_rings 210) I L c t (N + 400) := by
  obtain ⟨s, h, kp, tx, row, cs, w, v, g⟩ := q
  have hN9 : N < 900000000 := by omega
  have hN8 : N < 899999000 := by omega
  exact st_go w v (g.up (by omega)) (fun w => x7_rings w g.1 hN9) (fun _ _ v => y8_rings v g.1 hN9)
theorem sp_ring (q : Ws N I L) (hN : N < 899000000) (x : Int32) : Z7q (fX7_ring 1 x) (fX8_ring 210 x) I L c t (N + 400) := by
  obtain ⟨s, h, kp, tx, row, cs, w, v, g⟩ := q
  have hN9 : N < 900000000 := by omega
  have hN8 : N < 899999000 := by omega
  by_cases e : nIx x < 8
  · exact st_go w v (g.up (by omega)) (fun w => x7_ring_y w g.1 hN9 x e) (fun _ _ v => y8_ring v g.1 hN9 x e)
  · exact st_go w v (g.up (by omega)) (fun w => ⟨I, L, x7_ring_n (μ := mk I L c t) x e, w, Fw.rfl I⟩) (fun _ _ v => ex_L (y8_ring_n v x e))
theorem sp_victim (q : Ws N I L) (hN : N < 899000000) : Z7q (fX7_victim 1) (fX8_victim 210) I L c t (N + 400) := by
  obtain ⟨s, h, kp, tx, row, cs, w, v, g⟩ := q
  have hN9 : N < 900000000 := by omega
  have hN8 : N < 899999000 := by omega
  exact st_go w v (g.up (by omega)) (fun w => x7_victim w g.1 hN9) (fun _ _ v => y8_victim v g.1 hN9)
theorem sp_frees (q : Ws N I L) (hN : N < 899000000) (x : Int32) : Z7q (fX7_frees 1 x) (fX8_frees 210 x) I L c t (N + 400) := by
  obtain ⟨s, h, kp, tx, row, cs, w, v, g⟩ := q
  have hN9 : N < 900000000 := by omega
  have hN8 : N < 899999000 := by omega
  by_cases e : nIx x < 8
  · by_cases e2 : s 85 (nIx x) = 2
    · letI : FB := Inhabited.mk L
      obtain ⟨z, hz, I1, L1, b1, b2, b3⟩ := (x7_frees_y (c := c) (t := t) w g.1 hN9 x e).2 e2
      cases z with
      | none => exact absurd hz (fr_some g.1 e e2)
      | some z => exact st_go1 v (g.up (by omega)) ⟨I1, L1, b1, b2, b3⟩ (fun _ _ v => (y8_frees v g.1 hN9 x e).2 e2 z hz)
    · exact st_go w v (g.up (by omega)) (fun w => ⟨I, L, (x7_frees_y w g.1 hN9 x e).1 e2, w, Fw.rfl I⟩) (fun _ _ v => ex_L ((y8_frees v g.1 hN9 x e).1 e2))
  · exact st_go w v (g.up (by omega)) (fun w => ⟨I, L, x7_frees_n x e, w, Fw.rfl I⟩) (fun _ _ v => ex_L (y8_frees_n v x e))
theorem sp_drains (q : Ws N I L) (hN : N < 899000000) : Z7q (fX7_drains 1) (fX8_drains 210) I L c t (N + 400) := by
  obtain ⟨s, h, kp, tx, row, cs, w, v, g⟩ := q
  have hN9 : N < 900000000 := by omega
  have hN8 : N < 899999000 := by omega
  exact st_go w v (g.up (by omega)) (fun w => x7_drains w g.1 hN9) (fun _ _ v => y8_drains v g.1 hN9)
theorem sp_saves (q : Ws N I L) (hN : N < 899000000) (x : Int32) (y : Int32) : Z7q (fX7_saves 1 x y) (fX8_saves 210 x y) I L c t (N + 400) := by
  obtain ⟨s, h, kp, tx, row, cs, w, v, g⟩ := q
  have hN9 : N < 900000000 := by omega
  have hN8 : N < 899999000 := by omega
  by_cases e : nIx x < 8 ∧ nIx y < 21
  · exact st_go w v (g.up (by omega)) (fun w => x7_saves_y w g.1 hN9 x y e.1 e.2) (fun _ _ v => y8_saves v g.1 hN9 x y e.1 e.2)
  · exact st_go w v (g.up (by omega)) (fun w => ⟨I, L, x7_saves_n x y e, w, Fw.rfl I⟩) (fun _ _ v => ex_L (y8_saves_n v x y e))
theorem sp_holds (q : Ws N I L) (hN : N < 899000000) (x : Int32) (y : Int32) : Z7q (fX7_holds 1 x y) (fX8_holds 210 x y) I L c t (N + 400) := by
  obtain ⟨s, h, kp, tx, row, cs, w, v, g⟩ := q
  have hN9 : N < 900000000 := by omega
  have hN8 : N < 899999000 := by omega
  by_cases e : nIx x < 8 ∧ nIx y < 85
  · exact st_go w v (g.up (by omega)) (fun w => x7_holds_y w g.1 hN9 x y e.1 e.2) (fun _ _ v => y8_holds v g.1 hN9 x y e.1 e.2)
  · exact st_go w v (g.up (by omega)) (fun w => ⟨I, L, x7_holds_n x y e, w, Fw.rfl I⟩) (fun _ _ v => ex_L (y8_holds_n v x y e))
theorem sp_common (q : Ws N I L) (hN : N < 899000000) (x : Int32) (y : Int32) : Z7q (fX7_common 1 x y) (fX8_common 210 x y) I L c t (N + 400) := by
  obtain ⟨s, h, kp, tx, row, cs, w, v, g⟩ := q
  have hN9 : N < 900000000 := by omega
  have hN8 : N < 899999000 := by omega
  by_cases e : nIx x < 8 ∧ nIx y < 8 ∧ nIx x ≠ nIx y
  · exact st_go w v (g.up (by omega)) (fun w => x7_common_y w g.1 hN9 x y e.1 e.2.1 e.2.2) (fun _ _ v => y8_common v g.1 hN9 x y e.1 e.2.1 e.2.2)
  · exact st_go w v (g.up (by omega)) (fun w => ⟨I, L, x7_common_n x y e, w, Fw.rfl I⟩) (fun _ _ v => ex_L (y8_common_n v x y e))
theorem sp_queues (q : Ws N I L) (hN : N < 899000000) : Z7q (fX7_queues 1) (fX8_queues 210) I L c t (N + 400) := by
  obtain ⟨s, h, kp, tx, row, cs, w, v, g⟩ := q
  have hN9 : N < 900000000 := by omega
  have hN8 : N < 899999000 := by omega
  exact st_go w v (g.up (by omega)) (fun w => x7_queues w g.1 hN9) (fun _ _ v => y8_queues v g.1 hN9)
theorem sp_sum (q : Ws N I L) (hN : N < 899000000) : Z7q (fX7_sum 1) (fX8_sum 210) I L c t (N + 400) := by
  obtain ⟨s, h, kp, tx, row, cs, w, v, g⟩ := q
  have hN9 : N < 900000000 := by omega
  have hN8 : N < 899999000 := by omega
  exact st_go w v (g.up (by omega)) (fun w => x7_sum w) (fun _ _ v => y8_sum v)
theorem sp_law (q : Ws N I L) (hN : N < 899000000) : Z7q (fX7_law 1) (fX8_law 210) I L c t (N + 400) := by
  obtain ⟨s, h, kp, tx, row, cs, w, v, g⟩ := q
  have hN9 : N < 900000000 := by omega
  have hN8 : N < 899999000 := by omega
  exact st_go w v (g.up (by omega)) (fun w => x7_law w g.1 hN9) (fun _ _ v => y8_law v g.1 hN9)
theorem sp_years (q : Ws N I L) (hN : N < 899000000) (x : Int32) (y : Int32) : Z7q (fX7_years 1 x y) (fX8_years 210 x y) I L c t (N + 400) := by
  obtain ⟨s, h, kp, tx, row, cs, w, v, g⟩ := q
  have hN9 : N < 900000000 := by omega
  have hN8 : N < 899999000 := by omega
  by_cases e : 1 ≤ nIx y ∧ nIx y < 41
  · exact st_go w v (g.up (by omega)) (fun w => x7_years_y w g.1 hN8 x y e) (fun _ _ v => y8_years v g.1 hN8 x y e)
  · exact st_go w v (g.up (by omega)) (fun w => ⟨I, L, x7_years_n x y e, w, Fw.rfl I⟩) (fun _ _ v => ex_L (y8_years_n v x y e))
theorem sp_keep (q : Ws N I L) (hN : N < 899000000) (x : Int32) : Z7q (fX7_keep 1 x) (fX8_keep 210 x) I L c t (N + 400) := by
  obtain ⟨s, h, kp, tx, row, cs, w, v, g⟩ := q
  have hN9 : N < 900000000 := by omega
  have hN8 : N < 899999000 := by omega
  exact st_go w v (by
    refine ⟨g.1.mono (by omega), fun z hz => (g.2.1 z hz).mono (by omega), fun i z hi hz => ?_⟩
    split at hz
    · unfold kpS at hz
      split at hz
      · cases hz
        exact g.1.mono (by omega)
      · exact (g.2.2 i z hi hz).mono (by omega)
    · exact (g.2.2 i z hi hz).mono (by omega)) (fun w => ex_L (x7_keep w x)) (fun _ _ v => ex_L (y8_keep v x))
theorem sp_again (q : Ws N I L) (hN : N < 899000000) (x : Int32) : Z7q (fX7_again 1 x) (fX8_again 210 x) I L c t (N + 400) := by
  obtain ⟨s, h, kp, tx, row, cs, w, v, g⟩ := q
  have hN9 : N < 900000000 := by omega
  have hN8 : N < 899999000 := by omega
  by_cases e : nIx x < 3 → kp (nIx x) = none
  · exact st_go w v (g.up (by omega)) (fun w => ⟨I, L, x7_again_n w x e, w, Fw.rfl I⟩) (fun _ _ v => ex_L (y8_again_n v x e))
  · have hx : nIx x < 3 := Decidable.byContradiction fun z => e fun z1 => absurd z1 z
    cases hs : kp (nIx x) with
    | none => exact absurd (fun _ => hs) e
    | some s1 => exact st_go w v ⟨(g.2.2 _ s1 hx hs).mono (by omega), (fun z hz => absurd hz List.not_mem_nil), fun i z hi hz => (g.2.2 i z hi hz).mono (by omega)⟩ (fun w => ex_L (x7_again_y w x hx hs)) (fun _ _ v => ex_L (y8_again_y v x hx hs))
theorem sp_count (q : Ws N I L) (hN : N < 899000000) (x : Int32) : Z7q (fX7_count 1 x) (fX8_count 210 x) I L c t (N + 400) := by
  obtain ⟨s, h, kp, tx, row, cs, w, v, g⟩ := q
  have hN9 : N < 900000000 := by omega
  have hN8 : N < 899999000 := by omega
  exact st_go w v (g.up (by omega)) (fun w => ⟨I, L, x7_count w g.1 hN9 x, w, Fw.rfl I⟩) (fun _ _ v => ex_L (y8_count v g.1 hN9 x))
end Z1

/-! THE LAW'S LOOP -/
section Z3
variable {I I' : Nat → Nat → Int32} {L L' : Nat → Nat → Int64} {c t N : Nat} {xs : List Int32}
def Fz9 (o : Option qR) : Prop := ∃ r, o = some r ∧ r.2.2.2.2.2.2.1 ≤ 601024 ∧ r.2.2.2.2.2.2.2 ≤ 7293033
theorem fz_if {p : Prop} [Decidable p] {A B : Option qR} (hA : p → Fz9 A) (hB : ¬ p → Fz9 B) : Fz9 (if p then A else B) := by
  by_cases e : p
  · rw [if_pos e]; exact hA e
  · rw [if_neg e]; exact hB e
/-- whatever the next round meets, it comes to its end -/
def Gz9 (K : qM → Option qR) (c t N : Nat) : Prop := ∀ I' L' c' t', c' ≤ c + 1 → t' ≤ t + 6 → Ws N I' L' → Fz9 (K (mk I' L' c' t'))
theorem Ws.up {N' : Nat} (w : Ws N I L) (h : N ≤ N') : Ws N' I L := by
  obtain ⟨s, h9, kp, tx, row, cs, w1, w2, g⟩ := w
  exact ⟨s, h9, kp, tx, row, cs, w1, w2, g.up h⟩
theorem br0 {F7 F8 : qM → Option qR} {K : qM → Option qR} (hs : Z7q (F7) (F8) I L c t N) (hk : Gz9 K c t N) : Fz9 (qbnd (F7 (mk I L c t)) fun r3 => qbnd (F8 r3.2.2) fun r5 => if r3.1 = r5.1 then K r5.2.2 else if (0 : Int32) = 1 then some (1, 0, r5.2.2) else none) := by
  obtain ⟨a, μ1, I', L', e1, e2, w⟩ := hs
  rw [e1, qbnd_s]
  dsimp only
  rw [e2, qbnd_s]
  dsimp only
  rw [if_pos rfl]
  exact hk I' L' c t (by omega) (by omega) w
theorem br1 {F7 F8 : Int32 → qM → Option qR} {K : qM → Option qR} {R1 : Option Int32} {v1 : Int32} (hr1 : R1 = some v1) (hs : Z7q (F7 v1) (F8 v1) I L c t N) (hk : Gz9 K c t N) : Fz9 (qbnd R1 fun v1 => qbnd (F7 v1 (mk I L c t)) fun r3 => qbnd R1 fun v1 => qbnd (F8 v1 r3.2.2) fun r5 => if r3.1 = r5.1 then K r5.2.2 else if (0 : Int32) = 1 then some (1, 0, r5.2.2) else none) := by
  subst hr1
  obtain ⟨a, μ1, I', L', e1, e2, w⟩ := hs
  rw [qbnd_s, e1, qbnd_s, qbnd_s]
  dsimp only
  rw [e2, qbnd_s]
  dsimp only
  rw [if_pos rfl]
  exact hk I' L' c t (by omega) (by omega) w
theorem br2 {F7 F8 : Int32 → Int32 → qM → Option qR} {K : qM → Option qR} {R1 : Option Int32} {v1 : Int32} {R2 : Option Int32} {v2 : Int32} (hr1 : R1 = some v1) (hr2 : R2 = some v2) (hs : Z7q (F7 v1 v2) (F8 v1 v2) I L c t N) (hk : Gz9 K c t N) : Fz9 (qbnd R1 fun v1 => qbnd R2 fun v2 => qbnd (F7 v1 v2 (mk I L c t)) fun r3 => qbnd R1 fun v1 => qbnd R2 fun v2 => qbnd (F8 v1 v2 r3.2.2) fun r5 => if r3.1 = r5.1 then K r5.2.2 else if (0 : Int32) = 1 then some (1, 0, r5.2.2) else none) := by
  subst hr1
  subst hr2
  obtain ⟨a, μ1, I', L', e1, e2, w⟩ := hs
  rw [qbnd_s, qbnd_s, e1, qbnd_s, qbnd_s, qbnd_s]
  dsimp only
  rw [e2, qbnd_s]
  dsimp only
  rw [if_pos rfl]
  exact hk I' L' c t (by omega) (by omega) w
theorem br3 {F7 F8 : Int32 → Int32 → Int32 → qM → Option qR} {K : qM → Option qR} {R1 : Option Int32} {v1 : Int32} {R2 : Option Int32} {v2 : Int32} {R3 : Option Int32} {v3 : Int32} (hr1 : R1 = some v1) (hr2 : R2 = some v2) (hr3 : R3 = some v3) (hs : Z7q (F7 v1 v2 v3) (F8 v1 v2 v3) I L c t N) (hk : Gz9 K c t N) : Fz9 (qbnd R1 fun v1 => qbnd R2 fun v2 => qbnd R3 fun v3 => qbnd (F7 v1 v2 v3 (mk I L c t)) fun r3 => qbnd R1 fun v1 => qbnd R2 fun v2 => qbnd R3 fun v3 => qbnd (F8 v1 v2 v3 r3.2.2) fun r5 => if r3.1 = r5.1 then K r5.2.2 else if (0 : Int32) = 1 then some (1, 0, r5.2.2) else none) := by
  subst hr1
  subst hr2
  subst hr3
  obtain ⟨a, μ1, I', L', e1, e2, w⟩ := hs
  rw [qbnd_s, qbnd_s, qbnd_s, e1, qbnd_s, qbnd_s, qbnd_s, qbnd_s]
  dsimp only
  rw [e2, qbnd_s]
  dsimp only
  rw [if_pos rfl]
  exact hk I' L' c t (by omega) (by omega) w
theorem bt1 {F7 F8 : Int32 → qM → Option qR} {vf : qR → Int64} {K : qM → Option qR} {R1 : Option Int32} {v1 : Int32} (hr1 : R1 = some v1) (hs : Z7t (F7 v1) (F8 v1) vf I L c t N) (hk : Gz9 K c t N) : Fz9 (qbnd R1 fun v1 => qbnd (F7 v1 (mk I L c t)) fun r3 => qbnd R1 fun v1 => qbnd (F8 v1 r3.2.2) fun r5 => qbnd (fX8_thrown 210 r5.2.2) fun r6 => if r6.1 = r3.1 then (if r3.1 = 0 then qbnd (oLdL r6.2.2 229 (0 : Int32)) fun v9 => if lg_cmp v9 (vf r5) = 0 then K r6.2.2 else if (0 : Int32) = 1 then some (1, 0, r6.2.2) else none else K r6.2.2) else if (0 : Int32) = 1 then some (1, 0, r6.2.2) else none) := by
  subst hr1
  obtain ⟨b, v7, μ1, r8, I', L', c', t', e1, e2, e3, e4, e5, e6, e7, w⟩ := hs
  rw [qbnd_s, e1, qbnd_s, qbnd_s]
  dsimp only
  rw [e2, qbnd_s, e3, e4, qbnd_s]
  dsimp only
  rw [if_pos rfl]
  by_cases e : b = 0
  · rw [if_pos e, e5 e, qbnd_s, if_pos (Eq.mpr (lg_eq _ _) rfl)]
    exact hk I' L' c' t' e6 e7 w
  · rw [if_neg e]
    exact hk I' L' c' t' e6 e7 w
theorem bt2 {F7 F8 : Int32 → Int32 → qM → Option qR} {vf : qR → Int64} {K : qM → Option qR} {R1 : Option Int32} {v1 : Int32} {R2 : Option Int32} {v2 : Int32} (hr1 : R1 = some v1) (hr2 : R2 = some v2) (hs : Z7t (F7 v1 v2) (F8 v1 v2) vf I L c t N) (hk : Gz9 K c t N) : Fz9 (qbnd R1 fun v1 => qbnd R2 fun v2 => qbnd (F7 v1 v2 (mk I L c t)) fun r3 => qbnd R1 fun v1 => qbnd R2 fun v2 => qbnd (F8 v1 v2 r3.2.2) fun r5 => qbnd (fX8_thrown 210 r5.2.2) fun r6 => if r6.1 = r3.1 then (if r3.1 = 0 then qbnd (oLdL r6.2.2 229 (0 : Int32)) fun v9 => if lg_cmp v9 (vf r5) = 0 then K r6.2.2 else if (0 : Int32) = 1 then some (1, 0, r6.2.2) else none else K r6.2.2) else if (0 : Int32) = 1 then some (1, 0, r6.2.2) else none) := by
  subst hr1
  subst hr2
  obtain ⟨b, v7, μ1, r8, I', L', c', t', e1, e2, e3, e4, e5, e6, e7, w⟩ := hs
  rw [qbnd_s, qbnd_s, e1, qbnd_s, qbnd_s, qbnd_s]
  dsimp only
  rw [e2, qbnd_s, e3, e4, qbnd_s]
  dsimp only
  rw [if_pos rfl]
  by_cases e : b = 0
  · rw [if_pos e, e5 e, qbnd_s, if_pos (Eq.mpr (lg_eq _ _) rfl)]
    exact hk I' L' c' t' e6 e7 w
  · rw [if_neg e]
    exact hk I' L' c' t' e6 e7 w
theorem lld_ok {k : Nat} (hk : k < xs.length) (h : xs.length < 2147483648) : lld xs (n2 k) = some (xs.getD k 0) := by
  unfold lld
  rw [if_pos (n2_out hk h), n2_cl (by omega)]
set_option maxRecDepth 100000 in
theorem lw_step {n j : Nat} (w : Ws N I L) (hN : N < 898000000) (hj : 4 * j + 4 ≤ xs.length) (hl : xs.length ≤ 2048) (hk : Gz9 (fL_law_13 xs n 1 210 229 (n2 (4 * j) + 4)) c t (N + 400)) (hnot : ¬ (Int32.ofNat xs.length - (4 : Int32)) < n2 (4 * j)) : Fz9 (fL_law_13 xs (n + 1) 1 210 229 (n2 (4 * j)) (mk I L c t)) := by
  have hN9 : N + 400 < 899000000 := by omega
  have h0 := lld_ok (xs := xs) (show 4 * j < xs.length by omega) (by omega)
  have h1 : lld xs (n2 (4 * j) + (1 : Int32)) = some (xs.getD (4 * j + 1) 0) := by
    rw [l_1, n2_add]
    exact lld_ok (show 4 * j + 1 < xs.length by omega) (by omega)
  have h2 : lld xs (n2 (4 * j) + (2 : Int32)) = some (xs.getD (4 * j + 2) 0) := by
    rw [l_2, n2_add]
    exact lld_ok (show 4 * j + 2 < xs.length by omega) (by omega)
  have h3 : lld xs (n2 (4 * j) + (3 : Int32)) = some (xs.getD (4 * j + 3) 0) := by
    rw [l_3, n2_add]
    exact lld_ok (show 4 * j + 3 < xs.length by omega) (by omega)
  generalize xs.getD (4 * j) 0 = v0 at h0
  generalize xs.getD (4 * j + 1) 0 = v1 at h1
  generalize xs.getD (4 * j + 2) 0 = v2 at h2
  generalize xs.getD (4 * j + 3) 0 = v3 at h3
  have hN0 : N < 899000000 := by omega
  have w1 : Ws (N + 400) I L := w.up (by omega)
  have hN1 := hN9
  have hN := hN0
  unfold fL_law_13
  rw [if_neg hnot, h0, qbnd_s]
  refine fz_if (fun _ => br1 (F7 := fX7_sign 1) (F8 := fX8_sign 210) (K := fL_law_13 xs n 1 210 229 (n2 (4 * j) + 4)) h1 (sp_sign w hN v1) hk) (fun _ => ?_)
  refine fz_if (fun _ => br1 (F7 := fX7_end 1) (F8 := fX8_end 210) (K := fL_law_13 xs n 1 210 229 (n2 (4 * j) + 4)) h1 (sp_end w hN v1) hk) (fun _ => ?_)
  refine fz_if (fun _ => br0 (F7 := fX7_rule 1) (F8 := fX8_rule 210) (K := fL_law_13 xs n 1 210 229 (n2 (4 * j) + 4)) (sp_rule w hN) hk) (fun _ => ?_)
  refine fz_if (fun _ => br2 (F7 := fX7_modes 1) (F8 := fX8_modes 210) (K := fL_law_13 xs n 1 210 229 (n2 (4 * j) + 4)) h1 h2 (sp_modes w hN v1 v2) hk) (fun _ => ?_)
  refine fz_if (fun _ => br0 (F7 := fX7_named 1) (F8 := fX8_named 210) (K := fL_law_13 xs n 1 210 229 (n2 (4 * j) + 4)) (sp_named w hN) hk) (fun _ => ?_)
  refine fz_if (fun _ => bt2 (F7 := fun a b μ => lwf0 1 a b 229 μ) (F8 := fX8_owner 210) (vf := fun r => r.1.toInt64) (K := fL_law_13 xs n 1 210 229 (n2 (4 * j) + 4)) h1 h2 (sp_owner w1 hN1 v1 v2) hk) (fun _ => ?_)
  refine fz_if (fun _ => bt2 (F7 := fun a b μ => lwf1 1 a b 229 μ) (F8 := fX8_held_ 210) (vf := fun r => r.1.toInt64) (K := fL_law_13 xs n 1 210 229 (n2 (4 * j) + 4)) h1 h2 (sp_held w1 v1 v2) hk) (fun _ => ?_)
  refine fz_if (fun _ => br1 (F7 := fX7_begins 1) (F8 := fX8_begins 210) (K := fL_law_13 xs n 1 210 229 (n2 (4 * j) + 4)) h1 (sp_begins w hN v1) hk) (fun _ => ?_)
  refine fz_if (fun _ => br2 (F7 := fX7_works 1) (F8 := fX8_works 210) (K := fL_law_13 xs n 1 210 229 (n2 (4 * j) + 4)) h1 h2 (sp_works w hN v1 v2) hk) (fun _ => ?_)
  refine fz_if (fun _ => br3 (F7 := fX7_locks 1) (F8 := fX8_locks 210) (K := fL_law_13 xs n 1 210 229 (n2 (4 * j) + 4)) h1 h2 h3 (sp_locks w hN v1 v2 v3) hk) (fun _ => ?_)
  refine fz_if (fun _ => br2 (F7 := fX7_unlocks 1) (F8 := fX8_unlocks 210) (K := fL_law_13 xs n 1 210 229 (n2 (4 * j) + 4)) h1 h2 (sp_unlocks w hN v1 v2) hk) (fun _ => ?_)
  refine fz_if (fun _ => br1 (F7 := fX7_ends 1) (F8 := fX8_ends 210) (K := fL_law_13 xs n 1 210 229 (n2 (4 * j) + 4)) h1 (sp_ends w hN v1) hk) (fun _ => ?_)
  refine fz_if (fun _ => br2 (F7 := fX7_gathers 1) (F8 := fX8_gathers 210) (K := fL_law_13 xs n 1 210 229 (n2 (4 * j) + 4)) h1 h2 (sp_gathers w hN v1 v2) hk) (fun _ => ?_)
  refine fz_if (fun _ => br1 (F7 := fX7_bulk 1) (F8 := fX8_bulk 210) (K := fL_law_13 xs n 1 210 229 (n2 (4 * j) + 4)) h1 (sp_bulk w hN v1) hk) (fun _ => ?_)
  refine fz_if (fun _ => br0 (F7 := fX7_fells 1) (F8 := fX8_fells 210) (K := fL_law_13 xs n 1 210 229 (n2 (4 * j) + 4)) (sp_fells w hN) hk) (fun _ => ?_)
  refine fz_if (fun _ => br0 (F7 := fX7_day 1) (F8 := fX8_day 210) (K := fL_law_13 xs n 1 210 229 (n2 (4 * j) + 4)) (sp_day w hN) hk) (fun _ => ?_)
  refine fz_if (fun _ => br0 (F7 := fX7_undo 1) (F8 := fX8_undo 210) (K := fL_law_13 xs n 1 210 229 (n2 (4 * j) + 4)) (sp_undo w hN) hk) (fun _ => ?_)
  refine fz_if (fun _ => br1 (F7 := fX7_holders 1) (F8 := fX8_holders 210) (K := fL_law_13 xs n 1 210 229 (n2 (4 * j) + 4)) h1 (sp_holders w hN v1) hk) (fun _ => ?_)
  refine fz_if (fun _ => br1 (F7 := fX7_queue 1) (F8 := fX8_queue 210) (K := fL_law_13 xs n 1 210 229 (n2 (4 * j) + 4)) h1 (sp_queue w hN v1) hk) (fun _ => ?_)
  refine fz_if (fun _ => br1 (F7 := fX7_waits 1) (F8 := fX8_waits 210) (K := fL_law_13 xs n 1 210 229 (n2 (4 * j) + 4)) h1 (sp_waits w hN v1) hk) (fun _ => ?_)
  refine fz_if (fun _ => br2 (F7 := fX7_covers 1) (F8 := fX8_covers 210) (K := fL_law_13 xs n 1 210 229 (n2 (4 * j) + 4)) h1 h2 (sp_covers w hN v1 v2) hk) (fun _ => ?_)
  refine fz_if (fun _ => br3 (F7 := fX7_may 1) (F8 := fX8_may 210) (K := fL_law_13 xs n 1 210 229 (n2 (4 * j) + 4)) h1 h2 h3 (sp_may w hN v1 v2 v3) hk) (fun _ => ?_)
  refine fz_if (fun _ => br3 (F7 := fX7_free 1) (F8 := fX8_free 210) (K := fL_law_13 xs n 1 210 229 (n2 (4 * j) + 4)) h1 h2 h3 (sp_free w hN v1 v2 v3) hk) (fun _ => ?_)
  refine fz_if (fun _ => br1 (F7 := fX7_behind 1) (F8 := fX8_behind 210) (K := fL_law_13 xs n 1 210 229 (n2 (4 * j) + 4)) h1 (sp_behind w hN v1) hk) (fun _ => ?_)
  refine fz_if (fun _ => br1 (F7 := fX7_stops 1) (F8 := fX8_stops 210) (K := fL_law_13 xs n 1 210 229 (n2 (4 * j) + 4)) h1 (sp_stops w hN v1) hk) (fun _ => ?_)
  refine fz_if (fun _ => br0 (F7 := fX7_rings 1) (F8 := fX8_rings 210) (K := fL_law_13 xs n 1 210 229 (n2 (4 * j) + 4)) (sp_rings w hN) hk) (fun _ => ?_)
  refine fz_if (fun _ => br1 (F7 := fX7_ring 1) (F8 := fX8_ring 210) (K := fL_law_13 xs n 1 210 229 (n2 (4 * j) + 4)) h1 (sp_ring w hN v1) hk) (fun _ => ?_)
  refine fz_if (fun _ => br0 (F7 := fX7_victim 1) (F8 := fX8_victim 210) (K := fL_law_13 xs n 1 210 229 (n2 (4 * j) + 4)) (sp_victim w hN) hk) (fun _ => ?_)
  refine fz_if (fun _ => br1 (F7 := fX7_frees 1) (F8 := fX8_frees 210) (K := fL_law_13 xs n 1 210 229 (n2 (4 * j) + 4)) h1 (sp_frees w hN v1) hk) (fun _ => ?_)
  refine fz_if (fun _ => br0 (F7 := fX7_drains 1) (F8 := fX8_drains 210) (K := fL_law_13 xs n 1 210 229 (n2 (4 * j) + 4)) (sp_drains w hN) hk) (fun _ => ?_)
  refine fz_if (fun _ => br2 (F7 := fX7_saves 1) (F8 := fX8_saves 210) (K := fL_law_13 xs n 1 210 229 (n2 (4 * j) + 4)) h1 h2 (sp_saves w hN v1 v2) hk) (fun _ => ?_)
  refine fz_if (fun _ => br2 (F7 := fX7_holds 1) (F8 := fX8_holds 210) (K := fL_law_13 xs n 1 210 229 (n2 (4 * j) + 4)) h1 h2 (sp_holds w hN v1 v2) hk) (fun _ => ?_)
  refine fz_if (fun _ => br2 (F7 := fX7_common 1) (F8 := fX8_common 210) (K := fL_law_13 xs n 1 210 229 (n2 (4 * j) + 4)) h1 h2 (sp_common w hN v1 v2) hk) (fun _ => ?_)
  refine fz_if (fun _ => br0 (F7 := fX7_queues 1) (F8 := fX8_queues 210) (K := fL_law_13 xs n 1 210 229 (n2 (4 * j) + 4)) (sp_queues w hN) hk) (fun _ => ?_)
  refine fz_if (fun _ => br0 (F7 := fX7_sum 1) (F8 := fX8_sum 210) (K := fL_law_13 xs n 1 210 229 (n2 (4 * j) + 4)) (sp_sum w hN) hk) (fun _ => ?_)
  refine fz_if (fun _ => br0 (F7 := fX7_law 1) (F8 := fX8_law 210) (K := fL_law_13 xs n 1 210 229 (n2 (4 * j) + 4)) (sp_law w hN) hk) (fun _ => ?_)
  refine fz_if (fun _ => br2 (F7 := fX7_years 1) (F8 := fX8_years 210) (K := fL_law_13 xs n 1 210 229 (n2 (4 * j) + 4)) h1 h2 (sp_years w hN v1 v2) hk) (fun _ => ?_)
  refine fz_if (fun _ => br1 (F7 := fX7_keep 1) (F8 := fX8_keep 210) (K := fL_law_13 xs n 1 210 229 (n2 (4 * j) + 4)) h1 (sp_keep w hN v1) hk) (fun _ => ?_)
  refine fz_if (fun _ => br1 (F7 := fX7_again 1) (F8 := fX8_again 210) (K := fL_law_13 xs n 1 210 229 (n2 (4 * j) + 4)) h1 (sp_again w hN v1) hk) (fun _ => ?_)
  refine fz_if (fun _ => br1 (F7 := fX7_count 1) (F8 := fX8_count 210) (K := fL_law_13 xs n 1 210 229 (n2 (4 * j) + 4)) h1 (sp_count w hN v1) hk) (fun _ => ?_)
  refine fz_if (fun _ => bt1 (F7 := fun a μ => lwf2 1 a 229 μ) (F8 := fX8_row 210) (vf := fun r => r.2.1) (K := fL_law_13 xs n 1 210 229 (n2 (4 * j) + 4)) h1 (sp_row w1 v1) hk) (fun _ => ?_)
  exact hk I L c t (by omega) (by omega) w1
end Z3

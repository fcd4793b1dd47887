/-! ===== calls: acts, segments, entries, edition, notices ===== -/
theorem op_18 {i : Nat} {X Y : JX} (h : Rel i X Y) : OpSim (Rel (i + 5)) X Y 18 := by
  have h' := (h.mono (show i ≤ i + 5 by omega)).thr (s := 0)
  obtain ⟨M, R, A, P, S, -, -, -, ⟨h9, h10⟩, -⟩ := h
  refine ⟨Y 0 30, thr Y 0, ?_, rfl, h'⟩
  show some (X 45 3) = some (Y 0 30)
  rw [h10.1, h9.1.2]
theorem op_23 {i : Nat} {X Y : JX} (h : Rel i X Y) : OpSim (Rel (i + 5)) X Y 23 := by
  have h' := (h.mono (show i ≤ i + 5 by omega)).thr (s := 0)
  obtain ⟨M, R, A, P, S, -, -, -, -, ⟨h11, h12, -⟩, -⟩ := h
  refine ⟨Y 0 41, thr Y 0, ?_, rfl, h'⟩
  show some (X 49 3) = some (Y 0 41)
  rw [h12.1, h11.1.2]
theorem x_entries_loop {X : JX} : ∀ m i F c, i + m = 60 → m + 1 ≤ F → loop2 (lb_X2_count_4 X) F (nI c) (nI i) = some (nI (c + cnt (fun n => decide (X 36 n ≠ 0)) m i)) := by
  intro m
  induction m with
  | zero =>
    intro i F c hi hF
    obtain ⟨F', rfl⟩ := Nat.exists_eq_add_of_le' hF
    have : i = 60 := by omega
    subst this
    rw [zl2]
    generalize hR9 : loop2 _ F' = R9
    unfold lb_X2_count_4
    rw [if_pos g60]
    rfl
  | succ m ih =>
    intro i F c hi hF
    obtain ⟨F', rfl⟩ := Nat.exists_eq_add_of_le' (show 1 ≤ F by omega)
    rw [zl2]
    have h9 := fun c => ih (i + 1) F' c (by omega) (by omega)
    generalize hR9 : loop2 _ F' = R9 at h9
    have hi60 : i < 60 := by omega
    unfold lb_X2_count_4 b_X2_count_22
    rw [if_neg (nl60 hi60), if_pos (n_ok60 hi60), nI_clamp (sm hi60), dV_eq, dV_eq, dV_eq, n_add1, n_add1, cnt_s]
    by_cases e : X 36 i = 0
    · rw [if_pos e, h9 c]; simp [e]
    · rw [if_neg e, h9 (c + 1)]; simp [e, Nat.add_assoc]
theorem y_entries_loop {Y : JX} {M : Nat} (hT : TY Y M) : ∀ m i F c, i + m = M → m + 1 ≤ F → loop2 (lb_X11_entries_9 Y) F (nI c) (nI i) = some (nI (c + cnt (fun n => decide (Y 19 n ≠ 0)) m i), Y) := by
  intro m
  induction m with
  | zero =>
    intro i F c hi hF
    obtain ⟨F', rfl⟩ := Nat.exists_eq_add_of_le' hF
    rw [zl2]
    generalize hR9 : loop2 _ F' = R9
    unfold lb_X11_entries_9
    have := hT.1.2.1
    rw [if_pos (show Y 0 2 ≤ nI i by rw [hT.1.2.2]; exact nI_le (by omega) (by omega))]
    rfl
  | succ m ih =>
    intro i F c hi hF
    obtain ⟨F', rfl⟩ := Nat.exists_eq_add_of_le' (show 1 ≤ F by omega)
    rw [zl2]
    have h9 := fun c => ih (i + 1) F' c (by omega) (by omega)
    generalize hR9 : loop2 _ F' = R9 at h9
    have hM := hT.1.2.1
    have hi60 : i < 60 := by omega
    unfold lb_X11_entries_9 b_X11_entries_32
    rw [if_neg (show ¬ Y 0 2 ≤ nI i by rw [hT.1.2.2]; exact nI_ge (by omega) (by omega)), if_pos (n_ok60 hi60), nI_clamp (sm hi60), dV_eq, dV_eq, dV_eq, dV_eq, n_add1, n_add1, cnt_s, Int32.add_zero]
    by_cases e : Y 19 i = 0
    · rw [if_pos e, h9 c]; simp [e]
    · rw [if_neg e, h9 (c + 1)]; simp [e, Nat.add_assoc]
theorem op_20 {i : Nat} {X Y : JX} (h : Rel i X Y) : OpSim (Rel (i + 5)) X Y 20 := by
  have h' := (h.mono (show i ≤ i + 5 by omega)).thr (s := 0)
  obtain ⟨M, R, A, P, S, ⟨h1, h2, h3⟩, -, ⟨h7, h8⟩, -⟩ := h
  have hM := h1.1.2.1
  have e1 : f_X10_entries X = some (nI (cnt (fun n => decide (Y 19 n ≠ 0)) M 0)) := by
    have hl := x_entries_loop (X := X) 60 0 1000 0 rfl (by decide)
    rw [Nat.zero_add] at hl
    have h9 : f_X2_count X = some (nI (cnt (fun n => decide (X 36 n ≠ 0)) 60 0)) := hl
    unfold f_X10_entries
    rw [h9, bd_some]
    rw [cnt_congr (q := fun n => decide (Y 19 n ≠ 0)) 60 0 (fun j _ hj => by rw [(h7 j (by omega)).1])]
    rw [cnt_60 hM (fun n hn hn6 => by
      by_cases e : Y 19 n = 0
      · simp [e]
      · exact absurd ((h8 n hn6).1 e).1 (by omega))]
  have e2 : f_X11_entries Y = some (nI (cnt (fun n => decide (Y 19 n ≠ 0)) M 0), thr Y 0) := by
    unfold f_X11_entries
    rw [dX_eq]
    have := y_entries_loop (Y := thr Y 0) (M := M) h1 M 0 1000 0 (Nat.zero_add _) (by omega)
    rw [Nat.zero_add] at this
    exact this
  exact ⟨_, _, e1, e2, h'⟩
theorem x_has {X : JX} {n : Nat} (h : n < 60) : f_X2_has X (nI n) = some (bo (X 36 n ≠ 0)) := by
  by_cases h5 : X 36 n = 0 <;> simp [f_X2_has, n_neg (sm h), lt60 h, n_ok h, nI_clamp (sm h), h5, bo]
theorem op_21 {i : Nat} {X Y : JX} (h : Rel i X Y) : OpSim (Rel (i + 5)) X Y 21 := by
  intro v
  have h0 := fun s => (h.mono (show i ≤ i + 5 by omega)).thr (s := s)
  obtain ⟨M, R, A, P, S, ⟨h1, h2, h3⟩, -, ⟨h7, h8⟩, -⟩ := h
  have hM := h1.1.2.1
  by_cases c : ∃ n, n < M ∧ v = nI n
  · have hin := y_inM h1 v
    rw [bo_t c] at hin
    obtain ⟨n, hn, rfl⟩ := c
    have hn6 : n < 60 := by omega
    have xm : f_X9_wasMade X (nI n) = some 1 := by
      unfold f_X9_wasMade
      rw [if_neg (nI_pos (sm hn6)), if_neg (by rw [h2.1, h1.1.2.2]; exact nI_ge hn (by omega))]
    have xe : f_X2_editionOf X (nI n) = some (if Y 19 n = 0 then -1 else Y 22 n) := by
      unfold f_X2_editionOf
      rw [x_has hn6, bd_some, (h7 n hn6).1]
      by_cases e : Y 19 n = 0
      · rw [bo_f (fun q => q e), if_pos rfl, if_pos e]
      · rw [bo_t e, if_neg one0, if_pos (n_ok60 hn6), nI_clamp (sm hn6), (h7 n hn6).2.2.2.1, if_neg e]
    refine ⟨none, (if Y 19 n = 0 then -1 else Y 22 n), X, (if Y 19 n = 0 then -1 else Y 22 n), thr Y 0, ?_, ?_, rfl, fun _ => rfl, h0 0⟩
    · unfold f_X10_edition
      rw [xm, bd_some, if_pos one0, xe, bd_some]
    · unfold f_X11_edition b_X11_edition_20
      rw [hin, bd_some, if_neg one0, dX_eq, if_pos (show (thr Y 0) 0 0 ≤ 0 from Int32.le_refl 0), if_pos (n_ok60 hn6), if_pos (n_ok60 hn6), nI_clamp (sm hn6)]
      by_cases e : Y 19 n = 0
      · rw [if_pos e, if_pos (show (thr Y 0) 19 n = 0 from e)]
      · rw [if_neg e, if_neg (show ¬ (thr Y 0) 19 n = 0 from e)]; rfl
  · refine ⟨some 1, 0, X, 0, thr Y 1, ?_, ?_, rfl, (fun q => by cases q), h0 1⟩
    · unfold f_X10_edition f_X9_wasMade
      by_cases c1 : v < 0
      · rw [if_pos c1]; rfl
      · obtain ⟨j, hj, rfl⟩ := nI_of c1
        rw [if_neg c1, if_pos (by rw [h2.1, h1.1.2.2]; exact nI_le (Nat.le_of_not_lt (fun q => c ⟨j, q, rfl⟩)) hj)]; rfl
    · unfold f_X11_edition b_X11_edition_20
      rw [y_inM h1, bd_some, bo_f c, if_pos rfl, dX_eq, if_neg (show ¬ (thr Y 1) 0 0 ≤ 0 from (by decide : ¬ (1 : Int32) ≤ 0))]
theorem op_10 {i : Nat} {X Y : JX} (h : Rel i X Y) : OpSim (Rel (i + 5)) X Y 10 := by
  intro v
  have h0 := fun s => (h.mono (show i ≤ i + 5 by omega)).thr (s := s)
  obtain ⟨M, R, A, P, S, ⟨h1, h2, h3⟩, ⟨h4, h5, h6⟩, -⟩ := h
  have hM := h1.1.2.1
  cases e : ro Y R v with
  | some r =>
    obtain ⟨hr, er⟩ := ro_lt e
    have hR := h4.1.1
    obtain ⟨rf60, rfe, rft, rff⟩ := h4.2.1 r hr
    have hc : ∃ n, n < M ∧ v = nI n := ⟨rf Y r, h1.2.2.1 _ rf60 rft, by rw [← er, rfe]⟩
    obtain ⟨q4, q5, -⟩ := (h6 r hr).1
    refine ⟨none, (if Y 14 r = 0 then Y 11 r else -1), X, (if Y 14 r = 0 then Y 11 r else -1), thr Y 0, ?_, ?_, rfl, fun _ => rfl, h0 0⟩
    · unfold f_X10_notices f_X7_countOrFlood
      rw [x_find h5 h4, bd_some, e, Option.map_some, oC_some, if_pos (h5.1.1 r (by omega)), q4, q5]
      by_cases e5 : Y 14 r = 0
      · rw [if_pos e5, if_pos e5, bd_some]
      · rw [if_neg e5, if_neg e5, bd_some]
    · unfold f_X11_notices b_X11_notices_23 b_X11_notices_35
      rw [y_inM h1, bd_some, bo_t hc, if_neg one0, y_rootAt h4, bd_some, e, show enc (some r) = nI r from rfl, if_pos (nm1 (show r < 2 ^ 31 by omega)), dX_eq, if_pos (show (thr Y 0) 0 0 ≤ 0 from Int32.le_refl 0), if_pos (n_ok4 (by omega)), if_pos (n_ok4 (by omega)), nI_clamp (show r < 2 ^ 31 by omega)]
      by_cases e5 : Y 14 r = 0
      · rw [if_pos e5, if_pos (show (thr Y 0) 14 r = 0 from e5)]; rfl
      · rw [if_neg e5, if_neg (show ¬ (thr Y 0) 14 r = 0 from e5)]
  | none =>
    refine ⟨some 1, 0, X, 0, thr Y 1, ?_, ?_, rfl, (fun q => by cases q), h0 1⟩
    · unfold f_X10_notices
      rw [x_find h5 h4, bd_some, e]
      rfl
    · have hb : b_X11_notices_23 Y (-1) = some (0, thr Y 1) := by
        unfold b_X11_notices_23 b_X11_notices_35
        rw [if_neg (fun q => q rfl), dX_eq, if_neg (show ¬ (thr Y 1) 0 0 ≤ 0 from (by decide : ¬ (1 : Int32) ≤ 0))]
      unfold f_X11_notices
      rw [y_inM h1, bd_some]
      by_cases hc : ∃ n, n < M ∧ v = nI n
      · rw [bo_t hc, if_neg one0, y_rootAt h4, bd_some, e]
        exact hb
      · rw [bo_f hc, if_pos rfl, hb]

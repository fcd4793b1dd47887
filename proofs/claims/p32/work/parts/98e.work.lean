/-! ===== call: work ===== -/
theorem op_16 {i : Nat} {X Y : JX} (h : Rel i X Y) (hi : i + 5 ≤ 2560) : OpSim (Rel (i + 5)) X Y 16 := by
  intro x
  by_cases c : ¬ x < 1 ∧ ¬ 500 < x
  · obtain ⟨c1, c2⟩ := c
    obtain ⟨M, R, A, P, S, ⟨h1, h2, h3⟩, ⟨h4, h5, h6⟩, ⟨h7, h8⟩, ⟨h9, h10⟩, ⟨h11, h12, h13⟩, ⟨s1, s2, s3, s4, s5⟩, ⟨t1, t2, ⟨mi, hh, q1, q2, q3, q4⟩, ⟨u, q5, q6⟩, t5⟩⟩ := h.mono (show i ≤ i + 5 by omega)
    obtain ⟨v, hv, rfl⟩ := nI_of2 (x := x) (n := 500) rfl (fun q => c1 (Int32.lt_trans q (by decide))) (Int32.not_lt.mp c2)
    have e60 : nI mi / 60 = nI (mi / 60) := pk_div (d := 60) (show mi < 2 ^ 31 by omega) (by decide) (by decide)
    -- what of the hour is done
    obtain ⟨u0, hu0, eu0⟩ : ∃ u0, u0 ≤ 20 ∧ X 0 8 = nI u0 := by
      rw [s5]
      by_cases q : Y 0 35 = Y 0 1 / 60
      · rw [if_pos q]; exact ⟨u, q5, q6⟩
      · rw [if_neg q]; exact ⟨0, by omega, rfl⟩
    let Ys : JX := pX (pX (thr Y 0) 0 (upd ((thr Y 0) 0) 36 (nI u0))) 0 (upd ((pX (thr Y 0) 0 (upd ((thr Y 0) 0) 36 (nI u0))) 0) 35 (Y 0 1 / 60))
    have hSY : SY Ys := ⟨t1, t2, ⟨mi, mi / 60, q1, q2, by show Y 0 1 / 60 = _; rw [q2, e60], Nat.le_refl _⟩, ⟨u0, hu0, rfl⟩, t5⟩
    have hrun := fun m (hm : m ≤ 500) => c_run (Xs := X) (Ys := Ys) (M := M) (R := R) (A := A) (P := P) (S := S) (i := i + 5) ⟨h1, h2.fr rfl eqC.rf eqC.rf rfl (((eqC.rf.p (by omega)).p (by omega)).p (by omega)), h3⟩ ⟨h4, h5.fr h4.1.1 eqC.rf rfl, h6.fr h4.1.1 h5.1 eqC.rf (((eqC.rf.p (by omega)).p (by omega)).p (by omega))⟩ ⟨h7.fr eqC.rf eqC.rf (((eqC.rf.p (by omega)).p (by omega)).p (by omega)) rfl, h8⟩ ⟨h9, h10⟩ ⟨h11, h12, h13⟩ s1 s2 hSY hi hm
    have ys0 : ∀ j, j ≠ 0 → j ≠ 36 → j ≠ 35 → Ys 0 j = Y 0 j := fun j a b c => (u_at _ _ _ _).trans ((if_neg c).trans ((u_at _ _ _ _).trans ((if_neg b).trans ((u_at _ _ _ _).trans (if_neg a)))))
    -- the reference's head
    have ye : f_X11_work Y (nI v) = if Ys 0 34 = 0 then b_X11_work_95 Ys (nI v) else if nI v ≤ 20 - Ys 0 36 then b_X11_work_95 Ys (nI v) else b_X11_work_95 Ys (20 - Ys 0 36) := by
      unfold f_X11_work b_X11_work_17
      rw [y_in, bd_some, bo_t ⟨c1, c2⟩, if_neg one0, dX_eq]
      rw [if_pos (show (thr Y 0) 0 0 ≤ 0 from Int32.le_refl 0)]
      have g35 : (thr Y 0) 0 35 = Y 0 35 := rfl
      have g1 : (thr Y 0) 0 1 = Y 0 1 := rfl
      have g36 : (thr Y 0) 0 36 = Y 0 36 := rfl
      have key : (if ¬ (thr Y 0) 0 35 = (thr Y 0) 0 1 / 60 then b_X11_work_52 (thr Y 0) (nI v) 0 else b_X11_work_52 (thr Y 0) (nI v) ((thr Y 0) 0 36)) = b_X11_work_52 (thr Y 0) (nI v) (nI u0) := by
        rw [g35, g1, g36]
        by_cases q : Y 0 35 = Y 0 1 / 60
        · rw [if_pos q] at s5
          rw [if_neg (fun z => z q), ← s5, eu0]
        · rw [if_neg q] at s5
          rw [if_pos q, ← s5, eu0]
      refine key.trans ?_
      unfold b_X11_work_52
      rw [dX_eq, dX_eq]
      rfl
    have f34 : Ys 0 34 = X 0 7 := by rw [ys0 34 (by omega) (by omega) (by omega), s4]
    have f36 : Ys 0 36 = nI u0 := rfl
    have e20 : (20 : Int32) - nI u0 = nI (20 - u0) := n_sub (a := 20) hu0
    have y95 : ∀ s, b_X11_work_95 Ys s = (f_X11_does Ys s).bind fun t5 => l_X11_work_105 s t5.2 0 t5.1 := fun _ => rfl
    -- the end of both, once steps are bounded by m
    have fin : ∀ m, m ≤ 500 → (¬ Ys 0 34 = 0 → m ≤ 20 - u0) → f_X10_work X (nI v) = (if ¬ (X 0 7) = 0 then (f_X4_doSteps X (nI m)).bind fun t1 => nX (pX t1.2 (0) (upd (t1.2 (0)) 8 ((t1.2 (0) 8) + t1.1))) fun X2 => some (none, t1.1, X2) else (f_X4_doSteps X (nI m)).bind fun t3 => some (none, t3.1, t3.2)) → f_X11_work Y (nI v) = b_X11_work_95 Ys (nI m) → SimT (Rel (i + 5)) [2] (f_X10_work X (nI v)) (f_X11_work Y (nI v)) := fun m hm hmu ex ey => by
      obtain ⟨X', Y', A', P', S', d, r1, r2, r3, r4, r5, r6, r7, r8, r9, r10, r11, r12, r13⟩ := hrun m hm
      have z1 : Y' 0 1 = Y 0 1 := (r5 1 (by omega) (by omega) (by omega) (by omega) (by omega)).trans (ys0 1 (by omega) (by omega) (by omega))
      have z35 : Y' 0 35 = Y 0 1 / 60 := r5 35 (by omega) (by omega) (by omega) (by omega) (by omega)
      have z34 : Y' 0 34 = Y 0 34 := (r5 34 (by omega) (by omega) (by omega) (by omega) (by omega)).trans (ys0 34 (by omega) (by omega) (by omega))
      have z28 : Y' 0 28 = Y 0 28 := (r5 28 (by omega) (by omega) (by omega) (by omega) (by omega)).trans (ys0 28 (by omega) (by omega) (by omega))
      have z29 : Y' 0 29 = Y 0 29 := (r5 29 (by omega) (by omega) (by omega) (by omega) (by omega)).trans (ys0 29 (by omega) (by omega) (by omega))
      have z0 : Y' 0 0 = 0 := (r5 0 (by omega) (by omega) (by omega) (by omega) (by omega)).trans rfl
      have sy : (∃ u, u ≤ 20 ∧ Y' 0 36 = nI u) → SY Y' := fun hu => by
        unfold SY
        rw [z28, z29, z1, z34, z35]
        exact ⟨t1, t2, ⟨mi, mi / 60, q1, q2, by rw [q2, e60], Nat.le_refl _⟩, hu, t5⟩
      by_cases hb : X 0 7 = 0
      · have h34 : Ys 0 34 = 0 := f34.trans hb
        rw [if_neg (fun z => z hb), r1, bd_some] at ex
        rw [h34, if_pos rfl, f36, Int32.add_zero] at r6
        refine ⟨none, nI d, X', nI d, Y', ex, ey.trans ((y95 _).trans r2), by rw [z0]; rfl, fun _ => rfl, M, R, A', P', S', r7, r8, r9, r10, r11, ⟨r12, r13, ?_, ?_, ?_⟩, sy ⟨u0, hu0, r6⟩⟩
        · rw [r4, z1]; exact s3
        · rw [r4, z34]; exact s4
        · rw [r4, z35, z1, if_pos rfl, r6]; exact eu0
      · have h34 : ¬ Ys 0 34 = 0 := fun z => hb (f34.symm.trans z)
        rw [if_pos hb, r1, bd_some, dX_eq] at ex
        rw [if_neg h34, f36, nI_add] at r6
        have hm2 := hmu h34
        refine ⟨none, nI d, _, nI d, Y', ex, ey.trans ((y95 _).trans r2), by rw [z0]; rfl, fun _ => rfl, M, R, A', P', S', ⟨r7.1, r7.2.1.fr rfl (eqC.rf.p (by omega)) (eqC.rf.p (by omega)) rfl eqC.rf, r7.2.2⟩, ⟨r8.1, r8.2.1.fr r8.1.1.1 (eqC.rf.p (by omega)) rfl, r8.2.2.fr r8.1.1.1 r8.2.1.1 (eqC.rf.p (by omega)) eqC.rf⟩, ⟨r9.1.fr (eqC.rf.p (by omega)) (eqC.rf.p (by omega)) eqC.rf rfl, r9.2⟩, r10, r11, ⟨r12, r13, ?_, ?_, ?_⟩, sy ⟨u0 + d, by omega, r6⟩⟩
        · show X' 0 6 = _
          rw [r4, z1]; exact s3
        · show X' 0 7 = _
          rw [r4, z34]; exact s4
        · show X' 0 8 + nI d = _
          rw [r4, z35, z1, if_pos rfl, r6, eu0, nI_add]
    have xe : f_X10_work X (nI v) = (if ¬ (X 0 7) = 0 then (f_X4_doSteps X (if (20 - X 0 8) < nI v then (20 - X 0 8) else nI v)).bind fun t1 => nX (pX t1.2 (0) (upd (t1.2 (0)) 8 ((t1.2 (0) 8) + t1.1))) fun X2 => some (none, t1.1, X2) else (f_X4_doSteps X (nI v)).bind fun t3 => some (none, t3.1, t3.2)) := by
      unfold f_X10_work
      rw [if_neg c1, if_pos (Int32.not_lt.mp c2)]
    by_cases hb : X 0 7 = 0
    · refine fin v hv (fun z => absurd (f34.trans hb) z) ?_ ?_
      · rw [xe, if_neg (fun z => z hb), if_neg (fun z => z hb)]
      · rw [ye, if_pos (f34.trans hb)]
    · have h34 : ¬ Ys 0 34 = 0 := fun z => hb (f34.symm.trans z)
      by_cases hmn : v ≤ 20 - u0
      · refine fin v hv (fun _ => hmn) ?_ ?_
        · rw [xe, if_pos hb, if_pos hb, eu0, e20, if_neg (show ¬ nI (20 - u0) < nI v from nI_nlt hmn (by omega))]
        · rw [ye, if_neg h34, f36, e20, if_pos (nI_le hmn (by omega))]
      · refine fin (20 - u0) (by omega) (fun _ => Nat.le_refl _) ?_ ?_
        · rw [xe, if_pos hb, if_pos hb, eu0, e20, if_pos (show nI (20 - u0) < nI v from nI_lt (by omega) (by omega))]
        · rw [ye, if_neg h34, f36, e20, if_neg (nI_ge (by omega) (by omega))]
  · have e1 : f_X10_work X x = some (some 2, 0, X) := by
      unfold f_X10_work b_X10_work_12
      by_cases c1 : x < 1
      · rw [if_pos c1]
      · rw [if_neg c1, if_neg (fun q => c ⟨c1, Int32.not_lt.mpr q⟩)]
    have e2 : f_X11_work Y x = some (0, thr Y 1) := by
      unfold f_X11_work b_X11_work_17
      rw [y_in, bd_some, bo_f c, if_pos rfl, dX_eq]
      exact if_neg (show ¬ (1 : Int32) ≤ 0 by decide)
    exact ⟨some 2, 0, X, 0, thr Y 1, e1, e2, rfl, (fun z => by cases z), (h.mono (by omega)).thr⟩

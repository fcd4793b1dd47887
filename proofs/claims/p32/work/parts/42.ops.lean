/-! ===== call: pass ===== -/
theorem y_pass_bad {Y : JX} {v k : Int32} (hk : ¬ k = 0) (hk2 : ¬ k ≤ 0) : b_X11_pass_32 Y v k = some (0, thr Y k) := by
  unfold b_X11_pass_32 b_X11_pass_52
  rw [dX_eq, if_pos (show ¬ (thr Y k) 0 0 = 0 from hk), dX_eq, Int32.add_zero, pu_self, if_neg (show ¬ (thr Y k) 0 0 ≤ 0 from hk2)]
theorem op_13 {i : Nat} {X Y : JX} (h : Rel i X Y) : OpSim (Rel (i + 5)) X Y 13 := by
  intro a
  have h0 := fun s => (h.mono (show i ≤ i + 5 by omega)).thr (s := s)
  obtain ⟨M, R, A, P, S, ⟨h1, h2, h3⟩, ⟨h4, h5, h6⟩, ⟨h7, h8⟩, ⟨h9, h10⟩, ⟨h11, h12, h13⟩, ⟨s1, s2, s3, s4, s5⟩, ⟨t1, t2, ⟨m, hh, m1, m2, m3, m4⟩, t4, t5⟩⟩ := h.mono (show i ≤ i + 5 by omega)
  by_cases c : ¬ a < 1 ∧ ¬ 1000 < a
  · have cin : f_X11_in Y a 1 1000 = some 1 := by rw [y_in, bo_t c]
    obtain ⟨d, hd, rfl⟩ := nI_of2 (x := a) (n := 1000) rfl (fun q => c.1 (Int32.lt_trans q (by decide))) (Int32.not_lt.mp c.2)
    have c2 : nI d ≤ 1000 := Int32.not_lt.mp c.2
    have em : Y 0 1 + nI d = nI (m + d) := by rw [m2, nI_add]
    by_cases c3 : m + d ≤ 100000
    · have c4 : Y 0 1 + nI d ≤ 100000 := by rw [em]; exact nI_le (b := 100000) c3 (by decide)
      have y1 : f_X11_pass Y (nI d) = some (nI (m + d), pX (thr Y 0) 0 (upd ((thr Y 0) 0) 1 (nI (m + d)))) := by
        unfold f_X11_pass b_X11_pass_32 b_X11_pass_52
        rw [cin, bd_some, if_pos one0, if_pos c4, dX_eq, if_neg (show ¬ ¬ (thr Y 0) 0 0 = 0 from fun q => q rfl), dX_eq, show (thr Y 0) 0 1 + nI d = nI (m + d) from em]
        rfl
      have e60 : ∀ k, k < 2 ^ 31 → nI k / 60 = nI (k / 60) := fun k hk => pk_div (d := 60) hk (by decide) (by decide)
      have q1 : m < 2 ^ 31 := by omega
      have q2 : m + d < 2 ^ 31 := by omega
      by_cases c5 : (m + d) / 60 = m / 60
      · have x1 : f_X10_pass X (nI d) = some (none, nI (m + d), pX X 0 (upd (X 0) 6 (nI (m + d)))) := by
          unfold f_X10_pass
          rw [if_neg c.1, if_pos c2, s3, if_pos c4, dV_eq, dX_eq, em, show (pX X 0 (upd (X 0) 6 (nI (m + d)))) 0 6 = nI (m + d) from rfl, if_pos (show (nI (m + d)) / 60 = Y 0 1 / 60 by rw [m2, e60 _ q1, e60 _ q2, c5])]
        refine ⟨_, _, _, _, _, x1, y1, rfl, fun _ => rfl, M, R, A, P, S, ⟨h1, h2.fr rfl (eqC.rf.p (by omega)) (eqC.rf.p (by omega)) rfl ((eqC.rf.p (by omega)).p (by omega)), h3⟩, ⟨h4, h5.fr h4.1.1 (eqC.rf.p (by omega)) rfl, h6.fr h4.1.1 h5.1 (eqC.rf.p (by omega)) ((eqC.rf.p (by omega)).p (by omega))⟩, ⟨h7.fr (eqC.rf.p (by omega)) (eqC.rf.p (by omega)) ((eqC.rf.p (by omega)).p (by omega)) rfl, h8⟩, ⟨h9, h10⟩, ⟨h11, h12, h13⟩, ⟨s1, s2, rfl, s4, ?_⟩, t1, t2, ⟨m + d, hh, c3, rfl, m3, by omega⟩, t4, t5⟩
        show X 0 8 = if Y 0 35 = nI (m + d) / 60 then Y 0 36 else 0
        rw [s5, m2, e60 _ q1, e60 _ q2, c5]
      · have x1 : f_X10_pass X (nI d) = some (none, nI (m + d), pX (pX X 0 (upd (X 0) 6 (nI (m + d)))) 0 (upd ((pX X 0 (upd (X 0) 6 (nI (m + d)))) 0) 8 0)) := by
          unfold f_X10_pass
          rw [if_neg c.1, if_pos c2, s3, if_pos c4, dV_eq, dX_eq, em, show (pX X 0 (upd (X 0) 6 (nI (m + d)))) 0 6 = nI (m + d) from rfl, if_neg (show ¬ (nI (m + d)) / 60 = Y 0 1 / 60 by
            rw [m2, e60 _ q1, e60 _ q2]
            intro q
            exact c5 ((nI_eq (by omega) (by omega)).mp q)), dX_eq]
          rfl
        refine ⟨_, _, _, _, _, x1, y1, rfl, fun _ => rfl, M, R, A, P, S, ⟨h1, h2.fr rfl ((eqC.rf.p (by omega)).p (by omega)) ((eqC.rf.p (by omega)).p (by omega)) rfl ((eqC.rf.p (by omega)).p (by omega)), h3⟩, ⟨h4, h5.fr h4.1.1 ((eqC.rf.p (by omega)).p (by omega)) rfl, h6.fr h4.1.1 h5.1 ((eqC.rf.p (by omega)).p (by omega)) ((eqC.rf.p (by omega)).p (by omega))⟩, ⟨h7.fr ((eqC.rf.p (by omega)).p (by omega)) ((eqC.rf.p (by omega)).p (by omega)) ((eqC.rf.p (by omega)).p (by omega)) rfl, h8⟩, ⟨h9, h10⟩, ⟨h11, h12, h13⟩, ⟨s1, s2, rfl, s4, ?_⟩, t1, t2, ⟨m + d, hh, c3, rfl, m3, by omega⟩, t4, t5⟩
        show (0 : Int32) = if Y 0 35 = nI (m + d) / 60 then Y 0 36 else 0
        rw [e60 _ q2, m3, if_neg]
        intro q
        have := (nI_eq (by omega) (by omega)).mp q
        omega
    · have c4 : ¬ Y 0 1 + nI d ≤ 100000 := by rw [em]; exact nI_ge (a := 100000) (by omega) (by omega)
      refine ⟨some 3, 0, X, 0, thr Y 2, ?_, ?_, rfl, (fun q => by cases q), h0 2⟩
      · unfold f_X10_pass
        rw [if_neg c.1, if_pos c2, s3, if_neg c4]
      · unfold f_X11_pass
        rw [cin, bd_some, if_pos one0, if_neg c4, y_pass_bad (by decide) (by decide)]
  · refine ⟨some 2, 0, X, 0, thr Y 1, ?_, ?_, rfl, (fun q => by cases q), h0 1⟩
    · unfold f_X10_pass b_X10_pass_12
      by_cases c1 : a < 1
      · rw [if_pos c1]
      · rw [if_neg c1, if_neg (fun q => c ⟨c1, Int32.not_lt.mpr q⟩)]
    · unfold f_X11_pass
      rw [y_in, bd_some, bo_f c, if_neg (fun q => q rfl), y_pass_bad (by decide) (by decide)]

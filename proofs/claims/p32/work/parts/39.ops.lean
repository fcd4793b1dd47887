/-! ===== calls: battery, limits, pass ===== -/
theorem pu_self (X : JX) (k j : Nat) : pX X k (upd (X k) j (X k j)) = X := by
  funext q t
  rw [p_at]
  by_cases h : q = k
  · rw [if_pos h, u_at, h]
    by_cases h2 : t = j
    · rw [if_pos h2, h2]
    · rw [if_neg h2]
  · rw [if_neg h]
theorem bZ_ok (x : Int32) : okB (bZ x) = true := by
  unfold bZ
  by_cases h : x = 0
  · rw [if_pos h]; rfl
  · rw [if_neg h]; rfl
theorem okB_of {v : Int32} (h : v = 0 ∨ v = 1) : okB v = true := by
  rcases h with rfl | rfl <;> rfl
theorem op_14 {i : Nat} {X Y : JX} (h : Rel i X Y) : OpSim (Rel (i + 5)) X Y 14 := by
  intro x
  obtain ⟨M, R, A, P, S, ⟨h1, h2, h3⟩, ⟨h4, h5, h6⟩, ⟨h7, h8⟩, ⟨h9, h10⟩, ⟨h11, h12, h13⟩, ⟨s1, s2, s3, s4, s5⟩, ⟨t1, t2, t3, t4, t5⟩⟩ := h.mono (show i ≤ i + 5 by omega)
  have e1 : f_X10_battery X (bZ x) = some (Y 0 34, pX X 0 (upd (X 0) 7 (bZ x))) := by
    unfold f_X10_battery
    rw [dV_eq, if_pos (bZ_ok x), dX_eq, s4, if_pos (okB_of t5)]
  have e2 : f_X11_battery Y (bZ x) = some (Y 0 34, pX (thr Y 0) 0 (upd ((thr Y 0) 0) 34 (bZ x))) := by
    unfold f_X11_battery
    rw [dX_eq, dV_eq, if_pos (bZ_ok x), dX_eq]
    exact if_pos (okB_of t5)
  refine ⟨_, _, _, e1, e2, M, R, A, P, S, ⟨h1, h2.fr rfl (eqC.rf.p (by omega)) (eqC.rf.p (by omega)) rfl ((eqC.rf.p (by omega)).p (by omega)), h3⟩, ⟨h4, h5.fr h4.1.1 (eqC.rf.p (by omega)) rfl, h6.fr h4.1.1 h5.1 (eqC.rf.p (by omega)) ((eqC.rf.p (by omega)).p (by omega))⟩, ⟨h7.fr (eqC.rf.p (by omega)) (eqC.rf.p (by omega)) ((eqC.rf.p (by omega)).p (by omega)) rfl, h8⟩, ⟨h9, h10⟩, ⟨h11, h12, h13⟩, ⟨s1, s2, s3, rfl, s5⟩, t1, t2, t3, t4, ?_⟩
  exact okB_or (bZ_ok x)
theorem op_15 {i : Nat} {X Y : JX} (h : Rel i X Y) : OpSim (Rel (i + 5)) X Y 15 := by
  intro a b
  by_cases c : (¬ a < 0 ∧ ¬ 3 < a) ∧ (¬ b < 1 ∧ ¬ 20 < b)
  · obtain ⟨⟨c1, c2⟩, c3, c4⟩ := c
    obtain ⟨M, R, A, P, S, ⟨h1, h2, h3⟩, ⟨h4, h5, h6⟩, ⟨h7, h8⟩, ⟨h9, h10⟩, ⟨h11, h12, h13⟩, ⟨s1, s2, s3, s4, s5⟩, ⟨t1, t2, t3, t4, t5⟩⟩ := h.mono (show i ≤ i + 5 by omega)
    have e1 : f_X10_limits X a b = some (none, Y 0 29, pX (pX X 34 (upd (X 34) 0 a)) 34 (upd ((pX X 34 (upd (X 34) 0 a)) 34) 1 b)) := by
      unfold f_X10_limits
      rw [if_neg c1, if_neg c2, if_neg c3, if_pos (Int32.not_lt.mp c4), dV_eq, dX_eq, dX_eq, s2]
    have e2 : f_X11_limits Y a b = some (Y 0 29, pX (pX (thr Y 0) 0 (upd ((thr Y 0) 0) 28 a)) 0 (upd ((pX (thr Y 0) 0 (upd ((thr Y 0) 0) 28 a)) 0) 29 b)) := by
      unfold f_X11_limits b_X11_limits_25
      rw [y_in, bd_some, bo_t ⟨c1, c2⟩, if_neg one0, y_in, bd_some, bo_t ⟨c3, c4⟩, if_neg one0, dX_eq]
      rw [if_pos (show (thr Y 0) 0 0 ≤ 0 from Int32.le_refl 0), dV_eq, dX_eq, dX_eq]
      rfl
    refine ⟨_, _, _, _, _, e1, e2, rfl, fun _ => rfl, M, R, A, P, S, ⟨h1, h2.fr rfl ((eqC.rf.p (by omega)).p (by omega)) ((eqC.rf.p (by omega)).p (by omega)) rfl (((eqC.rf.p (by omega)).p (by omega)).p (by omega)), h3⟩, ⟨h4, h5.fr h4.1.1 ((eqC.rf.p (by omega)).p (by omega)) rfl, h6.fr h4.1.1 h5.1 ((eqC.rf.p (by omega)).p (by omega)) (((eqC.rf.p (by omega)).p (by omega)).p (by omega))⟩, ⟨h7.fr ((eqC.rf.p (by omega)).p (by omega)) ((eqC.rf.p (by omega)).p (by omega)) (((eqC.rf.p (by omega)).p (by omega)).p (by omega)) rfl, h8⟩, ⟨h9, h10⟩, ⟨h11, h12, h13⟩, ⟨rfl, rfl, s3, s4, s5⟩, ?_, ?_, t3, t4, t5⟩
    · obtain ⟨d, hd, e⟩ := nI_of2 (n := 3) rfl c1 (Int32.not_lt.mp c2)
      exact ⟨d, hd, e⟩
    · obtain ⟨d, hd, e⟩ := nI_of2 (x := b) (n := 20) rfl (fun q => c3 (Int32.lt_trans q (by decide))) (Int32.not_lt.mp c4)
      refine ⟨d, ?_, hd, e⟩
      rw [e] at c3
      by_cases hd0 : d = 0
      · rw [hd0] at c3; exact absurd (by decide) c3
      · omega
  · have e1 : f_X10_limits X a b = some (some 2, 0, X) := by
      unfold f_X10_limits b_X10_limits_20
      by_cases c1 : a < 0
      · rw [if_pos c1]
      · by_cases c2 : 3 < a
        · rw [if_neg c1, if_pos c2]
        · by_cases c3 : b < 1
          · rw [if_neg c1, if_neg c2, if_pos c3]
          · rw [if_neg c1, if_neg c2, if_neg c3, if_neg (fun q => c ⟨⟨c1, c2⟩, c3, Int32.not_lt.mpr q⟩)]
    have e2 : f_X11_limits Y a b = some (0, thr Y 1) := by
      have hb : b_X11_limits_25 Y a b 1 = some (0, thr Y 1) := by
        unfold b_X11_limits_25
        rw [dX_eq, if_neg (show ¬ (thr Y 1) 0 0 ≤ 0 from (by decide : ¬ (1 : Int32) ≤ 0))]
      unfold f_X11_limits
      rw [y_in, bd_some]
      by_cases c1 : ¬ a < 0 ∧ ¬ 3 < a
      · rw [bo_t c1, if_neg one0, y_in, bd_some, bo_f (fun q => c ⟨c1, q⟩), if_pos rfl, hb]
      · rw [bo_f c1, if_pos rfl, hb]
    exact ⟨_, _, _, _, _, e1, e2, rfl, (fun q => by cases q), (h.mono (show i ≤ i + 5 by omega)).thr⟩

/-! ===== calls: people, lock ===== -/
theorem op_6 {i : Nat} {X Y : JX} (h : Rel i X Y) : OpSim (Rel (i + 5)) X Y 6 := by
  intro v b
  have h0 := fun s => (h.mono (show i ≤ i + 5 by omega)).thr (s := s)
  obtain ⟨M, R, A, P, S, ⟨h1, h2, h3⟩, ⟨h4, h5, h6⟩, ⟨h7, h8⟩, ⟨h9, h10⟩, ⟨h11, h12, h13⟩, h14, h15⟩ := h.mono (show i ≤ i + 5 by omega)
  have bad : ∀ k : Int32, ¬ k ≤ 0 → b_X11_people_28 Y v b k = some (0, thr Y k) := by
    intro k hk
    unfold b_X11_people_28
    rw [dX_eq, if_neg (show ¬ (thr Y k) 0 0 ≤ 0 from hk)]
  rcases c_there h1 h2 v with ⟨n, hn, hM, rfl, ht, e1, e2⟩ | ⟨-, e1, e2⟩
  · by_cases c : ¬ b < 0 ∧ ¬ 15 < b
    · have x1 : f_X10_people X (nI n) b = some (none, Y 9 n, pX X 7 (upd (X 7) n b)) := by
        unfold f_X10_people f_X9_setPeople
        rw [e1, bd_some, if_pos one0, if_neg c.1, if_pos (Int32.not_lt.mp c.2), x_peopleOf hn, bd_some, bd_some, if_neg one0, if_pos (n_ok60 hn), nI_clamp (sm hn), (h2.2 n hn).2.2.2.2.2.1]
        rfl
      have y1 : f_X11_people Y (nI n) b = some (Y 9 n, pX (thr Y 0) 9 (upd (Y 9) n b)) := by
        unfold f_X11_people b_X11_people_28
        rw [e2, bd_some, if_pos one0, y_in, bd_some, bo_t c, if_neg one0, dX_eq, if_pos (show (thr Y 0) 0 0 ≤ 0 from Int32.le_refl 0), if_pos (n_ok60 hn), dV_eq, if_pos (n_ok60 hn), nI_clamp (sm hn)]
        rfl
      refine ⟨_, _, _, _, _, x1, y1, rfl, fun _ => rfl, M, R, A, P, S, ⟨h1, ?_, h3⟩, ⟨h4, h5.fr h4.1.1 (eqC.rf.p (by omega)) rfl, h6.fr h4.1.1 h5.1 (eqC.rf.p (by omega)) ((eqC.rf.p (by omega)).p (by omega))⟩, ⟨h7.fr (eqC.rf.p (by omega)) (eqC.rf.p (by omega)) ((eqC.rf.p (by omega)).p (by omega)) rfl, h8⟩, ⟨h9, h10⟩, ⟨h11, h12, h13⟩, h14, h15⟩
      refine ⟨h2.1, fun m hm => ?_⟩
      obtain ⟨a2, a3, a4, a5, a6, a7, a9, a8, at', ac⟩ := h2.2 m hm
      refine ⟨a2, a3, a4, a5, a6, ?_, a9, a8, fun j hj => ?_, ac⟩
      · show upd (X 7) n b m = upd (Y 9) n b m
        rw [u_at, u_at, a7]
      · rw [p_at, if_neg (by omega)]
        exact at' j hj
    · refine ⟨some 2, 0, X, 0, thr Y 2, ?_, ?_, rfl, (fun q => by cases q), h0 2⟩
      · unfold f_X10_people b_X10_people_31
        rw [e1, bd_some, if_pos one0]
        by_cases c1 : b < 0
        · rw [if_pos c1]
        · rw [if_neg c1, if_neg (fun q => c ⟨c1, Int32.not_lt.mpr q⟩)]
      · unfold f_X11_people
        rw [e2, bd_some, if_pos one0, y_in, bd_some, bo_f c, if_pos rfl, bad 2 (by decide)]
  · refine ⟨some 1, 0, X, 0, thr Y 1, ?_, ?_, rfl, (fun q => by cases q), h0 1⟩
    · unfold f_X10_people
      rw [e1, bd_some, if_neg (fun q => q rfl)]
    · unfold f_X11_people
      rw [e2, bd_some, if_neg (fun q => q rfl), bad 1 (by decide)]
theorem nar_bZ (x : Int32) : vp_nar .boolean (bZ x) = bZ x := by
  unfold bZ
  by_cases h : x = 0
  · rw [if_pos h]; rfl
  · rw [if_neg h]; rfl
theorem op_5 {i : Nat} {X Y : JX} (h : Rel i X Y) : OpSim (Rel (i + 5)) X Y 5 := by
  intro v x
  have h0 := fun s => (h.mono (show i ≤ i + 5 by omega)).thr (s := s)
  obtain ⟨M, R, A, P, S, ⟨h1, h2, h3⟩, ⟨h4, h5, h6⟩, ⟨h7, h8⟩, ⟨h9, h10⟩, ⟨h11, h12, h13⟩, h14, h15⟩ := h.mono (show i ≤ i + 5 by omega)
  rcases c_file h1 h2 v with ⟨n, hn, hM, rfl, ht, hf, e1, e2⟩ | ⟨e1, e2⟩
  · have hl := (h3 n hn).2.1.1
    have hb : bo (Y 8 n ≠ 0) = Y 8 n := by
      rcases hl with e | e <;> simp [bo, e]
    have x1 : f_X10_lock X (nI n) (bZ x) = some (none, Y 8 n, pX X 6 (upd (X 6) n (bZ x))) := by
      unfold f_X10_lock f_X9_setLocked
      rw [e1, bd_some, if_pos one0, x_isLocked hn, bd_some, bd_some, if_neg one0, if_pos (n_ok60 hn), nI_clamp (sm hn), nar_bZ, dX_eq, bd_some, (h2.2 n hn).2.2.2.2.1, hb, if_pos (okB_of hl)]
    have y1 : f_X11_lock Y (nI n) (bZ x) = some (Y 8 n, pX (thr Y 0) 8 (upd (Y 8) n (bZ x))) := by
      unfold f_X11_lock b_X11_lock_14
      rw [e2, bd_some, if_neg one0, dX_eq, if_pos (show (thr Y 0) 0 0 ≤ 0 from Int32.le_refl 0), if_pos (n_ok60 hn), dV_eq, if_pos (n_ok60 hn), nI_clamp (sm hn), nar_bZ, dX_eq]
      exact if_pos (okB_of hl)
    refine ⟨_, _, _, _, _, x1, y1, rfl, fun _ => rfl, M, R, A, P, S, ⟨h1, ?_, ?_⟩, ⟨h4, h5.fr h4.1.1 (eqC.rf.p (by omega)) rfl, h6.fr h4.1.1 h5.1 (eqC.rf.p (by omega)) ((eqC.rf.p (by omega)).p (by omega))⟩, ⟨h7.fr (eqC.rf.p (by omega)) (eqC.rf.p (by omega)) ((eqC.rf.p (by omega)).p (by omega)) rfl, h8⟩, ⟨h9, h10⟩, ⟨h11, h12, h13⟩, h14, h15⟩
    · refine ⟨h2.1, fun m hm => ?_⟩
      obtain ⟨a2, a3, a4, a5, a6, a7, a9, a8, at', ac⟩ := h2.2 m hm
      refine ⟨a2, a3, a4, a5, ?_, a7, a9, a8, fun j hj => ?_, ac⟩
      · show upd (X 6) n (bZ x) m = upd (Y 8) n (bZ x) m
        rw [u_at, u_at, a6]
      · rw [p_at, if_neg (by omega)]
        exact at' j hj
    · intro m hm
      obtain ⟨b1, b2, b3⟩ := h3 m hm
      refine ⟨b1, ⟨?_, b2.2⟩, b3⟩
      show upd (Y 8) n (bZ x) m = 0 ∨ upd (Y 8) n (bZ x) m = 1
      rw [u_at]
      by_cases e : m = n
      · rw [if_pos e]; exact okB_or (bZ_ok x)
      · rw [if_neg e]; exact b2.1
  · refine ⟨some 1, 0, X, 0, thr Y 1, ?_, ?_, rfl, (fun q => by cases q), h0 1⟩
    · unfold f_X10_lock
      rw [e1, bd_some, if_neg (fun q => q rfl)]
    · unfold f_X11_lock b_X11_lock_14
      rw [e2, bd_some, if_pos rfl, dX_eq, if_neg (show ¬ (thr Y 1) 0 0 ≤ 0 from (by decide : ¬ (1 : Int32) ≤ 0))]

/-! ===== call: empty ===== -/
theorem x_clear {X : JX} {n : Nat} (hn : n < 60) (h5 : ¬ X 5 n = 0) (h4 : X 4 n = 0) : f_X9_clearText X (nI n) = some (pX (pX X 9 (upd (X 9) n 0)) 8 (upd (X 8) n (X 8 n + 1))) := by
  unfold f_X9_clearText
  rw [x_isFile hn, bo_t ⟨h5, h4⟩, bd_some, if_neg one0, if_pos (n_ok60 hn), dX_eq, if_pos (n_ok60 hn), if_pos (n_ok60 hn), nI_clamp (sm hn)]
  rfl
theorem op_2 {i : Nat} {X Y : JX} (h : Rel i X Y) : OpSim (Rel (i + 5)) X Y 2 := by
  intro v
  have h0 := fun s => (h.mono (show i ≤ i + 5 by omega)).thr (s := s)
  obtain ⟨M, R, A, P, S, ⟨h1, h2, h3⟩, ⟨h4, h5, h6⟩, ⟨h7, h8⟩, ⟨h9, h10⟩, ⟨h11, h12, h13⟩, h14, h15⟩ := h
  have bad : ∀ k : Int32, ¬ k ≤ 0 → b_X11_empty_27 Y v k = some (0, thr Y k) := by
    intro k hk
    unfold b_X11_empty_27
    rw [dX_eq, if_neg (show ¬ (thr Y k) 0 0 ≤ 0 from hk)]
  rcases c_file h1 h2 v with ⟨n, hn, hM, rfl, ht, hf, e1, e2⟩ | ⟨e1, e2⟩
  · obtain ⟨a2, a3, a4, a5, a6, a7, a9, a8, at', ac⟩ := h2.2 n hn
    have xl : f_X9_isLocked X (nI n) = some (bo (Y 8 n ≠ 0)) := by rw [x_isLocked hn, a6]
    by_cases hl : Y 8 n = 0
    · let X1 : JX := pX (pX X 9 (upd (X 9) n 0)) 8 (upd (X 8) n (X 8 n + 1))
      let Y1 : JX := pX (pX (thr Y 0) 6 (upd (Y 6) n 0)) 5 (upd (Y 5) n (Y 5 n + 1))
      have hx1 : f_X9_clearText X (nI n) = some X1 := x_clear hn (by rw [a5]; exact ht) (by rw [a4]; exact hf)
      have t1 : TX X1 Y1 := by
        refine ⟨h2.1, fun m hm => ?_⟩
        obtain ⟨c2, c3, c4, c5, c6, c7, c9, c8, ct, cc⟩ := h2.2 m hm
        refine ⟨c2, c3, c4, c5, c6, c7, ?_, fun q => ?_, fun j hj => ?_, cc⟩
        · show upd (X 9) n 0 m = upd (Y 6) n 0 m
          rw [u_at, u_at, c9]
        · show upd (X 8) n (X 8 n + 1) m = upd (Y 5) n (Y 5 n + 1) m
          rw [u_at, u_at, c8 q, a8 hf]
        · show (pX (pX X 9 (upd (X 9) n 0)) 8 (upd (X 8) n (X 8 n + 1))) (56 + m) j = Y 7 (20 * m + j)
          rw [p_at, if_neg (by omega), p_at, if_neg (by omega)]
          exact ct j hj
      have v1 : TV Y1 (i + 5) := by
        intro m hm
        obtain ⟨⟨e, b1, b2⟩, b3, l, b4, b5, b6⟩ := h3 m hm
        refine ⟨?_, b3, ?_⟩
        · show ∃ e, e ≤ 1 + (i + 5) ∧ upd (Y 5) n (Y 5 n + 1) m = nI e
          rw [u_at]
          by_cases q : m = n
          · rw [if_pos q, ← q, b2, n_add1]; exact ⟨e + 1, by omega, rfl⟩
          · rw [if_neg q]; exact ⟨e, by omega, b2⟩
        · show ∃ l, l ≤ 20 ∧ upd (Y 6) n 0 m = nI l ∧ _
          rw [u_at]
          by_cases q : m = n
          · rw [if_pos q]; exact ⟨0, by omega, rfl, fun j hj => absurd hj (Nat.not_lt_zero j)⟩
          · rw [if_neg q]; exact ⟨l, b4, b5, b6⟩
      have r1 : RX X1 Y1 R := h5.fr h4.1.1 ((eqC.rf.p (by omega)).p (by omega)) rfl
      have q1 : QX X1 Y1 R := h6.fr h4.1.1 h5.1 ((eqC.rf.p (by omega)).p (by omega)) (((eqC.rf.p (by omega)).p (by omega)).p (by omega))
      have rr : RelR (i + 5) X1 Y1 R := ⟨M, A, P, S, ⟨h1, t1, v1⟩, h4, ⟨h7.fr ((eqC.rf.p (by omega)).p (by omega)) ((eqC.rf.p (by omega)).p (by omega)) (((eqC.rf.p (by omega)).p (by omega)).p (by omega)) rfl, h8⟩, ⟨h9, h10⟩, ⟨h11, h12, h13⟩, h14, h15⟩
      have hT1 : TY Y1 M := h1
      have hR1 : RY Y1 R := h4
      obtain ⟨X2, Y2, x2, y2, q2, r2, ex1, ex2, ey⟩ := c_above (v := 1) hT1 t1 hR1 r1 q1 (Or.inr (Or.inl rfl)) hn
      have ho := y_over hR1 hT1 hn
      have hc := y2 _ ho
      refine ⟨none, Y 6 n, X2, Y 6 n, Y2, ?_, ?_, ?_, fun _ => rfl, rr.queue r2 q2 (ex1.sub (by omega) (by omega)) ex2 ey⟩
      · unfold f_X10_empty
        rw [e1, bd_some, if_pos one0, xl, bo_f (fun q => q hl), bd_some, if_pos rfl, x_lengthOf hn, bd_some, hx1, bd_some, show (2 : Int32) = 1 + 1 from rfl, x2, bd_some, a9]
      · unfold f_X11_empty b_X11_empty_27
        rw [e2, bd_some, if_pos one0, if_pos (n_ok60 hn), nI_clamp (sm hn), if_pos hl, dX_eq, if_pos (show (thr Y 0) 0 0 ≤ 0 from Int32.le_refl 0), if_pos (n_ok60 hn), dV_eq, if_pos (n_ok60 hn), dX_eq, if_pos (n_ok60 hn), if_pos (n_ok60 hn), dX_eq]
        show ((f_X11_over Y1 (nI n)).bind fun t6 => (f_X11_comes Y1 t6 1 (nI n)).bind fun X7 => some (Y 6 n, X7)) = some (Y 6 n, Y2)
        rw [ho, bd_some, hc, bd_some]
      · rw [ey 0 (by omega) (by omega) (by omega) (by omega)]
        rfl
    · refine ⟨some 3, 0, X, 0, thr Y 2, ?_, ?_, rfl, (fun q => by cases q), h0 2⟩
      · unfold f_X10_empty
        rw [e1, bd_some, if_pos one0, xl, bo_t hl, bd_some, if_neg one0]
      · unfold f_X11_empty
        rw [e2, bd_some, if_pos one0, if_pos (n_ok60 hn), nI_clamp (sm hn), if_neg hl, bad 2 (by decide)]
  · refine ⟨some 1, 0, X, 0, thr Y 1, ?_, ?_, rfl, (fun q => by cases q), h0 1⟩
    · unfold f_X10_empty
      rw [e1, bd_some, if_neg (fun q => q rfl)]
    · unfold f_X11_empty
      rw [e2, bd_some, if_neg (fun q => q rfl), bad 1 (by decide)]

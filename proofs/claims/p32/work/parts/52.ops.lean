theorem y_lose_go {Y : JX} {r k m : Nat} (hr : r < 3) (h : Y 11 r = nI k) (hk : k ≤ 8) (hm : m ≤ 8) : b_X11_lose_31 Y (nI m) (nI r) 0 = some (nI (k - m), pX (thr Y 0) 11 (upd (Y 11) r (nI (k - m)))) := by
  have ok := n_ok4 (show r < 4 by omega)
  have cl := nI_clamp (show r < 2 ^ 31 by omega)
  have sub : ∀ j, j ≤ k → nI k - nI j = nI (k - j) := by
    intro j hj
    have e : nI k = nI (k - j) + nI j := by rw [nI_add, show k - j + j = k by omega]
    rw [e, Int32.add_sub_cancel]
  have fin : ∀ s0, nI k - s0 = nI (k - m) → b_X11_lose_70 (thr Y 0) (nI r) s0 (nI k) (nI r) = some (nI (k - m), pX (thr Y 0) 11 (upd (Y 11) r (nI (k - m)))) := by
    intro s0 hs
    unfold b_X11_lose_70
    rw [if_pos ok, hs, cl, dX_eq, if_pos ok]
    congr 1
    congr 1
    show upd (Y 11) r (nI (k - m)) r = _
    rw [u_at, if_pos rfl]
  unfold b_X11_lose_31
  rw [dX_eq, if_pos (show (thr Y 0) 0 0 ≤ 0 from Int32.le_refl 0), if_pos ok, if_pos ok, cl, show (pX Y 0 (upd (Y 0) 0 0)) 11 r = nI k from h]
  by_cases c : nI k ≤ nI m
  · rw [if_pos c, if_pos ok]
    have := (nI_leI (a := k) (b := m) (by omega) (by omega)).mp c
    exact fin (nI k) (by rw [sub k (Nat.le_refl k), Nat.sub_self, show k - m = 0 by omega])
  · rw [if_neg c]
    have : ¬ k ≤ m := fun q => c (nI_le q (by omega))
    exact fin (nI m) (sub m (by omega))
theorem op_12 {i : Nat} {X Y : JX} (h : Rel i X Y) : OpSim (Rel (i + 5)) X Y 12 := by
  intro v b
  have h0 := fun s => (h.mono (show i ≤ i + 5 by omega)).thr (s := s)
  have hh := h.mono (show i ≤ i + 5 by omega)
  obtain ⟨M, R, A, P, S, h123, ⟨h4, h5, h6⟩, h78, h910, hI, h14, h15⟩ := hh
  have hR := h4.1.1
  have bad : ∀ (t k : Int32), ¬ k ≤ 0 → b_X11_lose_31 Y b t k = some (0, thr Y k) := by
    intro t k hk
    unfold b_X11_lose_31
    rw [dX_eq, if_neg (show ¬ (thr Y k) 0 0 ≤ 0 from hk)]
  cases e : ro Y R v with
  | none =>
    refine ⟨some 1, 0, X, 0, thr Y 1, ?_, ?_, rfl, (fun q => by cases q), h0 1⟩
    · unfold f_X10_lose
      rw [x_find h5 h4, bd_some, e]
      rfl
    · unfold f_X11_lose
      rw [y_rootAt h4, bd_some, e, if_neg (fun q => q rfl), bad _ 1 (by decide)]
  | some r =>
    obtain ⟨hr, er⟩ := ro_lt e
    have hr3 : r < 3 := by omega
    have hp := rt_in h5.1 hr3
    by_cases c : ¬ b < 1 ∧ ¬ 8 < b
    · obtain ⟨m, hm, rfl⟩ := nI_of2 (x := b) (n := 8) rfl (fun q => c.1 (Int32.lt_trans q (by decide))) (Int32.not_lt.mp c.2)
      obtain ⟨a4, a5, k, k8, ek, f, g⟩ := ((QX_is X Y R) ▸ h6) r hr |>.1
      have xo : ∀ q, q ≠ pl X r → q ≠ pl X r + 1 → q ≠ pl X r + 2 → (pX X (pl X r) (upd (X (pl X r)) 4 (nI (k - m)))) q = X q := fun q h1 _ _ => if_neg h1
      have q2 : QX (pX X (pl X r) (upd (X (pl X r)) 4 (nI (k - m)))) (pX (thr Y 0) 11 (upd (Y 11) r (nI (k - m)))) R := by
        refine QX_set hR h5.1 h6 hr (if_neg (by omega)) xo (fun q q1 q2 => (if_neg (by omega)).trans (if_neg (by omega))) ?_ (fun s hs hsr => ⟨?_, rfl, fun j hj => ⟨rfl, rfl⟩⟩)
        · refine ⟨?_, ?_, k - m, by omega, ?_, ?_, fun j hj => ?_⟩
          · simp [p_at, u_at]
          · simp [p_at, u_at]; exact a5
          · simp [p_at, u_at]
          · rcases f with q | ⟨q, q2⟩
            · exact Or.inl q
            · exact Or.inr ⟨q, by omega⟩
          · obtain ⟨g1, g2, g3, g4⟩ := g j (by omega)
            refine ⟨?_, ?_, g3, g4⟩
            · simp [p_at, u_at]; exact g1
            · simp [p_at, u_at]; exact g2
        · simp [p_at, u_at, hsr]
      have r2 : RX (pX X (pl X r) (upd (X (pl X r)) 4 (nI (k - m)))) (pX (thr Y 0) 11 (upd (Y 11) r (nI (k - m)))) R := RX_set hR h5 hr (if_neg (by omega)) (if_neg (by omega)) xo (by simp [p_at, u_at]) rfl
      have rr : RelR (i + 5) X (thr Y 0) R := by
        obtain ⟨M9, R9, A9, P9, S9, -⟩ := h0 0
        exact ⟨M, A, P, S, h123, h4, h78, h910, hI, h14, h15⟩
      refine ⟨none, nI (k - m), _, nI (k - m), _, ?_, ?_, ?_, fun _ => rfl, rr.queue r2 q2 (fun q q1 q2 => if_neg (by omega)) (fun q q1 q2 => if_neg (by omega)) (fun q q1 _ _ _ => if_neg q1)⟩
      · unfold f_X10_lose
        rw [x_find h5 h4, bd_some, e, Option.map_some, oC_some, if_pos (h5.1.1 r hr3), if_neg c.1, if_pos (Int32.not_lt.mp c.2), x_forget (a4.trans ek) k8 hm]
        rfl
      · unfold f_X11_lose
        rw [y_rootAt h4, bd_some, e, show enc (some r) = nI r from rfl, if_pos (nm1 (show r < 2 ^ 31 by omega)), y_in, bo_t c, bd_some, if_neg one0, y_lose_go hr3 ek k8 hm]
      · rfl
    · refine ⟨some 2, 0, X, 0, thr Y 2, ?_, ?_, rfl, (fun q => by cases q), h0 2⟩
      · unfold f_X10_lose b_X10_lose_34
        rw [x_find h5 h4, bd_some, e, Option.map_some, oC_some, if_pos (h5.1.1 r hr3)]
        by_cases c1 : b < 1
        · rw [if_pos c1]
        · rw [if_neg c1, if_neg (fun q => c ⟨c1, Int32.not_lt.mpr q⟩)]
      · unfold f_X11_lose
        rw [y_rootAt h4, bd_some, e, show enc (some r) = nI r from rfl, if_pos (nm1 (show r < 2 ^ 31 by omega)), y_in, bd_some, bo_f c, if_pos rfl, bad _ 2 (by decide)]

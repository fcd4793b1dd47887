/-! ===== calls: nodes, people, lock, mayRead ===== -/
theorem x_countThere_loop {X : JX} : ∀ m i F c, i + m = 60 → m + 1 ≤ F → c ≤ i → loop2 (lb_X9_countThere_4 X) F (nI c) (nI i) = some (nI (c + cnt (fun n => decide (X 5 n ≠ 0)) m i)) := by
  intro m
  induction m with
  | zero =>
    intro i F c hi hF hc
    obtain ⟨F', rfl⟩ := Nat.exists_eq_add_of_le' hF
    have : i = 60 := by omega
    subst this
    rw [zl2]
    generalize hR9 : loop2 _ F' = R9
    unfold lb_X9_countThere_4
    rw [if_pos g60]
    rfl
  | succ m ih =>
    intro i F c hi hF hc
    obtain ⟨F', rfl⟩ := Nat.exists_eq_add_of_le' (show 1 ≤ F by omega)
    rw [zl2]
    have h9 := fun c hc => ih (i + 1) F' c (by omega) (by omega) hc
    generalize hR9 : loop2 _ F' = R9 at h9
    have hi60 : i < 60 := by omega
    unfold lb_X9_countThere_4 b_X9_countThere_22
    rw [if_neg (nl60 hi60), if_pos (n_ok60 hi60), nI_clamp (sm hi60), dV_eq, dV_eq, dV_eq, n_add1, n_add1, cnt_s]
    by_cases e : X 5 i = 0
    · rw [if_pos e, h9 c (by omega)]; simp [e]
    · rw [if_neg e, h9 (c + 1) (by omega)]; simp [e, Nat.add_assoc]
theorem y_nodes_loop {Y : JX} {M : Nat} (hT : TY Y M) : ∀ m i F c, i + m = M → m + 1 ≤ F → loop2 (lb_X11_nodes_9 Y) F (nI c) (nI i) = some (nI (c + cnt (fun n => decide (Y 1 n ≠ 0)) m i), Y) := by
  intro m
  induction m with
  | zero =>
    intro i F c hi hF
    obtain ⟨F', rfl⟩ := Nat.exists_eq_add_of_le' hF
    rw [zl2]
    generalize hR9 : loop2 _ F' = R9
    unfold lb_X11_nodes_9
    have := hT.1.2.1
    rw [if_pos (show Y 0 2 ≤ nI i by rw [hT.1.2.2]; exact nI_le (by omega) (by omega))]
    rfl
  | succ m ih =>
    intro i F c hi hF
    obtain ⟨F', rfl⟩ := Nat.exists_eq_add_of_le' (show 1 ≤ F by omega)
    rw [zl2]
    have h9 := fun c => ih (i + 1) F' c (by omega) (by omega)
    generalize hR9 : loop2 _ F' = R9 at h9
    have hM := hT.1.2.1
    have hi60 : i < 60 := by omega
    unfold lb_X11_nodes_9 b_X11_nodes_32
    rw [if_neg (show ¬ Y 0 2 ≤ nI i by rw [hT.1.2.2]; exact nI_ge (by omega) (by omega)), if_pos (n_ok60 hi60), nI_clamp (sm hi60), dV_eq, dV_eq, dV_eq, dV_eq, n_add1, n_add1, cnt_s, Int32.add_zero]
    by_cases e : Y 1 i = 0
    · rw [if_pos e, h9 c]; simp [e]
    · rw [if_neg e, h9 (c + 1)]; simp [e, Nat.add_assoc]
theorem op_8 {i : Nat} {X Y : JX} (h : Rel i X Y) : OpSim (Rel (i + 5)) X Y 8 := by
  have h' := (h.mono (show i ≤ i + 5 by omega)).thr (s := 0)
  obtain ⟨M, R, A, P, S, ⟨h1, h2, h3⟩, -⟩ := h
  have hM := h1.1.2.1
  have e1 : f_X10_nodes X = some (nI (cnt (fun n => decide (Y 1 n ≠ 0)) M 0)) := by
    have hl := x_countThere_loop (X := X) 60 0 1000 0 rfl (by decide) (Nat.le_refl 0)
    rw [Nat.zero_add] at hl
    have h9 : f_X9_countThere X = some (nI (cnt (fun n => decide (X 5 n ≠ 0)) 60 0)) := hl
    unfold f_X10_nodes
    rw [h9, bd_some]
    rw [cnt_congr (q := fun n => decide (Y 1 n ≠ 0)) 60 0 (fun j _ hj => by rw [(h2.2 j (by omega)).2.2.2.1])]
    rw [cnt_60 hM (fun n hn hn6 => by
      by_cases e : Y 1 n = 0
      · simp [e]
      · exact absurd (h1.2.2.1 n hn6 e) (by omega))]
  have e2 : f_X11_nodes Y = some (nI (cnt (fun n => decide (Y 1 n ≠ 0)) M 0), thr Y 0) := by
    unfold f_X11_nodes
    rw [dX_eq]
    have := y_nodes_loop (Y := thr Y 0) (M := M) h1 M 0 1000 0 (Nat.zero_add _) (by omega)
    rw [Nat.zero_add] at this
    exact this
  exact ⟨_, _, e1, e2, h'⟩
theorem op_7 {i : Nat} {X Y : JX} (h : Rel i X Y) : OpSim (Rel (i + 5)) X Y 7 := by
  intro p v
  have h0 := fun s => (h.mono (show i ≤ i + 5 by omega)).thr (s := s)
  obtain ⟨M, R, A, P, S, ⟨h1, h2, h3⟩, -⟩ := h
  have bad : ∀ e1 : f_X10_mayRead X p v = some (some 1, 0, X), f_X11_mayRead Y p v = some (0, thr Y 1) → SimT (Rel (i + 5)) [1] (f_X10_mayRead X p v) (f_X11_mayRead Y p v) := fun e1 e2 => ⟨_, _, _, _, _, e1, e2, rfl, (fun q => by cases q), h0 1⟩
  have b1 : b_X11_mayRead_23 Y p v 1 = some (0, thr Y 1) := by
    unfold b_X11_mayRead_23
    rw [dX_eq, if_pos (show ¬ (thr Y 1) 0 0 = 0 from one0)]
  by_cases c : ¬ p < 0 ∧ ¬ 3 < p
  · have xp : f_X10_isPerson X p = some 1 := by
      unfold f_X10_isPerson
      rw [if_neg c.1, if_neg (fun q => c.2 (Int32.lt_of_lt_of_le (by decide) q))]
    rcases c_there h1 h2 v with ⟨n, hn, hM, rfl, ht, e1, e2⟩ | ⟨-, e1, e2⟩
    · obtain ⟨b, o1, o2⟩ := c_open (p := p) h1 h2 hn ht
      have o3 : f_X11_mayReadAt (thr Y 0) p (nI n) = some (bB b) := o2
      refine ⟨none, bB b, X, bB b, thr Y 0, ?_, ?_, rfl, fun _ => rfl, h0 0⟩
      · unfold f_X10_mayRead
        rw [xp, bd_some, if_neg one0, e1, bd_some, if_pos one0, o1, bd_some, if_pos (bB_ok b)]
      · unfold f_X11_mayRead b_X11_mayRead_23
        rw [y_in, bd_some, bo_t c, if_neg one0, e2, bd_some, if_neg one0, dX_eq, if_neg (show ¬ ¬ (thr Y 0) 0 0 = 0 from fun q => q rfl), o3, bd_some]
        cases b <;> rfl
    · refine bad ?_ ?_
      · unfold f_X10_mayRead b_X10_mayRead_18
        rw [xp, bd_some, if_neg one0, e1, bd_some, if_neg (fun q => q rfl)]
      · unfold f_X11_mayRead
        rw [y_in, bd_some, bo_t c, if_neg one0, e2, bd_some, if_pos rfl, b1]
  · refine bad ?_ ?_
    · unfold f_X10_mayRead b_X10_mayRead_18 f_X10_isPerson
      by_cases c1 : p < 0
      · rw [if_pos c1]; rfl
      · have c4 : (4 : Int32) ≤ p := by
          by_cases q : 3 < p
          · obtain ⟨j, hj, rfl⟩ := nI_of c1
            exact nI_le (a := 4) (by have := (nI_ltI (a := 3) (by decide) hj).mp q; omega) hj
          · exact absurd ⟨c1, q⟩ c
        rw [if_neg c1, if_pos c4]; rfl
    · unfold f_X11_mayRead
      rw [y_in, bd_some, bo_f c, if_pos rfl, b1]

/-! ===== a work: a folder of a crawl ===== -/
theorem c_meets {Xb Yb : JX} {M p r f : Nat} (hT : TY Yb M) (hx : TX Xb Yb) (hE : EX Xb Yb) (hp : 13 ≤ p ∧ p + 6 < 34) (hr : r < 3) (hf : f < 60) : ∀ m i F F2 X Y w A, i + m = 60 → m + 1 ≤ F → 61 ≤ i + F2 → MI Xb Yb p r X Y w A → ∃ X' Y' w' A', loop2 (lb_X4_meetAllIn_2 (nI f) (p + 3)) F X (nI i) = some X' ∧ (i ≤ M → loop2 (lb_X11_goesOn_97 (nI r) (nI f)) F2 Y (nI i) = b_X11_goesOn_201 Y' (nI r)) ∧ (M < i → Y' = Y) ∧ MI Xb Yb p r X' Y' w' A' := by
  have hM := hT.1.2.1
  have hy0 : ∀ F (Y : JX), Y 0 2 = nI M → loop2 (lb_X11_goesOn_97 (nI r) (nI f)) (F + 1) Y (nI M) = b_X11_goesOn_201 Y (nI r) := fun F Y h => by
    rw [zl2]
    generalize loop2 (lb_X11_goesOn_97 (nI r) (nI f)) F = R9
    unfold lb_X11_goesOn_97
    rw [h, if_pos (Int32.le_refl _)]
  intro m
  induction m with
  | zero =>
    intro i F F2 X Y w A hi hF hF2 h
    obtain ⟨F', rfl⟩ := Nat.exists_eq_add_of_le' hF
    have : i = 60 := by omega
    subst this
    refine ⟨X, Y, w, A, ?_, fun h9 => ?_, fun _ => rfl, h⟩
    · rw [zl2]
      generalize loop2 _ F' = R9
      unfold lb_X4_meetAllIn_2
      rw [if_pos g60]
    · have e : M = 60 := by omega
      obtain ⟨F3, rfl⟩ := Nat.exists_eq_add_of_le' (show 1 ≤ F2 by omega)
      rw [← e]
      exact hy0 F3 Y ((h.2.2.2.2.1 2 (by omega)).trans hT.1.2.2)
  | succ m ih =>
    intro i F F2 X Y w A hi hF hF2 h
    obtain ⟨F', rfl⟩ := Nat.exists_eq_add_of_le' (show 1 ≤ F by omega)
    have hi6 : i < 60 := by omega
    have e2 : X 2 = Xb 2 := h.2.2.1.1 2 (by omega) (by omega) (by omega) (by omega) (by omega) (by omega) (by omega)
    have y02 : Y 0 2 = nI M := (h.2.2.2.2.1 2 (by omega)).trans hT.1.2.2
    have ey1 : Y 1 = Yb 1 := h.2.2.2.1 1 (by omega) (by omega) (by omega) (by omega) (by omega) (by omega) (by omega)
    have ey3 : Y 3 = Yb 3 := h.2.2.2.1 3 (by omega) (by omega) (by omega) (by omega) (by omega) (by omega) (by omega)
    rw [zl2]
    by_cases hc : chi Yb f i = true
    · have hiM : i < M := hT.2.2.1 i hi6 (of_decide_eq_true hc).1
      obtain ⟨ct, c3⟩ := of_decide_eq_true hc
      obtain ⟨F3, rfl⟩ := Nat.exists_eq_add_of_le' (show 1 ≤ F2 by omega)
      obtain ⟨X1, Y1, w1, A1, h1, x1, y1⟩ := c_child hT hx hE hp hr h hi6 hc
      obtain ⟨X', Y', w', A', a, b, -, d⟩ := ih (i + 1) F' F3 X1 Y1 w1 A1 (by omega) (by omega) (by omega) h1
      refine ⟨X', Y', w', A', ?_, fun _ => ?_, fun z => absurd z (by omega), d⟩
      · unfold lb_X4_meetAllIn_2
        rw [if_neg (nl60 hi6), if_neg (nm1 (sm hf)), x_parentOf hi6, bd_some, e2, if_neg (fun z => z ((chi_x hT hx hf hi6).mpr hc)), x1]
        exact a
      · rw [zl2]
        have y1' := y1 (loop2 (lb_X11_goesOn_97 (nI r) (nI f)) F3) (nI f)
        unfold lb_X11_goesOn_97
        rw [y02, if_neg (nI_ge hiM (by omega)), if_pos (n_ok60 hi6), if_pos (n_ok60 hi6), nI_clamp (sm hi6), ey1, if_neg ct, ey3, if_neg (fun z => z c3), n_60, if_pos (n_ok (show 60 * r + i < 240 by omega) (by decide)), nI_clamp (show 60 * r + i < 2 ^ 31 by omega), dX_eq]
        exact y1'.trans (b (by omega))
    · have xs : lb_X4_meetAllIn_2 (nI f) (p + 3) (loop2 (lb_X4_meetAllIn_2 (nI f) (p + 3)) F') X (nI i) = loop2 (lb_X4_meetAllIn_2 (nI f) (p + 3)) F' X (nI (i + 1)) := by
        unfold lb_X4_meetAllIn_2
        rw [if_neg (nl60 hi6), if_neg (nm1 (sm hf)), x_parentOf hi6, bd_some, e2, if_pos (fun z => hc ((chi_x hT hx hf hi6).mp z))]
        unfold b_X4_meetAllIn_66
        rw [dV_eq, n_add1]
      rw [xs]
      by_cases hiM : i < M
      · obtain ⟨F3, rfl⟩ := Nat.exists_eq_add_of_le' (show 1 ≤ F2 by omega)
        obtain ⟨X', Y', w', A', a, b, -, d⟩ := ih (i + 1) F' F3 X Y w A (by omega) (by omega) (by omega) h
        refine ⟨X', Y', w', A', a, fun _ => ?_, fun z => absurd z (by omega), d⟩
        rw [zl2]
        have b9 := b (by omega)
        generalize loop2 (lb_X11_goesOn_97 (nI r) (nI f)) F3 = R9 at b9
        unfold lb_X11_goesOn_97 b_X11_goesOn_195
        rw [y02, if_neg (nI_ge hiM (by omega)), if_pos (n_ok60 hi6), if_pos (n_ok60 hi6), nI_clamp (sm hi6), ey1, ey3, dV_eq, n_add1]
        by_cases e1 : Yb 1 i = 0
        · rw [if_pos e1]; exact b9
        · rw [if_neg e1, if_pos (fun z => hc (decide_eq_true ⟨e1, z⟩))]; exact b9
      · obtain ⟨X', Y', w', A', a, -, c, d⟩ := ih (i + 1) F' F2 X Y w A (by omega) (by omega) (by omega) h
        have hYY : Y' = Y := c (by omega)
        subst hYY
        refine ⟨X', Y', w', A', a, fun h9 => ?_, fun _ => rfl, d⟩
        obtain ⟨F3, rfl⟩ := Nat.exists_eq_add_of_le' (show 1 ≤ F2 by omega)
        rw [show i = M by omega]
        exact hy0 F3 _ y02
/-! what was not met is looked at -/
theorem c_unmet {X Y : JX} {M p r A : Nat} (hT : TY Y M) (hE : EX X Y) (hEY : EY Y M) (hK : KY Y A) (hX : KX X Y A) (hp : 13 ≤ p ∧ p + 6 < 34) (hr : r < 3) (hm : ∀ n, n < 60 → X (p + 6) n = Y 18 (60 * r + n)) : ∃ X' Y' A', f_X4_lookAtUnmet X (p + 3) = some X' ∧ l_X11_goesOn_219 (nI r) Y 0 = some Y' ∧ KY Y' A' ∧ KX X' Y' A' ∧ frX X' X ∧ frY Y' Y := by
  have hM := hT.1.2.1
  let pd : Nat → Bool := fun n => decide (Y 19 n ≠ 0 ∧ Y 18 (60 * r + n) = 0)
  obtain ⟨X', Y', A', a, b, -, c⟩ := c_adds (p := pd) (X0 := X) (Y0 := Y) hM (fun n h1 h2 => by
    show decide (Y 19 n ≠ 0 ∧ Y 18 (60 * r + n) = 0) = false
    refine decide_eq_false (fun z => ?_)
    exact absurd ((hEY n h2).1 z.1).1 (by omega)) (LX := fun F => loop2 (lb_X4_lookAtUnmet_2 (p + 3)) F) (LY := fun F => loop2 (lb_X11_goesOn_219 (nI r)) F)
    (fun F X1 i hi f => by
      show loop2 (lb_X4_lookAtUnmet_2 (p + 3)) (F + 1) X1 (nI i) = _
      rw [zl2]
      show lb_X4_lookAtUnmet_2 (p + 3) (loop2 (lb_X4_lookAtUnmet_2 (p + 3)) F) X1 (nI i) = if decide (Y 19 i ≠ 0 ∧ Y 18 (60 * r + i) = 0) = true then (f_X0_add X1 (nI i) 1).bind (fun X' => loop2 (lb_X4_lookAtUnmet_2 (p + 3)) F X' (nI (i + 1))) else loop2 (lb_X4_lookAtUnmet_2 (p + 3)) F X1 (nI (i + 1))
      generalize loop2 (lb_X4_lookAtUnmet_2 (p + 3)) F = R9
      have hmet : f_X1_hasMet X1 (p + 3) (nI i) = some (bo (Y 18 (60 * r + i) ≠ 0)) := by
        unfold f_X1_hasMet
        rw [if_neg (nI_pos (sm hi)), if_neg (nl60 hi), if_pos (n_ok60 hi), nI_clamp (sm hi)]
        show (if X1 (p + 6) i = 0 then some 0 else some 1) = _
        rw [f (p + 6) (by omega) (by omega) (by omega), hm i hi]
        by_cases z : Y 18 (60 * r + i) = 0
        · rw [if_pos z, bo_f (fun w => w z)]
        · rw [if_neg z, bo_t z]
      unfold lb_X4_lookAtUnmet_2 b_X4_lookAtUnmet_36
      rw [if_neg (nl60 hi), x_has hi, bd_some, f 36 (by omega) (by omega) (by omega), (hE i hi).1, hmet, bd_some]
      by_cases e : Y 19 i = 0
      · rw [bo_f (fun q => q e), if_pos rfl, if_neg (show ¬ decide (Y 19 i ≠ 0 ∧ Y 18 (60 * r + i) = 0) = true from fun z => (of_decide_eq_true z).1 e), dV_eq, n_add1]
      · rw [bo_t e, if_neg one0]
        by_cases e2 : Y 18 (60 * r + i) = 0
        · rw [bo_f (fun q => q e2), if_neg (fun z => z rfl), if_pos (decide_eq_true ⟨e, e2⟩)]
          congr 1
          funext X3
          rw [dV_eq, n_add1]
        · rw [bo_t e2, if_pos one0, if_neg (show ¬ decide (Y 19 i ≠ 0 ∧ Y 18 (60 * r + i) = 0) = true from fun z => e2 (of_decide_eq_true z).2), dV_eq, n_add1])
    (fun F X1 => by
      show loop2 (lb_X4_lookAtUnmet_2 (p + 3)) (F + 1) X1 (nI 60) = _
      rw [zl2]
      generalize loop2 (lb_X4_lookAtUnmet_2 (p + 3)) F = R9
      unfold lb_X4_lookAtUnmet_2
      rw [if_pos g60])
    (fun F Y1 i hi f => by
      show loop2 (lb_X11_goesOn_219 (nI r)) (F + 1) Y1 (nI i) = _
      rw [zl2]
      show lb_X11_goesOn_219 (nI r) (loop2 (lb_X11_goesOn_219 (nI r)) F) Y1 (nI i) = if decide (Y 19 i ≠ 0 ∧ Y 18 (60 * r + i) = 0) = true then (f_X11_adds Y1 (nI i) 1).bind (fun Y' => loop2 (lb_X11_goesOn_219 (nI r)) F Y' (nI (i + 1))) else loop2 (lb_X11_goesOn_219 (nI r)) F Y1 (nI (i + 1))
      generalize loop2 (lb_X11_goesOn_219 (nI r)) F = R9
      have hi60 : i < 60 := by omega
      unfold lb_X11_goesOn_219 b_X11_goesOn_256
      rw [f.2 2 (by omega), hT.1.2.2, if_neg (nI_ge (by omega) (by omega)), if_pos (n_ok60 hi60), nI_clamp (sm hi60), f.1 19 (by omega) (by omega) (by omega) (by omega), n_60, if_pos (n_ok (show 60 * r + i < 240 by omega) (by decide)), nI_clamp (show 60 * r + i < 2 ^ 31 by omega), f.1 18 (by omega) (by omega) (by omega) (by omega)]
      by_cases e : Y 19 i = 0
      · rw [if_pos e, if_neg (show ¬ decide (Y 19 i ≠ 0 ∧ Y 18 (60 * r + i) = 0) = true from fun z => (of_decide_eq_true z).1 e), dV_eq, n_add1]
      · rw [if_neg e]
        by_cases e2 : Y 18 (60 * r + i) = 0
        · rw [if_neg (fun z => z e2), if_pos (decide_eq_true ⟨e, e2⟩)]
          congr 1
          funext X3
          rw [dV_eq, n_add1]
        · rw [if_pos e2, if_neg (show ¬ decide (Y 19 i ≠ 0 ∧ Y 18 (60 * r + i) = 0) = true from fun z => e2 (of_decide_eq_true z).2), dV_eq, n_add1])
    (fun F Y1 f => by
      show loop2 (lb_X11_goesOn_219 (nI r)) (F + 1) Y1 (nI M) = _
      rw [zl2]
      generalize loop2 (lb_X11_goesOn_219 (nI r)) F = R9
      unfold lb_X11_goesOn_219
      rw [f.2 2 (by omega), hT.1.2.2, if_pos (Int32.le_refl _)]) 60 0 1000 1000 X Y A rfl (by decide) (by decide) hK hX (frX.rf X) (frY.rf Y)
  exact ⟨X', Y', A', a, b (by omega), c⟩

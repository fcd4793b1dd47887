/-! ===== a work: steps until none is left ===== -/
def yE (Y : JX) (d : Nat) : Option (Int32 × JX) := if Y 0 34 = 0 then b_X11_work_144 Y (nI d) 0 (Y 0 36) else b_X11_work_144 Y (nI d) (nI d) (Y 0 36)
theorem n_sub {a b : Nat} (h : b ≤ a) : nI a - nI b = nI (a - b) := by
  have e : nI a = nI (a - b) + nI b := by rw [nI_add, Nat.sub_add_cancel h]
  rw [e, Int32.add_sub_cancel]
theorem y_end_loop {m d : Nat} {F : Nat} {Y : JX} : loop3 (lb_X11_work_105 (nI m)) (F + 1) Y (nI d) 0 = yE Y d := by
  rw [zl3]
  generalize loop3 (lb_X11_work_105 (nI m)) F = R9
  unfold lb_X11_work_105 yE
  rw [if_pos (Int32.le_refl _)]
theorem c_steps {i M R P m : Nat} {Xs Ys : JX} (hPL : PL Ys M P) (h37 : Ys 0 37 = nI P) (hi : i ≤ 2560) (hm : m ≤ 500) : ∀ k d t F F2 X Y A, d + k = m → t ≤ d → k + 1 ≤ F → k + 1 ≤ F2 → RelW i Xs Ys X Y M R P A → ∃ X' Y' A' d', loop3 (lb_X4_doSteps_4 (nI m)) F X (nI d) (nI t) = b_X4_doSteps_42 X' (nI d') ∧ ((f_X11_does Y (nI m - nI d)).bind fun z => loop3 (lb_X11_work_105 (nI m)) F2 z.2 (nI d) z.1) = yE Y' d' ∧ RelW i Xs Ys X' Y' M R P A' ∧ d' ≤ m := by
  intro k
  induction k using Nat.strongRecOn with
  | _ k ih =>
    intro d t F F2 X Y A hd ht hF hF2 h
    obtain ⟨F', rfl⟩ := Nat.exists_eq_add_of_le' (show 1 ≤ F by omega)
    obtain ⟨F3, rfl⟩ := Nat.exists_eq_add_of_le' (show 1 ≤ F2 by omega)
    by_cases hk : k = 0
    · subst hk
      have e : m = d := by omega
      subst e
      refine ⟨X, Y, A, m, ?_, ?_, h, Nat.le_refl _⟩
      · rw [zl3]
        generalize loop3 (lb_X4_doSteps_4 (nI m)) F' = R9
        unfold lb_X4_doSteps_4
        rw [if_pos (show nI m ≤ nI m from Int32.le_refl _)]
        split <;> rfl
      · rw [y_does0 h (by rw [n_sub (Nat.le_refl m), Nat.sub_self]; decide), bd_some]
        exact y_end_loop
    · obtain ⟨c, X1, Y1, A1, hc, x1, y1, h1, h0⟩ := c_does h hPL h37 hi (left := m - d) (by omega) (by omega)
      rw [n_sub (show d ≤ m by omega), y1, bd_some]
      have xhead : loop3 (lb_X4_doSteps_4 (nI m)) (F' + 1) X (nI d) (nI t) = if ¬ nI c = 0 then loop3 (lb_X4_doSteps_4 (nI m)) F' X1 (nI d + nI c) (nI (t + 1)) else b_X4_doSteps_42 X1 (nI d) := by
        rw [zl3]
        generalize loop3 (lb_X4_doSteps_4 (nI m)) F' = R9
        unfold lb_X4_doSteps_4
        rw [if_neg (show ¬ nI m ≤ nI t from nI_ge (by omega) (by omega)), if_neg (show ¬ nI m ≤ nI d from nI_ge (by omega) (by omega)), n_sub (show d ≤ m by omega), x1, bd_some, dV_eq, dV_eq, n_add1]
      by_cases c0 : c = 0
      · subst c0
        refine ⟨X1, Y1, A1, d, ?_, ?_, h1, by omega⟩
        · rw [xhead, if_neg (fun z => z rfl)]
        · exact y_end_loop
      · obtain ⟨X', Y', A', d', a1, a2, a3, a4⟩ := ih (k - c) (by omega) (d + c) (t + 1) F' F3 X1 Y1 A1 (by omega) (by omega) (by omega) (by omega) h1
        refine ⟨X', Y', A', d', ?_, ?_, a3, a4⟩
        · rw [xhead, if_pos (nI_ne0 (by omega) (by omega)), nI_add]
          exact a1
        · show loop3 (lb_X11_work_105 (nI m)) (F3 + 1) Y1 (nI d) (nI c) = _
          rw [zl3]
          unfold lb_X11_work_105
          rw [if_neg (show ¬ nI c ≤ 0 from nI_nle (by omega) (by omega)), dV_eq, nI_add]
          exact a2
/-! the list, and what was read, behind the steps -/
theorem x_end48 : ∀ m i F (X : JX), i + m = 60 → m + 1 ≤ F → ∃ X', loop2 lb_X0_endWork_2 F X (nI i) = some X' ∧ (∀ q, q ≠ 48 → X' q = X q) ∧ ∀ j, X' 48 j = if i ≤ j ∧ j < 60 then 0 else X 48 j := by
  intro m
  induction m with
  | zero =>
    intro i F X hi hF
    obtain ⟨F', rfl⟩ := Nat.exists_eq_add_of_le' hF
    have : i = 60 := by omega
    subst this
    refine ⟨X, ?_, fun _ _ => rfl, fun j => by rw [if_neg (by omega)]⟩
    rw [zl2]
    generalize loop2 _ F' = R9
    unfold lb_X0_endWork_2
    rw [if_pos g60]
  | succ m ih =>
    intro i F X hi hF
    obtain ⟨F', rfl⟩ := Nat.exists_eq_add_of_le' (show 1 ≤ F by omega)
    have hi6 : i < 60 := by omega
    obtain ⟨X', a, b, c⟩ := ih (i + 1) F' (pX X 48 (upd (X 48) i 0)) (by omega) (by omega)
    refine ⟨X', ?_, fun q hq => (b q hq).trans (if_neg hq), fun j => ?_⟩
    · rw [zl2]
      generalize loop2 _ F' = R9 at a
      unfold lb_X0_endWork_2
      rw [if_neg (nl60 hi6), if_pos (n_ok60 hi6), dX_eq, dV_eq, n_add1, nI_clamp (sm hi6)]
      exact a
    · rw [c j]
      show (if i + 1 ≤ j ∧ j < 60 then 0 else upd (X 48) i 0 j) = _
      rw [u_at]
      by_cases q : j = i
      · rw [if_neg (show ¬ (i + 1 ≤ j ∧ j < 60) by omega), if_pos q, if_pos (show i ≤ j ∧ j < 60 by omega)]
      · rw [if_neg q]
        by_cases q2 : i + 1 ≤ j ∧ j < 60
        · rw [if_pos q2, if_pos (show i ≤ j ∧ j < 60 by omega)]
        · rw [if_neg q2, if_neg (show ¬ (i ≤ j ∧ j < 60) by omega)]
theorem x_end42 : ∀ m i F (X : JX), i + m = 60 → m + 1 ≤ F → ∃ X', loop2 lb_X2_endWork_2 F X (nI i) = some X' ∧ (∀ q, q ≠ 42 → X' q = X q) ∧ ∀ j, X' 42 j = if i ≤ j ∧ j < 60 then 0 else X 42 j := by
  intro m
  induction m with
  | zero =>
    intro i F X hi hF
    obtain ⟨F', rfl⟩ := Nat.exists_eq_add_of_le' hF
    have : i = 60 := by omega
    subst this
    refine ⟨X, ?_, fun _ _ => rfl, fun j => by rw [if_neg (by omega)]⟩
    rw [zl2]
    generalize loop2 _ F' = R9
    unfold lb_X2_endWork_2
    rw [if_pos g60]
  | succ m ih =>
    intro i F X hi hF
    obtain ⟨F', rfl⟩ := Nat.exists_eq_add_of_le' (show 1 ≤ F by omega)
    have hi6 : i < 60 := by omega
    obtain ⟨X', a, b, c⟩ := ih (i + 1) F' (pX X 42 (upd (X 42) i 0)) (by omega) (by omega)
    refine ⟨X', ?_, fun q hq => (b q hq).trans (if_neg hq), fun j => ?_⟩
    · rw [zl2]
      generalize loop2 _ F' = R9 at a
      unfold lb_X2_endWork_2
      rw [if_neg (nl60 hi6), if_pos (n_ok60 hi6), dX_eq, dV_eq, n_add1, nI_clamp (sm hi6)]
      exact a
    · rw [c j]
      show (if i + 1 ≤ j ∧ j < 60 then 0 else upd (X 42) i 0 j) = _
      rw [u_at]
      by_cases q : j = i
      · rw [if_neg (show ¬ (i + 1 ≤ j ∧ j < 60) by omega), if_pos q, if_pos (show i ≤ j ∧ j < 60 by omega)]
      · rw [if_neg q]
        by_cases q2 : i + 1 ≤ j ∧ j < 60
        · rw [if_pos q2, if_pos (show i ≤ j ∧ j < 60 by omega)]
        · rw [if_neg q2, if_neg (show ¬ (i ≤ j ∧ j < 60) by omega)]
theorem y_end27 {A : Nat} {v : Int32} (hA : A ≤ 60) : ∀ m i F (Y : JX), i + m = A → m + 1 ≤ F → Y 0 30 = nI A → ∃ Y', loop2 (lb_X11_work_151 v) F Y (nI i) = ((f_X11_indexes Y').bind fun X9 => some (v, X9)) ∧ (∀ q, q ≠ 27 → Y' q = Y q) ∧ ∀ j, Y' 27 j = if i ≤ j ∧ j < A then 0 else Y 27 j := by
  intro m
  induction m with
  | zero =>
    intro i F Y hi hF h30
    obtain ⟨F', rfl⟩ := Nat.exists_eq_add_of_le' hF
    refine ⟨Y, ?_, fun _ _ => rfl, fun j => by rw [if_neg (by omega)]⟩
    rw [zl2]
    generalize loop2 _ F' = R9
    unfold lb_X11_work_151
    rw [h30, if_pos (show nI A ≤ nI i from nI_le (by omega) (by omega))]
  | succ m ih =>
    intro i F Y hi hF h30
    obtain ⟨F', rfl⟩ := Nat.exists_eq_add_of_le' (show 1 ≤ F by omega)
    have hi6 : i < 60 := by omega
    obtain ⟨Y', a, b, c⟩ := ih (i + 1) F' (pX Y 27 (upd (Y 27) i 0)) (by omega) (by omega) h30
    refine ⟨Y', ?_, fun q hq => (b q hq).trans (if_neg hq), fun j => ?_⟩
    · rw [zl2]
      generalize loop2 _ F' = R9 at a
      unfold lb_X11_work_151
      rw [h30, if_neg (show ¬ nI A ≤ nI i from nI_ge (by omega) (by omega)), if_pos (n_ok60 hi6), dX_eq, dV_eq, n_add1, nI_clamp (sm hi6)]
      exact a
    · rw [c j]
      show (if i + 1 ≤ j ∧ j < A then 0 else upd (Y 27) i 0 j) = _
      rw [u_at]
      by_cases q : j = i
      · rw [if_neg (show ¬ (i + 1 ≤ j ∧ j < A) by omega), if_pos q, if_pos (show i ≤ j ∧ j < A by omega)]
      · rw [if_neg q]
        by_cases q2 : i + 1 ≤ j ∧ j < A
        · rw [if_pos q2, if_pos (show i ≤ j ∧ j < A by omega)]
        · rw [if_neg q2, if_neg (show ¬ (i ≤ j ∧ j < A) by omega)]

/-! ===== segments in which nothing lives are closed, both sides ===== -/
def IDS (ok : Nat → Prop) (lv : Int32 → Prop) (X Y : JX) (P S : Nat) : Prop := ID ok lv X (Y 28) (Y 29) (Y 30) P S ∧ S ≤ 4 ∧ X 49 3 = nI S ∧ Y 0 37 = nI P ∧ Y 0 41 = nI S
def FRI (X X' Y Y' : JX) : Prop := (∀ q, q ≠ 49 → q ≠ 50 → q ≠ 51 → q ≠ 52 → X' q = X q) ∧ (∀ c, c ≠ 0 → c ≠ 28 → c ≠ 29 → c ≠ 30 → Y' c = Y c) ∧ ∀ j, j ≠ 37 → j ≠ 41 → Y' 0 j = Y 0 j
theorem FRI.refl {X Y : JX} : FRI X X Y Y := ⟨fun _ _ _ _ _ => rfl, fun _ _ _ _ _ => rfl, fun _ _ _ => rfl⟩
theorem FRI.trans {X X1 X2 Y Y1 Y2 : JX} (a : FRI X X1 Y Y1) (b : FRI X1 X2 Y1 Y2) : FRI X X2 Y Y2 := ⟨fun q h1 h2 h3 h4 => (b.1 q h1 h2 h3 h4).trans (a.1 q h1 h2 h3 h4), fun q h1 h2 h3 h4 => (b.2.1 q h1 h2 h3 h4).trans (a.2.1 q h1 h2 h3 h4), fun j h1 h2 => (b.2.2 j h1 h2).trans (a.2.2 j h1 h2)⟩
theorem x_skip : ∀ d S F (X : JX), X 49 3 = nI S → S + d ≤ 4 → d ≤ F → loop2 lb_X3_endWork_42 F X (nI (S + d) - 1) = loop2 lb_X3_endWork_42 (F - d) X (nI S - 1) := by
  intro d
  induction d with
  | zero => intro S F X _ _ _; rfl
  | succ d ih =>
    intro S F X h49 hS hF
    obtain ⟨F', rfl⟩ := Nat.exists_eq_add_of_le' (show 1 ≤ F by omega)
    have h9 := ih S F' X h49 (by omega) (by omega)
    rw [show F' + 1 - (d + 1) = F' - d by omega, ← h9, zl2]
    generalize loop2 _ F' = R9
    unfold lb_X3_endWork_42 b_X3_endWork_68
    rw [show nI (S + (d + 1)) - 1 = nI (S + d) from nI_pred (S + d), if_neg (nI_pos (show S + d < 2 ^ 31 by omega)), h49, if_pos (show nI S ≤ nI (S + d) from nI_le (by omega) (by omega)), dV_eq, nn_m1]
theorem c_phase3 {ok : Nat → Prop} {lv : Int32 → Prop} : ∀ k F F2 (X Y : JX) (P S : Nat), k ≤ S → k + 1 ≤ F → k + 1 ≤ F2 → IDS ok lv X Y P S → ∃ X' Y' P' S', loop2 lb_X3_endWork_42 F X (nI k - 1) = l_X3_endWork_76 X' 0 ∧ loop2 lb_X11_indexes_104 F2 Y (nI k - 1) = l_X11_indexes_139 Y' ∧ IDS ok lv X' Y' P' S' ∧ FRI X X' Y Y' := by
  intro k
  induction k with
  | zero =>
    intro F F2 X Y P S hk hF hF2 H
    obtain ⟨F', rfl⟩ := Nat.exists_eq_add_of_le' hF
    obtain ⟨F3, rfl⟩ := Nat.exists_eq_add_of_le' hF2
    refine ⟨X, Y, P, S, ?_, ?_, H, FRI.refl⟩
    · rw [zl2]
      generalize loop2 _ F' = R9
      unfold lb_X3_endWork_42
      rw [if_pos m1_lt]
    · rw [zl2]
      generalize loop2 _ F3 = R9
      unfold lb_X11_indexes_104
      rw [if_pos m1_lt]
  | succ k ih =>
    intro F F2 X Y P S hk hF hF2 H
    obtain ⟨F', rfl⟩ := Nat.exists_eq_add_of_le' (show 1 ≤ F by omega)
    obtain ⟨F3, rfl⟩ := Nat.exists_eq_add_of_le' (show 1 ≤ F2 by omega)
    obtain ⟨H1, hS, h49, h37, h41⟩ := H
    have hP := H1.P hS
    have hP2 : P ≤ 240 := by omega
    have cl := nI_clamp (show k < 2 ^ 31 by omega)
    have ok4 := n_ok4 (show k < 4 by omega)
    obtain ⟨d1, d2⟩ := H1.2.2.2.1 k (by omega)
    have hA := pc_A (g := Y 28) (h := Y 29) (D := Y 30) (P := P) (s := k)
    have hl : pc (Y 28) (Y 29) (Y 30) P (sA k) ≤ P := pc_P
    by_cases e : pc (Y 28) (Y 29) (Y 30) P (sL k) = 0
    · obtain ⟨X1, Y0, Y1, P1, c1, c2, c3, c4, c5, c6, c7, c8, c9, c10⟩ := c_close H1 (show k < S by omega) hS h49 h37 h41 e
      obtain ⟨X', Y', P', S', a1, a2, a3, a4⟩ := ih F' F3 X1 Y1 P1 (S - 1) (by omega) (by omega) (by omega) ⟨c4, by omega, by rw [c6]; rfl, c7, c8⟩
      refine ⟨X', Y', P', S', ?_, ?_, a3, FRI.trans ⟨c5, c9, c10⟩ a4⟩
      · rw [zl2]
        generalize loop2 _ F' = R9 at a1
        unfold lb_X3_endWork_42 b_X3_endWork_68
        rw [nI_pred, if_neg (nI_pos (show k < 2 ^ 31 by omega)), h49, if_neg (show ¬ nI S ≤ nI k from nI_ge (by omega) (by omega)), if_pos ok4, cl, d1, if_neg (fun z => z (by rw [e]; rfl)), c1, bd_some, dV_eq, nn_m1]
        exact a1
      · rw [zl2]
        generalize loop2 _ F3 = R9 at a2
        unfold lb_X11_indexes_104 b_X11_indexes_133
        rw [nI_pred, if_neg (nI_pos (show k < 2 ^ 31 by omega)), y_countA hP2 h37, bd_some, y_countD hP2 h37, bd_some, if_neg (fun z => z (by rw [hA, e, Nat.zero_add])), c2, bd_some, c3, bd_some, dV_eq, nn_m1]
        exact a2
    · obtain ⟨X', Y', P', S', a1, a2, a3⟩ := ih F' F3 X Y P S (by omega) (by omega) (by omega) ⟨H1, hS, h49, h37, h41⟩
      refine ⟨X', Y', P', S', ?_, ?_, a3⟩
      · rw [zl2]
        generalize loop2 _ F' = R9 at a1
        unfold lb_X3_endWork_42 b_X3_endWork_68
        rw [nI_pred, if_neg (nI_pos (show k < 2 ^ 31 by omega)), h49, if_neg (show ¬ nI S ≤ nI k from nI_ge (by omega) (by omega)), if_pos ok4, cl, d1, if_pos (nI_ne0 (by omega) (by omega)), dV_eq, nn_m1]
        exact a1
      · rw [zl2]
        generalize loop2 _ F3 = R9 at a2
        unfold lb_X11_indexes_104 b_X11_indexes_133
        rw [nI_pred, if_neg (nI_pos (show k < 2 ^ 31 by omega)), y_countA hP2 h37, bd_some, y_countD hP2 h37, bd_some, if_pos (show ¬ nI (pc (Y 28) (Y 29) (Y 30) P (sA k)) = nI (pc (Y 28) (Y 29) (Y 30) P (sD k)) from fun z => by
          have := (nI_eq (show _ < 2 ^ 31 by omega) (show _ < 2 ^ 31 by omega)).mp z
          omega), dV_eq, nn_m1]
        exact a2
/-! ===== two segments become one ===== -/
theorem x_join_loop {s : Nat} (hs : s < 4) : ∀ m i F (X : JX), i + m = 60 → m + 1 ≤ F → ∃ X', loop2 (lb_X3_joinWithNext_46 (nI s)) F X (nI i) = f_X3_close X' (nI (s + 1)) ∧ (∀ q, q ≠ 50 → X' q = X q) ∧ ∀ n, X' 50 n = if i ≤ n ∧ n < 60 ∧ X 50 n = nI (s + 1) then nI s else X 50 n := by
  intro m
  induction m with
  | zero =>
    intro i F X hi hF
    obtain ⟨F', rfl⟩ := Nat.exists_eq_add_of_le' hF
    have : i = 60 := by omega
    subst this
    refine ⟨X, ?_, fun _ _ => rfl, fun n => by rw [if_neg (by omega)]⟩
    rw [zl2]
    generalize loop2 _ F' = R9
    unfold lb_X3_joinWithNext_46
    rw [if_pos g60, n_add1]
    cases f_X3_close X (nI (s + 1)) <;> rfl
  | succ m ih =>
    intro i F X hi hF
    obtain ⟨F', rfl⟩ := Nat.exists_eq_add_of_le' (show 1 ≤ F by omega)
    have hi6 : i < 60 := by omega
    have ok := n_ok60 hi6
    by_cases e : X 50 i = nI (s + 1)
    · obtain ⟨X', a, b, c⟩ := ih (i + 1) F' (pX X 50 (upd (X 50) i (nI s))) (by omega) (by omega)
      refine ⟨X', ?_, fun q h1 => (b q h1).trans (if_neg h1), fun n => ?_⟩
      · rw [zl2]
        generalize loop2 _ F' = R9 at a
        unfold lb_X3_joinWithNext_46 b_X3_joinWithNext_71
        rw [if_neg (nl60 hi6), if_pos ok, nI_clamp (sm hi6), n_add1, if_neg (fun z => z e), if_pos ok, dX_eq, dV_eq, n_add1]
        exact a
      · rw [c n]
        show (if i + 1 ≤ n ∧ n < 60 ∧ upd (X 50) i (nI s) n = nI (s + 1) then nI s else upd (X 50) i (nI s) n) = _
        rw [u_at]
        by_cases q : n = i
        · rw [if_pos q, if_neg (by omega), if_pos ⟨by omega, by omega, by rw [q]; exact e⟩]
        · rw [if_neg q]
          by_cases q2 : i + 1 ≤ n ∧ n < 60 ∧ X 50 n = nI (s + 1)
          · rw [if_pos q2, if_pos ⟨by omega, q2.2⟩]
          · rw [if_neg q2, if_neg (fun z => q2 ⟨by omega, z.2⟩)]
    · obtain ⟨X', a, b, c⟩ := ih (i + 1) F' X (by omega) (by omega)
      refine ⟨X', ?_, b, fun n => ?_⟩
      · rw [zl2]
        generalize loop2 _ F' = R9 at a
        unfold lb_X3_joinWithNext_46 b_X3_joinWithNext_71
        rw [if_neg (nl60 hi6), if_pos ok, nI_clamp (sm hi6), n_add1, if_pos e, dV_eq, n_add1]
        exact a
      · rw [c n]
        by_cases q2 : i + 1 ≤ n ∧ n < 60 ∧ X 50 n = nI (s + 1)
        · rw [if_pos q2, if_pos ⟨by omega, q2.2⟩]
        · rw [if_neg q2, if_neg (fun z => q2 ⟨by
            have : n ≠ i := fun w => e (by rw [← w]; exact z.2.2)
            omega, z.2⟩)]
theorem x_join {X : JX} {S s : Nat} (hs : s + 1 < S) (hS : S ≤ 4) (h49 : X 49 3 = nI S) : ∃ X', f_X3_joinWithNext X (nI s) = some X' ∧ (∀ q, q ≠ 49 → q ≠ 50 → q ≠ 51 → q ≠ 52 → X' q = X q) ∧ X' 49 = upd (X 49) 3 (nI (S - 1)) ∧ (∀ t, t < S - 1 → X' 51 t = (if t = s then X 51 s + X 51 (s + 1) else X 51 (tu s t)) ∧ X' 52 t = if t = s then 0 else X 52 (tu s t)) ∧ ∀ n, n < 60 → X' 50 n = rel (s + 1) (if X 50 n = nI (s + 1) then nI s else X 50 n) := by
  obtain ⟨X1, a, b, c⟩ := x_join_loop (s := s) (by omega) 60 0 1000 (pX (pX X 51 (upd (X 51) s (X 51 s + X 51 (s + 1)))) 52 (upd (X 52) s 0)) (by omega) (by omega)
  obtain ⟨X', x1, x2, x3, x4, x5⟩ := x_close (X := X1) (S := S) (s := s + 1) hs hS (by rw [b 49 (by omega)]; exact h49)
  refine ⟨X', ?_, fun q h1 h2 h3 h4 => (x2 q h1 h2 h3 h4).trans ((b q h2).trans ((if_neg h4).trans (if_neg h3))), by rw [x3, b 49 (by omega)]; rfl, fun t ht => ?_, fun n hn => ?_⟩
  · have ok := n_ok4 (show s < 4 by omega)
    have ok1 := n_ok4 (show s + 1 < 4 by omega)
    unfold f_X3_joinWithNext
    rw [if_neg (nI_pos (show s < 2 ^ 31 by omega)), if_neg (show ¬ (3 : Int32) ≤ nI s from nI_ge (b := 3) (by omega) (by decide)), n_add1, h49, if_pos (show nI (s + 1) < nI S from nI_lt hs (by omega)), if_pos ok, if_pos ok1, if_pos ok, dX_eq, if_pos ok, dX_eq, nI_clamp (show s < 2 ^ 31 by omega), nI_clamp (show s + 1 < 2 ^ 31 by omega)]
    exact a.trans x1
  · obtain ⟨z1, z2⟩ := x4 t ht
    rw [z1, z2, b 51 (by omega), b 52 (by omega)]
    show upd (X 51) s (X 51 s + X 51 (s + 1)) (tu (s + 1) t) = _ ∧ upd (X 52) s 0 (tu (s + 1) t) = _
    rw [u_at, u_at]
    by_cases q : t = s
    · rw [if_pos q, if_pos q, if_pos (by unfold tu; split <;> omega), if_pos (by unfold tu; split <;> omega)]
      exact ⟨rfl, rfl⟩
    · have e1 : ¬ tu (s + 1) t = s := by unfold tu; split <;> omega
      have e2 : tu (s + 1) t = tu s t := by unfold tu; split <;> split <;> omega
      rw [if_neg q, if_neg q, if_neg e1, if_neg e1, e2]
      exact ⟨rfl, rfl⟩
  · rw [x5 n hn, c n]
    show rel (s + 1) (if 0 ≤ n ∧ n < 60 ∧ X 50 n = nI (s + 1) then nI s else X 50 n) = _
    by_cases q : X 50 n = nI (s + 1)
    · rw [if_pos q, if_pos ⟨Nat.zero_le _, hn, q⟩]
    · rw [if_neg q, if_neg (fun z => q z.2.2)]

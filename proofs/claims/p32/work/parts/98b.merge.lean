/-! ===== the smallest pair, both sides ===== -/
def bst (w : Nat → Nat) : Nat := if w (if w 0 ≤ w 1 then 0 else 1) ≤ w 2 then (if w 0 ≤ w 1 then 0 else 1) else 2
theorem x_smallest {X : JX} {w : Nat → Nat} (h49 : X 49 3 = nI 4) (hw : ∀ j, j < 3 → w j < 2 ^ 31) (hT : ∀ j, j < 3 → ((X 51 j + X 52 j) + X 51 (j + 1)) + X 52 (j + 1) = nI (w j)) : f_X3_smallestPair X = some (nI (bst w)) := by
  have step : ∀ (R9 : Int32 → Int32 → Int32 → Option Int32) (v1 v2 : Int32) (j : Nat), j < 3 → lb_X3_smallestPair_6 X R9 v1 v2 (nI j) = if v1 = -1 then R9 (nI j) (nI (w j)) (nI (j + 1)) else if v2 ≤ nI (w j) then R9 v1 v2 (nI (j + 1)) else R9 (nI j) (nI (w j)) (nI (j + 1)) := fun R9 v1 v2 j hj => by
    have ok := n_ok4 (show j < 4 by omega)
    have ok1 := n_ok4 (show j + 1 < 4 by omega)
    unfold lb_X3_smallestPair_6 b_X3_smallestPair_65 b_X3_smallestPair_70
    rw [h49, n_add1, if_neg (show ¬ nI 4 ≤ nI (j + 1) from nI_ge (by omega) (by omega)), if_neg (show ¬ (3 : Int32) ≤ nI j from nI_ge (b := 3) hj (by decide)), if_pos ok, if_pos ok, if_pos ok1, if_pos ok1, nI_clamp (show j < 2 ^ 31 by omega), nI_clamp (show j + 1 < 2 ^ 31 by omega), hT j hj, dV_eq, dV_eq, dV_eq]
  have fin : ∀ (R9 : Int32 → Int32 → Int32 → Option Int32) (v1 v2 : Int32), lb_X3_smallestPair_6 X R9 v1 v2 (nI 3) = some v1 := fun R9 v1 v2 => by
    unfold lb_X3_smallestPair_6
    rw [h49, n_add1, if_pos (Int32.le_refl _)]
  have n0 : ∀ j, j < 3 → ¬ nI j = -1 := fun j hj z => by
    have := n_ne1 (show j < 2 ^ 31 by omega)
    rw [z] at this
    exact this.mp rfl
  have step2 : ∀ (R9 : Int32 → Int32 → Int32 → Option Int32) (b j : Nat), b < 3 → j < 3 → lb_X3_smallestPair_6 X R9 (nI b) (nI (w b)) (nI j) = if w b ≤ w j then R9 (nI b) (nI (w b)) (nI (j + 1)) else R9 (nI j) (nI (w j)) (nI (j + 1)) := fun R9 b j hb hj => by
    rw [step _ _ _ j hj, if_neg (n0 b hb)]
    by_cases e : w b ≤ w j
    · rw [if_pos e, if_pos (nI_le e (hw j hj))]
    · rw [if_neg e, if_neg (nI_ge (by omega) (hw b hb))]
  have all : ∀ F, loop3 (lb_X3_smallestPair_6 X) (F + 1 + 1 + 1 + 1) (-1) 0 (nI 0) = some (nI (bst w)) := fun F => by
    rw [zl3, step _ _ _ 0 (by decide), if_pos rfl, zl3, step2 _ 0 1 (by decide) (by decide)]
    unfold bst
    by_cases e : w 0 ≤ w 1
    · rw [if_pos e, if_pos e, zl3, step2 _ 0 2 (by decide) (by decide)]
      by_cases e2 : w 0 ≤ w 2
      · rw [if_pos e2, if_pos e2, zl3, fin]
      · rw [if_neg e2, if_neg e2, zl3, fin]
    · rw [if_neg e, if_neg e, zl3, step2 _ 1 2 (by decide) (by decide)]
      by_cases e2 : w 1 ≤ w 2
      · rw [if_pos e2, if_pos e2, zl3, fin]
      · rw [if_neg e2, if_neg e2, zl3, fin]
  unfold f_X3_smallestPair l_X3_smallestPair_6
  rw [dV_eq]
  exact all 996
theorem bst_lt (w : Nat → Nat) : bst w < 3 := by
  unfold bst
  by_cases e : w 0 ≤ w 1
  · rw [if_pos e]; split <;> decide
  · rw [if_neg e]; split <;> decide
theorem y_smallest {Y : JX} {w : Nat → Nat} {r139 : JX → Option JX} (h41 : Y 0 41 = nI 4) (hw : ∀ j, j < 3 → w j < 2 ^ 31) (hT : ∀ j, j < 3 → ∃ u v, f_X11_count Y (nI j) 0 = some u ∧ f_X11_count Y (nI (j + 1)) 0 = some v ∧ u + v = nI (w j)) : l_X11_indexes_151 r139 Y 0 1 = (f_X11_cleans Y (nI (bst w))).bind fun X14 => (f_X11_cleans X14 (nI (bst w + 1))).bind fun X15 => (f_X11_joins X15 (nI (bst w))).bind fun X16 => r139 X16 := by
  have step : ∀ (R9 : Int32 → Int32 → Option JX) (b j : Nat), b < 3 → j < 3 → lb_X11_indexes_151 r139 Y R9 (nI b) (nI j) = if w b ≤ w j then R9 (nI b) (nI (j + 1)) else R9 (nI j) (nI (j + 1)) := fun R9 b j hb hj => by
    obtain ⟨u, v, t1, t2, t3⟩ := hT j hj
    obtain ⟨u2, v2, t4, t5, t6⟩ := hT b hb
    unfold lb_X11_indexes_151 b_X11_indexes_199
    rw [h41, n_add1, if_neg (show ¬ nI 4 ≤ nI (j + 1) from nI_ge (by omega) (by omega)), n_add1, t1, bd_some, t2, bd_some, t4, bd_some, t5, bd_some, t3, t6, dV_eq, dV_eq]
    by_cases e : w b ≤ w j
    · rw [if_pos e, if_pos (nI_le e (hw j hj))]
    · rw [if_neg e, if_neg (nI_ge (by omega) (hw b hb))]
  have fin : ∀ (R9 : Int32 → Int32 → Option JX) (b : Nat), lb_X11_indexes_151 r139 Y R9 (nI b) (nI 3) = (f_X11_cleans Y (nI b)).bind fun X14 => (f_X11_cleans X14 (nI (b + 1))).bind fun X15 => (f_X11_joins X15 (nI b)).bind fun X16 => r139 X16 := fun R9 b => by
    unfold lb_X11_indexes_151
    rw [h41, n_add1, if_pos (Int32.le_refl _), n_add1]
  have all : ∀ F, loop2 (lb_X11_indexes_151 r139 Y) (F + 1 + 1 + 1) (nI 0) (nI 1) = (f_X11_cleans Y (nI (bst w))).bind fun X14 => (f_X11_cleans X14 (nI (bst w + 1))).bind fun X15 => (f_X11_joins X15 (nI (bst w))).bind fun X16 => r139 X16 := fun F => by
    rw [zl2, step _ 0 1 (by decide) (by decide)]
    unfold bst
    by_cases e : w 0 ≤ w 1
    · rw [if_pos e, if_pos e, zl2, step _ 0 2 (by decide) (by decide)]
      by_cases e2 : w 0 ≤ w 2
      · rw [if_pos e2, if_pos e2, zl2, fin]
      · rw [if_neg e2, if_neg e2, zl2, fin]
    · rw [if_neg e, if_neg e, zl2, step _ 1 2 (by decide) (by decide)]
      by_cases e2 : w 1 ≤ w 2
      · rw [if_pos e2, if_pos e2, zl2, fin]
      · rw [if_neg e2, if_neg e2, zl2, fin]
  exact all 997
theorem c_merge {ok : Nat → Prop} {lv : Int32 → Prop} {X Y : JX} {P S : Nat} (H : IDS ok lv X Y P S) : ∃ X' Y' P' S', l_X3_endWork_76 X 0 = some X' ∧ l_X11_indexes_139 Y = some Y' ∧ IDS ok lv X' Y' P' S' ∧ S' ≤ 3 ∧ FRI X X' Y Y' := by
  have xs : ∀ F (X : JX) (S j : Nat), X 49 3 = nI S → S ≤ 3 → j ≤ 3 → loop2 lb_X3_endWork_76 (F + 1) X (nI j) = some X := fun F X S j h49 hS hj => by
    rw [zl2]
    generalize loop2 lb_X3_endWork_76 F = R9
    unfold lb_X3_endWork_76
    by_cases e : (3 : Int32) ≤ nI j
    · rw [if_pos e]
    · rw [if_neg e, h49, if_pos (show nI S ≤ (3 : Int32) from nI_le (b := 3) hS (by decide))]
  have ys : ∀ F (Y : JX) (S : Nat), Y 0 41 = nI S → S ≤ 3 → loop1 lb_X11_indexes_139 (F + 1) Y = some Y := fun F Y S h41 hS => by
    rw [zl1]
    generalize loop1 lb_X11_indexes_139 F = R9
    unfold lb_X11_indexes_139
    rw [h41, if_pos (show nI S ≤ (3 : Int32) from nI_le (b := 3) hS (by decide))]
  by_cases hS : S ≤ 3
  · exact ⟨X, Y, P, S, xs 999 X S 0 H.2.2.1 hS (by omega), ys 999 Y S H.2.2.2.2 hS, H, hS, FRI.refl⟩
  · have : S = 4 := by
      have := H.2.1
      omega
    subst this
    obtain ⟨H1, -, h49, h37, h41⟩ := H
    have hP := H1.P (by omega)
    have hP2 : P ≤ 240 := by omega
    let A : Nat → Nat := fun j => pc (Y 28) (Y 29) (Y 30) P (sA j)
    have hA : ∀ j, A j ≤ 240 := fun j => Nat.le_trans pc_P hP2
    let w : Nat → Nat := fun j => A j + A (j + 1)
    have hw : ∀ j, j < 3 → w j < 2 ^ 31 := fun j _ => by
      have := hA j
      have := hA (j + 1)
      show A j + A (j + 1) < 2 ^ 31
      omega
    have ex := x_smallest (w := w) h49 hw (fun j hj => by
      obtain ⟨z1, z2⟩ := H1.2.2.2.1 j (by omega)
      obtain ⟨z3, z4⟩ := H1.2.2.2.1 (j + 1) (by omega)
      rw [z1, z2, z3, z4, nI_add, nI_add, nI_add]
      have e1 := pc_A (g := Y 28) (h := Y 29) (D := Y 30) (P := P) (s := j)
      have e2 := pc_A (g := Y 28) (h := Y 29) (D := Y 30) (P := P) (s := j + 1)
      refine congrArg nI ?_
      show _ = pc (Y 28) (Y 29) (Y 30) P (sA j) + pc (Y 28) (Y 29) (Y 30) P (sA (j + 1))
      omega)
    have ey := fun r => y_smallest (w := w) (r139 := r) h41 hw (fun j hj => ⟨_, _, y_countA hP2 h37, y_countA hP2 h37, nI_add _ _⟩)
    have hb := bst_lt w
    obtain ⟨X', Y1, Y2, Y', P', c1, c2, c3, c4, c5, c6⟩ := c_join (s := bst w) ⟨H1, by omega, h49, h37, h41⟩ (by omega)
    refine ⟨X', Y', P', 3, ?_, ?_, c5, Nat.le_refl _, c6⟩
    · show loop2 lb_X3_endWork_76 (999 + 1) X 0 = some X'
      have e := xs 998 X' 3 1 c5.2.2.1 (by omega) (by omega)
      rw [zl2]
      generalize loop2 lb_X3_endWork_76 999 = R9 at e
      unfold lb_X3_endWork_76
      rw [if_neg (show ¬ (3 : Int32) ≤ 0 by decide), h49, if_neg (show ¬ nI 4 ≤ (3 : Int32) by decide), ex, bd_some, c1, bd_some, dV_eq]
      exact e
    · show loop1 lb_X11_indexes_139 (999 + 1) Y = some Y'
      have e := ys 998 Y' 3 c5.2.2.2.2 (by omega)
      rw [zl1]
      generalize loop1 lb_X11_indexes_139 999 = R9 at e
      unfold lb_X11_indexes_139
      rw [h41, if_neg (show ¬ nI 4 ≤ (3 : Int32) by decide), ey R9, c2, bd_some, c3, bd_some, c4, bd_some]
      exact e

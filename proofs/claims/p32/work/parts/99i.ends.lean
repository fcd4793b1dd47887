/-! ===== p32: a work's end touches the index, what was put off and what was read alone ===== -/
def frI (X' X : JX) : Prop := ∀ q, q < 49 ∨ 52 < q → X' q = X q
theorem frI.rf (X : JX) : frI X X := fun _ _ => rfl
theorem frI.tr {X X' X'' : JX} (h : frI X'' X') (h2 : frI X' X) : frI X'' X := fun q a => (h q a).trans (h2 q a)
theorem frI.p {X X' : JX} {k : Nat} {f : Nat → Int32} (hk : 49 ≤ k ∧ k ≤ 52) (h : frI X' X) : frI (pX X' k f) X := fun q a => (pX_ne _ _ (by omega)).trans (h q a)
theorem i_bury {X X1 : JX} {v : Int32} (h : f_X3_bury X v = some X1) : frI X1 X := by
  unfold f_X3_bury b_X3_bury_47 at h
  simp only [dX_eq, dV_eq] at h
  repeat' split at h
  all_goals first
    | (cases h; done)
    | (cases h; exact frI.rf _)
    | (cases h; exact frI.p (by decide) (frI.rf _))
    | (cases h; exact frI.p (by decide) (frI.p (by decide) (frI.rf _)))
    | (cases h; exact frI.p (by decide) (frI.p (by decide) (frI.p (by decide) (frI.rf _))))
theorem i_addSeg_loop : ∀ F (X : JX) (v : Int32) (X1 : JX), loop2 lb_X3_addSegment_38 F X v = some X1 → frI X1 X := by
  intro F
  induction F with
  | zero => intro X v X1 h; cases h
  | succ F ih =>
    intro X v X1 h
    rw [zl2] at h
    generalize loop2 lb_X3_addSegment_38 F = R9 at h ih
    unfold lb_X3_addSegment_38 b_X3_addSegment_75 at h
    simp only [dX_eq, dV_eq] at h
    split at h
    · cases h; exact frI.p (by decide) (frI.rf _)
    · obtain ⟨t, -, h⟩ := bd_inv h
      repeat' split at h
      all_goals first
        | (cases h; done)
        | exact ih _ _ _ h
        | exact (ih _ _ _ h).tr (frI.p (by decide) (frI.p (by decide) (frI.rf _)))
theorem i_addSeg {X X1 : JX} (h : f_X3_addSegment X = some X1) : frI X1 X := by
  unfold f_X3_addSegment l_X3_addSegment_38 at h
  simp only [dX_eq] at h
  repeat' split at h
  all_goals first
    | (cases h; done)
    | (cases h; exact frI.rf _)
    | exact (i_addSeg_loop _ _ _ _ h).tr (frI.p (by decide) (frI.p (by decide) (frI.rf _)))
theorem i_close_loop {c : Int32} : ∀ F (X : JX) (v : Int32) (X1 : JX), loop2 (lb_X3_close_66 c) F X v = some X1 → frI X1 X := by
  intro F
  induction F with
  | zero => intro X v X1 h; cases h
  | succ F ih =>
    intro X v X1 h
    rw [zl2] at h
    generalize loop2 (lb_X3_close_66 c) F = R9 at h ih
    unfold lb_X3_close_66 b_X3_close_92 at h
    simp only [dX_eq, dV_eq] at h
    repeat' split at h
    all_goals first
      | (cases h; done)
      | (cases h; exact frI.p (by decide) (frI.rf _))
      | exact ih _ _ _ h
      | exact (ih _ _ _ h).tr (frI.p (by decide) (frI.rf _))
theorem i_close_loop1 {c : Int32} : ∀ F (X : JX) (v : Int32) (X1 : JX), loop2 (lb_X3_close_15 c) F X v = some X1 → frI X1 X := by
  intro F
  induction F with
  | zero => intro X v X1 h; cases h
  | succ F ih =>
    intro X v X1 h
    rw [zl2] at h
    generalize loop2 (lb_X3_close_15 c) F = R9 at h ih
    unfold lb_X3_close_15 b_X3_close_64 l_X3_close_66 at h
    simp only [dX_eq, dV_eq] at h
    repeat' split at h
    all_goals first
      | (cases h; done)
      | exact i_close_loop _ _ _ _ h
      | exact (ih _ _ _ h).tr (frI.p (by decide) (frI.p (by decide) (frI.rf _)))
theorem i_close {X X1 : JX} {v : Int32} (h : f_X3_close X v = some X1) : frI X1 X := by
  unfold f_X3_close l_X3_close_15 at h
  repeat' split at h
  all_goals first
    | (cases h; exact frI.rf _)
    | exact i_close_loop1 _ _ _ _ h
theorem i_join_loop {c : Int32} : ∀ F (X : JX) (v : Int32) (X1 : JX), loop2 (lb_X3_joinWithNext_46 c) F X v = some X1 → frI X1 X := by
  intro F
  induction F with
  | zero => intro X v X1 h; cases h
  | succ F ih =>
    intro X v X1 h
    rw [zl2] at h
    generalize loop2 (lb_X3_joinWithNext_46 c) F = R9 at h ih
    unfold lb_X3_joinWithNext_46 b_X3_joinWithNext_71 at h
    simp only [dX_eq, dV_eq] at h
    split at h
    · obtain ⟨X3, g1, g2⟩ := bd_inv h
      cases g2
      exact i_close g1
    · repeat' split at h
      all_goals first
        | (cases h; done)
        | exact ih _ _ _ h
        | exact (ih _ _ _ h).tr (frI.p (by decide) (frI.rf _))
theorem i_join {X X1 : JX} {v : Int32} (h : f_X3_joinWithNext X v = some X1) : frI X1 X := by
  unfold f_X3_joinWithNext l_X3_joinWithNext_46 at h
  simp only [dX_eq] at h
  repeat' split at h
  all_goals first
    | (cases h; done)
    | (cases h; exact frI.rf _)
    | exact (i_join_loop _ _ _ _ h).tr (frI.p (by decide) (frI.p (by decide) (frI.rf _)))
theorem i_end76_loop : ∀ F (X : JX) (v : Int32) (X1 : JX), loop2 lb_X3_endWork_76 F X v = some X1 → frI X1 X := by
  intro F
  induction F with
  | zero => intro X v X1 h; cases h
  | succ F ih =>
    intro X v X1 h
    rw [zl2] at h
    generalize loop2 lb_X3_endWork_76 F = R9 at h ih
    unfold lb_X3_endWork_76 at h
    simp only [dV_eq] at h
    split at h
    · cases h; exact frI.rf _
    · split at h
      · cases h; exact frI.rf _
      · obtain ⟨t, -, h⟩ := bd_inv h
        obtain ⟨X8, g1, g2⟩ := bd_inv h
        exact (ih _ _ _ g2).tr (i_join g1)
theorem i_end42_loop : ∀ F (X : JX) (v : Int32) (X1 : JX), loop2 lb_X3_endWork_42 F X v = some X1 → frI X1 X := by
  intro F
  induction F with
  | zero => intro X v X1 h; cases h
  | succ F ih =>
    intro X v X1 h
    rw [zl2] at h
    generalize loop2 lb_X3_endWork_42 F = R9 at h ih
    unfold lb_X3_endWork_42 b_X3_endWork_68 l_X3_endWork_76 at h
    simp only [dV_eq] at h
    split at h
    · exact i_end76_loop _ _ _ _ h
    · split at h
      · exact ih _ _ _ h
      · split at h
        · split at h
          · exact ih _ _ _ h
          · obtain ⟨X4, g1, g2⟩ := bd_inv h
            exact (ih _ _ _ g2).tr (i_close g1)
        · cases h
theorem i_end2_loop : ∀ F (X : JX) (v : Int32) (X1 : JX), loop2 lb_X3_endWork_2 F X v = some X1 → frI X1 X := by
  intro F
  induction F with
  | zero => intro X v X1 h; cases h
  | succ F ih =>
    intro X v X1 h
    rw [zl2] at h
    generalize loop2 lb_X3_endWork_2 F = R9 at h ih
    unfold lb_X3_endWork_2 b_X3_endWork_24 b_X3_endWork_29 l_X3_endWork_42 at h
    simp only [dV_eq] at h
    have bur : ∀ {X : JX} {w : Int32}, ((f_X3_bury X v).bind fun X5 => R9 X5 w) = some X1 → frI X1 X := fun h => by
      obtain ⟨X5, g1, g2⟩ := bd_inv h
      exact (ih _ _ _ g2).tr (i_bury g1)
    split at h
    · obtain ⟨X4, g1, g2⟩ := bd_inv h
      exact (i_end42_loop _ _ _ _ g2).tr (i_addSeg g1)
    · obtain ⟨t, -, h⟩ := bd_inv h
      split at h
      · exact bur h
      · obtain ⟨t, -, h⟩ := bd_inv h
        split at h
        · exact ih _ _ _ h
        · exact bur h
/-- a work's end -/
theorem i_ends {X X1 : JX} {v w : Int32} (h : b_X4_doSteps_42 X v = some (w, X1)) : w = v ∧ (∀ q, q < 49 ∨ 52 < q → q ≠ 42 → q ≠ 48 → X1 q = X q) ∧ (∀ n, n < 60 → X1 48 n = 0) ∧ ∀ n, n < 60 → X1 42 n = 0 := by
  unfold b_X4_doSteps_42 at h
  obtain ⟨X4, g1, h⟩ := bd_inv h
  obtain ⟨X5, g2, h⟩ := bd_inv h
  obtain ⟨X6, g3, h⟩ := bd_inv h
  have e1 : v = w := congrArg Prod.fst (Option.some.inj h)
  have e2 : X6 = X1 := congrArg Prod.snd (Option.some.inj h)
  subst e2
  obtain ⟨Xa, a1, a2, a3⟩ := x_end48 60 0 1000 X (Nat.zero_add _) (by omega)
  have ea : some X4 = some Xa := g1.symm.trans a1
  cases ea
  obtain ⟨Xb, b1, b2, b3⟩ := x_end42 60 0 1000 X5 (Nat.zero_add _) (by omega)
  have eb : some X6 = some Xb := g3.symm.trans b1
  cases eb
  have hi : frI X5 X4 := i_end2_loop 1000 X4 0 X5 g2
  refine ⟨e1.symm, fun q q1 q2 q3 => (b2 q q2).trans ((hi q q1).trans (a2 q q3)), fun n hn => ?_, fun n hn => ?_⟩
  · rw [b2 48 (by omega), hi 48 (by omega), a3 n, if_pos ⟨Nat.zero_le _, hn⟩]
  · rw [b3 n, if_pos ⟨Nat.zero_le _, hn⟩]

/-! ===== p32: what a step leaves, read off the class's own functions ===== -/
theorem bd_inv {α β : Type} {o : Option α} {f : α → Option β} {b : β} (h : o.bind f = some b) : ∃ a, o = some a ∧ f a = some b := Option.bind_eq_some_iff.mp h
theorem i_add {X X1 : JX} {n : Nat} {k : Int32} (hn : n < 60) (h : f_X0_add X (nI n) k = some X1) : X1 47 = upd (X 47) n k ∧ frX X1 X := by
  have b : ∀ X2, frX X2 X → X2 47 = X 47 → b_X0_add_56 X2 (nI n) k = some X1 → X1 47 = upd (X 47) n k ∧ frX X1 X := by
    intro X2 hf h47 h
    unfold b_X0_add_56 at h
    rw [if_pos (n_ok60 hn), dX_eq, nI_clamp (sm hn)] at h
    cases h
    refine ⟨?_, fun q a b c => ?_⟩
    · rw [pX_self, h47]
    · rw [pX_ne _ _ c]; exact hf q a b c
  unfold f_X0_add at h
  rw [if_neg (nI_pos (sm hn)), if_pos (l60 hn), if_pos (n_ok60 hn)] at h
  split at h
  · exact b X (frX.rf X) rfl h
  · split at h
    · exact b X (frX.rf X) rfl h
    · split at h
      · exact b X (frX.rf X) rfl h
      · split at h
        · rw [dX_eq, dX_eq] at h
          refine b _ ?_ ?_ h
          · intro q a b c
            rw [pX_ne _ _ a, pX_ne _ _ b]
          · rfl
        · cases h
theorem i_take_loop {v : Int32} : ∀ F (X : JX) (a b : Int32) (X1 : JX), loop3 (lb_X0_takeAway_20 v) F X a b = some X1 → ∀ q, q ≠ 45 → q ≠ 46 → X1 q = X q := by
  intro F
  induction F with
  | zero => intro X a b X1 h; cases h
  | succ F ih =>
    intro X a b X1 h q q1 q2
    rw [zl3] at h
    generalize loop3 (lb_X0_takeAway_20 v) F = R9 at h ih
    unfold lb_X0_takeAway_20 b_X0_takeAway_65 at h
    simp only [dX_eq, dV_eq] at h
    repeat' split at h
    all_goals first
      | (cases h; done)
      | (cases h; exact pX_ne _ _ q1)
      | exact ih _ _ _ _ h q q1 q2
      | (rw [ih _ _ _ _ h q q1 q2, pX_ne _ _ q2])
theorem i_takeAct {X X1 : JX} {n : Nat} (hn : n < 60) (h : f_X0_takeAway X (nI n) = some X1) : X1 47 = upd (X 47) n 0 ∧ frX X1 X := by
  unfold f_X0_takeAway f_X0_kindOf at h
  rw [if_neg (nI_pos (sm hn)), if_neg (nl60 hn), if_pos (n_ok60 hn), bd_some, nI_clamp (sm hn)] at h
  split at h
  · rw [if_pos (n_ok60 hn), dX_eq] at h
    have hl := i_take_loop 1000 _ _ _ _ h
    refine ⟨?_, fun q a b c => ?_⟩
    · rw [hl 47 (by decide) (by decide), pX_self]
    · rw [hl q a b, pX_ne _ _ c]
  · rename_i e
    have e : X 47 n = 0 := Classical.not_not.mp e
    cases h
    refine ⟨?_, frX.rf X⟩
    funext j
    rw [u_at]
    by_cases q : j = n
    · rw [if_pos q, q, e]
    · rw [if_neg q]
theorem i_kids_loop {v : Int32} : ∀ F i (X X1 : JX), i ≤ 60 → loop2 (lb_X4_lookAtFolder_10 v) F X (nI i) = some X1 → frX X1 X ∧ ∀ j, X1 47 j = if i ≤ j ∧ j < 60 ∧ X 2 j = v then 1 else X 47 j := by
  intro F
  induction F with
  | zero => intro i X X1 _ h; cases h
  | succ F ih =>
    intro i X X1 hi h
    rw [zl2] at h
    generalize loop2 (lb_X4_lookAtFolder_10 v) F = R9 at h ih
    unfold lb_X4_lookAtFolder_10 b_X4_lookAtFolder_37 at h
    simp only [dV_eq] at h
    by_cases hi6 : i < 60
    · rw [if_neg (nl60 hi6), x_parentOf hi6, bd_some] at h
      by_cases e : X 2 i = v
      · rw [if_neg (fun z => z e)] at h
        obtain ⟨X2, h1, h2⟩ := bd_inv h
        obtain ⟨a, b⟩ := i_add hi6 h1
        rw [n_add1] at h2
        obtain ⟨c, d⟩ := ih (i + 1) X2 X1 (by omega) h2
        refine ⟨c.tr b, fun j => ?_⟩
        rw [d j, b 2 (by decide) (by decide) (by decide), a, u_at]
        by_cases q : j = i
        · subst q
          rw [if_neg (by omega), if_pos rfl, if_pos ⟨Nat.le_refl _, hi6, e⟩]
        · rw [if_neg q]
          by_cases q2 : i + 1 ≤ j ∧ j < 60 ∧ X 2 j = v
          · rw [if_pos q2, if_pos ⟨by omega, q2.2⟩]
          · rw [if_neg q2, if_neg (fun z => q2 ⟨by omega, z.2⟩)]
      · rw [if_pos e, n_add1] at h
        obtain ⟨c, d⟩ := ih (i + 1) X X1 (by omega) h
        refine ⟨c, fun j => ?_⟩
        rw [d j]
        by_cases q2 : i + 1 ≤ j ∧ j < 60 ∧ X 2 j = v
        · rw [if_pos q2, if_pos ⟨by omega, q2.2⟩]
        · rw [if_neg q2, if_neg (fun z => q2 ⟨by
            rcases Nat.lt_or_ge i j with w | w
            · exact w
            · exact absurd (by rw [show i = j by omega]; exact z.2.2) e, z.2⟩)]
    · have : i = 60 := by omega
      subst this
      rw [if_pos g60] at h
      cases h
      exact ⟨frX.rf _, fun j => by rw [if_neg (by omega)]⟩
theorem i_unmet_loop {q0 : Nat} (hq : q0 + 3 < 45) : ∀ F i (X X1 : JX), i ≤ 60 → loop2 (lb_X4_lookAtUnmet_2 q0) F X (nI i) = some X1 → frX X1 X ∧ ∀ j, X1 47 j = if i ≤ j ∧ j < 60 ∧ X 36 j ≠ 0 ∧ X (q0 + 3) j = 0 then 1 else X 47 j := by
  intro F
  induction F with
  | zero => intro i X X1 _ h; cases h
  | succ F ih =>
    intro i X X1 hi h
    rw [zl2] at h
    generalize loop2 (lb_X4_lookAtUnmet_2 q0) F = R9 at h ih
    unfold lb_X4_lookAtUnmet_2 b_X4_lookAtUnmet_36 at h
    simp only [dV_eq] at h
    by_cases hi6 : i < 60
    · have skip : ¬ (X 36 i ≠ 0 ∧ X (q0 + 3) i = 0) → R9 X (nI i + 1) = some X1 → frX X1 X ∧ ∀ j, X1 47 j = if i ≤ j ∧ j < 60 ∧ X 36 j ≠ 0 ∧ X (q0 + 3) j = 0 then 1 else X 47 j := by
        intro e h
        rw [n_add1] at h
        obtain ⟨c, d⟩ := ih (i + 1) X X1 (by omega) h
        refine ⟨c, fun j => ?_⟩
        rw [d j]
        by_cases q2 : i + 1 ≤ j ∧ j < 60 ∧ X 36 j ≠ 0 ∧ X (q0 + 3) j = 0
        · rw [if_pos q2, if_pos ⟨by omega, q2.2⟩]
        · rw [if_neg q2, if_neg (fun z => q2 ⟨by
            rcases Nat.lt_or_ge i j with w | w
            · exact w
            · exact absurd (by rw [show i = j by omega]; exact z.2.2) e, z.2⟩)]
      rw [if_neg (nl60 hi6), x_has hi6, bd_some] at h
      by_cases e36 : X 36 i = 0
      · rw [bo_f (fun z => z e36), if_pos rfl] at h
        exact skip (fun z => z.1 e36) h
      · rw [bo_t e36, if_neg one0] at h
        unfold f_X1_hasMet at h
        rw [if_neg (nI_pos (sm hi6)), if_neg (nl60 hi6), if_pos (n_ok60 hi6), nI_clamp (sm hi6)] at h
        by_cases e19 : X (q0 + 3) i = 0
        · rw [if_pos e19, bd_some, if_neg (fun z => z rfl)] at h
          obtain ⟨X2, h1, h2⟩ := bd_inv h
          obtain ⟨a, b⟩ := i_add hi6 h1
          rw [n_add1] at h2
          obtain ⟨c, d⟩ := ih (i + 1) X2 X1 (by omega) h2
          refine ⟨c.tr b, fun j => ?_⟩
          rw [d j, b 36 (by decide) (by decide) (by decide), b (q0 + 3) (by omega) (by omega) (by omega), a, u_at]
          by_cases q : j = i
          · subst q
            rw [if_neg (by omega), if_pos rfl, if_pos ⟨Nat.le_refl _, hi6, e36, e19⟩]
          · rw [if_neg q]
            by_cases q2 : i + 1 ≤ j ∧ j < 60 ∧ X 36 j ≠ 0 ∧ X (q0 + 3) j = 0
            · rw [if_pos q2, if_pos ⟨by omega, q2.2⟩]
            · rw [if_neg q2, if_neg (fun z => q2 ⟨by omega, z.2⟩)]
        · rw [if_neg e19, bd_some, if_pos one0] at h
          exact skip (fun z => e19 z.2) h
    · have : i = 60 := by omega
      subst this
      rw [if_pos g60] at h
      cases h
      exact ⟨frX.rf _, fun j => by rw [if_neg (by omega)]⟩
/-! the folders that wait -/
def WF (X : JX) (q w : Nat) : Prop := (w ≤ 60 ∧ X q 3 = nI w) ∧ (∀ j, j < w → ∃ n, n < 60 ∧ X (q + 1) j = nI n) ∧ (∀ j k, j < w → k < w → X (q + 1) j = X (q + 1) k → j = k) ∧ ∀ n, n < 60 → (X (q + 2) n ≠ 0 ↔ ∃ j, j < w ∧ X (q + 1) j = nI n)
theorem WF.fr {X X' : JX} {q w : Nat} (h : WF X q w) (h0 : X' q 3 = X q 3) (h1 : X' (q + 1) = X (q + 1)) (h2 : X' (q + 2) = X (q + 2)) : WF X' q w := by
  unfold WF
  rw [h0, h1, h2]
  exact h
theorem WF.room {X : JX} {q w n : Nat} (h : WF X q w) (hn : n < 60) (hno : X (q + 2) n = 0) : w < 60 := by
  obtain ⟨⟨h0, -⟩, h1, h2, h3⟩ := h
  by_cases hw : w < 60
  · exact hw
  · have hno' : ∀ j, j < w → X (q + 1) j ≠ nI n := fun j hj e => (h3 n hn).mpr ⟨j, hj, e⟩ hno
    have := holes 60 61 (fun j => if j < w then (X (q + 1) j).toNatClampNeg else n) (fun i hi => by
      show (if i < w then (X (q + 1) i).toNatClampNeg else n) < 60
      by_cases c : i < w
      · rw [if_pos c]
        obtain ⟨m, m6, e⟩ := h1 i c
        rw [e, nI_clamp (sm m6)]; exact m6
      · rw [if_neg c]; exact hn) (fun i j hij hj => by
      show (if i < w then (X (q + 1) i).toNatClampNeg else n) ≠ (if j < w then (X (q + 1) j).toNatClampNeg else n)
      rw [if_pos (show i < w by omega)]
      obtain ⟨m, m6, e⟩ := h1 i (by omega)
      by_cases c : j < w
      · rw [if_pos c]
        obtain ⟨m', m6', e'⟩ := h1 j c
        intro z
        rw [e, e', nI_clamp (sm m6), nI_clamp (sm m6')] at z
        have := h2 i j (by omega) c (by rw [e, e', z])
        omega
      · rw [if_neg c]
        intro z
        rw [e, nI_clamp (sm m6)] at z
        exact hno' i (by omega) (by rw [e, z]))
    omega
theorem i_wait {X X1 : JX} {q w n : Nat} (hw : WF X q w) (hn : n < 60) (h : f_X1_letWait X q (nI n) = some X1) : (∀ k, k ≠ q → k ≠ q + 1 → k ≠ q + 2 → X1 k = X k) ∧ (∀ j, j ≠ 3 → X1 q j = X q j) ∧ (∀ j, X1 (q + 2) j ≠ 0 ↔ X (q + 2) j ≠ 0 ∨ j = n) ∧ ∃ w1, WF X1 q w1 := by
  by_cases e : X (q + 2) n = 0
  · have hw6 := hw.room hn e
    rw [x_letWait hn e hw.1.2 hw6] at h
    cases h
    have z1 : (pX (pX (pX X (q + 1) (upd (X (q + 1)) w (nI n))) (q + 2) (upd (X (q + 2)) n 1)) q (upd (X q) 3 (nI (w + 1)))) (q + 1) = upd (X (q + 1)) w (nI n) := (pX_ne _ _ (by omega)).trans ((pX_ne _ _ (by omega)).trans (pX_self _ _ _))
    have z2 : (pX (pX (pX X (q + 1) (upd (X (q + 1)) w (nI n))) (q + 2) (upd (X (q + 2)) n 1)) q (upd (X q) 3 (nI (w + 1)))) (q + 2) = upd (X (q + 2)) n 1 := (pX_ne _ _ (by omega)).trans (pX_self _ _ _)
    have z0 : (pX (pX (pX X (q + 1) (upd (X (q + 1)) w (nI n))) (q + 2) (upd (X (q + 2)) n 1)) q (upd (X q) 3 (nI (w + 1)))) q = upd (X q) 3 (nI (w + 1)) := pX_self _ _ _
    obtain ⟨⟨h0, h0'⟩, h1, h2, h3⟩ := hw
    have hno' : ∀ j, j < w → X (q + 1) j ≠ nI n := fun j hj e9 => (h3 n hn).mpr ⟨j, hj, e9⟩ e
    refine ⟨fun k k0 k1 k2 => (pX_ne _ _ k0).trans ((pX_ne _ _ k2).trans (pX_ne _ _ k1)), fun j hj => by rw [z0, u_at, if_neg hj], fun j => ?_, w + 1, ?_⟩
    · rw [z2, u_at]
      by_cases c : j = n
      · rw [if_pos c]; exact ⟨fun _ => Or.inr c, fun _ => one0⟩
      · rw [if_neg c]; exact ⟨Or.inl, fun z => z.resolve_right c⟩
    · unfold WF
      rw [z0, z1, z2]
      refine ⟨⟨by omega, by rw [u_at, if_pos rfl]⟩, fun j hj => ?_, fun j k hj hk => ?_, fun m hm => ?_⟩
      · rw [u_at]
        by_cases c : j = w
        · rw [if_pos c]; exact ⟨n, hn, rfl⟩
        · rw [if_neg c]; exact h1 j (by omega)
      · rw [u_at, u_at]
        by_cases c : j = w
        · by_cases c' : k = w
          · intro _; omega
          · rw [if_pos c, if_neg c']; intro z; exact absurd z.symm (hno' k (by omega))
        · by_cases c' : k = w
          · rw [if_neg c, if_pos c']; intro z; exact absurd z (hno' j (by omega))
          · rw [if_neg c, if_neg c']; exact h2 j k (by omega) (by omega)
      · rw [u_at]
        by_cases c : m = n
        · rw [if_pos c]
          refine ⟨fun _ => ⟨w, by omega, by rw [u_at, if_pos rfl, c]⟩, fun _ => one0⟩
        · rw [if_neg c, h3 m hm]
          constructor
          · rintro ⟨j, hj, ej⟩
            exact ⟨j, by omega, by rw [u_at, if_neg (by omega)]; exact ej⟩
          · rintro ⟨j, hj, ej⟩
            rw [u_at] at ej
            by_cases c2 : j = w
            · rw [if_pos c2] at ej
              exact absurd ((nI_eq (sm hn) (sm hm)).mp ej).symm c
            · rw [if_neg c2] at ej
              exact ⟨j, by omega, ej⟩
  · have e1 : X1 = X := by
      unfold f_X1_letWait b_X1_letWait_15 at h
      rw [if_neg (nI_pos (sm hn)), if_neg (nl60 hn), if_neg one0, if_pos (n_ok60 hn), nI_clamp (sm hn), if_pos e] at h
      cases h
      rfl
    subst e1
    refine ⟨fun _ _ _ _ => rfl, fun _ _ => rfl, fun j => ⟨Or.inl, fun z => ?_⟩, w, hw⟩
    rcases z with z | z
    · exact z
    · rw [z]; exact e

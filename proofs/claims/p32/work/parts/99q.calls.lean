/-! ===== p32: works of few steps, and those on battery ===== -/
theorem e_work {M m : Nat} {X : JX} (hB : LB M X) (m1 : 1 ≤ m) (m2 : m ≤ 500) : ∃ d X1, f_X10_work X (nI m) = some (none, nI d, X1) ∧ d ≤ m ∧ LB M X1 ∧ ∀ q, q < 13 ∨ q = 34 ∨ (52 < q ∧ q < 116) → X1 q = X q := by
  obtain ⟨g, hC, h9, hM, h07, e8⟩ := hB
  obtain ⟨d, X', h1, h2, h3, h4⟩ := wk0 g e8 hM.2 h9 hC h07 m1 m2
  have f := h4.2
  exact ⟨d, X', h1, h2, ⟨h3, h4.1, by rw [f 1 (by omega)]; exact h9, hM, by rw [f 0 (by omega)]; exact h07, e8.fr (f 4 (by omega)) (f 8 (by omega))⟩, f⟩
theorem x_segments {M : Nat} {X : JX} (hB : LB M X) : ∃ s, s ≤ 3 ∧ f_X10_segments X = some (nI s) := by
  obtain ⟨⟨Y, hY⟩, hC, h9, ⟨hM1, hM⟩, h07, e8⟩ := hB
  obtain ⟨A, P, S, -, -, -, -, ⟨-, hIX, hIQ⟩, -⟩ := hY.one hC.1.1 h9 (by omega)
  refine ⟨S, hIQ.1, ?_⟩
  have : f_X10_segments X = some (X 49 3) := rfl
  rw [this, hIX.1]
/-- what a work on battery leaves -/
theorem wkB {i M : Nat} {X Y : JX} (hY : Rel i X Y) (hi : i + 5 ≤ 2560) (h9 : X 1 9 = nI M) (hM : M ≤ 24) (hC : CI M X) (h07 : X 0 7 = 1) : ∃ d X' Y', f_X10_work X 60 = some (none, nI d, X') ∧ d ≤ 20 ∧ Rel (i + 5) X' Y' ∧ CI M X' ∧ (∀ q, q < 13 ∨ q = 34 ∨ (52 < q ∧ q < 116) → q ≠ 0 → X' q = X q) ∧ ∀ j, j ≠ 8 → X' 0 j = X 0 j := by
  obtain ⟨e, v, X', w, Y', h1, -, -, -, hr⟩ := op_16 hY hi 60
  obtain ⟨A, P, S, ⟨t1, t2, t3⟩, -, -, -, -, ⟨s1, s2, s3, s4, s5⟩, ⟨-, -, -, ⟨u, q5, q6⟩, -⟩⟩ := hY.one hC.1.1 h9 (by omega)
  obtain ⟨u0, hu0, eu0⟩ : ∃ u0, u0 ≤ 20 ∧ X 0 8 = nI u0 := by
    rw [s5]
    by_cases q : Y 0 35 = Y 0 1 / 60
    · rw [if_pos q]; exact ⟨u, q5, q6⟩
    · rw [if_neg q]; exact ⟨0, by omega, rfl⟩
  have e20 : (20 : Int32) - nI u0 = nI (20 - u0) := n_sub (a := 20) hu0
  have hx : f_X10_work X 60 = (f_X4_doSteps X (nI (20 - u0))).bind fun t1 => nX (pX t1.2 (0) (upd (t1.2 (0)) 8 ((t1.2 (0) 8) + t1.1))) fun X2 => some (none, t1.1, X2) := by
    unfold f_X10_work
    rw [if_neg (by decide), if_pos (by decide), if_pos (show ¬ X 0 7 = 0 by rw [h07]; exact one0), eu0, e20, if_pos (show nI (20 - u0) < 60 from nI_lt (b := 60) (by omega) (by decide))]
  have h1' := h1
  rw [hx] at h1
  obtain ⟨⟨tv, tX⟩, g1, g2⟩ := bd_inv h1
  rw [dX_eq] at g2
  obtain ⟨d, X1, Y1, P1, A1, b1, b2, b3, b4, -, b6, b7⟩ := i_steps hY (by omega) hC.1.1 h9 (by omega) (show 20 - u0 ≤ 500 by omega) (fun _ X' => WI M X X') ⟨hC, fun _ _ => rfl⟩ (fun d Xa Ya P A c X1 c1 c2 c3 c4 c5 c6 => (WI_step c2 hM (by omega) (by omega) (by omega) c5 c3).1) g1
  subst b1
  have hw := WI_ends b4 b6 b7
  have g3 := Option.some.inj g2
  have e1 : none = e := congrArg Prod.fst g3
  have e2 : nI d = v := congrArg (fun z => z.2.1) g3
  have e3 : pX tX 0 (upd (tX 0) 8 (tX 0 8 + nI d)) = X' := congrArg (fun z => z.2.2) g3
  have o : ∀ q, q ≠ 0 → X' q = tX q := fun q q0 => by rw [← e3, pX_ne _ _ q0]
  have hCI : CI M X' := by
    obtain ⟨⟨a1, a2, a3⟩, ⟨c1, c2⟩, hE, hW⟩ := hw.1
    refine ⟨⟨by rw [o 11 (by omega)]; exact a1, by rw [o 12 (by omega)]; exact a2, by rw [o 13 (by omega)]; exact a3⟩, ⟨by rw [o 6 (by omega)]; exact c1, by rw [o 48 (by omega)]; exact c2⟩, ?_, hW.same (fun q hq => o q (by omega))⟩
    unfold EP
    rw [o 36 (by omega), o 37 (by omega)]
    exact hE
  refine ⟨d, X', Y', ?_, by omega, hr, hCI, fun q hq q0 => (o q q0).trans (hw.2 q hq), fun j hj => ?_⟩
  · rw [h1', ← e1, ← e2]
  · rw [← e3, pX_self, u_at, if_neg hj, hw.2 0 (by omega)]
theorem e_batt {M t : Nat} {X : JX} (hB : LB M X) (hT : LT t X) (ht : t < 60) : ∃ Xa, f_X10_battery X 1 = some (0, Xa) ∧ ∃ d Xb, d ≤ 20 ∧ f_X10_work (mrg X Xa 0) 60 = some (none, nI d, Xb) ∧ ∃ v Xc, f_X10_battery (mrg (mrg X Xa 0) Xb 1) 0 = some (v, Xc) ∧ ∃ v2 Xd, f_X10_pass (mrg (mrg (mrg X Xa 0) Xb 1) Xc 0) 60 = some (none, v2, Xd) ∧ LB M Xd ∧ LT (t + 1) Xd ∧ ∀ q, q < 13 ∨ q = 34 ∨ (52 < q ∧ q < 116) → q ≠ 0 → Xd q = X q := by
  obtain ⟨⟨Y, hY⟩, hC, h9, ⟨hM1, hM⟩, h07, e8⟩ := hB
  obtain ⟨mm, hmm, h06⟩ := hT
  have ea : f_X10_battery X 1 = some (0, pX X 0 (upd (X 0) 7 1)) := by
    unfold f_X10_battery
    rw [dV_eq, if_pos (show okB 1 = true from rfl), dX_eq, h07, if_pos (show okB 0 = true from rfl)]
  obtain ⟨v1, X1, Y1, h1, -, hr1⟩ := op_14 hY 1
  have h1 : f_X10_battery X 1 = some (v1, X1) := h1
  rw [ea] at h1
  have e1 : pX X 0 (upd (X 0) 7 1) = X1 := congrArg Prod.snd (Option.some.inj h1)
  rw [← e1] at hr1
  have lo1 : ∀ q, q < 176 → mrg X (pX X 0 (upd (X 0) 7 1)) 0 q = (pX X 0 (upd (X 0) 7 1)) q := fun q hq => mrg_lo hq
  have o1 : ∀ q, q < 176 → q ≠ 0 → mrg X (pX X 0 (upd (X 0) 7 1)) 0 q = X q := fun q hq q0 => (mrg_lo hq).trans (pX_ne _ _ q0)
  have hC1 : CI M (mrg X (pX X 0 (upd (X 0) 7 1)) 0) := by
    obtain ⟨⟨a1, a2, a3⟩, ⟨c1, c2⟩, hE, hW⟩ := hC
    refine ⟨⟨by rw [o1 11 (by omega) (by omega)]; exact a1, by rw [o1 12 (by omega) (by omega)]; exact a2, by rw [o1 13 (by omega) (by omega)]; exact a3⟩, ⟨by rw [o1 6 (by omega) (by omega)]; exact c1, by rw [o1 48 (by omega) (by omega)]; exact c2⟩, ?_, hW.same (fun q hq => o1 q (by omega) (by omega))⟩
    unfold EP
    rw [o1 36 (by omega) (by omega), o1 37 (by omega) (by omega)]
    exact hE
  obtain ⟨d, Xb, Yb, w1, w2, w3, w4, w5, w6⟩ := wkB (hr1.congr lo1) (by omega) (by rw [o1 1 (by omega) (by omega)]; exact h9) hM hC1 (by rw [lo1 0 (by omega), pX_self, u_at, if_pos rfl])
  have z06 : Xb 0 6 = nI mm := by rw [w6 6 (by omega), lo1 0 (by omega), pX_self, u_at, if_neg (by omega)]; exact h06
  have z07 : Xb 0 7 = 1 := by rw [w6 7 (by omega), lo1 0 (by omega), pX_self, u_at, if_pos rfl]
  generalize hXm : mrg X (pX X 0 (upd (X 0) 7 1)) 0 = Xm at *
  have lo2 : ∀ q, q < 176 → mrg Xm Xb 1 q = Xb q := fun q hq => mrg_lo hq
  have m07 : mrg Xm Xb 1 0 7 = 1 := by rw [lo2 0 (by omega)]; exact z07
  have ec : f_X10_battery (mrg Xm Xb 1) 0 = some (1, pX (mrg Xm Xb 1) 0 (upd (mrg Xm Xb 1 0) 7 0)) := by
    unfold f_X10_battery
    rw [dV_eq, if_pos (show okB 0 = true from rfl), dX_eq, m07, if_pos (show okB 1 = true from rfl)]
  obtain ⟨v3, X3, Y3, h3, -, hr3⟩ := op_14 (w3.congr lo2) 0
  have h3 : f_X10_battery (mrg Xm Xb 1) 0 = some (v3, X3) := h3
  rw [ec] at h3
  have e3 : pX (mrg Xm Xb 1) 0 (upd (mrg Xm Xb 1 0) 7 0) = X3 := congrArg Prod.snd (Option.some.inj h3)
  rw [← e3] at hr3
  have o3 : ∀ q, q < 176 → q ≠ 0 → mrg (mrg Xm Xb 1) (pX (mrg Xm Xb 1) 0 (upd (mrg Xm Xb 1 0) 7 0)) 0 q = Xb q := fun q hq q0 => (mrg_lo hq).trans ((pX_ne _ _ q0).trans (lo2 q hq))
  have n0 : ∀ j, mrg (mrg Xm Xb 1) (pX (mrg Xm Xb 1) 0 (upd (mrg Xm Xb 1 0) 7 0)) 0 0 j = if j = 7 then 0 else Xb 0 j := fun j => by rw [mrg_lo (by omega), pX_self, u_at, lo2 0 (by omega)]
  have hrm := hr3.congr (X' := mrg (mrg Xm Xb 1) (pX (mrg Xm Xb 1) 0 (upd (mrg Xm Xb 1 0) 7 0)) 0) (fun q hq => mrg_lo hq)
  generalize hXn : mrg (mrg Xm Xb 1) (pX (mrg Xm Xb 1) 0 (upd (mrg Xm Xb 1 0) 7 0)) 0 = Xn at *
  have p06 : Xn 0 6 = nI mm := by rw [n0 6, if_neg (by omega)]; exact z06
  have p07 : Xn 0 7 = 0 := by rw [n0 7, if_pos rfl]
  have e60 : nI mm + 60 = nI (mm + 60) := nI_add mm 60
  obtain ⟨v4, X4, hX4, x46, x47, x4o⟩ : ∃ v4 X4, f_X10_pass Xn 60 = some (none, v4, X4) ∧ X4 0 6 = nI (mm + 60) ∧ X4 0 7 = 0 ∧ ∀ q, q ≠ 0 → X4 q = Xn q := by
    unfold f_X10_pass
    rw [if_neg (by decide), if_pos (by decide), p06, e60, if_pos (show nI (mm + 60) ≤ 100000 from nI_le (b := 100000) (by omega) (by decide)), dV_eq, dX_eq]
    split
    · exact ⟨_, _, rfl, by rw [pX_self, u_at, if_pos rfl], by rw [pX_self, u_at, if_neg (by omega)]; exact p07, fun q q0 => pX_ne _ _ q0⟩
    · rw [dX_eq]
      exact ⟨_, _, rfl, by rw [pX_self, u_at, if_neg (by omega), pX_self, u_at, if_pos rfl], by rw [pX_self, u_at, if_neg (by omega), pX_self, u_at, if_neg (by omega)]; exact p07, fun q q0 => (pX_ne _ _ q0).trans (pX_ne _ _ q0)⟩
  obtain ⟨e, v5, X5, w', Y5, h5, -, -, -, hr5⟩ := op_13 hrm 60
  rw [hX4] at h5
  have e5 : X4 = X5 := congrArg (fun z => z.2.2) (Option.some.inj h5)
  rw [← e5] at hr5
  have oo : ∀ q, q < 176 → q ≠ 0 → X4 q = Xb q := fun q hq q0 => (x4o q q0).trans (o3 q hq q0)
  have ob : ∀ q, q < 13 ∨ q = 34 ∨ (52 < q ∧ q < 116) → q ≠ 0 → X4 q = X q := fun q hq q0 => (oo q (by omega) q0).trans ((w5 q hq q0).trans (o1 q (by omega) q0))
  have hC4 : CI M X4 := by
    obtain ⟨⟨a1, a2, a3⟩, ⟨c1, c2⟩, hE, hW⟩ := w4
    refine ⟨⟨by rw [oo 11 (by omega) (by omega)]; exact a1, by rw [oo 12 (by omega) (by omega)]; exact a2, by rw [oo 13 (by omega) (by omega)]; exact a3⟩, ⟨by rw [oo 6 (by omega) (by omega)]; exact c1, by rw [oo 48 (by omega) (by omega)]; exact c2⟩, ?_, hW.same (fun q hq => oo q (by omega) (by omega))⟩
    unfold EP
    rw [oo 36 (by omega) (by omega), oo 37 (by omega) (by omega)]
    exact hE
  refine ⟨_, ea, ?_⟩
  rw [hXm]
  refine ⟨d, Xb, w2, w1, _, _, ec, ?_⟩
  rw [hXn]
  exact ⟨v4, X4, hX4, LB.of hr5 hC4 (by rw [ob 1 (by omega) (by omega)]; exact h9) ⟨hM1, hM⟩ x47 (e8.fr (ob 4 (by omega) (by omega)) (ob 8 (by omega) (by omega))), ⟨mm + 60, by omega, x46⟩, ob⟩

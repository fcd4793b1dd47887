/-- a notice to the root above a node -/
theorem c_above {X Y : JX} {R M n : Nat} {v : Int32} (hT : TY Y M) (hx : TX X Y) (hY : RY Y R) (hX : RX X Y R) (hQ : QX X Y R) (hv : v = 0 ∨ v = 1 ∨ v = 2) (hn : n < 60) : ∃ X' Y', f_X8_tellAbove X (nI n) (v + 1) = some X' ∧ (∀ t, f_X11_over Y (nI n) = some t → f_X11_comes Y t v (nI n) = some Y') ∧ QX X' Y' R ∧ RX X' Y' R ∧ eqC 0 13 X' X ∧ eqC 34 176 X' X ∧ (∀ q, q ≠ 11 → q ≠ 12 → q ≠ 13 → q ≠ 14 → Y' q = Y q) := by
  have hR := hY.1.1
  have ho := y_over hY hT hn
  unfold f_X8_tellAbove
  rw [x_above hX hY hT hx hn, bd_some]
  cases e : ov Y R n with
  | none =>
    refine ⟨X, Y, rfl, fun t ht => ?_, hQ, hX, eqC.rf, eqC.rf, fun _ _ _ _ _ => rfl⟩
    rw [ho, e] at ht
    cases ht
    rfl
  | some r =>
    have hr := ov_lt e
    have hp := rt_in hX.1 (show r < 3 by omega)
    obtain ⟨X', Y', x1, y1, q1, q2, q3, q4⟩ := c_tell hY hX hQ hr hv hn
    refine ⟨X', Y', ?_, fun t ht => ?_, q1, q2, fun q h1 h2 => q3 q (by omega) (by omega) (by omega), fun q h1 h2 => q3 q (by omega) (by omega) (by omega), q4⟩
    · rw [Option.map_some, oC_some, if_pos (hX.1.1 r (by omega)), x1]
      rfl
    · rw [ho, e] at ht
      cases ht
      exact y1

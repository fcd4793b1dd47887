/-! ===== a work: a notice is heard ===== -/
theorem x_first_loop {q k : Nat} (hk : k ≤ 8) : ∀ m i F (X : JX), i + m = k → 1 ≤ i → m + 1 ≤ F → X q 4 = nI k → ∃ X', loop2 (lb_X7_takeFirst_2 q) F X (nI i) = some X' ∧ (∀ c, c ≠ q → c ≠ q + 1 → c ≠ q + 2 → X' c = X c) ∧ X' q = upd (X q) 4 (nI (k - 1)) ∧ (∀ j, X' (q + 1) j = if i ≤ j + 1 ∧ j + 1 < k then X (q + 1) (j + 1) else X (q + 1) j) ∧ ∀ j, X' (q + 2) j = if i ≤ j + 1 ∧ j + 1 < k then X (q + 2) (j + 1) else X (q + 2) j := by
  intro m
  induction m with
  | zero =>
    intro i F X hi h1 hF h4
    obtain ⟨F', rfl⟩ := Nat.exists_eq_add_of_le' hF
    refine ⟨pX X q (upd (X q) 4 (nI (k - 1))), ?_, fun c a _ _ => if_neg a, if_pos rfl, fun j => ?_, fun j => ?_⟩
    · rw [zl2]
      generalize hR9 : loop2 _ F' = R9
      unfold lb_X7_takeFirst_2 b_X7_takeFirst_50
      have e : (if (0 : Int32) < nI k - 1 then nI k - 1 else 0) = nI (k - 1) := by
        rw [n_sub1 (by omega)]
        by_cases z : 0 < k - 1
        · rw [if_pos (show (0 : Int32) < nI (k - 1) from nI_lt (a := 0) z (by omega))]
        · rw [show k - 1 = 0 by omega]; decide
      rw [h4, if_pos (show nI k ≤ nI i from nI_le (by omega) (by omega)), e, dX_eq]
    · rw [p_at, if_neg (by omega), if_neg (by omega)]
    · rw [p_at, if_neg (by omega), if_neg (by omega)]
  | succ m ih =>
    intro i F X hi h1 hF h4
    obtain ⟨F', rfl⟩ := Nat.exists_eq_add_of_le' (show 1 ≤ F by omega)
    let X1 : JX := pX (pX X (q + 1) (upd (X (q + 1)) (i - 1) (X (q + 1) i))) (q + 2) (upd (X (q + 2)) (i - 1) (X (q + 2) i))
    have o : ∀ c, c ≠ q + 1 → c ≠ q + 2 → X1 c = X c := fun c a b => (if_neg b).trans (if_neg a)
    have o1 : X1 (q + 1) = upd (X (q + 1)) (i - 1) (X (q + 1) i) := (if_neg (by omega)).trans (if_pos rfl)
    have o2 : X1 (q + 2) = upd (X (q + 2)) (i - 1) (X (q + 2) i) := if_pos rfl
    obtain ⟨X', a, b, c, d, e⟩ := ih (i + 1) F' X1 (by omega) (by omega) (by omega) (by rw [o q (by omega) (by omega)]; exact h4)
    refine ⟨X', ?_, fun c9 a9 b9 d9 => (b c9 a9 b9 d9).trans (o c9 b9 d9), by rw [c, o q (by omega) (by omega)], fun j => ?_, fun j => ?_⟩
    · rw [zl2]
      generalize hR9 : loop2 _ F' = R9 at a
      have ok := n_ok (show i < 8 by omega) (show 8 < 2 ^ 31 by decide)
      have ok1 := n_ok (show i - 1 < 8 by omega) (show 8 < 2 ^ 31 by decide)
      unfold lb_X7_takeFirst_2
      rw [h4, if_neg (show ¬ nI k ≤ nI i from nI_ge (by omega) (by omega)), if_neg (show ¬ (8 : Int32) ≤ nI i from nI_ge (b := 8) (by omega) (by decide)), if_pos ok, n_sub1 (show 0 < i by omega), if_pos ok1, dX_eq, if_pos ok, if_pos ok1, dX_eq, dV_eq, n_add1, nI_clamp (show i < 2 ^ 31 by omega), nI_clamp (show i - 1 < 2 ^ 31 by omega), show (pX X (q + 1) (upd (X (q + 1)) (i - 1) (X (q + 1) i))) (q + 2) = X (q + 2) from if_neg (by omega)]
      exact a
    · rw [d j, o1, u_at, u_at]
      by_cases z : j + 1 = i
      · rw [if_neg (show ¬ (i + 1 ≤ j + 1 ∧ j + 1 < k) by omega), if_pos (show j = i - 1 by omega), if_pos (show i ≤ j + 1 ∧ j + 1 < k by omega), z]
      · by_cases z2 : i + 1 ≤ j + 1 ∧ j + 1 < k
        · rw [if_pos z2, if_neg (show ¬ j + 1 = i - 1 by omega), if_pos (show i ≤ j + 1 ∧ j + 1 < k by omega)]
        · rw [if_neg z2, if_neg (show ¬ j = i - 1 by omega), if_neg (show ¬ (i ≤ j + 1 ∧ j + 1 < k) by omega)]
    · rw [e j, o2, u_at, u_at]
      by_cases z : j + 1 = i
      · rw [if_neg (show ¬ (i + 1 ≤ j + 1 ∧ j + 1 < k) by omega), if_pos (show j = i - 1 by omega), if_pos (show i ≤ j + 1 ∧ j + 1 < k by omega), z]
      · by_cases z2 : i + 1 ≤ j + 1 ∧ j + 1 < k
        · rw [if_pos z2, if_neg (show ¬ j + 1 = i - 1 by omega), if_pos (show i ≤ j + 1 ∧ j + 1 < k by omega)]
        · rw [if_neg z2, if_neg (show ¬ j = i - 1 by omega), if_neg (show ¬ (i ≤ j + 1 ∧ j + 1 < k) by omega)]
theorem y_notes_loop {r k : Nat} (hr : r < 3) (hk : k < 8) : ∀ m i F (Y : JX), i + m = k → m + 1 ≤ F → Y 11 r = nI k → ∃ Y', loop2 (lb_X11_notes_65 (nI r)) F Y (nI i) = some Y' ∧ (∀ c, c ≠ 12 → c ≠ 13 → Y' c = Y c) ∧ (∀ q, Y' 12 q = if 8 * r + i ≤ q ∧ q < 8 * r + k then Y 12 (q + 1) else Y 12 q) ∧ ∀ q, Y' 13 q = if 8 * r + i ≤ q ∧ q < 8 * r + k then Y 13 (q + 1) else Y 13 q := by
  intro m
  induction m with
  | zero =>
    intro i F Y hi hF h11
    obtain ⟨F', rfl⟩ := Nat.exists_eq_add_of_le' hF
    refine ⟨Y, ?_, fun _ _ _ => rfl, fun q => by rw [if_neg (by omega)], fun q => by rw [if_neg (by omega)]⟩
    rw [zl2]
    generalize hR9 : loop2 _ F' = R9
    unfold lb_X11_notes_65
    rw [if_pos (n_ok4 (by omega)), nI_clamp (show r < 2 ^ 31 by omega), h11, if_pos (show nI k ≤ nI i from nI_le (by omega) (by omega))]
  | succ m ih =>
    intro i F Y hi hF h11
    obtain ⟨F', rfl⟩ := Nat.exists_eq_add_of_le' (show 1 ≤ F by omega)
    let Y1 : JX := pX (pX Y 12 (upd (Y 12) (8 * r + i) (Y 12 (8 * r + i + 1)))) 13 (upd (Y 13) (8 * r + i) (Y 13 (8 * r + i + 1)))
    have h12 : ∀ q, Y1 12 q = if q = 8 * r + i then Y 12 (8 * r + i + 1) else Y 12 q := fun q => rfl
    have h13 : ∀ q, Y1 13 q = if q = 8 * r + i then Y 13 (8 * r + i + 1) else Y 13 q := fun q => rfl
    obtain ⟨Y', a, b, c, d⟩ := ih (i + 1) F' Y1 (by omega) (by omega) h11
    refine ⟨Y', ?_, fun c9 hc hc2 => (b c9 hc hc2).trans ((if_neg hc2).trans (if_neg hc)), fun q => ?_, fun q => ?_⟩
    · rw [zl2]
      generalize hR9 : loop2 _ F' = R9 at a
      have ok1 := n_ok (show 8 * r + i + 1 < 32 by omega) (show 32 < 2 ^ 31 by decide)
      have ok2 := n_ok (show 8 * r + i < 32 by omega) (show 32 < 2 ^ 31 by decide)
      unfold lb_X11_notes_65
      rw [if_pos (n_ok4 (by omega)), nI_clamp (show r < 2 ^ 31 by omega), h11, if_neg (show ¬ nI k ≤ nI i from nI_ge (by omega) (by omega)), n_8 hr (by omega), n_add1, if_pos ok1, if_pos ok2, dX_eq, if_pos ok1, if_pos ok2, dX_eq, dV_eq, n_add1, nI_clamp (show 8 * r + i + 1 < 2 ^ 31 by omega), nI_clamp (show 8 * r + i < 2 ^ 31 by omega)]
      exact a
    · rw [c q, h12, h12]
      by_cases z : q = 8 * r + i
      · rw [if_neg (show ¬ (8 * r + (i + 1) ≤ q ∧ q < 8 * r + k) by omega), if_pos z, if_pos (show 8 * r + i ≤ q ∧ q < 8 * r + k by omega), z]
      · rw [if_neg z]
        by_cases z2 : 8 * r + (i + 1) ≤ q ∧ q < 8 * r + k
        · rw [if_pos z2, if_neg (show ¬ q + 1 = 8 * r + i by omega), if_pos (show 8 * r + i ≤ q ∧ q < 8 * r + k by omega)]
        · rw [if_neg z2, if_neg (show ¬ (8 * r + i ≤ q ∧ q < 8 * r + k) by omega)]
    · rw [d q, h13, h13]
      by_cases z : q = 8 * r + i
      · rw [if_neg (show ¬ (8 * r + (i + 1) ≤ q ∧ q < 8 * r + k) by omega), if_pos z, if_pos (show 8 * r + i ≤ q ∧ q < 8 * r + k by omega), z]
      · rw [if_neg z]
        by_cases z2 : 8 * r + (i + 1) ≤ q ∧ q < 8 * r + k
        · rw [if_pos z2, if_neg (show ¬ q + 1 = 8 * r + i by omega), if_pos (show 8 * r + i ≤ q ∧ q < 8 * r + k by omega)]
        · rw [if_neg z2, if_neg (show ¬ (8 * r + i ≤ q ∧ q < 8 * r + k) by omega)]
theorem c_hear {X Y : JX} {R r A : Nat} (hY : RY Y R) (hX : RX X Y R) (hQ : QX X Y R) (hK : KY Y A) (hKX : KX X Y A) (hr : r < R) (hn : noisy Y r = true) : ∃ X' Y' A', f_X4_hear X (pl X r) = some X' ∧ f_X11_notes Y (nI r) = some Y' ∧ QX X' Y' R ∧ RX X' Y' R ∧ KY Y' A' ∧ KX X' Y' A' ∧ (∀ q, q < 11 ∨ 33 < q → q ≠ 45 → q ≠ 46 → q ≠ 47 → X' q = X q) ∧ (∀ q, q ≠ 0 → q < 11 ∨ 18 < q → q ≠ 25 → q ≠ 26 → q ≠ 27 → Y' q = Y q) ∧ ∀ j, j ≠ 30 → Y' 0 j = Y 0 j := by
  have hR := hY.1.1
  have hr3 : r < 3 := by omega
  have hp := rt_in hX.1 hr3
  have ok4 := n_ok4 (show r < 4 by omega)
  have clr := nI_clamp (show r < 2 ^ 31 by omega)
  obtain ⟨a4, a5, k, k8, e, f, g⟩ := ((QX_is X Y R) ▸ hQ) r hr |>.1
  by_cases e14 : Y 14 r = 0
  · have hk : ¬ k = 0 := fun z => by
      have h9 := of_decide_eq_true hn
      rcases h9 with h9 | h9
      · exact h9 e14
      · exact h9 (by rw [e, z]; decide)
    obtain ⟨g1, g2, g3, n, hn6, g4⟩ := g 0 (by omega)
    have g1 : X (pl X r + 1) 0 = Y 12 (8 * r) + 1 := g1
    have g2 : X (pl X r + 2) 0 = Y 13 (8 * r) := g2
    have g4 : Y 13 (8 * r) = nI n := g4
    have g3 : Y 12 (8 * r) = 0 ∨ Y 12 (8 * r) = 1 ∨ Y 12 (8 * r) = 2 := g3
    let kd : Int32 := if Y 12 (8 * r) = 2 then 2 else 1
    have hkd : kd = 1 ∨ kd = 2 := by
      show (if Y 12 (8 * r) = 2 then (2 : Int32) else 1) = 1 ∨ (if Y 12 (8 * r) = 2 then (2 : Int32) else 1) = 2
      split
      · exact Or.inr rfl
      · exact Or.inl rfl
    obtain ⟨X1, Y1, A1, x1, y1, k1, k2, f1, f2⟩ := c_add hK hKX hn6 hkd
    have x14 : X1 (pl X r) 4 = nI k := by rw [f1 _ (by omega) (by omega) (by omega), a4, e]
    have y111 : Y1 11 r = nI k := by rw [f2.1 11 (by omega) (by omega) (by omega) (by omega)]; exact e
    obtain ⟨X2, x2, fx2, x20, x21, x22⟩ := x_first_loop (q := pl X r) k8 (k - 1) 1 1000 X1 (by omega) (by omega) (by omega) x14
    let Y2 : JX := pX Y1 11 (upd (Y1 11) r (nI (k - 1)))
    obtain ⟨Y3, y3, fy3, y31, y32⟩ := y_notes_loop hr3 (show k - 1 < 8 by omega) (k - 1) 0 1000 Y2 (Nat.zero_add _) (by omega) ((u_at _ _ _ _).trans (if_pos rfl))
    have hX1 : RX X1 Y1 R := hX.fa hR f1 f2
    have hQ1 : QX X1 Y1 R := hQ.fa hR hX.1 f1 f2
    have hpl1 : ∀ s, pl X1 s = pl X s := fun s => pl_fr (fun q _ _ => f1 q (by omega) (by omega) (by omega)) s
    have fy : ∀ c, c ≠ 11 → c ≠ 12 → c ≠ 13 → Y3 c = Y1 c := fun c h1 h2 h3 => (fy3 c h2 h3).trans (if_neg h1)
    have y311 : Y3 11 = upd (Y1 11) r (nI (k - 1)) := (fy3 11 (by omega) (by omega)).trans (if_pos rfl)
    have e12 : Y1 12 = Y 12 := f2.1 12 (by omega) (by omega) (by omega) (by omega)
    have e13 : Y1 13 = Y 13 := f2.1 13 (by omega) (by omega) (by omega) (by omega)
    have e14' : Y1 14 = Y 14 := f2.1 14 (by omega) (by omega) (by omega) (by omega)
    have ey2 : ∀ q, Y2 12 q = Y 12 q := fun q => by show Y1 12 q = _; rw [e12]
    have ey3 : ∀ q, Y2 13 q = Y 13 q := fun q => by show Y1 13 q = _; rw [e13]
    have ex1 : X1 (pl X r + 1) = X (pl X r + 1) := f1 _ (by omega) (by omega) (by omega)
    have ex2 : X1 (pl X r + 2) = X (pl X r + 2) := f1 _ (by omega) (by omega) (by omega)
    have ex0 : X1 (pl X r) = X (pl X r) := f1 _ (by omega) (by omega) (by omega)
    have hxf : ∀ q, q ≠ pl X1 r → q ≠ pl X1 r + 1 → q ≠ pl X1 r + 2 → X2 q = X1 q := fun q h0 h1 h2 => fx2 q (by rw [hpl1] at h0; exact h0) (by rw [hpl1] at h1; exact h1) (by rw [hpl1] at h2; exact h2)
    have q3 : QX X2 Y3 R := by
      refine QX_set hR hX1.1 hQ1 hr (fx2 12 (by omega) (by omega) (by omega)) hxf (fun q h1 h2 => fy q (by omega) (by omega) (by omega)) ?_ (fun s hs hsr => ⟨?_, ?_, fun j hj => ⟨?_, ?_⟩⟩)
      · rw [hpl1]
        refine ⟨?_, ?_, k - 1, by omega, ?_, Or.inl ?_, fun j hj => ?_⟩
        · rw [x20, y311, u_at, u_at, if_pos rfl, if_pos rfl]
        · rw [x20, u_at, if_neg (by decide), ex0, fy 14 (by omega) (by omega) (by omega), e14']; exact a5
        · rw [y311, u_at, if_pos rfl]
        · rw [fy 14 (by omega) (by omega) (by omega), e14']; exact e14
        · obtain ⟨b1, b2, b3, b4⟩ := g (j + 1) (by omega)
          rw [x21, x22, if_pos (show 1 ≤ j + 1 ∧ j + 1 < k by omega), if_pos (show 1 ≤ j + 1 ∧ j + 1 < k by omega), y31, y32, if_pos (show 8 * r + 0 ≤ 8 * r + j ∧ 8 * r + j < 8 * r + (k - 1) by omega), if_pos (show 8 * r + 0 ≤ 8 * r + j ∧ 8 * r + j < 8 * r + (k - 1) by omega), ex1, ex2, ey2, ey3]
          exact ⟨b1, b2, b3, b4⟩
      · rw [y311, u_at, if_neg hsr]
      · rw [fy 14 (by omega) (by omega) (by omega)]
      · rw [y31, if_neg (show ¬ (8 * r + 0 ≤ 8 * s + j ∧ 8 * s + j < 8 * r + (k - 1)) by omega)]; rfl
      · rw [y32, if_neg (show ¬ (8 * r + 0 ≤ 8 * s + j ∧ 8 * s + j < 8 * r + (k - 1)) by omega)]; rfl
    have r3 : RX X2 Y3 R := by
      refine RX_set hR hX1 hr (fx2 11 (by omega) (by omega) (by omega)) (fx2 12 (by omega) (by omega) (by omega)) hxf ?_ (fy 10 (by omega) (by omega) (by omega))
      rw [hpl1, x20, u_at, if_neg (by decide)]
    have k13 : KY Y3 A1 := by
      unfold KY
      rw [fy 0 (by omega) (by omega) (by omega), fy 25 (by omega) (by omega) (by omega), fy 26 (by omega) (by omega) (by omega), fy 27 (by omega) (by omega) (by omega)]
      exact k1
    have k23 : KX X2 Y3 A1 := by
      unfold KX
      rw [fx2 45 (by omega) (by omega) (by omega), fx2 46 (by omega) (by omega) (by omega), fx2 47 (by omega) (by omega) (by omega), fx2 48 (by omega) (by omega) (by omega), fy 25 (by omega) (by omega) (by omega), fy 26 (by omega) (by omega) (by omega), fy 27 (by omega) (by omega) (by omega)]
      exact k2
    refine ⟨X2, Y3, A1, ?_, ?_, q3, r3, k13, k23, fun q h1 h2 h3 h4 => (fx2 q (by omega) (by omega) (by omega)).trans (f1 q h2 h3 h4), fun q h0 h1 h2 h3 h4 => (fy q (by omega) (by omega) (by omega)).trans (f2.1 q h0 h2 h3 h4), fun j hj => by rw [fy 0 (by omega) (by omega) (by omega)]; exact f2.2 j hj⟩
    · unfold f_X4_hear b_X4_hear_42
      have ok : okI (0 : Int32) 8 = true := by decide
      rw [a5, if_pos e14, if_pos ok, if_pos ok, show (0 : Int32).toNatClampNeg = 0 from rfl, g1, g2, g4]
      have key : ∀ z : Int32, z = kd → ((f_X0_add X (nI n) z).bind fun X3 => (f_X7_takeFirst X3 (pl X r)).bind fun X4 => some X4) = some X2 := fun z hz => by
        rw [hz, x1, bd_some]
        show ((loop2 (lb_X7_takeFirst_2 (pl X r)) 1000 X1 (nI 1)).bind fun X4 => some X4) = some X2
        rw [x2, bd_some]
      by_cases z : Y 12 (8 * r) = 2
      · rw [if_neg (fun w => w (by rw [z]; rfl))]
        exact key 2 (by show (2 : Int32) = if Y 12 (8 * r) = 2 then 2 else 1; rw [if_pos z])
      · rw [if_pos (show ¬ Y 12 (8 * r) + 1 = 3 by
          rcases g3 with w | w | w
          · rw [w]; decide
          · rw [w]; decide
          · exact absurd w z)]
        exact key 1 (by show (1 : Int32) = if Y 12 (8 * r) = 2 then 2 else 1; rw [if_neg z])
    · have e8 : (8 : Int32) * nI r = nI (8 * r) := (Int32.ofNat_mul 8 r).symm
      have ok32 := n_ok (show 8 * r < 32 by omega) (show 32 < 2 ^ 31 by decide)
      have key : ∀ z : Int32, z = kd → b_X11_notes_50 Y (nI r) z (nI n) = some Y3 := fun z hz => by
        subst hz
        unfold b_X11_notes_50
        rw [y1, bd_some, if_pos ok4, if_pos ok4, clr, y111, n_sub1 (by omega), dX_eq]
        exact y3
      unfold f_X11_notes
      rw [if_pos ok4, clr, if_pos e14, e8, if_pos ok32, if_pos ok32, nI_clamp (show 8 * r < 2 ^ 31 by omega), g4]
      by_cases z : Y 12 (8 * r) = 2
      · rw [if_neg (fun w => w z)]
        exact key 2 (by show (2 : Int32) = if Y 12 (8 * r) = 2 then 2 else 1; rw [if_pos z])
      · rw [if_pos z]
        exact key 1 (by show (1 : Int32) = if Y 12 (8 * r) = 2 then 2 else 1; rw [if_neg z])
  · have hk : k = 0 := by
      rcases f with z | z
      · exact absurd z e14
      · exact z.2
    subst hk
    let X1 : JX := pX X (pl X r) (upd (X (pl X r)) 5 0)
    let Y1 : JX := pX Y 14 (upd (Y 14) r 0)
    have o : ∀ q, q ≠ pl X r → X1 q = X q := fun q h => if_neg h
    have hpl1 : ∀ s, pl X1 s = pl X s := fun s => by unfold pl; rw [o 12 (by omega)]
    have hY1 : RY Y1 R := hY
    have hX1 : RX X1 Y1 R := RX_set hR hX hr (o 11 (by omega)) (o 12 (by omega)) (fun q h _ _ => o q h) (by simp [X1, p_at, u_at]) rfl
    have hQ1 : QX X1 Y1 R := by
      refine QX_set hR hX.1 hQ hr (o 12 (by omega)) (fun q h _ _ => o q h) (fun q h1 h2 => if_neg (by omega)) ?_ (fun s hs hsr => ⟨rfl, ?_, fun j hj => ⟨rfl, rfl⟩⟩)
      · refine ⟨?_, ?_, 0, by omega, e, Or.inl ?_, fun j hj => absurd hj (Nat.not_lt_zero j)⟩
        · show (pX X (pl X r) (upd (X (pl X r)) 5 0)) (pl X r) 4 = Y 11 r
          rw [p_at, if_pos rfl, u_at, if_neg (by decide)]; exact a4
        · show (pX X (pl X r) (upd (X (pl X r)) 5 0)) (pl X r) 5 = upd (Y 14) r 0 r
          rw [p_at, if_pos rfl, u_at, u_at, if_pos rfl, if_pos rfl]
        · show upd (Y 14) r 0 r = 0
          rw [u_at, if_pos rfl]
      · show upd (Y 14) r 0 s = Y 14 s
        rw [u_at, if_neg hsr]
    obtain ⟨X', Y', x1, y1, q1, q2, q3, q4⟩ := c_begin hY1 hX1 hQ1 hr
    rw [hpl1] at x1 q3
    have fx : ∀ q, q < 11 ∨ 33 < q → X' q = X q := fun q hq => (q3 q (by omega) (by omega) (by omega) (by omega)).trans (o q (by omega))
    have fy : ∀ q, q < 14 ∨ 18 < q → Y' q = Y q := fun q hq => (q4 q (by omega)).trans (if_neg (by omega))
    refine ⟨X', Y', A, ?_, ?_, q1, q2, ?_, ?_, fun q h _ _ _ => fx q h, fun q _ h _ _ _ => fy q (by omega), fun j _ => by rw [fy 0 (by omega)]⟩
    · unfold f_X4_hear
      rw [a5, if_neg e14, if_pos (show okB 0 = true from rfl), dX_eq]
      show ((f_X7_beginCrawl X1 (pl X r)).bind fun X2 => some X2) = _
      rw [x1, bd_some]
    · unfold f_X11_notes
      rw [if_pos ok4, clr, if_neg e14, if_pos ok4, dX_eq]
      show ((f_X11_beginsCrawl Y1 (nI r)).bind fun X2 => some X2) = _
      rw [y1, bd_some]
    · unfold KY
      rw [fy 0 (by omega), fy 25 (by omega), fy 26 (by omega), fy 27 (by omega)]
      exact hK
    · unfold KX
      rw [fx 45 (by omega), fx 46 (by omega), fx 47 (by omega), fx 48 (by omega), fy 25 (by omega), fy 26 (by omega), fy 27 (by omega)]
      exact hKX

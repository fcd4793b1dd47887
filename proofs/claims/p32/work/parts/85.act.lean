/-! ===== a work: the relation within, and an act ===== -/
def RelW (i : Nat) (Xs Ys X Y : JX) (M R P A : Nat) : Prop := (TY Y M ∧ TX X Y ∧ TV Y i) ∧ (RY Y R ∧ RX X Y R ∧ QX X Y R) ∧ (EX X Y ∧ EY Y M ∧ ER Y) ∧ (KY Y A ∧ KX X Y A) ∧ LV Ys Y P ∧ ((X 34 0 = Y 0 28 ∧ X 34 1 = Y 0 29) ∧ SY Y) ∧ (X 0 = Xs 0 ∧ (∀ q, 48 < q → q < 53 → X q = Xs q) ∧ Y 28 = Ys 28 ∧ Y 29 = Ys 29 ∧ Y 2 = Ys 2 ∧ ∀ j, j ≠ 30 → j ≠ 44 → Y 0 j = Ys 0 j)
theorem TV.cells {Y Y' : JX} {i : Nat} (h : TV Y i) (f : ∀ q, 0 < q → q < 11 → Y' q = Y q) : TV Y' i := by
  unfold TV
  rw [f 1 (by omega) (by omega), f 3 (by omega) (by omega), f 4 (by omega) (by omega), f 5 (by omega) (by omega), f 6 (by omega) (by omega), f 7 (by omega) (by omega), f 8 (by omega) (by omega)]
  exact h
theorem SY.cells {Y Y' : JX} (h : SY Y) (f : ∀ j, j ≠ 30 → j ≠ 44 → Y' 0 j = Y 0 j) : SY Y' := by
  unfold SY
  rw [f 1 (by omega) (by omega), f 28 (by omega) (by omega), f 29 (by omega) (by omega), f 34 (by omega) (by omega), f 35 (by omega) (by omega), f 36 (by omega) (by omega)]
  exact h
theorem RelW.go {i M R P A A' : Nat} {Xs Ys X Y X' Y' : JX} (h : RelW i Xs Ys X Y M R P A) (hr : RX X' Y' R) (hq : QX X' Y' R) (he : EX X' Y') (hey : EY Y' M) (her : ER Y') (hk : KY Y' A') (hk2 : KX X' Y' A') (hl : LV Ys Y' P) (x : ∀ q, q < 11 ∨ q = 34 ∨ (48 < q ∧ q < 53) ∨ (55 < q ∧ q < 116) → X' q = X q) (y : ∀ q, 0 < q → q < 11 ∨ q = 28 ∨ q = 29 → Y' q = Y q) (y0 : ∀ j, j ≠ 30 → j ≠ 44 → Y' 0 j = Y 0 j) : RelW i Xs Ys X' Y' M R P A' := by
  obtain ⟨⟨h1, h2, h3⟩, ⟨h4, -, -⟩, -, -, -, ⟨⟨s1, s2⟩, s3⟩, f1, f2, f3, f4, f5, f6⟩ := h
  refine ⟨⟨h1.fr (y0 2 (by omega) (by omega)) (fun q _ _ => y q (by omega) (by omega)), h2.fr (by rw [x 1 (by omega)]) (fun q _ _ => x q (by omega)) (fun q _ _ => x q (by omega)) (y0 2 (by omega) (by omega)) (fun q _ _ => y q (by omega) (by omega)), h3.cells (fun q a b => y q a (by omega))⟩, ⟨h4.fr (y0 12 (by omega) (by omega)) (y 1 (by omega) (by omega)) (y 2 (by omega) (by omega)) (y 3 (by omega) (by omega)) (y 10 (by omega) (by omega)), hr, hq⟩, ⟨he, hey, her⟩, ⟨hk, hk2⟩, hl, ⟨⟨?_, ?_⟩, s3.cells y0⟩, (x 0 (by omega)).trans f1, fun q a b => (x q (by omega)).trans (f2 q a b), (y 28 (by omega) (by omega)).trans f3, (y 29 (by omega) (by omega)).trans f4, (y 2 (by omega) (by omega)).trans f5, fun j a b => (y0 j a b).trans (f6 j a b)⟩
  · rw [x 34 (by omega), y0 28 (by omega) (by omega)]; exact s1
  · rw [x 34 (by omega), y0 29 (by omega) (by omega)]; exact s2
theorem EY.cells {Y Y' : JX} {M : Nat} (h : EY Y M) (h2 : Y' 2 = Y 2) (f : ∀ q, 18 < q → q < 25 → Y' q = Y q) : EY Y' M := by
  unfold EY
  rw [h2, f 22 (by omega) (by omega), f 19 (by omega) (by omega), f 20 (by omega) (by omega), f 23 (by omega) (by omega), f 24 (by omega) (by omega)]
  exact h
theorem ER.cells {Y Y' : JX} (h : ER Y) (h2 : Y' 2 = Y 2) (h19 : Y' 19 = Y 19) (h31 : Y' 31 = Y 31) : ER Y' := by
  unfold ER
  rw [h2, h19, h31]
  exact h
theorem LV.cells {Ys Y Y' : JX} {P : Nat} (h : LV Ys Y P) (h19 : Y' 19 = Y 19) (h30 : Y' 30 = Y 30) (h31 : Y' 31 = Y 31) : LV Ys Y' P := by
  unfold LV
  rw [h19, h30, h31]
  exact h
/-- where only acts come and go -/
theorem RelW.acts {i M R P A A' : Nat} {Xs Ys X Y X' Y' : JX} (h : RelW i Xs Ys X Y M R P A) (x : ∀ q, q ≠ 45 → q ≠ 46 → q ≠ 47 → q ≠ 48 → X' q = X q) (f : frY Y' Y) (hk : KY Y' A') (hk2 : KX X' Y' A') : RelW i Xs Ys X' Y' M R P A' := by
  have h' := h
  obtain ⟨⟨h1, h2, h3⟩, ⟨h4, h5, h6⟩, ⟨h7, h8, h9⟩, -, hL, -⟩ := h'
  have hR := h4.1.1
  have g : ∀ q, 0 < q → q ≠ 25 → q ≠ 26 → q ≠ 27 → Y' q = Y q := fun q a b c d => f.1 q (by omega) b c d
  exact h.go (h5.fr hR (fun q _ _ => x q (by omega) (by omega) (by omega) (by omega)) (g 10 (by omega) (by omega) (by omega) (by omega))) (h6.fr hR h5.1 (fun q _ _ => x q (by omega) (by omega) (by omega) (by omega)) (fun q _ _ => g q (by omega) (by omega) (by omega) (by omega))) (h7.fr (fun q _ _ => x q (by omega) (by omega) (by omega) (by omega)) (fun q _ _ => x q (by omega) (by omega) (by omega) (by omega)) (fun q _ _ => g q (by omega) (by omega) (by omega) (by omega)) (g 31 (by omega) (by omega) (by omega) (by omega))) (h8.cells (g 2 (by omega) (by omega) (by omega) (by omega)) (fun q _ _ => g q (by omega) (by omega) (by omega) (by omega))) (h9.cells (g 2 (by omega) (by omega) (by omega) (by omega)) (g 19 (by omega) (by omega) (by omega) (by omega)) (g 31 (by omega) (by omega) (by omega) (by omega))) hk hk2 (hL.cells (g 19 (by omega) (by omega) (by omega) (by omega)) (g 30 (by omega) (by omega) (by omega) (by omega)) (g 31 (by omega) (by omega) (by omega) (by omega))) (fun q hq => x q (by omega) (by omega) (by omega) (by omega)) (fun q a b => g q a (by omega) (by omega) (by omega)) (fun j a _ => f.2 j a)
theorem ov_fa {Y Y' : JX} {R n : Nat} (f : frY Y' Y) : ov Y' R n = ov Y R n := by
  unfold ov ro
  rw [prY_fr (f.1 1 (by omega) (by omega) (by omega) (by omega)) (f.1 3 (by omega) (by omega) (by omega) (by omega)), f.1 10 (by omega) (by omega) (by omega) (by omega)]
theorem ov_on {Y : JX} {M R n r : Nat} (hT : TY Y M) (e : ov Y R n = some r) : Y 1 n ≠ 0 ∧ n ≠ 0 := by
  refine ⟨(fun z => by rw [ov_gone z] at e; cases e), fun z => ?_⟩
  have p0 : prY Y n = none := by
    rw [z]
    unfold prY
    rw [if_pos ⟨by omega, hT.2.1.1⟩, hT.2.1.2.2, dec_m1]
  unfold ov at e
  rw [p0] at e
  cases e
/-- the children of a folder, as both sides see them -/
def chi (Y : JX) (n k : Nat) : Bool := decide (Y 1 k ≠ 0 ∧ Y 3 k = nI n)
theorem chi_x {X Y : JX} {M n k : Nat} (hT : TY Y M) (hx : TX X Y) (hn : n < 60) (hk : k < 60) : X 2 k = nI n ↔ chi Y n k = true := by
  unfold chi
  rw [(hx.2 k hk).1, decide_eq_true_eq]
  by_cases e : Y 1 k ≠ 0
  · rw [← (hT.st k ⟨hk, e⟩).2.1]
    exact ⟨fun z => ⟨e, z⟩, fun z => z.2⟩
  · have : prY Y k = none := by unfold prY; rw [if_neg (fun z => e z.2)]
    rw [this]
    exact ⟨fun z => absurd z.symm (nm1 (sm hn)), fun z => absurd z.1 e⟩
theorem c_children {X Y : JX} {M A n : Nat} (hT : TY Y M) (hx : TX X Y) (hK : KY Y A) (hX : KX X Y A) (hn : n < 60) : ∃ X' Y' A', l_X4_lookAtFolder_10 (nI n) X 0 = some X' ∧ l_X11_acts_74 (nI n) Y 0 = some Y' ∧ KY Y' A' ∧ KX X' Y' A' ∧ frX X' X ∧ frY Y' Y := by
  have hM := hT.1.2.1
  obtain ⟨X', Y', A', a, b, -, c⟩ := c_adds (p := chi Y n) (X0 := X) (Y0 := Y) hM (fun k h1 h2 => by
    cases e : chi Y n k with
    | false => rfl
    | true =>
      have := (of_decide_eq_true e).1
      exact absurd (hT.2.2.1 k h2 this) (by omega)) (LX := fun F => loop2 (lb_X4_lookAtFolder_10 (nI n)) F) (LY := fun F => loop2 (lb_X11_acts_74 (nI n)) F)
    (fun F X1 i hi f => by
      show loop2 (lb_X4_lookAtFolder_10 (nI n)) (F + 1) X1 (nI i) = _
      rw [zl2]
      show lb_X4_lookAtFolder_10 (nI n) (loop2 (lb_X4_lookAtFolder_10 (nI n)) F) X1 (nI i) = if chi Y n i = true then (f_X0_add X1 (nI i) 1).bind (fun X' => loop2 (lb_X4_lookAtFolder_10 (nI n)) F X' (nI (i + 1))) else loop2 (lb_X4_lookAtFolder_10 (nI n)) F X1 (nI (i + 1))
      generalize loop2 (lb_X4_lookAtFolder_10 (nI n)) F = R9
      unfold lb_X4_lookAtFolder_10 b_X4_lookAtFolder_37
      rw [if_neg (nl60 hi), x_parentOf hi, bd_some, f 2 (by omega) (by omega) (by omega)]
      by_cases e : chi Y n i = true
      · rw [if_pos e, if_neg (fun z => z ((chi_x hT hx hn hi).mpr e))]
        congr 1
        funext X3
        rw [dV_eq, n_add1]
      · rw [if_neg e, if_pos (fun z => e ((chi_x hT hx hn hi).mp z)), dV_eq, n_add1])
    (fun F X1 => by
      show loop2 (lb_X4_lookAtFolder_10 (nI n)) (F + 1) X1 (nI 60) = _
      rw [zl2]
      generalize loop2 (lb_X4_lookAtFolder_10 (nI n)) F = R9
      unfold lb_X4_lookAtFolder_10
      rw [if_pos g60])
    (fun F Y1 i hi f => by
      show loop2 (lb_X11_acts_74 (nI n)) (F + 1) Y1 (nI i) = _
      rw [zl2]
      show lb_X11_acts_74 (nI n) (loop2 (lb_X11_acts_74 (nI n)) F) Y1 (nI i) = if chi Y n i = true then (f_X11_adds Y1 (nI i) 1).bind (fun Y' => loop2 (lb_X11_acts_74 (nI n)) F Y' (nI (i + 1))) else loop2 (lb_X11_acts_74 (nI n)) F Y1 (nI (i + 1))
      generalize loop2 (lb_X11_acts_74 (nI n)) F = R9
      have hi60 : i < 60 := by omega
      unfold lb_X11_acts_74 b_X11_acts_111
      rw [f.2 2 (by omega), hT.1.2.2, if_neg (nI_ge (by omega) (by omega)), if_pos (n_ok60 hi60), if_pos (n_ok60 hi60), nI_clamp (sm hi60), f.1 1 (by omega) (by omega) (by omega) (by omega), f.1 3 (by omega) (by omega) (by omega) (by omega)]
      by_cases e1 : Y 1 i = 0
      · rw [if_pos e1, if_neg (show ¬ chi Y n i = true from fun z => (of_decide_eq_true z).1 e1), dV_eq, n_add1]
      · rw [if_neg e1]
        by_cases e2 : Y 3 i = nI n
        · rw [if_neg (fun z => z e2), if_pos (show chi Y n i = true from decide_eq_true ⟨e1, e2⟩)]
          congr 1
          funext X3
          rw [dV_eq, n_add1]
        · rw [if_pos e2, if_neg (show ¬ chi Y n i = true from fun z => e2 (of_decide_eq_true z).2), dV_eq, n_add1])
    (fun F Y1 f => by
      show loop2 (lb_X11_acts_74 (nI n)) (F + 1) Y1 (nI M) = _
      rw [zl2]
      generalize loop2 (lb_X11_acts_74 (nI n)) F = R9
      unfold lb_X11_acts_74
      rw [f.2 2 (by omega), hT.1.2.2, if_pos (Int32.le_refl _)]) 60 0 1000 1000 X Y A rfl (by decide) (by decide) hK hX (frX.rf X) (frY.rf Y)
  exact ⟨X', Y', A', a, b (by omega), c⟩

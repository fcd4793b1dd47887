/-! ===== where only queues change, the relation stays ===== -/
theorem prY_fr {Y Y' : JX} (h1 : Y' 1 = Y 1) (h3 : Y' 3 = Y 3) : prY Y' = prY Y := by
  unfold prY
  rw [h1, h3]
theorem TY.fr {Y Y' : JX} {M : Nat} (h : TY Y M) (y0 : Y' 0 2 = Y 0 2) (hy : eqC 1 4 Y' Y) : TY Y' M := by
  unfold TY
  rw [y0, prY_fr (hy 1 (by omega) (by omega)) (hy 3 (by omega) (by omega)), hy 1 (by omega) (by omega), hy 2 (by omega) (by omega), hy 3 (by omega) (by omega)]
  exact h
theorem RY.fr {Y Y' : JX} {R : Nat} (h : RY Y R) (y0 : Y' 0 12 = Y 0 12) (h1 : Y' 1 = Y 1) (h2 : Y' 2 = Y 2) (h3 : Y' 3 = Y 3) (h10 : Y' 10 = Y 10) : RY Y' R := by
  have hr : rf Y' = rf Y := by
    funext r
    unfold rf
    rw [h10]
  unfold RY
  rw [y0, hr, prY_fr h1 h3, h1, h2, h10]
  exact h
def RelR (i : Nat) (X Y : JX) (R : Nat) : Prop := ∃ M A P S, (TY Y M ∧ TX X Y ∧ TV Y i) ∧ RY Y R ∧ (EX X Y ∧ EY Y M) ∧ (KY Y A ∧ KX X Y A) ∧ (IY Y P S ∧ IX X Y P S ∧ IQ Y P S) ∧ SX X Y ∧ SY Y
theorem RelR.queue {i R : Nat} {X Y X' Y' : JX} (h : RelR i X Y R) (hr : RX X' Y' R) (hq : QX X' Y' R) (x1 : eqC 0 11 X' X) (x2 : eqC 34 176 X' X) (y : ∀ q, q ≠ 11 → q ≠ 12 → q ≠ 13 → q ≠ 14 → Y' q = Y q) : Rel i X' Y' := by
  obtain ⟨M, A, P, S, ⟨h1, h2, h3⟩, h4, ⟨h7, h8⟩, ⟨h9, h10⟩, ⟨h11, h12, h13⟩, h14, h15⟩ := h
  have y0 := y 0 (by omega) (by omega) (by omega) (by omega)
  have y10 : eqC 1 11 Y' Y := fun q _ _ => y q (by omega) (by omega) (by omega) (by omega)
  have y20 : eqC 15 34 Y' Y := fun q _ _ => y q (by omega) (by omega) (by omega) (by omega)
  have z : ∀ q, 15 ≤ q → Y' q = Y q := fun q _ => y q (by omega) (by omega) (by omega) (by omega)
  have x0 := x1 0 (by omega) (by omega)
  refine ⟨M, R, A, P, S, ⟨h1.fr (by rw [y0]) (y10.sub (by omega) (by omega)), h2.fr (by rw [x1 1 (by omega) (by omega)]) (x1.sub (by omega) (by omega)) (x2.sub (by omega) (by omega)) (by rw [y0]) (y10.sub (by omega) (by omega)), ?_⟩, ⟨h4.fr (by rw [y0]) (y10 1 (by omega) (by omega)) (y10 2 (by omega) (by omega)) (y10 3 (by omega) (by omega)) (y10 10 (by omega) (by omega)), hr, hq⟩, ⟨h7.fr (x2.sub (by omega) (by omega)) (x2.sub (by omega) (by omega)) (y20.sub (by omega) (by omega)) (z 31 (by omega)), ?_⟩, ⟨?_, ?_⟩, ⟨?_, ?_, ?_⟩, ?_, ?_⟩
  · unfold TV
    rw [y10 1 (by omega) (by omega), y10 3 (by omega) (by omega), y10 4 (by omega) (by omega), y10 5 (by omega) (by omega), y10 6 (by omega) (by omega), y10 7 (by omega) (by omega), y10 8 (by omega) (by omega)]
    exact h3
  · unfold EY
    rw [y10 2 (by omega) (by omega), z 22 (by omega), z 19 (by omega), z 20 (by omega), z 23 (by omega), z 24 (by omega)]
    exact h8
  · unfold KY
    rw [y0, z 25 (by omega), z 26 (by omega), z 27 (by omega)]
    exact h9
  · unfold KX
    rw [x2 45 (by omega) (by omega), x2 46 (by omega) (by omega), x2 47 (by omega) (by omega), x2 48 (by omega) (by omega), z 25 (by omega), z 26 (by omega), z 27 (by omega)]
    exact h10
  · unfold IY
    rw [y0, y10 2 (by omega) (by omega), z 28 (by omega), z 29 (by omega), z 30 (by omega)]
    exact h11
  · unfold IX liveP deadP
    rw [x2 49 (by omega) (by omega), x2 50 (by omega) (by omega), x2 51 (by omega) (by omega), x2 52 (by omega) (by omega), z 28 (by omega), z 29 (by omega), z 30 (by omega)]
    exact h12
  · unfold IQ
    rw [z 19 (by omega), z 29 (by omega), z 30 (by omega), z 31 (by omega)]
    exact h13
  · unfold SX
    rw [x2 34 (by omega) (by omega), x0, y0]
    exact h14
  · unfold SY
    rw [y0]
    exact h15

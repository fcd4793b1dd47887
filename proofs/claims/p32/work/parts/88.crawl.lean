/-! ===== a work: all in a folder is met ===== -/
def MI (Xb Yb : JX) (p r : Nat) (X Y : JX) (w A : Nat) : Prop := CW X Y p r w ∧ (KY Y A ∧ KX X Y A) ∧ ((∀ q, q ≠ p + 3 → q ≠ p + 4 → q ≠ p + 5 → q ≠ p + 6 → q ≠ 45 → q ≠ 46 → q ≠ 47 → X q = Xb q) ∧ ∀ j, j ≠ 3 → X (p + 3) j = Xb (p + 3) j) ∧ (∀ q, q ≠ 0 → q ≠ 16 → q ≠ 17 → q ≠ 18 → q ≠ 25 → q ≠ 26 → q ≠ 27 → Y q = Yb q) ∧ (∀ j, j ≠ 30 → Y 0 j = Yb 0 j) ∧ ∀ s, s < 4 → s ≠ r → Y 16 s = Yb 16 s ∧ ∀ j, j < 60 → Y 17 (60 * s + j) = Yb 17 (60 * s + j) ∧ Y 18 (60 * s + j) = Yb 18 (60 * s + j)
theorem c_child {Xb Yb X Y : JX} {M p r w A f k : Nat} (hT : TY Yb M) (hx : TX Xb Yb) (hE : EX Xb Yb) (hp : 13 ≤ p ∧ p + 6 < 34) (hr : r < 3) (h : MI Xb Yb p r X Y w A) (hk : k < 60) (hc : chi Yb f k = true) : ∃ X' Y' w' A', MI Xb Yb p r X' Y' w' A' ∧ (∀ (rec : JX → Int32 → Option JX) (v : Int32), ((f_X1_meet X (p + 3) (nI k)).bind fun X2 => (f_X2_isBehind X2 (nI k)).bind fun t3 => (if t3 = 0 then b_X4_meetAllIn_50 rec X2 v (p + 3) (nI k) else (f_X0_add X2 (nI k) (1)).bind fun X4 => b_X4_meetAllIn_50 rec X4 v (p + 3) (nI k))) = rec X' (nI (k + 1))) ∧ ∀ (rec : JX → Int32 → Option JX) (v : Int32), ((f_X11_isKnown (pX Y 18 (upd (Y 18) (60 * r + k) 1)) (nI k)).bind fun t9 => (if ¬ t9 = 0 then b_X11_goesOn_150 rec (pX Y 18 (upd (Y 18) (60 * r + k) 1)) (nI r) v (nI k) else (f_X11_adds (pX Y 18 (upd (Y 18) (60 * r + k) 1)) (nI k) (1)).bind fun X10 => b_X11_goesOn_150 rec X10 (nI r) v (nI k))) = rec Y' (nI (k + 1)) := by
  obtain ⟨hC, ⟨hK, hX⟩, ⟨fx, fx3⟩, fy, fy0, fys⟩ := h
  obtain ⟨ct, c3⟩ := of_decide_eq_true hc
  have ok := n_ok60 hk
  have cl := nI_clamp (sm hk)
  have ok4 := n_ok4 (show r < 4 by omega)
  have clr := nI_clamp (show r < 2 ^ 31 by omega)
  let Xm : JX := pX X (p + 6) (upd (X (p + 6)) k 1)
  let Ym : JX := pX Y 18 (upd (Y 18) (60 * r + k) 1)
  have xm : f_X1_meet X (p + 3) (nI k) = some Xm := by
    unfold f_X1_meet
    rw [if_neg (nI_pos (sm hk)), if_neg (nl60 hk), if_pos ok, dX_eq, cl]
    rfl
  have hCm : CW Xm Ym p r w := hC.meet hr hk
  have fxm : ∀ q, q ≠ p + 6 → Xm q = X q := fun q h => if_neg h
  have fym : ∀ q, q ≠ 18 → Ym q = Y q := fun q h => if_neg h
  have hKm : KY Ym A := hK
  have hXm : KX Xm Ym A := by
    unfold KX
    rw [fxm 45 (by omega), fxm 46 (by omega), fxm 47 (by omega), fxm 48 (by omega)]
    exact hX
  -- the acts
  have add : ∃ (Xa Ya : JX) (Aa : Nat), KY Ya Aa ∧ KX Xa Ya Aa ∧ frX Xa Xm ∧ frY Ya Ym ∧ (∀ (rec : JX → Int32 → Option JX) (v : Int32), ((f_X2_isBehind Xm (nI k)).bind fun t3 => (if t3 = 0 then b_X4_meetAllIn_50 rec Xm v (p + 3) (nI k) else (f_X0_add Xm (nI k) (1)).bind fun X4 => b_X4_meetAllIn_50 rec X4 v (p + 3) (nI k))) = b_X4_meetAllIn_50 rec Xa v (p + 3) (nI k)) ∧ ∀ (rec : JX → Int32 → Option JX) (v : Int32), ((f_X11_isKnown Ym (nI k)).bind fun t9 => (if ¬ t9 = 0 then b_X11_goesOn_150 rec Ym (nI r) v (nI k) else (f_X11_adds Ym (nI k) (1)).bind fun X10 => b_X11_goesOn_150 rec X10 (nI r) v (nI k))) = b_X11_goesOn_150 rec Ya (nI r) v (nI k) := by
    have hTm : TY Ym M := hT.fr (fy0 2 (by omega)) (fun q _ _ => (fym q (by omega)).trans (fy q (by omega) (by omega) (by omega) (by omega) (by omega) (by omega) (by omega)))
    have hxm : TX Xm Ym := hx.fr (by rw [fxm 1 (by omega), fx 1 (by omega) (by omega) (by omega) (by omega) (by omega) (by omega) (by omega)]) (fun q _ _ => (fxm q (by omega)).trans (fx q (by omega) (by omega) (by omega) (by omega) (by omega) (by omega) (by omega))) (fun q _ _ => (fxm q (by omega)).trans (fx q (by omega) (by omega) (by omega) (by omega) (by omega) (by omega) (by omega))) (fy0 2 (by omega)) (fun q _ _ => (fym q (by omega)).trans (fy q (by omega) (by omega) (by omega) (by omega) (by omega) (by omega) (by omega)))
    have hEm : EX Xm Ym := hE.fr (fun q _ _ => (fxm q (by omega)).trans (fx q (by omega) (by omega) (by omega) (by omega) (by omega) (by omega) (by omega))) (fun q _ _ => (fxm q (by omega)).trans (fx q (by omega) (by omega) (by omega) (by omega) (by omega) (by omega) (by omega))) (fun q _ _ => (fym q (by omega)).trans (fy q (by omega) (by omega) (by omega) (by omega) (by omega) (by omega) (by omega))) ((fym 31 (by omega)).trans (fy 31 (by omega) (by omega) (by omega) (by omega) (by omega) (by omega) (by omega)))
    have htm : Ym 1 k ≠ 0 := by rw [fym 1 (by omega), fy 1 (by omega) (by omega) (by omega) (by omega) (by omega) (by omega) (by omega)]; exact ct
    have xb := x_isBehind hTm hxm hEm hk htm
    have yk := y_isKnown (Y := Ym) hk
    cases e : knw Ym k with
    | true =>
      rw [e] at xb yk
      refine ⟨Xm, Ym, A, hKm, hXm, frX.rf _, frY.rf _, fun rec v => ?_, fun rec v => ?_⟩
      · rw [xb, bd_some, if_pos (show bB (!true) = 0 by decide)]
      · rw [yk, bd_some, if_pos (show ¬ bB true = 0 by decide)]
    | false =>
      rw [e] at xb yk
      obtain ⟨Xa, Ya, Aa, a1, a2, a3, a4, a5, a6⟩ := c_add hKm hXm hk (Or.inl rfl)
      refine ⟨Xa, Ya, Aa, a3, a4, a5, a6, fun rec v => ?_, fun rec v => ?_⟩
      · rw [xb, bd_some, if_neg (show ¬ bB (!false) = 0 by decide), a1, bd_some]
      · rw [yk, bd_some, if_neg (show ¬ ¬ bB false = 0 by decide), a2, bd_some]
  obtain ⟨Xa, Ya, Aa, k1, k2, fxa, fya, xa, ya⟩ := add
  have hCa : CW Xa Ya p r w := hCm.fr (by rw [fxa (p + 3) (by omega) (by omega) (by omega)]) (fxa _ (by omega) (by omega) (by omega)) (fxa _ (by omega) (by omega) (by omega)) (fxa _ (by omega) (by omega) (by omega)) (fya.1 16 (by omega) (by omega) (by omega) (by omega)) (fya.1 17 (by omega) (by omega) (by omega) (by omega)) (fya.1 18 (by omega) (by omega) (by omega) (by omega))
  have gx : ∀ q, q ≠ p + 3 → q ≠ p + 4 → q ≠ p + 5 → q ≠ p + 6 → q ≠ 45 → q ≠ 46 → q ≠ 47 → Xa q = Xb q := fun q a b c d e f g => (fxa q e f g).trans ((fxm q d).trans (fx q a b c d e f g))
  have gx3 : ∀ j, j ≠ 3 → Xa (p + 3) j = Xb (p + 3) j := fun j hj => by
    rw [fxa (p + 3) (by omega) (by omega) (by omega), fxm (p + 3) (by omega)]
    exact fx3 j hj
  have gy : ∀ q, q ≠ 0 → q ≠ 16 → q ≠ 17 → q ≠ 18 → q ≠ 25 → q ≠ 26 → q ≠ 27 → Ya q = Yb q := fun q a b c d e f g => (fya.1 q a e f g).trans ((fym q d).trans (fy q a b c d e f g))
  have gy0 : ∀ j, j ≠ 30 → Ya 0 j = Yb 0 j := fun j hj => (fya.2 j hj).trans (fy0 j hj)
  have gys : ∀ s, s < 4 → s ≠ r → Ya 16 s = Yb 16 s ∧ ∀ j, j < 60 → Ya 17 (60 * s + j) = Yb 17 (60 * s + j) ∧ Ya 18 (60 * s + j) = Yb 18 (60 * s + j) := fun s hs hsr => by
    rw [fya.1 16 (by omega) (by omega) (by omega) (by omega), fya.1 17 (by omega) (by omega) (by omega) (by omega), fya.1 18 (by omega) (by omega) (by omega) (by omega)]
    obtain ⟨b1, b2⟩ := fys s hs hsr
    refine ⟨b1, fun j hj => ⟨(b2 j hj).1, ?_⟩⟩
    show upd (Y 18) (60 * r + k) 1 (60 * s + j) = _
    rw [u_at, if_neg (by omega)]
    exact (b2 j hj).2
  have xfo : f_X9_isFolder Xa (nI k) = some (bo (Yb 1 k ≠ 0 ∧ Yb 2 k ≠ 0)) := by
    rw [x_isFolder hk, gx 5 (by omega) (by omega) (by omega) (by omega) (by omega) (by omega) (by omega), gx 4 (by omega) (by omega) (by omega) (by omega) (by omega) (by omega) (by omega), (hx.2 k hk).2.2.2.1, (hx.2 k hk).2.2.1]
  have y2a : Ya 2 k = Yb 2 k := by rw [gy 2 (by omega) (by omega) (by omega) (by omega) (by omega) (by omega) (by omega)]
  by_cases ff : Yb 2 k = 0
  · refine ⟨Xa, Ya, w, Aa, ⟨hCa, ⟨k1, k2⟩, ⟨gx, gx3⟩, gy, gy0, gys⟩, fun rec v => ?_, fun rec v => ?_⟩
    · rw [xm, bd_some, xa]
      unfold b_X4_meetAllIn_50 b_X4_meetAllIn_66
      rw [xfo, bo_f (fun z => z.2 ff), bd_some, if_pos rfl, dV_eq, n_add1]
    · rw [ya]
      unfold b_X11_goesOn_150 b_X11_goesOn_195
      rw [if_pos ok, cl, y2a, if_pos ff, dV_eq, n_add1]
  · obtain ⟨b, yw, hb⟩ := c_wait hCa hr hk
    rcases hb with ⟨rfl, xl⟩ | ⟨rfl, hw60, xl, hCw⟩
    · refine ⟨Xa, Ya, w, Aa, ⟨hCa, ⟨k1, k2⟩, ⟨gx, gx3⟩, gy, gy0, gys⟩, fun rec v => ?_, fun rec v => ?_⟩
      · rw [xm, bd_some, xa]
        unfold b_X4_meetAllIn_50 b_X4_meetAllIn_66
        rw [xfo, bo_t ⟨ct, ff⟩, bd_some, if_neg one0, xl, bd_some, dV_eq, n_add1]
      · rw [ya]
        unfold b_X11_goesOn_150 b_X11_goesOn_195
        rw [if_pos ok, cl, y2a, if_neg ff, yw, bd_some, if_pos (show ¬ bB true = 0 by decide), dV_eq, n_add1]
    · let Xw : JX := pX (pX (pX Xa (p + 4) (upd (Xa (p + 4)) w (nI k))) (p + 5) (upd (Xa (p + 5)) k 1)) (p + 3) (upd (Xa (p + 3)) 3 (nI (w + 1)))
      let Yw : JX := pX (pX Ya 17 (upd (Ya 17) (60 * r + w) (nI k))) 16 (upd (Ya 16) r (nI (w + 1)))
      have fxw : ∀ q, q ≠ p + 3 → q ≠ p + 4 → q ≠ p + 5 → Xw q = Xa q := fun q a b c => (if_neg a).trans ((if_neg c).trans (if_neg b))
      have fyw : ∀ q, q ≠ 16 → q ≠ 17 → Yw q = Ya q := fun q a b => (if_neg a).trans (if_neg b)
      have k2w : KX Xw Yw Aa := by
        unfold KX
        rw [fxw 45 (by omega) (by omega) (by omega), fxw 46 (by omega) (by omega) (by omega), fxw 47 (by omega) (by omega) (by omega), fxw 48 (by omega) (by omega) (by omega)]
        exact k2
      refine ⟨Xw, Yw, w + 1, Aa, ⟨hCw, ⟨k1, k2w⟩, ⟨fun q a b c d e f g => (fxw q a b c).trans (gx q a b c d e f g), fun j hj => ?_⟩, fun q a b c d e f g => (fyw q b c).trans (gy q a b c d e f g), gy0, fun s hs hsr => ?_⟩, fun rec v => ?_, fun rec v => ?_⟩
      · show (pX (pX (pX Xa (p + 4) _) (p + 5) _) (p + 3) (upd (Xa (p + 3)) 3 (nI (w + 1)))) (p + 3) j = _
        rw [p_at, if_pos rfl, u_at, if_neg hj]
        exact gx3 j hj
      · obtain ⟨b1, b2⟩ := gys s hs hsr
        refine ⟨?_, fun j hj => ⟨?_, (b2 j hj).2⟩⟩
        · show upd (Ya 16) r (nI (w + 1)) s = _
          rw [u_at, if_neg hsr]; exact b1
        · show upd (Ya 17) (60 * r + w) (nI k) (60 * s + j) = _
          rw [u_at, if_neg (by omega)]; exact (b2 j hj).1
      · rw [xm, bd_some, xa]
        unfold b_X4_meetAllIn_50 b_X4_meetAllIn_66
        rw [xfo, bo_t ⟨ct, ff⟩, bd_some, if_neg one0, xl, bd_some, dV_eq, n_add1]
      · rw [ya]
        have e16 : Ya 16 r = nI w := hCa.1.2.1
        unfold b_X11_goesOn_150 b_X11_goesOn_195
        rw [if_pos ok, cl, y2a, if_neg ff, yw, bd_some, if_neg (show ¬ ¬ bB false = 0 by decide), if_pos ok4, clr, e16, n_60, if_pos (n_ok (show 60 * r + w < 240 by omega) (by decide)), nI_clamp (show 60 * r + w < 2 ^ 31 by omega), dX_eq, if_pos ok4, if_pos ok4, dX_eq, dV_eq, n_add1]
        show rec (pX (pX Ya 17 (upd (Ya 17) (60 * r + w) (nI k))) 16 (upd (Ya 16) r (Ya 16 r + 1))) (nI (k + 1)) = _
        rw [e16, n_add1]

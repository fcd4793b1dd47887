/-! ===== a work: an act is done ===== -/
theorem y_cost {Y : JX} {M R A t n : Nat} (hT : TY Y M) (hY : RY Y R) (hA : A ≤ 60) (ht : t < A) (hn : n < 60) (en : Y 25 t = nI n) : f_X11_cost Y (nI t) = if Y 26 t = 1 ∧ ov Y R n ≠ none ∧ Y 2 n = 0 ∧ Y 8 n = 0 ∧ ¬ (Y 19 n ≠ 0 ∧ Y 22 n = Y 5 n) then some (1 + Y 6 n) else some 1 := by
  have ok := n_ok60 hn
  have okt := n_ok60 (show t < 60 by omega)
  unfold f_X11_cost b_X11_cost_49 b_X11_cost_78
  rw [if_pos okt, nI_clamp (show t < 2 ^ 31 by omega), en, dV_eq, if_pos okt, nI_clamp (sm hn), y_over hY hT hn, bd_some, if_pos rfl, if_neg one0]
  by_cases c1 : Y 26 t = 1
  · rw [if_neg (fun z => z c1)]
    cases e : ov Y R n with
    | none =>
      rw [if_pos (show enc none = -1 from rfl), if_neg (fun z => z.2.1 rfl)]
    | some r =>
      have hr := ov_lt e
      rw [show enc (some r) = nI r from rfl, if_neg (nm1 (show r < 2 ^ 31 by have := hY.1.1; omega)), if_pos ok]
      by_cases c2 : Y 2 n = 0
      · rw [if_neg (fun z => z c2), if_pos ok]
        by_cases c3 : Y 8 n = 0
        · rw [if_neg (fun z => z c3), if_pos ok]
          by_cases c4 : Y 19 n = 0
          · rw [if_pos c4, if_pos ok, if_pos ⟨c1, (fun z => by cases z), c2, c3, fun z => z.1 c4⟩]
          · rw [if_neg c4, if_pos ok, if_pos ok]
            by_cases c5 : Y 22 n = Y 5 n
            · rw [if_pos c5, if_neg (fun z => z.2.2.2.2 ⟨c4, c5⟩)]
            · rw [if_neg c5, if_pos ok, if_pos ⟨c1, (fun z => by cases z), c2, c3, fun z => c5 z.2⟩]
        · rw [if_pos c3, if_neg (fun z => c3 z.2.2.2.1)]
      · rw [if_pos c2, if_neg (fun z => c2 z.2.2.1)]
  · rw [if_pos c1, if_neg (fun z => c1 z.1)]
theorem hX_rt {X Y : JX} {R r : Nat} (hX : RX X Y R) (hY : RY Y R) (hr : r < R) : isRt (pl X r) = true := hX.1.1 r (by have := hY.1.1; omega)
theorem c_act {i M R P A t n left : Nat} {Xs Ys X Y : JX} (h : RelW i Xs Ys X Y M R P A) (hPL : PL Ys M P) (h37 : Ys 0 37 = nI P) (hi : i ≤ 2560) (ht : t < A) (h27 : Y 27 t = 0) (hn : n < 60) (en : Y 25 t = nI n) (hl : 1 ≤ left) (hl2 : left ≤ 500) : ∃ c : Nat, 1 ≤ c ∧ c ≤ 21 ∧ f_X11_cost Y (nI t) = some (nI c) ∧ ((left < c ∧ f_X4_act X (nI n) (nI left) = some (0, X)) ∨ (c ≤ left ∧ ∃ X' Y' A', f_X4_act X (nI n) (nI left) = some (nI c, X') ∧ f_X11_acts Y (nI t) = some Y' ∧ RelW i Xs Ys X' Y' M R P A')) := by
  have hW := h
  obtain ⟨⟨h1, h2, h3⟩, ⟨h4, h5, h6⟩, ⟨h7, h8, h9⟩, ⟨hK, hKX⟩, hL, ⟨h34, hS⟩, g1, g2, g3, g4, g5⟩ := h
  have hR := h4.1.1
  have hA := hK.1.1
  have hM := h1.1.2.1
  have ok := n_ok60 hn
  have cl := nI_clamp (sm hn)
  have okt := n_ok60 (show t < 60 by omega)
  have clt := nI_clamp (show t < 2 ^ 31 by omega)
  have hcost := y_cost h1 h4 hA ht hn en
  obtain ⟨b1, b2, b3⟩ := hKX.2.1 t ht
  rw [en, cl] at b2 b3
  have xk : f_X0_kindOf X (nI n) = some (Y 26 t) := by
    unfold f_X0_kindOf
    rw [if_neg (nI_pos (sm hn)), if_neg (nl60 hn), if_pos ok, cl, b2]
  have h370 : Y 0 37 = nI P := by rw [g5.2 37 (by omega) (by omega)]; exact h37
  -- the class's head
  have xab := x_above h5 h4 h1 h2 hn
  have xhead : f_X4_act X (nI n) (nI left) = match ov Y R n with
      | none => b_X4_act_63 X (nI n) (if Y 26 t = 1 then 1 else 0) 0
      | some _ => b_X4_act_34 X (nI n) (nI left) (if Y 26 t = 1 then 1 else 0) 1 := by
    unfold f_X4_act b_X4_act_17
    rw [xk, bd_some, xab, bd_some, bd_some]
    cases e : ov Y R n with
    | none =>
      rw [Option.map_none, oC_none, oC_none]
      unfold b_X4_act_34
      by_cases c1 : Y 26 t = 1
      · rw [if_neg (fun z => z c1), if_pos c1, if_neg one0, if_pos rfl]
      · rw [if_pos c1, if_neg c1, if_pos rfl]
    | some r =>
      have hr := hX_rt h5 h4 (ov_lt e)
      rw [Option.map_some, oC_some, oC_some, if_pos hr, if_pos hr]
      by_cases c1 : Y 26 t = 1
      · rw [if_neg (fun z => z c1), if_pos c1]
      · rw [if_pos c1, if_neg c1]
  have one_c : (∃ X' Y' A', f_X4_act X (nI n) (nI left) = some (1, X') ∧ f_X11_acts Y (nI t) = some Y' ∧ RelW i Xs Ys X' Y' M R P A') → ¬ (Y 26 t = 1 ∧ ov Y R n ≠ none ∧ Y 2 n = 0 ∧ Y 8 n = 0 ∧ ¬ (Y 19 n ≠ 0 ∧ Y 22 n = Y 5 n)) → ∃ c : Nat, 1 ≤ c ∧ c ≤ 21 ∧ f_X11_cost Y (nI t) = some (nI c) ∧ ((left < c ∧ f_X4_act X (nI n) (nI left) = some (0, X)) ∨ (c ≤ left ∧ ∃ X' Y' A', f_X4_act X (nI n) (nI left) = some (nI c, X') ∧ f_X11_acts Y (nI t) = some Y' ∧ RelW i Xs Ys X' Y' M R P A')) := fun a b => ⟨1, by omega, by omega, by rw [hcost, if_neg b]; rfl, Or.inr ⟨hl, a⟩⟩
  -- the reference's head
  obtain ⟨X1, Y1, x1, y1, k1, k2, fx1, fy1, hoff⟩ := c_takeAct hK hKX ht hn en h27
  have w1 : RelW i Xs Ys X1 Y1 M R P (A - 1) := hW.acts (fun q a b c _ => fx1 q a b c) fy1 k1 k2
  have c1y : ∀ q, 0 < q → q < 25 → Y1 q = Y q := fun q a b => fy1.1 q (by omega) (by omega) (by omega) (by omega)
  obtain ⟨⟨i1, i2, i3⟩, ⟨i4, i5, i6⟩, ⟨i7, i8, i9⟩, -, iL, ⟨i34, iS⟩, -, -, -, j4, j5⟩ := id w1
  have yov : f_X11_over Y1 (nI n) = some (enc (ov Y R n)) := by rw [y_over i4 i1 hn, ov_fa fy1]
  have h371 : Y1 0 37 = nI P := by rw [j5.2 37 (by omega) (by omega)]; exact h37
  cases e : ov Y R n with
  | none =>
    obtain ⟨X2, Y2, x2, y2, r7, r8, r9, rL, fx2, fy2⟩ := c_forget (n := n) i1 i4 i5 i7 i8 i9 iL hPL h371 j4 hn
    refine one_c ⟨X2, Y2, A - 1, ?_, ?_, ?_⟩ (fun z => z.2.1 e)
    · rw [xhead, e]
      show b_X4_act_63 X (nI n) _ 0 = _
      unfold b_X4_act_63
      rw [x1, bd_some, if_neg (fun z => z rfl), x2, bd_some]
    · unfold f_X11_acts
      rw [if_pos okt, clt, en, dV_eq, if_pos okt, dV_eq, y1, bd_some, yov, bd_some, e, if_neg (fun z => z rfl), y2, bd_some]
    · refine w1.go (i5.fr hR (fun q _ _ => fx2 q (by omega) (by omega) (by omega)) (fy2 10 (by omega) (by omega) (by omega) (by omega))) (i6.fr hR i5.1 (fun q _ _ => fx2 q (by omega) (by omega) (by omega)) (fun q _ _ => fy2 q (by omega) (by omega) (by omega) (by omega))) r7 r8 r9 ?_ ?_ rL (fun q hq => fx2 q (by omega) (by omega) (by omega)) (fun q a b => fy2 q (by omega) (by omega) (by omega) (by omega)) (fun j _ _ => by rw [fy2 0 (by omega) (by omega) (by omega) (by omega)])
      · unfold KY
        rw [fy2 0 (by omega) (by omega) (by omega) (by omega), fy2 25 (by omega) (by omega) (by omega) (by omega), fy2 26 (by omega) (by omega) (by omega) (by omega), fy2 27 (by omega) (by omega) (by omega) (by omega)]
        exact k1
      · unfold KX
        rw [fx2 45 (by omega) (by omega) (by omega), fx2 46 (by omega) (by omega) (by omega), fx2 47 (by omega) (by omega) (by omega), fx2 48 (by omega) (by omega) (by omega), fy2 25 (by omega) (by omega) (by omega) (by omega), fy2 26 (by omega) (by omega) (by omega) (by omega), fy2 27 (by omega) (by omega) (by omega) (by omega)]
        exact k2
  | some r =>
    have hr := ov_lt e
    obtain ⟨nt, n0⟩ := ov_on h1 e
    have hnM := h1.2.2.1 n hn nt
    have hne : enc (some r) = nI r := rfl
    have nr1 : ¬ nI r = -1 := nm1 (show r < 2 ^ 31 by omega)
    have ycom : ∀ Z, (if ¬ Y 26 t = 2 then (if Y1 2 n = 0 then (if Y1 8 n = 0 then (if Y1 19 n = 0 then b_X11_acts_179 Y1 (nI n) 0 else if ¬ Y1 22 n = Y1 5 n then b_X11_acts_179 Y1 (nI n) 0 else b_X11_acts_179 Y1 (nI n) 1) else (f_X11_adds Y1 (nI n) 1).bind fun X5 => if okI (X5 0 30 - 1) 60 = true then nX (pX X5 27 (upd (X5 27) (X5 0 30 - 1).toNatClampNeg (vp_nar .boolean 1))) fun X6 => some X6 else none) else (f_X11_places Y1 (nI n)).bind fun X7 => if okI (nI n) 60 = true then nX (pX X7 22 (upd (X7 22) n 0)) fun X8 => l_X11_acts_74 (nI n) X8 0 else none) else (f_X11_adds Y1 (nI n) 1).bind fun X9 => some X9) = Z → f_X11_acts Y (nI t) = Z := fun Z hZ => by
      unfold f_X11_acts
      rw [if_pos okt, clt, en, dV_eq, if_pos okt, dV_eq, y1, bd_some, yov, bd_some, e, hne, if_pos nr1, if_pos ok, if_pos ok, if_pos ok, if_pos ok, if_pos ok, cl]
      exact hZ
    have xcom : ∀ Z, b_X4_act_34 X (nI n) (nI left) (if Y 26 t = 1 then 1 else 0) 1 = Z → f_X4_act X (nI n) (nI left) = Z := fun Z hZ => by
      rw [xhead, e]; exact hZ
    have x63 : ∀ s : Int32, b_X4_act_63 X (nI n) s 1 = if s = 0 then (f_X0_add X1 (nI n) 1).bind fun X7 => some (1, X7) else (f_X4_lookAtFolder X1 (nI n)).bind fun X8 => some (1, X8) := fun s => by
      unfold b_X4_act_63
      rw [x1, bd_some, if_pos one0]
    have xfile := x_isFile (X := X) hn
    rw [(h2.2 n hn).2.2.2.1, (h2.2 n hn).2.2.1] at xfile
    rcases (hK.2.1 t ht).2.1 with kd | kd
    · have kd2 : ¬ Y 26 t = 2 := by rw [kd]; decide
      by_cases ff : Y 2 n = 0
      · -- a file
        have xf1 : f_X9_isFile X (nI n) = some 1 := by rw [xfile, bo_t ⟨nt, ff⟩]
        have xlook : ∀ Z, f_X4_lookAtFile X (nI n) (nI left) = Z → (Z.bind fun t5 => some (t5.1, t5.2)) = Z → f_X4_act X (nI n) (nI left) = Z := fun Z hZ hZ2 => by
          refine xcom Z ?_
          unfold b_X4_act_34
          rw [if_pos kd, if_neg one0, if_neg one0, xf1, bd_some, if_neg one0, hZ]
          exact hZ2
        have y12 : Y1 2 n = 0 := by rw [c1y 2 (by omega) (by omega)]; exact ff
        have xlk := x_isLocked (X := X) hn
        rw [(h2.2 n hn).2.2.2.2.1] at xlk
        by_cases fl : Y 8 n = 0
        · have xl0 : f_X9_isLocked X (nI n) = some 0 := by rw [xlk, bo_f (fun z => z fl)]
          have y18 : Y1 8 n = 0 := by rw [c1y 8 (by omega) (by omega)]; exact fl
          obtain ⟨a2, a3, a4, a5, a6, a7, a9, a8, at', ac⟩ := h2.2 n hn
          obtain ⟨e36, e37, e38, e39, e40, e42, e116⟩ := h7 n hn
          obtain ⟨⟨ed, hed, eed⟩, -, l, hl20, el, -⟩ := h3 n hn
          have xed : f_X2_editionOf X (nI n) = some (if Y 19 n = 0 then -1 else Y 22 n) := by
            unfold f_X2_editionOf
            rw [x_has hn, bd_some, e36, if_pos ok, cl, e39]
            by_cases z : Y 19 n = 0
            · rw [bo_f (fun w => w z), if_pos rfl, if_pos z]
            · rw [bo_t z, if_neg one0, if_neg z]
          have xte : f_X9_editionOf X (nI n) = some (Y 5 n) := by rw [x_editionOf hn, a8 ff]
          have hne1 : ¬ (-1 : Int32) = Y 5 n := fun z => by rw [eed] at z; exact nm1 (by omega) z.symm
          have hcx : vp_nar .char (X 3 n) = X 3 n := by rw [a3]; exact ac
          -- behind the keeping: the act is taken
          have tk : ∀ Xp : JX, (∀ q, 44 < q → q < 49 → Xp q = X q) → ∃ X3, f_X0_takeAway Xp (nI n) = some X3 ∧ KX X3 Y1 (A - 1) ∧ frX X3 Xp := fun Xp hp => by
            have hKp : KX Xp Y A := by
              unfold KX
              rw [hp 45 (by omega) (by omega), hp 46 (by omega) (by omega), hp 47 (by omega) (by omega), hp 48 (by omega) (by omega)]
              exact hKX
            obtain ⟨X3, Y3, z1, z2, -, z4, z5, -⟩ := c_takeAct hK hKp ht hn en h27
            rw [y1] at z2
            cases z2
            exact ⟨X3, z1, z4, z5⟩
          by_cases fr : Y 19 n ≠ 0 ∧ Y 22 n = Y 5 n
          · -- fresh
            obtain ⟨X3, z1, z4, z5⟩ := tk (plX X n) (fun q a b => (if_neg (by omega)).trans ((if_neg (by omega)).trans (if_neg (by omega))))
            have hx1 : TX X Y1 := h2.fr rfl eqC.rf eqC.rf (fy1.2 2 (by omega)) (fun q _ _ => c1y q (by omega) (by omega))
            have hE1 : EX X Y1 := h7.fr eqC.rf eqC.rf (fun q _ _ => c1y q (by omega) (by omega)) (fy1.1 31 (by omega) (by omega) (by omega) (by omega))
            have y1t : Y1 1 n ≠ 0 := by rw [c1y 1 (by omega) (by omega)]; exact nt
            obtain ⟨p7, p8, p9⟩ := pl_E i1 hx1 hE1 i8 i9 hn y1t n0
            have fp : ∀ q, q ≠ 36 → q ≠ 37 → q ≠ 38 → q ≠ 45 → q ≠ 46 → q ≠ 47 → X3 q = X q := fun q a b c d e f => (z5 q d e f).trans ((if_neg c).trans ((if_neg b).trans (if_neg a)))
            have fyp : ∀ q, q ≠ 19 → q ≠ 20 → q ≠ 21 → (plY Y1 n) q = Y1 q := fun q a b c => (if_neg c).trans ((if_neg b).trans (if_neg a))
            have c4 : Y1 4 n = Y 4 n := by rw [c1y 4 (by omega) (by omega)]
            refine one_c ⟨X3, plY Y1 n, A - 1, ?_, ?_, ?_⟩ (fun z => z.2.2.2.2 fr)
            · refine xlook _ ?_ rfl
              unfold f_X4_lookAtFile b_X4_lookAtFile_101
              rw [xl0, bd_some, if_pos rfl, xed, bd_some, xte, bd_some, if_neg fr.1, if_pos fr.2, x_keepPlace hn hcx, bd_some, z1, bd_some]
            · refine ycom _ ?_
              unfold b_X11_acts_179
              rw [if_pos kd2, if_pos y12, if_pos y18, c1y 19 (by omega) (by omega), if_neg fr.1, c1y 22 (by omega) (by omega), c1y 5 (by omega) (by omega), if_neg (fun z => z fr.2), y_places hn (by rw [c4]; exact ac), bd_some, if_pos one0]
            · refine w1.go (h5.fr hR (fun q _ _ => fp q (by omega) (by omega) (by omega) (by omega) (by omega) (by omega)) ((fyp 10 (by omega) (by omega) (by omega)).trans (c1y 10 (by omega) (by omega)))) (h6.fr hR h5.1 (fun q _ _ => fp q (by omega) (by omega) (by omega) (by omega) (by omega) (by omega)) (fun q _ _ => (fyp q (by omega) (by omega) (by omega)).trans (c1y q (by omega) (by omega)))) (p7.fr (fun q _ _ => z5 q (by omega) (by omega) (by omega)) (fun q _ _ => z5 q (by omega) (by omega) (by omega)) eqC.rf rfl) p8 p9 k1 ?_ (pl_LV iL (fun k _ _ => by rw [c1y 19 (by omega) (by omega)]; exact fr.1)) (fun q hq => (fp q (by omega) (by omega) (by omega) (by omega) (by omega) (by omega)).trans (fx1 q (by omega) (by omega) (by omega)).symm) (fun q a b => fyp q (by omega) (by omega) (by omega)) (fun j _ _ => rfl)
              exact z4
          · -- read anew
            have hc1 : f_X11_cost Y (nI t) = some (nI (1 + l)) := by
              rw [hcost, if_pos ⟨kd, (by rw [e]; exact (fun z => by cases z)), ff, fl, fr⟩, el]
              exact congrArg some (nI_add 1 l)
            have xstep : (1 : Int32) + X 9 n = nI (1 + l) := by rw [a9, el]; exact nI_add 1 l
            have hne2 : ¬ (if Y 19 n = 0 then -1 else Y 22 n) = Y 5 n := by
              by_cases z : Y 19 n = 0
              · rw [if_pos z]; exact hne1
              · rw [if_neg z]; exact fun w => fr ⟨z, w⟩
            refine ⟨1 + l, by omega, by omega, hc1, ?_⟩
            by_cases cl2 : left < 1 + l
            · refine Or.inl ⟨cl2, xlook _ ?_ rfl⟩
              unfold f_X4_lookAtFile
              rw [xl0, bd_some, if_pos rfl, xed, bd_some, xte, bd_some, if_neg hne2, x_lengthOf hn, bd_some, xstep, dV_eq, if_neg (show ¬ nI (1 + l) ≤ nI left from nI_ge cl2 (by omega))]
            · refine Or.inr ⟨by omega, ?_⟩
              let Yp : JX := plY Y1 n
              have fyp : ∀ q, q ≠ 19 → q ≠ 20 → q ≠ 21 → Yp q = Y1 q := fun q a b c => (if_neg c).trans ((if_neg b).trans (if_neg a))
              have hxp : TX X Yp := h2.fr rfl eqC.rf eqC.rf (fy1.2 2 (by omega)) (fun q _ _ => (fyp q (by omega) (by omega) (by omega)).trans (c1y q (by omega) (by omega)))
              have y1t : Y1 1 n ≠ 0 := by rw [c1y 1 (by omega) (by omega)]; exact nt
              have hx1 : TX X Y1 := h2.fr rfl eqC.rf eqC.rf (fy1.2 2 (by omega)) (fun q _ _ => c1y q (by omega) (by omega))
              have hE1 : EX X Y1 := h7.fr eqC.rf eqC.rf (fun q _ _ => c1y q (by omega) (by omega)) (fy1.1 31 (by omega) (by omega) (by omega) (by omega))
              obtain ⟨p7, p8, p9⟩ := pl_E i1 hx1 hE1 i8 i9 hn y1t n0
              obtain ⟨Xt, Xk, Y6, tt, u1, u2, u3, u4, u5, u6, u7, u8, u9, u10⟩ := c_read (Ys := Ys) (P := P) (i := i) hxp (i3.cells (fun q a b => fyp q (by omega) (by omega) (by omega))) (by
                show X 34 0 = Y1 0 28 ∧ X 34 1 = Y1 0 29
                rw [fy1.2 28 (by omega), fy1.2 29 (by omega)]; exact h34) (iS.cells (fun j _ _ => rfl)) (fun k hk => ⟨fun q => by
                  obtain ⟨c36, c37, c38, c39, c40, c42, -⟩ := hE1 k hk
                  refine ⟨?_, ?_, ?_, c39, c40, c42⟩
                  · show X 36 k = upd (Y1 19) n 1 k
                    rw [u_at, if_neg q]; exact c36
                  · show X 37 k = upd (Y1 20) n (Y1 3 n) k
                    rw [u_at, if_neg q]; exact c37
                  · show X 38 k = upd (Y1 21) n (Y1 4 n) k
                    rw [u_at, if_neg q]; exact c38, (hE1 k hk).2.2.2.2.2.2⟩) p8 p9 hn hnM y12 (by
                show upd (Y1 19) n 1 n ≠ 0
                rw [u_at, if_pos rfl]; exact one0) hPL (show Y1 0 37 = nI P from h371) (show Y1 29 = Ys 29 from j4) iL.x.pl
              have x3k : Xk 3 n = X 3 n := by rw [u8 3 (by omega) (by omega) (by omega) (by omega)]
              have x2k : Xk 2 n = X 2 n := by rw [u8 2 (by omega) (by omega) (by omega) (by omega)]
              obtain ⟨X3, z1, z4, z5⟩ := tk (plX Xk n) (fun q a b => (if_neg (by omega)).trans ((if_neg (by omega)).trans ((if_neg (by omega)).trans (u8 q (by omega) (by omega) (by omega) (by omega)))))
              have fp : ∀ q, q ≠ 36 → q ≠ 37 → q ≠ 38 → q ≠ 39 → q ≠ 40 → q ≠ 42 → q ≠ 45 → q ≠ 46 → q ≠ 47 → q < 116 → X3 q = X q := fun q a b c d e f g h i => fun hq => (z5 q g h i).trans ((if_neg c).trans ((if_neg b).trans ((if_neg a).trans (u8 q d e f hq))))
              have f6 : ∀ q, q ≠ 0 → q ≠ 19 → q ≠ 20 → q ≠ 21 → q ≠ 22 → q ≠ 23 → q ≠ 24 → q ≠ 30 → q ≠ 31 → q ≠ 33 → Y6 q = Y1 q := fun q a b c d e f g h i j => (u9 q a e f g h i j).trans (fyp q b c d)
              have hEk : EX (plX Xk n) Y6 := by
                intro k hk
                obtain ⟨v1, v2, v3, v4, v5⟩ := u4 k hk
                refine ⟨?_, ?_, ?_, v2, v3, v4, fun j hj => ?_⟩
                · show upd (Xk 36) n 1 k = Y6 19 k
                  rw [u_at]
                  by_cases q : k = n
                  · rw [if_pos q, u9 19 (by omega) (by omega) (by omega) (by omega) (by omega) (by omega) (by omega), q]
                    show (1 : Int32) = upd (Y1 19) n 1 n
                    rw [u_at, if_pos rfl]
                  · rw [if_neg q]; exact (v1 q).1
                · show upd (Xk 37) n (Xk 2 n) k = Y6 20 k
                  rw [u_at]
                  by_cases q : k = n
                  · rw [if_pos q, u9 20 (by omega) (by omega) (by omega) (by omega) (by omega) (by omega) (by omega), q, x2k]
                    show X 2 n = upd (Y1 20) n (Y1 3 n) n
                    rw [u_at, if_pos rfl, a2, c1y 3 (by omega) (by omega)]
                    exact (h1.st n ⟨hn, nt⟩).2.1.symm
                  · rw [if_neg q]; exact (v1 q).2.1
                · show upd (Xk 38) n (Xk 3 n) k = Y6 21 k
                  rw [u_at]
                  by_cases q : k = n
                  · rw [if_pos q, u9 21 (by omega) (by omega) (by omega) (by omega) (by omega) (by omega) (by omega), q, x3k]
                    show X 3 n = upd (Y1 21) n (Y1 4 n) n
                    rw [u_at, if_pos rfl, a3, c1y 4 (by omega) (by omega)]
                  · rw [if_neg q]; exact (v1 q).2.2
                · show (pX (pX (pX Xk 36 _) 37 _) 38 _) (116 + k) j = _
                  rw [p_at, if_neg (by omega), p_at, if_neg (by omega), p_at, if_neg (by omega)]
                  exact v5 j hj
              refine ⟨X3, Y6, A - 1, ?_, ?_, ?_⟩
              · refine xlook _ ?_ rfl
                unfold f_X4_lookAtFile b_X4_lookAtFile_101
                rw [xl0, bd_some, if_pos rfl, xed, bd_some, xte, bd_some, if_neg hne2, x_lengthOf hn, bd_some, xstep, dV_eq, if_pos (show nI (1 + l) ≤ nI left from nI_le (by omega) (by omega)), x_textOf hn, bd_some, if_pos (show isI20 (56 + n) = true by simp [isI20]; omega), x_wordsOf hn, bd_some, if_pos (show isI20 (116 + n) = true by simp [isI20]; omega), u1, bd_some, u2, bd_some, x_keepPlace hn (by rw [x3k]; exact hcx), bd_some, z1, bd_some]
              · refine ycom _ ?_
                have c4 : Y1 4 n = Y 4 n := by rw [c1y 4 (by omega) (by omega)]
                have k179 : b_X11_acts_179 Y1 (nI n) 0 = some Y6 := by
                  unfold b_X11_acts_179
                  rw [y_places hn (by rw [c4]; exact ac), bd_some, if_neg (fun z => z rfl), u3, bd_some]
                rw [if_pos kd2, if_pos y12, if_pos y18, c1y 19 (by omega) (by omega), c1y 22 (by omega) (by omega), c1y 5 (by omega) (by omega), k179]
                by_cases z : Y 19 n = 0
                · rw [if_pos z]
                · rw [if_neg z, if_pos (fun w => fr ⟨z, w⟩)]
              · refine w1.go (h5.fr hR (fun q _ _ => fp q (by omega) (by omega) (by omega) (by omega) (by omega) (by omega) (by omega) (by omega) (by omega) (by omega)) ((f6 10 (by omega) (by omega) (by omega) (by omega) (by omega) (by omega) (by omega) (by omega) (by omega) (by omega)).trans (c1y 10 (by omega) (by omega)))) (h6.fr hR h5.1 (fun q _ _ => fp q (by omega) (by omega) (by omega) (by omega) (by omega) (by omega) (by omega) (by omega) (by omega) (by omega)) (fun q _ _ => (f6 q (by omega) (by omega) (by omega) (by omega) (by omega) (by omega) (by omega) (by omega) (by omega) (by omega)).trans (c1y q (by omega) (by omega)))) (hEk.fr (fun q _ _ => z5 q (by omega) (by omega) (by omega)) (fun q _ _ => z5 q (by omega) (by omega) (by omega)) eqC.rf rfl) u5 u6 ?_ ?_ u7 (fun q hq => (fp q (by omega) (by omega) (by omega) (by omega) (by omega) (by omega) (by omega) (by omega) (by omega) (by omega)).trans (fx1 q (by omega) (by omega) (by omega)).symm) (fun q a b => f6 q (by omega) (by omega) (by omega) (by omega) (by omega) (by omega) (by omega) (by omega) (by omega) (by omega)) (fun j _ j44 => u10 j j44)
                · unfold KY
                  rw [u10 30 (by omega), f6 25 (by omega) (by omega) (by omega) (by omega) (by omega) (by omega) (by omega) (by omega) (by omega) (by omega), f6 26 (by omega) (by omega) (by omega) (by omega) (by omega) (by omega) (by omega) (by omega) (by omega) (by omega), f6 27 (by omega) (by omega) (by omega) (by omega) (by omega) (by omega) (by omega) (by omega) (by omega) (by omega)]
                  exact k1
                · unfold KX
                  rw [f6 25 (by omega) (by omega) (by omega) (by omega) (by omega) (by omega) (by omega) (by omega) (by omega) (by omega), f6 26 (by omega) (by omega) (by omega) (by omega) (by omega) (by omega) (by omega) (by omega) (by omega) (by omega), f6 27 (by omega) (by omega) (by omega) (by omega) (by omega) (by omega) (by omega) (by omega) (by omega) (by omega)]
                  exact z4
        · -- locked
          have xl1 : f_X9_isLocked X (nI n) = some 1 := by rw [xlk, bo_t fl]
          have y18 : ¬ Y1 8 n = 0 := by rw [c1y 8 (by omega) (by omega)]; exact fl
          obtain ⟨X3, Ya, Yb, Yc, v1, v2, v3, v4, v5, v6, v7, v8, v9, v10⟩ := c_putOff hK hKX ht hn en h27
          rw [y1] at v2
          cases v2
          refine one_c ⟨X3, Yc, A, ?_, ?_, hW.acts v9 v10 v7 v8⟩ (fun z => fl z.2.2.2.1)
          · refine xlook _ ?_ rfl
            unfold f_X4_lookAtFile
            rw [xl1, bd_some, if_neg one0, v1, bd_some]
          · refine ycom _ ?_
            rw [if_pos kd2, if_pos y12, if_neg y18, v4, bd_some, v5, n_sub1 (by omega), if_pos (n_ok60 (show A - 1 < 60 by omega)), nI_clamp (show A - 1 < 2 ^ 31 by omega), dX_eq, v6]
            rfl
      · -- a folder
        have y12 : ¬ Y1 2 n = 0 := by rw [c1y 2 (by omega) (by omega)]; exact ff
        have xf0 : f_X9_isFile X (nI n) = some 0 := by rw [xfile, bo_f (fun z => ff z.2)]
        have y1t : Y1 1 n ≠ 0 := by rw [c1y 1 (by omega) (by omega)]; exact nt
        obtain ⟨p7, p8, p9⟩ := pl_E i1 i2 i7 i8 i9 hn y1t n0
        obtain ⟨a2, a3, a4, a5, a6, a7, a9, a8, at', ac⟩ := i2.2 n hn
        let Yq : JX := pX (plY Y1 n) 22 (upd (Y1 22) n 0)
        have e22 : Y1 22 n = 0 := (i8 n hn).2.2 (Or.inr y12)
        have q22 : Yq = plY Y1 n := by
          funext q
          show pX (plY Y1 n) 22 (upd (Y1 22) n 0) q = (plY Y1 n) q
          rw [p_at]
          by_cases z : q = 22
          · rw [if_pos z, z]
            funext k
            show upd (Y1 22) n 0 k = Y1 22 k
            rw [u_at]
            by_cases z2 : k = n
            · rw [if_pos z2, z2, e22]
            · rw [if_neg z2]
          · rw [if_neg z]
        have fyp : ∀ q, q ≠ 19 → q ≠ 20 → q ≠ 21 → (plY Y1 n) q = Y1 q := fun q a b c => (if_neg c).trans ((if_neg b).trans (if_neg a))
        have fxp : ∀ q, q ≠ 36 → q ≠ 37 → q ≠ 38 → (plX X1 n) q = X1 q := fun q a b c => (if_neg c).trans ((if_neg b).trans (if_neg a))
        have wp : RelW i Xs Ys (plX X1 n) (plY Y1 n) M R P (A - 1) := by
          refine w1.go (i5.fr hR (fun q _ _ => fxp q (by omega) (by omega) (by omega)) (fyp 10 (by omega) (by omega) (by omega))) (i6.fr hR i5.1 (fun q _ _ => fxp q (by omega) (by omega) (by omega)) (fun q _ _ => fyp q (by omega) (by omega) (by omega))) p7 p8 p9 k1 k2 (pl_LV iL (fun k hk q => ?_)) (fun q hq => fxp q (by omega) (by omega) (by omega)) (fun q a b => fyp q (by omega) (by omega) (by omega)) (fun j _ _ => rfl)
          exfalso
          have := (hPL.2 k hk).2.2
          rw [q] at this
          rw [j5.1] at y12
          exact y12 this
        have wp' := wp
        obtain ⟨⟨m1, m2, -⟩, -, -, ⟨m3, m4⟩, -⟩ := wp'
        obtain ⟨X', Y', A', v1, v2, v3, v4, v5, v6⟩ := c_children m1 m2 m3 m4 hn
        refine one_c ⟨X', Y', A', ?_, ?_, wp.acts (fun q a b c _ => v5 q a b c) v6 v3 v4⟩ (fun z => ff z.2.2.1)
        · refine xcom _ ?_
          unfold b_X4_act_34
          rw [if_pos kd, if_neg one0, if_neg one0, xf0, bd_some, if_pos rfl, x63, if_neg one0]
          unfold f_X4_lookAtFolder
          rw [x_keepPlace hn (by rw [a3]; exact ac), bd_some, v1, bd_some]
        · refine ycom _ ?_
          rw [if_pos kd2, if_neg y12, y_places hn ac, bd_some, if_pos ok, dX_eq]
          show l_X11_acts_74 (nI n) Yq 0 = _
          rw [q22, v2]
    · -- what was told to be gone is looked at
      have kd1 : ¬ Y 26 t = 1 := by rw [kd]; decide
      obtain ⟨X2, Y2, A2, v1, v2, v3, v4, v5, v6⟩ := c_add k1 k2 hn (Or.inl rfl)
      refine one_c ⟨X2, Y2, A2, ?_, ?_, w1.acts (fun q a b c _ => v5 q a b c) v6 v3 v4⟩ (fun z => kd1 z.1)
      · refine xcom _ ?_
        unfold b_X4_act_34
        rw [if_neg kd1, if_pos rfl, x63, if_pos rfl, v1, bd_some]
      · refine ycom _ ?_
        rw [if_neg (fun z => z kd), v2, bd_some]

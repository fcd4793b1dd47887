/-! ===== call: watch ===== -/
theorem hol_up {fnd pr : Nat → Option Nat} : ∀ K u, it pr K u = none → ∀ d, hol fnd pr (K + d) u = hol fnd pr K u := by
  intro K
  induction K with
  | zero =>
    intro u h d
    rw [show u = none from h]
    cases d <;> rfl
  | succ K ih =>
    intro u h d
    cases u with
    | none => rw [show K + 1 + d = (K + d) + 1 by omega]; rfl
    | some n =>
      rw [show K + 1 + d = (K + d) + 1 by omega]
      show (match fnd n with | some q => some q | none => hol fnd pr (K + d) (pr n)) = (match fnd n with | some q => some q | none => hol fnd pr K (pr n))
      rw [ih (pr n) h d]
/-- what holds a folder that is no root is the root above it -/
theorem hol_ov {Y : JX} {M R n : Nat} (hT : TY Y M) (hn : n < 60) (h : ro Y R (nI n) = none) : hol (fun n => ro Y R (nI n)) (prY Y) 60 (some n) = ov Y R n := by
  have h60 := it_60 hT.2.2.2.2 (u := some n) (fun k hk => by cases hk; exact hn)
  have h59 : it (prY Y) 59 (prY Y n) = none := h60
  unfold ov
  rw [show (60 : Nat) = 59 + 1 from rfl, hol_up 59 _ h59 1]
  show (match ro Y R (nI n) with | some q => some q | none => hol (fun n => ro Y R (nI n)) (prY Y) 59 (prY Y n)) = _
  rw [h]
theorem x_startAt {X : JX} {q : Nat} {v : Int32} : f_X7_startAt X q v = (f_X7_beginCrawl (pX X q (upd (upd (upd (X q) 3 v) 4 0) 5 0)) q).bind fun X4 => some X4 := by
  have e : pX (pX (pX X q (upd (X q) 3 v)) q (upd ((pX X q (upd (X q) 3 v)) q) 4 0)) q (upd ((pX (pX X q (upd (X q) 3 v)) q (upd ((pX X q (upd (X q) 3 v)) q) 4 0)) q) 5 0) = pX X q (upd (upd (upd (X q) 3 v) 4 0) 5 0) := by
    funext c
    by_cases h : c = q
    · subst h
      simp [p_at]
    · simp [p_at, h]
  unfold f_X7_startAt
  rw [dX_eq, dX_eq, if_pos (show okB 0 = true from rfl), dX_eq, e]
theorem c_new {X Y : JX} {M R n : Nat} (hT : TY Y M) (hx : TX X Y) (hY : RY Y R) (hX : RX X Y R) (hQ : QX X Y R) (hR3 : R < 3) (hn : n < 60) (h1 : Y 1 n ≠ 0) (h2 : Y 2 n ≠ 0) (ho : ov Y R n = none) (hro : ro Y R (nI n) = none) (hh : hr Y R n = false) : ∃ X' Y', f_X8_add X (nI n) = some X' ∧ b_X11_watch_56 Y (nI n) (-1) 0 = some (nI (R + 1), Y') ∧ RY Y' (R + 1) ∧ RX X' Y' (R + 1) ∧ QX X' Y' (R + 1) ∧ (∀ q, q < 11 ∨ 33 < q → X' q = X q) ∧ (∀ q, q ≠ 0 → q < 10 ∨ 18 < q → Y' q = Y q) ∧ (∀ j, j ≠ 0 → j ≠ 12 → Y' 0 j = Y 0 j) ∧ Y' 0 0 = 0 ∧ X' 11 2 = nI (R + 1) := by
  have hp := rt_in hX.1 hR3
  let p := pl X R
  let X1 : JX := pX X p (upd (upd (upd (X p) 3 (nI n)) 4 0) 5 0)
  let Y1 : JX := pX (pX (pX (pX (thr Y 0) 10 (upd (Y 10) R (nI n))) 11 (upd (Y 11) R 0)) 14 (upd (Y 14) R 0)) 0 (upd ((thr Y 0) 0) 12 (nI (R + 1)))
  have x1p : X1 p = upd (upd (upd (X p) 3 (nI n)) 4 0) 5 0 := if_pos rfl
  have x13 : X1 p 3 = nI n := by rw [x1p]; rfl
  have y110 : Y1 10 R = nI n := by
    show upd (Y 10) R (nI n) R = nI n
    rw [u_at, if_pos rfl]
  obtain ⟨X2, Y', a, b, c, d, e, f⟩ := c_begin0 (X := X1) (Y := Y1) (p := p) (r := R) hR3 hn x13 y110
  have dp : ∀ q, q ≠ p → q ≠ p + 3 → q ≠ p + 4 → q ≠ p + 5 → q ≠ p + 6 → X2 q = X q := fun q h0 h3 h4 h5 h6 => (d q h3 h4 h5 h6).trans (if_neg h0)
  let X' : JX := pX X2 11 (upd (X2 11) 2 (nI (R + 1)))
  have o : ∀ q, q ≠ 11 → X' q = X2 q := fun q hq => if_neg hq
  have x2p : X2 p = X1 p := d p (by omega) (by omega) (by omega) (by omega)
  have hpl : ∀ s, pl X' s = pl X s := fun s => by
    unfold pl
    rw [o 12 (by omega), dp 12 (by omega) (by omega) (by omega) (by omega) (by omega)]
  have y0 : Y' 0 = Y1 0 := e 0 (by omega)
  have y10 : ∀ s, Y' 10 s = if s = R then nI n else Y 10 s := fun s => by rw [e 10 (by omega)]; exact u_at _ _ _ _
  have hrf : ∀ s, s ≠ R → rf Y' s = rf Y s := fun s hs => by unfold rf; rw [y10, if_neg hs]
  have hrfR : rf Y' R = n := by unfold rf; rw [y10, if_pos rfl, nI_clamp (sm hn)]
  have yk : ∀ q, q ≠ 0 → q < 10 ∨ 18 < q → Y' q = Y q := fun q h0 hq => (e q (by omega)).trans ((if_neg h0).trans ((if_neg (by omega)).trans ((if_neg (by omega)).trans ((if_neg (by omega)).trans (if_neg h0)))))
  have hpr : prY Y' = prY Y := prY_fr (yk 1 (by omega) (by omega)) (yk 3 (by omega) (by omega))
  have hne : ∀ s, s < R → rf Y s ≠ n := fun s hs z => ro_no hro s hs (by rw [rf_eq hY hs, z])
  have hup : ∀ s, s < R → ¬ On (prY Y) (prY Y n) (rf Y s) := fun s hs z => by
    have := hol_none 60 _ (it_60 hT.2.2.2.2 (fun k hk => hT.lt n k hk)) ho (rf Y s) z
    exact ro_no this s hs (rf_eq hY hs)
  have hdn : ∀ s, s < R → ¬ On (prY Y) (prY Y (rf Y s)) n := fun s hs z => by
    have hb := (belo_On hT.2.2.2.2 (rf Y s) n).mpr z
    have : hr Y R n = true := (anyl_iff _ R 0).mpr ⟨s, Nat.zero_le _, by omega, by rw [hb]; simp⟩
    rw [hh] at this
    cases this
  have y0R : Y' 0 12 = nI (R + 1) := by rw [y0]; rfl
  refine ⟨X', Y', ?_, ?_, ⟨⟨by omega, y0R⟩, fun s hs => ?_, fun s t hs ht hst => ?_⟩, ⟨⟨fun s hs => by rw [hpl]; exact hX.1.1 s hs, fun s t hs ht z => by rw [hpl, hpl] at z; exact hX.1.2 s t hs ht z⟩, rfl, fun s hs => ?_⟩, ?_, fun q hq => (o q (by omega)).trans (dp q (by omega) (by omega) (by omega) (by omega) (by omega)), yk, fun j hj hj2 => ?_, ?_, rfl⟩
  · unfold f_X8_add
    rw [hX.2.1, if_neg (nI_pos (show R < 2 ^ 31 by omega)), if_pos (show nI R < 3 from nI_lt (b := 3) hR3 (by decide)), if_pos (n_ok (show R < 3 from hR3) (by decide)), nI_clamp (show R < 2 ^ 31 by omega), dN_eq, show (X 12 R).toNatClampNeg = p from rfl, if_pos (hX.1.1 R hR3), x_startAt, show f_X7_beginCrawl (pX X p (upd (upd (upd (X p) 3 (nI n)) 4 0) 5 0)) p = some X2 from a, bd_some, bd_some, dX_eq, dp 11 (by omega) (by omega) (by omega) (by omega) (by omega), hX.2.1, n_add1]
    show some (pX X2 11 (upd (X 11) 2 (nI (R + 1)))) = some (pX X2 11 (upd (X2 11) 2 (nI (R + 1))))
    rw [dp 11 (by omega) (by omega) (by omega) (by omega) (by omega)]
  · have c4 := n_ok4 (show R < 4 by omega)
    have cl := nI_clamp (show R < 2 ^ 31 by omega)
    have hg : (thr Y 0) 0 12 = nI R := hY.1.2
    have h9 : ∀ F, (pX (pX Y 0 (upd (Y 0) 0 0)) 10 F) 0 12 = nI R := fun F => hY.1.2
    have h10 : ∀ F G, (pX (pX (pX Y 0 (upd (Y 0) 0 0)) 10 F) 11 G) 0 12 = nI R := fun F G => hY.1.2
    have h11 : ∀ F G H, (pX (pX (pX (pX Y 0 (upd (Y 0) 0 0)) 10 F) 11 G) 14 H) 0 12 = nI R := fun F G H => hY.1.2
    unfold b_X11_watch_56
    rw [dX_eq, if_pos (show (thr Y 0) 0 0 ≤ 0 from Int32.le_refl 0), if_neg (fun q => q rfl), show (pX Y 0 (upd (Y 0) 0 0)) 0 12 = nI R from hY.1.2, if_pos c4, cl, dX_eq, h9, if_pos c4, cl, dX_eq, h10, if_pos c4, cl, dX_eq, h11, n_add1, dX_eq]
    show ((f_X11_beginsCrawl Y1 (nI (R + 1) - 1)).bind fun X13 => some (X13 0 12, X13)) = _
    rw [nI_pred, b, bd_some, y0R]
  · rw [yk 1 (by omega) (by omega), yk 2 (by omega) (by omega), y10]
    by_cases q : s = R
    · rw [q, hrfR, if_pos rfl]; exact ⟨hn, rfl, h1, h2⟩
    · rw [hrf s q, if_neg q]; exact hY.2.1 s (by omega)
  · rw [hpr]
    by_cases q : s = R
    · have ht' : t ≠ R := fun z => hst (q.trans z.symm)
      rw [q, hrfR, hrf t ht']
      exact ⟨fun z => hne t (by omega) z.symm, hup t (by omega)⟩
    · rw [hrf s q]
      by_cases q2 : t = R
      · rw [q2, hrfR]
        exact ⟨hne s (by omega), hdn s (by omega)⟩
      · rw [hrf t q2]
        exact hY.2.2 s t (by omega) (by omega) hst
  · rw [hpl, y10]
    by_cases q : s = R
    · rw [q, if_pos rfl, o p (by omega), x2p]; exact x13
    · have hs : s < R := by omega
      have ha := pl_apart hX.1 hR3 (show s < 3 by omega) (fun z => q z.symm)
      have hps := rt_in hX.1 (show s < 3 by omega)
      rw [if_neg q, o _ (by omega), dp _ (by omega) (by omega) (by omega) (by omega) (by omega)]
      exact hX.2.2 s hs
  · rw [QX_is] at hQ ⊢
    intro s hs
    rw [hpl]
    by_cases q : s = R
    · rw [q]
      have y11 : Y' 11 R = 0 := by rw [e 11 (by omega)]; exact (u_at _ _ _ _).trans (if_pos rfl)
      have y14 : Y' 14 R = 0 := by rw [e 14 (by omega)]; exact (u_at _ _ _ _).trans (if_pos rfl)
      have x4 : X' p 4 = 0 := by rw [o p (by omega), x2p, x1p]; rfl
      have x5 : X' p 5 = 0 := by rw [o p (by omega), x2p, x1p]; rfl
      exact ⟨⟨x4.trans y11.symm, x5.trans y14.symm, 0, by omega, y11, Or.inl y14, fun j hj => absurd hj (Nat.not_lt_zero j)⟩, c.fr (o _ (by omega)) (o _ (by omega)) (o _ (by omega)) (o _ (by omega)) eqC.rf⟩
    · have hs : s < R := by omega
      have ha := pl_apart hX.1 hR3 (show s < 3 by omega) (fun z => q z.symm)
      have hps := rt_in hX.1 (show s < 3 by omega)
      obtain ⟨a1, b1⟩ := hQ s hs
      obtain ⟨f15, f16, f17⟩ := f s (by omega) q
      have g : ∀ k, k ≤ 6 → X' (pl X s + k) = X (pl X s + k) := fun k hk => (o _ (by omega)).trans (dp _ (by omega) (by omega) (by omega) (by omega) (by omega))
      refine ⟨a1.fr (g 0 (by omega)) (g 1 (by omega)) (g 2 (by omega)) ?_ ?_ (fun j hj => ?_) (fun j hj => ?_), b1.fr2 (g 3 (by omega)) (g 4 (by omega)) (g 5 (by omega)) (g 6 (by omega)) f15 f16 (fun j hj => (f17 j hj).1) (fun j hj => (f17 j hj).2)⟩
      · rw [e 11 (by omega)]; exact (u_at _ _ _ _).trans (if_neg q)
      · rw [e 14 (by omega)]; exact (u_at _ _ _ _).trans (if_neg q)
      · rw [e 12 (by omega)]; rfl
      · rw [e 13 (by omega)]; rfl
  · rw [y0]
    show upd ((thr Y 0) 0) 12 (nI (R + 1)) j = Y 0 j
    rw [u_at, if_neg hj2]
    exact (u_at _ _ _ _).trans (if_neg hj)
  · rw [y0]
    rfl
theorem op_9 {i : Nat} {X Y : JX} (h : Rel i X Y) : OpSim (Rel (i + 5)) X Y 9 := by
  intro v
  have h0 := fun s => (h.mono (show i ≤ i + 5 by omega)).thr (s := s)
  have hh := h0 0
  have hm := h.mono (show i ≤ i + 5 by omega)
  obtain ⟨M, R, A, P, S, ⟨h1, h2, h3⟩, ⟨h4, h5, h6⟩, ⟨h7, h8⟩, ⟨h9, h10⟩, hI, h14, h15⟩ := hm
  have hR := h4.1.1
  have bad : ∀ (t k : Int32), ¬ k ≤ 0 → b_X11_watch_56 Y v t k = some (0, thr Y k) := by
    intro t k hk
    unfold b_X11_watch_56
    rw [dX_eq, if_neg (show ¬ (thr Y k) 0 0 ≤ 0 from hk)]
  rcases c_folder h1 h2 v with ⟨n, hn, hM, rfl, ht, hf, e1, e2⟩ | ⟨e1, e2⟩
  · cases e : ro Y R (nI n) with
    | some r =>
      obtain ⟨hr, er⟩ := ro_lt e
      have hY0 : RG (thr Y 0) R 0 := RY.rg h4
      obtain ⟨X1, Y1, x1, y1, g1, r1, q1, fx, fy, fy0⟩ := c_drop (i' := 0) hY0 (show RX X (thr Y 0) R from h5) (show QX X (thr Y 0) R from h6) hr (fun _ _ _ => Nat.zero_le _)
      have fyY : ∀ q, q ≠ 0 → (q < 10 ∨ 18 < q) → Y1 q = Y q := fun q a b => (fy q a b).trans (if_neg a)
      have hT1 : TY Y1 M := h1.fr (fy0 2 (by omega)) (fun q _ _ => fyY q (by omega) (by omega))
      have hE1 : EX X1 Y1 := h7.fr (fun q _ _ => fx q (by omega) (by omega)) (fun q _ _ => fx q (by omega) (by omega)) (fun q _ _ => fyY q (by omega) (by omega)) (fyY 31 (by omega) (by omega))
      have hEY1 : EY Y1 M := by
        unfold EY
        rw [fy 2 (by omega) (by omega), fy 22 (by omega) (by omega), fy 19 (by omega) (by omega), fy 20 (by omega) (by omega), fy 23 (by omega) (by omega), fy 24 (by omega) (by omega)]
        exact h8
      have hK1 : KY Y1 A := by
        unfold KY
        rw [fy0 30 (by omega), fy 25 (by omega) (by omega), fy 26 (by omega) (by omega), fy 27 (by omega) (by omega)]
        exact h9
      have hKX1 : KX X1 Y1 A := by
        unfold KX
        rw [fx 45 (by omega) (by omega), fx 46 (by omega) (by omega), fx 47 (by omega) (by omega), fx 48 (by omega) (by omega), fy 25 (by omega) (by omega), fy 26 (by omega) (by omega), fy 27 (by omega) (by omega)]
        exact h10
      obtain ⟨X', Y', A', x2, y2, k1, k2, f1, f2⟩ := c_lost hT1 hE1 hEY1 hK1 hKX1
      have hR1 : R - 1 ≤ 3 := by omega
      have ro : RelO (i + 5) X (thr Y 0) M P S := ⟨⟨h1, h2, h3⟩, ⟨h7, h8⟩, hI, h14, h15⟩
      have y12 : Y' 0 12 = nI (R - 1) := (f2.2 12 (by omega)).trans g1.1.2
      have x12 : X' 11 2 = nI (R - 1) := by rw [f1 11 (by omega) (by omega) (by omega)]; exact r1.2.1
      refine ⟨none, nI (R - 1), X', nI (R - 1), Y', ?_, ?_, ?_, fun _ => rfl, ro.close (g1.ry.fa f2) (r1.fa hR1 f1 f2) (q1.fa hR1 r1.1 f1 f2) k1 k2 (fun q hq a b c _ => (f1 q a b c).trans (fx q (by omega) (by omega))) (fun q a b c d e => (f2.1 q a c d e).trans (fy q a b)) (fun j a b => (f2.2 j b).trans (fy0 j a))⟩
      · unfold f_X10_watch
        rw [e1, bd_some, if_pos one0, x_find h5 h4, bd_some, e, Option.map_some, oC_some, if_pos (h5.1.1 r (by omega)), ← er]
        rw [show f_X8_end X (Y 10 r) = some X1 from x1, bd_some, x2, bd_some]
        show some (none, X' 11 2, X') = _
        rw [x12]
      · unfold f_X11_watch b_X11_watch_56
        rw [e2, bd_some, if_pos one0, y_rootAt h4, bd_some, e, show enc (some r) = nI r from rfl, if_pos (nm1 (show r < 2 ^ 31 by omega)), dX_eq, if_pos (show (thr Y 0) 0 0 ≤ 0 from Int32.le_refl 0), if_pos (nm1 (show r < 2 ^ 31 by omega))]
        rw [show f_X11_drops (pX Y 0 (upd (Y 0) 0 0)) (nI r) = some Y1 from y1, bd_some, y2, bd_some, y12]
      · rw [f2.2 0 (by omega), fy0 0 (by omega)]
        rfl
    | none =>
      have xh : f_X8_holding X (nI n) = some ((ov Y R n).map (pl X)) := by
        have := x_holding h5 h4 (pr := prY Y) (u := some n) (fun n hn => (h2.2 n hn).1) h1.lt (fun k hk => by cases hk; exact hn)
        rw [hol_ov h1 hn e] at this
        exact this
      have yr : f_X11_rootAt Y (nI n) = some (-1) := by rw [y_rootAt h4, e]; rfl
      by_cases hR3 : R = 3
      · refine ⟨some 3, 0, X, 0, thr Y 2, ?_, ?_, rfl, (fun q => by cases q), h0 2⟩
        · unfold f_X10_watch f_X8_isFull b_X10_watch_87
          rw [e1, bd_some, if_pos one0, x_find h5 h4, bd_some, e, Option.map_none, oC_none, h5.2.1, if_neg (by rw [hR3]; decide), bd_some, if_pos one0]
        · unfold f_X11_watch
          rw [e2, bd_some, if_pos one0, yr, bd_some, if_neg (fun q => q rfl), h4.1.2, if_pos (by rw [hR3]; rfl), bad _ 2 (by decide)]
      · have nR3 : ¬ nI R = 3 := fun z => hR3 ((nI_eq (a := R) (b := 3) (by omega) (by decide)).mp z)
        have lR3 : nI R < 3 := nI_lt (b := 3) (by omega) (by decide)
        cases eo : ov Y R n with
        | some s =>
          have hs := ov_lt eo
          refine ⟨some 3, 0, X, 0, thr Y 2, ?_, ?_, rfl, (fun q => by cases q), h0 2⟩
          · unfold f_X10_watch f_X8_isFull b_X10_watch_87
            rw [e1, bd_some, if_pos one0, x_find h5 h4, bd_some, e, Option.map_none, oC_none, h5.2.1, if_pos lR3, bd_some, if_neg (fun q => q rfl), xh, bd_some, eo, Option.map_some, oC_some, if_pos (h5.1.1 s (by omega))]
          · unfold f_X11_watch
            rw [e2, bd_some, if_pos one0, yr, bd_some, if_neg (fun q => q rfl), h4.1.2, if_neg nR3, y_hr h4 h1 hn, bd_some]
            cases hr Y R n with
            | true => rw [if_pos (show ¬ bB true = 0 by decide), bad _ 2 (by decide)]
            | false => rw [if_neg (show ¬ ¬ bB false = 0 by decide), y_over h4 h1 hn, bd_some, eo, show enc (some s) = nI s from rfl, if_neg (nm1 (show s < 2 ^ 31 by omega)), bad _ 2 (by decide)]
        | none =>
          cases eh : hr Y R n with
          | true =>
            refine ⟨some 3, 0, X, 0, thr Y 2, ?_, ?_, rfl, (fun q => by cases q), h0 2⟩
            · unfold f_X10_watch f_X8_isFull b_X10_watch_87
              rw [e1, bd_some, if_pos one0, x_find h5 h4, bd_some, e, Option.map_none, oC_none, h5.2.1, if_pos lR3, bd_some, if_neg (fun q => q rfl), xh, bd_some, eo, Option.map_none, oC_none, x_hr h5 h4 h1 h2 hn, eh, bd_some, if_neg (show ¬ bB true = 0 by decide)]
            · unfold f_X11_watch
              rw [e2, bd_some, if_pos one0, yr, bd_some, if_neg (fun q => q rfl), h4.1.2, if_neg nR3, y_hr h4 h1 hn, bd_some, eh, if_pos (show ¬ bB true = 0 by decide), bad _ 2 (by decide)]
          | false =>
            obtain ⟨X', Y', a, b, c, d, f, g, k, k0, k00, x11⟩ := c_new h1 h2 h4 h5 h6 (by omega) hn ht hf eo e eh
            have ro : RelO (i + 5) X Y M P S := ⟨⟨h1, h2, h3⟩, ⟨h7, h8⟩, hI, h14, h15⟩
            have hK' : KY Y' A := by
              unfold KY
              rw [k0 30 (by omega) (by omega), k 25 (by omega) (by omega), k 26 (by omega) (by omega), k 27 (by omega) (by omega)]
              exact h9
            have hKX' : KX X' Y' A := by
              unfold KX
              rw [g 45 (by omega), g 46 (by omega), g 47 (by omega), g 48 (by omega), k 25 (by omega) (by omega), k 26 (by omega) (by omega), k 27 (by omega) (by omega)]
              exact h10
            have ro0 : RelO (i + 5) X (thr Y 0) M P S := ⟨⟨h1, h2, h3⟩, ⟨h7, h8⟩, hI, h14, h15⟩
            refine ⟨none, nI (R + 1), X', nI (R + 1), Y', ?_, ?_, ?_, fun _ => rfl, ro0.close c d f hK' hKX' (fun q hq _ _ _ _ => g q hq) (fun q a b _ _ _ => (k q a b).trans (if_neg a).symm) (fun j a b => ?_)⟩
            · unfold f_X10_watch f_X8_isFull b_X10_watch_87
              rw [e1, bd_some, if_pos one0, x_find h5 h4, bd_some, e, Option.map_none, oC_none, h5.2.1, if_pos lR3, bd_some, if_neg (fun q => q rfl), xh, bd_some, eo, Option.map_none, oC_none, x_hr h5 h4 h1 h2 hn, eh, bd_some, if_pos (show bB false = 0 by decide), a, bd_some]
              show some (none, X' 11 2, X') = _
              rw [x11]
            · unfold f_X11_watch
              rw [e2, bd_some, if_pos one0, yr, bd_some, if_neg (fun q => q rfl), h4.1.2, if_neg nR3, y_hr h4 h1 hn, bd_some, eh, if_neg (show ¬ ¬ bB false = 0 by decide), y_over h4 h1 hn, bd_some, eo, if_pos (show enc none = -1 from rfl)]
              exact b
            · rw [k00]
              rfl
            · by_cases q : j = 0
              · rw [q, k00]; rfl
              · rw [k0 j q a]
                show Y 0 j = upd (Y 0) 0 0 j
                rw [u_at, if_neg q]
  · refine ⟨some 1, 0, X, 0, thr Y 1, ?_, ?_, rfl, (fun q => by cases q), h0 1⟩
    · unfold f_X10_watch
      rw [e1, bd_some, if_neg (fun q => q rfl)]
    · unfold f_X11_watch f_X11_fails
      rw [e2, bd_some, if_neg (fun q => q rfl), dX_eq]
      rfl

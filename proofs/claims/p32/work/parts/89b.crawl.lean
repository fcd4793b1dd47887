/-! ===== a work: a crawl's step, both sides ===== -/
theorem c_crawl {i M R P A r : Nat} {Xs Ys X Y : JX} (h : RelW i Xs Ys X Y M R P A) (hr : r < R) (hc : crawled Y r = true) : ∃ X' Y' A', f_X4_crawlOn X (pl X r) = some X' ∧ f_X11_goesOn Y (nI r) = some Y' ∧ RelW i Xs Ys X' Y' M R P A' := by
  have hW := h
  obtain ⟨⟨h1, h2, h3⟩, ⟨h4, h5, h6⟩, ⟨h7, h8, h9⟩, ⟨hK, hKX⟩, hL, -⟩ := h
  have hR := h4.1.1
  have hr3 : r < 3 := by omega
  have hp := rt_in h5.1 hr3
  have hM := h1.1.2.1
  have ok4 := n_ok4 (show r < 4 by omega)
  have clr := nI_clamp (show r < 2 ^ 31 by omega)
  generalize hpp : pl X r = p at hp
  have h15 : Y 15 r ≠ 0 := of_decide_eq_true hc
  have hCQ := ((QX_is X Y R) ▸ h6) r hr |>.2
  rw [hpp] at hCQ
  obtain ⟨w, hC, x4, hf15⟩ := hCQ.cw
  obtain ⟨y15, hw1⟩ := hf15.resolve_left h15
  obtain ⟨c1, c2, c3, c4, c5⟩ := id hC
  obtain ⟨g1, f, hf, g2⟩ := c2 0 (by omega)
  have g2 : Y 17 (60 * r) = nI f := g2
  have g1 : X (p + 4) 0 = nI f := g1.trans g2
  obtain ⟨X1, x1, e3, e4, e5, ex⟩ := x_wtake (q := p + 3) hw1 c1.1 c1.2.2 g1 hf
  let Y1 : JX := pX Y 16 (upd (Y 16) r (nI (w - 1)))
  obtain ⟨Y2, y2, fy2, y17⟩ := y_wf_loop hr3 hf (show w - 1 < 60 by omega) (w - 1) 0 1000 Y1 (Nat.zero_add _) (by omega) ((u_at _ _ _ _).trans (if_pos rfl))
  have ex' : ∀ k, k ≠ p + 3 → k ≠ p + 4 → k ≠ p + 5 → X1 k = X k := ex
  have ey : ∀ q, q ≠ 16 → q ≠ 17 → Y2 q = Y q := fun q a b => (fy2 q b).trans (if_neg a)
  have e16 : Y2 16 = upd (Y 16) r (nI (w - 1)) := (fy2 16 (by omega)).trans (if_pos rfl)
  have hC1 : CW X1 Y2 p r (w - 1) := hC.take hr3 hw1 hf g2 e3 e4 e5 (ex' (p + 6) (by omega) (by omega) (by omega)) (by rw [e16, u_at, if_pos rfl]) (fun q => by rw [y17 q]; rfl) (ey 18 (by omega) (by omega))
  have hT2 : TY Y2 M := h1.fr (by rw [ey 0 (by omega) (by omega)]) (fun q _ _ => ey q (by omega) (by omega))
  have hx2 : TX X1 Y2 := h2.fr (by rw [ex' 1 (by omega) (by omega) (by omega)]) (fun q _ _ => ex' q (by omega) (by omega) (by omega)) (fun q _ _ => ex' q (by omega) (by omega) (by omega)) (by rw [ey 0 (by omega) (by omega)]) (fun q _ _ => ey q (by omega) (by omega))
  have hE2 : EX X1 Y2 := h7.fr (fun q _ _ => ex' q (by omega) (by omega) (by omega)) (fun q _ _ => ex' q (by omega) (by omega) (by omega)) (fun q _ _ => ey q (by omega) (by omega)) (ey 31 (by omega) (by omega))
  have hK2 : KY Y2 A := by
    unfold KY
    rw [ey 0 (by omega) (by omega), ey 25 (by omega) (by omega), ey 26 (by omega) (by omega), ey 27 (by omega) (by omega)]
    exact hK
  have hKX2 : KX X1 Y2 A := by
    unfold KX
    rw [ex' 45 (by omega) (by omega) (by omega), ex' 46 (by omega) (by omega) (by omega), ex' 47 (by omega) (by omega) (by omega), ex' 48 (by omega) (by omega) (by omega), ey 25 (by omega) (by omega), ey 26 (by omega) (by omega), ey 27 (by omega) (by omega)]
    exact hKX
  have hMI : MI X1 Y2 p r X1 Y2 (w - 1) A := ⟨hC1, ⟨hK2, hKX2⟩, ⟨fun _ _ _ _ _ _ _ _ => rfl, fun _ _ => rfl⟩, fun _ _ _ _ _ _ _ _ => rfl, fun _ _ => rfl, fun _ _ _ => ⟨rfl, fun _ _ => ⟨rfl, rfl⟩⟩⟩
  have hroot : X1 p 3 = nI (rf Y r) := by
    rw [ex' p (by omega) (by omega) (by omega), ← hpp, h5.2.2 r hr, rf_eq h4 hr]
  have hrf := h4.2.1 r hr
  have hpr : prY Y2 = prY Y := prY_fr (ey 1 (by omega) (by omega)) (ey 3 (by omega) (by omega))
  have xb := x_isBelow (X := X1) hrf.1 hf (pr := prY Y) (fun n hn => by rw [(hx2.2 n hn).1, hpr]) h1.lt
  -- the folder's nodes are met on both sides, or on neither
  have mid : ∃ X3 Y3 w3 A3, MI X1 Y2 p r X3 Y3 w3 A3 ∧ f_X4_crawlOn X p = b_X4_crawlOn_39 X3 (p + 3) ∧ f_X11_goesOn Y (nI r) = b_X11_goesOn_201 Y3 (nI r) := by
    have xh : f_X4_crawlOn X p = if nI f = nI (rf Y r) then b_X4_crawlOn_33 X1 (p + 3) (nI f) else if bB (belo (prY Y) f (rf Y r)) = 0 then b_X4_crawlOn_39 X1 (p + 3) else b_X4_crawlOn_33 X1 (p + 3) (nI f) := by
      unfold f_X4_crawlOn
      rw [x1, bd_some]
      show (if nI f = X1 p 3 then b_X4_crawlOn_33 X1 (p + 3) (nI f) else (f_X9_isBelow X1 (nI f) (X1 p 3)).bind fun t2 => if t2 = 0 then b_X4_crawlOn_39 X1 (p + 3) else b_X4_crawlOn_33 X1 (p + 3) (nI f)) = _
      rw [hroot, xb, bd_some]
    have yh : f_X11_goesOn Y (nI r) = gEnd Y2 r f := by
      unfold f_X11_goesOn
      rw [n_60', if_pos (n_ok (show 60 * r < 240 by omega) (by decide)), nI_clamp (show 60 * r < 2 ^ 31 by omega), g2, dV_eq, if_pos ok4, if_pos ok4, clr, c1.2.1, n_sub1 (by omega), dX_eq]
      exact y2
    by_cases g : Y 1 f ≠ 0 ∧ (f = rf Y r ∨ belo (prY Y) f (rf Y r) = true)
    · obtain ⟨X3, Y3, w3, A3, m1, m2, -, m3⟩ := c_meets hT2 hx2 hE2 hp hr3 hf 60 0 1000 1000 X1 Y2 (w - 1) A rfl (by decide) (by decide) hMI
      have x33 : b_X4_crawlOn_33 X1 (p + 3) (nI f) = b_X4_crawlOn_39 X3 (p + 3) := by
        unfold b_X4_crawlOn_33
        rw [show f_X4_meetAllIn X1 (nI f) (p + 3) = some X3 from m1, bd_some]
      have y95 : b_X11_goesOn_95 Y2 (nI r) (nI f) = b_X11_goesOn_201 Y3 (nI r) := m2 (Nat.zero_le _)
      refine ⟨X3, Y3, w3, A3, m3, ?_, ?_⟩
      · rw [xh, x33]
        by_cases q : nI f = nI (rf Y r)
        · rw [if_pos q]
        · have hb := g.2.resolve_left (fun z => q (by rw [z]))
          rw [if_neg q, hb, if_neg (show ¬ bB true = 0 by decide)]
      · rw [yh]
        unfold gEnd
        rw [ey 1 (by omega) (by omega), if_neg g.1, ey 10 (by omega) (by omega), rf_eq h4 hr, y95]
        by_cases q : nI f = nI (rf Y r)
        · rw [if_pos q]
        · have hb := g.2.resolve_left (fun z => q (by rw [z]))
          rw [if_neg q, y_isBelow hT2 hf (by rw [ey 1 (by omega) (by omega)]; exact g.1) hrf.1, bd_some, hpr, hb, if_neg (show ¬ bB true = 0 by decide)]
    · refine ⟨X1, Y2, w - 1, A, hMI, ?_, ?_⟩
      · have q : ¬ nI f = nI (rf Y r) := fun z => g (by
          have := (nI_eq (sm hf) (sm hrf.1)).mp z
          exact ⟨by rw [this]; exact hrf.2.2.1, Or.inl this⟩)
        have hb : belo (prY Y) f (rf Y r) = false := by
          cases z : belo (prY Y) f (rf Y r) with
          | false => rfl
          | true =>
            refine absurd ⟨fun e1 => ?_, Or.inr z⟩ g
            have : prY Y f = none := by unfold prY; rw [if_neg (fun y => y.2 e1)]
            have z2 := (belo_On h1.2.2.2.2 f (rf Y r)).mp z
            rw [this] at z2
            exact On.none z2
        rw [xh, if_neg q, hb, if_pos (show bB false = 0 by decide)]
      · rw [yh]
        unfold gEnd
        by_cases e1 : Y2 1 f = 0
        · rw [if_pos e1]
        · have e1' : Y 1 f ≠ 0 := by rw [← ey 1 (by omega) (by omega)]; exact e1
          have q : ¬ nI f = nI (rf Y r) := fun z => g ⟨e1', Or.inl ((nI_eq (sm hf) (sm hrf.1)).mp z)⟩
          have hb : belo (prY Y) f (rf Y r) = false := by
            cases z : belo (prY Y) f (rf Y r) with
            | false => rfl
            | true => exact absurd ⟨e1', Or.inr z⟩ g
          rw [if_neg e1, ey 10 (by omega) (by omega), rf_eq h4 hr, if_neg q, y_isBelow hT2 hf e1 hrf.1, bd_some, hpr, hb, if_pos (show bB false = 0 by decide)]
  obtain ⟨X3, Y3, w3, A3, ⟨hC3, ⟨hK3, hKX3⟩, ⟨fx, fx3⟩, fy, fy0, fys⟩, xe, ye⟩ := mid
  -- the frames from the start
  have gx : ∀ q, q ≠ p + 3 → q ≠ p + 4 → q ≠ p + 5 → q ≠ p + 6 → q ≠ 45 → q ≠ 46 → q ≠ 47 → X3 q = X q := fun q a b c d e f9 g => (fx q a b c d e f9 g).trans (ex' q a b c)
  have gy : ∀ q, q ≠ 0 → q ≠ 16 → q ≠ 17 → q ≠ 18 → q ≠ 25 → q ≠ 26 → q ≠ 27 → Y3 q = Y q := fun q a b c d e f9 g => (fy q a b c d e f9 g).trans (ey q b c)
  have gy0 : ∀ j, j ≠ 30 → Y3 0 j = Y 0 j := fun j hj => by rw [fy0 j hj, ey 0 (by omega) (by omega)]
  have gys : ∀ s, s < 4 → s ≠ r → Y3 16 s = Y 16 s ∧ ∀ j, j < 60 → Y3 17 (60 * s + j) = Y 17 (60 * s + j) ∧ Y3 18 (60 * s + j) = Y 18 (60 * s + j) := fun s hs hsr => by
    obtain ⟨b1, b2⟩ := fys s hs hsr
    refine ⟨by rw [b1, e16, u_at, if_neg hsr], fun j hj => ⟨?_, ?_⟩⟩
    · rw [(b2 j hj).1, y17, if_neg (by omega)]
      rfl
    · rw [(b2 j hj).2, ey 18 (by omega) (by omega)]
  have x34 : X3 (p + 3) 4 = Y 15 r := by
    rw [fx3 4 (by decide), e3, u_at, if_neg (by decide)]
    exact x4
  -- the close: what a crawl's cells and the acts leave
  have fin : ∀ (X' Y' : JX) (A' : Nat), KY Y' A' → KX X' Y' A' → CQ X' Y' p r → (∀ q, q ≠ p + 3 → q ≠ p + 4 → q ≠ p + 5 → q ≠ p + 6 → q ≠ 45 → q ≠ 46 → q ≠ 47 → X' q = X q) → (∀ q, q ≠ 0 → q ≠ 15 → q ≠ 16 → q ≠ 17 → q ≠ 18 → q ≠ 25 → q ≠ 26 → q ≠ 27 → Y' q = Y q) → (∀ j, j ≠ 30 → Y' 0 j = Y 0 j) → (∀ s, s < 4 → s ≠ r → Y' 15 s = Y 15 s ∧ Y' 16 s = Y 16 s ∧ ∀ j, j < 60 → Y' 17 (60 * s + j) = Y 17 (60 * s + j) ∧ Y' 18 (60 * s + j) = Y 18 (60 * s + j)) → RelW i Xs Ys X' Y' M R P A' := by
    intro X' Y' A' a1 a2 a3 a4 a5 a6 a7
    let Xc : JX := fun q => if q < 34 then X' q else X q
    have lo : ∀ q, q < 34 → Xc q = X' q := fun q hq => if_pos hq
    have xc : ∀ q, q ≠ pl X r + 3 → q ≠ pl X r + 4 → q ≠ pl X r + 5 → q ≠ pl X r + 6 → Xc q = X q := fun q b1 b2 b3 b4 => by
      rw [hpp] at b1 b2 b3 b4
      by_cases z : q < 34
      · rw [lo q z]; exact a4 q b1 b2 b3 b4 (by omega) (by omega) (by omega)
      · exact if_neg z
    have hCc : CQ Xc Y' (pl X r) r := by
      rw [hpp]
      exact a3.fr (lo _ (by omega)) (lo _ (by omega)) (lo _ (by omega)) (lo _ (by omega)) eqC.rf
    have xc' : ∀ q, q ≠ p + 3 → q ≠ p + 4 → q ≠ p + 5 → q ≠ p + 6 → Xc q = X q := fun q b1 b2 b3 b4 => xc q (by rw [hpp]; exact b1) (by rw [hpp]; exact b2) (by rw [hpp]; exact b3) (by rw [hpp]; exact b4)
    have rxc : RX Xc Y' R := RX_setC hR h5 hr (xc' 11 (by omega) (by omega) (by omega) (by omega)) (xc' 12 (by omega) (by omega) (by omega) (by omega)) xc (a5 10 (by omega) (by omega) (by omega) (by omega) (by omega) (by omega) (by omega) (by omega))
    have qxc : QX Xc Y' R := QX_setC hR h5.1 h6 hr (xc' 12 (by omega) (by omega) (by omega) (by omega)) xc (fun q _ _ => a5 q (by omega) (by omega) (by omega) (by omega) (by omega) (by omega) (by omega) (by omega)) hCc (fun s hs hsr => a7 s (by omega) hsr)
    have c5 : ∀ q, 18 < q → q ≠ 25 → q ≠ 26 → q ≠ 27 → Y' q = Y q := fun q b1 b2 b3 b4 => a5 q (by omega) (by omega) (by omega) (by omega) (by omega) b2 b3 b4
    have c6 : ∀ q, 0 < q → q < 15 → Y' q = Y q := fun q b1 b2 => a5 q (by omega) (by omega) (by omega) (by omega) (by omega) (by omega) (by omega) (by omega)
    have x6 : ∀ q, q < 13 ∨ 33 < q → q ≠ 45 → q ≠ 46 → q ≠ 47 → X' q = X q := fun q b1 b2 b3 b4 => a4 q (by omega) (by omega) (by omega) (by omega) b2 b3 b4
    exact hW.go (rxc.fr hR (fun q _ hq => (lo q hq).symm) rfl) (qxc.fr hR rxc.1 (fun q _ hq => (lo q hq).symm) eqC.rf) (h7.fr (fun q _ _ => x6 q (by omega) (by omega) (by omega) (by omega)) (fun q _ _ => x6 q (by omega) (by omega) (by omega) (by omega)) (fun q _ _ => c5 q (by omega) (by omega) (by omega) (by omega)) (c5 31 (by omega) (by omega) (by omega) (by omega))) (h8.cells (c6 2 (by omega) (by omega)) (fun q _ _ => c5 q (by omega) (by omega) (by omega) (by omega))) (h9.cells (c6 2 (by omega) (by omega)) (c5 19 (by omega) (by omega) (by omega) (by omega)) (c5 31 (by omega) (by omega) (by omega) (by omega))) a1 a2 (hL.cells (c5 19 (by omega) (by omega) (by omega) (by omega)) (c5 30 (by omega) (by omega) (by omega) (by omega)) (c5 31 (by omega) (by omega) (by omega) (by omega))) (fun q hq => x6 q (by omega) (by omega) (by omega) (by omega)) (fun q b1 b2 => a5 q (by omega) (by omega) (by omega) (by omega) (by omega) (by omega) (by omega) (by omega)) (fun j b1 _ => a6 j b1)
  have e15 : Y3 15 = Y 15 := gy 15 (by omega) (by omega) (by omega) (by omega) (by omega) (by omega) (by omega)
  by_cases hw3 : w3 = 0
  · subst hw3
    let X4 : JX := pX X3 (p + 3) (upd (X3 (p + 3)) 4 0)
    let Y4 : JX := pX Y3 15 (upd (Y3 15) r 0)
    have fx4 : ∀ q, q ≠ p + 3 → X4 q = X3 q := fun q h => if_neg h
    have hX4 : X4 (p + 3) = upd (X3 (p + 3)) 4 0 := if_pos rfl
    have hC4 : CW X4 Y4 p r 0 := hC3.fr (by rw [hX4, u_at, if_neg (by decide)]) (fx4 _ (by omega)) (fx4 _ (by omega)) (fx4 _ (by omega)) rfl rfl rfl
    have hT4 : TY Y4 M := h1.fr (gy0 2 (by omega)) (fun q _ _ => (if_neg (by omega)).trans (gy q (by omega) (by omega) (by omega) (by omega) (by omega) (by omega) (by omega)))
    have fy4 : ∀ q, q ≠ 15 → Y4 q = Y3 q := fun q h => if_neg h
    have hE4 : EX X4 Y4 := h7.fr (fun q _ _ => (fx4 q (by omega)).trans (gx q (by omega) (by omega) (by omega) (by omega) (by omega) (by omega) (by omega))) (fun q _ _ => (fx4 q (by omega)).trans (gx q (by omega) (by omega) (by omega) (by omega) (by omega) (by omega) (by omega))) (fun q _ _ => (fy4 q (by omega)).trans (gy q (by omega) (by omega) (by omega) (by omega) (by omega) (by omega) (by omega))) ((fy4 31 (by omega)).trans (gy 31 (by omega) (by omega) (by omega) (by omega) (by omega) (by omega) (by omega)))
    have hEY4 : EY Y4 M := h8.cells ((fy4 2 (by omega)).trans (gy 2 (by omega) (by omega) (by omega) (by omega) (by omega) (by omega) (by omega))) (fun q _ _ => (fy4 q (by omega)).trans (gy q (by omega) (by omega) (by omega) (by omega) (by omega) (by omega) (by omega)))
    have hKX4 : KX X4 Y4 A3 := by
      unfold KX
      rw [fx4 45 (by omega), fx4 46 (by omega), fx4 47 (by omega), fx4 48 (by omega)]
      exact hKX3
    obtain ⟨X5, Y5, A5, u1, u2, u3, u4, u5, u6⟩ := c_unmet (p := p) (r := r) hT4 hE4 hEY4 (show KY Y4 A3 from hK3) hKX4 hp hr3 (fun n hn => (hC4.2.2.2.2 n hn).1)
    have y15' : Y5 15 = upd (Y 15) r 0 := by
      rw [u6.1 15 (by omega) (by omega) (by omega) (by omega)]
      show upd (Y3 15) r 0 = _
      rw [e15]
    have hC5 : CW X5 Y5 p r 0 := hC4.fr (by rw [u5 (p + 3) (by omega) (by omega) (by omega)]) (u5 _ (by omega) (by omega) (by omega)) (u5 _ (by omega) (by omega) (by omega)) (u5 _ (by omega) (by omega) (by omega)) (u6.1 16 (by omega) (by omega) (by omega) (by omega)) (u6.1 17 (by omega) (by omega) (by omega) (by omega)) (u6.1 18 (by omega) (by omega) (by omega) (by omega))
    refine ⟨X5, Y5, A5, ?_, ?_, fin X5 Y5 A5 u3 u4 (hC5.cq ?_ (Or.inl (by rw [y15', u_at, if_pos rfl]))) (fun q b1 b2 b3 b4 b5 b6 b7 => (u5 q b5 b6 b7).trans ((fx4 q b1).trans (gx q b1 b2 b3 b4 b5 b6 b7))) (fun q b0 b1 b2 b3 b4 b5 b6 b7 => (u6.1 q b0 b5 b6 b7).trans ((fy4 q b1).trans (gy q b0 b2 b3 b4 b5 b6 b7))) (fun j hj => (u6.2 j hj).trans (gy0 j hj)) (fun s hs hsr => ?_)⟩
    · rw [xe]
      unfold b_X4_crawlOn_39
      rw [hC3.1.2.2, if_neg (fun z => z rfl), if_pos (show okB 0 = true from rfl), dX_eq]
      show ((f_X4_lookAtUnmet X4 (p + 3)).bind fun X5 => some X5) = _
      rw [u1, bd_some]
    · rw [ye]
      unfold b_X11_goesOn_201
      rw [if_pos ok4, clr, hC3.1.2.1, if_neg (fun z => z rfl), if_pos ok4, dX_eq]
      exact u2
    · rw [u5 (p + 3) (by omega) (by omega) (by omega), hX4, u_at, if_pos rfl, y15', u_at, if_pos rfl]
    · rw [y15', u_at, if_neg hsr, u6.1 16 (by omega) (by omega) (by omega) (by omega), u6.1 17 (by omega) (by omega) (by omega) (by omega), u6.1 18 (by omega) (by omega) (by omega) (by omega)]
      exact ⟨rfl, gys s hs hsr⟩
  · refine ⟨X3, Y3, A3, ?_, ?_, fin X3 Y3 A3 hK3 hKX3 (hC3.cq (by rw [x34, e15]) (Or.inr ⟨by rw [e15]; exact y15, by omega⟩)) gx (fun q b0 _ b2 b3 b4 b5 b6 b7 => gy q b0 b2 b3 b4 b5 b6 b7) gy0 (fun s hs hsr => ⟨by rw [e15], gys s hs hsr⟩)⟩
    · rw [xe]
      unfold b_X4_crawlOn_39
      have := hC3.1.1
      rw [hC3.1.2.2, if_pos (nI_ne0 (by omega) (by omega))]
    · rw [ye]
      unfold b_X11_goesOn_201
      have := hC3.1.1
      rw [if_pos ok4, clr, hC3.1.2.1, if_pos (nI_ne0 (by omega) (by omega))]

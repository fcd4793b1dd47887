/-! ===== one root's crawl changes, the rest of the roots stays ===== -/
theorem CQ.fr2 {X X' Y Y' : JX} {p r : Nat} (h : CQ X Y p r) (x3 : X' (p + 3) = X (p + 3)) (x4 : X' (p + 4) = X (p + 4)) (x5 : X' (p + 5) = X (p + 5)) (x6 : X' (p + 6) = X (p + 6)) (y1 : Y' 15 r = Y 15 r) (y2 : Y' 16 r = Y 16 r) (y3 : ∀ j, j < 60 → Y' 17 (60 * r + j) = Y 17 (60 * r + j)) (y4 : ∀ j, j < 60 → Y' 18 (60 * r + j) = Y 18 (60 * r + j)) : CQ X' Y' p r := by
  obtain ⟨a, b, ⟨w, w60, e, f, g, d, k⟩, m⟩ := h
  refine ⟨by rw [x3, y1]; exact a, by rw [x3, y2]; exact b, ⟨w, w60, by rw [y2]; exact e, by rw [y1]; exact f, fun j hj => ?_, fun j k hj hk => ?_, fun n hn => ?_⟩, fun n hn => ?_⟩
  · rw [x4, y3 j (by omega)]; exact g j hj
  · rw [y3 j (by omega), y3 k (by omega)]; exact d j k hj hk
  · rw [x5, k n hn]
    exact ⟨fun ⟨j, h1, h2⟩ => ⟨j, h1, by rw [y3 j (by omega)]; exact h2⟩, fun ⟨j, h1, h2⟩ => ⟨j, h1, by rw [← y3 j (by omega)]; exact h2⟩⟩
  · rw [x6, y4 n hn]; exact m n hn
theorem QX_setC {X X' Y Y' : JX} {R r : Nat} (hR : R ≤ 3) (hP : PX X) (hQ : QX X Y R) (hr : r < R) (h12 : X' 12 = X 12) (hx : ∀ q, q ≠ pl X r + 3 → q ≠ pl X r + 4 → q ≠ pl X r + 5 → q ≠ pl X r + 6 → X' q = X q) (hy : eqC 11 15 Y' Y) (hc : CQ X' Y' (pl X r) r) (y1 : ∀ s, s < 3 → s ≠ r → Y' 15 s = Y 15 s ∧ Y' 16 s = Y 16 s ∧ ∀ j, j < 60 → Y' 17 (60 * s + j) = Y 17 (60 * s + j) ∧ Y' 18 (60 * s + j) = Y 18 (60 * s + j)) : QX X' Y' R := by
  rw [QX_is] at hQ ⊢
  intro s hs
  have hpl : pl X' s = pl X s := by unfold pl; rw [h12]
  rw [hpl]
  obtain ⟨a, b⟩ := hQ s hs
  have y11 := hy 11 (by omega) (by omega)
  have y12 := hy 12 (by omega) (by omega)
  have y13 := hy 13 (by omega) (by omega)
  have y14 := hy 14 (by omega) (by omega)
  by_cases e : s = r
  · subst e
    exact ⟨a.fr (hx _ (by omega) (by omega) (by omega) (by omega)) (hx _ (by omega) (by omega) (by omega) (by omega)) (hx _ (by omega) (by omega) (by omega) (by omega)) (by rw [y11]) (by rw [y14]) (fun j _ => by rw [y12]) (fun j _ => by rw [y13]), hc⟩
  · have ha := pl_apart hP (show r < 3 by omega) (show s < 3 by omega) (fun z => e z.symm)
    obtain ⟨c1, c2, c3⟩ := y1 s (by omega) e
    exact ⟨a.fr (hx _ (by omega) (by omega) (by omega) (by omega)) (hx _ (by omega) (by omega) (by omega) (by omega)) (hx _ (by omega) (by omega) (by omega) (by omega)) (by rw [y11]) (by rw [y14]) (fun j _ => by rw [y12]) (fun j _ => by rw [y13]), b.fr2 (hx _ (by omega) (by omega) (by omega) (by omega)) (hx _ (by omega) (by omega) (by omega) (by omega)) (hx _ (by omega) (by omega) (by omega) (by omega)) (hx _ (by omega) (by omega) (by omega) (by omega)) c1 c2 (fun j hj => (c3 j hj).1) (fun j hj => (c3 j hj).2)⟩
theorem RX_setC {X X' Y Y' : JX} {R r : Nat} (hR : R ≤ 3) (hX : RX X Y R) (hr : r < R) (h11 : X' 11 = X 11) (h12 : X' 12 = X 12) (hx : ∀ q, q ≠ pl X r + 3 → q ≠ pl X r + 4 → q ≠ pl X r + 5 → q ≠ pl X r + 6 → X' q = X q) (hy : Y' 10 = Y 10) : RX X' Y' R := by
  have hpl : ∀ s, pl X' s = pl X s := fun s => by unfold pl; rw [h12]
  obtain ⟨⟨a1, a2⟩, b, c⟩ := hX
  refine ⟨⟨fun s hs => by rw [hpl]; exact a1 s hs, fun s t hs ht => by rw [hpl, hpl]; exact a2 s t hs ht⟩, by rw [h11]; exact b, fun s hs => ?_⟩
  rw [hpl, hy]
  by_cases e : s = r
  · subst e; rw [hx _ (by omega) (by omega) (by omega) (by omega)]; exact c s hs
  · have ha := pl_apart (X := X) ⟨a1, a2⟩ (show r < 3 by omega) (show s < 3 by omega) (fun z => e z.symm)
    rw [hx _ (by omega) (by omega) (by omega) (by omega)]
    exact c s hs
theorem n_60' (r : Nat) : (60 : Int32) * nI r = nI (60 * r) := (Int32.ofNat_mul 60 r).symm
theorem n_60 (r j : Nat) : (60 : Int32) * nI r + nI j = nI (60 * r + j) := by rw [n_60', nI_add]
theorem y_begin_loop {r : Nat} (hr : r < 3) : ∀ m i F (Y : JX), i + m = 60 → m + 1 ≤ F → ∃ Y', loop2 (lb_X11_beginsCrawl_31 (nI r)) F Y (nI i) = some Y' ∧ (∀ k, k ≠ 18 → Y' k = Y k) ∧ ∀ q, Y' 18 q = if 60 * r + i ≤ q ∧ q < 60 * r + 60 then 0 else Y 18 q := by
  intro m
  induction m with
  | zero =>
    intro i F Y hi hF
    obtain ⟨F', rfl⟩ := Nat.exists_eq_add_of_le' hF
    have : i = 60 := by omega
    subst this
    refine ⟨Y, ?_, fun _ _ => rfl, fun q => by rw [if_neg (by omega)]⟩
    rw [zl2]
    generalize hR9 : loop2 _ F' = R9
    unfold lb_X11_beginsCrawl_31
    rw [if_pos g60]
  | succ m ih =>
    intro i F Y hi hF
    obtain ⟨F', rfl⟩ := Nat.exists_eq_add_of_le' (show 1 ≤ F by omega)
    obtain ⟨Y', e, f, g⟩ := ih (i + 1) F' (pX Y 18 (upd (Y 18) (60 * r + i) 0)) (by omega) (by omega)
    refine ⟨Y', ?_, fun k hk => (f k hk).trans (if_neg hk), fun q => ?_⟩
    · rw [zl2]
      generalize hR9 : loop2 _ F' = R9 at e
      unfold lb_X11_beginsCrawl_31
      rw [if_neg (nl60 (show i < 60 by omega)), n_60, if_pos (n_ok (show 60 * r + i < 240 by omega) (by decide)), nI_clamp (show 60 * r + i < 2 ^ 31 by omega), dX_eq, dV_eq, n_add1]
      exact e
    · rw [g q, p_at, if_pos rfl, u_at]
      by_cases h : q = 60 * r + i
      · rw [if_pos h, if_pos (show 60 * r + i ≤ q ∧ q < 60 * r + 60 by omega)]
        split <;> rfl
      · rw [if_neg h]
        by_cases h2 : 60 * r + (i + 1) ≤ q ∧ q < 60 * r + 60
        · rw [if_pos h2, if_pos (by omega)]
        · rw [if_neg h2, if_neg (by omega)]
theorem y_begin {Y : JX} {r : Nat} (hr : r < 3) : ∃ Y', f_X11_beginsCrawl Y (nI r) = some Y' ∧ (∀ k, k < 15 ∨ 18 < k → Y' k = Y k) ∧ Y' 15 = upd (Y 15) r 1 ∧ Y' 16 = upd (Y 16) r 1 ∧ Y' 17 = upd (Y 17) (60 * r) (Y 10 r) ∧ ∀ q, Y' 18 q = if 60 * r ≤ q ∧ q < 60 * r + 60 then 0 else Y 18 q := by
  obtain ⟨Y', e, f, g⟩ := y_begin_loop hr 60 0 1000 (pX (pX (pX Y 15 (upd (Y 15) r 1)) 16 (upd (Y 16) r 1)) 17 (upd (Y 17) (60 * r) (Y 10 r))) rfl (by decide)
  refine ⟨Y', ?_, fun k hk => (f k (by omega)).trans ((if_neg (by omega)).trans ((if_neg (by omega)).trans (if_neg (by omega)))), f 15 (by omega), f 16 (by omega), f 17 (by omega), fun q => by rw [g q]; rfl⟩
  unfold f_X11_beginsCrawl
  have c := n_ok4 (show r < 4 by omega)
  rw [if_pos c, dX_eq, if_pos c, dX_eq, if_pos c, n_60', if_pos (n_ok (show 60 * r < 240 by omega) (by decide)), dX_eq, nI_clamp (show r < 2 ^ 31 by omega), nI_clamp (show 60 * r < 2 ^ 31 by omega)]
  exact e
/-- both sides begin a crawl at the folder f -/
theorem c_begin0 {X Y : JX} {p r f : Nat} (hr : r < 3) (hf : f < 60) (hx : X p 3 = nI f) (hy : Y 10 r = nI f) : ∃ X' Y', f_X7_beginCrawl X p = some X' ∧ f_X11_beginsCrawl Y (nI r) = some Y' ∧ CQ X' Y' p r ∧ (∀ q, q ≠ p + 3 → q ≠ p + 4 → q ≠ p + 5 → q ≠ p + 6 → X' q = X q) ∧ (∀ q, q < 15 ∨ 18 < q → Y' q = Y q) ∧ ∀ s, s < 4 → s ≠ r → Y' 15 s = Y 15 s ∧ Y' 16 s = Y 16 s ∧ ∀ j, j < 60 → Y' 17 (60 * s + j) = Y 17 (60 * s + j) ∧ Y' 18 (60 * s + j) = Y 18 (60 * s + j) := by
  obtain ⟨X', x0, x1, x3, x4, x5, x6, x7⟩ := x_begin hf hx
  obtain ⟨Y', y0, y1, y15, y16, y17, y18⟩ := y_begin (Y := Y) hr
  have e17 : Y' 17 (60 * r) = nI f := by rw [y17, u_at, if_pos rfl, hy]
  refine ⟨X', Y', x0, y0, ⟨?_, ?_, ⟨1, by omega, ?_, Or.inr ⟨?_, Nat.le_refl 1⟩, fun j hj => ?_, fun j k hj hk _ => by omega, fun n hn => ?_⟩, fun n hn => ?_⟩, x1, y1, fun s hs hsr => ⟨?_, ?_, fun j hj => ⟨?_, ?_⟩⟩⟩
  · rw [x4, y15, u_at, if_pos rfl]
  · rw [x3, y16, u_at, if_pos rfl]; rfl
  · rw [y16, u_at, if_pos rfl]; rfl
  · rw [y15, u_at, if_pos rfl]
  · have : j = 0 := by omega
    subst this
    show X' (p + 4) 0 = Y' 17 (60 * r) ∧ ∃ n, n < 60 ∧ Y' 17 (60 * r) = nI n
    rw [e17]
    exact ⟨x5, f, hf, rfl⟩
  · rw [x6 n hn]
    by_cases h : n = f
    · rw [if_pos h]
      exact ⟨fun _ => ⟨0, by omega, by rw [Nat.add_zero, e17, h]⟩, fun _ => by decide⟩
    · rw [if_neg h]
      refine ⟨fun q => absurd rfl q, fun ⟨j, hj, q⟩ => ?_⟩
      have : j = 0 := by omega
      subst this
      rw [Nat.add_zero, e17] at q
      exact absurd ((nI_eq (sm hf) (sm hn)).mp q).symm h
  · rw [x7 n hn, y18, if_pos (by omega)]
    exact ⟨rfl, Or.inl rfl⟩
  · rw [y15, u_at, if_neg hsr]
  · rw [y16, u_at, if_neg hsr]
  · rw [y17, u_at, if_neg (by omega)]
  · rw [y18, if_neg (by omega)]
theorem c_begin {X Y : JX} {R r : Nat} (hY : RY Y R) (hX : RX X Y R) (hQ : QX X Y R) (hr : r < R) : ∃ X' Y', f_X7_beginCrawl X (pl X r) = some X' ∧ f_X11_beginsCrawl Y (nI r) = some Y' ∧ QX X' Y' R ∧ RX X' Y' R ∧ (∀ q, q ≠ pl X r + 3 → q ≠ pl X r + 4 → q ≠ pl X r + 5 → q ≠ pl X r + 6 → X' q = X q) ∧ (∀ q, q < 15 ∨ 18 < q → Y' q = Y q) := by
  have hR := hY.1.1
  have hr3 : r < 3 := by omega
  have hp := rt_in hX.1 hr3
  obtain ⟨X', Y', a, b, c, d, e, f⟩ := c_begin0 hr3 (hY.2.1 r hr).1 ((hX.2.2 r hr).trans (rf_eq hY hr)) (rf_eq hY hr)
  exact ⟨X', Y', a, b, QX_setC hR hX.1 hQ hr (d 12 (by omega) (by omega) (by omega) (by omega)) d (fun q _ _ => e q (by omega)) c (fun s hs hsr => f s (by omega) hsr), RX_setC hR hX hr (d 11 (by omega) (by omega) (by omega) (by omega)) (d 12 (by omega) (by omega) (by omega) (by omega)) d (e 10 (by omega)), d, e⟩
theorem y_cc_loop {Y : JX} {R : Nat} (hR : R ≤ 3) (h12 : Y 0 12 = nI R) : ∀ m i F c, i + m = R → m + 1 ≤ F → loop2 (lb_X11_crawl_39 Y) F (nI c) (nI i) = some (nI (c + cnt (crawled Y) m i), Y) := by
  intro m
  induction m with
  | zero =>
    intro i F c hi hF
    obtain ⟨F', rfl⟩ := Nat.exists_eq_add_of_le' hF
    rw [zl2]
    generalize hR9 : loop2 _ F' = R9
    unfold lb_X11_crawl_39
    rw [if_pos (show Y 0 12 ≤ nI i by rw [h12]; exact nI_le (by omega) (by omega))]
    rfl
  | succ m ih =>
    intro i F c hi hF
    obtain ⟨F', rfl⟩ := Nat.exists_eq_add_of_le' (show 1 ≤ F by omega)
    rw [zl2]
    have h9 := fun c => ih (i + 1) F' c (by omega) (by omega)
    generalize hR9 : loop2 _ F' = R9 at h9
    unfold lb_X11_crawl_39 b_X11_crawl_64
    rw [if_neg (show ¬ Y 0 12 ≤ nI i by rw [h12]; exact nI_ge (by omega) (by omega)), if_pos (n_ok4 (by omega)), nI_clamp (show i < 2 ^ 31 by omega), dV_eq, dV_eq, dV_eq, dV_eq, n_add1, cnt_s]
    by_cases e : Y 15 i = 0
    · rw [if_pos e, show nI c + 0 = nI c from Int32.add_zero _, h9]; simp [crawled, e]
    · rw [if_neg e, n_add1, h9]; simp [crawled, e, Nat.add_assoc]
/-- where only queues and crawls change the relation stays -/
theorem RelR.roots {i R : Nat} {X Y X' Y' : JX} (h : RelR i X Y R) (hr : RX X' Y' R) (hq : QX X' Y' R) (x1 : eqC 0 11 X' X) (x2 : eqC 34 176 X' X) (y : ∀ q, q < 11 ∨ 18 < q → Y' q = Y q) : Rel i X' Y' := by
  obtain ⟨M, A, P, S, ⟨h1, h2, h3⟩, h4, ⟨h7, h8⟩, ⟨h9, h10⟩, ⟨h11, h12, h13⟩, h14, h15⟩ := h
  have y0 := y 0 (by omega)
  have y10 : eqC 1 11 Y' Y := fun q _ _ => y q (by omega)
  have y20 : eqC 19 34 Y' Y := fun q _ _ => y q (by omega)
  have z : ∀ q, 19 ≤ q → Y' q = Y q := fun q _ => y q (by omega)
  have x0 := x1 0 (by omega) (by omega)
  refine ⟨M, R, A, P, S, ⟨h1.fr (by rw [y0]) (y10.sub (by omega) (by omega)), h2.fr (by rw [x1 1 (by omega) (by omega)]) (x1.sub (by omega) (by omega)) (x2.sub (by omega) (by omega)) (by rw [y0]) (y10.sub (by omega) (by omega)), ?_⟩, ⟨h4.fr (by rw [y0]) (y10 1 (by omega) (by omega)) (y10 2 (by omega) (by omega)) (y10 3 (by omega) (by omega)) (y10 10 (by omega) (by omega)), hr, hq⟩, ⟨h7.fr (x2.sub (by omega) (by omega)) (x2.sub (by omega) (by omega)) (y20.sub (by omega) (by omega)) (z 31 (by omega)), ?_⟩, ⟨?_, ?_⟩, ⟨?_, ?_, ?_⟩, ?_, ?_⟩
  · unfold TV
    rw [y10 1 (by omega) (by omega), y10 3 (by omega) (by omega), y10 4 (by omega) (by omega), y10 5 (by omega) (by omega), y10 6 (by omega) (by omega), y10 7 (by omega) (by omega), y10 8 (by omega) (by omega)]
    exact h3
  · unfold EY
    rw [y10 2 (by omega) (by omega), z 22 (by omega), z 19 (by omega), z 20 (by omega), z 23 (by omega), z 24 (by omega)]
    exact h8
  · unfold KY
    rw [y0, z 25 (by omega), z 26 (by omega), z 27 (by omega)]
    exact h9
  · unfold KX
    rw [x2 45 (by omega) (by omega), x2 46 (by omega) (by omega), x2 47 (by omega) (by omega), x2 48 (by omega) (by omega), z 25 (by omega), z 26 (by omega), z 27 (by omega)]
    exact h10
  · unfold IY
    rw [y0, y10 2 (by omega) (by omega), z 28 (by omega), z 29 (by omega), z 30 (by omega)]
    exact h11
  · unfold IX liveP deadP
    rw [x2 49 (by omega) (by omega), x2 50 (by omega) (by omega), x2 51 (by omega) (by omega), x2 52 (by omega) (by omega), z 28 (by omega), z 29 (by omega), z 30 (by omega)]
    exact h12
  · unfold IQ
    rw [z 19 (by omega), z 29 (by omega), z 30 (by omega), z 31 (by omega)]
    exact h13
  · unfold SX
    rw [x2 34 (by omega) (by omega), x0, y0]
    exact h14
  · unfold SY
    rw [y0]
    exact h15
/-! ===== call: crawl ===== -/
theorem op_17 {i : Nat} {X Y : JX} (h : Rel i X Y) : OpSim (Rel (i + 5)) X Y 17 := by
  intro v
  have h0 := fun s => (h.mono (show i ≤ i + 5 by omega)).thr (s := s)
  have hh := h0 0
  obtain ⟨M, R, A, P, S, h123, ⟨h4, h5, h6⟩, h78, h910, hI, h14, h15⟩ := hh
  have hR := h4.1.1
  have hY : RY Y R := h4
  have h5' : RX X Y R := h5
  cases e : ro Y R v with
  | none =>
    refine ⟨some 1, 0, X, 0, thr Y 1, ?_, ?_, rfl, (fun q => by cases q), h0 1⟩
    · unfold f_X10_crawl
      rw [x_find h5' hY, bd_some, e]
      rfl
    · unfold f_X11_crawl b_X11_crawl_17
      rw [y_rootAt hY, bd_some, e, if_neg (fun q => q rfl), dX_eq, if_neg (show ¬ (thr Y 1) 0 0 ≤ 0 from (by decide : ¬ (1 : Int32) ≤ 0))]
  | some r =>
    obtain ⟨hr, er⟩ := ro_lt e
    have hr3 : r < 3 := by omega
    have hp := rt_in h5.1 hr3
    obtain ⟨X', Y', x1, y1, q1, q2, q3, q4⟩ := c_begin h4 h5 h6 hr
    have rr : RelR (i + 5) X (thr Y 0) R := RelR.of h123 h4 h78 h910 hI h14 h15
    have y0 := q4 0 (by omega)
    have hY' : RY Y' R := h4.fr (by rw [y0]) (q4 1 (by omega)) (q4 2 (by omega)) (q4 3 (by omega)) (q4 10 (by omega))
    have yc := y_cc_loop hR hY'.1.2 R 0 1000 0 (Nat.zero_add _) (by omega)
    rw [Nat.zero_add] at yc
    refine ⟨none, nI (cnt (crawled Y') R 0), X', nI (cnt (crawled Y') R 0), Y', ?_, ?_, ?_, fun _ => rfl, rr.roots q2 q1 (fun q a b => q3 q (by omega) (by omega) (by omega) (by omega)) (fun q a b => q3 q (by omega) (by omega) (by omega) (by omega)) (fun q hq => q4 q (by omega))⟩
    · unfold f_X10_crawl
      rw [x_find h5' hY, bd_some, e, Option.map_some, oC_some, if_pos (h5.1.1 r hr3), x1, bd_some, x_cc hY' q2 q1, bd_some]
    · unfold f_X11_crawl b_X11_crawl_17
      rw [y_rootAt hY, bd_some, e, show enc (some r) = nI r from rfl, if_pos (nm1 (show r < 2 ^ 31 by omega)), dX_eq, if_pos (show (thr Y 0) 0 0 ≤ 0 from Int32.le_refl 0)]
      show ((f_X11_beginsCrawl (thr Y 0) (nI r)).bind fun X3 => loop2 (lb_X11_crawl_39 X3) 1000 (nI 0) (nI 0)) = _
      rw [y1, bd_some, yc]
    · rw [y0]
      rfl

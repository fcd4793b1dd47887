/-! ===== a work: a file is read, and what goes is forgotten ===== -/
def LVx (Ys Y : JX) (P n : Nat) : Prop := ∀ k, k < P → (Y 30 k = 0 ∨ Y 30 k = 1) ∧ (nd Ys k ≠ n → (Y 30 k = 0 ↔ Ys 30 k = 0 ∧ Y 19 (nd Ys k) ≠ 0 ∧ Y 31 (nd Ys k) = 0))
theorem LV.x {Ys Y : JX} {P n : Nat} (h : LV Ys Y P) : LVx Ys Y P n := fun k hk => ⟨(h k hk).1, fun _ => (h k hk).2⟩
theorem LVx.pl {Ys Y : JX} {P n : Nat} (h : LVx Ys Y P n) : LVx Ys (plY Y n) P n := by
  intro k hk
  obtain ⟨a, b⟩ := h k hk
  refine ⟨a, fun q => ?_⟩
  show Y 30 k = 0 ↔ Ys 30 k = 0 ∧ upd (Y 19) n 1 (nd Ys k) ≠ 0 ∧ Y 31 (nd Ys k) = 0
  rw [u_at, if_neg q]
  exact b q
theorem c_read {Ys X Y : JX} {M P i n : Nat} (hx : TX X Y) (hV : TV Y i) (h34 : X 34 0 = Y 0 28 ∧ X 34 1 = Y 0 29) (hS : SY Y) (hE : ∀ k, k < 60 → (k ≠ n → X 36 k = Y 19 k ∧ X 37 k = Y 20 k ∧ X 38 k = Y 21 k ∧ X 39 k = Y 22 k ∧ X 40 k = Y 23 k ∧ X 42 k = Y 31 k) ∧ ∀ j, j < 20 → X (116 + k) j = Y 24 (20 * k + j)) (hEY : EY Y M) (hER : ER Y) (hn : n < 60) (hM : n < M) (h2 : Y 2 n = 0) (h19 : Y 19 n ≠ 0) (hPL : PL Ys M P) (h37 : Y 0 37 = nI P) (h29 : Y 29 = Ys 29) (hL : LVx Ys Y P n) : ∃ (X1 X2 Y' : JX) (t : Nat), f_X6_takeWords X (56 + n) (X 9 n) (116 + n) = some (nI t, X1) ∧ f_X2_keepEdition X1 (nI n) (nI t) = some X2 ∧ f_X11_reads Y (nI n) = some Y' ∧ (∀ k, k < 60 → (k ≠ n → X2 36 k = Y' 19 k ∧ X2 37 k = Y' 20 k ∧ X2 38 k = Y' 21 k) ∧ X2 39 k = Y' 22 k ∧ X2 40 k = Y' 23 k ∧ X2 42 k = Y' 31 k ∧ ∀ j, j < 20 → X2 (116 + k) j = Y' 24 (20 * k + j)) ∧ EY Y' M ∧ ER Y' ∧ LV Ys Y' P ∧ (∀ q, q ≠ 39 → q ≠ 40 → q ≠ 42 → q < 116 → X2 q = X q) ∧ (∀ q, q ≠ 0 → q ≠ 22 → q ≠ 23 → q ≠ 24 → q ≠ 30 → q ≠ 31 → q ≠ 33 → Y' q = Y q) ∧ ∀ j, j ≠ 44 → Y' 0 j = Y 0 j := by
  obtain ⟨t20, tw, ⟨X1, x1, x2, x3, x4⟩, Y1, y1, y2, y3, y4, y5⟩ := c_take (q3 := 116 + n) hx hV h34 hS hn (Or.inr (by omega))
  generalize ht : (tkn Y n).1 = t at t20 tw x1 x2 x4 y2 y3
  have ok := n_ok60 hn
  have cl := nI_clamp (sm hn)
  obtain ⟨a2, a3, a4, a5, a6, a7, a9, a8, at', ac⟩ := hx.2 n hn
  let X2 : JX := pX (pX (pX X1 39 (upd (X1 39) n (X1 8 n))) 40 (upd (X1 40) n (nI t))) 42 (upd (X1 42) n 1)
  let Y3 : JX := pX (pX Y1 22 (upd (Y1 22) n (Y1 5 n))) 23 (upd (Y1 23) n (nI t))
  obtain ⟨Y4, z1, z2, z3⟩ := y_words_loop hn t20 t 0 1000 Y3 (Nat.zero_add _) (by omega) y2
  have e30 : Y4 30 = Y 30 := (z2 30 (by omega)).trans (y4 30 (by omega) (by omega))
  have e29 : Y4 29 = Ys 29 := ((z2 29 (by omega)).trans (y4 29 (by omega) (by omega))).trans h29
  obtain ⟨Y5, k1, k2, k3⟩ := y_kills (Y := Y4) hPL.1 hn (by rw [z2 0 (by omega)]; exact (y5 37 (by omega)).trans h37) (fun q hq => by rw [e30]; exact (hL q hq).1)
  let Y6 : JX := pX Y5 31 (upd (Y5 31) n 1)
  have fy3 : ∀ q, q ≠ 0 → q ≠ 22 → q ≠ 23 → q ≠ 33 → Y3 q = Y q := fun q h0 h22 h23 h33 => (if_neg h23).trans ((if_neg h22).trans (y4 q h0 h33))
  have fy6 : ∀ q, q ≠ 0 → q ≠ 22 → q ≠ 23 → q ≠ 24 → q ≠ 30 → q ≠ 31 → q ≠ 33 → Y6 q = Y q := fun q h0 h22 h23 h24 h30 h31 h33 => (if_neg h31).trans ((k2 q h30).trans ((z2 q h24).trans (fy3 q h0 h22 h23 h33)))
  have y622 : ∀ k, Y6 22 k = if k = n then Y 5 n else Y 22 k := fun k => by
    have : Y6 22 k = Y3 22 k := by rw [show Y6 22 = Y3 22 from (if_neg (by omega)).trans ((k2 22 (by omega)).trans (z2 22 (by omega)))]
    rw [this]
    show upd (Y1 22) n (Y1 5 n) k = _
    rw [u_at, y4 22 (by omega) (by omega), y4 5 (by omega) (by omega)]
  have y623 : ∀ k, Y6 23 k = if k = n then nI t else Y 23 k := fun k => by
    have : Y6 23 k = Y3 23 k := by rw [show Y6 23 = Y3 23 from (if_neg (by omega)).trans ((k2 23 (by omega)).trans (z2 23 (by omega)))]
    rw [this]
    show upd (Y1 23) n (nI t) k = _
    rw [u_at, y4 23 (by omega) (by omega)]
  have y631 : ∀ k, Y6 31 k = if k = n then 1 else Y 31 k := fun k => by
    show upd (Y5 31) n 1 k = _
    rw [u_at, k2 31 (by omega), z2 31 (by omega), fy3 31 (by omega) (by omega) (by omega) (by omega)]
  have y630 : ∀ k, Y6 30 k = if k < P ∧ Ys 29 k = nI n then 1 else Y 30 k := fun k => by
    rw [show Y6 30 = Y5 30 from if_neg (by omega), k3 k, e29, e30]
  have y624 : ∀ q, Y6 24 q = if 20 * n ≤ q ∧ q < 20 * n + t then Y1 33 (q - 20 * n) else Y 24 q := fun q => by
    rw [show Y6 24 = Y4 24 from (if_neg (by omega)).trans (k2 24 (by omega)), z3 q]
    show (if 20 * n + 0 ≤ q ∧ q < 20 * n + t then Y1 33 (q - 20 * n) else Y1 24 q) = _
    rw [y4 24 (by omega) (by omega)]
    rfl
  have fx2 : ∀ q, q ≠ 39 → q ≠ 40 → q ≠ 42 → q ≠ 116 + n → X2 q = X q := fun q h1 h2 h3 h4 => (if_neg h3).trans ((if_neg h2).trans ((if_neg h1).trans (x3 q h4)))
  refine ⟨X1, X2, Y6, t, x1, ?_, ?_, fun k hk => ?_, fun k hk => ?_, fun k hk => ?_, fun k hk => ?_, fun q h1 h2 h3 h4 => fx2 q h1 h2 h3 (by omega), fy6, fun j hj => ?_⟩
  · unfold f_X2_keepEdition
    rw [if_neg (nI_pos (sm hn)), if_neg (nl60 hn), x_editionOf hn, bd_some, if_pos ok, cl, dX_eq, if_pos ok, dX_eq, if_pos ok, dX_eq]
    rfl
  · unfold f_X11_reads
    rw [y1, bd_some, if_pos ok, if_pos ok, cl, dX_eq, if_pos ok, dX_eq]
    show loop2 (lb_X11_reads_29 (nI n)) 1000 (pX (pX Y1 22 (upd (Y1 22) n (Y1 5 n))) 23 (upd (Y1 23) n (Y1 0 44))) (nI 0) = _
    rw [y2, z1, k1, bd_some, if_pos ok, cl, dX_eq]
    rfl
  · obtain ⟨e1, e116⟩ := hE k hk
    rw [fx2 36 (by omega) (by omega) (by omega) (by omega), fx2 37 (by omega) (by omega) (by omega) (by omega), fx2 38 (by omega) (by omega) (by omega) (by omega), fy6 19 (by omega) (by omega) (by omega) (by omega) (by omega) (by omega) (by omega), fy6 20 (by omega) (by omega) (by omega) (by omega) (by omega) (by omega) (by omega), fy6 21 (by omega) (by omega) (by omega) (by omega) (by omega) (by omega) (by omega), y622, y623, y631]
    refine ⟨fun q => ⟨(e1 q).1, (e1 q).2.1, (e1 q).2.2.1⟩, ?_, ?_, ?_, fun j hj => ?_⟩
    · show upd (X1 39) n (X1 8 n) k = _
      rw [u_at, x3 39 (by omega), x3 8 (by omega), a8 h2]
      by_cases q : k = n
      · rw [if_pos q, if_pos q]
      · rw [if_neg q, if_neg q]; exact (e1 q).2.2.2.1
    · show upd (X1 40) n (nI t) k = _
      rw [u_at, x3 40 (by omega)]
      by_cases q : k = n
      · rw [if_pos q, if_pos q]
      · rw [if_neg q, if_neg q]; exact (e1 q).2.2.2.2.1
    · show upd (X1 42) n 1 k = _
      rw [u_at, x3 42 (by omega)]
      by_cases q : k = n
      · rw [if_pos q, if_pos q]
      · rw [if_neg q, if_neg q]; exact (e1 q).2.2.2.2.2
    · rw [show X2 (116 + k) = X1 (116 + k) from (if_neg (by omega)).trans ((if_neg (by omega)).trans (if_neg (by omega))), y624]
      by_cases q : k = n
      · subst q
        by_cases hjt : j < t
        · rw [if_pos (show 20 * k ≤ 20 * k + j ∧ 20 * k + j < 20 * k + t by omega), x2 j hjt, show 20 * k + j - 20 * k = j by omega, y3 j hjt]
        · rw [if_neg (show ¬ (20 * k ≤ 20 * k + j ∧ 20 * k + j < 20 * k + t) by omega), x4 j (by omega)]
          exact e116 j hj
      · rw [if_neg (show ¬ (20 * n ≤ 20 * k + j ∧ 20 * k + j < 20 * n + t) by omega), x3 _ (by omega)]
        exact e116 j hj
  · obtain ⟨b1, ⟨l, hl, el, hw⟩, b3⟩ := hEY k hk
    rw [fy6 19 (by omega) (by omega) (by omega) (by omega) (by omega) (by omega) (by omega), fy6 20 (by omega) (by omega) (by omega) (by omega) (by omega) (by omega) (by omega), fy6 2 (by omega) (by omega) (by omega) (by omega) (by omega) (by omega) (by omega), y622, y623]
    by_cases q : k = n
    · subst q
      rw [if_pos rfl, if_pos rfl]
      refine ⟨b1, ⟨t, t20, rfl, fun j hj => ?_⟩, fun z => ?_⟩
      · rw [y624, if_pos (show 20 * k ≤ 20 * k + j ∧ 20 * k + j < 20 * k + t by omega), show 20 * k + j - 20 * k = j by omega, y3 j hj]
        exact tw j hj
      · rcases z with z | z
        · omega
        · exact absurd h2 z
    · rw [if_neg q, if_neg q]
      refine ⟨b1, ⟨l, hl, el, fun j hj => ?_⟩, b3⟩
      rw [y624, if_neg (show ¬ (20 * n ≤ 20 * k + j ∧ 20 * k + j < 20 * n + t) by omega)]
      exact hw j hj
  · obtain ⟨b1, b2⟩ := hER k hk
    rw [y631, fy6 19 (by omega) (by omega) (by omega) (by omega) (by omega) (by omega) (by omega), fy6 2 (by omega) (by omega) (by omega) (by omega) (by omega) (by omega) (by omega)]
    by_cases q : k = n
    · rw [if_pos q, q]
      exact ⟨Or.inr rfl, fun _ => ⟨h19, h2⟩⟩
    · rw [if_neg q]
      exact ⟨b1, b2⟩
  · obtain ⟨b1, b2⟩ := hL k hk
    obtain ⟨p1, p2, p3⟩ := hPL.2 k hk
    rw [y630, y631, fy6 19 (by omega) (by omega) (by omega) (by omega) (by omega) (by omega) (by omega)]
    by_cases q : nd Ys k = n
    · rw [if_pos (show k < P ∧ Ys 29 k = nI n from ⟨hk, by rw [p1, q]⟩), if_pos q]
      exact ⟨Or.inr rfl, ⟨fun z => absurd z one0, fun z => absurd z.2.2 one0⟩⟩
    · have hne : ¬ (k < P ∧ Ys 29 k = nI n) := fun z => q (by
        have := z.2
        rw [p1] at this
        by_cases hb : nd Ys k < 2 ^ 31
        · exact (nI_eq hb (sm hn)).mp this
        · exfalso
          have hz : (Ys 29 k).toNatClampNeg = nd Ys k := rfl
          rw [z.2, nI_clamp (sm hn)] at hz
          omega)
      rw [if_neg hne, if_neg q]
      exact ⟨b1, b2 q⟩
  · show (pX Y5 31 (upd (Y5 31) n 1)) 0 j = Y 0 j
    rw [p_at, if_neg (by omega), k2 0 (by omega), z2 0 (by omega)]
    show Y1 0 j = Y 0 j
    exact y5 j hj
/-! what is forgotten -/
def gon (Y : JX) (R n k : Nat) : Bool := decide (k = n) || (decide (ro Y R (nI n) = none) && lbl Y R (nI n) 60 (kp Y k))
theorem x_gon1 {X Y : JX} {M R n : Nat} {v2 : Int32} (hX : RX X Y R) (hY : RY Y R) (hE : EX X Y) (hEY : EY Y M) (hn : n < 60) (hv : v2 = if ro Y R (nI n) = none then 0 else 1) : ∀ m i F (X1 : JX), i + m = 60 → m + 1 ≤ F → (∀ q, q ≠ 43 → X1 q = X q) → (∀ j, j < i → X1 43 j = bB (gon Y R n j)) → ∃ X', loop2 (lb_X2_takeAway_19 (nI n) v2) F X1 (nI i) = l_X2_takeAway_62 X' 0 ∧ (∀ q, q ≠ 43 → X' q = X q) ∧ ∀ j, j < 60 → X' 43 j = bB (gon Y R n j) := by
  have hR := hY.1.1
  intro m
  induction m with
  | zero =>
    intro i F X1 hi hF ho h
    obtain ⟨F', rfl⟩ := Nat.exists_eq_add_of_le' hF
    have : i = 60 := by omega
    subst this
    refine ⟨X1, ?_, ho, h⟩
    rw [zl2]
    generalize hR9 : loop2 _ F' = R9
    unfold lb_X2_takeAway_19
    rw [if_pos g60]
  | succ m ih =>
    intro i F X1 hi hF ho h
    obtain ⟨F', rfl⟩ := Nat.exists_eq_add_of_le' (show 1 ≤ F by omega)
    have hi6 : i < 60 := by omega
    have hX1 : RX X1 Y R := hX.fr hR (fun q _ _ => ho q (by omega)) rfl
    have hE1 : EX X1 Y := hE.fr (fun q _ _ => ho q (by omega)) (fun q _ _ => ho q (by omega)) eqC.rf rfl
    obtain ⟨X', a, b⟩ := ih (i + 1) F' (pX X1 43 (upd (X1 43) i (bB (gon Y R n i)))) (by omega) (by omega) (fun q hq => (if_neg hq).trans (ho q hq)) (fun j hj => by
      show upd (X1 43) i (bB (gon Y R n i)) j = _
      rw [u_at]
      by_cases q : j = i
      · rw [if_pos q, q]
      · rw [if_neg q]; exact h j (by omega))
    refine ⟨X', ?_, b⟩
    rw [zl2]
    generalize hR9 : loop2 _ F' = R9 at a
    have go : ∀ s : Int32, s = bB (gon Y R n i) → b_X2_takeAway_53 R9 X1 (nI n) v2 (nI i) s (nI i) = l_X2_takeAway_62 X' 0 := fun s hs => by
      subst hs
      unfold b_X2_takeAway_53
      rw [if_pos (n_ok60 hi6), nI_clamp (sm hi6), nar01 (show bB (gon Y R n i) = 0 ∨ bB (gon Y R n i) = 1 by cases gon Y R n i <;> simp [bB]), dX_eq, dV_eq, n_add1]
      exact a
    unfold lb_X2_takeAway_19
    rw [if_neg (nl60 hi6)]
    by_cases q : i = n
    · rw [if_pos (by rw [q])]
      exact go 1 (by simp [gon, q, bB])
    · rw [if_neg (nne hi6 hn q)]
      by_cases e : ro Y R (nI n) = none
      · rw [if_pos e] at hv
        subst hv
        rw [if_neg (show ¬ ¬ (0 : Int32) = 0 from fun z => z rfl), x_lies hX1 hY hE1 hEY hi6, bd_some]
        cases hl : lbl Y R (nI n) 60 (kp Y i) with
        | true =>
          rw [if_neg (show ¬ bB true = 0 by decide)]
          exact go 1 (by simp [gon, e, hl, bB])
        | false =>
          rw [if_pos (show bB false = 0 by decide)]
          exact go 0 (by simp [gon, q, hl, bB])
      · rw [if_neg e] at hv
        subst hv
        rw [if_pos one0]
        exact go 0 (by simp [gon, q, e, bB])
theorem x_gon2 : ∀ m i F (X : JX), i + m = 60 → m + 1 ≤ F → ∃ X', loop2 lb_X2_takeAway_62 F X (nI i) = some X' ∧ (∀ q, q ≠ 36 → q ≠ 42 → X' q = X q) ∧ (∀ j, X' 36 j = if i ≤ j ∧ j < 60 ∧ X 43 j ≠ 0 then 0 else X 36 j) ∧ ∀ j, X' 42 j = if i ≤ j ∧ j < 60 ∧ X 43 j ≠ 0 then 0 else X 42 j := by
  intro m
  induction m with
  | zero =>
    intro i F X hi hF
    obtain ⟨F', rfl⟩ := Nat.exists_eq_add_of_le' hF
    have : i = 60 := by omega
    subst this
    refine ⟨X, ?_, fun _ _ _ => rfl, fun j => by rw [if_neg (by omega)], fun j => by rw [if_neg (by omega)]⟩
    rw [zl2]
    generalize hR9 : loop2 _ F' = R9
    unfold lb_X2_takeAway_62
    rw [if_pos g60]
  | succ m ih =>
    intro i F X hi hF
    obtain ⟨F', rfl⟩ := Nat.exists_eq_add_of_le' (show 1 ≤ F by omega)
    have hi6 : i < 60 := by omega
    have ok := n_ok60 hi6
    rw [zl2]
    by_cases e : X 43 i = 0
    · obtain ⟨X', a, b, c, d⟩ := ih (i + 1) F' X (by omega) (by omega)
      generalize hR9 : loop2 _ F' = R9 at a
      have key : ∀ (u v : Int32) (j : Nat), (if i + 1 ≤ j ∧ j < 60 ∧ X 43 j ≠ 0 then u else v) = if i ≤ j ∧ j < 60 ∧ X 43 j ≠ 0 then u else v := fun u v j => by
        by_cases q : j = i
        · rw [if_neg (show ¬ (i + 1 ≤ j ∧ j < 60 ∧ X 43 j ≠ 0) by omega), if_neg (fun z => z.2.2 (by rw [q]; exact e))]
        · by_cases q2 : i + 1 ≤ j ∧ j < 60 ∧ X 43 j ≠ 0
          · rw [if_pos q2, if_pos ⟨by omega, q2.2⟩]
          · rw [if_neg q2, if_neg (fun z => q2 ⟨by omega, z.2⟩)]
      refine ⟨X', ?_, b, fun j => by rw [c j, key], fun j => by rw [d j, key]⟩
      unfold lb_X2_takeAway_62 b_X2_takeAway_91
      rw [if_neg (nl60 hi6), if_pos ok, nI_clamp (sm hi6), if_pos e, dV_eq, n_add1]
      exact a
    · obtain ⟨X', a, b, c, d⟩ := ih (i + 1) F' (pX (pX X 36 (upd (X 36) i 0)) 42 (upd (X 42) i 0)) (by omega) (by omega)
      generalize hR9 : loop2 _ F' = R9 at a
      have key : ∀ (f : Nat → Int32) (j : Nat), (if i + 1 ≤ j ∧ j < 60 ∧ X 43 j ≠ 0 then 0 else upd f i 0 j) = if i ≤ j ∧ j < 60 ∧ X 43 j ≠ 0 then 0 else f j := fun f j => by
        rw [u_at]
        by_cases q : j = i
        · rw [if_neg (show ¬ (i + 1 ≤ j ∧ j < 60 ∧ X 43 j ≠ 0) by omega), if_pos q, if_pos ⟨by omega, by omega, by rw [q]; exact e⟩]
        · rw [if_neg q]
          by_cases q2 : i + 1 ≤ j ∧ j < 60 ∧ X 43 j ≠ 0
          · rw [if_pos q2, if_pos ⟨by omega, q2.2⟩]
          · rw [if_neg q2, if_neg (fun z => q2 ⟨by omega, z.2⟩)]
      refine ⟨X', ?_, fun q h1 h2 => (b q h1 h2).trans ((if_neg h2).trans (if_neg h1)), fun j => ?_, fun j => ?_⟩
      · unfold lb_X2_takeAway_62 b_X2_takeAway_91
        rw [if_neg (nl60 hi6), if_pos ok, nI_clamp (sm hi6), if_neg e, if_pos ok, dX_eq, if_pos ok, dX_eq, dV_eq, n_add1]
        exact a
      · rw [c j]; exact key (X 36) j
      · rw [d j]; exact key (X 42) j

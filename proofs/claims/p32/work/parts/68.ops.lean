/-! ===== call: remove ===== -/
theorem it_sub {pr pr' : Nat → Option Nat} (h : ∀ k, pr' k = pr k ∨ pr' k = none) {g : Nat} : ∀ j u, it pr' j u = some g → it pr j u = some g
  | 0, _, e => e
  | j + 1, none, e => by rw [it_none] at e; cases e
  | j + 1, some k, e => by
    have e2 : it pr' j (pr' k) = some g := e
    show it pr j (pr k) = some g
    rcases h k with q | q
    · rw [q] at e2; exact it_sub h j (pr k) e2
    · rw [q, it_none] at e2; cases e2
theorem cut_rel {i M n : Nat} {X Y X' Y' : JX} (h1 : TY Y M) (h2 : TX X Y) (h3 : TV Y i) (n0 : n ≠ 0) (fx : ∀ q, q ≠ 2 → q ≠ 5 → X' q = X q) (x5 : ∀ j, X' 5 j = if j < 60 ∧ lv Y n j = true then 0 else X 5 j) (x2 : ∀ j, X' 2 j = if j < 60 ∧ X' 5 j = 0 then -1 else X 2 j) (fy : ∀ q, q ≠ 1 → q ≠ 32 → Y' q = Y q) (y1 : ∀ j, Y' 1 j = if j < M then (if Y 1 j ≠ 0 ∧ lv Y n j = false then 1 else 0) else Y 1 j) : TY Y' M ∧ TX X' Y' ∧ TV Y' i ∧ (∀ k, k < 60 → Y' 1 k ≠ 0 → Y 1 k ≠ 0) ∧ (∀ k, prY Y' k = prY Y k ∨ prY Y' k = none) ∧ ∀ k, k < 60 → X' 5 k = Y' 1 k := by
  have y1' : ∀ k, k < 60 → Y' 1 k = if lv Y n k = true then 0 else Y 1 k := by
    intro k hk
    rw [y1]
    by_cases q : k < M
    · rw [if_pos q]
      by_cases e : lv Y n k = true
      · rw [if_pos e, if_neg (fun z => by rw [e] at z; cases z.2)]
      · rw [if_neg e]
        by_cases e2 : Y 1 k = 0
        · rw [if_neg (fun z => z.1 e2), e2]
        · rw [if_pos ⟨e2, Bool.eq_false_iff.mpr e⟩]
          exact (((h3 k hk).2.1.2.1).resolve_left e2).symm
    · rw [if_neg q]
      have e2 : Y 1 k = 0 := by
        by_cases e2 : Y 1 k = 0
        · exact e2
        · exact absurd (h1.2.2.1 k hk e2) q
      rw [e2]
      split <;> rfl
  have hth : ∀ k, k < 60 → Y' 1 k ≠ 0 → Y 1 k ≠ 0 ∧ lv Y n k = false := by
    intro k hk z
    rw [y1' k hk] at z
    by_cases e : lv Y n k = true
    · rw [if_pos e] at z; exact absurd rfl z
    · rw [if_neg e] at z; exact ⟨z, Bool.eq_false_iff.mpr e⟩
  have hst : ∀ k, k < 60 → Y 1 k ≠ 0 → lv Y n k = false → Y' 1 k ≠ 0 := by
    intro k hk z e
    rw [y1' k hk, if_neg (by rw [e]; decide)]
    exact z
  have hup : ∀ k m, k < 60 → Y' 1 k ≠ 0 → prY Y k = some m → m < 60 ∧ Y' 1 m ≠ 0 := by
    intro k m hk z e
    obtain ⟨a, b⟩ := hth k hk z
    obtain ⟨c, d⟩ := (h1.st k ⟨hk, a⟩).2.2 m e
    refine ⟨c, hst m c d ?_⟩
    cases w : lv Y n m with
    | false => rfl
    | true =>
      have := (lv_iff h1).mpr ⟨a, On.up.mpr (Or.inr (by rw [e]; exact ((lv_iff h1).mp w).2))⟩
      rw [b] at this
      cases this
  have y3 := fy 3 (by omega) (by omega)
  have hpr : ∀ k, prY Y' k = prY Y k ∨ prY Y' k = none := by
    intro k
    unfold prY
    by_cases q : k < 60 ∧ Y' 1 k ≠ 0
    · rw [if_pos q, if_pos ⟨q.1, (hth k q.1 q.2).1⟩, y3]; exact Or.inl rfl
    · rw [if_neg q]; exact Or.inr rfl
  have hprs : ∀ k, k < 60 → Y' 1 k ≠ 0 → prY Y' k = prY Y k := by
    intro k hk z
    unfold prY
    rw [if_pos ⟨hk, z⟩, if_pos ⟨hk, (hth k hk z).1⟩, y3]
  have l0 : lv Y n 0 = false := by
    cases w : lv Y n 0 with
    | false => rfl
    | true =>
      have p0 : prY Y 0 = none := by
        unfold prY
        rw [if_pos ⟨by omega, h1.2.1.1⟩, h1.2.1.2.2, dec_m1]
      rcases On.up.mp ((lv_iff h1).mp w).2 with z | z
      · exact absurd z.symm n0
      · rw [p0] at z; exact absurd z On.none
  have x5' : ∀ k, k < 60 → X' 5 k = Y' 1 k := by
    intro k hk
    rw [x5, y1' k hk, (h2.2 k hk).2.2.2.1]
    by_cases e : lv Y n k = true
    · rw [if_pos ⟨hk, e⟩, if_pos e]
    · rw [if_neg (fun z => e z.2), if_neg e]
  refine ⟨⟨by rw [fy 0 (by omega) (by omega)]; exact h1.1, ⟨hst 0 (by omega) h1.2.1.1 l0, by rw [fy 2 (by omega) (by omega)]; exact h1.2.1.2.1, by rw [y3]; exact h1.2.1.2.2⟩, fun k hk z => h1.2.2.1 k hk (hth k hk z).1, fun k h0 hk z => ?_, ⟨fun a b e => ?_, fun u => ?_⟩⟩, ⟨?_, fun k hk => ?_⟩, fun k hk => ?_, fun k hk z => (hth k hk z).1, hpr, x5'⟩
  · obtain ⟨a, b⟩ := hth k hk z
    obtain ⟨m, hm, e, e1, e2⟩ := h1.2.2.2.1 k h0 hk a
    have pk : prY Y k = some m := by
      unfold prY
      rw [if_pos ⟨hk, a⟩, e, dec_nI (sm hm)]
    refine ⟨m, hm, by rw [y3]; exact e, (hup k m hk z pk).2, by rw [fy 2 (by omega) (by omega)]; exact e2⟩
  · rcases hpr a with q | q
    · rw [q] at e; exact h1.2.2.2.2.1 a b e
    · rw [q] at e; cases e
  · obtain ⟨k, e⟩ := h1.2.2.2.2.2 u
    refine ⟨k, ?_⟩
    cases w : it (prY Y') k u with
    | none => rfl
    | some g =>
      rw [it_sub hpr k u w] at e
      cases e
  · rw [fx 1 (by omega) (by omega), fy 0 (by omega) (by omega)]; exact h2.1
  · obtain ⟨a2, a3, a4, a5, a6, a7, a9, a8, at', ac⟩ := h2.2 k hk
    rw [fx 3 (by omega) (by omega), fx 4 (by omega) (by omega), fx 6 (by omega) (by omega), fx 7 (by omega) (by omega), fx 9 (by omega) (by omega), fx 8 (by omega) (by omega), fx (56 + k) (by omega) (by omega), fy 4 (by omega) (by omega), fy 2 (by omega) (by omega), fy 8 (by omega) (by omega), fy 9 (by omega) (by omega), fy 6 (by omega) (by omega), fy 5 (by omega) (by omega), fy 7 (by omega) (by omega)]
    refine ⟨?_, a3, a4, x5' k hk, a6, a7, a9, a8, at', ac⟩
    rw [x2, x5' k hk]
    by_cases q : Y' 1 k = 0
    · rw [if_pos ⟨hk, q⟩]
      unfold prY
      rw [if_neg (fun z => z.2 q)]
      rfl
    · rw [if_neg (fun z => q z.2), hprs k hk q]
      exact a2
  · obtain ⟨b1, b3, b4⟩ := h3 k hk
    rw [fy 5 (by omega) (by omega), fy 6 (by omega) (by omega), fy 7 (by omega) (by omega), fy 8 (by omega) (by omega), fy 3 (by omega) (by omega), fy 4 (by omega) (by omega)]
    refine ⟨b1, ⟨b3.1, ?_, fun m hm z1 z2 => b3.2.2 m hm (hth k hk z1).1 (hth m hm z2).1⟩, b4⟩
    rw [y1' k hk]
    split
    · exact Or.inl rfl
    · exact b3.2.1
theorem RelO.tree {i M P S : Nat} {X Y X' Y' : JX} (h : RelO i X Y M P S) (h1' : TY Y' M) (h2' : TX X' Y') (h3' : TV Y' i) (x : ∀ q, q ≠ 2 → q ≠ 5 → X' q = X q) (y : ∀ q, q ≠ 1 → q ≠ 32 → Y' q = Y q) : RelO i X' Y' M P S := by
  obtain ⟨-, ⟨h7, h8⟩, ⟨h11, h12, h13⟩, h14, h15⟩ := h
  have z : ∀ q, 1 < q → q < 32 → Y' q = Y q := fun q a b => y q (by omega) (by omega)
  have w : ∀ q, 5 < q → X' q = X q := fun q a => x q (by omega) (by omega)
  have y0 := y 0 (by omega) (by omega)
  have x0 := x 0 (by omega) (by omega)
  refine ⟨⟨h1', h2', h3'⟩, ⟨h7.fr (fun q _ _ => w q (by omega)) (fun q _ _ => w q (by omega)) (fun q _ _ => z q (by omega) (by omega)) (z 31 (by omega) (by omega)), ?_⟩, ⟨?_, ?_, ?_⟩, ?_, ?_⟩
  · unfold EY
    rw [z 2 (by omega) (by omega), z 22 (by omega) (by omega), z 19 (by omega) (by omega), z 20 (by omega) (by omega), z 23 (by omega) (by omega), z 24 (by omega) (by omega)]
    exact h8
  · unfold IY
    rw [y0, z 2 (by omega) (by omega), z 28 (by omega) (by omega), z 29 (by omega) (by omega), z 30 (by omega) (by omega)]
    exact h11
  · unfold IX liveP deadP
    rw [w 49 (by omega), w 50 (by omega), w 51 (by omega), w 52 (by omega), z 28 (by omega) (by omega), z 29 (by omega) (by omega), z 30 (by omega) (by omega)]
    exact h12
  · unfold IQ
    rw [z 19 (by omega) (by omega), z 29 (by omega) (by omega), z 30 (by omega) (by omega), z 31 (by omega) (by omega)]
    exact h13
  · unfold SX
    rw [w 34 (by omega), x0, y0]
    exact h14
  · unfold SY
    rw [y0]
    exact h15
def rEnd (v : Int32) (R0 : Nat) (Y : JX) : Option (Int32 × JX) := if nI R0 ≤ Y 0 12 then some (v, Y) else (f_X11_looksAtLost Y).bind fun X9 => some (v, X9)
theorem c_gone {v : Int32} {R0 : Nat} (hR0 : R0 ≤ 3) {Xb Yb : JX} (h51 : ∀ k, k < 60 → Xb 5 k = Yb 1 k) : ∀ i R' F F2 (X Y : JX) (b : Bool), i ≤ R' → R' ≤ R0 → i + 1 ≤ F → i + 1 ≤ F2 → RG Y R' i → RX X Y R' → QX X Y R' → (b = true ↔ R' < R0) → (∀ k, k ≠ 11 → k ≠ 12 → X k = Xb k) → (∀ c, c ≠ 0 → (c < 10 ∨ 18 < c) → Y c = Yb c) → (∀ j, j ≠ 12 → Y 0 j = Yb 0 j) → ∃ X' Y' R'' b', loop3 lb_X8_endGone_4 F X (bB b) (nI i - 1) = some (bB b', X') ∧ loop2 (lb_X11_remove_168 v (nI R0)) F2 Y (nI i - 1) = rEnd v R0 Y' ∧ R'' ≤ R0 ∧ RG Y' R'' 0 ∧ RX X' Y' R'' ∧ QX X' Y' R'' ∧ (b' = true ↔ R'' < R0) ∧ (∀ k, k ≠ 11 → k ≠ 12 → X' k = Xb k) ∧ (∀ c, c ≠ 0 → (c < 10 ∨ 18 < c) → Y' c = Yb c) ∧ ∀ j, j ≠ 12 → Y' 0 j = Yb 0 j := by
  intro i
  induction i with
  | zero =>
    intro R' F F2 X Y b hi hR hF hF2 hY hX hQ hb fx fy fy0
    obtain ⟨F', rfl⟩ := Nat.exists_eq_add_of_le' hF
    obtain ⟨F3, rfl⟩ := Nat.exists_eq_add_of_le' hF2
    refine ⟨X, Y, R', b, ?_, ?_, hR, hY, hX, hQ, hb, fx, fy, fy0⟩
    · rw [zl3]
      generalize hR9 : loop3 _ F' = R9
      unfold lb_X8_endGone_4
      rw [if_pos m1_lt, if_pos (bB_ok b)]
    · rw [zl2]
      generalize hR9 : loop2 _ F3 = R9
      unfold lb_X11_remove_168 rEnd
      rw [if_pos m1_lt]
  | succ i ih =>
    intro R' F F2 X Y b hi hR hF hF2 hY hX hQ hb fx fy fy0
    obtain ⟨F', rfl⟩ := Nat.exists_eq_add_of_le' (show 1 ≤ F by omega)
    obtain ⟨F3, rfl⟩ := Nat.exists_eq_add_of_le' (show 1 ≤ F2 by omega)
    obtain ⟨g1, g2, g3, g4⟩ := hY.2.1 i (by omega)
    have cl := nI_clamp (show i < 2 ^ 31 by omega)
    have hth : f_X9_isThere X (nI (rf Y i)) = some (bo (Y 1 (rf Y i) ≠ 0)) := by
      rw [x_isThere g1, fx 5 (by omega) (by omega), h51 _ g1, fy 1 (by omega) (by omega)]
    by_cases e : Y 1 (rf Y i) = 0
    · obtain ⟨X1, Y1, x1, y1, a1, a2, a3, a4, a5, a6⟩ := c_drop (i' := i) hY hX hQ (show i < R' by omega) (fun s h1 h2 => by unfold tu; rw [if_neg (by omega)]; omega)
      obtain ⟨X', Y', R'', b', p1, p2, p3⟩ := ih (R' - 1) F' F3 X1 Y1 true (by omega) (by omega) (by omega) (by omega) a1 a2 a3 ⟨fun _ => by omega, fun _ => rfl⟩ (fun k h1 h2 => (a4 k h1 h2).trans (fx k h1 h2)) (fun c h1 h2 => (a5 c h1 h2).trans (fy c h1 h2)) (fun j hj => (a6 j hj).trans (fy0 j hj))
      refine ⟨X', Y', R'', b', ?_, ?_, p3⟩
      · rw [zl3]
        generalize hR9 : loop3 _ F' = R9 at p1
        unfold lb_X8_endGone_4 b_X8_endGone_51
        rw [nI_pred, if_neg (nI_pos (show i < 2 ^ 31 by omega)), if_pos (n_ok (show i < 3 by omega) (by decide)), cl, dN_eq, show (X 12 i).toNatClampNeg = pl X i from rfl, if_pos (hX.1.1 i (by omega)), hX.2.1, if_neg (nI_ge (by omega) (by omega)), hX.2.2 i (by omega), g2, hth, bd_some, bo_f (fun z => z e), if_neg (fun z => z rfl), ← g2, x1, bd_some, dV_eq, nn_m1]
        exact p1
      · rw [zl2]
        generalize hR9 : loop2 _ F3 = R9 at p2
        unfold lb_X11_remove_168 b_X11_remove_194
        rw [nI_pred, if_neg (nI_pos (show i < 2 ^ 31 by omega)), if_pos (n_ok4 (by omega)), cl, g2, if_pos (n_ok60 g1), nI_clamp (sm g1), if_neg (fun z => z e), y1, bd_some, dV_eq, nn_m1]
        exact p2
    · have hY' : RG Y R' i := ⟨hY.1, fun s hs => ⟨(hY.2.1 s hs).1, (hY.2.1 s hs).2.1, fun hs2 => by
        by_cases q : s = i
        · rw [q]; exact e
        · exact (hY.2.1 s hs).2.2.1 (by omega), (hY.2.1 s hs).2.2.2⟩, hY.2.2⟩
      obtain ⟨X', Y', R'', b', p1, p2, p3⟩ := ih R' F' F3 X Y b (by omega) hR (by omega) (by omega) hY' hX hQ hb fx fy fy0
      refine ⟨X', Y', R'', b', ?_, ?_, p3⟩
      · rw [zl3]
        generalize hR9 : loop3 _ F' = R9 at p1
        unfold lb_X8_endGone_4 b_X8_endGone_51
        rw [nI_pred, if_neg (nI_pos (show i < 2 ^ 31 by omega)), if_pos (n_ok (show i < 3 by omega) (by decide)), cl, dN_eq, show (X 12 i).toNatClampNeg = pl X i from rfl, if_pos (hX.1.1 i (by omega)), hX.2.1, if_neg (nI_ge (by omega) (by omega)), hX.2.2 i (by omega), g2, hth, bd_some, bo_t e, if_pos one0, dV_eq, nn_m1]
        exact p1
      · rw [zl2]
        generalize hR9 : loop2 _ F3 = R9 at p2
        unfold lb_X11_remove_168 b_X11_remove_194
        rw [nI_pred, if_neg (nI_pos (show i < 2 ^ 31 by omega)), if_pos (n_ok4 (by omega)), cl, g2, if_pos (n_ok60 g1), nI_clamp (sm g1), if_pos e, dV_eq, nn_m1]
        exact p2
theorem x_gone_skip {X Y : JX} {R : Nat} {v : Int32} (hX : RX X Y R) : ∀ m i F, i = R + m → i ≤ 3 → m ≤ F → loop3 lb_X8_endGone_4 F X v (nI i - 1) = loop3 lb_X8_endGone_4 (F - m) X v (nI R - 1) := by
  intro m
  induction m with
  | zero => intro i F hi _ _; rw [hi]; rfl
  | succ m ih =>
    intro i F hi hi3 hF
    obtain ⟨F', rfl⟩ := Nat.exists_eq_add_of_le' (show 1 ≤ F by omega)
    obtain ⟨k, rfl⟩ : ∃ k, i = k + 1 := ⟨i - 1, by omega⟩
    have h9 := ih k F' (by omega) (by omega) (by omega)
    rw [zl3]
    generalize hR9 : loop3 _ F' = R9 at h9
    have : F' + 1 - (m + 1) = F' - m := by omega
    rw [this, ← h9]
    unfold lb_X8_endGone_4 b_X8_endGone_51
    rw [nI_pred, if_neg (nI_pos (show k < 2 ^ 31 by omega)), if_pos (n_ok (show k < 3 by omega) (by decide)), nI_clamp (show k < 2 ^ 31 by omega), dN_eq, show (X 12 k).toNatClampNeg = pl X k from rfl, if_pos (hX.1.1 k (by omega)), hX.2.1, if_pos (nI_le (by omega) (by omega)), dV_eq, nn_m1]
theorem op_4 {i : Nat} {X Y : JX} (h : Rel i X Y) : OpSim (Rel (i + 5)) X Y 4 := by
  intro v
  have h0 := fun s => (h.mono (show i ≤ i + 5 by omega)).thr (s := s)
  have one : SimT (Rel (i + 5)) [1] (some (some 1, 0, X)) (some (0, thr Y 1)) := ⟨some 1, 0, X, 0, thr Y 1, rfl, rfl, rfl, (fun q => by cases q), h0 1⟩
  have bad : b_X11_remove_18 Y v 1 = some (0, thr Y 1) := by
    unfold b_X11_remove_18
    rw [dX_eq, if_neg (show ¬ (thr Y 1) 0 0 ≤ 0 from (by decide : ¬ (1 : Int32) ≤ 0))]
  have hh := h0 0
  obtain ⟨M, R, A, P, S, ⟨h1, h2, h3⟩, ⟨h4, h5, h6⟩, h78, h910, hI, h14, h15⟩ := hh
  rcases c_there (Y := Y) h1 h2 v with ⟨n, hn, hnM, rfl, nt, e1, e2⟩ | ⟨-, e1, e2⟩
  rotate_left
  · have xe : f_X10_remove X v = some (some 1, 0, X) := by
      unfold f_X10_remove b_X10_remove_15
      by_cases q : v = 0
      · rw [if_pos q]
      · rw [if_neg q, e1, bd_some, if_neg (fun z => z rfl)]
    have ye : f_X11_remove Y v = some (0, thr Y 1) := by
      unfold f_X11_remove
      rw [e2, bd_some, if_pos rfl, bad]
    rw [xe, ye]
    exact one
  by_cases n0 : n = 0
  · have xe : f_X10_remove X (nI n) = some (some 1, 0, X) := by
      unfold f_X10_remove b_X10_remove_15
      rw [if_pos (by rw [n0]; rfl)]
    have ye : f_X11_remove Y (nI n) = some (0, thr Y 1) := by
      unfold f_X11_remove
      rw [e2, bd_some, if_neg one0, if_pos (by rw [n0]; rfl), bad]
    rw [xe, ye]
    exact one
  have nn0 : ¬ nI n = 0 := fun z => n0 ((n_0 (sm hn)).mp z)
  obtain ⟨X2, Y2, xx, yy, q2, r2, ex1, ex2, ey⟩ := c_above (v := 2) h1 h2 h4 h5 h6 (Or.inr (Or.inr rfl)) hn
  have ho := y_over h4 h1 hn
  have yc := yy _ ho
  have rr : RelR (i + 5) X (thr Y 0) R := RelR.of ⟨h1, h2, h3⟩ h4 h78 h910 hI h14 h15
  have rel2 := rr.queue r2 q2 (ex1.sub (by omega) (by omega)) ex2 ey
  have y200 : Y2 0 0 = 0 := by
    rw [ey 0 (by omega) (by omega) (by omega) (by omega)]
    rfl
  have y21 : Y2 1 n ≠ 0 := by
    rw [ey 1 (by omega) (by omega) (by omega) (by omega)]
    exact nt
  clear rr hI h14 h15 h78 h910 q2 r2
  obtain ⟨M2, R2, A2, P2, S2, ⟨k1, k2, k3⟩, ⟨k4, k5, k6⟩, ⟨k7, k8⟩, ⟨k9, k10⟩, kI, k14, k15⟩ := rel2
  have hR2 := k4.1.1
  have hM2 := k1.1.2.1
  obtain ⟨Xa, xa, xao, xa5⟩ := x_tk1 k1 k2 hn 60 0 1000 X2 0 rfl (by decide) (fun _ _ => rfl) (fun j => by rw [if_neg (by omega)])
  obtain ⟨Xc, xb, xbo, xb2⟩ := x_tk2 (c := nI (0 + cnt (lv Y2 n) 60 0)) 60 0 1000 Xa rfl (by decide)
  obtain ⟨Ya, ya, yao, ya32⟩ := y_rm1 k1 hn M2 0 1000 Y2 0 (Nat.zero_add _) (by omega) (fun _ _ => rfl)
  obtain ⟨Yc, yb, ybo, yb1⟩ := y_rm2 (R := R2) (c := nI (0 + cnt (lv Y2 n) M2 0)) hM2 M2 0 1000 Ya (Nat.zero_add _) (by omega) (by rw [yao 0 (by omega)]; exact k1.1.2.2) (by rw [yao 0 (by omega)]; exact k4.1.2)
  have hcnt : cnt (lv Y2 n) 60 0 = cnt (lv Y2 n) M2 0 := cnt_60 hM2 (fun k hk hk6 => by
    cases w : lv Y2 n k with
    | false => rfl
    | true => exact absurd (k1.2.2.1 k hk6 ((lv_iff k1).mp w).1) (by omega))
  rw [Nat.zero_add] at xa xb ya yb
  rw [hcnt] at xa xb
  have fxc : ∀ q, q ≠ 2 → q ≠ 5 → Xc q = X2 q := fun q a b => (xbo q a).trans (xao q b)
  have fyc : ∀ q, q ≠ 1 → q ≠ 32 → Yc q = Y2 q := fun q a b => (ybo q a).trans (yao q b)
  obtain ⟨t1, t2, t3, t4, t5, t6⟩ := cut_rel k1 k2 k3 n0 fxc (fun j => by rw [xbo 5 (by omega), xa5]) (fun j => by
    rw [xb2, xbo 5 (by omega), xao 2 (by omega)]
    by_cases q : j < 60 ∧ Xa 5 j = 0
    · rw [if_pos q, if_pos ⟨Nat.zero_le _, q⟩]
    · rw [if_neg q, if_neg (fun z => q z.2)]) fyc (fun j => by
    rw [yb1, yao 1 (by omega), ya32]
    by_cases q : j < M2
    · rw [if_pos (show 0 ≤ j ∧ j < M2 from ⟨Nat.zero_le _, q⟩), if_pos (show 0 ≤ j ∧ j < M2 from ⟨Nat.zero_le _, q⟩), if_pos q]
      by_cases c : Y2 1 j ≠ 0 ∧ lv Y2 n j = false
      · rw [if_pos c, if_pos (show Y2 1 j ≠ 0 ∧ bB (lv Y2 n j) = 0 from ⟨c.1, by rw [c.2]; rfl⟩)]
      · rw [if_neg c, if_neg (fun z => c ⟨z.1, by have := z.2; rw [bB_0] at this; exact this⟩)]
    · rw [if_neg (fun z => q z.2), if_neg q])
  have ro := (show RelO (i + 5) X2 Y2 M2 P2 S2 from ⟨⟨k1, k2, k3⟩, ⟨k7, k8⟩, kI, k14, k15⟩).tree t1 t2 t3 fxc fyc
  have hrf : rf Yc = rf Y2 := by funext r; unfold rf; rw [fyc 10 (by omega) (by omega)]
  have hG : RG Yc R2 R2 := by
    refine ⟨by rw [fyc 0 (by omega) (by omega)]; exact k4.1, fun r hr => ?_, fun r s hr hs hrs => ?_⟩
    · rw [hrf, fyc 10 (by omega) (by omega), fyc 2 (by omega) (by omega)]
      obtain ⟨a, b, c, d⟩ := k4.2.1 r hr
      exact ⟨a, b, fun z => absurd z (by omega), d⟩
    · rw [hrf]
      refine ⟨(k4.2.2 r s hr hs hrs).1, fun z => (k4.2.2 r s hr hs hrs).2 ?_⟩
      obtain ⟨j, e⟩ := z
      rcases t5 (rf Y2 r) with w | w
      · rw [w] at e
        exact ⟨j, it_sub t5 j _ e⟩
      · rw [w, it_none] at e
        cases e
  have rXc : RX Xc Yc R2 := k5.fr hR2 (fun q _ _ => fxc q (by omega) (by omega)) (fyc 10 (by omega) (by omega))
  have rQc : QX Xc Yc R2 := k6.fr hR2 k5.1 (fun q _ _ => fxc q (by omega) (by omega)) (fun q _ _ => fyc q (by omega) (by omega))
  obtain ⟨Xd, Yd, R3, b9, xd, yd, hR3, g1, g2, g3, g4, fxd, fyd, fyd0⟩ := c_gone (v := nI (cnt (lv Y2 n) M2 0)) hR2 t6 R2 R2 (1000 - (3 - R2)) 1000 Xc Yc false (Nat.le_refl _) (Nat.le_refl _) (by omega) (by omega) hG rXc rQc ⟨(fun z => by cases z), (fun z => by omega)⟩ (fun _ _ _ => rfl) (fun _ _ _ => rfl) (fun _ _ => rfl)
  have hxt : f_X9_takeAway X2 (nI n) = some (nI (cnt (lv Y2 n) M2 0), Xc) := by
    have : f_X9_takeAway X2 (nI n) = loop3 (lb_X9_takeAway_4 (nI n)) 1000 X2 (nI 0) (nI 0) := rfl
    rw [this, xa]
    exact xb
  have hxg : f_X8_endGone Xc = some (bB b9, Xd) := by
    have : f_X8_endGone Xc = loop3 lb_X8_endGone_4 1000 Xc (bB false) (nI 3 - 1) := rfl
    rw [this, x_gone_skip rXc (3 - R2) 3 1000 (by omega) (by omega) (by omega)]
    exact xd
  have hyl : b_X11_remove_18 Y (nI n) 0 = rEnd (nI (cnt (lv Y2 n) M2 0)) R2 Yd := by
    unfold b_X11_remove_18
    rw [dX_eq, if_pos (show (thr Y 0) 0 0 ≤ 0 from Int32.le_refl 0)]
    rw [show f_X11_over (pX Y 0 (upd (Y 0) 0 0)) (nI n) = some _ from ho, bd_some]
    rw [show f_X11_comes (pX Y 0 (upd (Y 0) 0 0)) _ 2 (nI n) = some Y2 from yc, bd_some]
    have : l_X11_remove_45 (nI n) Y2 0 0 = loop3 (lb_X11_remove_45 (nI n)) 1000 Y2 (nI 0) (nI 0) := rfl
    rw [this, ya]
    have : l_X11_remove_112 (nI (cnt (lv Y2 n) M2 0)) Ya 0 = loop2 (lb_X11_remove_112 (nI (cnt (lv Y2 n) M2 0))) 1000 Ya (nI 0) := rfl
    rw [this, yb]
    exact yd
  have hT : TY Yd M2 := t1.fr (fyd0 2 (by omega)) (fun q _ _ => fyd q (by omega) (by omega))
  have hKd : KY Yd A2 := by
    unfold KY
    rw [fyd0 30 (by omega), fyd 25 (by omega) (by omega), fyd 26 (by omega) (by omega), fyd 27 (by omega) (by omega), fyc 0 (by omega) (by omega), fyc 25 (by omega) (by omega), fyc 26 (by omega) (by omega), fyc 27 (by omega) (by omega)]
    exact k9
  have hKXd : KX Xd Yd A2 := by
    unfold KX
    rw [fxd 45 (by omega) (by omega), fxd 46 (by omega) (by omega), fxd 47 (by omega) (by omega), fxd 48 (by omega) (by omega), fyd 25 (by omega) (by omega), fyd 26 (by omega) (by omega), fyd 27 (by omega) (by omega), fxc 45 (by omega) (by omega), fxc 46 (by omega) (by omega), fxc 47 (by omega) (by omega), fxc 48 (by omega) (by omega), fyc 25 (by omega) (by omega), fyc 26 (by omega) (by omega), fyc 27 (by omega) (by omega)]
    exact k10
  have xhead : ∀ z, (if bB b9 = 0 then some (none, nI (cnt (lv Y2 n) M2 0), Xd) else (f_X4_lookAtAllEntries Xd).bind fun X5 => some (none, nI (cnt (lv Y2 n) M2 0), X5)) = z → f_X10_remove X (nI n) = z := by
    intro z hz
    unfold f_X10_remove
    rw [if_neg nn0, e1, bd_some, if_pos one0, show f_X8_tellAbove X (nI n) 3 = some X2 from xx, bd_some, hxt, bd_some, hxg, bd_some]
    exact hz
  have yhead : f_X11_remove Y (nI n) = rEnd (nI (cnt (lv Y2 n) M2 0)) R2 Yd := by
    unfold f_X11_remove
    rw [e2, bd_some, if_neg one0, if_neg nn0, hyl]
  have yd00 : Yd 0 0 = 0 := by rw [fyd0 0 (by omega), fyc 0 (by omega) (by omega)]; exact y200
  cases hb9 : b9 with
  | false =>
    have hR : R3 = R2 := by
      by_cases q : R3 < R2
      · have := g4.mpr q
        rw [hb9] at this
        cases this
      · omega
    refine ⟨none, nI (cnt (lv Y2 n) M2 0), Xd, nI (cnt (lv Y2 n) M2 0), Yd, xhead _ (by rw [hb9, if_pos (show bB false = 0 by decide)]), ?_, ?_, fun _ => rfl, ro.close g1.ry g2 g3 hKd hKXd (fun q hq _ _ _ _ => fxd q (by omega) (by omega)) (fun q a b _ _ _ => fyd q a b) (fun j a _ => fyd0 j a)⟩
    · rw [yhead]
      unfold rEnd
      rw [g1.1.2, hR, if_pos (Int32.le_refl _)]
    · rw [yd00]; rfl
  | true =>
    have hR : R3 < R2 := g4.mp hb9
    have hE : EX Xd Yd := ro.2.1.1.fr (fun q _ _ => fxd q (by omega) (by omega)) (fun q _ _ => fxd q (by omega) (by omega)) (fun q _ _ => fyd q (by omega) (by omega)) (fyd 31 (by omega) (by omega))
    have hEY : EY Yd M2 := by
      unfold EY
      rw [fyd 2 (by omega) (by omega), fyd 22 (by omega) (by omega), fyd 19 (by omega) (by omega), fyd 20 (by omega) (by omega), fyd 23 (by omega) (by omega), fyd 24 (by omega) (by omega)]
      exact ro.2.1.2
    obtain ⟨X', Y', A', l1, l2, l3, l4, f1, f2⟩ := c_lost hT hE hEY hKd hKXd
    refine ⟨none, nI (cnt (lv Y2 n) M2 0), X', nI (cnt (lv Y2 n) M2 0), Y', xhead _ (by rw [hb9, if_neg (show ¬ bB true = 0 by decide), l1, bd_some]), ?_, ?_, fun _ => rfl, ro.close (g1.ry.fa f2) (g2.fa (by omega) f1 f2) (g3.fa (by omega) g2.1 f1 f2) l3 l4 (fun q hq a b c _ => (f1 q a b c).trans (fxd q (by omega) (by omega))) (fun q a b c d e => (f2.1 q a c d e).trans (fyd q a b)) (fun j a b => (f2.2 j b).trans (fyd0 j a))⟩
    · rw [yhead]
      unfold rEnd
      rw [g1.1.2, if_neg (nI_ge (by omega) (by omega)), l2, bd_some]
    · rw [f2.2 0 (by omega), yd00]; rfl

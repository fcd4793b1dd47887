/-! ===== a work: steps, and its end ===== -/
theorem c_run {i : Nat} {Xs Ys : JX} {M R A P S m : Nat} (hT : TY Ys M ∧ TX Xs Ys ∧ TV Ys i) (hR : RY Ys R ∧ RX Xs Ys R ∧ QX Xs Ys R) (hE : EX Xs Ys ∧ EY Ys M) (hK : KY Ys A ∧ KX Xs Ys A) (hI : IY Ys P S ∧ IX Xs Ys P S ∧ IQ Ys P S) (s1 : Xs 34 0 = Ys 0 28) (s2 : Xs 34 1 = Ys 0 29) (hSY : SY Ys) (hi : i ≤ 2560) (hm : m ≤ 500) : ∃ X' Y' A' P' S' d, f_X4_doSteps Xs (nI m) = some (nI d, X') ∧ ((f_X11_does Ys (nI m)).bind fun t5 => l_X11_work_105 (nI m) t5.2 0 t5.1) = some (nI d, Y') ∧ d ≤ m ∧ X' 0 = Xs 0 ∧ (∀ j, j ≠ 30 → j ≠ 44 → j ≠ 36 → j ≠ 37 → j ≠ 41 → Y' 0 j = Ys 0 j) ∧ Y' 0 36 = Ys 0 36 + (if Ys 0 34 = 0 then 0 else nI d) ∧ (TY Y' M ∧ TX X' Y' ∧ TV Y' i) ∧ (RY Y' R ∧ RX X' Y' R ∧ QX X' Y' R) ∧ (EX X' Y' ∧ EY Y' M) ∧ (KY Y' A' ∧ KX X' Y' A') ∧ (IY Y' P' S' ∧ IX X' Y' P' S' ∧ IQ Y' P' S') ∧ X' 34 0 = Y' 0 28 ∧ X' 34 1 = Y' 0 29 := by
  obtain ⟨hIY, hIX, hS3, hIQ2, hIQ3⟩ := hI
  have hM60 := hT.1.1.2.1
  have h02 : Ys 0 2 = nI M := hT.1.1.2.2
  have h37 := hIY.1.1
  have h41 := hIY.1.2
  let ok : Nat → Prop := fun n => nI n < Ys 0 2 ∧ Ys 2 n = 0
  have hpl : ∀ k n, k < P → n < 60 → Ys 29 k = nI n → ok n := fun k n hk hn en => by
    obtain ⟨-, ⟨n', hn', en', z1, z2⟩, -⟩ := hIY.2.1 k hk
    have : n' = n := (nI_eq (sm hn') (sm hn)).mp (en'.symm.trans en)
    rw [← this]
    exact ⟨z1, z2⟩
  have hID : ID ok (fun _ => True) Xs (Ys 28) (Ys 29) (Ys 30) P S := ID.of (by omega) hIY hIX hpl (fun _ _ _ => trivial)
  have hP : P ≤ 60 * S := hID.P (by omega)
  have hnd : ∀ k, k < P → ∃ n, n < 60 ∧ Ys 29 k = nI n ∧ nd Ys k = n := fun k hk => by
    obtain ⟨-, ⟨n, hn, en, -⟩, -⟩ := hID.1 k hk
    exact ⟨n, hn, en, by unfold nd; rw [en, nI_clamp (sm hn)]⟩
  have hPL : PL Ys M P := ⟨by omega, fun k hk => by
    obtain ⟨n, hn, en, e⟩ := hnd k hk
    obtain ⟨z1, z2⟩ := hpl k n hk hn en
    rw [e]
    rw [h02] at z1
    exact ⟨en, (nI_ltI (sm hn) (by omega)).mp z1, z2⟩⟩
  have hLV : LV Ys Ys P := fun k hk => by
    obtain ⟨n, hn, en, e⟩ := hnd k hk
    refine ⟨hID.b k hk, fun z => ⟨z, ?_, ?_⟩, fun z => z.1⟩
    · rw [e]; exact hIQ2 k n hk hn en z
    · rw [e]; exact hIQ3 n hn
  have hW : RelW i Xs Ys Xs Ys M R P A := ⟨hT, hR, ⟨hE.1, hE.2, fun n hn => ⟨Or.inl (hIQ3 n hn), fun z => absurd (hIQ3 n hn) z⟩⟩, hK, hLV, ⟨⟨s1, s2⟩, hSY⟩, rfl, fun _ _ _ => rfl, rfl, rfl, rfl, fun _ _ _ => rfl⟩
  obtain ⟨X1, Y1, A1, d, a1, a2, a3, a4⟩ := c_steps hPL h37 hi hm m 0 0 1000 1000 Xs Ys A (Nat.zero_add _) (Nat.le_refl _) (by omega) (by omega) hW
  obtain ⟨⟨t1, t2, t3⟩, ⟨r1, r2, r3⟩, ⟨e1, e2, e3⟩, ⟨k1, k2⟩, hL, ⟨⟨u1, u2⟩, -⟩, f1, f2, f3, f4, f5, f6⟩ := a3
  -- the class: the list, the index, what was read
  obtain ⟨X2, b1, b2, b3⟩ := x_end48 60 0 1000 X1 (Nat.zero_add _) (by omega)
  -- the reference: the hour, the list
  let ee : Int32 := if Ys 0 34 = 0 then 0 else nI d
  obtain ⟨Y3, c1, c2, c3⟩ := y_end27 (v := nI d) k1.1.1 A1 0 1000 (pX Y1 0 (upd (Y1 0) 36 (Y1 0 36 + ee))) (Nat.zero_add _) (by have := k1.1.1; omega) k1.1.2
  have y3 : ∀ q, q ≠ 0 → q ≠ 27 → Y3 q = Y1 q := fun q h0 h1 => (c2 q h1).trans (if_neg h0)
  have y30 : ∀ j, j ≠ 36 → Y3 0 j = Y1 0 j := fun j hj => (congrFun (c2 0 (by omega)) j).trans ((u_at _ _ _ _).trans (if_neg hj))
  have x2 : ∀ q, 48 < q → q < 53 → X2 q = Xs q := fun q h1 h2 => (b2 q (by omega)).trans (f2 q h1 h2)
  have x242 : ∀ n, X2 42 n = X1 42 n := fun n => by rw [b2 42 (by omega)]
  have x236 : ∀ n, X2 36 n = X1 36 n := fun n => by rw [b2 36 (by omega)]
  have y28 : Y3 28 = Ys 28 := (y3 28 (by omega) (by omega)).trans f3
  have y29 : Y3 29 = Ys 29 := (y3 29 (by omega) (by omega)).trans f4
  let lv : Int32 → Prop := fun v => Y1 19 v.toNatClampNeg ≠ 0
  have hgo : ∀ n, n < 60 → Y1 31 n ≠ 0 → n < M := fun n hn z => ((e2 n hn).1 ((e3 n hn).2 z).1).1
  have h30 : Y3 30 = Y1 30 := y3 30 (by omega) (by omega)
  have h31 : Y3 31 = Y1 31 := y3 31 (by omega) (by omega)
  have h41' : Y3 0 41 = nI S := (y30 41 (by omega)).trans ((f6 41 (by omega) (by omega)).trans h41)
  have h37' : Y3 0 37 = nI P := (y30 37 (by omega)).trans ((f6 37 (by omega) (by omega)).trans h37)
  have h02' : Y3 0 2 = nI M := (y30 2 (by omega)).trans ((f6 2 (by omega) (by omega)).trans h02)
  obtain ⟨X3, Y4, P', S', g1, g2, g3, g4, g5, g6, g7, g8⟩ := c_index (ok := ok) (lv := lv) (lv0 := fun _ => True) (X := X2) (Y := Y3) (D0 := Ys 30) (P := P) (S := S) (M := M) (by
      rw [y28, y29]
      exact hID.cells (x2 50 (by omega) (by omega)) (x2 51 (by omega) (by omega)) (x2 52 (by omega) (by omega))) (fun k hk z => by
      rw [h30] at z
      rw [y29]
      exact ((hL k hk).2.mp z).2.1) hS3 hM60 (by rw [x2 49 (by omega) (by omega)]; exact hIX.1) h37' h41' h02' (fun k hk => by
      obtain ⟨n, hn, en, e⟩ := hnd k hk
      obtain ⟨l1, l2⟩ := hL k hk
      rw [e] at l2
      unfold vD kpt
      rw [h30, y29, en, nI_clamp (sm hn), x236, x242, (e1 n hn).1, (e1 n hn).2.2.2.2.2.1]
      by_cases q : Y1 19 n ≠ 0 ∧ Y1 31 n = 0
      · rw [decide_eq_true q, if_neg (fun z => by cases z.2)]
        rcases hID.b k hk with w | w
        · rw [w]; exact l2.mpr ⟨w, q⟩
        · rw [w]
          rcases l1 with v | v
          · have := (l2.mp v).1
            rw [w] at this
            exact absurd this (by decide)
          · exact v
      · rw [decide_eq_false q, if_pos ⟨hn, rfl⟩]
        rcases l1 with v | v
        · exact absurd (l2.mp v).2 q
        · exact v) (fun n hn => by rw [x242, h31]; exact (e1 n hn).2.2.2.2.2.1) (fun n h1 h2 => by
      rw [h31]
      by_cases z : Y1 31 n = 0
      · exact z
      · have := hgo n h2 z
        omega) (fun n hn z => by
      rw [h31] at z
      have hn6 : n < 60 := by omega
      obtain ⟨z1, z2⟩ := (e3 n hn6).2 z
      refine ⟨⟨by rw [h02]; exact nI_lt hn (by omega), by rw [← f5]; exact z2⟩, ?_⟩
      show Y1 19 (nI n).toNatClampNeg ≠ 0
      rw [nI_clamp (sm hn6)]
      exact z1)
  obtain ⟨X4, m1, m2, m3⟩ := x_end42 60 0 1000 X3 (Nat.zero_add _) (by omega)
  obtain ⟨i1, i2, i3, i4, i5⟩ := g3
  have x4 : ∀ q, q < 42 ∨ (42 < q ∧ q < 48) ∨ 52 < q → X4 q = X1 q := fun q hq => (m2 q (by omega)).trans ((g5 q (by omega) (by omega) (by omega) (by omega)).trans (b2 q (by omega)))
  have x450 : ∀ q, 48 < q → X4 q = X3 q := fun q hq => m2 q (by omega)
  have y4 : ∀ q, q ≠ 0 → q < 27 ∨ 31 < q → Y4 q = Y1 q := fun q h0 h1 => (g6 q h0 (by omega) (by omega) (by omega) (by omega)).trans (y3 q h0 (by omega))
  have y40 : ∀ j, j ≠ 36 → j ≠ 37 → j ≠ 41 → Y4 0 j = Y1 0 j := fun j h1 h2 h3 => (g8 j h2 h3).trans (y30 j h1)
  have y40s : ∀ j, j ≠ 30 → j ≠ 44 → j ≠ 36 → j ≠ 37 → j ≠ 41 → Y4 0 j = Ys 0 j := fun j h0 h9 h1 h2 h3 => (y40 j h1 h2 h3).trans (f6 j h0 h9)
  have y427 : Y4 27 = Y3 27 := g6 27 (by omega) (by omega) (by omega) (by omega) (by omega)
  have x448 : X4 48 = X2 48 := (m2 48 (by omega)).trans (g5 48 (by omega) (by omega) (by omega) (by omega))
  obtain ⟨j1, j2⟩ := ID.to (X := X4) (i1.cells (x450 50 (by omega)) (x450 51 (by omega)) (x450 52 (by omega))) i4 i5 (by rw [x450 49 (by omega)]; exact i3) (fun n hn z => by
    rw [y40s 2 (by omega) (by omega) (by omega) (by omega) (by omega), y4 2 (by omega) (by omega), f5]
    exact z)
  refine ⟨X4, Y4, A1, P', S', d, ?_, ?_, a4, (x4 0 (by omega)).trans f1, y40s, ?_, ⟨t1.fr (y40 2 (by omega) (by omega) (by omega)) (fun q _ _ => y4 q (by omega) (by omega)), t2.fr (by rw [x4 1 (by omega)]) (fun q _ _ => x4 q (by omega)) (fun q _ _ => x4 q (by omega)) (y40 2 (by omega) (by omega) (by omega)) (fun q _ _ => y4 q (by omega) (by omega)), t3.cells (fun q _ _ => y4 q (by omega) (by omega))⟩, ⟨r1.fr (y40 12 (by omega) (by omega) (by omega)) (y4 1 (by omega) (by omega)) (y4 2 (by omega) (by omega)) (y4 3 (by omega) (by omega)) (y4 10 (by omega) (by omega)), r2.fr r1.1.1 (fun q _ _ => x4 q (by omega)) (y4 10 (by omega) (by omega)), r3.fr r1.1.1 r2.1 (fun q _ _ => x4 q (by omega)) (fun q _ _ => y4 q (by omega) (by omega))⟩, ⟨?_, e2.cells (y4 2 (by omega) (by omega)) (fun q _ _ => y4 q (by omega) (by omega))⟩, ⟨⟨⟨k1.1.1, (y40 30 (by omega) (by omega) (by omega)).trans k1.1.2⟩, ?_, ?_⟩, ⟨by rw [x4 45 (by omega)]; exact k2.1, ?_, ?_⟩⟩, ⟨j1, j2, g4, ?_, g7⟩, ?_, ?_⟩
  · show loop3 (lb_X4_doSteps_4 (nI m)) 1000 Xs (nI 0) (nI 0) = _
    rw [a1]
    unfold b_X4_doSteps_42 f_X0_endWork l_X0_endWork_2
    rw [show (0 : Int32) = nI 0 from rfl, b1, bd_some, g1, bd_some]
    unfold f_X2_endWork l_X2_endWork_2
    rw [show (0 : Int32) = nI 0 from rfl, m1, bd_some]
  · have e9 : nI m = nI m - nI 0 := (Int32.sub_zero _).symm
    have a2' : ((f_X11_does Ys (nI m)).bind fun t5 => l_X11_work_105 (nI m) t5.2 0 t5.1) = yE Y1 d := by
      rw [← a2, ← e9]
      rfl
    rw [a2']
    have f34 : Y1 0 34 = Ys 0 34 := f6 34 (by omega) (by omega)
    have e8 : yE Y1 d = b_X11_work_144 Y1 (nI d) ee (Y1 0 36) := by
      unfold yE
      rw [f34]
      show _ = b_X11_work_144 Y1 (nI d) (if Ys 0 34 = 0 then 0 else nI d) (Y1 0 36)
      by_cases q : Ys 0 34 = 0
      · rw [if_pos q, if_pos q]
      · rw [if_neg q, if_neg q]
    rw [e8]
    unfold b_X11_work_144 l_X11_work_151
    rw [dX_eq, show (0 : Int32) = nI 0 from rfl]
    refine (show loop2 (lb_X11_work_151 (nI d)) 1000 (pX Y1 0 (upd (Y1 0) 36 (Y1 0 36 + ee))) (nI 0) = _ from c1).trans ?_
    rw [g2, bd_some]
  · have q1 : Y4 0 36 = Y3 0 36 := g8 36 (by omega) (by omega)
    have q2 : Y3 0 36 = Y1 0 36 + ee := (congrFun (c2 0 (by omega)) 36).trans rfl
    have q3 : Y1 0 36 = Ys 0 36 := f6 36 (by omega) (by omega)
    rw [q1, q2, q3]
  · intro n hn
    obtain ⟨n1, n2, n3, n4, n5, n6, n7⟩ := e1 n hn
    rw [x4 36 (by omega), x4 37 (by omega), x4 38 (by omega), x4 39 (by omega), x4 40 (by omega), x4 (116 + n) (by omega), y4 19 (by omega) (by omega), y4 20 (by omega) (by omega), y4 21 (by omega) (by omega), y4 22 (by omega) (by omega), y4 23 (by omega) (by omega), y4 24 (by omega) (by omega)]
    refine ⟨n1, n2, n3, n4, n5, ?_, n7⟩
    rw [m3 n, if_pos ⟨Nat.zero_le _, hn⟩, g7 n hn]
  · intro j hj
    obtain ⟨z1, z2, -⟩ := k1.2.1 j hj
    rw [y4 25 (by omega) (by omega), y4 26 (by omega) (by omega), y427, c3 j, if_pos ⟨Nat.zero_le _, hj⟩]
    exact ⟨z1, z2, Or.inl rfl⟩
  · rw [y4 25 (by omega) (by omega)]
    exact k1.2.2
  · intro j hj
    obtain ⟨z1, z2, -⟩ := k2.2.1 j hj
    obtain ⟨⟨n, hn, en⟩, -⟩ := k1.2.1 j hj
    rw [y4 25 (by omega) (by omega), y4 26 (by omega) (by omega), y427, c3 j, if_pos ⟨Nat.zero_le _, hj⟩, x4 46 (by omega), x4 47 (by omega), x448, b3, en, nI_clamp (sm hn), if_pos ⟨Nat.zero_le _, hn⟩]
    rw [en, nI_clamp (sm hn)] at z2
    rw [en] at z1
    exact ⟨z1, z2, rfl⟩
  · intro n hn z
    rw [y4 25 (by omega) (by omega)] at z
    obtain ⟨z1, -⟩ := k2.2.2 n hn z
    rw [x4 47 (by omega), x448, b3, if_pos ⟨Nat.zero_le _, hn⟩]
    exact ⟨z1, rfl⟩
  · intro k n hk hn en ed
    rcases (i1.1 k hk).2.2 with z | z
    · have := z.2
      show Y4 19 n ≠ 0
      rw [y4 19 (by omega) (by omega)]
      have h9 : Y1 19 (Y4 29 k).toNatClampNeg ≠ 0 := this
      rw [en, nI_clamp (sm hn)] at h9
      exact h9
    · rw [ed] at z
      exact absurd z (by decide)
  · rw [x4 34 (by omega), y40 28 (by omega) (by omega) (by omega)]; exact u1
  · rw [x4 34 (by omega), y40 29 (by omega) (by omega) (by omega)]; exact u2

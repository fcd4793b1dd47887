/-! ===== the index at a work's end, both sides ===== -/
theorem pc_seg0 {ok : Nat → Prop} {lv : Int32 → Prop} {X : JX} {g h D : Nat → Int32} {P S : Nat} (H : ID ok lv X g h D P S) (hS : S ≤ 3) (q : Int32 → Int32 → Int32 → Bool) (hq : ∀ a b c, q a b c = true → a = nI S) : pc g h D P q = 0 := cnt_0 P 0 (fun k _ hk => by
  obtain ⟨⟨s, hs, es⟩, -, -⟩ := H.1 k (by omega)
  cases e : q (g k) (h k) (D k) with
  | false => rfl
  | true =>
    have := (nI_eq (show s < 2 ^ 31 by omega) (show S < 2 ^ 31 by omega)).mp (es.symm.trans (hq _ _ _ e))
    omega)
theorem ID.seg {ok : Nat → Prop} {lv : Int32 → Prop} {X : JX} {g h D : Nat → Int32} {P S : Nat} (H : ID ok lv X g h D P S) (hS : S ≤ 3) : ID ok lv (pX (pX X 51 (upd (X 51) S 0)) 52 (upd (X 52) S 0)) g h D P (S + 1) := by
  have h0 := fun q hq => pc_seg0 H hS q hq
  obtain ⟨a, b, c, d, e⟩ := H
  refine ⟨fun k hk => ?_, fun s n hs hn => ?_, c, fun s hs => ?_, fun n hn => ?_⟩
  · obtain ⟨⟨s, hs, es⟩, z⟩ := a k hk
    exact ⟨⟨s, by omega, es⟩, z⟩
  · by_cases q : s = S
    · rw [h0 (sN s n) (fun a b c z => by
        unfold sN at z
        rw [Bool.and_eq_true, decide_eq_true_eq] at z
        rw [z.1, q])]
      exact Nat.zero_le _
    · exact b s n (by omega) hn
  · show upd (X 51) S 0 s = _ ∧ upd (X 52) S 0 s = _
    rw [u_at, u_at]
    by_cases q : s = S
    · rw [if_pos q, if_pos q, h0 (sL s) (fun a b c z => by
        unfold sL at z
        rw [Bool.and_eq_true, decide_eq_true_eq] at z
        rw [z.1, q]), h0 (sD s) (fun a b c z => by
        unfold sD at z
        rw [Bool.and_eq_true, decide_eq_true_eq] at z
        rw [z.1, q])]
      exact ⟨rfl, rfl⟩
    · rw [if_neg q, if_neg q]
      exact d s (by omega)
  · rcases e n hn with z | ⟨s, hs, z⟩
    · exact Or.inl z
    · exact Or.inr ⟨s, by omega, z⟩
theorem c_index {ok : Nat → Prop} {lv lv0 : Int32 → Prop} {X Y : JX} {D0 : Nat → Int32} {P S M : Nat} (H : ID ok lv0 X (Y 28) (Y 29) D0 P S) (hlv : ∀ k, k < P → Y 30 k = 0 → lv (Y 29 k)) (hS : S ≤ 3) (hM : M ≤ 60) (hx : X 49 3 = nI S) (h37 : Y 0 37 = nI P) (h41 : Y 0 41 = nI S) (h2 : Y 0 2 = nI M) (hD : ∀ k, k < P → Y 30 k = vD X (Y 29) D0 60 k) (hrd : ∀ n, n < 60 → X 42 n = Y 31 n) (hgo : ∀ n, M ≤ n → n < 60 → Y 31 n = 0) (hok : ∀ n, n < M → Y 31 n ≠ 0 → ok n ∧ lv (nI n)) : ∃ X' Y' P' S', f_X3_endWork X = some X' ∧ f_X11_indexes Y = some Y' ∧ IDS ok lv X' Y' P' S' ∧ S' ≤ 3 ∧ (∀ q, q ≠ 49 → q ≠ 50 → q ≠ 51 → q ≠ 52 → X' q = X q) ∧ (∀ c, c ≠ 0 → c ≠ 28 → c ≠ 29 → c ≠ 30 → c ≠ 31 → Y' c = Y c) ∧ (∀ n, n < 60 → Y' 31 n = 0) ∧ ∀ j, j ≠ 37 → j ≠ 41 → Y' 0 j = Y 0 j := by
  have hv0 : vD X (Y 29) D0 0 = D0 := by
    funext k
    unfold vD
    rw [if_neg (fun z => by omega)]
  obtain ⟨X1, a1, a2, a3⟩ := c_buries (ok := ok) (lv := lv0) (Xb := X) (g := Y 28) (h := Y 29) (D := D0) (P := P) (S := S) (by omega) 60 0 1000 X (by omega) (by omega) (fun _ _ _ _ => rfl) (by rw [hv0]; exact H)
  have H1 : ID ok lv X1 (Y 28) (Y 29) (Y 30) P S := (a2.congr (fun k hk => ⟨rfl, rfl, (hD k hk).symm⟩)).lv hlv
  have h491 : X1 49 3 = nI S := by rw [a3 49 (by omega) (by omega) (by omega)]; exact hx
  have ok4 := n_ok4 (show S < 4 by omega)
  have clS := nI_clamp (show S < 2 ^ 31 by omega)
  obtain ⟨X3, Y3, P3, b', b1, b2, -, b3, b4, b5, b6, b7, b8, b9⟩ := c_newseg (ok := ok) (lv := lv) (Xb := pX (pX X1 51 (upd (X1 51) S 0)) 52 (upd (X1 52) S 0)) (Yb := Y) (M := M) (S := S) hM hS h2 h41 h491 (fun n hn => (congrFun (a3 42 (by omega) (by omega) (by omega)) n).trans (hrd n hn)) hgo hok 60 0 1000 1000 _ Y P false (by omega) (by omega) (by omega) (H1.seg hS) h37 (fun _ _ _ => rfl) (fun _ _ _ _ _ _ => rfl) (fun _ _ => rfl) (fun n _ => by rw [if_neg (by omega)]) (fun n _ hn hr => ⟨cnt_0 P 0 (fun k _ hk => by
      unfold nL
      by_cases q : Y 29 k = nI n
      · rw [hD k (by omega)]
        unfold vD kpt
        rw [q, nI_clamp (sm (by omega)), if_pos ⟨by omega, decide_eq_false (fun z => by
          rw [hrd n (by omega)] at z
          exact hr z.2)⟩]
        simp
      · rw [decide_eq_false q, Bool.false_and]), pc_seg0 H1 hS _ (fun a b c z => by
      unfold sN at z
      rw [Bool.and_eq_true, decide_eq_true_eq] at z
      exact z.1)⟩) (fun _ => pc_seg0 H1 hS _ (fun a b c z => by
      unfold sA at z
      exact of_decide_eq_true z))
  -- the class has one segment more, the reference if something came into it
  have ex : f_X3_endWork X = l_X3_endWork_42 (pX X3 49 (upd (X3 49) 3 (nI (S + 1)))) 3 := by
    have g1 : ∀ F, (pX X1 51 F) 49 3 = nI S := fun F => h491
    unfold f_X3_endWork l_X3_endWork_2
    rw [show (0 : Int32) = nI 0 from rfl, a1]
    unfold f_X3_addSegment
    rw [h491, if_neg (nI_pos (show S < 2 ^ 31 by omega)), if_pos (show nI S ≤ (3 : Int32) from nI_le (b := 3) hS (by decide)), if_pos ok4, clS, dX_eq, g1, if_pos ok4, clS, dX_eq]
    show ((loop2 lb_X3_addSegment_38 1000 (pX (pX X1 51 (upd (X1 51) S 0)) 52 (upd (X1 52) S 0)) (nI 0)).bind fun X1 => l_X3_endWork_42 X1 3) = _
    rw [b1]
    rfl
  have ey : f_X11_indexes Y = if bB b' = 0 then b_X11_indexes_93 Y3 0 (Y3 0 41) else b_X11_indexes_93 Y3 1 (Y3 0 41) := b2 (Nat.zero_le _)
  have h413 : Y3 0 41 = nI S := (b7 41 (by omega)).trans h41
  have fx3 : ∀ q, q ≠ 49 → q ≠ 50 → q ≠ 51 → q ≠ 52 → X3 q = X q := fun q h1 h2 h3 h4 => (b5 q h2 h3).trans ((if_neg h4).trans ((if_neg h3).trans (a3 q h2 h3 h4)))
  have key : ∃ X4 Y4 P4 S4, f_X3_endWork X = l_X3_endWork_76 X4 0 ∧ f_X11_indexes Y = l_X11_indexes_139 Y4 ∧ IDS ok lv X4 Y4 P4 S4 ∧ (∀ q, q ≠ 49 → q ≠ 50 → q ≠ 51 → q ≠ 52 → X4 q = X3 q) ∧ (∀ c, c ≠ 0 → c ≠ 28 → c ≠ 29 → c ≠ 30 → Y4 c = Y3 c) ∧ ∀ j, j ≠ 37 → j ≠ 41 → Y4 0 j = Y3 0 j := by
    cases eb : b' with
    | true =>
      obtain ⟨X4, Y4, P4, S4, c1, c2, c3, c4, c5, c6⟩ := c_phase3 (ok := ok) (lv := lv) (S + 1) (1000 - (3 - S)) 1000 (pX X3 49 (upd (X3 49) 3 (nI (S + 1)))) (pX Y3 0 (upd (Y3 0) 41 (nI (S + 1)))) P3 (S + 1) (Nat.le_refl _) (by omega) (by omega) ⟨b3.cells rfl rfl rfl, by omega, rfl, b4, rfl⟩
      refine ⟨X4, Y4, P4, S4, ?_, ?_, c3, fun q h1 h2 h3 h4 => (c4 q h1 h2 h3 h4).trans (if_neg h1), fun c h0 h1 h2 h3 => (c5 c h0 h1 h2 h3).trans (if_neg h0), fun j h1 h2 => (c6 j h1 h2).trans ((u_at _ _ _ _).trans (if_neg h2))⟩
      · rw [ex, ← c1, ← x_skip (3 - S) (S + 1) 1000 (pX X3 49 (upd (X3 49) 3 (nI (S + 1)))) rfl (by omega) (by omega), show S + 1 + (3 - S) = 4 by omega]
        rfl
      · rw [ey, eb, if_neg (show ¬ bB true = 0 by decide), h413]
        unfold b_X11_indexes_93
        rw [n_add1, dX_eq, dV_eq]
        exact c2
    | false =>
      obtain ⟨X5, d1, d2, d3, d4⟩ := c_close0 (ok := ok) (lv := lv) (X := pX X3 49 (upd (X3 49) 3 (nI (S + 1)))) (b3.cells rfl rfl rfl) hS rfl (b9 eb)
      obtain ⟨X4, Y4, P4, S4, c1, c2, c3, c4, c5, c6⟩ := c_phase3 (ok := ok) (lv := lv) S (999 - (3 - S)) 1000 X5 (pX Y3 0 (upd (Y3 0) 41 (nI S))) P3 S (Nat.le_refl _) (by omega) (by omega) ⟨d2, by omega, by rw [d4]; rfl, b4, rfl⟩
      refine ⟨X4, Y4, P4, S4, ?_, ?_, c3, fun q h1 h2 h3 h4 => (c4 q h1 h2 h3 h4).trans ((d3 q h1 h2 h3 h4).trans (if_neg h1)), fun c h0 h1 h2 h3 => (c5 c h0 h1 h2 h3).trans (if_neg h0), fun j h1 h2 => (c6 j h1 h2).trans ((u_at _ _ _ _).trans (if_neg h2))⟩
      · have e9 : loop2 lb_X3_endWork_42 (1000 - (3 - S)) (pX X3 49 (upd (X3 49) 3 (nI (S + 1)))) (nI (S + 1) - 1) = l_X3_endWork_76 X4 0 := by
          rw [← c1, show 1000 - (3 - S) = (999 - (3 - S)) + 1 by omega, zl2]
          generalize loop2 lb_X3_endWork_42 (999 - (3 - S)) = R9
          unfold lb_X3_endWork_42 b_X3_endWork_68
          obtain ⟨z1, -⟩ := b3.2.2.2.1 S (by omega)
          have z0 : pc (Y3 28) (Y3 29) (Y3 30) P3 (sL S) = 0 := by
            have := pc_A (g := Y3 28) (h := Y3 29) (D := Y3 30) (P := P3) (s := S)
            have := b9 eb
            omega
          rw [z0] at z1
          have g51 : (pX X3 49 (upd (X3 49) 3 (nI (S + 1)))) 51 S = 0 := z1
          have g49 : (pX X3 49 (upd (X3 49) 3 (nI (S + 1)))) 49 3 = nI (S + 1) := rfl
          rw [nI_pred, if_neg (nI_pos (show S < 2 ^ 31 by omega)), g49, if_neg (show ¬ nI (S + 1) ≤ nI S from nI_ge (by omega) (by omega)), if_pos ok4, clS, g51, if_neg (fun z => z rfl), d1, bd_some, dV_eq, nn_m1]
        rw [ex, ← e9, ← x_skip (3 - S) (S + 1) 1000 (pX X3 49 (upd (X3 49) 3 (nI (S + 1)))) rfl (by omega) (by omega), show S + 1 + (3 - S) = 4 by omega]
        rfl
      · rw [ey, eb, if_pos (show bB false = 0 by decide), h413]
        unfold b_X11_indexes_93
        rw [Int32.add_zero, dX_eq, dV_eq]
        exact c2
  obtain ⟨X4, Y4, P4, S4, k1, k2, k3, k4, k5, k6⟩ := key
  obtain ⟨X', Y', P', S', m1, m2, m3, m4, m5, m6, m7⟩ := c_merge k3
  refine ⟨X', Y', P', S', k1.trans m1, k2.trans m2, m3, m4, fun q h1 h2 h3 h4 => (m5 q h1 h2 h3 h4).trans ((k4 q h1 h2 h3 h4).trans (fx3 q h1 h2 h3 h4)), fun c h0 h1 h2 h3 h4 => (m6 c h0 h1 h2 h3).trans ((k5 c h0 h1 h2 h3).trans (b6 c h0 h1 h2 h3 h4)), fun n hn => ?_, fun j h1 h2 => (m7 j h1 h2).trans ((k6 j h1 h2).trans (b7 j h1))⟩
  rw [m6 31 (by omega) (by omega) (by omega) (by omega), k5 31 (by omega) (by omega) (by omega) (by omega)]
  exact b8 n hn

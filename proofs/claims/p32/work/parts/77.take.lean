/-! the reference's -/
def tx (Y : JX) (n : Nat) : Nat → Int32 := fun j => Y 7 (20 * n + j)
theorem y_back_loop {Y : JX} {n : Nat} (hn : n < 60) : ∀ m F e c, m + 1 ≤ F → m ≤ 20 → e ≤ 20 → c + m ≤ 100 → loop3 (lb_X11_takesWords_19 Y (nI n)) F (nI c) (nI e) (nI m - 1) = l_X11_takesWords_103 (nI n) (nI (bk (tx Y n) m e c)) (pX Y 0 (upd (Y 0) 44 0)) 0 0 := by
  intro m
  induction m with
  | zero =>
    intro F e c hF hm he hc
    obtain ⟨F', rfl⟩ := Nat.exists_eq_add_of_le' hF
    rw [zl3]
    generalize hR9 : loop3 _ F' = R9
    unfold lb_X11_takesWords_19
    rw [if_pos m1_lt, dX_eq]
    rfl
  | succ m ih =>
    intro F e c hF hm he hc
    obtain ⟨F', rfl⟩ := Nat.exists_eq_add_of_le' (show 1 ≤ F by omega)
    rw [zl3]
    have h9 := fun e c he hc => ih F' e c (by omega) (by omega) he hc
    generalize hR9 : loop3 _ F' = R9 at h9
    unfold lb_X11_takesWords_19 b_X11_takesWords_55 b_X11_takesWords_84
    rw [nI_pred, if_neg (nI_pos (show m < 2 ^ 31 by omega)), n_20 hn (by omega), if_pos (n_ok (show 20 * n + m < 1200 by omega) (by decide)), nI_clamp (show 20 * n + m < 2 ^ 31 by omega), dV_eq, bk_s, show Y 7 (20 * n + m) = tx Y n m from rfl]
    by_cases c1 : tx Y n m = -3
    · rw [if_pos (show ¬ tx Y n m = -2 by rw [c1]; decide), if_neg (show ¬ ¬ tx Y n m = -3 from fun z => z c1), dV_eq, dV_eq, n_add1, nn_m1, h9 e (c + 1) he (by omega), if_pos c1]
    · rw [if_neg c1]
      by_cases c2 : tx Y n m = -2
      · rw [if_neg (show ¬ ¬ tx Y n m = -2 from fun z => z c2), if_pos c2]
        by_cases c3 : 0 < c
        · rw [if_pos (show ¬ nI c = 0 from nI_ne0 (by omega) (by omega)), if_pos c1, if_neg (show ¬ ¬ tx Y n m = -2 from fun z => z c2), if_neg (show ¬ nI c ≤ 0 from nI_nle (by omega) (by omega)), dV_eq, dV_eq, nn_m1, nn_m1, n_sub1 c3, h9 e (c - 1) he (by omega), if_pos c3]
        · have h0 : c = 0 := by omega
          subst h0
          rw [if_neg (show ¬ ¬ nI 0 = 0 from fun z => z rfl), if_pos c1, if_neg (show ¬ ¬ tx Y n m = -2 from fun z => z c2), if_pos (show nI 0 ≤ 0 by decide), dV_eq, dV_eq, Int32.add_zero, nn_m1, h9 m 0 (by omega) (by omega), if_neg c3]
      · rw [if_pos c2, if_pos c1, if_pos c2, dV_eq, dV_eq, Int32.add_zero, nn_m1, h9 e c he (by omega), if_neg c2]
theorem y_fw_loop {n e D W : Nat} {g : Nat → Int32} (hn : n < 60) (he : e ≤ 20) (hW : W ≤ 20) (hD : D ≤ 3) (hg : ∀ j, j < e → isM (g j)) : ∀ m p F (Y : JX) t d, p + m = e → m + 1 ≤ F → Y 0 28 = nI D → Y 0 29 = nI W → Y 0 44 = nI t → t ≤ 20 → d ≤ p → (∀ j, j < e → Y 7 (20 * n + j) = g j) → ∃ Y', loop3 (lb_X11_takesWords_103 (nI n) (nI e)) F Y (nI d) (nI p) = some Y' ∧ Y' 0 44 = nI (fw g D W m p t d (Y 33)).1 ∧ Y' 33 = (fw g D W m p t d (Y 33)).2 ∧ (∀ k, k ≠ 0 → k ≠ 33 → Y' k = Y k) ∧ ∀ j, j ≠ 44 → Y' 0 j = Y 0 j := by
  intro m
  induction m with
  | zero =>
    intro p F Y t d hp hF y28 y29 y44 ht hd hY
    obtain ⟨F', rfl⟩ := Nat.exists_eq_add_of_le' hF
    refine ⟨Y, ?_, y44, rfl, fun _ _ _ => rfl, fun _ _ => rfl⟩
    rw [zl3]
    generalize hR9 : loop3 _ F' = R9
    unfold lb_X11_takesWords_103
    rw [if_pos (show nI e ≤ nI p from nI_le (by omega) (by omega))]
  | succ m ih =>
    intro p F Y t d hp hF y28 y29 y44 ht hd hY
    obtain ⟨F', rfl⟩ := Nat.exists_eq_add_of_le' (show 1 ≤ F by omega)
    have hM := hg p (by omega)
    rw [zl3]
    have head : ∀ Z, (if g p < 0 then b_X11_takesWords_169 (loop3 (lb_X11_takesWords_103 (nI n) (nI e)) F') Y (nI n) (nI e) (nI d) (nI p) (g p) else if nI D < nI d then b_X11_takesWords_169 (loop3 (lb_X11_takesWords_103 (nI n) (nI e)) F') Y (nI n) (nI e) (nI d) (nI p) (g p) else if nI W ≤ nI t then b_X11_takesWords_169 (loop3 (lb_X11_takesWords_103 (nI n) (nI e)) F') Y (nI n) (nI e) (nI d) (nI p) (g p) else if okI (nI t) 20 = true then b_X11_takesWords_169 (loop3 (lb_X11_takesWords_103 (nI n) (nI e)) F') (pX (pX Y 33 (upd (Y 33) (nI t).toNatClampNeg (g p))) 0 (upd (Y 0) 44 (nI t + 1))) (nI n) (nI e) (nI d) (nI p) (g p) else none) = Z → lb_X11_takesWords_103 (nI n) (nI e) (loop3 (lb_X11_takesWords_103 (nI n) (nI e)) F') Y (nI d) (nI p) = Z := by
      intro Z hZ
      unfold lb_X11_takesWords_103
      rw [if_neg (show ¬ nI e ≤ nI p from nI_ge (by omega) (by omega)), n_20 hn (by omega), if_pos (n_ok (show 20 * n + p < 1200 by omega) (by decide)), nI_clamp (show 20 * n + p < 2 ^ 31 by omega), dV_eq, hY p (by omega), y28, y29, y44, dX_eq, dX_eq]
      show (if g p < 0 then _ else if nI D < nI d then _ else if nI W ≤ nI t then _ else if okI (nI t) 20 = true then b_X11_takesWords_169 (loop3 (lb_X11_takesWords_103 (nI n) (nI e)) F') (pX (pX Y 33 (upd (Y 33) (nI t).toNatClampNeg (g p))) 0 (upd (Y 0) 44 (Y 0 44 + 1))) (nI n) (nI e) (nI d) (nI p) (g p) else none) = Z
      rw [y44]
      exact hZ
    have st : ∀ (Y1 : JX) s d1, s = nI d1 → (nV s fun t10 => nV (nI p + 1) fun t11 => loop3 (lb_X11_takesWords_103 (nI n) (nI e)) F' Y1 t10 t11) = loop3 (lb_X11_takesWords_103 (nI n) (nI e)) F' Y1 (nI d1) (nI (p + 1)) := fun Y1 s d1 hs => by
      rw [hs, dV_eq, dV_eq, n_add1]
    have s169 : ∀ (Y1 : JX), b_X11_takesWords_169 (loop3 (lb_X11_takesWords_103 (nI n) (nI e)) F') Y1 (nI n) (nI e) (nI d) (nI p) (g p) = loop3 (lb_X11_takesWords_103 (nI n) (nI e)) F' Y1 (nI (if g p = -2 then d + 1 else if g p = -3 then d - 1 else d)) (nI (p + 1)) := fun Y1 => by
      unfold b_X11_takesWords_169 b_X11_takesWords_199
      by_cases c1 : g p = -2
      · rw [if_neg (show ¬ ¬ g p = -2 from fun z => z c1), if_pos c1]
        exact st Y1 _ _ (n_add1 d)
      · rw [if_pos c1, if_neg c1]
        by_cases c2 : g p = -3
        · rw [if_neg (show ¬ ¬ g p = -3 from fun z => z c2), if_pos c2]
          by_cases c3 : d = 0
          · subst c3
            rw [if_pos (show nI 0 ≤ 0 by decide)]
            exact st Y1 _ _ (Int32.add_zero _)
          · rw [if_neg (show ¬ nI d ≤ 0 from nI_nle (by omega) (by omega))]
            exact st Y1 _ _ (by rw [nn_m1, n_sub1 (by omega)])
        · rw [if_pos c2, if_neg c2]
          exact st Y1 _ _ (Int32.add_zero _)
    rw [fw_s]
    by_cases c1 : g p = -2
    · obtain ⟨Y', a1, a2⟩ := ih (p + 1) F' Y t (d + 1) (by omega) (by omega) y28 y29 y44 ht (by omega) hY
      rw [if_pos c1]
      refine ⟨Y', head _ ?_, a2⟩
      rw [if_pos (show g p < 0 by rw [c1]; decide), s169, if_pos c1]
      exact a1
    · rw [if_neg c1]
      by_cases c2 : g p = -3
      · obtain ⟨Y', a1, a2⟩ := ih (p + 1) F' Y t (d - 1) (by omega) (by omega) y28 y29 y44 ht (by omega) hY
        rw [if_pos c2]
        refine ⟨Y', head _ ?_, a2⟩
        rw [if_pos (show g p < 0 by rw [c2]; decide), s169, if_neg c1, if_pos c2]
        exact a1
      · rw [if_neg c2]
        have hpos : ¬ g p < 0 := by
          rcases hM with ⟨w, hw, ew⟩ | w | w
          · rw [ew]; exact nI_pos (by omega)
          · exact absurd w c1
          · exact absurd w c2
        by_cases c3 : d ≤ D ∧ t < W
        · obtain ⟨Y', a1, a2, a3, a4, a5⟩ := ih (p + 1) F' (pX (pX Y 33 (upd (Y 33) t (g p))) 0 (upd (Y 0) 44 (nI (t + 1)))) (t + 1) d (by omega) (by omega) y28 y29 rfl (by omega) (by omega) hY
          rw [if_pos c3]
          refine ⟨Y', head _ ?_, a2, a3, fun k h0 h33 => (a4 k h0 h33).trans ((if_neg h0).trans (if_neg h33)), fun j hj => (a5 j hj).trans ((u_at _ _ _ _).trans (if_neg hj))⟩
          rw [if_neg hpos, if_neg (show ¬ nI D < nI d from fun z => by have := (nI_ltI (a := D) (b := d) (by omega) (by omega)).mp z; omega), if_neg (show ¬ nI W ≤ nI t from nI_ge c3.2 (by omega)), if_pos (n_ok (show t < 20 by omega) (by decide)), nI_clamp (show t < 2 ^ 31 by omega), n_add1, s169, if_neg c1, if_neg c2]
          exact a1
        · obtain ⟨Y', a1, a2⟩ := ih (p + 1) F' Y t d (by omega) (by omega) y28 y29 y44 ht (by omega) hY
          rw [if_neg c3]
          refine ⟨Y', head _ ?_, a2⟩
          rw [if_neg hpos]
          by_cases c4 : d ≤ D
          · rw [if_neg (show ¬ nI D < nI d from fun z => by have := (nI_ltI (a := D) (b := d) (by omega) (by omega)).mp z; omega), if_pos (show nI W ≤ nI t from nI_le (by omega) (by omega)), s169, if_neg c1, if_neg c2]
            exact a1
          · rw [if_pos (show nI D < nI d from nI_lt (by omega) (by omega)), s169, if_neg c1, if_neg c2]
            exact a1
theorem fw_mono {g : Nat → Int32} {D W : Nat} : ∀ m p t d f, t ≤ (fw g D W m p t d f).1 := by
  intro m
  induction m with
  | zero => intro p t d f; exact Nat.le_refl _
  | succ m ih =>
    intro p t d f
    rw [fw_s]
    split
    · exact ih _ _ _ _
    · split
      · exact ih _ _ _ _
      · split
        · exact Nat.le_trans (Nat.le_succ t) (ih _ _ _ _)
        · exact ih _ _ _ _
theorem fw_keep {g : Nat → Int32} {D W : Nat} : ∀ m p t d f j, (fw g D W m p t d f).1 ≤ j → (fw g D W m p t d f).2 j = f j := by
  intro m
  induction m with
  | zero => intro p t d f j _; rfl
  | succ m ih =>
    intro p t d f j h
    rw [fw_s] at h ⊢
    by_cases c1 : g p = -2
    · rw [if_pos c1] at h ⊢; exact ih _ _ _ _ j h
    · rw [if_neg c1] at h ⊢
      by_cases c2 : g p = -3
      · rw [if_pos c2] at h ⊢; exact ih _ _ _ _ j h
      · rw [if_neg c2] at h ⊢
        by_cases c3 : d ≤ D ∧ t < W
        · rw [if_pos c3] at h ⊢
          have hm := fw_mono (g := g) (D := D) (W := W) m (p + 1) (t + 1) d (upd f t (g p))
          rw [ih _ _ _ _ j h, u_at, if_neg (by omega)]
        · rw [if_neg c3] at h ⊢; exact ih _ _ _ _ j h
/-- what is taken of a text by the limits: how many, and the words -/
def tkn (Y : JX) (n : Nat) : Nat × (Nat → Int32) := fw (tx Y n) (Y 0 28).toNatClampNeg (Y 0 29).toNatClampNeg (bk (tx Y n) (Y 6 n).toNatClampNeg (Y 6 n).toNatClampNeg 0) 0 0 0 (fun _ => 0)
/-- both sides take the words of a file -/
theorem c_take {X Y : JX} {i n q3 : Nat} (hx : TX X Y) (hV : TV Y i) (h34 : X 34 0 = Y 0 28 ∧ X 34 1 = Y 0 29) (hS : SY Y) (hn : n < 60) (hq3 : q3 = 55 ∨ 116 ≤ q3) : (tkn Y n).1 ≤ 20 ∧ (∀ j, j < (tkn Y n).1 → ∃ w, w ≤ 99 ∧ (tkn Y n).2 j = nI w) ∧ (∃ X', f_X6_takeWords X (56 + n) (X 9 n) q3 = some (nI (tkn Y n).1, X') ∧ (∀ j, j < (tkn Y n).1 → X' q3 j = (tkn Y n).2 j) ∧ (∀ k, k ≠ q3 → X' k = X k) ∧ ∀ j, (tkn Y n).1 ≤ j → X' q3 j = X q3 j) ∧ ∃ Y', f_X11_takesWords Y (nI n) = some Y' ∧ Y' 0 44 = nI (tkn Y n).1 ∧ (∀ j, j < (tkn Y n).1 → Y' 33 j = (tkn Y n).2 j) ∧ (∀ k, k ≠ 0 → k ≠ 33 → Y' k = Y k) ∧ ∀ j, j ≠ 44 → Y' 0 j = Y 0 j := by
  obtain ⟨-, -, -, -, -, -, a9, -, at', -⟩ := hx.2 n hn
  obtain ⟨-, -, l, hl, el, hm⟩ := hV n hn
  obtain ⟨⟨D, hD, eD⟩, ⟨W, hW1, hW, eW⟩, -⟩ := hS
  have hle : bk (tx Y n) l l 0 ≤ l := bk_le l l 0 (Nat.le_refl _) (Nat.le_refl _)
  have eT : tkn Y n = fw (tx Y n) D W (bk (tx Y n) l l 0) 0 0 0 (fun _ => 0) := by
    unfold tkn
    rw [eD, eW, el, nI_clamp (show D < 2 ^ 31 by omega), nI_clamp (show W < 2 ^ 31 by omega), nI_clamp (show l < 2 ^ 31 by omega)]
  have hmk : ∀ j, j < bk (tx Y n) l l 0 → isM (tx Y n j) := fun j hj => hm j (by omega)
  have hgx : ∀ j, j < l → X (56 + n) j = tx Y n j := fun j hj => at' j (by omega)
  rw [eT]
  refine ⟨Nat.le_trans (fw_le _ _ _ _ _ (Nat.zero_le _)) hW, fw_word hmk _ _ _ _ _ (Nat.zero_add _) (fun j hj => absurd hj (Nat.not_lt_zero j)), ?_, ?_⟩
  · have eb : bk (X (56 + n)) l l 0 = bk (tx Y n) l l 0 := bk_congr l l 0 (fun j hj => hgx j hj)
    obtain ⟨X', b1, b2, b3⟩ := x_take_loop (q := 56 + n) (q3 := q3) (e := bk (tx Y n) l l 0) (D := D) (W := W) (by omega) (by omega) (by omega) hW hD (bk (tx Y n) l l 0) 0 1000 X 0 0 (Nat.zero_add _) (by omega) (by rw [h34.1]; exact eD) (by rw [h34.2]; exact eW) (by omega) (Nat.le_refl _) (fun j hj => by rw [hgx j (by omega)]; exact hmk j hj)
    have ef : fw (X (56 + n)) D W (bk (tx Y n) l l 0) 0 0 0 (X q3) = fw (tx Y n) D W (bk (tx Y n) l l 0) 0 0 0 (X q3) := fw_congr (e := bk (tx Y n) l l 0) (fun p hp => hgx p (by omega)) _ _ _ _ _ (Nat.zero_add _)
    rw [ef] at b1 b2
    obtain ⟨g1, g2⟩ := fw_agree (g := tx Y n) (D := D) (W := W) (bk (tx Y n) l l 0) 0 0 0 (X q3) (fun _ => 0) (fun j hj => absurd hj (Nat.not_lt_zero j))
    refine ⟨X', ?_, fun j hj => ?_, b3, fun j hj => by rw [b2]; exact fw_keep _ _ _ _ _ j (by rw [g1]; exact hj)⟩
    · unfold f_X6_takeWords
      rw [a9, el, x_endOf hl, bd_some, eb, ← g1]
      exact b1
    · rw [b2]
      exact g2 j (by rw [g1]; exact hj)
  · have hb := y_back_loop (Y := Y) hn l 1000 l 0 (by omega) hl hl (by omega)
    obtain ⟨Y', b1, b2, b3, b4, b5⟩ := y_fw_loop (n := n) (e := bk (tx Y n) l l 0) (D := D) (W := W) (g := tx Y n) hn (by omega) hW hD hmk (bk (tx Y n) l l 0) 0 1000 (pX Y 0 (upd (Y 0) 44 0)) 0 0 (Nat.zero_add _) (by omega) eD eW rfl (by omega) (Nat.le_refl _) (fun j hj => rfl)
    obtain ⟨g1, g2⟩ := fw_agree (g := tx Y n) (D := D) (W := W) (bk (tx Y n) l l 0) 0 0 0 (Y 33) (fun _ => 0) (fun j hj => absurd hj (Nat.not_lt_zero j))
    have e33 : (pX Y 0 (upd (Y 0) 44 0)) 33 = Y 33 := rfl
    rw [e33] at b2 b3
    refine ⟨Y', ?_, by rw [b2, g1], fun j hj => ?_, fun k h0 h33 => (b4 k h0 h33).trans (if_neg h0), fun j hj => (b5 j hj).trans ((u_at _ _ _ _).trans (if_neg hj))⟩
    · unfold f_X11_takesWords
      rw [if_pos (n_ok60 hn), dV_eq, if_pos (n_ok60 hn), dV_eq, nI_clamp (sm hn), el]
      show loop3 (lb_X11_takesWords_19 Y (nI n)) 1000 (nI 0) (nI l) (nI l - 1) = _
      rw [hb]
      exact b1
    · rw [b3]
      exact g2 j (by rw [g1]; exact hj)

/-! ===== words are taken out of a text ===== -/
def bk (g : Nat → Int32) : Nat → Nat → Nat → Nat
  | 0, e, _ => e
  | m + 1, e, c => if g m = -3 then bk g m e (c + 1) else if g m = -2 then (if 0 < c then bk g m e (c - 1) else bk g m m c) else bk g m e c
theorem bk_s (g : Nat → Int32) (m e c : Nat) : bk g (m + 1) e c = if g m = -3 then bk g m e (c + 1) else if g m = -2 then (if 0 < c then bk g m e (c - 1) else bk g m m c) else bk g m e c := rfl
theorem bk_le {g : Nat → Int32} {l : Nat} : ∀ m e c, m ≤ l → e ≤ l → bk g m e c ≤ l := by
  intro m
  induction m with
  | zero => intro e c _ h; exact h
  | succ m ih =>
    intro e c hm he
    rw [bk_s]
    split
    · exact ih _ _ (by omega) he
    · split
      · split
        · exact ih _ _ (by omega) he
        · exact ih _ _ (by omega) (by omega)
      · exact ih _ _ (by omega) he
theorem bk_congr {g g' : Nat → Int32} : ∀ m e c, (∀ j, j < m → g j = g' j) → bk g m e c = bk g' m e c := by
  intro m
  induction m with
  | zero => intro e c _; rfl
  | succ m ih =>
    intro e c h
    have hi := fun e c => ih e c (fun j hj => h j (by omega))
    rw [bk_s, bk_s, h m (by omega), hi, hi, hi, hi]
def fw (g : Nat → Int32) (D W : Nat) : Nat → Nat → Nat → Nat → (Nat → Int32) → Nat × (Nat → Int32)
  | 0, _, t, _, f => (t, f)
  | m + 1, p, t, d, f => if g p = -2 then fw g D W m (p + 1) t (d + 1) f else if g p = -3 then fw g D W m (p + 1) t (d - 1) f else if d ≤ D ∧ t < W then fw g D W m (p + 1) (t + 1) d (upd f t (g p)) else fw g D W m (p + 1) t d f
theorem fw_s (g : Nat → Int32) (D W m p t d : Nat) (f : Nat → Int32) : fw g D W (m + 1) p t d f = if g p = -2 then fw g D W m (p + 1) t (d + 1) f else if g p = -3 then fw g D W m (p + 1) t (d - 1) f else if d ≤ D ∧ t < W then fw g D W m (p + 1) (t + 1) d (upd f t (g p)) else fw g D W m (p + 1) t d f := rfl
theorem fw_le {g : Nat → Int32} {D W : Nat} : ∀ m p t d f, t ≤ W → (fw g D W m p t d f).1 ≤ W := by
  intro m
  induction m with
  | zero => intro p t d f h; exact h
  | succ m ih =>
    intro p t d f h
    rw [fw_s]
    split
    · exact ih _ _ _ _ h
    · split
      · exact ih _ _ _ _ h
      · split
        · exact ih _ _ _ _ (by omega)
        · exact ih _ _ _ _ h
theorem fw_agree {g : Nat → Int32} {D W : Nat} : ∀ m p t d f f', (∀ j, j < t → f j = f' j) → (fw g D W m p t d f).1 = (fw g D W m p t d f').1 ∧ ∀ j, j < (fw g D W m p t d f).1 → (fw g D W m p t d f).2 j = (fw g D W m p t d f').2 j := by
  intro m
  induction m with
  | zero => intro p t d f f' h; exact ⟨rfl, h⟩
  | succ m ih =>
    intro p t d f f' h
    rw [fw_s, fw_s]
    by_cases c1 : g p = -2
    · rw [if_pos c1, if_pos c1]; exact ih _ _ _ _ _ h
    · rw [if_neg c1, if_neg c1]
      by_cases c2 : g p = -3
      · rw [if_pos c2, if_pos c2]; exact ih _ _ _ _ _ h
      · rw [if_neg c2, if_neg c2]
        by_cases c3 : d ≤ D ∧ t < W
        · rw [if_pos c3, if_pos c3]
          refine ih _ _ _ _ _ (fun j hj => ?_)
          rw [u_at, u_at]
          by_cases q : j = t
          · rw [if_pos q, if_pos q]
          · rw [if_neg q, if_neg q]; exact h j (by omega)
        · rw [if_neg c3, if_neg c3]; exact ih _ _ _ _ _ h
theorem fw_word {g : Nat → Int32} {D W e : Nat} (hg : ∀ p, p < e → isM (g p)) : ∀ m p t d f, p + m = e → (∀ j, j < t → ∃ w, w ≤ 99 ∧ f j = nI w) → ∀ j, j < (fw g D W m p t d f).1 → ∃ w, w ≤ 99 ∧ (fw g D W m p t d f).2 j = nI w := by
  intro m
  induction m with
  | zero => intro p t d f _ h; exact h
  | succ m ih =>
    intro p t d f hp h
    rw [fw_s]
    by_cases c1 : g p = -2
    · rw [if_pos c1]; exact ih _ _ _ _ (by omega) h
    · rw [if_neg c1]
      by_cases c2 : g p = -3
      · rw [if_pos c2]; exact ih _ _ _ _ (by omega) h
      · rw [if_neg c2]
        by_cases c3 : d ≤ D ∧ t < W
        · rw [if_pos c3]
          refine ih _ _ _ _ (by omega) (fun j hj => ?_)
          rw [u_at]
          by_cases q : j = t
          · rw [if_pos q]
            rcases hg p (by omega) with w | w | w
            · exact w
            · exact absurd w c1
            · exact absurd w c2
          · rw [if_neg q]; exact h j (by omega)
        · rw [if_neg c3]; exact ih _ _ _ _ (by omega) h
theorem fw_congr {g g' : Nat → Int32} {D W e : Nat} (h : ∀ p, p < e → g p = g' p) : ∀ m p t d f, p + m = e → fw g D W m p t d f = fw g' D W m p t d f := by
  intro m
  induction m with
  | zero => intro p t d f _; rfl
  | succ m ih =>
    intro p t d f hp
    have hi := fun t d f => ih (p + 1) t d f (by omega)
    rw [fw_s, fw_s, h p (by omega), hi, hi, hi, hi]
/-! the class's -/
theorem x_end_loop2 {X : JX} {q : Nat} : ∀ m F e c, m + 1 ≤ F → m ≤ 20 → e ≤ 20 → c + m ≤ 100 → loop3 (lb_X6_endOfWhole_14 X q) F (nI e) (nI c) (nI m - 1) = some (nI (bk (X q) m e c)) := by
  intro m
  induction m with
  | zero =>
    intro F e c hF hm he hc
    obtain ⟨F', rfl⟩ := Nat.exists_eq_add_of_le' hF
    rw [zl3]
    generalize hR9 : loop3 _ F' = R9
    unfold lb_X6_endOfWhole_14
    rw [if_pos m1_lt]
    rfl
  | succ m ih =>
    intro F e c hF hm he hc
    obtain ⟨F', rfl⟩ := Nat.exists_eq_add_of_le' (show 1 ≤ F by omega)
    rw [zl3]
    have h9 := fun e c he hc => ih F' e c (by omega) (by omega) he hc
    generalize hR9 : loop3 _ F' = R9 at h9
    have h65 : ∀ e c, e ≤ 20 → c + m ≤ 100 → b_X6_endOfWhole_65 R9 X q (nI e) (nI c) (nI m) = some (nI (bk (X q) m e c)) := fun e c he hc => by
      unfold b_X6_endOfWhole_65
      rw [dV_eq, nn_m1, h9 e c he hc]
    unfold lb_X6_endOfWhole_14 b_X6_endOfWhole_55
    rw [nI_pred, if_neg (nI_pos (show m < 2 ^ 31 by omega)), if_pos (n_ok (show m < 20 by omega) (by decide)), nI_clamp (show m < 2 ^ 31 by omega), dV_eq, bk_s]
    by_cases c1 : X q m = -3
    · rw [if_neg (fun z => z c1), dV_eq, n_add1, h65 e (c + 1) he (by omega), if_pos c1]
    · rw [if_pos c1, if_neg c1]
      by_cases c2 : X q m = -2
      · rw [if_neg (show ¬ ¬ X q m = -2 from fun z => z c2), if_pos c2]
        by_cases c3 : 0 < c
        · rw [if_neg (show ¬ nI c ≤ 0 from nI_nle (by omega) (by omega)), dV_eq, nn_m1, n_sub1 c3, h65 e (c - 1) he (by omega), if_pos c3]
        · rw [if_pos (show nI c ≤ 0 by rw [show c = 0 by omega]; decide), if_neg (show ¬ ¬ X q m = -2 from fun z => z c2), h65 m c (by omega) (by omega), if_neg c3]
      · rw [if_pos c2, if_pos c2, h65 e c he (by omega), if_neg c2]
theorem x_endOf {X : JX} {q l : Nat} (hl : l ≤ 20) : f_X6_endOfWhole X q (nI l) = some (nI (bk (X q) l l 0)) := by
  unfold f_X6_endOfWhole
  rw [show (if (20 : Int32) < nI l then (20 : Int32) else nI l) = nI l from if_neg (fun z => by have := (nI_ltI (a := 20) (b := l) (by decide) (by omega)).mp z; omega), dV_eq, dV_eq]
  exact x_end_loop2 l 1000 l 0 (by omega) hl hl (by omega)
theorem x_take_loop {q q3 e D W : Nat} (hq : q ≠ q3) (h34 : q3 ≠ 34) (he : e ≤ 20) (hW : W ≤ 20) (hD : D ≤ 3) : ∀ m p F (X : JX) t d, p + m = e → m + 1 ≤ F → X 34 0 = nI D → X 34 1 = nI W → t ≤ 20 → d ≤ p → (∀ j, j < e → isM (X q j)) → ∃ X', loop4 (lb_X6_takeWords_16 q q3 (nI e)) F X (nI t) (nI d) (nI p) = some (nI (fw (X q) D W m p t d (X q3)).1, X') ∧ X' q3 = (fw (X q) D W m p t d (X q3)).2 ∧ ∀ k, k ≠ q3 → X' k = X k := by
  intro m
  induction m with
  | zero =>
    intro p F X t d hp hF hx0 hx1 ht hd hg
    obtain ⟨F', rfl⟩ := Nat.exists_eq_add_of_le' hF
    refine ⟨X, ?_, rfl, fun _ _ => rfl⟩
    rw [zl4]
    generalize hR9 : loop4 _ F' = R9
    unfold lb_X6_takeWords_16
    rw [if_pos (show nI e ≤ nI p from nI_le (by omega) (by omega))]
    rfl
  | succ m ih =>
    intro p F X t d hp hF hx0 hx1 ht hd hg
    obtain ⟨F', rfl⟩ := Nat.exists_eq_add_of_le' (show 1 ≤ F by omega)
    have hp20 : p < 20 := by omega
    have okp := n_ok (show p < 20 from hp20) (by decide)
    have clp := nI_clamp (show p < 2 ^ 31 by omega)
    have hM := hg p (by omega)
    rw [zl4]
    have head : ∀ Z, (if ¬ X q p = -2 then (if ¬ X q p = -3 then (if nI D < nI d then b_X6_takeWords_103 (loop4 (lb_X6_takeWords_16 q q3 (nI e)) F') X q q3 (nI e) (nI t) (nI d) (nI p) else if nI W ≤ nI t then b_X6_takeWords_103 (loop4 (lb_X6_takeWords_16 q q3 (nI e)) F') X q q3 (nI e) (nI t) (nI d) (nI p) else if 20 ≤ nI t then b_X6_takeWords_103 (loop4 (lb_X6_takeWords_16 q q3 (nI e)) F') X q q3 (nI e) (nI t) (nI d) (nI p) else if okI (nI t) 20 = true then b_X6_takeWords_103 (loop4 (lb_X6_takeWords_16 q q3 (nI e)) F') (pX X q3 (upd (X q3) (nI t).toNatClampNeg (X q p))) q q3 (nI e) (nI t + 1) (nI d) (nI p) else none) else b_X6_takeWords_103 (loop4 (lb_X6_takeWords_16 q q3 (nI e)) F') X q q3 (nI e) (nI t) (if (0 : Int32) < nI d - 1 then nI d - 1 else 0) (nI p)) else b_X6_takeWords_103 (loop4 (lb_X6_takeWords_16 q q3 (nI e)) F') X q q3 (nI e) (nI t) (nI d + 1) (nI p)) = Z → lb_X6_takeWords_16 q q3 (nI e) (loop4 (lb_X6_takeWords_16 q q3 (nI e)) F') X (nI t) (nI d) (nI p) = Z := by
      intro Z hZ
      unfold lb_X6_takeWords_16
      rw [if_neg (show ¬ nI e ≤ nI p from nI_ge (by omega) (by omega)), if_neg (show ¬ (20 : Int32) ≤ nI p from nI_ge (b := 20) hp20 (by decide)), if_pos okp, clp, dV_eq, hx0, hx1]
      exact hZ
    have st : ∀ (X1 : JX) t1 d1, b_X6_takeWords_103 (loop4 (lb_X6_takeWords_16 q q3 (nI e)) F') X1 q q3 (nI e) (nI t1) (nI d1) (nI p) = loop4 (lb_X6_takeWords_16 q q3 (nI e)) F' X1 (nI t1) (nI d1) (nI (p + 1)) := fun X1 t1 d1 => by
      unfold b_X6_takeWords_103
      rw [dV_eq, n_add1]
    rw [fw_s]
    by_cases c1 : X q p = -2
    · obtain ⟨X', a1, a2, a3⟩ := ih (p + 1) F' X t (d + 1) (by omega) (by omega) hx0 hx1 ht (by omega) hg
      rw [if_pos c1]
      refine ⟨X', head _ ?_, a2, a3⟩
      rw [if_neg (fun z => z c1), n_add1, st]
      exact a1
    · rw [if_neg c1]
      by_cases c2 : X q p = -3
      · obtain ⟨X', a1, a2, a3⟩ := ih (p + 1) F' X t (d - 1) (by omega) (by omega) hx0 hx1 ht (by omega) hg
        rw [if_pos c2]
        refine ⟨X', head _ ?_, a2, a3⟩
        have hd1 : (if (0 : Int32) < nI d - 1 then nI d - 1 else 0) = nI (d - 1) := by
          by_cases z : d = 0
          · subst z; decide
          · rw [n_sub1 (by omega)]
            by_cases z2 : 0 < d - 1
            · rw [if_pos (show (0 : Int32) < nI (d - 1) from nI_lt (a := 0) z2 (by omega))]
            · rw [show d - 1 = 0 by omega]; decide
        rw [if_pos c1, if_neg (fun z => z c2), hd1, st]
        exact a1
      · rw [if_neg c2]
        by_cases c3 : d ≤ D ∧ t < W
        · obtain ⟨X', a1, a2, a3⟩ := ih (p + 1) F' (pX X q3 (upd (X q3) t (X q p))) (t + 1) d (by omega) (by omega) ((congrFun (if_neg (fun z => h34 z.symm)) 0).trans hx0) ((congrFun (if_neg (fun z => h34 z.symm)) 1).trans hx1) (by omega) (by omega) (fun j hj => by rw [p_at, if_neg hq]; exact hg j hj)
          have e1 : (pX X q3 (upd (X q3) t (X q p))) q = X q := if_neg hq
          have e2 : (pX X q3 (upd (X q3) t (X q p))) q3 = upd (X q3) t (X q p) := if_pos rfl
          rw [e1, e2] at a1 a2
          rw [if_pos c3]
          refine ⟨X', head _ ?_, a2, fun k hk => (a3 k hk).trans (if_neg hk)⟩
          rw [if_pos c1, if_pos c2, if_neg (show ¬ nI D < nI d from fun z => by have := (nI_ltI (a := D) (b := d) (by omega) (by omega)).mp z; omega), if_neg (show ¬ nI W ≤ nI t from nI_ge c3.2 (by omega)), if_neg (show ¬ (20 : Int32) ≤ nI t from nI_ge (b := 20) (by omega) (by decide)), if_pos (n_ok (show t < 20 by omega) (by decide)), nI_clamp (show t < 2 ^ 31 by omega), n_add1, st]
          exact a1
        · obtain ⟨X', a1, a2, a3⟩ := ih (p + 1) F' X t d (by omega) (by omega) hx0 hx1 ht (by omega) hg
          rw [if_neg c3]
          refine ⟨X', head _ ?_, a2, a3⟩
          rw [if_pos c1, if_pos c2]
          by_cases c4 : d ≤ D
          · rw [if_neg (show ¬ nI D < nI d from fun z => by have := (nI_ltI (a := D) (b := d) (by omega) (by omega)).mp z; omega), if_pos (show nI W ≤ nI t from nI_le (by omega) (by omega)), st]
            exact a1
          · rw [if_pos (show nI D < nI d from nI_lt (by omega) (by omega)), st]
            exact a1

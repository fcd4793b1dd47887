/-! ===== how often words are in an entry, and the score ===== -/
def oft (g : Nat → Int32) (l : Nat) (w : Int32) : Nat := cnt (fun j => decide (g j = w)) l 0
def prs (g : Nat → Int32) (l : Nat) (a b : Int32) : Bool := anyl (fun j => decide (0 < j) && (decide (g j = b) && decide (g (j - 1) = a))) l 0
def sc (g : Nat → Int32) (l : Nat) (a b : Int32) : Nat := if b = -1 then oft g l a else if oft g l a = 0 ∨ oft g l b = 0 then 0 else oft g l a + oft g l b + if prs g l a b = true then 10 else 0
theorem sc_le (g : Nat → Int32) (l : Nat) (a b : Int32) (hl : l ≤ 20) : sc g l a b ≤ 50 := by
  have h1 : oft g l a ≤ l := cnt_le _ l 0
  have h2 : oft g l b ≤ l := cnt_le _ l 0
  unfold sc
  split
  · omega
  · split
    · omega
    · split <;> omega
theorem sc_pos {g : Nat → Int32} {l : Nat} {a b : Int32} : 0 < sc g l a b ↔ 0 < oft g l a ∧ (b = -1 ∨ 0 < oft g l b) := by
  unfold sc
  by_cases h : b = -1
  · rw [if_pos h]; exact ⟨fun z => ⟨z, Or.inl h⟩, fun z => z.1⟩
  · rw [if_neg h]
    by_cases h2 : oft g l a = 0 ∨ oft g l b = 0
    · rw [if_pos h2]
      refine ⟨fun z => by omega, fun z => ?_⟩
      have := z.2.resolve_left h
      omega
    · rw [if_neg h2]
      exact ⟨fun _ => ⟨by omega, Or.inr (by omega)⟩, fun _ => by omega⟩
theorem x_score_loop {X : JX} {q l : Nat} {a b : Int32} (hl : l ≤ 20) : ∀ m i F f s (pb : Bool), i + m = l → m + 1 ≤ F → loop4 (lb_X5_score_12 X q (nI l) a b) F (nI f) (nI s) (bB pb) (nI i) = b_X5_score_80 X b (nI (f + cnt (fun j => decide (X q j = a)) m i)) (nI (s + cnt (fun j => decide (X q j = b)) m i)) (bB (pb || anyl (fun j => decide (0 < j) && (decide (X q j = b) && decide (X q (j - 1) = a))) m i)) := by
  intro m
  induction m with
  | zero =>
    intro i F f s pb hi hF
    obtain ⟨F', rfl⟩ := Nat.exists_eq_add_of_le' hF
    rw [zl4]
    generalize hR9 : loop4 _ F' = R9
    unfold lb_X5_score_12
    rw [if_pos (show nI l ≤ nI i from nI_le (by omega) (by omega))]
    simp [anyl, cnt]
  | succ m ih =>
    intro i F f s pb hi hF
    obtain ⟨F', rfl⟩ := Nat.exists_eq_add_of_le' (show 1 ≤ F by omega)
    rw [zl4]
    have h9 := fun f s pb => ih (i + 1) F' f s pb (by omega) (by omega)
    generalize hR9 : loop4 _ F' = R9 at h9
    have hi20 : i < 20 := by omega
    have ok := n_ok (show i < 20 from hi20) (by decide)
    have cl := nI_clamp (show i < 2 ^ 31 by omega)
    have h74 : ∀ f s pb, b_X5_score_74 R9 X q (nI l) a b (nI f) (nI s) (bB pb) (nI i) = b_X5_score_80 X b (nI (f + cnt (fun j => decide (X q j = a)) m (i + 1))) (nI (s + cnt (fun j => decide (X q j = b)) m (i + 1))) (bB (pb || anyl (fun j => decide (0 < j) && (decide (X q j = b) && decide (X q (j - 1) = a))) m (i + 1))) := fun f s pb => by
      unfold b_X5_score_74
      rw [dV_eq, n_add1, h9]
    have h36 : ∀ f, b_X5_score_36 R9 X q (nI l) a b (nI f) (nI s) (bB pb) (nI i) = b_X5_score_80 X b (nI (f + cnt (fun j => decide (X q j = a)) m (i + 1))) (nI (s + cnt (fun j => decide (X q j = b)) (m + 1) i)) (bB (pb || anyl (fun j => decide (0 < j) && (decide (X q j = b) && decide (X q (j - 1) = a))) (m + 1) i)) := fun f => by
      unfold b_X5_score_36 b_X5_score_72
      rw [if_pos ok, cl, cnt_s, anyl_s]
      by_cases hb : X q i = b
      · rw [if_neg (fun z => z hb), dV_eq, n_add1, show (if decide (X q i = b) = true then 1 else 0) = 1 from if_pos (by simp [hb]), ← Nat.add_assoc, decide_eq_true hb, Bool.true_and]
        have t1 := h74 f (s + 1) true
        have t0 := h74 f (s + 1) false
        rw [show bB true = 1 from rfl] at t1
        rw [show bB false = 0 from rfl] at t0
        cases pb with
        | true => rw [if_pos (show ¬ bB true = 0 by decide), t1]; simp
        | false =>
          rw [if_neg (show ¬ ¬ bB false = 0 by decide)]
          by_cases h0 : i = 0
          · subst h0
            rw [if_pos (show nI 0 ≤ 0 by decide), t0]; simp
          · have hi1 : nI i - 1 = nI (i - 1) := n_sub1 (by omega)
            rw [if_neg (show ¬ nI i ≤ 0 from nI_nle (by omega) (by omega)), hi1, if_pos (n_ok (show i - 1 < 20 by omega) (by decide)), nI_clamp (show i - 1 < 2 ^ 31 by omega)]
            by_cases ha : X q (i - 1) = a
            · rw [if_neg (fun z => z ha), t1]; simp [ha, show 0 < i by omega]
            · rw [if_pos ha, t0]; simp [ha]
      · rw [if_pos hb, h74, show (if decide (X q i = b) = true then 1 else 0) = 0 from if_neg (by simp [hb]), decide_eq_false hb, Bool.false_and, Bool.and_false, Bool.false_or, Nat.zero_add]
    unfold lb_X5_score_12
    rw [if_neg (show ¬ nI l ≤ nI i from nI_ge (by omega) (by omega)), if_neg (show ¬ (20 : Int32) ≤ nI i from nI_ge (b := 20) hi20 (by decide)), if_pos ok, cl, cnt_s]
    by_cases ha : X q i = a
    · rw [if_neg (fun z => z ha), dV_eq, n_add1, h36, if_pos (by simp [ha]), Nat.add_assoc]
    · rw [if_pos ha, h36, if_neg (by simp [ha]), Nat.zero_add]
theorem x_score {X : JX} {q l : Nat} {a b : Int32} (hl : l ≤ 20) : f_X5_score X q (nI l) a b = some (nI (sc (X q) l a b)) := by
  have h := x_score_loop (X := X) (q := q) (a := a) (b := b) hl l 0 1000 0 0 false (Nat.zero_add _) (by omega)
  rw [Nat.zero_add, Nat.zero_add, Bool.false_or] at h
  have e : f_X5_score X q (nI l) a b = b_X5_score_80 X b (nI (oft (X q) l a)) (nI (oft (X q) l b)) (bB (prs (X q) l a b)) := h
  have h1 : oft (X q) l a ≤ l := cnt_le _ l 0
  have h2 : oft (X q) l b ≤ l := cnt_le _ l 0
  rw [e]
  unfold b_X5_score_80 sc
  by_cases hb : b = -1
  · rw [if_neg (fun z => z hb), if_pos hb]
  · rw [if_pos hb, if_neg hb]
    by_cases c1 : oft (X q) l a = 0
    · rw [if_pos (by rw [c1]; rfl), if_pos (Or.inl c1)]; rfl
    · rw [if_neg (nI_ne0 (by omega) (by omega))]
      by_cases c2 : oft (X q) l b = 0
      · rw [if_neg (fun z => z (by rw [c2]; rfl)), if_pos (Or.inr c2)]; rfl
      · rw [if_pos (nI_ne0 (by omega) (by omega)), if_neg (show ¬ (oft (X q) l a = 0 ∨ oft (X q) l b = 0) from fun z => z.elim c1 c2)]
        cases prs (X q) l a b with
        | true => rw [if_neg (show ¬ bB true = 0 by decide), if_pos rfl, nI_add]; exact congrArg some (nI_add _ 10)
        | false => rw [if_pos (show bB false = 0 by decide), if_neg (by decide), nI_add, Int32.add_zero]; rfl
/-! the reference's -/
def wd (Y : JX) (n : Nat) : Nat → Int32 := fun j => Y 24 (20 * n + j)
theorem y_often_loop {Y : JX} {n l : Nat} {w : Int32} (hn : n < 60) (hl : l ≤ 20) (h23 : Y 23 n = nI l) : ∀ m i F c, i + m = l → m + 1 ≤ F → loop2 (lb_X11_often_5 Y (nI n) w) F (nI c) (nI i) = some (nI (c + cnt (fun j => decide (wd Y n j = w)) m i)) := by
  intro m
  induction m with
  | zero =>
    intro i F c hi hF
    obtain ⟨F', rfl⟩ := Nat.exists_eq_add_of_le' hF
    rw [zl2]
    generalize hR9 : loop2 _ F' = R9
    unfold lb_X11_often_5
    rw [if_pos (n_ok60 hn), nI_clamp (sm hn), h23, if_pos (show nI l ≤ nI i from nI_le (by omega) (by omega))]
    rfl
  | succ m ih =>
    intro i F c hi hF
    obtain ⟨F', rfl⟩ := Nat.exists_eq_add_of_le' (show 1 ≤ F by omega)
    rw [zl2]
    have h9 := fun c => ih (i + 1) F' c (by omega) (by omega)
    generalize hR9 : loop2 _ F' = R9 at h9
    unfold lb_X11_often_5 b_X11_often_38
    rw [if_pos (n_ok60 hn), nI_clamp (sm hn), h23, if_neg (show ¬ nI l ≤ nI i from nI_ge (by omega) (by omega)), n_20 hn (by omega), if_pos (n_ok (show 20 * n + i < 1200 by omega) (by decide)), nI_clamp (show 20 * n + i < 2 ^ 31 by omega), dV_eq, dV_eq, dV_eq, dV_eq, n_add1, n_add1, Int32.add_zero, cnt_s]
    by_cases e : Y 24 (20 * n + i) = w
    · rw [if_neg (fun z => z e), h9, if_pos (by simp [wd, e]), Nat.add_assoc]
    · rw [if_pos e, h9, if_neg (by simp [wd, e]), Nat.zero_add]
theorem y_often {Y : JX} {n l : Nat} {w : Int32} (hn : n < 60) (hl : l ≤ 20) (h23 : Y 23 n = nI l) : f_X11_often Y (nI n) w = some (nI (oft (wd Y n) l w)) := by
  have h := y_often_loop (w := w) hn hl h23 l 0 1000 0 (Nat.zero_add _) (by omega)
  rw [Nat.zero_add] at h
  exact h
theorem y_has {Y : JX} {n l : Nat} {a b : Int32} (hn : n < 60) (hl : l ≤ 20) (h23 : Y 23 n = nI l) : f_X11_has Y (nI n) a b = some (bB (decide (Y 19 n ≠ 0 ∧ Y 2 n = 0 ∧ 0 < sc (wd Y n) l a b))) := by
  have h1 : oft (wd Y n) l a ≤ l := cnt_le _ l 0
  have h2 : oft (wd Y n) l b ≤ l := cnt_le _ l 0
  unfold f_X11_has b_X11_has_41
  rw [if_pos (n_ok60 hn), if_pos (n_ok60 hn), nI_clamp (sm hn), y_often hn hl h23, y_often hn hl h23, bd_some, bd_some]
  by_cases c1 : Y 19 n = 0
  · rw [if_pos c1, decide_eq_false (fun z => z.1 c1)]; rfl
  · rw [if_neg c1]
    by_cases c2 : Y 2 n = 0
    · rw [if_neg (fun z => z c2)]
      by_cases c3 : oft (wd Y n) l a = 0
      · rw [if_pos (by rw [c3]; decide), decide_eq_false (fun z => by have := (sc_pos.mp z.2.2).1; omega)]; rfl
      · rw [if_neg (show ¬ nI (oft (wd Y n) l a) ≤ 0 from nI_nle (by omega) (by omega))]
        by_cases c4 : b = -1
        · rw [if_pos c4, decide_eq_true ⟨c1, c2, sc_pos.mpr ⟨by omega, Or.inl c4⟩⟩]; rfl
        · rw [if_neg c4]
          by_cases c5 : oft (wd Y n) l b = 0
          · rw [if_pos (by rw [c5]; decide), decide_eq_false (fun z => by have := (sc_pos.mp z.2.2).2.resolve_left c4; omega)]; rfl
          · rw [if_neg (show ¬ nI (oft (wd Y n) l b) ≤ 0 from nI_nle (by omega) (by omega)), decide_eq_true ⟨c1, c2, sc_pos.mpr ⟨by omega, Or.inr (by omega)⟩⟩]; rfl
    · rw [if_pos c2, decide_eq_false (fun z => c2 z.2.1)]; rfl
theorem y_score_loop {Y : JX} {n l : Nat} {a b v : Int32} (hn : n < 60) (hl : l ≤ 20) (h23 : Y 23 n = nI l) : ∀ m i F (pb : Bool), i + m = l - 1 → m + 1 ≤ F → loop2 (lb_X11_score_30 Y (nI n) a b v) F (bB pb) (nI i) = some (if (pb || anyl (fun k => decide (wd Y n k = a) && decide (wd Y n (k + 1) = b)) m i) = true then v + 10 else v) := by
  intro m
  induction m with
  | zero =>
    intro i F pb hi hF
    obtain ⟨F', rfl⟩ := Nat.exists_eq_add_of_le' hF
    rw [zl2]
    generalize hR9 : loop2 _ F' = R9
    unfold lb_X11_score_30
    rw [if_pos (n_ok60 hn), nI_clamp (sm hn), h23, n_add1, if_pos (show nI l ≤ nI (i + 1) from nI_le (by omega) (by omega))]
    cases pb <;> simp [anyl, bB]
  | succ m ih =>
    intro i F pb hi hF
    obtain ⟨F', rfl⟩ := Nat.exists_eq_add_of_le' (show 1 ≤ F by omega)
    rw [zl2]
    have h9 := fun pb => ih (i + 1) F' pb (by omega) (by omega)
    generalize hR9 : loop2 _ F' = R9 at h9
    have t1 := h9 true
    have t0 := h9 false
    rw [show bB true = 1 from rfl] at t1
    rw [show bB false = 0 from rfl] at t0
    unfold lb_X11_score_30 b_X11_score_87
    rw [if_pos (n_ok60 hn), nI_clamp (sm hn), h23, n_add1, if_neg (show ¬ nI l ≤ nI (i + 1) from nI_ge (by omega) (by omega)), n_20 hn (by omega), n_add1, if_pos (n_ok (show 20 * n + i < 1200 by omega) (by decide)), if_pos (n_ok (show 20 * n + i + 1 < 1200 by omega) (by decide)), nI_clamp (show 20 * n + i < 2 ^ 31 by omega), nI_clamp (show 20 * n + i + 1 < 2 ^ 31 by omega), dV_eq, dV_eq, t1, t0, anyl_s]
    cases pb with
    | true => rw [if_pos (show ¬ bB true = 0 by decide)]; simp
    | false =>
      rw [if_neg (show ¬ ¬ bB false = 0 by decide)]
      by_cases e1 : Y 24 (20 * n + i) = a
      · rw [if_neg (fun z => z e1)]
        by_cases e2 : Y 24 (20 * n + i + 1) = b
        · rw [if_neg (fun z => z e2)]
          have : wd Y n (i + 1) = b := e2
          simp [show wd Y n i = a from e1, this]
        · rw [if_pos e2]
          have : ¬ wd Y n (i + 1) = b := e2
          simp [this]
      · rw [if_pos e1]
        have : ¬ wd Y n i = a := e1
        simp [this]
theorem prs_eq {g : Nat → Int32} {l : Nat} {a b : Int32} : anyl (fun k => decide (g k = a) && decide (g (k + 1) = b)) (l - 1) 0 = prs g l a b := by
  rw [Bool.eq_iff_iff]
  unfold prs
  rw [anyl_iff, anyl_iff]
  constructor
  · rintro ⟨r, -, h2, h3⟩
    refine ⟨r + 1, Nat.zero_le _, by omega, ?_⟩
    have : g r = a ∧ g (r + 1) = b := by simpa using h3
    simp [this.1, this.2]
  · rintro ⟨r, -, h2, h3⟩
    have : 0 < r ∧ g r = b ∧ g (r - 1) = a := by simpa using h3
    refine ⟨r - 1, Nat.zero_le _, by omega, ?_⟩
    rw [show r - 1 + 1 = r by omega]
    simp [this.2.1, this.2.2]
/-- the score of what is an answer -/
theorem y_score {Y : JX} {n l : Nat} {a b : Int32} (hn : n < 60) (hl : l ≤ 20) (h23 : Y 23 n = nI l) (hw : ∀ j, j < l → wd Y n j ≠ -1) (hp : 0 < sc (wd Y n) l a b) : f_X11_score Y (nI n) a b = some (nI (sc (wd Y n) l a b)) := by
  have h1 : oft (wd Y n) l a ≤ l := cnt_le _ l 0
  have h2 : oft (wd Y n) l b ≤ l := cnt_le _ l 0
  have hlp := fun v => y_score_loop (Y := Y) (a := a) (b := b) (v := v) hn hl h23 (l - 1) 0 1000 false (Nat.zero_add _) (by omega)
  have hlp : ∀ v, l_X11_score_30 Y (nI n) a b v 0 0 = some (if prs (wd Y n) l a b = true then v + 10 else v) := fun v => by
    have := hlp v
    rw [Bool.false_or, prs_eq] at this
    exact this
  obtain ⟨p1, p2⟩ := sc_pos.mp hp
  unfold f_X11_score b_X11_score_21
  rw [y_often hn hl h23, bd_some, y_often hn hl h23, bd_some, dV_eq, dV_eq, hlp, hlp]
  unfold sc
  by_cases hb : b = -1
  · have hpr : prs (wd Y n) l a b = false := by
      cases w : prs (wd Y n) l a b with
      | false => rfl
      | true =>
        obtain ⟨r, -, h5, h6⟩ := (anyl_iff _ l 0).mp w
        have : 0 < r ∧ wd Y n r = b ∧ wd Y n (r - 1) = a := by simpa using h6
        exact absurd (this.2.1.trans hb) (hw r (by omega))
    rw [if_neg (fun z => z hb), if_pos hb, hpr, if_neg (by decide), Int32.add_zero]
  · have p3 := p2.resolve_left hb
    rw [if_pos hb, if_neg hb, if_neg (show ¬ (oft (wd Y n) l a = 0 ∨ oft (wd Y n) l b = 0) from fun z => by omega), nI_add]
    cases prs (wd Y n) l a b with
    | true => rw [if_pos rfl, if_pos rfl]; exact congrArg some (nI_add _ 10)
    | false => rw [if_neg (by decide), if_neg (by decide)]; rfl

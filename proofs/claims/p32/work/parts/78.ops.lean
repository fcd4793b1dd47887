/-! ===== call: answersAnew ===== -/
theorem cnt_anyl {p : Nat → Bool} : ∀ m i, 0 < cnt p m i ↔ anyl p m i = true := by
  intro m
  induction m with
  | zero => intro i; exact ⟨fun z => absurd z (Nat.lt_irrefl 0), fun z => by cases z⟩
  | succ m ih =>
    intro i
    rw [cnt_s, anyl_s]
    by_cases e : p i = true
    · rw [if_pos e, e]; exact ⟨fun _ => rfl, fun _ => by omega⟩
    · rw [if_neg e, Bool.eq_false_iff.mpr e, Bool.false_or, Nat.zero_add]; exact ih (i + 1)
theorem tkn_fr {Y Y' : JX} (h6 : Y' 6 = Y 6) (h7 : Y' 7 = Y 7) (h28 : Y' 0 28 = Y 0 28) (h29 : Y' 0 29 = Y 0 29) (n : Nat) : tkn Y' n = tkn Y n := by
  unfold tkn tx
  rw [h6, h7, h28, h29]
/-- in a root, and in the folder that is asked for, as it is now -/
def wit (Y : JX) (R : Nat) (f : Int32) (k : Nat) : Bool := match ov Y R k with
  | none => false
  | some r => decide (f = -1) || (decide (f = nI (rf Y r)) || (belo (prY Y) f.toNatClampNeg (rf Y r) && belo (prY Y) k f.toNatClampNeg))
def anw (Y : JX) (R : Nat) (p a b f : Int32) (k : Nat) : Bool := (decide (Y 2 k = 0) && wit Y R f k) && (opB Y p k && decide (0 < sc (tkn Y k).2 (tkn Y k).1 a b))
theorem wit_some {Y : JX} {R k r : Nat} {f : Int32} (e : ov Y R k = some r) : wit Y R f k = (decide (f = -1) || (decide (f = nI (rf Y r)) || (belo (prY Y) f.toNatClampNeg (rf Y r) && belo (prY Y) k f.toNatClampNeg))) := by
  unfold wit
  rw [e]
theorem wit_none {Y : JX} {R k : Nat} {f : Int32} (e : ov Y R k = none) : wit Y R f k = false := by
  unfold wit
  rw [e]
theorem wit_there {Y : JX} {R k : Nat} {f : Int32} (h : wit Y R f k = true) : Y 1 k ≠ 0 := by
  intro z
  unfold wit at h
  rw [ov_gone z] at h
  cases h
theorem x_within {X Y : JX} {M R k : Nat} {f : Int32} (hT : TY Y M) (hx : TX X Y) (hX : RX X Y R) (hY : RY Y R) (hk : k < 60) (hf : f = -1 ∨ ∃ n, n < M ∧ f = nI n) : f_X5_isWithinNow X (nI k) f = some (bB (wit Y R f k)) := by
  have hM := hT.1.2.1
  unfold f_X5_isWithinNow
  rw [x_above hX hY hT hx hk, bd_some]
  cases e : ov Y R k with
  | none => rw [wit_none e]; rfl
  | some r =>
    have hr := ov_lt e
    rw [wit_some e, Option.map_some, oC_some, if_pos (hX.1.1 r (by have := hY.1.1; omega)), hX.2.2 r hr, rf_eq hY hr]
    by_cases c1 : f = -1
    · rw [if_pos c1, decide_eq_true c1]; rfl
    · obtain ⟨m, hm, rfl⟩ := hf.resolve_left c1
      rw [if_neg c1, decide_eq_false c1, Bool.false_or]
      by_cases c2 : nI m = nI (rf Y r)
      · rw [if_neg (fun z => z c2), decide_eq_true c2]; rfl
      · rw [if_pos c2, decide_eq_false c2, Bool.false_or, nI_clamp (show m < 2 ^ 31 by omega), x_isBelow (hY.2.1 r hr).1 (show m < 60 by omega) (pr := prY Y) (fun n hn => (hx.2 n hn).1) hT.lt, bd_some, x_isBelow (show m < 60 by omega) hk (pr := prY Y) (fun n hn => (hx.2 n hn).1) hT.lt, bd_some]
        cases belo (prY Y) m (rf Y r) <;> cases belo (prY Y) k m <;> rfl
theorem x_textOf {X : JX} {k : Nat} (hk : k < 60) : f_X9_textOf X (nI k) = some (56 + k) := by
  have h : isI20 (56 + k) = true := by simp [isI20]; omega
  unfold f_X9_textOf
  rw [if_neg (nI_pos (sm hk)), if_neg (nl60 hk), if_pos (n_ok60 hk), dN_eq, nI_clamp (sm hk), if_pos h]
theorem x_anw_loop {X Y : JX} {M R i9 : Nat} {p a b f : Int32} (hT : TY Y M) (hx : TX X Y) (hV : TV Y i9) (hX : RX X Y R) (hY : RY Y R) (h34 : X 34 0 = Y 0 28 ∧ X 34 1 = Y 0 29) (hS : SY Y) (hf : f = -1 ∨ ∃ n, n < M ∧ f = nI n) : ∀ m i F (X1 : JX) c, i + m = 60 → m + 1 ≤ F → (∀ q, q ≠ 55 → X1 q = X q) → ∃ X', loop3 (lb_X5_countAnew_6 p a b f) F X1 (nI c) (nI i) = some (nI (c + cnt (anw Y R p a b f) m i), X') ∧ ∀ q, q ≠ 55 → X' q = X q := by
  have hR := hY.1.1
  intro m
  induction m with
  | zero =>
    intro i F X1 c hi hF ho
    obtain ⟨F', rfl⟩ := Nat.exists_eq_add_of_le' hF
    have : i = 60 := by omega
    subst this
    refine ⟨X1, ?_, ho⟩
    rw [zl3]
    generalize hR9 : loop3 _ F' = R9
    unfold lb_X5_countAnew_6
    rw [if_pos g60]
    rfl
  | succ m ih =>
    intro i F X1 c hi hF ho
    obtain ⟨F', rfl⟩ := Nat.exists_eq_add_of_le' (show 1 ≤ F by omega)
    have hi6 : i < 60 := by omega
    have hx1 : TX X1 Y := hx.fr (by rw [ho 1 (by omega)]) (fun q _ _ => ho q (by omega)) (fun q _ _ => ho q (by omega)) rfl eqC.rf
    have hX1 : RX X1 Y R := hX.fr hR (fun q _ _ => ho q (by omega)) rfl
    have h341 : X1 34 0 = Y 0 28 ∧ X1 34 1 = Y 0 29 := by rw [ho 34 (by omega)]; exact h34
    obtain ⟨t20, tw, ⟨X2, x1, x2, x3, -⟩, -⟩ := c_take (q3 := 55) hx1 hV h341 hS hi6 (Or.inl rfl)
    have ho2 : ∀ q, q ≠ 55 → X2 q = X q := fun q hq => (x3 q hq).trans (ho q hq)
    have scE : sc (X2 55) (tkn Y i).1 a b = sc (tkn Y i).2 (tkn Y i).1 a b := sc_congr (fun j hj => x2 j hj)
    have hle := sc_le (tkn Y i).2 (tkn Y i).1 a b t20
    have nx : ∀ (X3 : JX) c3, (∀ q, q ≠ 55 → X3 q = X q) → (c3 + cnt (anw Y R p a b f) m (i + 1) = c + cnt (anw Y R p a b f) (m + 1) i) → ∃ X', b_X5_countAnew_97 (loop3 (lb_X5_countAnew_6 p a b f) F') X3 p a b f (nI c3) (nI i) = some (nI (c + cnt (anw Y R p a b f) (m + 1) i), X') ∧ ∀ q, q ≠ 55 → X' q = X q := fun X3 c3 h3 hc => by
      obtain ⟨X', b1, b2⟩ := ih (i + 1) F' X3 c3 (by omega) (by omega) h3
      refine ⟨X', ?_, b2⟩
      unfold b_X5_countAnew_97
      rw [dV_eq, n_add1, b1, hc]
    have no : anw Y R p a b f i = false → c + cnt (anw Y R p a b f) m (i + 1) = c + cnt (anw Y R p a b f) (m + 1) i := fun z => by
      rw [cnt_s, z, if_neg (by decide), Nat.zero_add]
    rw [zl3]
    unfold lb_X5_countAnew_6
    rw [if_neg (nl60 hi6), x_isFile hi6, bd_some, (hx1.2 i hi6).2.2.2.1, (hx1.2 i hi6).2.2.1, x_opB hT hx1 hi6, bd_some, x_within hT hx1 hX1 hY hi6 hf, bd_some]
    by_cases c1 : Y 1 i ≠ 0 ∧ Y 2 i = 0
    · rw [bo_t c1, if_neg one0]
      cases c2 : opB Y p i with
      | false =>
        rw [if_pos (show bB false = 0 by decide)]
        exact nx X1 c ho (no (by unfold anw; rw [c2]; simp))
      | true =>
        rw [if_neg (show ¬ bB true = 0 by decide)]
        cases c3 : wit Y R f i with
        | false =>
          rw [if_pos (show bB false = 0 by decide)]
          exact nx X1 c ho (no (by unfold anw; rw [c3]; simp))
        | true =>
          rw [if_neg (show ¬ bB true = 0 by decide), x_textOf hi6, bd_some, if_pos (show isI20 (56 + i) = true by simp [isI20]; omega), x_lengthOf hi6, bd_some, x1, bd_some, x_score t20, bd_some, scE]
          by_cases c4 : 0 < sc (tkn Y i).2 (tkn Y i).1 a b
          · rw [if_neg (show ¬ nI (sc (tkn Y i).2 (tkn Y i).1 a b) ≤ 0 from nI_nle (by omega) (by omega)), dV_eq, n_add1]
            exact nx X2 (c + 1) ho2 (by rw [cnt_s, show anw Y R p a b f i = true by unfold anw; rw [c2, c3, decide_eq_true c4, decide_eq_true c1.2]; rfl, if_pos rfl, Nat.add_assoc])
          · rw [if_pos (show nI (sc (tkn Y i).2 (tkn Y i).1 a b) ≤ 0 by rw [show sc (tkn Y i).2 (tkn Y i).1 a b = 0 by omega]; decide)]
            exact nx X2 c ho2 (no (by unfold anw; rw [decide_eq_false c4]; simp))
    · rw [bo_f c1, if_pos rfl]
      refine nx X1 c ho (no ?_)
      cases z : anw Y R p a b f i with
      | false => rfl
      | true =>
        unfold anw at z
        rw [Bool.and_eq_true, Bool.and_eq_true] at z
        exact absurd ⟨wit_there z.1.2, of_decide_eq_true z.1.1⟩ c1
theorem y_has_loop {Y : JX} {t c i : Nat} {p a b f : Int32} {rec : JX → Int32 → Int32 → Option (Int32 × JX)} (ht : t ≤ 20) (h44 : Y 0 44 = nI t) : ∀ m j F (o1 o2 : Bool), j + m = t → m + 1 ≤ F → loop3 (lb_X11_answersAnew_146 rec Y p a b f 1 (nI c) (nI i)) F (bB o1) (bB o2) (nI j) = rec Y (nI (c + if ((o1 || anyl (fun j => decide (Y 33 j = a)) m j) && (o2 || anyl (fun j => decide (Y 33 j = b)) m j)) = true then 1 else 0)) (nI (i + 1)) := by
  intro m
  induction m with
  | zero =>
    intro j F o1 o2 hj hF
    obtain ⟨F', rfl⟩ := Nat.exists_eq_add_of_le' hF
    rw [zl3]
    generalize hR9 : loop3 _ F' = R9
    unfold lb_X11_answersAnew_146 b_X11_answersAnew_224 b_X11_answersAnew_227
    rw [if_pos (show Y 0 44 ≤ nI j by rw [h44]; exact nI_le (by omega) (by omega)), dV_eq, dV_eq, dV_eq, dV_eq, n_add1, n_add1, Int32.add_zero]
    cases o1 <;> cases o2 <;> rfl
  | succ m ih =>
    intro j F o1 o2 hj hF
    obtain ⟨F', rfl⟩ := Nat.exists_eq_add_of_le' (show 1 ≤ F by omega)
    rw [zl3]
    have h9 := fun o1 o2 => ih (j + 1) F' o1 o2 (by omega) (by omega)
    generalize hR9 : loop3 _ F' = R9 at h9
    have ok := n_ok (show j < 20 by omega) (show 20 < 2 ^ 31 by decide)
    have cl := nI_clamp (show j < 2 ^ 31 by omega)
    have h176 : ∀ o : Bool, b_X11_answersAnew_176 rec R9 Y p a b f 1 (nI c) (nI i) (bB o2) (nI j) (bB o) = rec Y (nI (c + if ((o || anyl (fun j => decide (Y 33 j = a)) m (j + 1)) && (o2 || anyl (fun j => decide (Y 33 j = b)) (m + 1) j)) = true then 1 else 0)) (nI (i + 1)) := fun o => by
      have t1 := h9 o true
      have t0 := h9 o false
      rw [show bB true = 1 from rfl] at t1
      rw [show bB false = 0 from rfl] at t0
      unfold b_X11_answersAnew_176 b_X11_answersAnew_199
      rw [dV_eq, dV_eq, n_add1, t1, t0, if_pos ok, cl, anyl_s]
      cases o2 with
      | true => rw [if_pos (show ¬ bB true = 0 by decide)]; simp
      | false =>
        rw [if_neg (show ¬ ¬ bB false = 0 by decide)]
        by_cases z : Y 33 j = b
        · rw [if_neg (fun w => w z)]; simp [z]
        · rw [if_pos z]; simp [z]
    have s1 := h176 true
    have s0 := h176 false
    rw [show bB true = 1 from rfl] at s1
    rw [show bB false = 0 from rfl] at s0
    unfold lb_X11_answersAnew_146
    rw [if_neg (show ¬ Y 0 44 ≤ nI j by rw [h44]; exact nI_ge (by omega) (by omega)), if_pos ok, cl, s1, s0, anyl_s (fun j => decide (Y 33 j = a))]
    cases o1 with
    | true => rw [if_pos (show ¬ bB true = 0 by decide)]; simp
    | false =>
      rw [if_neg (show ¬ ¬ bB false = 0 by decide)]
      by_cases z : Y 33 j = a
      · rw [if_neg (fun w => w z)]; simp [z]
      · rw [if_pos z]; simp [z]
theorem y_anw_loop {Y : JX} {M R i9 : Nat} {X : JX} {p a b f : Int32} (hT : TY Y M) (hx : TX X Y) (hV : TV Y i9) (hY : RY Y R) (h34 : X 34 0 = Y 0 28 ∧ X 34 1 = Y 0 29) (hS : SY Y) (hf : f = -1 ∨ ∃ n, n < M ∧ f = nI n) : ∀ m i F (Y1 : JX) c, i + m = M → m + 1 ≤ F → (∀ q, q ≠ 0 → q ≠ 33 → Y1 q = Y q) → (∀ j, j ≠ 44 → Y1 0 j = Y 0 j) → ∃ Y', loop3 (lb_X11_answersAnew_17 p a b f 1) F Y1 (nI c) (nI i) = some (nI (c + cnt (anw Y R p a b f) m i), Y') ∧ (∀ q, q ≠ 0 → q ≠ 33 → Y' q = Y q) ∧ ∀ j, j ≠ 44 → Y' 0 j = Y 0 j := by
  have hR := hY.1.1
  have hM := hT.1.2.1
  intro m
  induction m with
  | zero =>
    intro i F Y1 c hi hF ho h0
    obtain ⟨F', rfl⟩ := Nat.exists_eq_add_of_le' hF
    refine ⟨Y1, ?_, ho, h0⟩
    rw [zl3]
    generalize hR9 : loop3 _ F' = R9
    unfold lb_X11_answersAnew_17
    rw [if_pos (show Y1 0 2 ≤ nI i by rw [h0 2 (by omega), hT.1.2.2]; exact nI_le (by omega) (by omega))]
    rfl
  | succ m ih =>
    intro i F Y1 c hi hF ho h0
    obtain ⟨F', rfl⟩ := Nat.exists_eq_add_of_le' (show 1 ≤ F by omega)
    have hi6 : i < 60 := by omega
    have hT1 : TY Y1 M := hT.fr (h0 2 (by omega)) (fun q _ _ => ho q (by omega) (by omega))
    have hY1 : RY Y1 R := hY.fr (h0 12 (by omega)) (ho 1 (by omega) (by omega)) (ho 2 (by omega) (by omega)) (ho 3 (by omega) (by omega)) (ho 10 (by omega) (by omega))
    have hx1 : TX X Y1 := hx.fr rfl eqC.rf eqC.rf (h0 2 (by omega)) (fun q _ _ => ho q (by omega) (by omega))
    have hV1 : TV Y1 i9 := by
      unfold TV
      rw [ho 1 (by omega) (by omega), ho 3 (by omega) (by omega), ho 4 (by omega) (by omega), ho 5 (by omega) (by omega), ho 6 (by omega) (by omega), ho 7 (by omega) (by omega), ho 8 (by omega) (by omega)]
      exact hV
    have hS1 : SY Y1 := by
      unfold SY
      rw [h0 28 (by omega), h0 29 (by omega), h0 1 (by omega), h0 35 (by omega), h0 36 (by omega), h0 34 (by omega)]
      exact hS
    have h341 : X 34 0 = Y1 0 28 ∧ X 34 1 = Y1 0 29 := by rw [h0 28 (by omega), h0 29 (by omega)]; exact h34
    have etk : tkn Y1 i = tkn Y i := tkn_fr (ho 6 (by omega) (by omega)) (ho 7 (by omega) (by omega)) (h0 28 (by omega)) (h0 29 (by omega)) i
    have hpr : prY Y1 = prY Y := prY_fr (ho 1 (by omega) (by omega)) (ho 3 (by omega) (by omega))
    have hrf : rf Y1 = rf Y := by funext r; unfold rf; rw [ho 10 (by omega) (by omega)]
    have hov : ov Y1 R i = ov Y R i := by unfold ov ro; rw [hpr, ho 10 (by omega) (by omega)]
    have hop : opB Y1 p i = opB Y p i := by unfold opB; rw [hpr, ho 9 (by omega) (by omega)]
    have nx : ∀ (Y3 : JX) c3, (∀ q, q ≠ 0 → q ≠ 33 → Y3 q = Y q) → (∀ j, j ≠ 44 → Y3 0 j = Y 0 j) → (c3 + cnt (anw Y R p a b f) m (i + 1) = c + cnt (anw Y R p a b f) (m + 1) i) → ∃ Y', loop3 (lb_X11_answersAnew_17 p a b f 1) F' Y3 (nI c3) (nI (i + 1)) = some (nI (c + cnt (anw Y R p a b f) (m + 1) i), Y') ∧ (∀ q, q ≠ 0 → q ≠ 33 → Y' q = Y q) ∧ ∀ j, j ≠ 44 → Y' 0 j = Y 0 j := fun Y3 c3 h3 h30 hc => by
      obtain ⟨Y', b1, b2⟩ := ih (i + 1) F' Y3 c3 (by omega) (by omega) h3 h30
      exact ⟨Y', by rw [b1, hc], b2⟩
    have no : anw Y R p a b f i = false → c + cnt (anw Y R p a b f) m (i + 1) = c + cnt (anw Y R p a b f) (m + 1) i := fun z => by
      rw [cnt_s, z, if_neg (by decide), Nat.zero_add]
    have n0 : anw Y R p a b f i = false → ∃ Y', b_X11_answersAnew_105 (loop3 (lb_X11_answersAnew_17 p a b f 1) F') Y1 p a b f 1 (nI c) (nI i) 0 = some (nI (c + cnt (anw Y R p a b f) (m + 1) i), Y') ∧ (∀ q, q ≠ 0 → q ≠ 33 → Y' q = Y q) ∧ ∀ j, j ≠ 44 → Y' 0 j = Y 0 j := fun z => by
      unfold b_X11_answersAnew_105 b_X11_answersAnew_227
      rw [if_pos rfl, dV_eq, n_add1]
      exact nx Y1 c ho h0 (no z)
    have n1 : Y 2 i = 0 → wit Y R f i = true → ∃ Y', b_X11_answersAnew_105 (loop3 (lb_X11_answersAnew_17 p a b f 1) F') Y1 p a b f 1 (nI c) (nI i) 1 = some (nI (c + cnt (anw Y R p a b f) (m + 1) i), Y') ∧ (∀ q, q ≠ 0 → q ≠ 33 → Y' q = Y q) ∧ ∀ j, j ≠ 44 → Y' 0 j = Y 0 j := fun z2 zw => by
      have ht : Y1 1 i ≠ 0 := by rw [ho 1 (by omega) (by omega)]; exact wit_there zw
      have yo : f_X11_mayReadAt Y1 p (nI i) = some (bB (opB Y1 p i)) := y_open hT1 hi6 ht
      unfold b_X11_answersAnew_105 b_X11_answersAnew_227
      rw [if_neg one0, yo, bd_some, hop, dV_eq, n_add1]
      cases c2 : opB Y p i with
      | false =>
        rw [if_pos (show bB false = 0 by decide)]
        exact nx Y1 c ho h0 (no (by unfold anw; rw [c2]; simp))
      | true =>
        obtain ⟨t20, tw, -, Y2, y1, y2, y3, y4, y5⟩ := c_take (q3 := 55) hx1 hV1 h341 hS1 hi6 (Or.inl rfl)
        rw [etk] at t20 tw y2 y3
        have ho2 : ∀ q, q ≠ 0 → q ≠ 33 → Y2 q = Y q := fun q a b => (y4 q a b).trans (ho q a b)
        have h02 : ∀ j, j ≠ 44 → Y2 0 j = Y 0 j := fun j hj => (y5 j hj).trans (h0 j hj)
        have ea : anyl (fun j => decide (Y2 33 j = a)) (tkn Y i).1 0 = decide (0 < oft (tkn Y i).2 (tkn Y i).1 a) := by
          rw [Bool.eq_iff_iff, ← cnt_anyl, decide_eq_true_eq, cnt_congr (q := fun j => decide ((tkn Y i).2 j = a)) _ 0 (fun j _ hj => by rw [y3 j (by omega)])]
          exact Iff.rfl
        have eb : anyl (fun j => decide (Y2 33 j = b)) (tkn Y i).1 0 = decide (0 < oft (tkn Y i).2 (tkn Y i).1 b) := by
          rw [Bool.eq_iff_iff, ← cnt_anyl, decide_eq_true_eq, cnt_congr (q := fun j => decide ((tkn Y i).2 j = b)) _ 0 (fun j _ hj => by rw [y3 j (by omega)])]
          exact Iff.rfl
        have key : ∀ o : Bool, o = decide (b = -1) → ∃ Y', b_X11_answersAnew_141 (loop3 (lb_X11_answersAnew_17 p a b f 1) F') Y2 p a b f 1 (nI c) (nI i) 0 (bB o) = some (nI (c + cnt (anw Y R p a b f) (m + 1) i), Y') ∧ (∀ q, q ≠ 0 → q ≠ 33 → Y' q = Y q) ∧ ∀ j, j ≠ 44 → Y' 0 j = Y 0 j := fun o hb => by
          have hl := y_has_loop (Y := Y2) (c := c) (i := i) (p := p) (a := a) (b := b) (f := f) (rec := loop3 (lb_X11_answersAnew_17 p a b f 1) F') t20 y2 (tkn Y i).1 0 1000 false o (Nat.zero_add _) (by omega)
          rw [Bool.false_or, ea, eb, hb] at hl
          have hpos : (decide (0 < oft (tkn Y i).2 (tkn Y i).1 a) && (decide (b = -1) || decide (0 < oft (tkn Y i).2 (tkn Y i).1 b))) = decide (0 < sc (tkn Y i).2 (tkn Y i).1 a b) := by
            rw [Bool.eq_iff_iff, Bool.and_eq_true, Bool.or_eq_true, decide_eq_true_eq, decide_eq_true_eq, decide_eq_true_eq, decide_eq_true_eq, sc_pos]
          have han : anw Y R p a b f i = decide (0 < sc (tkn Y i).2 (tkn Y i).1 a b) := by unfold anw; rw [c2, zw, decide_eq_true z2]; rfl
          rw [hpos, ← han] at hl
          obtain ⟨Y', b1, b2⟩ := nx Y2 (c + if anw Y R p a b f i = true then 1 else 0) ho2 h02 (by rw [cnt_s, Nat.add_assoc])
          refine ⟨Y', ?_, b2⟩
          rw [hb]
          exact hl.trans b1
        rw [if_neg (show ¬ bB true = 0 by decide), y1, bd_some]
        by_cases z : b = -1
        · rw [if_neg (fun w => w z)]
          exact key true (by rw [decide_eq_true z])
        · rw [if_pos z]
          exact key false (by rw [decide_eq_false z])
    rw [zl3]
    unfold lb_X11_answersAnew_17
    rw [if_neg (show ¬ Y1 0 2 ≤ nI i by rw [h0 2 (by omega), hT.1.2.2]; exact nI_ge (by omega) (by omega)), if_neg one0, y_over hY1 hT1 hi6, bd_some, hov]
    cases e : ov Y R i with
    | none =>
      rw [if_pos (show enc none = -1 from rfl)]
      exact n0 (by unfold anw; rw [wit_none e]; simp)
    | some r =>
      have hr := ov_lt e
      have ht : Y 1 i ≠ 0 := fun z => by rw [ov_gone z] at e; cases e
      have ht1 : Y1 1 i ≠ 0 := by rw [ho 1 (by omega) (by omega)]; exact ht
      have wE := wit_some (f := f) e
      rw [show enc (some r) = nI r from rfl, if_neg (nm1 (show r < 2 ^ 31 by omega)), if_pos (n_ok60 hi6), nI_clamp (sm hi6), ho 2 (by omega) (by omega)]
      by_cases c2 : Y 2 i = 0
      · rw [if_neg (fun z => z c2)]
        by_cases c1 : f = -1
        · rw [if_pos c1]
          exact n1 c2 (by rw [wE]; simp [c1])
        · obtain ⟨k, hk, rfl⟩ := hf.resolve_left c1
          have hk6 : k < 60 := by omega
          have wE : wit Y R (nI k) i = (decide (nI k = nI (rf Y r)) || (belo (prY Y) k (rf Y r) && belo (prY Y) i k)) := by
            rw [wE, nI_clamp (sm hk6)]
            simp [c1]
          rw [if_neg c1, y_isBelow hT1 hi6 ht1 hk6, bd_some, hpr]
          cases c3 : belo (prY Y) i k with
          | false =>
            rw [if_pos (show bB false = 0 by decide)]
            refine n0 ?_
            have hne : ¬ nI k = nI (rf Y r) := fun z => by
              have hkr := (nI_eq (sm hk6) (sm (hY.2.1 r hr).1)).mp z
              have := (ov_belo hY hT hr).mpr e
              rw [← hkr, c3] at this
              cases this
            unfold anw
            rw [wE, c3, decide_eq_false hne]
            simp
          | true =>
            have hkt : Y1 1 k ≠ 0 := by
              rw [ho 1 (by omega) (by omega)]
              exact (hT.On (fun n hn => (hT.st i ⟨hi6, ht⟩).2.2 n hn) ((belo_On hT.2.2.2.2 i k).mp c3)).2
            rw [if_neg (show ¬ bB true = 0 by decide), if_pos (n_ok4 (show r < 4 by omega)), nI_clamp (show r < 2 ^ 31 by omega), ho 10 (by omega) (by omega), rf_eq hY hr]
            by_cases c4 : nI k = nI (rf Y r)
            · rw [if_pos c4]
              exact n1 c2 (by rw [wE, decide_eq_true c4]; rfl)
            · rw [if_neg c4, if_pos (n_ok4 (show r < 4 by omega)), y_isBelow hT1 hk6 hkt (hY.2.1 r hr).1, bd_some, hpr]
              cases c5 : belo (prY Y) k (rf Y r) with
              | false =>
                rw [if_pos (show bB false = 0 by decide)]
                refine n0 ?_
                unfold anw
                rw [wE, c5, decide_eq_false c4]
                simp
              | true =>
                rw [if_neg (show ¬ bB true = 0 by decide)]
                exact n1 c2 (by rw [wE, c5, c3]; simp)
      · rw [if_pos c2]
        exact n0 (by unfold anw; rw [decide_eq_false c2]; rfl)
theorem Rel.y33 {i : Nat} {X Y Y' : JX} (h : Rel i X Y) (f : ∀ q, q ≠ 0 → q ≠ 33 → Y' q = Y q) (f0 : ∀ j, j ≠ 44 → Y' 0 j = Y 0 j) : Rel i X Y' := by
  obtain ⟨M, R, A, P, S, ⟨h1, h2, h3⟩, ⟨h4, h5, h6⟩, ⟨h7, h8⟩, ⟨h9, h10⟩, ⟨h11, h12, h13⟩, h14, h15⟩ := h
  have hR := h4.1.1
  refine ⟨M, R, A, P, S, ⟨h1.fr (f0 2 (by omega)) (fun q _ _ => f q (by omega) (by omega)), h2.fr rfl eqC.rf eqC.rf (f0 2 (by omega)) (fun q _ _ => f q (by omega) (by omega)), ?_⟩, ⟨h4.fr (f0 12 (by omega)) (f 1 (by omega) (by omega)) (f 2 (by omega) (by omega)) (f 3 (by omega) (by omega)) (f 10 (by omega) (by omega)), h5.fr hR eqC.rf (f 10 (by omega) (by omega)), h6.fr hR h5.1 eqC.rf (fun q _ _ => f q (by omega) (by omega))⟩, ⟨h7.fr eqC.rf eqC.rf (fun q _ _ => f q (by omega) (by omega)) (f 31 (by omega) (by omega)), ?_⟩, ⟨?_, ?_⟩, ⟨?_, ?_, ?_⟩, ?_, ?_⟩
  · unfold TV
    rw [f 1 (by omega) (by omega), f 3 (by omega) (by omega), f 4 (by omega) (by omega), f 5 (by omega) (by omega), f 6 (by omega) (by omega), f 7 (by omega) (by omega), f 8 (by omega) (by omega)]
    exact h3
  · unfold EY
    rw [f 2 (by omega) (by omega), f 22 (by omega) (by omega), f 19 (by omega) (by omega), f 20 (by omega) (by omega), f 23 (by omega) (by omega), f 24 (by omega) (by omega)]
    exact h8
  · unfold KY
    rw [f0 30 (by omega), f 25 (by omega) (by omega), f 26 (by omega) (by omega), f 27 (by omega) (by omega)]
    exact h9
  · unfold KX
    rw [f 25 (by omega) (by omega), f 26 (by omega) (by omega), f 27 (by omega) (by omega)]
    exact h10
  · unfold IY
    rw [f0 37 (by omega), f0 41 (by omega), f0 2 (by omega), f 2 (by omega) (by omega), f 28 (by omega) (by omega), f 29 (by omega) (by omega), f 30 (by omega) (by omega)]
    exact h11
  · unfold IX liveP deadP
    rw [f 28 (by omega) (by omega), f 29 (by omega) (by omega), f 30 (by omega) (by omega)]
    exact h12
  · unfold IQ
    rw [f 19 (by omega) (by omega), f 29 (by omega) (by omega), f 30 (by omega) (by omega), f 31 (by omega) (by omega)]
    exact h13
  · unfold SX
    rw [f0 1 (by omega), f0 28 (by omega), f0 29 (by omega), f0 34 (by omega), f0 35 (by omega), f0 36 (by omega)]
    exact h14
  · unfold SY
    rw [f0 1 (by omega), f0 28 (by omega), f0 29 (by omega), f0 34 (by omega), f0 35 (by omega), f0 36 (by omega)]
    exact h15
theorem op_26 {i : Nat} {X Y : JX} (h : Rel i X Y) : OpSim (Rel (i + 5)) X Y 26 := by
  intro p a b f
  have h0 := fun s => (h.mono (show i ≤ i + 5 by omega)).thr (s := s)
  obtain ⟨M, R, A, P, S, ⟨h1, h2, h3⟩, ⟨h4, h5, h6⟩, ⟨h7, h8⟩, -, -, h14, h15⟩ := h
  have hM := h1.1.2.1
  have yca := y_canAsk (p := p) (a := a) (b := b) (f := f) h1
  by_cases c1 : (¬ p < 0 ∧ ¬ 3 < p) ∧ (f = -1 ∨ ∃ n, n < M ∧ f = nI n)
  · by_cases c2 : (¬ a < 0 ∧ ¬ 99 < a) ∧ ¬ b < -1 ∧ ¬ 99 < b
    · have h1' : TY (thr Y 0) M := h1
      obtain ⟨X', x1, x2⟩ := x_anw_loop (X := X) (Y := thr Y 0) (M := M) (R := R) (i9 := i) (p := p) (a := a) (b := b) (f := f) h1 h2 h3 h5 h4 ⟨h14.1, h14.2.1⟩ h15 c1.2 60 0 1000 X 0 rfl (by decide) (fun _ _ => rfl)
      obtain ⟨Y', y1, y2, y3⟩ := y_anw_loop (X := X) (Y := thr Y 0) (M := M) (R := R) (i9 := i) (p := p) (a := a) (b := b) (f := f) h1 h2 h3 h4 ⟨h14.1, h14.2.1⟩ h15 c1.2 M 0 1000 (thr Y 0) 0 (Nat.zero_add _) (by omega) (fun _ _ _ => rfl) (fun _ _ => rfl)
      rw [Nat.zero_add] at x1 y1
      rw [cnt_60 hM (fun n hn hn6 => by
        cases z : anw (thr Y 0) R p a b f n with
        | false => rfl
        | true =>
          unfold anw at z
          rw [Bool.and_eq_true, Bool.and_eq_true] at z
          exact absurd (h1'.2.2.1 n hn6 (wit_there z.1.2)) (by omega))] at x1
      refine ⟨none, nI (cnt (anw (thr Y 0) R p a b f) M 0), X', nI (cnt (anw (thr Y 0) R p a b f) M 0), Y', ?_, ?_, ?_, fun _ => rfl, ((h0 0).x54 (fun q _ q2 => x2 q q2)).y33 y2 y3⟩
      · unfold f_X10_answersAnew
        rw [x_isPerson, bo_t c1.1, bd_some, if_neg one0, x_isMadeN h1 h2, bo_t c1.2, bd_some, if_pos one0, x_isWord, bo_t c2.1, bd_some, if_neg one0, x_isWordN, bo_t c2.2, bd_some, if_pos one0, show f_X5_countAnew X p a b f = some _ from x1, bd_some]
      · unfold f_X11_answersAnew
        rw [yca, if_neg (fun z => z c1), if_neg (fun z => z c2), bd_some]
        exact y1
      · rw [y3 0 (by omega)]
        rfl
    · refine ⟨some 2, 0, X, 0, thr Y 2, ?_, ?_, rfl, (fun q => by cases q), h0 2⟩
      · unfold f_X10_answersAnew b_X10_answersAnew_41
        rw [x_isPerson, bo_t c1.1, bd_some, if_neg one0, x_isMadeN h1 h2, bo_t c1.2, bd_some, if_pos one0, x_isWord, bd_some, x_isWordN, bd_some]
        by_cases c3 : ¬ a < 0 ∧ ¬ 99 < a
        · rw [bo_t c3, if_neg one0, bo_f (fun z => c2 ⟨c3, z⟩), if_neg (fun z => z rfl)]
        · rw [bo_f c3, if_pos rfl]
      · unfold f_X11_answersAnew
        rw [yca, if_neg (fun z => z c1), if_pos c2, bd_some]
        show loop3 (lb_X11_answersAnew_17 p a b f 0) (999 + 1) (thr Y 2) 0 0 = _
        rw [zl3]
        generalize hR9 : loop3 _ 999 = R9
        unfold lb_X11_answersAnew_17
        rw [if_pos rfl]
        split <;> rfl
  · refine ⟨some 1, 0, X, 0, thr Y 1, ?_, ?_, rfl, (fun q => by cases q), h0 1⟩
    · unfold f_X10_answersAnew b_X10_answersAnew_16
      rw [x_isPerson, bd_some, x_isMadeN h1 h2, bd_some]
      by_cases c3 : ¬ p < 0 ∧ ¬ 3 < p
      · rw [bo_t c3, if_neg one0, bo_f (fun z => c1 ⟨c3, z⟩), if_neg (fun z => z rfl)]
      · rw [bo_f c3, if_pos rfl]
    · unfold f_X11_answersAnew
      rw [yca, if_pos c1, bd_some]
      show loop3 (lb_X11_answersAnew_17 p a b f 0) (999 + 1) (thr Y 1) 0 0 = _
      rw [zl3]
      generalize hR9 : loop3 _ 999 = R9
      unfold lb_X11_answersAnew_17
      rw [if_pos rfl]
      split <;> rfl

/-! ===== call: answers ===== -/
def opB (Y : JX) (p : Int32) (k : Nat) : Bool := opn (bit (Y 9) p) (prY Y) 60 (some k)
theorem x_opB {X Y : JX} {M k : Nat} {p : Int32} (hT : TY Y M) (hx : TX X Y) (hk : k < 60) : f_X9_isOpenTo X p (nI k) = some (bB (opB Y p k)) := by
  rw [x_open hk (pr := prY Y) (fun n hn => (hx.2 n hn).1) hT.lt, opn_congr hT.lt (b' := bit (Y 9) p) (fun n hn => by unfold bit; rw [(hx.2 n hn).2.2.2.2.2.1]) 60 (some k) (fun n hn => by cases hn; exact hk)]
  rfl
/-- an entry's length -/
def eln (Y : JX) (k : Nat) : Nat := (Y 23 k).toNatClampNeg
theorem EY.len {Y : JX} {M k : Nat} (h : EY Y M) (hk : k < 60) : eln Y k ≤ 20 ∧ Y 23 k = nI (eln Y k) ∧ ∀ j, j < eln Y k → ∃ w, w ≤ 99 ∧ wd Y k j = nI w := by
  obtain ⟨l, hl, e, hw⟩ := (h k hk).2.1
  have : eln Y k = l := by unfold eln; rw [e, nI_clamp (show l < 2 ^ 31 by omega)]
  rw [this]
  exact ⟨hl, e, hw⟩
/-- a score, for a person; 0 of what is in no answer -/
def scr (Y : JX) (p a b : Int32) (k : Nat) : Nat := if Y 1 k ≠ 0 ∧ Y 2 k = 0 ∧ Y 19 k ≠ 0 ∧ opB Y p k = true then sc (wd Y k) (eln Y k) a b else 0
theorem oft_congr {g g' : Nat → Int32} {l : Nat} {w : Int32} (h : ∀ j, j < l → g j = g' j) : oft g l w = oft g' l w := cnt_congr l 0 (fun j _ hj => by rw [h j (by omega)])
theorem anyl_congr {p q : Nat → Bool} : ∀ m i, (∀ j, i ≤ j → j < i + m → p j = q j) → anyl p m i = anyl q m i := by
  intro m
  induction m with
  | zero => intro i _; rfl
  | succ m ih => intro i h; rw [anyl_s, anyl_s, h i (Nat.le_refl _) (by omega), ih (i + 1) (fun j h1 h2 => h j (by omega) (by omega))]
theorem sc_congr {g g' : Nat → Int32} {l : Nat} {a b : Int32} (h : ∀ j, j < l → g j = g' j) : sc g l a b = sc g' l a b := by
  unfold sc prs
  rw [oft_congr h, oft_congr h, anyl_congr l 0 (fun j _ hj => by rw [h j (by omega), h (j - 1) (by omega)])]
theorem x_wordsOf {X : JX} {k : Nat} (hk : k < 60) : f_X2_wordsOf X (nI k) = some (116 + k) := by
  have h : isI20 (116 + k) = true := by simp [isI20]; omega
  unfold f_X2_wordsOf
  rw [if_neg (nI_pos (sm hk)), if_neg (nl60 hk), if_pos (n_ok60 hk), dN_eq, nI_clamp (sm hk), if_pos h]
theorem x_scoreOf {X Y : JX} {M k : Nat} {p a b : Int32} (hT : TY Y M) (hx : TX X Y) (hE : EX X Y) (hEY : EY Y M) (hk : k < 60) : f_X5_scoreOf X p (nI k) a b = some (nI (scr Y p a b k)) := by
  obtain ⟨l20, l23, -⟩ := hEY.len hk
  obtain ⟨e36, -, -, -, e40, -, e116⟩ := hE k hk
  unfold f_X5_scoreOf f_X2_lengthOf scr
  rw [x_isFile hk, bd_some, x_has hk, bd_some, bd_some, x_opB hT hx hk, bd_some, x_wordsOf hk, bd_some, if_pos (show isI20 (116 + k) = true by simp [isI20]; omega), (hx.2 k hk).2.2.2.1, (hx.2 k hk).2.2.1, e36, if_pos (n_ok60 hk), nI_clamp (sm hk), e40, l23]
  by_cases h1 : Y 1 k ≠ 0 ∧ Y 2 k = 0
  · rw [bo_t h1, if_neg one0]
    by_cases h2 : Y 19 k ≠ 0
    · rw [bo_t h2, if_neg one0, if_neg one0]
      cases h3 : opB Y p k with
      | true =>
        rw [if_pos (show ¬ bB true = 0 by decide), bd_some, x_score l20, bd_some, if_pos ⟨h1.1, h1.2, h2, rfl⟩, sc_congr (g' := wd Y k) (fun j hj => e116 j (by omega))]
      | false =>
        rw [if_neg (show ¬ ¬ bB false = 0 by decide), if_neg (fun z => by cases z.2.2.2)]
        rfl
    · rw [bo_f h2, if_pos rfl, if_neg (fun z => h2 z.2.2.1)]
      rfl
  · rw [bo_f h1, if_pos rfl, if_neg (fun z => h1 ⟨z.1, z.2.1⟩)]
    rfl
/-- whether a file is in an answer -/
def ans (Y : JX) (R : Nat) (p a b f : Int32) (k : Nat) : Bool := decide (0 < scr Y p a b k) && (decide (f = -1) || lbl Y R f 60 (kp Y k))
theorem scr_pos {Y : JX} {p a b : Int32} {k : Nat} : 0 < scr Y p a b k ↔ (Y 1 k ≠ 0 ∧ Y 2 k = 0 ∧ Y 19 k ≠ 0 ∧ opB Y p k = true) ∧ 0 < sc (wd Y k) (eln Y k) a b := by
  unfold scr
  by_cases h : Y 1 k ≠ 0 ∧ Y 2 k = 0 ∧ Y 19 k ≠ 0 ∧ opB Y p k = true
  · rw [if_pos h]; exact ⟨fun z => ⟨h, z⟩, fun z => z.2⟩
  · rw [if_neg h]; exact ⟨fun z => by omega, fun z => absurd z.1 h⟩
theorem y_isAnswer {Y : JX} {M R k : Nat} {p a b f : Int32} (hT : TY Y M) (hY : RY Y R) (hEY : EY Y M) (hk : k < 60) : f_X11_isAnswer Y (nI k) p a b f = some (bB (ans Y R p a b f k)) := by
  obtain ⟨l20, l23, -⟩ := hEY.len hk
  unfold f_X11_isAnswer b_X11_isAnswer_36 ans
  rw [if_pos (n_ok60 hk), nI_clamp (sm hk), y_has hk l20 l23, bd_some, y_lies hY hEY hk, bd_some]
  by_cases h1 : Y 1 k = 0
  · rw [if_pos h1, decide_eq_false (fun z => (scr_pos.mp z).1.1 h1)]
    rfl
  · have ho : f_X11_mayReadAt Y p (nI k) = some (bB (opB Y p k)) := y_open hT hk h1
    rw [if_neg h1, ho, bd_some]
    by_cases h2 : Y 19 k ≠ 0 ∧ Y 2 k = 0 ∧ 0 < sc (wd Y k) (eln Y k) a b
    · have e : decide (0 < scr Y p a b k) = opB Y p k := by
        cases h3 : opB Y p k with
        | true => exact decide_eq_true (scr_pos.mpr ⟨⟨h1, h2.2.1, h2.1, h3⟩, h2.2.2⟩)
        | false => exact decide_eq_false (fun z => by have := (scr_pos.mp z).1.2.2.2; rw [h3] at this; cases this)
      rw [decide_eq_true h2, if_neg (show ¬ bB true = 0 by decide), e]
      by_cases h4 : f = -1
      · rw [if_pos h4, decide_eq_true h4]
        cases opB Y p k <;> rfl
      · rw [if_neg h4, decide_eq_false h4, Bool.false_or]
        cases lbl Y R f 60 (kp Y k) <;> cases opB Y p k <;> rfl
    · rw [decide_eq_false h2, if_pos (show bB false = 0 by decide), decide_eq_false (fun z => h2 ⟨(scr_pos.mp z).1.2.2.1, (scr_pos.mp z).1.2.1, (scr_pos.mp z).2⟩)]
      rfl
theorem x_count_loop {X Y : JX} {M R : Nat} {p a b f : Int32} (hT : TY Y M) (hx : TX X Y) (hX : RX X Y R) (hY : RY Y R) (hE : EX X Y) (hEY : EY Y M) : ∀ m i F c, i + m = 60 → m + 1 ≤ F → loop2 (lb_X5_count_6 X p a b f) F (nI c) (nI i) = some (nI (c + cnt (ans Y R p a b f) m i)) := by
  intro m
  induction m with
  | zero =>
    intro i F c hi hF
    obtain ⟨F', rfl⟩ := Nat.exists_eq_add_of_le' hF
    have : i = 60 := by omega
    subst this
    rw [zl2]
    generalize hR9 : loop2 _ F' = R9
    unfold lb_X5_count_6
    rw [if_pos g60]
    rfl
  | succ m ih =>
    intro i F c hi hF
    obtain ⟨F', rfl⟩ := Nat.exists_eq_add_of_le' (show 1 ≤ F by omega)
    rw [zl2]
    have h9 := fun c => ih (i + 1) F' c (by omega) (by omega)
    generalize hR9 : loop2 _ F' = R9 at h9
    have hi6 : i < 60 := by omega
    have hs : scr Y p a b i ≤ 50 := by
      unfold scr
      split
      · exact sc_le _ _ _ _ (hEY.len hi6).1
      · omega
    have no : b_X5_count_38 R9 X p a b f (nI c) (nI i) 0 = some (nI (c + cnt (ans Y R p a b f) m (i + 1))) := by
      unfold b_X5_count_38 b_X5_count_60
      rw [if_pos rfl, dV_eq, n_add1, h9]
    have yes : (decide (f = -1) || lbl Y R f 60 (kp Y i)) = true → b_X5_count_38 R9 X p a b f (nI c) (nI i) 1 = some (nI (c + cnt (ans Y R p a b f) (m + 1) i)) := fun z => by
      unfold b_X5_count_38 b_X5_count_60
      rw [if_neg one0, x_scoreOf hT hx hE hEY hi6, bd_some, dV_eq, dV_eq, dV_eq, n_add1, n_add1, h9, h9, cnt_s]
      by_cases h : 0 < scr Y p a b i
      · rw [if_neg (show ¬ nI (scr Y p a b i) ≤ 0 from nI_nle (by omega) (by omega)), show (if ans Y R p a b f i = true then 1 else 0) = 1 from if_pos (by unfold ans; rw [z, decide_eq_true h]; rfl), Nat.add_assoc]
      · rw [if_pos (show nI (scr Y p a b i) ≤ 0 by rw [show scr Y p a b i = 0 by omega]; decide), show (if ans Y R p a b f i = true then 1 else 0) = 0 from if_neg (by unfold ans; rw [decide_eq_false h]; simp), Nat.zero_add]
    unfold lb_X5_count_6
    rw [if_neg (nl60 hi6), x_lies hX hY hE hEY hi6, bd_some]
    by_cases h : f = -1
    · rw [if_pos h]
      exact yes (by simp [h])
    · rw [if_neg h]
      cases hl : lbl Y R f 60 (kp Y i) with
      | true => rw [if_neg (show ¬ bB true = 0 by decide)]; exact yes (by simp [hl])
      | false =>
        rw [if_pos (show bB false = 0 by decide), no, cnt_s, show (if ans Y R p a b f i = true then 1 else 0) = 0 from if_neg (by unfold ans; rw [hl]; simp [h]), Nat.zero_add]
theorem y_answers_loop {Y : JX} {M R : Nat} {p a b f : Int32} (hT : TY Y M) (hY : RY Y R) (hEY : EY Y M) : ∀ m i F c, i + m = M → m + 1 ≤ F → loop2 (lb_X11_answers_17 Y p a b f 1) F (nI c) (nI i) = some (nI (c + cnt (ans Y R p a b f) m i), Y) := by
  have hM := hT.1.2.1
  intro m
  induction m with
  | zero =>
    intro i F c hi hF
    obtain ⟨F', rfl⟩ := Nat.exists_eq_add_of_le' hF
    rw [zl2]
    generalize hR9 : loop2 _ F' = R9
    unfold lb_X11_answers_17
    rw [if_pos (show Y 0 2 ≤ nI i by rw [hT.1.2.2]; exact nI_le (by omega) (by omega))]
    rfl
  | succ m ih =>
    intro i F c hi hF
    obtain ⟨F', rfl⟩ := Nat.exists_eq_add_of_le' (show 1 ≤ F by omega)
    rw [zl2]
    have h9 := fun c => ih (i + 1) F' c (by omega) (by omega)
    generalize hR9 : loop2 _ F' = R9 at h9
    have hi6 : i < 60 := by omega
    unfold lb_X11_answers_17 b_X11_answers_52
    rw [if_neg (show ¬ Y 0 2 ≤ nI i by rw [hT.1.2.2]; exact nI_ge (by omega) (by omega)), if_neg one0, y_isAnswer hT hY hEY hi6, bd_some, dV_eq, dV_eq, dV_eq, dV_eq, n_add1, n_add1, Int32.add_zero, h9, h9, cnt_s]
    cases ans Y R p a b f i with
    | true => rw [if_neg (show ¬ bB true = 0 by decide), if_pos rfl, Nat.add_assoc]
    | false => rw [if_pos (show bB false = 0 by decide), if_neg (by decide), Nat.zero_add]
theorem ans_60 {Y : JX} {M R : Nat} {p a b f : Int32} (hT : TY Y M) : ∀ n, M ≤ n → n < 60 → ans Y R p a b f n = false := fun n hn hn6 => by
  unfold ans
  rw [decide_eq_false (fun z => by
    have := hT.2.2.1 n hn6 (scr_pos.mp z).1.1
    omega)]
  rfl
/-- who may ask what -/
theorem y_canAsk {Y : JX} {M : Nat} {p a b f : Int32} (hT : TY Y M) : f_X11_canAsk Y p a b f = if ¬ ((¬ p < 0 ∧ ¬ 3 < p) ∧ (f = -1 ∨ ∃ n, n < M ∧ f = nI n)) then some (0, thr Y 1) else if ¬ ((¬ a < 0 ∧ ¬ 99 < a) ∧ ¬ b < -1 ∧ ¬ 99 < b) then some (0, thr Y 2) else some (1, thr Y 0) := by
  have y1 : b_X11_canAsk_55 Y 1 = some (0, thr Y 1) := by
    unfold b_X11_canAsk_55
    rw [dX_eq, if_pos (show ¬ (thr Y 1) 0 0 = 0 from one0)]
  have y2 : b_X11_canAsk_55 Y 2 = some (0, thr Y 2) := by
    unfold b_X11_canAsk_55
    rw [dX_eq, if_pos (show ¬ (thr Y 2) 0 0 = 0 from (by decide : ¬ (2 : Int32) = 0))]
  have y0 : b_X11_canAsk_55 Y 0 = some (1, thr Y 0) := by
    unfold b_X11_canAsk_55
    rw [dX_eq, if_neg (show ¬ ¬ (thr Y 0) 0 0 = 0 from fun z => z rfl)]
  unfold f_X11_canAsk b_X11_canAsk_29
  rw [y_in, bd_some, y_madeN hT, bd_some, y_areWords, bd_some, y0, y1, y2, if_neg (show ¬ ¬ (0 : Int32) = 0 from fun z => z rfl), if_pos one0]
  by_cases h1 : ¬ p < 0 ∧ ¬ 3 < p
  · rw [bo_t h1, if_neg one0]
    by_cases h2 : f = -1 ∨ ∃ n, n < M ∧ f = nI n
    · rw [bo_t h2, if_neg one0, if_neg (show ¬ ¬ ((¬ p < 0 ∧ ¬ 3 < p) ∧ (f = -1 ∨ ∃ n, n < M ∧ f = nI n)) from fun z => z ⟨h1, h2⟩)]
      by_cases h3 : (¬ a < 0 ∧ ¬ 99 < a) ∧ ¬ b < -1 ∧ ¬ 99 < b
      · rw [bo_t h3, if_neg one0, if_neg (fun z => z h3)]
      · rw [bo_f h3, if_pos rfl, if_pos h3]
    · rw [bo_f h2, if_pos rfl, if_pos (fun z => h2 z.2)]
  · rw [bo_f h1, if_pos rfl, if_pos (fun z => h1 z.1)]
theorem op_25 {i : Nat} {X Y : JX} (h : Rel i X Y) : OpSim (Rel (i + 5)) X Y 25 := by
  intro p a b f
  have h0 := fun s => (h.mono (show i ≤ i + 5 by omega)).thr (s := s)
  obtain ⟨M, R, A, P, S, ⟨h1, h2, h3⟩, ⟨h4, h5, h6⟩, ⟨h7, h8⟩, -⟩ := h
  have hM := h1.1.2.1
  have yca := y_canAsk (p := p) (a := a) (b := b) (f := f) h1
  by_cases c1 : (¬ p < 0 ∧ ¬ 3 < p) ∧ (f = -1 ∨ ∃ n, n < M ∧ f = nI n)
  · by_cases c2 : (¬ a < 0 ∧ ¬ 99 < a) ∧ ¬ b < -1 ∧ ¬ 99 < b
    · refine ⟨none, nI (cnt (ans (thr Y 0) R p a b f) M 0), X, nI (cnt (ans (thr Y 0) R p a b f) M 0), thr Y 0, ?_, ?_, rfl, fun _ => rfl, h0 0⟩
      · have hl := x_count_loop (Y := thr Y 0) (M := M) (R := R) (p := p) (a := a) (b := b) (f := f) h1 h2 h5 h4 h7 h8 60 0 1000 0 rfl (by decide)
        rw [Nat.zero_add, cnt_60 hM (ans_60 (Y := thr Y 0) h1)] at hl
        unfold f_X10_answers
        rw [x_isPerson, bo_t c1.1, bd_some, if_neg one0, x_isMadeN h1 h2, bo_t c1.2, bd_some, if_pos one0, x_isWord, bo_t c2.1, bd_some, if_neg one0, x_isWordN, bo_t c2.2, bd_some, if_pos one0, show f_X5_count X p a b f = some _ from hl, bd_some]
      · have hl := y_answers_loop (Y := thr Y 0) (M := M) (R := R) (p := p) (a := a) (b := b) (f := f) h1 h4 h8 M 0 1000 0 (Nat.zero_add _) (by omega)
        rw [Nat.zero_add] at hl
        unfold f_X11_answers
        rw [yca, if_neg (fun z => z c1), if_neg (fun z => z c2), bd_some]
        exact hl
    · refine ⟨some 2, 0, X, 0, thr Y 2, ?_, ?_, rfl, (fun q => by cases q), h0 2⟩
      · unfold f_X10_answers b_X10_answers_41
        rw [x_isPerson, bo_t c1.1, bd_some, if_neg one0, x_isMadeN h1 h2, bo_t c1.2, bd_some, if_pos one0, x_isWord, bd_some, x_isWordN, bd_some]
        by_cases c3 : ¬ a < 0 ∧ ¬ 99 < a
        · rw [bo_t c3, if_neg one0, bo_f (fun z => c2 ⟨c3, z⟩), if_neg (fun z => z rfl)]
        · rw [bo_f c3, if_pos rfl]
      · unfold f_X11_answers
        rw [yca, if_neg (fun z => z c1), if_pos c2, bd_some]
        show loop2 (lb_X11_answers_17 (thr Y 2) p a b f 0) (999 + 1) 0 0 = _
        rw [zl2]
        generalize hR9 : loop2 _ 999 = R9
        unfold lb_X11_answers_17
        rw [if_pos rfl]
        split <;> rfl
  · refine ⟨some 1, 0, X, 0, thr Y 1, ?_, ?_, rfl, (fun q => by cases q), h0 1⟩
    · unfold f_X10_answers b_X10_answers_16
      rw [x_isPerson, bd_some, x_isMadeN h1 h2, bd_some]
      by_cases c3 : ¬ p < 0 ∧ ¬ 3 < p
      · rw [bo_t c3, if_neg one0, bo_f (fun z => c1 ⟨c3, z⟩), if_neg (fun z => z rfl)]
      · rw [bo_f c3, if_pos rfl]
    · unfold f_X11_answers
      rw [yca, if_pos c1, bd_some]
      show loop2 (lb_X11_answers_17 (thr Y 1) p a b f 0) (999 + 1) 0 0 = _
      rw [zl2]
      generalize hR9 : loop2 _ 999 = R9
      unfold lb_X11_answers_17
      rw [if_pos rfl]
      split <;> rfl

/-! ===== call: answer ===== -/
theorem fst_add {p : Nat → Bool} : ∀ m k i, fst p (m + k) i = match fst p m i with | some r => some r | none => fst p k (i + m) := by
  intro m
  induction m with
  | zero => intro k i; rw [Nat.zero_add]; rfl
  | succ m ih =>
    intro k i
    rw [show m + 1 + k = (m + k) + 1 by omega, fst_s, fst_s]
    by_cases e : p i = true
    · rw [if_pos e, if_pos e]
    · rw [if_neg e, if_neg e, ih k (i + 1), show i + 1 + m = i + (m + 1) by omega]
theorem fst_no {p : Nat → Bool} : ∀ m i, (∀ n, i ≤ n → n < i + m → p n = false) → fst p m i = none := by
  intro m
  induction m with
  | zero => intro i _; rfl
  | succ m ih => intro i h; rw [fst_s, if_neg (by rw [h i (Nat.le_refl _) (by omega)]; decide)]; exact ih (i + 1) (fun n a b => h n (by omega) (by omega))
theorem fst_60 {p : Nat → Bool} {M : Nat} (hM : M ≤ 60) (h : ∀ n, M ≤ n → n < 60 → p n = false) : fst p 60 0 = fst p M 0 := by
  have e : fst p (M + (60 - M)) 0 = fst p M 0 := by
    rw [fst_add, fst_no (60 - M) (0 + M) (fun n a b => h n (by omega) (by omega))]
    cases fst p M 0 <;> rfl
  rw [show M + (60 - M) = 60 by omega] at e
  exact e
theorem scr_le {Y : JX} {M k : Nat} {p a b : Int32} (hE : EY Y M) (hk : k < 60) : scr Y p a b k ≤ 50 := by
  unfold scr
  split
  · exact sc_le _ _ _ _ (hE.len hk).1
  · omega
def ahd (s : Nat → Nat) (k j : Nat) : Bool := decide (s k < s j) || (decide (s j = s k) && decide (j < k))
theorem x_fill_loop {X Y : JX} {M : Nat} {p a b v : Int32} (hT : TY Y M) (hx : TX X Y) (hE : EX X Y) (hEY : EY Y M) : ∀ m i F (X1 : JX), i + m = 60 → m + 1 ≤ F → (∀ q, q ≠ 54 → X1 q = X q) → (∀ j, j < i → X1 54 j = nI (scr Y p a b j)) → ∃ X', loop2 (lb_X5_fileAt_3 p a b v) F X1 (nI i) = l_X5_fileAt_35 X' v 0 ∧ (∀ q, q ≠ 54 → X' q = X q) ∧ ∀ j, j < 60 → X' 54 j = nI (scr Y p a b j) := by
  intro m
  induction m with
  | zero =>
    intro i F X1 hi hF ho h
    obtain ⟨F', rfl⟩ := Nat.exists_eq_add_of_le' hF
    have : i = 60 := by omega
    subst this
    refine ⟨X1, ?_, ho, h⟩
    rw [zl2]
    generalize hR9 : loop2 _ F' = R9
    unfold lb_X5_fileAt_3
    rw [if_pos g60]
  | succ m ih =>
    intro i F X1 hi hF ho h
    obtain ⟨F', rfl⟩ := Nat.exists_eq_add_of_le' (show 1 ≤ F by omega)
    have hi6 : i < 60 := by omega
    have hx1 : TX X1 Y := hx.fr (by rw [ho 1 (by omega)]) (fun q _ _ => ho q (by omega)) (fun q _ _ => ho q (by omega)) rfl eqC.rf
    have hE1 : EX X1 Y := hE.fr (fun q _ _ => ho q (by omega)) (fun q _ _ => ho q (by omega)) eqC.rf rfl
    obtain ⟨X', a1, a2, a3⟩ := ih (i + 1) F' (pX X1 54 (upd (X1 54) i (nI (scr Y p a b i)))) (by omega) (by omega) (fun q hq => (if_neg hq).trans (ho q hq)) (fun j hj => by
      show upd (X1 54) i (nI (scr Y p a b i)) j = _
      rw [u_at]
      by_cases q : j = i
      · rw [if_pos q, q]
      · rw [if_neg q]; exact h j (by omega))
    refine ⟨X', ?_, a2, a3⟩
    rw [zl2]
    generalize hR9 : loop2 _ F' = R9 at a1
    unfold lb_X5_fileAt_3
    rw [if_neg (nl60 hi6), x_scoreOf hT hx1 hE1 hEY hi6, bd_some, if_pos (n_ok60 hi6), dX_eq, dV_eq, n_add1, nI_clamp (sm hi6)]
    exact a1
theorem x_ahead_loop {X : JX} {s : Nat → Nat} {k : Nat} (hk : k < 60) (h : ∀ j, j < 60 → X 54 j = nI (s j)) (hs : ∀ j, j < 60 → s j ≤ 50) : ∀ m i F c, i + m = 60 → m + 1 ≤ F → loop2 (lb_X5_countAhead_5 X (nI k) (nI (s k))) F (nI c) (nI i) = some (nI (c + cnt (ahd s k) m i)) := by
  intro m
  induction m with
  | zero =>
    intro i F c hi hF
    obtain ⟨F', rfl⟩ := Nat.exists_eq_add_of_le' hF
    have : i = 60 := by omega
    subst this
    rw [zl2]
    generalize hR9 : loop2 _ F' = R9
    unfold lb_X5_countAhead_5
    rw [if_pos g60]
    rfl
  | succ m ih =>
    intro i F c hi hF
    obtain ⟨F', rfl⟩ := Nat.exists_eq_add_of_le' (show 1 ≤ F by omega)
    rw [zl2]
    have h9 := fun c => ih (i + 1) F' c (by omega) (by omega)
    generalize hR9 : loop2 _ F' = R9 at h9
    have hi6 : i < 60 := by omega
    have s1 := hs i hi6
    have s2 := hs k hk
    have no : b_X5_countAhead_55 R9 X (nI k) (nI (s k)) (nI c) (nI i) = some (nI (c + cnt (ahd s k) m (i + 1))) := by
      unfold b_X5_countAhead_55
      rw [dV_eq, n_add1, h9]
    have yes : b_X5_countAhead_52 R9 X (nI k) (nI (s k)) (nI c) (nI i) = some (nI (c + (1 + cnt (ahd s k) m (i + 1)))) := by
      unfold b_X5_countAhead_52 b_X5_countAhead_55
      rw [dV_eq, dV_eq, n_add1, n_add1, h9, Nat.add_assoc]
    unfold lb_X5_countAhead_5 b_X5_countAhead_28
    rw [if_neg (nl60 hi6), if_pos (n_ok60 hi6), if_pos (n_ok60 hi6), nI_clamp (sm hi6), h i hi6, cnt_s]
    by_cases c1 : s k < s i
    · rw [if_neg (show ¬ nI (s i) ≤ nI (s k) from nI_ge c1 (by omega)), if_pos one0, yes, show (if ahd s k i = true then 1 else 0) = 1 from if_pos (by unfold ahd; rw [decide_eq_true c1]; rfl)]
    · rw [if_pos (show nI (s i) ≤ nI (s k) from nI_le (by omega) (by omega)), if_neg (fun z => z rfl)]
      by_cases c2 : s i = s k
      · rw [if_neg (fun z => z (by rw [c2]))]
        by_cases c3 : i < k
        · rw [if_neg (show ¬ nI k ≤ nI i from nI_ge c3 (sm hk)), yes, show (if ahd s k i = true then 1 else 0) = 1 from if_pos (by unfold ahd; rw [decide_eq_true c2, decide_eq_true c3]; simp)]
        · rw [if_pos (show nI k ≤ nI i from nI_le (by omega) (by omega)), no, show (if ahd s k i = true then 1 else 0) = 0 from if_neg (by unfold ahd; rw [decide_eq_false c1, decide_eq_false c3]; simp), Nat.zero_add]
      · rw [if_pos (fun z => c2 ((nI_eq (by omega) (by omega)).mp z)), no, show (if ahd s k i = true then 1 else 0) = 0 from if_neg (by unfold ahd; rw [decide_eq_false c1, decide_eq_false c2]; simp), Nat.zero_add]
def qfl (s : Nat → Nat) (v : Int32) (k : Nat) : Bool := decide (0 < s k) && decide (nI (cnt (ahd s k) 60 0) = v)
theorem x_at_loop {X : JX} {s : Nat → Nat} {v : Int32} (h : ∀ j, j < 60 → X 54 j = nI (s j)) (hs : ∀ j, j < 60 → s j ≤ 50) : ∀ m i F, i + m = 60 → m + 1 ≤ F → loop1 (lb_X5_fileAt_35 X v) F (nI i) = some (match fst (qfl s v) m i with | none => -1 | some k => 100 * nI (s k) + nI k, X) := by
  intro m
  induction m with
  | zero =>
    intro i F hi hF
    obtain ⟨F', rfl⟩ := Nat.exists_eq_add_of_le' hF
    have : i = 60 := by omega
    subst this
    rw [zl1]
    generalize hR9 : loop1 _ F' = R9
    unfold lb_X5_fileAt_35
    rw [if_pos g60]
    rfl
  | succ m ih =>
    intro i F hi hF
    obtain ⟨F', rfl⟩ := Nat.exists_eq_add_of_le' (show 1 ≤ F by omega)
    rw [zl1]
    have h9 := ih (i + 1) F' (by omega) (by omega)
    generalize hR9 : loop1 _ F' = R9 at h9
    have hi6 : i < 60 := by omega
    have s1 := hs i hi6
    have hc := x_ahead_loop hi6 h hs 60 0 1000 0 rfl (by decide)
    rw [Nat.zero_add] at hc
    have hc : f_X5_countAhead X (nI i) (nI (s i)) = some (nI (cnt (ahd s i) 60 0)) := hc
    unfold lb_X5_fileAt_35 b_X5_fileAt_78
    rw [if_neg (nl60 hi6), if_pos (n_ok60 hi6), dV_eq, nI_clamp (sm hi6), h i hi6, hc, bd_some, dV_eq, n_add1, h9, fst_s]
    by_cases c1 : 0 < s i
    · rw [if_neg (show ¬ nI (s i) ≤ 0 from nI_nle (by omega) (by omega))]
      by_cases c2 : nI (cnt (ahd s i) 60 0) = v
      · rw [if_neg (fun z => z c2), if_pos (show qfl s v i = true by unfold qfl; rw [decide_eq_true c1, decide_eq_true c2]; rfl)]
      · rw [if_pos c2, if_neg (show ¬ qfl s v i = true by unfold qfl; rw [decide_eq_false c2]; simp)]
    · rw [if_pos (show nI (s i) ≤ 0 by rw [show s i = 0 by omega]; decide), if_neg (show ¬ qfl s v i = true by unfold qfl; rw [decide_eq_false c1]; simp)]
theorem ans_m1 {Y : JX} {R : Nat} {p a b : Int32} {k : Nat} : ans Y R p a b (-1) k = decide (0 < scr Y p a b k) := by
  unfold ans
  simp
theorem y_scr {Y : JX} {M k : Nat} {p a b : Int32} (hE : EY Y M) (hk : k < 60) (h : 0 < scr Y p a b k) : f_X11_score Y (nI k) a b = some (nI (scr Y p a b k)) := by
  obtain ⟨l20, l23, hw⟩ := hE.len hk
  obtain ⟨h1, h2⟩ := scr_pos.mp h
  have e : scr Y p a b k = sc (wd Y k) (eln Y k) a b := by unfold scr; rw [if_pos h1]
  rw [e]
  exact y_score hk l20 l23 (fun j hj => by obtain ⟨w, hw9, ew⟩ := hw j hj; rw [ew]; exact nm1 (by omega)) h2
theorem y_better_loop {Y : JX} {M R k : Nat} {p a b v : Int32} {rec : Int32 → Option (Int32 × JX)} (hT : TY Y M) (hY : RY Y R) (hE : EY Y M) (hk : k < 60) (hp : 0 < scr Y p a b k) : ∀ m i F c, i + m = M → m + 1 ≤ F → loop2 (lb_X11_answer_83 rec Y p a b v (nI k) (nI (scr Y p a b k))) F (nI c) (nI i) = if ¬ nI (c + cnt (ahd (scr Y p a b) k) m i) = v then b_X11_answer_189 rec Y p a b v (nI k) else some (100 * nI (scr Y p a b k) + nI k, Y) := by
  have hM := hT.1.2.1
  intro m
  induction m with
  | zero =>
    intro i F c hi hF
    obtain ⟨F', rfl⟩ := Nat.exists_eq_add_of_le' hF
    rw [zl2]
    generalize hR9 : loop2 _ F' = R9
    unfold lb_X11_answer_83
    rw [if_pos (show Y 0 2 ≤ nI i by rw [hT.1.2.2]; exact nI_le (by omega) (by omega))]
    rfl
  | succ m ih =>
    intro i F c hi hF
    obtain ⟨F', rfl⟩ := Nat.exists_eq_add_of_le' (show 1 ≤ F by omega)
    rw [zl2]
    have h9 := fun c => ih (i + 1) F' c (by omega) (by omega)
    generalize hR9 : loop2 _ F' = R9 at h9
    have hi6 : i < 60 := by omega
    have s1 := scr_le (p := p) (a := a) (b := b) hE hi6
    have s2 := scr_le (p := p) (a := a) (b := b) hE hk
    have no : b_X11_answer_164 rec R9 Y p a b v (nI k) (nI (scr Y p a b k)) (nI i) 0 (nI c) = if ¬ nI (c + cnt (ahd (scr Y p a b) k) m (i + 1)) = v then b_X11_answer_189 rec Y p a b v (nI k) else some (100 * nI (scr Y p a b k) + nI k, Y) := by
      unfold b_X11_answer_164
      rw [dV_eq, dV_eq, n_add1, Int32.add_zero, h9]
    have yes : b_X11_answer_164 rec R9 Y p a b v (nI k) (nI (scr Y p a b k)) (nI i) 1 (nI c) = if ¬ nI (c + (1 + cnt (ahd (scr Y p a b) k) m (i + 1))) = v then b_X11_answer_189 rec Y p a b v (nI k) else some (100 * nI (scr Y p a b k) + nI k, Y) := by
      unfold b_X11_answer_164
      rw [dV_eq, dV_eq, n_add1, n_add1, h9, Nat.add_assoc]
    have zero : b_X11_answer_117 rec R9 Y p a b v (nI k) (nI c) (nI (scr Y p a b k)) (nI i) 0 = if ¬ nI (c + cnt (ahd (scr Y p a b) k) m (i + 1)) = v then b_X11_answer_189 rec Y p a b v (nI k) else some (100 * nI (scr Y p a b k) + nI k, Y) := by
      unfold b_X11_answer_117
      rw [if_pos rfl, no]
    unfold lb_X11_answer_83
    rw [if_neg (show ¬ Y 0 2 ≤ nI i by rw [hT.1.2.2]; exact nI_ge (by omega) (by omega)), y_isAnswer hT hY hE hi6, bd_some, ans_m1, cnt_s]
    by_cases q : i = k
    · rw [if_pos (by rw [q]), zero, show (if ahd (scr Y p a b) k i = true then 1 else 0) = 0 from if_neg (by unfold ahd; rw [q]; simp), Nat.zero_add]
    · rw [if_neg (nne hi6 hk q)]
      by_cases c0 : 0 < scr Y p a b i
      · rw [decide_eq_true c0, if_neg (show ¬ bB true = 0 by decide)]
        unfold b_X11_answer_117
        rw [if_neg one0, y_scr hE hi6 c0, bd_some, bd_some]
        by_cases c1 : scr Y p a b k < scr Y p a b i
        · rw [if_pos (show nI (scr Y p a b k) < nI (scr Y p a b i) from nI_lt c1 (by omega)), yes, show (if ahd (scr Y p a b) k i = true then 1 else 0) = 1 from if_pos (by unfold ahd; rw [decide_eq_true c1]; rfl)]
        · rw [if_neg (show ¬ nI (scr Y p a b k) < nI (scr Y p a b i) from fun z => c1 ((nI_ltI (by omega) (by omega)).mp z))]
          by_cases c2 : scr Y p a b i = scr Y p a b k
          · rw [if_neg (fun z => z (by rw [c2]))]
            by_cases c3 : i < k
            · rw [if_neg (show ¬ nI k ≤ nI i from nI_ge c3 (sm hk)), yes, show (if ahd (scr Y p a b) k i = true then 1 else 0) = 1 from if_pos (by unfold ahd; rw [decide_eq_true c2, decide_eq_true c3]; simp)]
            · rw [if_pos (show nI k ≤ nI i from nI_le (by omega) (by omega)), no, show (if ahd (scr Y p a b) k i = true then 1 else 0) = 0 from if_neg (by unfold ahd; rw [decide_eq_false c1, decide_eq_false c3]; simp), Nat.zero_add]
          · rw [if_pos (fun z => c2 ((nI_eq (by omega) (by omega)).mp z)), no, show (if ahd (scr Y p a b) k i = true then 1 else 0) = 0 from if_neg (by unfold ahd; rw [decide_eq_false c1, decide_eq_false c2]; simp), Nat.zero_add]
      · rw [decide_eq_false c0, if_pos (show bB false = 0 by decide), zero, show (if ahd (scr Y p a b) k i = true then 1 else 0) = 0 from if_neg (by unfold ahd; rw [decide_eq_false (show ¬ scr Y p a b k < scr Y p a b i by omega), decide_eq_false (show ¬ scr Y p a b i = scr Y p a b k by omega)]; simp), Nat.zero_add]
theorem y_at_loop {Y : JX} {M R : Nat} {p a b v : Int32} (hT : TY Y M) (hY : RY Y R) (hE : EY Y M) : ∀ m i F, i + m = M → m + 1 ≤ F → loop1 (lb_X11_answer_45 Y p a b v) F (nI i) = match fst (qfl (scr Y p a b) v) m i with | none => some (0, thr Y 1) | some k => some (100 * nI (scr Y p a b k) + nI k, Y) := by
  have hM := hT.1.2.1
  intro m
  induction m with
  | zero =>
    intro i F hi hF
    obtain ⟨F', rfl⟩ := Nat.exists_eq_add_of_le' hF
    rw [zl1]
    generalize hR9 : loop1 _ F' = R9
    unfold lb_X11_answer_45 f_X11_fails
    rw [if_pos (show Y 0 2 ≤ nI i by rw [hT.1.2.2]; exact nI_le (by omega) (by omega))]
    rfl
  | succ m ih =>
    intro i F hi hF
    obtain ⟨F', rfl⟩ := Nat.exists_eq_add_of_le' (show 1 ≤ F by omega)
    rw [zl1]
    have h9 := ih (i + 1) F' (by omega) (by omega)
    generalize hR9 : loop1 _ F' = R9 at h9
    have hi6 : i < 60 := by omega
    unfold lb_X11_answer_45
    rw [if_neg (show ¬ Y 0 2 ≤ nI i by rw [hT.1.2.2]; exact nI_ge (by omega) (by omega)), y_isAnswer hT hY hE hi6, bd_some, ans_m1, fst_s]
    have nx : b_X11_answer_189 R9 Y p a b v (nI i) = match fst (qfl (scr Y p a b) v) m (i + 1) with | none => some (0, thr Y 1) | some k => some (100 * nI (scr Y p a b k) + nI k, Y) := by
      unfold b_X11_answer_189
      rw [dV_eq, n_add1, h9]
    by_cases c0 : 0 < scr Y p a b i
    · have hb := y_better_loop (v := v) (rec := R9) hT hY hE hi6 c0 M 0 1000 0 (Nat.zero_add _) (by omega)
      rw [Nat.zero_add] at hb
      have e60 : cnt (ahd (scr Y p a b) i) M 0 = cnt (ahd (scr Y p a b) i) 60 0 := (cnt_60 hM (fun n hn hn6 => by
        have : scr Y p a b n = 0 := by
          by_cases z : 0 < scr Y p a b n
          · have := hT.2.2.1 n hn6 (scr_pos.mp z).1.1
            omega
          · omega
        unfold ahd
        rw [this, decide_eq_false (show ¬ scr Y p a b i < 0 by omega), decide_eq_false (show ¬ 0 = scr Y p a b i by omega)]
        rfl)).symm
      rw [decide_eq_true c0, if_neg (show ¬ bB true = 0 by decide), y_scr hE hi6 c0, bd_some]
      show loop2 (lb_X11_answer_83 R9 Y p a b v (nI i) (nI (scr Y p a b i))) 1000 (nI 0) (nI 0) = _
      rw [hb, e60, nx]
      by_cases c1 : nI (cnt (ahd (scr Y p a b) i) 60 0) = v
      · rw [if_neg (fun z => z c1), if_pos (show qfl (scr Y p a b) v i = true by unfold qfl; rw [decide_eq_true c0, decide_eq_true c1]; rfl)]
      · rw [if_pos c1, if_neg (show ¬ qfl (scr Y p a b) v i = true by unfold qfl; rw [decide_eq_false c1]; simp)]
    · rw [decide_eq_false c0, if_pos (show bB false = 0 by decide), nx, if_neg (show ¬ qfl (scr Y p a b) v i = true by unfold qfl; rw [decide_eq_false c0]; simp)]
theorem Rel.x54 {i : Nat} {X X' Y : JX} (h : Rel i X Y) (f : ∀ q, q ≠ 54 → q ≠ 55 → X' q = X q) : Rel i X' Y := by
  obtain ⟨M, R, A, P, S, ⟨h1, h2, h3⟩, ⟨h4, h5, h6⟩, ⟨h7, h8⟩, ⟨h9, h10⟩, ⟨h11, h12, h13⟩, h14, h15⟩ := h
  refine ⟨M, R, A, P, S, ⟨h1, h2.fr (by rw [f 1 (by omega) (by omega)]) (fun q _ _ => f q (by omega) (by omega)) (fun q _ _ => f q (by omega) (by omega)) rfl eqC.rf, h3⟩, ⟨h4, h5.fr h4.1.1 (fun q _ _ => f q (by omega) (by omega)) rfl, h6.fr h4.1.1 h5.1 (fun q _ _ => f q (by omega) (by omega)) eqC.rf⟩, ⟨h7.fr (fun q _ _ => f q (by omega) (by omega)) (fun q _ _ => f q (by omega) (by omega)) eqC.rf rfl, h8⟩, ⟨h9, ?_⟩, ⟨h11, ?_, h13⟩, ?_, h15⟩
  · unfold KX
    rw [f 45 (by omega) (by omega), f 46 (by omega) (by omega), f 47 (by omega) (by omega), f 48 (by omega) (by omega)]
    exact h10
  · unfold IX
    rw [f 49 (by omega) (by omega), f 50 (by omega) (by omega), f 51 (by omega) (by omega), f 52 (by omega) (by omega)]
    exact h12
  · unfold SX
    rw [f 34 (by omega) (by omega), f 0 (by omega) (by omega)]
    exact h14
theorem op_27 {i : Nat} {X Y : JX} (h : Rel i X Y) : OpSim (Rel (i + 5)) X Y 27 := by
  intro p a b v
  have h0 := fun s => (h.mono (show i ≤ i + 5 by omega)).thr (s := s)
  obtain ⟨M, R, A, P, S, ⟨h1, h2, h3⟩, ⟨h4, h5, h6⟩, ⟨h7, h8⟩, -⟩ := h
  have hM := h1.1.2.1
  by_cases c1 : ¬ p < 0 ∧ ¬ 3 < p
  · by_cases c2 : (¬ a < 0 ∧ ¬ 99 < a) ∧ ¬ b < -1 ∧ ¬ 99 < b
    · have h1' : TY (thr Y 0) M := h1
      have h4' : RY (thr Y 0) R := h4
      have h8' : EY (thr Y 0) M := h8
      let s := scr (thr Y 0) p a b
      have hs : ∀ j, j < 60 → s j ≤ 50 := fun j hj => scr_le h8' hj
      obtain ⟨X', x1, x2, x3⟩ := x_fill_loop (X := X) (Y := thr Y 0) (M := M) (p := p) (a := a) (b := b) (v := v) h1 h2 h7 h8 60 0 1000 X rfl (by decide) (fun _ _ => rfl) (fun j hj => absurd hj (Nat.not_lt_zero j))
      have xa := x_at_loop (X := X') (s := s) (v := v) x3 hs 60 0 1000 rfl (by decide)
      have ya := y_at_loop (Y := thr Y 0) (M := M) (R := R) (p := p) (a := a) (b := b) (v := v) h1' h4' h8' M 0 1000 (Nat.zero_add _) (by omega)
      have hf : fst (qfl s v) 60 0 = fst (qfl s v) M 0 := fst_60 hM (fun n hn hn6 => by
        have : s n = 0 := by
          by_cases z : 0 < s n
          · have := h1'.2.2.1 n hn6 (scr_pos.mp z).1.1
            omega
          · omega
        unfold qfl
        rw [this, decide_eq_false (by omega)]
        rfl)
      rw [hf] at xa
      have xe : f_X5_fileAt X p a b v = some (match fst (qfl s v) M 0 with | none => -1 | some k => 100 * nI (s k) + nI k, X') := by
        show loop2 (lb_X5_fileAt_3 p a b v) 1000 X (nI 0) = _
        rw [x1]
        exact xa
      have hrel := fun t => (h0 t).x54 (X' := X') (fun q q1 _ => x2 q q1)
      have xh : f_X10_answer X p a b v = if ¬ (match fst (qfl s v) M 0 with | none => (-1 : Int32) | some k => 100 * nI (s k) + nI k) = -1 then some (none, (match fst (qfl s v) M 0 with | none => (-1 : Int32) | some k => 100 * nI (s k) + nI k), X') else some (some 1, 0, X') := by
        unfold f_X10_answer
        rw [x_isPerson, bo_t c1, bd_some, if_pos one0, x_isWord, bo_t c2.1, bd_some, if_neg one0, x_isWordN, bo_t c2.2, bd_some, if_pos one0, xe, bd_some]
      have yh : f_X11_answer Y p a b v = match fst (qfl s v) M 0 with | none => some (0, thr (thr Y 0) 1) | some k => some (100 * nI (s k) + nI k, thr Y 0) := by
        unfold f_X11_answer b_X11_answer_30
        rw [y_in, bo_t c1, bd_some, if_pos one0, y_areWords, bo_t c2, bd_some, if_neg one0, dX_eq, if_pos (show (thr Y 0) 0 0 ≤ 0 from Int32.le_refl 0)]
        exact ya
      cases e : fst (qfl s v) M 0 with
      | none =>
        rw [e] at xh yh
        refine ⟨some 1, 0, X', 0, thr (thr Y 0) 1, ?_, yh, rfl, (fun q => by cases q), (hrel 0).thr⟩
        rw [xh, if_neg (fun z => z rfl)]
      | some k =>
        obtain ⟨-, hk, -⟩ := fst_some M 0 e
        rw [e] at xh yh
        have hk' := hs k (by omega)
        have e2 : (100 : Int32) * nI (s k) + nI k = nI (100 * s k + k) := by
          rw [show (100 : Int32) * nI (s k) = nI (100 * s k) from (Int32.ofNat_mul 100 (s k)).symm, nI_add]
        refine ⟨none, 100 * nI (s k) + nI k, X', 100 * nI (s k) + nI k, thr Y 0, ?_, yh, rfl, fun _ => rfl, hrel 0⟩
        rw [xh]
        show (if ¬ (100 * nI (s k) + nI k) = -1 then _ else _) = _
        rw [if_pos (by rw [e2]; exact nm1 (by omega))]
    · refine ⟨some 2, 0, X, 0, thr Y 2, ?_, ?_, rfl, (fun q => by cases q), h0 2⟩
      · unfold f_X10_answer b_X10_answer_32
        rw [x_isPerson, bo_t c1, bd_some, if_pos one0, x_isWord, bd_some, x_isWordN, bd_some]
        by_cases c3 : ¬ a < 0 ∧ ¬ 99 < a
        · rw [bo_t c3, if_neg one0, bo_f (fun z => c2 ⟨c3, z⟩), if_neg (fun z => z rfl)]
        · rw [bo_f c3, if_pos rfl]
      · unfold f_X11_answer b_X11_answer_30
        rw [y_in, bo_t c1, bd_some, if_pos one0, y_areWords, bo_f c2, bd_some, if_pos rfl, dX_eq, if_neg (show ¬ (thr Y 2) 0 0 ≤ 0 from (by decide : ¬ (2 : Int32) ≤ 0))]
  · refine ⟨some 1, 0, X, 0, thr Y 1, ?_, ?_, rfl, (fun q => by cases q), h0 1⟩
    · unfold f_X10_answer
      rw [x_isPerson, bo_f c1, bd_some, if_neg (fun z => z rfl)]
    · unfold f_X11_answer f_X11_fails
      rw [y_in, bo_f c1, bd_some, if_neg (fun z => z rfl), dX_eq]
      rfl

/-! ===== a work: the first act that is not put off, and an act that is taken ===== -/
def rdy (Y : JX) (j : Nat) : Bool := decide (Y 27 j = 0)
theorem y_act_loop {Y : JX} : ∀ j F acc, j ≤ 60 → j + 1 ≤ F → loop2 (lb_X11_firstAct_9 Y) F acc (nI j - 1) = some (match fst (rdy Y) j 0 with | some r => nI r | none => acc) := by
  intro j
  induction j with
  | zero =>
    intro F acc hj hF
    obtain ⟨F', rfl⟩ := Nat.exists_eq_add_of_le' hF
    rw [zl2]
    generalize hR9 : loop2 _ F' = R9
    unfold lb_X11_firstAct_9
    rw [if_pos m1_lt]
    rfl
  | succ j ih =>
    intro F acc hj hF
    obtain ⟨F', rfl⟩ := Nat.exists_eq_add_of_le' (show 1 ≤ F by omega)
    rw [zl2]
    have h9 := fun acc => ih F' acc (by omega) (by omega)
    generalize hR9 : loop2 _ F' = R9 at h9
    unfold lb_X11_firstAct_9 b_X11_firstAct_27
    rw [nI_pred, if_neg (nI_pos (show j < 2 ^ 31 by omega)), if_pos (n_ok60 (by omega)), nI_clamp (show j < 2 ^ 31 by omega), dV_eq, dV_eq, nn_m1, h9, h9, fst_snoc, Nat.zero_add]
    by_cases e : Y 27 j = 0
    · rw [if_pos e]
      have : rdy Y j = true := by simp [rdy, e]
      cases fst (rdy Y) j 0 <;> simp [this]
    · rw [if_neg e]
      have : rdy Y j = false := by simp [rdy, e]
      cases fst (rdy Y) j 0 <;> simp [this]
theorem y_act {Y : JX} {A : Nat} (hK : KY Y A) : f_X11_firstAct Y = some (enc (fst (rdy Y) A 0)) := by
  have := hK.1.1
  unfold f_X11_firstAct l_X11_firstAct_9
  rw [dV_eq, dV_eq, hK.1.2, y_act_loop A 1000 (-1) (by omega) (by omega)]
  cases fst (rdy Y) A 0 <;> rfl
theorem x_ready_loop {X Y : JX} {A : Nat} (hK : KY Y A) (hX : KX X Y A) : ∀ m i F, i + m = A → m + 1 ≤ F → loop1 (lb_X0_firstReady_2 X) F (nI i) = some (match fst (rdy Y) m i with | some j => Y 25 j | none => -1) := by
  have hA := hK.1.1
  intro m
  induction m with
  | zero =>
    intro i F hi hF
    obtain ⟨F', rfl⟩ := Nat.exists_eq_add_of_le' hF
    rw [zl1]
    generalize hR9 : loop1 _ F' = R9
    unfold lb_X0_firstReady_2
    rw [if_pos (show X 45 3 ≤ nI i by rw [hX.1]; exact nI_le (by omega) (by omega))]
    rfl
  | succ m ih =>
    intro i F hi hF
    obtain ⟨F', rfl⟩ := Nat.exists_eq_add_of_le' (show 1 ≤ F by omega)
    rw [zl1]
    have h9 := ih (i + 1) F' (by omega) (by omega)
    generalize hR9 : loop1 _ F' = R9 at h9
    obtain ⟨b1, b2, b3⟩ := hX.2.1 i (by omega)
    obtain ⟨⟨n, hn, en⟩, -⟩ := hK.2.1 i (by omega)
    rw [en, nI_clamp (sm hn)] at b3
    unfold lb_X0_firstReady_2 b_X0_firstReady_44
    rw [if_neg (show ¬ X 45 3 ≤ nI i by rw [hX.1]; exact nI_ge (by omega) (by omega)), if_neg (nl60 (by omega)), if_pos (n_ok60 (by omega)), nI_clamp (show i < 2 ^ 31 by omega), b1, en, dV_eq, dV_eq, if_neg (nI_pos (sm hn)), if_neg (nl60 hn), if_pos (n_ok60 hn), nI_clamp (sm hn), b3, n_add1, h9, fst_s]
    by_cases e : Y 27 i = 0
    · rw [if_neg (fun z => z e), if_pos (show rdy Y i = true by simp [rdy, e])]
      exact congrArg some en.symm
    · rw [if_pos e, if_neg (show ¬ rdy Y i = true by simp [rdy, e])]
theorem x_ready {X Y : JX} {A : Nat} (hK : KY Y A) (hX : KX X Y A) : f_X0_firstReady X = some (match fst (rdy Y) A 0 with | some j => Y 25 j | none => -1) := by
  have := hK.1.1
  exact x_ready_loop hK hX A 0 1000 (Nat.zero_add _) (by omega)
theorem x_taken_loop {X Y : JX} {A t n : Nat} (hK : KY Y A) (hX : KX X Y A) (ht : t < A) (en : Y 25 t = nI n) : ∀ m i c F (X1 : JX), i + m = A → m + 1 ≤ F → (c = if i ≤ t then i else i - 1) → (∀ q, q ≠ 46 → q ≠ 47 → X1 q = X q) → (∀ j, X1 46 j = if j < c then X 46 (tu t j) else X 46 j) → ∃ X', loop3 (lb_X0_takeAway_20 (nI n)) F X1 (nI c) (nI i) = some X' ∧ (∀ q, q ≠ 45 → q ≠ 46 → X' q = X1 q) ∧ X' 45 3 = nI (A - 1) ∧ ∀ j, j < A - 1 → X' 46 j = X 46 (tu t j) := by
  have hA := hK.1.1
  intro m
  induction m with
  | zero =>
    intro i c F X1 hi hF hc ho h46
    obtain ⟨F', rfl⟩ := Nat.exists_eq_add_of_le' hF
    have hcA : c = A - 1 := by rw [hc, if_neg (by omega)]; omega
    refine ⟨pX X1 45 (upd (X1 45) 3 (nI c)), ?_, fun q h1 _ => if_neg h1, ?_, fun j hj => ?_⟩
    · rw [zl3]
      generalize hR9 : loop3 _ F' = R9
      unfold lb_X0_takeAway_20
      rw [ho 45 (by omega) (by omega), hX.1, if_pos (show nI A ≤ nI i from nI_le (by omega) (by omega)), dX_eq]
    · show upd (X1 45) 3 (nI c) 3 = _
      rw [u_at, if_pos rfl, hcA]
    · show X1 46 j = _
      rw [h46, if_pos (by omega)]
  | succ m ih =>
    intro i c F X1 hi hF hc ho h46
    obtain ⟨F', rfl⟩ := Nat.exists_eq_add_of_le' (show 1 ≤ F by omega)
    have hci : c ≤ i := by rw [hc]; split <;> omega
    have h46i : X1 46 i = Y 25 i := by rw [h46, if_neg (by omega)]; exact (hX.2.1 i (by omega)).1
    have ok := n_ok60 (show i < 60 by omega)
    have cl := nI_clamp (show i < 2 ^ 31 by omega)
    rw [zl3]
    by_cases e : i = t
    · obtain ⟨X', a, b⟩ := ih (i + 1) c F' X1 (by omega) (by omega) (by rw [hc, if_pos (by omega), if_neg (by omega)]; omega) ho h46
      generalize hR9 : loop3 _ F' = R9 at a
      refine ⟨X', ?_, b⟩
      unfold lb_X0_takeAway_20 b_X0_takeAway_65
      rw [ho 45 (by omega) (by omega), hX.1, if_neg (show ¬ nI A ≤ nI i from nI_ge (by omega) (by omega)), if_neg (nl60 (by omega)), if_pos ok, cl, h46i, if_pos (by rw [e]; exact en), dV_eq, n_add1]
      exact a
    · have hne : ¬ Y 25 i = nI n := fun z => e (hK.2.2 i t (by omega) ht (z.trans en.symm))
      let X2 : JX := pX X1 46 (upd (X1 46) c (Y 25 i))
      obtain ⟨X', a, b⟩ := ih (i + 1) (c + 1) F' X2 (by omega) (by omega) (by
        rw [hc]
        by_cases q : i ≤ t
        · rw [if_pos q, if_pos (by omega)]
        · rw [if_neg q, if_neg (by omega)]; omega) (fun q h1 h2 => (if_neg h1).trans (ho q h1 h2)) (fun j => by
        show upd (X1 46) c (Y 25 i) j = _
        rw [u_at]
        by_cases q : j = c
        · have et : tu t j = i := by
            unfold tu
            by_cases q3 : i ≤ t
            · rw [if_pos q3] at hc; rw [if_pos (by omega)]; omega
            · rw [if_neg q3] at hc; rw [if_neg (by omega)]; omega
          rw [if_pos q, if_pos (by omega), et]
          exact (hX.2.1 i (by omega)).1.symm
        · rw [if_neg q, h46]
          by_cases q2 : j < c
          · rw [if_pos q2, if_pos (by omega)]
          · rw [if_neg q2, if_neg (by omega)])
      generalize hR9 : loop3 _ F' = R9 at a
      refine ⟨X', ?_, fun q h1 h2 => (b.1 q h1 h2).trans (if_neg h2), b.2⟩
      unfold lb_X0_takeAway_20 b_X0_takeAway_65
      rw [ho 45 (by omega) (by omega), hX.1, if_neg (show ¬ nI A ≤ nI i from nI_ge (by omega) (by omega)), if_neg (nl60 (by omega)), if_pos ok, cl, h46i, if_neg hne, if_neg (nl60 (show c < 60 by omega)), if_pos ok, if_pos (n_ok60 (show c < 60 by omega)), nI_clamp (show c < 2 ^ 31 by omega), dX_eq, dV_eq, dV_eq, n_add1, n_add1]
      exact a
theorem y_taken_loop2 {A : Nat} (hA : A ≤ 60) : ∀ m i F (Y : JX), i + m = A - 1 → m + 1 ≤ F → Y 0 30 = nI (A - 1) → (∀ s, i < s → s < A → Y 27 s = 0 ∨ Y 27 s = 1) → ∃ Y', loop2 lb_X11_takesAct_12 F Y (nI i) = some Y' ∧ (∀ c, c ≠ 25 → c ≠ 26 → c ≠ 27 → Y' c = Y c) ∧ Y' 25 = sh 1 i (A - 1) (Y 25) ∧ Y' 26 = sh 1 i (A - 1) (Y 26) ∧ Y' 27 = sh 1 i (A - 1) (Y 27) := by
  intro m
  induction m with
  | zero =>
    intro i F Y hi hF h30 hb
    obtain ⟨F', rfl⟩ := Nat.exists_eq_add_of_le' hF
    have : i = A - 1 := by omega
    subst this
    refine ⟨Y, ?_, fun _ _ _ _ => rfl, ?_, ?_, ?_⟩
    · rw [zl2]
      generalize hR9 : loop2 _ F' = R9
      unfold lb_X11_takesAct_12
      rw [h30, if_pos (Int32.le_refl _)]
    all_goals rw [sh_nil _ _ _ _ (Nat.le_refl _)]
  | succ m ih =>
    intro i F Y hi hF h30 hb
    obtain ⟨F', rfl⟩ := Nat.exists_eq_add_of_le' (show 1 ≤ F by omega)
    have s1 : ∀ f : Nat → Int32, upd f i (f (i + 1)) = sh 1 i (i + 1) f := by
      intro f
      funext q
      unfold sh
      rw [u_at]
      by_cases c : q = i
      · rw [if_pos c, if_pos (by omega), c]
      · rw [if_neg c, if_neg (by omega)]
    let Y1 : JX := pX (pX (pX Y 25 (upd (Y 25) i (Y 25 (i + 1)))) 26 (upd (Y 26) i (Y 26 (i + 1)))) 27 (upd (Y 27) i (Y 27 (i + 1)))
    obtain ⟨Y', a, b, c25, c26, c27⟩ := ih (i + 1) F' Y1 (by omega) (by omega) h30 (fun s h1 h2 => by
      show upd (Y 27) i (Y 27 (i + 1)) s = 0 ∨ upd (Y 27) i (Y 27 (i + 1)) s = 1
      rw [u_at, if_neg (by omega)]
      exact hb s (by omega) h2)
    have hlt : i < A - 1 := by omega
    refine ⟨Y', ?_, fun c h1 h2 h3 => (b c h1 h2 h3).trans ((if_neg h3).trans ((if_neg h2).trans (if_neg h1))), ?_, ?_, ?_⟩
    · rw [zl2]
      generalize hR9 : loop2 _ F' = R9 at a
      have ok := n_ok60 (show i < 60 by omega)
      have ok1 := n_ok60 (show i + 1 < 60 by omega)
      unfold lb_X11_takesAct_12
      rw [h30, if_neg (show ¬ nI (A - 1) ≤ nI i from nI_ge hlt (by omega)), n_add1, if_pos ok1, if_pos ok, dX_eq, if_pos ok1, if_pos ok, dX_eq, if_pos ok1, if_pos ok, dX_eq, dV_eq, nI_clamp (show i < 2 ^ 31 by omega), nI_clamp (show i + 1 < 2 ^ 31 by omega)]
      show R9 (pX (pX (pX Y 25 (upd (Y 25) i (Y 25 (i + 1)))) 26 (upd (Y 26) i (Y 26 (i + 1)))) 27 (upd (Y 27) i (vp_nar .boolean (Y 27 (i + 1))))) (nI (i + 1)) = _
      rw [nar01 (hb (i + 1) (by omega) (by omega))]
      exact a
    · rw [c25, show Y1 25 = sh 1 i (i + 1) (Y 25) from s1 (Y 25), sh_cons _ _ _ _ hlt]
    · rw [c26, show Y1 26 = sh 1 i (i + 1) (Y 26) from s1 (Y 26), sh_cons _ _ _ _ hlt]
    · rw [c27, show Y1 27 = sh 1 i (i + 1) (Y 27) from s1 (Y 27), sh_cons _ _ _ _ hlt]
theorem tu_all {t j A : Nat} (ht : t < A) (hj : j < A) (hne : j ≠ t) : ∃ i, i < A - 1 ∧ tu t i = j := by
  by_cases q : j < t
  · exact ⟨j, by omega, by unfold tu; rw [if_pos q]⟩
  · exact ⟨j - 1, by omega, by unfold tu; rw [if_neg (by omega)]; omega⟩
/-- both sides take an act -/
theorem c_takeAct {X Y : JX} {A t n : Nat} (hK : KY Y A) (hX : KX X Y A) (ht : t < A) (hn : n < 60) (en : Y 25 t = nI n) (h27 : Y 27 t = 0) : ∃ X' Y', f_X0_takeAway X (nI n) = some X' ∧ f_X11_takesAct Y (nI t) = some Y' ∧ KY Y' (A - 1) ∧ KX X' Y' (A - 1) ∧ frX X' X ∧ frY Y' Y ∧ ∀ j, j < A - 1 → Y' 25 j ≠ nI n := by
  have hA := hK.1.1
  obtain ⟨b1, b2, b3⟩ := hX.2.1 t ht
  rw [en, nI_clamp (sm hn)] at b2 b3
  have hk0 : ¬ X 47 n = 0 := by
    rw [b2]
    rcases (hK.2.1 t ht).2.1 with z | z <;> rw [z] <;> decide
  let X1 : JX := pX X 47 (upd (X 47) n 0)
  obtain ⟨X', x1, x2, x3, x4⟩ := x_taken_loop hK hX ht en A 0 0 1000 X1 (Nat.zero_add _) (by omega) (by rw [if_pos (Nat.zero_le _)]) (fun q _ h => if_neg h) (fun j => by rw [if_neg (Nat.not_lt_zero j)]; rfl)
  let Y1 : JX := pX Y 0 (upd (Y 0) 30 (nI (A - 1)))
  obtain ⟨Y', y1, y2, y25, y26, y27⟩ := y_taken_loop2 hA (A - 1 - t) t 1000 Y1 (by omega) (by omega) rfl (fun s _ hs => (hK.2.1 s hs).2.2)
  have e25 : ∀ j, j < A - 1 → Y' 25 j = Y 25 (tu t j) := fun j hj => by rw [y25]; exact sh_1 hj
  have e26 : ∀ j, j < A - 1 → Y' 26 j = Y 26 (tu t j) := fun j hj => by rw [y26]; exact sh_1 hj
  have e27 : ∀ j, j < A - 1 → Y' 27 j = Y 27 (tu t j) := fun j hj => by rw [y27]; exact sh_1 hj
  have x47 : X' 47 = upd (X 47) n 0 := (x2 47 (by omega) (by omega)).trans (if_pos rfl)
  have x48 : X' 48 = X 48 := (x2 48 (by omega) (by omega)).trans (if_neg (by omega))
  have y030 : Y' 0 = upd (Y 0) 30 (nI (A - 1)) := (y2 0 (by omega) (by omega) (by omega)).trans rfl
  have hoff : ∀ j, j < A - 1 → Y' 25 j ≠ nI n := fun j hj z => by
    rw [e25 j hj] at z
    exact tu_ne (hK.2.2 _ t (tu_lt ht hj) ht (z.trans en.symm))
  refine ⟨X', Y', ?_, ?_, ⟨⟨by omega, by rw [y030]; rfl⟩, fun j hj => ?_, fun j k hj hk e => ?_⟩, ⟨x3, fun j hj => ?_, fun m hm hno => ?_⟩, fun q h1 h2 h3 => (x2 q h1 h2).trans (if_neg h3), ⟨fun q h0 h1 h2 h3 => (y2 q h1 h2 h3).trans (if_neg h0), fun j hj => by rw [y030]; exact (u_at _ _ _ _).trans (if_neg hj)⟩, hoff⟩
  · unfold f_X0_takeAway f_X0_kindOf
    rw [if_neg (nI_pos (sm hn)), if_neg (nl60 hn), if_pos (n_ok60 hn), nI_clamp (sm hn), bd_some, if_pos hk0, if_pos (n_ok60 hn), dX_eq]
    exact x1
  · unfold f_X11_takesAct
    rw [hK.1.2, n_sub1 (by omega), dX_eq]
    exact y1
  · rw [e25 j hj, e26 j hj, e27 j hj]
    exact hK.2.1 _ (tu_lt ht hj)
  · rw [e25 j hj, e25 k hk] at e
    exact tu_inj (hK.2.2 _ _ (tu_lt ht hj) (tu_lt ht hk) e)
  · obtain ⟨c1, c2, c3⟩ := hX.2.1 _ (tu_lt ht hj)
    obtain ⟨⟨m, hm, em⟩, -⟩ := hK.2.1 _ (tu_lt ht hj)
    rw [x4 j hj, e25 j hj, e26 j hj, e27 j hj, x47, x48, u_at]
    rw [em, nI_clamp (sm hm)] at c2 c3 ⊢
    rw [if_neg (fun z => hoff j hj (by rw [e25 j hj, em, z]))]
    exact ⟨by rw [c1, em], c2, c3⟩
  · rw [x47, x48, u_at]
    by_cases q : m = n
    · rw [if_pos q, q, b3, h27]; exact ⟨rfl, rfl⟩
    · rw [if_neg q]
      refine hX.2.2 m hm (fun j hj z => ?_)
      by_cases q2 : j = t
      · rw [q2, en] at z
        exact q ((nI_eq (sm hn) (sm hm)).mp z).symm
      · obtain ⟨i, hi, ei⟩ := tu_all ht hj q2
        exact hno i hi (by rw [e25 i hi, ei]; exact z)
/-- a locked file's act goes to the end, and is put off -/
theorem c_putOff {X Y : JX} {A t n : Nat} (hK : KY Y A) (hX : KX X Y A) (ht : t < A) (hn : n < 60) (en : Y 25 t = nI n) (h27 : Y 27 t = 0) : ∃ X' Y1 Y2 Y', f_X0_putOff X (nI n) = some X' ∧ f_X11_takesAct Y (nI t) = some Y1 ∧ frY Y1 Y ∧ f_X11_adds Y1 (nI n) 1 = some Y2 ∧ Y2 0 30 = nI A ∧ Y' = pX Y2 27 (upd (Y2 27) (A - 1) 1) ∧ KY Y' A ∧ KX X' Y' A ∧ (∀ q, q ≠ 45 → q ≠ 46 → q ≠ 47 → q ≠ 48 → X' q = X q) ∧ frY Y' Y := by
  have hA := hK.1.1
  obtain ⟨X1, Y1, x1, y1, k1, k2, f1, f2, hoff⟩ := c_takeAct hK hX ht hn en h27
  have hA1 : A - 1 < 60 := by omega
  have x2 := x_add_new (k := 1) k1 k2 hn hoff
  have y2 := y_adds_new (k := 1) k1 hA1 hoff
  have eA : A - 1 + 1 = A := by omega
  rw [eA] at x2 y2
  let X2 : JX := pX (pX (pX X1 46 (upd (X1 46) (A - 1) (nI n))) 45 (upd (X1 45) 3 (nI A))) 47 (upd (X1 47) n 1)
  let Y2 : JX := pX (pX (pX (pX Y1 25 (upd (Y1 25) (A - 1) (nI n))) 27 (upd (Y1 27) (A - 1) 0)) 0 (upd (Y1 0) 30 (nI A))) 26 (upd (Y1 26) (A - 1) 1)
  refine ⟨pX X2 48 (upd (X2 48) n 1), Y1, Y2, _, ?_, y1, f2, y2, rfl, rfl, ⟨⟨hA, rfl⟩, fun a ha => ⟨?_, ?_, ?_⟩, fun a b ha hb => ?_⟩, ⟨rfl, fun a ha => ?_, fun m hm hno2 => ?_⟩, fun q h1 h2 h3 h4 => (if_neg h4).trans ((if_neg h3).trans ((if_neg h1).trans ((if_neg h2).trans (f1 q h1 h2 h3)))), ⟨fun q h0 h1 h2 h3 => (if_neg h3).trans ((if_neg h2).trans ((if_neg h0).trans ((if_neg h3).trans ((if_neg h1).trans (f2.1 q h0 h1 h2 h3))))), fun j hj => (show upd (Y1 0) 30 (nI A) j = Y1 0 j from (u_at _ _ _ _).trans (if_neg hj)).trans (f2.2 j hj)⟩⟩
  · unfold f_X0_putOff
    rw [x1, bd_some, x2, bd_some, if_neg (nI_pos (sm hn)), if_neg (nl60 hn), if_pos (n_ok60 hn), nI_clamp (sm hn), dX_eq]
    rfl
  · show ∃ m, m < 60 ∧ upd (Y1 25) (A - 1) (nI n) a = nI m
    rw [u_at]
    by_cases q : a = A - 1
    · rw [if_pos q]; exact ⟨n, hn, rfl⟩
    · rw [if_neg q]; exact (k1.2.1 a (by omega)).1
  · show upd (Y1 26) (A - 1) 1 a = 1 ∨ upd (Y1 26) (A - 1) 1 a = 2
    rw [u_at]
    by_cases q : a = A - 1
    · rw [if_pos q]; exact Or.inl rfl
    · rw [if_neg q]; exact (k1.2.1 a (by omega)).2.1
  · show upd (upd (Y1 27) (A - 1) 0) (A - 1) 1 a = 0 ∨ upd (upd (Y1 27) (A - 1) 0) (A - 1) 1 a = 1
    rw [u_at, u_at]
    by_cases q : a = A - 1
    · rw [if_pos q]; exact Or.inr rfl
    · rw [if_neg q, if_neg q]; exact (k1.2.1 a (by omega)).2.2
  · show upd (Y1 25) (A - 1) (nI n) a = upd (Y1 25) (A - 1) (nI n) b → a = b
    rw [u_at, u_at]
    by_cases q : a = A - 1
    · rw [if_pos q]
      by_cases q2 : b = A - 1
      · rw [if_pos q2]; exact fun _ => by omega
      · rw [if_neg q2]; exact fun z => absurd z.symm (hoff b (by omega))
    · rw [if_neg q]
      by_cases q2 : b = A - 1
      · rw [if_pos q2]; exact fun z => absurd z (hoff a (by omega))
      · rw [if_neg q2]; exact k1.2.2 a b (by omega) (by omega)
  · show upd (X1 46) (A - 1) (nI n) a = upd (Y1 25) (A - 1) (nI n) a ∧ upd (X1 47) n 1 (upd (Y1 25) (A - 1) (nI n) a).toNatClampNeg = upd (Y1 26) (A - 1) 1 a ∧ upd (X1 48) n 1 (upd (Y1 25) (A - 1) (nI n) a).toNatClampNeg = upd (upd (Y1 27) (A - 1) 0) (A - 1) 1 a
    rw [u_at, u_at, u_at, u_at, u_at, u_at, u_at]
    by_cases q : a = A - 1
    · rw [if_pos q, if_pos q, if_pos q, if_pos q, nI_clamp (sm hn), if_pos rfl, if_pos rfl]
      exact ⟨rfl, rfl, rfl⟩
    · rw [if_neg q, if_neg q, if_neg q, if_neg q, if_neg q]
      obtain ⟨⟨b, hb, eb⟩, -⟩ := k1.2.1 a (by omega)
      have hbn : ¬ (Y1 25 a).toNatClampNeg = n := fun z => hoff a (by omega) (by rw [eb, nI_clamp (sm hb)] at z; rw [eb, z])
      rw [if_neg hbn, if_neg hbn]
      exact k2.2.1 a (by omega)
  · have hm2 : ∀ j, j < A - 1 → Y1 25 j ≠ nI m := fun j hj e => hno2 j (by omega) (by
      show upd (Y1 25) (A - 1) (nI n) j = nI m
      rw [u_at, if_neg (by omega)]; exact e)
    have hmn : m ≠ n := fun e => hno2 (A - 1) (by omega) (by
      show upd (Y1 25) (A - 1) (nI n) (A - 1) = nI m
      rw [u_at, if_pos rfl, e])
    obtain ⟨c1, c2⟩ := k2.2.2 m hm hm2
    refine ⟨?_, ?_⟩
    · show upd (X1 47) n 1 m = 0
      rw [u_at, if_neg hmn]; exact c1
    · show upd (X1 48) n 1 m = 0
      rw [u_at, if_neg hmn]; exact c2

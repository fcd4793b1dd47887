/-! ===== a work: a crawl goes on ===== -/
theorem x_wf_loop {q w : Nat} {v : Int32} (hw : w ≤ 60) : ∀ m i F (X : JX), i + m = w → 1 ≤ i → m + 1 ≤ F → X q 3 = nI w → ∃ X', loop2 (lb_X1_takeFirst_19 q v) F X (nI i) = b_X1_takeFirst_53 X' q v ∧ (∀ c, c ≠ q + 1 → X' c = X c) ∧ ∀ j, X' (q + 1) j = if i ≤ j + 1 ∧ j + 1 < w then X (q + 1) (j + 1) else X (q + 1) j := by
  intro m
  induction m with
  | zero =>
    intro i F X hi h1 hF h3
    obtain ⟨F', rfl⟩ := Nat.exists_eq_add_of_le' hF
    refine ⟨X, ?_, fun _ _ => rfl, fun j => by rw [if_neg (by omega)]⟩
    rw [zl2]
    generalize hR9 : loop2 _ F' = R9
    unfold lb_X1_takeFirst_19
    rw [h3, if_pos (show nI w ≤ nI i from nI_le (by omega) (by omega))]
  | succ m ih =>
    intro i F X hi h1 hF h3
    obtain ⟨F', rfl⟩ := Nat.exists_eq_add_of_le' (show 1 ≤ F by omega)
    let X1 : JX := pX X (q + 1) (upd (X (q + 1)) (i - 1) (X (q + 1) i))
    have o : ∀ c, c ≠ q + 1 → X1 c = X c := fun c a => if_neg a
    have o1 : X1 (q + 1) = upd (X (q + 1)) (i - 1) (X (q + 1) i) := if_pos rfl
    obtain ⟨X', a, b, d⟩ := ih (i + 1) F' X1 (by omega) (by omega) (by omega) (by rw [o q (by omega)]; exact h3)
    refine ⟨X', ?_, fun c9 a9 => (b c9 a9).trans (o c9 a9), fun j => ?_⟩
    · rw [zl2]
      generalize hR9 : loop2 _ F' = R9 at a
      have ok := n_ok60 (show i < 60 by omega)
      have ok1 := n_ok60 (show i - 1 < 60 by omega)
      unfold lb_X1_takeFirst_19
      rw [h3, if_neg (show ¬ nI w ≤ nI i from nI_ge (by omega) (by omega)), if_neg (nl60 (by omega)), if_pos ok, n_sub1 (show 0 < i by omega), if_pos ok1, dX_eq, dV_eq, n_add1, nI_clamp (show i < 2 ^ 31 by omega), nI_clamp (show i - 1 < 2 ^ 31 by omega)]
      exact a
    · rw [d j, o1, u_at, u_at]
      by_cases z : j + 1 = i
      · rw [if_neg (show ¬ (i + 1 ≤ j + 1 ∧ j + 1 < w) by omega), if_pos (show j = i - 1 by omega), if_pos (show i ≤ j + 1 ∧ j + 1 < w by omega), z]
      · by_cases z2 : i + 1 ≤ j + 1 ∧ j + 1 < w
        · rw [if_pos z2, if_neg (show ¬ j + 1 = i - 1 by omega), if_pos (show i ≤ j + 1 ∧ j + 1 < w by omega)]
        · rw [if_neg z2, if_neg (show ¬ j = i - 1 by omega), if_neg (show ¬ (i ≤ j + 1 ∧ j + 1 < w) by omega)]
theorem x_wtake {X : JX} {q f w : Nat} (hw1 : 1 ≤ w) (hw : w ≤ 60) (h3 : X q 3 = nI w) (h0 : X (q + 1) 0 = nI f) (hf : f < 60) : ∃ X', f_X1_takeFirst X q = some (nI f, X') ∧ X' q = upd (X q) 3 (nI (w - 1)) ∧ (∀ j, j + 1 < w → X' (q + 1) j = X (q + 1) (j + 1)) ∧ X' (q + 2) = upd (X (q + 2)) f 0 ∧ ∀ k, k ≠ q → k ≠ q + 1 → k ≠ q + 2 → X' k = X k := by
  obtain ⟨X1, a, b, c⟩ := x_wf_loop (q := q) (v := nI f) hw (w - 1) 1 1000 X (by omega) (by omega) (by omega) h3
  refine ⟨pX (pX X1 q (upd (X1 q) 3 (nI (w - 1)))) (q + 2) (upd (X1 (q + 2)) f 0), ?_, ?_, fun j hj => ?_, ?_, fun k h1 h2 h4 => (if_neg h4).trans ((if_neg h1).trans (b k h2))⟩
  · have hne : (pX X1 q (upd (X1 q) 3 (nI (w - 1)))) (q + 2) = X1 (q + 2) := if_neg (by omega)
    unfold f_X1_takeFirst
    rw [h3, if_pos (show (1 : Int32) ≤ nI w from nI_le (a := 1) hw1 (by omega)), if_pos (show okI (0 : Int32) 60 = true by decide), show (0 : Int32).toNatClampNeg = 0 from rfl, h0, dV_eq]
    show loop2 (lb_X1_takeFirst_19 q (nI f)) 1000 X (nI 1) = _
    rw [a]
    unfold b_X1_takeFirst_53
    rw [b q (by omega), h3, n_sub1 (by omega), dX_eq, if_neg (nI_pos (sm hf)), if_neg (nl60 hf), if_pos (n_ok60 hf), nI_clamp (sm hf), dX_eq]
    show some (nI f, pX (pX X1 q (upd (X q) 3 (nI (w - 1)))) (q + 2) (upd ((pX X1 q (upd (X q) 3 (nI (w - 1)))) (q + 2)) f 0)) = _
    rw [show (pX X1 q (upd (X q) 3 (nI (w - 1)))) (q + 2) = X1 (q + 2) from if_neg (by omega)]
  · rw [p_at, if_neg (by omega), p_at, if_pos rfl, b q (by omega)]
  · rw [p_at, if_neg (by omega), p_at, if_neg (by omega), c j, if_pos (by omega)]
  · rw [p_at, if_pos rfl, b (q + 2) (by omega)]
def gEnd (Y : JX) (r f : Nat) : Option JX := if Y 1 f = 0 then b_X11_goesOn_201 Y (nI r) else if nI f = Y 10 r then b_X11_goesOn_95 Y (nI r) (nI f) else (f_X11_isBelow Y (nI f) (Y 10 r)).bind fun t3 => if t3 = 0 then b_X11_goesOn_201 Y (nI r) else b_X11_goesOn_95 Y (nI r) (nI f)
theorem y_wf_loop {r f w : Nat} (hr : r < 3) (hf : f < 60) (hw : w < 60) : ∀ m i F (Y : JX), i + m = w → m + 1 ≤ F → Y 16 r = nI w → ∃ Y', loop2 (lb_X11_goesOn_22 (nI r) (nI f)) F Y (nI i) = gEnd Y' r f ∧ (∀ c, c ≠ 17 → Y' c = Y c) ∧ ∀ q, Y' 17 q = if 60 * r + i ≤ q ∧ q < 60 * r + w then Y 17 (q + 1) else Y 17 q := by
  have ok4 := n_ok4 (show r < 4 by omega)
  have clr := nI_clamp (show r < 2 ^ 31 by omega)
  intro m
  induction m with
  | zero =>
    intro i F Y hi hF h16
    obtain ⟨F', rfl⟩ := Nat.exists_eq_add_of_le' hF
    refine ⟨Y, ?_, fun _ _ => rfl, fun q => by rw [if_neg (by omega)]⟩
    rw [zl2]
    generalize hR9 : loop2 _ F' = R9
    unfold lb_X11_goesOn_22 gEnd
    rw [if_pos ok4, clr, h16, if_pos (show nI w ≤ nI i from nI_le (by omega) (by omega)), if_pos (n_ok60 hf), nI_clamp (sm hf), if_pos ok4, if_pos ok4]
  | succ m ih =>
    intro i F Y hi hF h16
    obtain ⟨F', rfl⟩ := Nat.exists_eq_add_of_le' (show 1 ≤ F by omega)
    let Y1 : JX := pX Y 17 (upd (Y 17) (60 * r + i) (Y 17 (60 * r + i + 1)))
    have h17 : ∀ q, Y1 17 q = if q = 60 * r + i then Y 17 (60 * r + i + 1) else Y 17 q := fun q => rfl
    obtain ⟨Y', a, b, c⟩ := ih (i + 1) F' Y1 (by omega) (by omega) h16
    refine ⟨Y', ?_, fun c9 hc => (b c9 hc).trans (if_neg hc), fun q => ?_⟩
    · rw [zl2]
      generalize hR9 : loop2 _ F' = R9 at a
      unfold lb_X11_goesOn_22
      rw [if_pos ok4, clr, h16, if_neg (show ¬ nI w ≤ nI i from nI_ge (by omega) (by omega)), n_60, n_add1, if_pos (n_ok (show 60 * r + i + 1 < 240 by omega) (by decide)), if_pos (n_ok (show 60 * r + i < 240 by omega) (by decide)), dX_eq, dV_eq, n_add1, nI_clamp (show 60 * r + i + 1 < 2 ^ 31 by omega), nI_clamp (show 60 * r + i < 2 ^ 31 by omega)]
      exact a
    · rw [c q, h17, h17]
      by_cases z : q = 60 * r + i
      · rw [if_neg (show ¬ (60 * r + (i + 1) ≤ q ∧ q < 60 * r + w) by omega), if_pos z, if_pos (show 60 * r + i ≤ q ∧ q < 60 * r + w by omega), z]
      · rw [if_neg z]
        by_cases z2 : 60 * r + (i + 1) ≤ q ∧ q < 60 * r + w
        · rw [if_pos z2, if_neg (show ¬ q + 1 = 60 * r + i by omega), if_pos (show 60 * r + i ≤ q ∧ q < 60 * r + w by omega)]
        · rw [if_neg z2, if_neg (show ¬ (60 * r + i ≤ q ∧ q < 60 * r + w) by omega)]
/-- w folders wait -/
def CW (X Y : JX) (p r w : Nat) : Prop := (w ≤ 60 ∧ Y 16 r = nI w ∧ X (p + 3) 3 = nI w) ∧ (∀ j, j < w → X (p + 4) j = Y 17 (60 * r + j) ∧ ∃ n, n < 60 ∧ Y 17 (60 * r + j) = nI n) ∧ (∀ j k, j < w → k < w → Y 17 (60 * r + j) = Y 17 (60 * r + k) → j = k) ∧ (∀ n, n < 60 → (X (p + 5) n ≠ 0 ↔ ∃ j, j < w ∧ Y 17 (60 * r + j) = nI n)) ∧ ∀ n, n < 60 → X (p + 6) n = Y 18 (60 * r + n) ∧ (Y 18 (60 * r + n) = 0 ∨ Y 18 (60 * r + n) = 1)
theorem CQ.cw {X Y : JX} {p r : Nat} (h : CQ X Y p r) : ∃ w, CW X Y p r w ∧ X (p + 3) 4 = Y 15 r ∧ (Y 15 r = 0 ∨ Y 15 r = 1 ∧ 1 ≤ w) := by
  obtain ⟨a, b, ⟨w, w60, e, f, g, d, k⟩, m⟩ := h
  exact ⟨w, ⟨⟨w60, e, b.trans e⟩, g, d, k, m⟩, a, f⟩
theorem CW.cq {X Y : JX} {p r w : Nat} (h : CW X Y p r w) (h4 : X (p + 3) 4 = Y 15 r) (hf : Y 15 r = 0 ∨ Y 15 r = 1 ∧ 1 ≤ w) : CQ X Y p r := by
  obtain ⟨⟨w60, e, b⟩, g, d, k, m⟩ := h
  exact ⟨h4, b.trans e.symm, ⟨w, w60, e, hf, g, d, k⟩, m⟩
theorem CW.fr {X Y X' Y' : JX} {p r w : Nat} (h : CW X Y p r w) (x3 : X' (p + 3) 3 = X (p + 3) 3) (x4 : X' (p + 4) = X (p + 4)) (x5 : X' (p + 5) = X (p + 5)) (x6 : X' (p + 6) = X (p + 6)) (y16 : Y' 16 = Y 16) (y17 : Y' 17 = Y 17) (y18 : Y' 18 = Y 18) : CW X' Y' p r w := by
  unfold CW
  rw [x3, x4, x5, x6, y16, y17, y18]
  exact h
/-- the first that waits is taken -/
theorem CW.take {X Y : JX} {p r w f : Nat} (h : CW X Y p r w) (hr : r < 3) (hw : 1 ≤ w) (hf : f < 60) (e0 : Y 17 (60 * r) = nI f) {X' Y' : JX} (x3 : X' (p + 3) = upd (X (p + 3)) 3 (nI (w - 1))) (x4 : ∀ j, j + 1 < w → X' (p + 4) j = X (p + 4) (j + 1)) (x5 : X' (p + 5) = upd (X (p + 5)) f 0) (x6 : X' (p + 6) = X (p + 6)) (y16 : Y' 16 r = nI (w - 1)) (y17 : ∀ q, Y' 17 q = if 60 * r + 0 ≤ q ∧ q < 60 * r + (w - 1) then Y 17 (q + 1) else Y 17 q) (y18 : Y' 18 = Y 18) : CW X' Y' p r (w - 1) := by
  obtain ⟨⟨w60, e, b⟩, g, d, k, m⟩ := h
  have e17 : ∀ j, j < w - 1 → Y' 17 (60 * r + j) = Y 17 (60 * r + (j + 1)) := fun j hj => by
    rw [y17, if_pos (by omega)]; rfl
  refine ⟨⟨by omega, y16, by rw [x3, u_at, if_pos rfl]⟩, fun j hj => ?_, fun j k9 hj hk e9 => ?_, fun n hn => ?_, fun n hn => by rw [x6, y18]; exact m n hn⟩
  · rw [x4 j (by omega), e17 j hj]
    exact g (j + 1) (by omega)
  · rw [e17 j hj, e17 k9 hk] at e9
    have := d (j + 1) (k9 + 1) (by omega) (by omega) e9
    omega
  · rw [x5, u_at]
    by_cases q : n = f
    · rw [if_pos q]
      refine ⟨fun z => absurd rfl z, fun ⟨j, hj, ej⟩ => ?_⟩
      rw [e17 j hj, q, ← e0] at ej
      have := d (j + 1) 0 (by omega) (by omega) ej
      omega
    · rw [if_neg q, k n hn]
      constructor
      · rintro ⟨j, hj, ej⟩
        have hj0 : j ≠ 0 := fun z => by
          rw [z] at ej
          have ej : Y 17 (60 * r) = nI n := ej
          rw [e0] at ej
          exact q ((nI_eq (sm hf) (sm hn)).mp ej).symm
        exact ⟨j - 1, by omega, by rw [e17 _ (by omega), show j - 1 + 1 = j by omega]; exact ej⟩
      · rintro ⟨j, hj, ej⟩
        exact ⟨j + 1, by omega, by rw [e17 j hj] at ej; exact ej⟩
theorem CW.meet {X Y : JX} {p r w k : Nat} (h : CW X Y p r w) (hr : r < 3) (hk : k < 60) : CW (pX X (p + 6) (upd (X (p + 6)) k 1)) (pX Y 18 (upd (Y 18) (60 * r + k) 1)) p r w := by
  obtain ⟨a, g, d, kk, m⟩ := h
  refine ⟨?_, fun j hj => ?_, d, fun n hn => ?_, fun n hn => ?_⟩
  · show w ≤ 60 ∧ Y 16 r = nI w ∧ (pX X (p + 6) (upd (X (p + 6)) k 1)) (p + 3) 3 = nI w
    rw [p_at, if_neg (by omega)]; exact a
  · rw [p_at, if_neg (by omega)]; exact g j hj
  · rw [p_at, if_neg (by omega)]; exact kk n hn
  · show (pX X (p + 6) (upd (X (p + 6)) k 1)) (p + 6) n = upd (Y 18) (60 * r + k) 1 (60 * r + n) ∧ (upd (Y 18) (60 * r + k) 1 (60 * r + n) = 0 ∨ upd (Y 18) (60 * r + k) 1 (60 * r + n) = 1)
    rw [p_at, if_pos rfl, u_at, u_at]
    by_cases q : n = k
    · rw [if_pos q, if_pos (by omega)]; exact ⟨rfl, Or.inr rfl⟩
    · rw [if_neg q, if_neg (by omega)]; exact m n hn
theorem y_waits_loop {Y : JX} {r w k : Nat} (hr : r < 3) (hw : w ≤ 60) (h16 : Y 16 r = nI w) : ∀ m i F (b : Bool), i + m = w → m + 1 ≤ F → loop2 (lb_X11_isWaiting_5 Y (nI r) (nI k)) F (bB b) (nI i) = some (bB (b || anyl (fun j => decide (Y 17 (60 * r + j) = nI k)) m i)) := by
  have ok4 := n_ok4 (show r < 4 by omega)
  have clr := nI_clamp (show r < 2 ^ 31 by omega)
  intro m
  induction m with
  | zero =>
    intro i F b hi hF
    obtain ⟨F', rfl⟩ := Nat.exists_eq_add_of_le' hF
    rw [zl2]
    generalize hR9 : loop2 _ F' = R9
    unfold lb_X11_isWaiting_5
    rw [if_pos ok4, clr, h16, if_pos (show nI w ≤ nI i from nI_le (by omega) (by omega)), if_pos (bB_ok b)]
    simp [anyl]
  | succ m ih =>
    intro i F b hi hF
    obtain ⟨F', rfl⟩ := Nat.exists_eq_add_of_le' (show 1 ≤ F by omega)
    rw [zl2]
    have h9 := fun b => ih (i + 1) F' b (by omega) (by omega)
    generalize hR9 : loop2 _ F' = R9 at h9
    have t1 := h9 true
    have t0 := h9 false
    rw [show bB true = 1 from rfl] at t1
    rw [show bB false = 0 from rfl] at t0
    unfold lb_X11_isWaiting_5 b_X11_isWaiting_41
    rw [if_pos ok4, clr, h16, if_neg (show ¬ nI w ≤ nI i from nI_ge (by omega) (by omega)), n_60, if_pos (n_ok (show 60 * r + i < 240 by omega) (by decide)), nI_clamp (show 60 * r + i < 2 ^ 31 by omega), dV_eq, dV_eq, n_add1, t1, t0, anyl_s]
    cases b with
    | true => rw [if_pos (show ¬ bB true = 0 by decide)]; simp
    | false =>
      rw [if_neg (show ¬ ¬ bB false = 0 by decide)]
      by_cases z : Y 17 (60 * r + i) = nI k
      · rw [if_neg (fun y => y z)]; simp [z]
      · rw [if_pos z]; simp [z]
/-- a folder waits, if it didn't -/
theorem c_wait {X Y : JX} {p r w k : Nat} (h : CW X Y p r w) (hr : r < 3) (hk : k < 60) : ∃ b : Bool, f_X11_isWaiting Y (nI r) (nI k) = some (bB b) ∧ ((b = true ∧ f_X1_letWait X (p + 3) (nI k) = some X) ∨ (b = false ∧ w < 60 ∧ f_X1_letWait X (p + 3) (nI k) = some (pX (pX (pX X (p + 4) (upd (X (p + 4)) w (nI k))) (p + 5) (upd (X (p + 5)) k 1)) (p + 3) (upd (X (p + 3)) 3 (nI (w + 1)))) ∧ CW (pX (pX (pX X (p + 4) (upd (X (p + 4)) w (nI k))) (p + 5) (upd (X (p + 5)) k 1)) (p + 3) (upd (X (p + 3)) 3 (nI (w + 1)))) (pX (pX Y 17 (upd (Y 17) (60 * r + w) (nI k))) 16 (upd (Y 16) r (nI (w + 1)))) p r (w + 1))) := by
  obtain ⟨⟨w60, e, b⟩, g, d, kk, m⟩ := h
  have hl := y_waits_loop (k := k) hr w60 e w 0 1000 false (Nat.zero_add _) (by omega)
  rw [Bool.false_or] at hl
  refine ⟨_, hl, ?_⟩
  cases hb : anyl (fun j => decide (Y 17 (60 * r + j) = nI k)) w 0 with
  | true =>
    obtain ⟨j, -, hj, ej⟩ := (anyl_iff _ w 0).mp hb
    have ej := of_decide_eq_true ej
    refine Or.inl ⟨rfl, ?_⟩
    have : X (p + 5) k ≠ 0 := (kk k hk).mpr ⟨j, by omega, ej⟩
    unfold f_X1_letWait b_X1_letWait_15
    rw [if_neg (nI_pos (sm hk)), if_neg (nl60 hk), if_neg one0, if_pos (n_ok60 hk), nI_clamp (sm hk)]
    show (if ¬ X (p + 5) k = 0 then some X else _) = some X
    rw [if_pos this]
  | false =>
    have hno : ∀ j, j < w → Y 17 (60 * r + j) ≠ nI k := fun j hj z => by
      have : anyl (fun j => decide (Y 17 (60 * r + j) = nI k)) w 0 = true := (anyl_iff _ w 0).mpr ⟨j, Nat.zero_le _, by omega, decide_eq_true z⟩
      rw [hb] at this
      cases this
    have hw60 : w < 60 := by
      have h9 := holes 60 (w + 1) (fun j => if j < w then (Y 17 (60 * r + j)).toNatClampNeg else k) (fun j hj => by
        show (if j < w then (Y 17 (60 * r + j)).toNatClampNeg else k) < 60
        by_cases q : j < w
        · obtain ⟨-, n, hn, en⟩ := g j q
          rw [if_pos q, en, nI_clamp (sm hn)]; exact hn
        · rw [if_neg q]; exact hk) (fun j j2 hjk hk2 => by
        show (if j < w then (Y 17 (60 * r + j)).toNatClampNeg else k) ≠ (if j2 < w then (Y 17 (60 * r + j2)).toNatClampNeg else k)
        have q : j < w := by omega
        obtain ⟨-, n, hn, en⟩ := g j q
        rw [if_pos q, en, nI_clamp (sm hn)]
        by_cases q2 : j2 < w
        · obtain ⟨-, n2, hn2, en2⟩ := g j2 q2
          rw [if_pos q2, en2, nI_clamp (sm hn2)]
          intro z
          have := d j j2 q q2 (by rw [en, en2, z])
          omega
        · rw [if_neg q2]
          intro z
          exact hno j q (by rw [en, z]))
      omega
    have hx5 : X (p + 5) k = 0 := by
      by_cases z : X (p + 5) k = 0
      · exact z
      · obtain ⟨j, hj, ej⟩ := (kk k hk).mp z
        exact absurd ej (hno j hj)
    refine Or.inr ⟨rfl, hw60, x_letWait (q := p + 3) hk hx5 b hw60, ⟨by omega, ?_, ?_⟩, fun j hj => ?_, fun j j2 hj hj2 => ?_, fun n hn => ?_, fun n hn => ?_⟩
    · show upd (Y 16) r (nI (w + 1)) r = _
      rw [u_at, if_pos rfl]
    · rw [p_at, if_pos rfl, u_at, if_pos rfl]
    · rw [p_at, if_neg (by omega), p_at, if_neg (by omega), p_at, if_pos rfl, u_at]
      show (if j = w then nI k else X (p + 4) j) = upd (Y 17) (60 * r + w) (nI k) (60 * r + j) ∧ ∃ n, n < 60 ∧ upd (Y 17) (60 * r + w) (nI k) (60 * r + j) = nI n
      rw [u_at]
      by_cases q : j = w
      · rw [if_pos q, if_pos (by omega)]; exact ⟨rfl, k, hk, rfl⟩
      · rw [if_neg q, if_neg (by omega)]; exact g j (by omega)
    · show upd (Y 17) (60 * r + w) (nI k) (60 * r + j) = upd (Y 17) (60 * r + w) (nI k) (60 * r + j2) → j = j2
      rw [u_at, u_at]
      by_cases q : j = w
      · rw [if_pos (show 60 * r + j = 60 * r + w by omega)]
        by_cases q2 : j2 = w
        · rw [if_pos (show 60 * r + j2 = 60 * r + w by omega)]; exact fun _ => by omega
        · rw [if_neg (show ¬ 60 * r + j2 = 60 * r + w by omega)]; exact fun z => absurd z.symm (hno j2 (by omega))
      · rw [if_neg (show ¬ 60 * r + j = 60 * r + w by omega)]
        by_cases q2 : j2 = w
        · rw [if_pos (show 60 * r + j2 = 60 * r + w by omega)]; exact fun z => absurd z (hno j (by omega))
        · rw [if_neg (show ¬ 60 * r + j2 = 60 * r + w by omega)]; exact d j j2 (by omega) (by omega)
    · rw [p_at, if_neg (by omega), p_at, if_pos rfl, u_at]
      have hy : ∀ j, (pX (pX Y 17 (upd (Y 17) (60 * r + w) (nI k))) 16 (upd (Y 16) r (nI (w + 1)))) 17 (60 * r + j) = if 60 * r + j = 60 * r + w then nI k else Y 17 (60 * r + j) := fun j => rfl
      by_cases q : n = k
      · rw [if_pos q]
        exact ⟨fun _ => ⟨w, by omega, by rw [hy, if_pos rfl, q]⟩, fun _ => one0⟩
      · rw [if_neg q, kk n hn]
        constructor
        · rintro ⟨j, hj, ej⟩
          exact ⟨j, by omega, by rw [hy, if_neg (by omega)]; exact ej⟩
        · rintro ⟨j, hj, ej⟩
          rw [hy] at ej
          by_cases q2 : j = w
          · rw [if_pos (by omega)] at ej
            exact absurd ((nI_eq (sm hk) (sm hn)).mp ej).symm q
          · rw [if_neg (by omega)] at ej
            exact ⟨j, by omega, ej⟩
    · rw [p_at, if_neg (by omega), p_at, if_neg (by omega), p_at, if_neg (by omega)]
      exact m n hn

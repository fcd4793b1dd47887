/-! ===== an act is added ===== -/
theorem l60 {n : Nat} (h : n < 60) : nI n < (60 : Int32) := nI_lt (b := 60) h (by decide)
def frX (X' X : JX) : Prop := ∀ q, q ≠ 45 → q ≠ 46 → q ≠ 47 → X' q = X q
def frY (Y' Y : JX) : Prop := (∀ q, q ≠ 0 → q ≠ 25 → q ≠ 26 → q ≠ 27 → Y' q = Y q) ∧ ∀ j, j ≠ 30 → Y' 0 j = Y 0 j
theorem frX.rf (X : JX) : frX X X := fun _ _ _ _ => rfl
theorem frY.rf (Y : JX) : frY Y Y := ⟨fun _ _ _ _ _ => rfl, fun _ _ => rfl⟩
theorem frX.tr {X X' X'' : JX} (h : frX X'' X') (h2 : frX X' X) : frX X'' X := fun q a b c => (h q a b c).trans (h2 q a b c)
theorem frY.tr {Y Y' Y'' : JX} (h : frY Y'' Y') (h2 : frY Y' Y) : frY Y'' Y := ⟨fun q a b c d => (h.1 q a b c d).trans (h2.1 q a b c d), fun j a => (h.2 j a).trans (h2.2 j a)⟩
theorem KY.room {Y : JX} {A n : Nat} (h : KY Y A) (hn : n < 60) (hno : ∀ j, j < A → Y 25 j ≠ nI n) : A < 60 := by
  have h9 := holes 60 (A + 1) (fun j => if j < A then (Y 25 j).toNatClampNeg else n) (fun j hj => by
    show (if j < A then (Y 25 j).toNatClampNeg else n) < 60
    by_cases q : j < A
    · obtain ⟨⟨k, hk, e⟩, -⟩ := h.2.1 j q
      rw [if_pos q, e, nI_clamp (sm hk)]; exact hk
    · rw [if_neg q]; exact hn) (fun j k hjk hk => by
    show (if j < A then (Y 25 j).toNatClampNeg else n) ≠ (if k < A then (Y 25 k).toNatClampNeg else n)
    have q : j < A := by omega
    obtain ⟨⟨a, ha, ea⟩, -⟩ := h.2.1 j q
    rw [if_pos q, ea, nI_clamp (sm ha)]
    by_cases q2 : k < A
    · obtain ⟨⟨b, hb, eb⟩, -⟩ := h.2.1 k q2
      rw [if_pos q2, eb, nI_clamp (sm hb)]
      intro e
      have := h.2.2 j k q q2 (by rw [ea, eb, e])
      omega
    · rw [if_neg q2]
      intro e
      exact hno j q (by rw [ea, e]))
  omega
theorem x_add_old {X Y : JX} {A n j : Nat} {k : Int32} (hK : KY Y A) (hX : KX X Y A) (hn : n < 60) (hj : j < A) (e : Y 25 j = nI n) : f_X0_add X (nI n) k = some (pX X 47 (upd (X 47) n k)) := by
  have h47 : ¬ X 47 n = 0 := by
    have h := (hX.2.1 j hj).2.1
    rw [e, nI_clamp (sm hn)] at h
    rw [h]
    rcases (hK.2.1 j hj).2.1 with q | q <;> rw [q] <;> decide
  unfold f_X0_add b_X0_add_56
  rw [if_neg (nI_pos (sm hn)), if_pos (l60 hn), if_pos (n_ok60 hn), nI_clamp (sm hn), if_pos h47, if_pos (n_ok60 hn), dX_eq]
theorem x_add_new {X Y : JX} {A n : Nat} {k : Int32} (hK : KY Y A) (hX : KX X Y A) (hn : n < 60) (hno : ∀ j, j < A → Y 25 j ≠ nI n) : f_X0_add X (nI n) k = some (pX (pX (pX X 46 (upd (X 46) A (nI n))) 45 (upd (X 45) 3 (nI (A + 1)))) 47 (upd (X 47) n k)) := by
  have hA := hK.room hn hno
  unfold f_X0_add b_X0_add_56
  rw [if_neg (nI_pos (sm hn)), if_pos (l60 hn), if_pos (n_ok60 hn), nI_clamp (sm hn), if_neg (fun q => q (hX.2.2 n hn hno).1), hX.1, if_neg (nI_pos (sm hA)), if_neg (nl60 hA), if_pos (n_ok60 hA), nI_clamp (sm hA), dX_eq, dX_eq, show (pX X 46 (upd (X 46) A (nI n))) 45 = X 45 from rfl, hX.1, n_add1, if_pos (n_ok60 hn), dX_eq]
  rfl
def aEnd (Y : JX) (v1 v2 v3 : Int32) : Option JX := lb_X11_adds_5 Y v1 v2 (fun _ _ => none) v3 (Y 0 30)
theorem y_adds_loop {Y : JX} {A : Nat} {v k : Int32} (hK : KY Y A) : ∀ m i F acc, i + m = A → m + 1 ≤ F → loop2 (lb_X11_adds_5 Y v k) F acc (nI i) = aEnd Y v k (match fri (Y 25) v m i with | none => acc | some j => nI j) := by
  have hA := hK.1.1
  intro m
  induction m with
  | zero =>
    intro i F acc hi hF
    obtain ⟨F', rfl⟩ := Nat.exists_eq_add_of_le' hF
    have : i = A := by omega
    subst this
    rw [zl2]
    generalize hR9 : loop2 _ F' = R9
    unfold aEnd lb_X11_adds_5
    rw [hK.1.2, if_pos (Int32.le_refl _), if_pos (Int32.le_refl _)]
    rfl
  | succ m ih =>
    intro i F acc hi hF
    obtain ⟨F', rfl⟩ := Nat.exists_eq_add_of_le' (show 1 ≤ F by omega)
    rw [zl2]
    have h9 := fun acc => ih (i + 1) F' acc (by omega) (by omega)
    generalize hR9 : loop2 _ F' = R9 at h9
    unfold lb_X11_adds_5 b_X11_adds_31
    rw [if_neg (show ¬ Y 0 30 ≤ nI i by rw [hK.1.2]; exact nI_ge (by omega) (by omega)), if_pos (n_ok60 (by omega)), nI_clamp (show i < 2 ^ 31 by omega), dV_eq, dV_eq, n_add1, fri_s]
    by_cases e : Y 25 i = v
    · rw [if_neg (fun q => q e), if_pos e, h9]
      cases h : fri (Y 25) v m (i + 1) with
      | none => rfl
      | some s =>
        obtain ⟨a, b, c⟩ := fri_some m (i + 1) h
        have := hK.2.2 s i (by omega) (by omega) (c.trans e.symm)
        omega
    · rw [if_pos e, if_neg e, h9]
theorem y_adds {Y : JX} {A : Nat} {v k : Int32} (hK : KY Y A) : f_X11_adds Y v k = aEnd Y v k (enc (fri (Y 25) v A 0)) := by
  have hA := hK.1.1
  unfold f_X11_adds l_X11_adds_5
  rw [dV_eq, show (0 : Int32) = nI 0 from rfl, y_adds_loop hK A 0 1000 (-1) (Nat.zero_add _) (by omega)]
  cases fri (Y 25) v A 0 <;> rfl
theorem y_adds_old {Y : JX} {A j : Nat} {v k : Int32} (hK : KY Y A) (hj : j < A) (e : Y 25 j = v) : f_X11_adds Y v k = some (pX Y 26 (upd (Y 26) j k)) := by
  have hA := hK.1.1
  rw [y_adds hK, fri_at (r := j) (Nat.zero_le _) (by omega) e (fun s _ hs es => hK.2.2 s j (by omega) hj (es.trans e.symm))]
  unfold aEnd lb_X11_adds_5 b_X11_adds_72
  rw [if_pos (Int32.le_refl _), show enc (some j) = nI j from rfl, if_pos (nm1 (show j < 2 ^ 31 by omega)), if_pos (n_ok60 (by omega)), dX_eq, nI_clamp (show j < 2 ^ 31 by omega)]
theorem y_adds_new {Y : JX} {A : Nat} {v k : Int32} (hK : KY Y A) (hA : A < 60) (hno : ∀ j, j < A → Y 25 j ≠ v) : f_X11_adds Y v k = some (pX (pX (pX (pX Y 25 (upd (Y 25) A v)) 27 (upd (Y 27) A 0)) 0 (upd (Y 0) 30 (nI (A + 1)))) 26 (upd (Y 26) A k)) := by
  have hf : fri (Y 25) v A 0 = none := by
    cases h : fri (Y 25) v A 0 with
    | none => rfl
    | some s =>
      obtain ⟨-, b, c⟩ := fri_some A 0 h
      exact absurd c (hno s (by omega))
  rw [y_adds hK, hf]
  unfold aEnd lb_X11_adds_5 b_X11_adds_72
  rw [if_pos (Int32.le_refl _), show enc none = -1 from rfl, if_neg (fun q => q rfl), dV_eq, hK.1.2, if_pos (n_ok60 hA), nI_clamp (sm hA), dX_eq, if_pos (n_ok60 hA), dX_eq, dX_eq, if_pos (n_ok60 hA), dX_eq, show (pX (pX Y 25 (upd (Y 25) A v)) 27 (upd ((pX Y 25 (upd (Y 25) A v)) 27) A (vp_nar .boolean 0))) 0 = Y 0 from rfl, hK.1.2, n_add1]
  rfl
theorem c_add {X Y : JX} {A n : Nat} {k : Int32} (hK : KY Y A) (hX : KX X Y A) (hn : n < 60) (hk : k = 1 ∨ k = 2) : ∃ X' Y' A', f_X0_add X (nI n) k = some X' ∧ f_X11_adds Y (nI n) k = some Y' ∧ KY Y' A' ∧ KX X' Y' A' ∧ frX X' X ∧ frY Y' Y := by
  have hA := hK.1.1
  by_cases hc : ∃ j, j < A ∧ Y 25 j = nI n
  · obtain ⟨j, hj, e⟩ := hc
    refine ⟨_, _, A, x_add_old hK hX hn hj e, y_adds_old hK hj e, ?_, ?_, fun q _ _ h => if_neg h, fun q _ _ h _ => if_neg h, fun _ _ => rfl⟩
    · refine ⟨hK.1, fun a ha => ⟨(hK.2.1 a ha).1, ?_⟩, hK.2.2⟩
      refine ⟨?_, (hK.2.1 a ha).2.2⟩
      show upd (Y 26) j k a = 1 ∨ upd (Y 26) j k a = 2
      rw [u_at]
      by_cases q : a = j
      · rw [if_pos q]; exact hk
      · rw [if_neg q]; exact (hK.2.1 a ha).2.1
    · refine ⟨hX.1, fun a ha => ⟨(hX.2.1 a ha).1, ?_, (hX.2.1 a ha).2.2⟩, fun m hm hno => ⟨?_, (hX.2.2 m hm hno).2⟩⟩
      · show upd (X 47) n k (Y 25 a).toNatClampNeg = upd (Y 26) j k a
        rw [u_at, u_at]
        by_cases q : a = j
        · rw [if_pos q, q, e, nI_clamp (sm hn), if_pos rfl]
        · rw [if_neg q]
          obtain ⟨⟨b, hb, eb⟩, -⟩ := hK.2.1 a ha
          rw [if_neg (fun z => q (hK.2.2 a j ha hj (by rw [eb, nI_clamp (sm hb)] at z; rw [eb, e, z])))]
          exact (hX.2.1 a ha).2.1
      · show upd (X 47) n k m = 0
        rw [u_at, if_neg (fun z => hno j hj (by show Y 25 j = nI m; rw [e, z]))]
        exact (hX.2.2 m hm hno).1
  · have hno : ∀ j, j < A → Y 25 j ≠ nI n := fun j hj e => hc ⟨j, hj, e⟩
    have hA6 := hK.room hn hno
    refine ⟨_, _, A + 1, x_add_new hK hX hn hno, y_adds_new hK hA6 hno, ?_, ?_, fun q h1 h2 h3 => (if_neg h3).trans ((if_neg h1).trans (if_neg h2)), fun q h1 h2 h3 h4 => (if_neg h3).trans ((if_neg h1).trans ((if_neg h4).trans (if_neg h2))), fun j hj => if_neg hj⟩
    · refine ⟨⟨by omega, rfl⟩, fun a ha => ⟨?_, ?_, ?_⟩, fun a b ha hb => ?_⟩
      · show ∃ m, m < 60 ∧ upd (Y 25) A (nI n) a = nI m
        rw [u_at]
        by_cases q : a = A
        · rw [if_pos q]; exact ⟨n, hn, rfl⟩
        · rw [if_neg q]; exact (hK.2.1 a (by omega)).1
      · show upd (Y 26) A k a = 1 ∨ upd (Y 26) A k a = 2
        rw [u_at]
        by_cases q : a = A
        · rw [if_pos q]; exact hk
        · rw [if_neg q]; exact (hK.2.1 a (by omega)).2.1
      · show upd (Y 27) A 0 a = 0 ∨ upd (Y 27) A 0 a = 1
        rw [u_at]
        by_cases q : a = A
        · rw [if_pos q]; exact Or.inl rfl
        · rw [if_neg q]; exact (hK.2.1 a (by omega)).2.2
      · show upd (Y 25) A (nI n) a = upd (Y 25) A (nI n) b → a = b
        rw [u_at, u_at]
        by_cases q : a = A
        · rw [if_pos q]
          by_cases q2 : b = A
          · rw [if_pos q2]; exact fun _ => by omega
          · rw [if_neg q2]; exact fun z => absurd z.symm (hno b (by omega))
        · rw [if_neg q]
          by_cases q2 : b = A
          · rw [if_pos q2]; exact fun z => absurd z (hno a (by omega))
          · rw [if_neg q2]; exact hK.2.2 a b (by omega) (by omega)
    · refine ⟨rfl, fun a ha => ?_, fun m hm hno2 => ?_⟩
      · show upd (X 46) A (nI n) a = upd (Y 25) A (nI n) a ∧ upd (X 47) n k (upd (Y 25) A (nI n) a).toNatClampNeg = upd (Y 26) A k a ∧ X 48 (upd (Y 25) A (nI n) a).toNatClampNeg = upd (Y 27) A 0 a
        rw [u_at, u_at, u_at, u_at, u_at]
        by_cases q : a = A
        · rw [if_pos q, if_pos q, if_pos q, if_pos q, nI_clamp (sm hn), if_pos rfl]
          exact ⟨rfl, rfl, (hX.2.2 n hn hno).2⟩
        · rw [if_neg q, if_neg q, if_neg q, if_neg q]
          obtain ⟨⟨b, hb, eb⟩, -⟩ := hK.2.1 a (by omega)
          rw [if_neg (fun z => hno a (by omega) (by rw [eb, nI_clamp (sm hb)] at z; rw [eb, z]))]
          exact hX.2.1 a (by omega)
      · have hm2 : ∀ j, j < A → Y 25 j ≠ nI m := fun j hj e => hno2 j (by omega) (by
          show upd (Y 25) A (nI n) j = nI m
          rw [u_at, if_neg (by omega)]; exact e)
        have hmn : m ≠ n := fun e => hno2 A (by omega) (by
          show upd (Y 25) A (nI n) A = nI m
          rw [u_at, if_pos rfl, e])
        refine ⟨?_, (hX.2.2 m hm hm2).2⟩
        show upd (X 47) n k m = 0
        rw [u_at, if_neg hmn]
        exact (hX.2.2 m hm hm2).1
/-- a LOOK for each of some nodes, both sides -/
theorem c_adds {p : Nat → Bool} {M : Nat} {X0 Y0 : JX} (hM : M ≤ 60) (hp : ∀ n, M ≤ n → n < 60 → p n = false) {LX LY : Nat → JX → Int32 → Option JX}
    (hx : ∀ F X i, i < 60 → frX X X0 → LX (F + 1) X (nI i) = if p i = true then (f_X0_add X (nI i) 1).bind (fun X' => LX F X' (nI (i + 1))) else LX F X (nI (i + 1)))
    (hx0 : ∀ F X, LX (F + 1) X (nI 60) = some X)
    (hy : ∀ F Y i, i < M → frY Y Y0 → LY (F + 1) Y (nI i) = if p i = true then (f_X11_adds Y (nI i) 1).bind (fun Y' => LY F Y' (nI (i + 1))) else LY F Y (nI (i + 1)))
    (hy0 : ∀ F Y, frY Y Y0 → LY (F + 1) Y (nI M) = some Y) : ∀ m i F F2 X Y A, i + m = 60 → m + 1 ≤ F → 61 ≤ i + F2 → KY Y A → KX X Y A → frX X X0 → frY Y Y0 → ∃ X' Y' A', LX F X (nI i) = some X' ∧ (i ≤ M → LY F2 Y (nI i) = some Y') ∧ (M < i → Y' = Y) ∧ KY Y' A' ∧ KX X' Y' A' ∧ frX X' X0 ∧ frY Y' Y0 := by
  intro m
  induction m with
  | zero =>
    intro i F F2 X Y A hi hF hF2 hK hX fX fY
    obtain ⟨F', rfl⟩ := Nat.exists_eq_add_of_le' hF
    have : i = 60 := by omega
    subst this
    refine ⟨X, Y, A, hx0 F' X, fun h => ?_, fun _ => rfl, hK, hX, fX, fY⟩
    have : M = 60 := by omega
    obtain ⟨F3, rfl⟩ := Nat.exists_eq_add_of_le' (show 1 ≤ F2 by omega)
    rw [← this]
    exact hy0 F3 Y fY
  | succ m ih =>
    intro i F F2 X Y A hi hF hF2 hK hX fX fY
    obtain ⟨F', rfl⟩ := Nat.exists_eq_add_of_le' (show 1 ≤ F by omega)
    have hi60 : i < 60 := by omega
    rw [hx F' X i hi60 fX]
    by_cases hiM : i < M
    · obtain ⟨F3, rfl⟩ := Nat.exists_eq_add_of_le' (show 1 ≤ F2 by omega)
      rw [hy F3 Y i hiM fY]
      by_cases e : p i = true
      · obtain ⟨X1, Y1, A1, a, b, c, d, f, g⟩ := c_add hK hX hi60 (Or.inl rfl)
        obtain ⟨X', Y', A', a', b', -, r⟩ := ih (i + 1) F' F3 X1 Y1 A1 (by omega) (by omega) (by omega) c d (f.tr fX) (g.tr fY)
        refine ⟨X', Y', A', ?_, fun _ => ?_, fun h => absurd h (by omega), r⟩
        · rw [if_pos e, a, bd_some]; exact a'
        · rw [if_pos e, b, bd_some]; exact b' (by omega)
      · obtain ⟨X', Y', A', a', b', -, r⟩ := ih (i + 1) F' F3 X Y A (by omega) (by omega) (by omega) hK hX fX fY
        refine ⟨X', Y', A', ?_, fun _ => ?_, fun h => absurd h (by omega), r⟩
        · rw [if_neg e]; exact a'
        · rw [if_neg e]; exact b' (by omega)
    · have e : ¬ p i = true := by rw [hp i (by omega) hi60]; decide
      obtain ⟨X', Y', A', a', -, c', r⟩ := ih (i + 1) F' F2 X Y A (by omega) (by omega) (by omega) hK hX fX fY
      have hYY : Y' = Y := c' (by omega)
      subst hYY
      refine ⟨X', Y', A', ?_, fun h => ?_, fun _ => rfl, r⟩
      · rw [if_neg e]; exact a'
      · obtain ⟨F3, rfl⟩ := Nat.exists_eq_add_of_le' (show 1 ≤ F2 by omega)
        rw [show i = M by omega]
        exact hy0 F3 _ fY
theorem c_lost {X Y : JX} {M A : Nat} (hT : TY Y M) (hE : EX X Y) (hEY : EY Y M) (hK : KY Y A) (hX : KX X Y A) : ∃ X' Y' A', f_X4_lookAtAllEntries X = some X' ∧ f_X11_looksAtLost Y = some Y' ∧ KY Y' A' ∧ KX X' Y' A' ∧ frX X' X ∧ frY Y' Y := by
  have hM := hT.1.2.1
  obtain ⟨X', Y', A', a, b, -, c⟩ := c_adds (p := fun n => decide (Y 19 n ≠ 0)) (X0 := X) (Y0 := Y) hM (fun n h1 h2 => by
    by_cases e : Y 19 n = 0
    · simp [e]
    · exact absurd ((hEY n h2).1 e).1 (by omega)) (LX := fun F => loop2 lb_X4_lookAtAllEntries_2 F) (LY := fun F => loop2 lb_X11_looksAtLost_2 F)
    (fun F X1 i hi f => by
      show loop2 lb_X4_lookAtAllEntries_2 (F + 1) X1 (nI i) = _
      rw [zl2]
      show lb_X4_lookAtAllEntries_2 (loop2 lb_X4_lookAtAllEntries_2 F) X1 (nI i) = if decide (Y 19 i ≠ 0) = true then (f_X0_add X1 (nI i) 1).bind (fun X' => loop2 lb_X4_lookAtAllEntries_2 F X' (nI (i + 1))) else loop2 lb_X4_lookAtAllEntries_2 F X1 (nI (i + 1))
      generalize loop2 lb_X4_lookAtAllEntries_2 F = R9
      unfold lb_X4_lookAtAllEntries_2 b_X4_lookAtAllEntries_28
      rw [if_neg (nl60 hi), x_has hi, bd_some, f 36 (by omega) (by omega) (by omega), (hE i hi).1]
      by_cases e : Y 19 i = 0
      · rw [bo_f (fun q => q e), if_pos rfl, if_neg (by simp [e]), dV_eq, n_add1]
      · rw [bo_t e, if_neg one0, if_pos (by simp [e])]
        congr 1
        funext X3
        rw [dV_eq, n_add1])
    (fun F X1 => by
      show loop2 lb_X4_lookAtAllEntries_2 (F + 1) X1 (nI 60) = _
      rw [zl2]
      generalize loop2 lb_X4_lookAtAllEntries_2 F = R9
      unfold lb_X4_lookAtAllEntries_2
      rw [if_pos g60])
    (fun F Y1 i hi f => by
      show loop2 lb_X11_looksAtLost_2 (F + 1) Y1 (nI i) = _
      rw [zl2]
      show lb_X11_looksAtLost_2 (loop2 lb_X11_looksAtLost_2 F) Y1 (nI i) = if decide (Y 19 i ≠ 0) = true then (f_X11_adds Y1 (nI i) 1).bind (fun Y' => loop2 lb_X11_looksAtLost_2 F Y' (nI (i + 1))) else loop2 lb_X11_looksAtLost_2 F Y1 (nI (i + 1))
      generalize loop2 lb_X11_looksAtLost_2 F = R9
      have hi60 : i < 60 := by omega
      unfold lb_X11_looksAtLost_2 b_X11_looksAtLost_25
      rw [f.2 2 (by omega), hT.1.2.2, if_neg (nI_ge (by omega) (by omega)), if_pos (n_ok60 hi60), nI_clamp (sm hi60), f.1 19 (by omega) (by omega) (by omega) (by omega)]
      by_cases e : Y 19 i = 0
      · rw [if_pos e, if_neg (by simp [e]), dV_eq, n_add1]
      · rw [if_neg e, if_pos (by simp [e])]
        congr 1
        funext X3
        rw [dV_eq, n_add1])
    (fun F Y1 f => by
      show loop2 lb_X11_looksAtLost_2 (F + 1) Y1 (nI M) = _
      rw [zl2]
      generalize loop2 lb_X11_looksAtLost_2 F = R9
      unfold lb_X11_looksAtLost_2
      rw [f.2 2 (by omega), hT.1.2.2, if_pos (Int32.le_refl _)]) 60 0 1000 1000 X Y A rfl (by decide) (by decide) hK hX (frX.rf X) (frY.rf Y)
  exact ⟨X', Y', A', a, b (by omega), c⟩

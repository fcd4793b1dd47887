/-! ===== a node goes, with all that lies below it ===== -/
def lv (Y : JX) (n k : Nat) : Bool := decide (Y 1 k ≠ 0) && (decide (k = n) || belo (prY Y) k n)
theorem lv_iff {Y : JX} {M n k : Nat} (hT : TY Y M) : lv Y n k = true ↔ Y 1 k ≠ 0 ∧ On (prY Y) (some k) n := by
  unfold lv
  rw [Bool.and_eq_true, Bool.or_eq_true, decide_eq_true_eq, decide_eq_true_eq, belo_On hT.2.2.2.2, On.up]
theorem x_tk2 {c : Int32} : ∀ m i F (X : JX), i + m = 60 → m + 1 ≤ F → ∃ X', loop2 (lb_X9_takeAway_51 c) F X (nI i) = some (c, X') ∧ (∀ q, q ≠ 2 → X' q = X q) ∧ ∀ j, X' 2 j = if i ≤ j ∧ j < 60 ∧ X 5 j = 0 then -1 else X 2 j := by
  intro m
  induction m with
  | zero =>
    intro i F X hi hF
    obtain ⟨F', rfl⟩ := Nat.exists_eq_add_of_le' hF
    have : i = 60 := by omega
    subst this
    refine ⟨X, ?_, fun _ _ => rfl, fun j => by rw [if_neg (by omega)]⟩
    rw [zl2]
    generalize hR9 : loop2 _ F' = R9
    unfold lb_X9_takeAway_51
    rw [if_pos g60]
  | succ m ih =>
    intro i F X hi hF
    obtain ⟨F', rfl⟩ := Nat.exists_eq_add_of_le' (show 1 ≤ F by omega)
    have hi6 : i < 60 := by omega
    rw [zl2]
    by_cases e : X 5 i = 0
    · obtain ⟨X', a, b, c9⟩ := ih (i + 1) F' (pX X 2 (upd (X 2) i (-1))) (by omega) (by omega)
      generalize hR9 : loop2 _ F' = R9 at a
      refine ⟨X', ?_, fun q hq => (b q hq).trans (if_neg hq), fun j => ?_⟩
      · unfold lb_X9_takeAway_51 b_X9_takeAway_73
        rw [if_neg (nl60 hi6), if_pos (n_ok60 hi6), nI_clamp (sm hi6), if_neg (fun q => q e), if_pos (n_ok60 hi6), dX_eq, dV_eq, n_add1]
        exact a
      · rw [c9 j]
        show (if i + 1 ≤ j ∧ j < 60 ∧ X 5 j = 0 then -1 else upd (X 2) i (-1) j) = _
        rw [u_at]
        by_cases q : j = i
        · rw [if_neg (by omega), if_pos q, if_pos ⟨by omega, by omega, by rw [q]; exact e⟩]
        · rw [if_neg q]
          by_cases q2 : i + 1 ≤ j ∧ j < 60 ∧ X 5 j = 0
          · rw [if_pos q2, if_pos ⟨by omega, q2.2⟩]
          · rw [if_neg q2, if_neg (fun z => q2 ⟨by omega, z.2⟩)]
    · obtain ⟨X', a, b, c9⟩ := ih (i + 1) F' X (by omega) (by omega)
      generalize hR9 : loop2 _ F' = R9 at a
      refine ⟨X', ?_, b, fun j => ?_⟩
      · unfold lb_X9_takeAway_51 b_X9_takeAway_73
        rw [if_neg (nl60 hi6), if_pos (n_ok60 hi6), nI_clamp (sm hi6), if_pos e, dV_eq, n_add1]
        exact a
      · rw [c9 j]
        by_cases q : j = i
        · rw [if_neg (by omega), if_neg (fun z => e (by rw [← q]; exact z.2.2))]
        · by_cases q2 : i + 1 ≤ j ∧ j < 60 ∧ X 5 j = 0
          · rw [if_pos q2, if_pos ⟨by omega, q2.2⟩]
          · rw [if_neg q2, if_neg (fun z => q2 ⟨by omega, z.2⟩)]
theorem x_tk1 {X Y : JX} {M n : Nat} (hT : TY Y M) (hx : TX X Y) (hn : n < 60) : ∀ m i F (X1 : JX) c, i + m = 60 → m + 1 ≤ F → (∀ q, q ≠ 5 → X1 q = X q) → (∀ j, X1 5 j = if j < i ∧ lv Y n j = true then 0 else X 5 j) → ∃ X', loop3 (lb_X9_takeAway_4 (nI n)) F X1 (nI c) (nI i) = l_X9_takeAway_51 (nI (c + cnt (lv Y n) m i)) X' 0 ∧ (∀ q, q ≠ 5 → X' q = X q) ∧ ∀ j, X' 5 j = if j < 60 ∧ lv Y n j = true then 0 else X 5 j := by
  intro m
  induction m with
  | zero =>
    intro i F X1 c hi hF ho h5
    obtain ⟨F', rfl⟩ := Nat.exists_eq_add_of_le' hF
    have : i = 60 := by omega
    subst this
    refine ⟨X1, ?_, ho, h5⟩
    rw [zl3]
    generalize hR9 : loop3 _ F' = R9
    unfold lb_X9_takeAway_4
    rw [if_pos g60]
    rfl
  | succ m ih =>
    intro i F X1 c hi hF ho h5
    obtain ⟨F', rfl⟩ := Nat.exists_eq_add_of_le' (show 1 ≤ F by omega)
    have hi6 : i < 60 := by omega
    have x5 : X1 5 i = Y 1 i := by rw [h5, if_neg (by omega)]; exact (hx.2 i hi6).2.2.2.1
    rw [zl3]
    by_cases el : lv Y n i = true
    · have h9 := ih (i + 1) F' (pX X1 5 (upd (X1 5) i 0)) (c + 1) (by omega) (by omega) (fun q hq => (if_neg hq).trans (ho q hq)) (fun j => by
        show upd (X1 5) i 0 j = _
        rw [u_at, h5]
        by_cases q : j = i
        · rw [if_pos q, if_pos ⟨by omega, by rw [q]; exact el⟩]
        · rw [if_neg q]
          by_cases q2 : j < i ∧ lv Y n j = true
          · rw [if_pos q2, if_pos ⟨by omega, q2.2⟩]
          · rw [if_neg q2, if_neg (fun z => q2 ⟨by omega, z.2⟩)])
      obtain ⟨X', a, b⟩ := h9
      refine ⟨X', ?_, b⟩
      generalize hR9 : loop3 _ F' = R9 at a
      have hy : Y 1 i ≠ 0 := ((lv_iff hT).mp el).1
      have hgo : b_X9_takeAway_33 R9 X1 (nI n) (nI c) (nI i) = l_X9_takeAway_51 (nI (c + cnt (lv Y n) (m + 1) i)) X' 0 := by
        unfold b_X9_takeAway_33 b_X9_takeAway_43
        rw [if_pos (n_ok60 hi6), nI_clamp (sm hi6), dX_eq, dV_eq, dV_eq, n_add1, n_add1, cnt_s, if_pos el, ← Nat.add_assoc]
        exact a
      unfold lb_X9_takeAway_4
      rw [if_neg (nl60 hi6), if_pos (n_ok60 hi6), nI_clamp (sm hi6), x5, if_neg hy]
      by_cases q : i = n
      · rw [if_pos (by rw [q])]; exact hgo
      · have hb : belo (prY Y) i n = true := by
          rw [belo_On hT.2.2.2.2]
          exact ((On.up.mp ((lv_iff hT).mp el).2)).resolve_left q
        rw [if_neg (nne hi6 hn q), x_isBelow hn hi6 (pr := prY Y) (fun k hk => by rw [ho 2 (by omega)]; exact (hx.2 k hk).1) hT.lt, bd_some, hb, if_neg (show ¬ bB true = 0 by decide)]
        exact hgo
    · have h9 := ih (i + 1) F' X1 c (by omega) (by omega) ho (fun j => by
        rw [h5]
        by_cases q2 : j < i ∧ lv Y n j = true
        · rw [if_pos q2, if_pos ⟨by omega, q2.2⟩]
        · rw [if_neg q2, if_neg (fun z => by
            by_cases q : j = i
            · rw [q] at z; exact el z.2
            · exact q2 ⟨by omega, z.2⟩)])
      obtain ⟨X', a, b⟩ := h9
      refine ⟨X', ?_, b⟩
      generalize hR9 : loop3 _ F' = R9 at a
      have hgo : b_X9_takeAway_43 R9 X1 (nI n) (nI c) (nI i) = l_X9_takeAway_51 (nI (c + cnt (lv Y n) (m + 1) i)) X' 0 := by
        unfold b_X9_takeAway_43
        rw [dV_eq, n_add1, cnt_s, if_neg el, Nat.zero_add]
        exact a
      unfold lb_X9_takeAway_4
      rw [if_neg (nl60 hi6), if_pos (n_ok60 hi6), nI_clamp (sm hi6), x5]
      by_cases hy : Y 1 i = 0
      · rw [if_pos hy]; exact hgo
      · rw [if_neg hy]
        have hno : ¬ On (prY Y) (some i) n := fun z => el ((lv_iff hT).mpr ⟨hy, z⟩)
        have q : ¬ i = n := fun z => hno (by rw [z]; exact On.self n)
        have hb : belo (prY Y) i n = false := by
          cases z : belo (prY Y) i n with
          | false => rfl
          | true => exact absurd (On.up.mpr (Or.inr ((belo_On hT.2.2.2.2 i n).mp z))) hno
        rw [if_neg (nne hi6 hn q), x_isBelow hn hi6 (pr := prY Y) (fun k hk => by rw [ho 2 (by omega)]; exact (hx.2 k hk).1) hT.lt, bd_some, hb, if_pos (show bB false = 0 by decide)]
        exact hgo
theorem y_rm1 {Y : JX} {M n : Nat} (hT : TY Y M) (hn : n < 60) : ∀ m i F (Y1 : JX) c, i + m = M → m + 1 ≤ F → (∀ q, q ≠ 32 → Y1 q = Y q) → ∃ Y', loop3 (lb_X11_remove_45 (nI n)) F Y1 (nI c) (nI i) = l_X11_remove_112 (nI (c + cnt (lv Y n) m i)) Y' 0 ∧ (∀ q, q ≠ 32 → Y' q = Y q) ∧ ∀ j, Y' 32 j = if i ≤ j ∧ j < M then bB (lv Y n j) else Y1 32 j := by
  have hM := hT.1.2.1
  intro m
  induction m with
  | zero =>
    intro i F Y1 c hi hF ho
    obtain ⟨F', rfl⟩ := Nat.exists_eq_add_of_le' hF
    refine ⟨Y1, ?_, ho, fun j => by rw [if_neg (by omega)]⟩
    rw [zl3]
    generalize hR9 : loop3 _ F' = R9
    unfold lb_X11_remove_45
    rw [if_pos (show Y1 0 2 ≤ nI i by rw [ho 0 (by omega), hT.1.2.2]; exact nI_le (by omega) (by omega))]
    rfl
  | succ m ih =>
    intro i F Y1 c hi hF ho
    obtain ⟨F', rfl⟩ := Nat.exists_eq_add_of_le' (show 1 ≤ F by omega)
    have hi6 : i < 60 := by omega
    have ho2 : ∀ b : Bool, ∀ q, q ≠ 32 → (pX Y1 32 (upd (Y1 32) i (bB b))) q = Y q := fun b q hq => (if_neg hq).trans (ho q hq)
    have hT1 : TY Y1 M := hT.fr (by rw [ho 0 (by omega)]) (fun q _ _ => ho q (by omega))
    have hpr : prY Y1 = prY Y := prY_fr (ho 1 (by omega)) (ho 3 (by omega))
    obtain ⟨Y', a, b, d⟩ := ih (i + 1) F' (pX Y1 32 (upd (Y1 32) i (bB (lv Y n i)))) (c + if lv Y n i = true then 1 else 0) (by omega) (by omega) (ho2 _)
    refine ⟨Y', ?_, b, fun j => ?_⟩
    · rw [zl3]
      generalize hR9 : loop3 _ F' = R9 at a
      have h1 : Y1 1 i = Y 1 i := by rw [ho 1 (by omega)]
      have go : ∀ s : Int32, s = bB (lv Y n i) → b_X11_remove_86 R9 Y1 (nI n) (nI c) (nI i) s (nI i) = l_X11_remove_112 (nI (c + cnt (lv Y n) (m + 1) i)) Y' 0 := by
        intro s hs
        subst hs
        unfold b_X11_remove_86 b_X11_remove_102
        rw [if_pos (n_ok60 hi6), nI_clamp (sm hi6), nar01 (show bB (lv Y n i) = 0 ∨ bB (lv Y n i) = 1 by cases lv Y n i <;> simp [bB]), dX_eq, if_pos (n_ok60 hi6), show (pX Y1 32 (upd (Y1 32) i (bB (lv Y n i)))) 32 i = bB (lv Y n i) from (u_at _ _ _ _).trans (if_pos rfl), cnt_s, dV_eq, dV_eq, dV_eq, dV_eq, n_add1, n_add1, Int32.add_zero, ← Nat.add_assoc]
        cases el : lv Y n i with
        | true =>
          rw [el] at a
          rw [if_neg (show ¬ bB true = 0 by decide), if_pos rfl]
          rw [if_pos rfl] at a
          exact a
        | false =>
          rw [el] at a
          rw [if_pos (show bB false = 0 by decide), if_neg (by decide)]
          rw [if_neg (by decide)] at a
          exact a
      unfold lb_X11_remove_45
      rw [if_neg (show ¬ Y1 0 2 ≤ nI i by rw [ho 0 (by omega), hT.1.2.2]; exact nI_ge (by omega) (by omega)), if_pos (n_ok60 hi6), nI_clamp (sm hi6), h1]
      by_cases e : Y 1 i = 0
      · rw [if_pos e]
        exact go 0 (by simp [lv, e, bB])
      · rw [if_neg e]
        by_cases q : i = n
        · rw [if_pos (by rw [q])]
          exact go 1 (by rw [(lv_iff hT).mpr ⟨e, by rw [q]; exact On.self n⟩]; rfl)
        · rw [if_neg (nne hi6 hn q), y_isBelow hT1 hi6 (by rw [h1]; exact e) hn, bd_some, hpr]
          cases hb : belo (prY Y) i n with
          | true =>
            rw [if_neg (show ¬ bB true = 0 by decide)]
            exact go 1 (by simp [lv, e, hb, bB])
          | false =>
            rw [if_pos (show bB false = 0 by decide)]
            exact go 0 (by simp [lv, q, hb, bB])
    · rw [d j, p_at, if_pos rfl, u_at]
      by_cases q : j = i
      · rw [if_neg (by omega), if_pos q, if_pos (by omega), q]
      · rw [if_neg q]
        by_cases q2 : i + 1 ≤ j ∧ j < M
        · rw [if_pos q2, if_pos (by omega)]
        · rw [if_neg q2, if_neg (by omega)]
theorem y_rm2 {M R : Nat} {c : Int32} (hM : M ≤ 60) : ∀ m i F (Y : JX), i + m = M → m + 1 ≤ F → Y 0 2 = nI M → Y 0 12 = nI R → ∃ Y', loop2 (lb_X11_remove_112 c) F Y (nI i) = l_X11_remove_168 c (nI R) Y' (nI R - 1) ∧ (∀ q, q ≠ 1 → Y' q = Y q) ∧ ∀ j, Y' 1 j = if i ≤ j ∧ j < M then (if Y 1 j ≠ 0 ∧ Y 32 j = 0 then 1 else 0) else Y 1 j := by
  intro m
  induction m with
  | zero =>
    intro i F Y hi hF h2 h12
    obtain ⟨F', rfl⟩ := Nat.exists_eq_add_of_le' hF
    refine ⟨Y, ?_, fun _ _ => rfl, fun j => by rw [if_neg (by omega)]⟩
    rw [zl2]
    generalize hR9 : loop2 _ F' = R9
    unfold lb_X11_remove_112
    rw [if_pos (show Y 0 2 ≤ nI i by rw [h2]; exact nI_le (by omega) (by omega)), dV_eq, dV_eq, h12]
  | succ m ih =>
    intro i F Y hi hF h2 h12
    obtain ⟨F', rfl⟩ := Nat.exists_eq_add_of_le' (show 1 ≤ F by omega)
    have hi6 : i < 60 := by omega
    obtain ⟨Y', a, b, d⟩ := ih (i + 1) F' (pX Y 1 (upd (Y 1) i (if Y 1 i ≠ 0 ∧ Y 32 i = 0 then 1 else 0))) (by omega) (by omega) h2 h12
    refine ⟨Y', ?_, fun q hq => (b q hq).trans (if_neg hq), fun j => ?_⟩
    · rw [zl2]
      generalize hR9 : loop2 _ F' = R9 at a
      unfold lb_X11_remove_112 b_X11_remove_148
      rw [if_neg (show ¬ Y 0 2 ≤ nI i by rw [h2]; exact nI_ge (by omega) (by omega)), if_pos (n_ok60 hi6), if_pos (n_ok60 hi6), if_pos (n_ok60 hi6), if_pos (n_ok60 hi6), nI_clamp (sm hi6), dX_eq, dX_eq, dV_eq, dV_eq, n_add1]
      by_cases e : Y 1 i = 0
      · rw [if_neg (fun z => z.1 e)] at a
        rw [if_pos e]; exact a
      · rw [if_neg e]
        by_cases e2 : Y 32 i = 0
        · rw [if_pos ⟨e, e2⟩] at a
          rw [if_neg (fun z => z e2)]; exact a
        · rw [if_neg (fun z => e2 z.2)] at a
          rw [if_pos e2]; exact a
    · rw [d j]
      show (if i + 1 ≤ j ∧ j < M then (if upd (Y 1) i (if Y 1 i ≠ 0 ∧ Y 32 i = 0 then 1 else 0) j ≠ 0 ∧ Y 32 j = 0 then 1 else 0) else upd (Y 1) i (if Y 1 i ≠ 0 ∧ Y 32 i = 0 then 1 else 0) j) = _
      rw [u_at]
      by_cases q : j = i
      · rw [if_neg (show ¬ (i + 1 ≤ j ∧ j < M) by omega), if_pos q, if_pos (show i ≤ j ∧ j < M by omega), q]
      · rw [if_neg q]
        by_cases q2 : i + 1 ≤ j ∧ j < M
        · rw [if_pos q2, if_pos (show i ≤ j ∧ j < M by omega)]
        · rw [if_neg q2, if_neg (show ¬ (i ≤ j ∧ j < M) by omega)]

/-! ===== call: stale ===== -/
def knw (Y : JX) (k : Nat) : Bool := decide (Y 19 k ≠ 0 ∧ Y 20 k = Y 3 k ∧ Y 21 k = Y 4 k ∧ (Y 2 k ≠ 0 ∨ Y 22 k = Y 5 k))
theorem y_isKnown {Y : JX} {k : Nat} (hk : k < 60) : f_X11_isKnown Y (nI k) = some (bB (knw Y k)) := by
  have ok := n_ok60 hk
  unfold f_X11_isKnown b_X11_isKnown_63 knw
  rw [if_pos ok, if_pos ok, if_pos ok, if_pos ok, if_pos ok, if_pos ok, if_pos ok, if_pos ok, nI_clamp (sm hk)]
  by_cases h1 : Y 19 k = 0
  · rw [if_pos h1, decide_eq_false (fun z => z.1 h1)]; rfl
  · rw [if_neg h1]
    by_cases h2 : Y 20 k = Y 3 k
    · rw [if_neg (fun z => z h2)]
      by_cases h3 : Y 21 k = Y 4 k
      · rw [if_neg (fun z => z h3)]
        by_cases h4 : Y 2 k = 0
        · rw [if_neg (fun z => z h4)]
          by_cases h5 : Y 22 k = Y 5 k
          · rw [if_neg (fun z => z h5), decide_eq_true ⟨h1, h2, h3, Or.inr h5⟩]; rfl
          · rw [if_pos h5, decide_eq_false (fun z => z.2.2.2.elim (fun w => w h4) h5)]; rfl
        · rw [if_pos h4, decide_eq_true ⟨h1, h2, h3, Or.inl h4⟩]; rfl
      · rw [if_pos h3, decide_eq_false (fun z => h3 z.2.2.1)]; rfl
    · rw [if_pos h2, decide_eq_false (fun z => h2 z.2.1)]; rfl
/-- behind: not known, of what is there -/
theorem x_isBehind {X Y : JX} {M k : Nat} (hT : TY Y M) (hx : TX X Y) (hE : EX X Y) (hk : k < 60) (ht : Y 1 k ≠ 0) : f_X2_isBehind X (nI k) = some (bB (! knw Y k)) := by
  have ok := n_ok60 hk
  obtain ⟨a2, a3, a4, a5, a6, a7, a9, a8, at', ac⟩ := hx.2 k hk
  obtain ⟨e36, e37, e38, e39, -⟩ := hE k hk
  have p : X 2 k = Y 3 k := by rw [a2]; exact (hT.st k ⟨hk, ht⟩).2.1.symm
  unfold f_X2_isBehind knw
  rw [x_has hk, bd_some, x_parentOf hk, x_nameOf hk (by rw [a3]; exact ac), x_isFile hk, x_editionOf hk, bd_some, bd_some, bd_some, bd_some, if_pos ok, if_pos ok, if_pos ok, nI_clamp (sm hk), e36, e37, e38, e39, p, a3, a4, a5]
  by_cases h1 : Y 19 k = 0
  · rw [bo_f (fun z => z h1), if_neg (fun z => z rfl), decide_eq_false (fun z => z.1 h1)]; rfl
  · rw [bo_t h1, if_pos one0]
    by_cases h2 : Y 20 k = Y 3 k
    · rw [if_neg (fun z => z h2)]
      by_cases h3 : Y 21 k = Y 4 k
      · rw [if_pos h3]
        by_cases h4 : Y 2 k = 0
        · rw [bo_t ⟨ht, h4⟩, if_neg one0, a8 h4]
          by_cases h5 : Y 22 k = Y 5 k
          · rw [if_pos h5, decide_eq_true ⟨h1, h2, h3, Or.inr h5⟩]; rfl
          · rw [if_neg h5, decide_eq_false (fun z => z.2.2.2.elim (fun w => w h4) h5)]; rfl
        · rw [bo_f (fun z => h4 z.2), if_pos rfl, decide_eq_true ⟨h1, h2, h3, Or.inl h4⟩]; rfl
      · rw [if_neg h3, decide_eq_false (fun z => h3 z.2.2.1)]; rfl
    · rw [if_pos h2, decide_eq_false (fun z => h2 z.2.1)]; rfl
def stl (Y : JX) (R k : Nat) : Bool := match ov Y R k with
  | none => decide (Y 19 k ≠ 0)
  | some _ => decide (Y 2 k = 0) && ! knw Y k
theorem x_stale_loop {X Y : JX} {M R : Nat} (hT : TY Y M) (hx : TX X Y) (hY : RY Y R) (hX : RX X Y R) (hE : EX X Y) : ∀ m i F c, i + m = 60 → m + 1 ≤ F → loop2 (lb_X2_countStale_4 X) F (nI c) (nI i) = some (nI (c + cnt (stl Y R) m i)) := by
  intro m
  induction m with
  | zero =>
    intro i F c hi hF
    obtain ⟨F', rfl⟩ := Nat.exists_eq_add_of_le' hF
    have : i = 60 := by omega
    subst this
    rw [zl2]
    generalize hR9 : loop2 _ F' = R9
    unfold lb_X2_countStale_4
    rw [if_pos g60]
    rfl
  | succ m ih =>
    intro i F c hi hF
    obtain ⟨F', rfl⟩ := Nat.exists_eq_add_of_le' (show 1 ≤ F by omega)
    rw [zl2]
    have h9 := fun c => ih (i + 1) F' c (by omega) (by omega)
    generalize hR9 : loop2 _ F' = R9 at h9
    have hi6 : i < 60 := by omega
    have ok := n_ok60 hi6
    have no : b_X2_countStale_65 R9 X (nI c) (nI i) = some (nI (c + cnt (stl Y R) m (i + 1))) := by
      unfold b_X2_countStale_65
      rw [dV_eq, n_add1, h9]
    have yes : b_X2_countStale_62 R9 X (nI c) (nI i) = some (nI (c + (1 + cnt (stl Y R) m (i + 1)))) := by
      unfold b_X2_countStale_62 b_X2_countStale_65
      rw [dV_eq, dV_eq, n_add1, n_add1, h9, Nat.add_assoc]
    unfold lb_X2_countStale_4 b_X2_countStale_26
    rw [if_neg (nl60 hi6), x_above hX hY hT hx hi6, bd_some, cnt_s]
    unfold stl
    cases e : ov Y R i with
    | none =>
      rw [Option.map_none, oC_none, if_pos rfl, if_pos ok, nI_clamp (sm hi6), (hE i hi6).1]
      by_cases h : Y 19 i = 0
      · rw [if_pos h, show (if decide (Y 19 i ≠ 0) = true then 1 else 0) = 0 from if_neg (by simp [h]), Nat.zero_add]
        exact no
      · rw [if_neg h, show (if decide (Y 19 i ≠ 0) = true then 1 else 0) = 1 from if_pos (by simp [h])]
        exact yes
    | some r =>
      have ht : Y 1 i ≠ 0 := fun z => by rw [ov_gone z] at e; cases e
      rw [Option.map_some, oC_some, if_pos (hX.1.1 r (by have := ov_lt e; have := hY.1.1; omega)), if_neg one0, x_isFile hi6, bd_some, (hx.2 i hi6).2.2.2.1, (hx.2 i hi6).2.2.1]
      by_cases h : Y 2 i = 0
      · rw [bo_t ⟨ht, h⟩, if_neg one0, x_isBehind hT hx hE hi6 ht, bd_some]
        cases hk : knw Y i with
        | true =>
          rw [if_pos (show bB (!true) = 0 by decide), show (if (decide (Y 2 i = 0) && !true) = true then 1 else 0) = 0 from if_neg (by simp), Nat.zero_add]
          exact no
        | false =>
          rw [if_neg (show ¬ bB (!false) = 0 by decide), show (if (decide (Y 2 i = 0) && !false) = true then 1 else 0) = 1 from if_pos (by simp [h])]
          exact yes
      · rw [bo_f (fun z => h z.2), if_pos rfl, show (if (decide (Y 2 i = 0) && !knw Y i) = true then 1 else 0) = 0 from if_neg (by simp [h]), Nat.zero_add]
        exact no
theorem y_stale_loop {Y : JX} {M R : Nat} (hT : TY Y M) (hY : RY Y R) : ∀ m i F c, i + m = M → m + 1 ≤ F → loop2 (lb_X11_stale_9 Y) F (nI c) (nI i) = some (nI (c + cnt (stl Y R) m i), Y) := by
  have hM := hT.1.2.1
  intro m
  induction m with
  | zero =>
    intro i F c hi hF
    obtain ⟨F', rfl⟩ := Nat.exists_eq_add_of_le' hF
    rw [zl2]
    generalize hR9 : loop2 _ F' = R9
    unfold lb_X11_stale_9
    rw [if_pos (show Y 0 2 ≤ nI i by rw [hT.1.2.2]; exact nI_le (by omega) (by omega))]
    rfl
  | succ m ih =>
    intro i F c hi hF
    obtain ⟨F', rfl⟩ := Nat.exists_eq_add_of_le' (show 1 ≤ F by omega)
    rw [zl2]
    have h9 := fun c => ih (i + 1) F' c (by omega) (by omega)
    generalize hR9 : loop2 _ F' = R9 at h9
    have hi6 : i < 60 := by omega
    have ok := n_ok60 hi6
    have no : b_X11_stale_80 R9 Y (nI i) 0 (nI c) = some (nI (c + cnt (stl Y R) m (i + 1)), Y) := by
      unfold b_X11_stale_80
      rw [dV_eq, dV_eq, n_add1, Int32.add_zero, h9]
    have yes : b_X11_stale_80 R9 Y (nI i) 1 (nI c) = some (nI (c + (1 + cnt (stl Y R) m (i + 1))), Y) := by
      unfold b_X11_stale_80
      rw [dV_eq, dV_eq, n_add1, n_add1, h9, Nat.add_assoc]
    have no' : b_X11_stale_80 R9 Y (nI i) 0 (nI (c + 1)) = some (nI (c + (1 + cnt (stl Y R) m (i + 1))), Y) := by
      unfold b_X11_stale_80
      rw [dV_eq, dV_eq, n_add1, Int32.add_zero, h9, Nat.add_assoc]
    unfold lb_X11_stale_9 b_X11_stale_31 b_X11_stale_59
    rw [if_neg (show ¬ Y 0 2 ≤ nI i by rw [hT.1.2.2]; exact nI_ge (by omega) (by omega)), y_over hY hT hi6, bd_some, cnt_s]
    unfold stl
    cases e : ov Y R i with
    | none =>
      rw [if_pos (show enc none = -1 from rfl), if_pos rfl, dV_eq, if_pos ok, nI_clamp (sm hi6), Int32.add_zero]
      by_cases h : Y 19 i = 0
      · rw [if_pos h, show (if decide (Y 19 i ≠ 0) = true then 1 else 0) = 0 from if_neg (by simp [h]), Nat.zero_add]
        exact no
      · rw [if_neg h, if_neg (fun z => z rfl), show (if decide (Y 19 i ≠ 0) = true then 1 else 0) = 1 from if_pos (by simp [h])]
        exact yes
    | some r =>
      have hr := ov_lt e
      rw [show enc (some r) = nI r from rfl, if_neg (nm1 (show r < 2 ^ 31 by have := hY.1.1; omega)), if_neg one0, if_pos ok, nI_clamp (sm hi6), y_isKnown hi6, bd_some]
      by_cases h : Y 2 i = 0
      · rw [if_neg (fun z => z h)]
        cases hk : knw Y i with
        | true =>
          rw [if_pos (show ¬ bB true = 0 by decide), show (if (decide (Y 2 i = 0) && !true) = true then 1 else 0) = 0 from if_neg (by simp), Nat.zero_add, dV_eq, if_pos ok, Int32.add_zero, if_pos one0, no]
          split <;> rfl
        | false =>
          rw [if_neg (show ¬ ¬ bB false = 0 by decide), show (if (decide (Y 2 i = 0) && !false) = true then 1 else 0) = 1 from if_pos (by simp [h]), dV_eq, if_pos ok, n_add1, if_pos one0, no']
          split <;> rfl
      · rw [if_pos h, show (if (decide (Y 2 i = 0) && !knw Y i) = true then 1 else 0) = 0 from if_neg (by simp [h]), Nat.zero_add, dV_eq, if_pos ok, Int32.add_zero, if_pos one0, no]
        split <;> rfl
theorem op_22 {i : Nat} {X Y : JX} (h : Rel i X Y) : OpSim (Rel (i + 5)) X Y 22 := by
  have h' := (h.mono (show i ≤ i + 5 by omega)).thr (s := 0)
  obtain ⟨M, R, A, P, S, ⟨h1, h2, h3⟩, ⟨h4, h5, h6⟩, ⟨h7, h8⟩, -⟩ := h
  have hM := h1.1.2.1
  have e1 : f_X10_stale X = some (nI (cnt (stl Y R) M 0)) := by
    have hl := x_stale_loop h1 h2 h4 h5 h7 60 0 1000 0 rfl (by decide)
    rw [Nat.zero_add] at hl
    have h9 : f_X2_countStale X = some (nI (cnt (stl Y R) 60 0)) := hl
    unfold f_X10_stale
    rw [h9, bd_some]
    rw [cnt_60 hM (fun n hn hn6 => by
      have h10 : Y 1 n = 0 := by
        by_cases e : Y 1 n = 0
        · exact e
        · exact absurd (h1.2.2.1 n hn6 e) (by omega)
      have h19 : Y 19 n = 0 := by
        by_cases e : Y 19 n = 0
        · exact e
        · exact absurd ((h8 n hn6).1 e).1 (by omega)
      unfold stl
      rw [ov_gone h10]
      simp [h19])]
  have e2 : f_X11_stale Y = some (nI (cnt (stl Y R) M 0), thr Y 0) := by
    unfold f_X11_stale
    rw [dX_eq]
    have := y_stale_loop (Y := thr Y 0) (M := M) (R := R) h1 h4 M 0 1000 0 (Nat.zero_add _) (by omega)
    rw [Nat.zero_add] at this
    exact this
  exact ⟨_, _, e1, e2, h'⟩

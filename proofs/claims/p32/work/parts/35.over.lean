/-! ===== over; a root at or below ===== -/
theorem rf_eq {Y : JX} {R r : Nat} (hY : RY Y R) (hr : r < R) : Y 10 r = nI (rf Y r) := (hY.2.1 r hr).2.1
theorem ov_lt {Y : JX} {R n r : Nat} (h : ov Y R n = some r) : r < R := by
  obtain ⟨k, -, h2⟩ := hol_some 60 _ h
  exact (ro_lt h2).1
theorem ov_gone {Y : JX} {R n : Nat} (h : Y 1 n = 0) : ov Y R n = none := by
  unfold ov
  rw [show prY Y n = none by unfold prY; rw [if_neg (fun q => q.2 h)]]
  rfl
theorem y_over_loop {Y : JX} {R M n : Nat} (hY : RY Y R) (hT : TY Y M) (hn : n < 60) (h1 : Y 1 n ≠ 0) : ∀ m i F acc, i + m = R → m + 1 ≤ F → loop2 (lb_X11_over_4 Y (nI n)) F acc (nI i) = some (match ov Y R n with | some r => if i ≤ r then nI r else acc | none => acc) := by
  intro m
  induction m with
  | zero =>
    intro i F acc hi hF
    obtain ⟨F', rfl⟩ := Nat.exists_eq_add_of_le' hF
    rw [zl2]
    generalize hR9 : loop2 _ F' = R9
    unfold lb_X11_over_4
    have := hY.1.1
    rw [if_pos (show Y 0 12 ≤ nI i by rw [hY.1.2]; exact nI_le (by omega) (by omega))]
    cases e : ov Y R n with
    | none => rfl
    | some r =>
      have := ov_lt e
      show some acc = some (if i ≤ r then nI r else acc)
      rw [if_neg (by omega)]
  | succ m ih =>
    intro i F acc hi hF
    obtain ⟨F', rfl⟩ := Nat.exists_eq_add_of_le' (show 1 ≤ F by omega)
    rw [zl2]
    have h9 := fun acc => ih (i + 1) F' acc (by omega) (by omega)
    generalize hR9 : loop2 _ F' = R9 at h9
    have := hY.1.1
    have hr : i < R := by omega
    unfold lb_X11_over_4 b_X11_over_40
    rw [if_neg (show ¬ Y 0 12 ≤ nI i by rw [hY.1.2]; exact nI_ge (by omega) (by omega)), if_pos (n_ok hn (by decide)), nI_clamp (sm hn), if_neg h1, if_pos (n_ok4 (by omega)), nI_clamp (show i < 2 ^ 31 by omega), rf_eq hY hr, y_isBelow hT hn h1 (hY.2.1 i hr).1, bd_some, dV_eq, dV_eq, n_add1]
    have hb := ov_belo hY hT hr (n := n)
    cases hc : belo (prY Y) n (rf Y i) with
    | true =>
      rw [if_neg (show ¬ bB true = 0 by decide), h9, hb.mp hc]
      show some (if i + 1 ≤ i then nI i else nI i) = some (if i ≤ i then nI i else acc)
      rw [if_neg (by omega), if_pos (Nat.le_refl i)]
    | false =>
      rw [if_pos (show bB false = 0 by decide), h9]
      cases e : ov Y R n with
      | none => rfl
      | some r =>
        have hne : i ≠ r := fun q => by
          rw [q] at hb hc
          rw [hb.mpr e] at hc
          cases hc
        show some (if i + 1 ≤ r then nI r else acc) = some (if i ≤ r then nI r else acc)
        by_cases q : i ≤ r
        · rw [if_pos q, if_pos (by omega)]
        · rw [if_neg q, if_neg (by omega)]
theorem y_over {Y : JX} {R M n : Nat} (hY : RY Y R) (hT : TY Y M) (hn : n < 60) : f_X11_over Y (nI n) = some (enc (ov Y R n)) := by
  unfold f_X11_over l_X11_over_4
  have hR3 := hY.1.1
  rw [dV_eq]
  by_cases h1 : Y 1 n = 0
  · rw [show (1000 : Nat) = 999 + 1 from rfl, zl2]
    generalize hR9 : loop2 _ 999 = R9
    unfold lb_X11_over_4
    rw [if_pos (n_ok hn (by decide)), nI_clamp (sm hn), if_pos h1, ov_gone h1]
    by_cases q : Y 0 12 ≤ 0
    · rw [if_pos q]; rfl
    · rw [if_neg q]; rfl
  · rw [show (0 : Int32) = nI 0 from rfl, y_over_loop hY hT hn h1 R 0 1000 (-1) (Nat.zero_add _) (by omega)]
    cases e : ov Y R n with
    | none => rfl
    | some r => rfl
/-- some of m things from i on -/
def anyl (p : Nat → Bool) : Nat → Nat → Bool
  | 0, _ => false
  | m + 1, i => p i || anyl p m (i + 1)
theorem anyl_s (p : Nat → Bool) (m i : Nat) : anyl p (m + 1) i = (p i || anyl p m (i + 1)) := rfl
theorem anyl_iff (p : Nat → Bool) : ∀ m i, anyl p m i = true ↔ ∃ r, i ≤ r ∧ r < i + m ∧ p r = true := by
  intro m
  induction m with
  | zero => intro i; constructor
            · intro h; cases h
            · rintro ⟨r, a, b, -⟩; omega
  | succ m ih =>
    intro i
    rw [anyl_s, Bool.or_eq_true, ih]
    constructor
    · rintro (h | ⟨r, a, b, c⟩)
      · exact ⟨i, Nat.le_refl _, by omega, h⟩
      · exact ⟨r, by omega, by omega, c⟩
    · rintro ⟨r, a, b, c⟩
      by_cases q : r = i
      · rw [q] at c; exact Or.inl c
      · exact Or.inr ⟨r, by omega, by omega, c⟩
/-- a root at or below a node -/
def hr (Y : JX) (R n : Nat) : Bool := anyl (fun r => decide (rf Y r = n) || belo (prY Y) (rf Y r) n) R 0
theorem x_hr_loop {X Y : JX} {R M n : Nat} (hX : RX X Y R) (hY : RY Y R) (hT : TY Y M) (hx : TX X Y) (hn : n < 60) : ∀ m i F, i + m = R → m + 1 ≤ F → loop1 (lb_X8_hasAtOrBelow_2 X (nI n)) F (nI i) = some (bB (anyl (fun r => decide (rf Y r = n) || belo (prY Y) (rf Y r) n) m i)) := by
  intro m
  induction m with
  | zero =>
    intro i F hi hF
    obtain ⟨F', rfl⟩ := Nat.exists_eq_add_of_le' hF
    rw [zl1]
    generalize hR9 : loop1 _ F' = R9
    unfold lb_X8_hasAtOrBelow_2
    have := hY.1.1
    rw [if_pos (show X 11 2 ≤ nI i by rw [hX.2.1]; exact nI_le (by omega) (by omega))]
    rfl
  | succ m ih =>
    intro i F hi hF
    obtain ⟨F', rfl⟩ := Nat.exists_eq_add_of_le' (show 1 ≤ F by omega)
    rw [zl1]
    have h9 := ih (i + 1) F' (by omega) (by omega)
    generalize hR9 : loop1 _ F' = R9 at h9
    have h3 := hY.1.1
    have hr : i < R := by omega
    unfold lb_X8_hasAtOrBelow_2 b_X8_hasAtOrBelow_51
    rw [if_neg (show ¬ X 11 2 ≤ nI i by rw [hX.2.1]; exact nI_ge (by omega) (by omega)), if_neg (nl3 (by omega)), if_pos (n_ok (show i < 3 by omega) (by decide)), nI_clamp (show i < 2 ^ 31 by omega), dN_eq]
    rw [show (X 12 i).toNatClampNeg = pl X i from rfl, if_pos (hX.1.1 i (by omega)), dV_eq, n_add1, h9, hX.2.2 i hr, rf_eq hY hr, anyl_s]
    by_cases e : rf Y i = n
    · rw [if_pos (by rw [e])]
      simp [e, bB]
    · rw [if_neg (nne (hY.2.1 i hr).1 hn e), x_isBelow hn (hY.2.1 i hr).1 (pr := prY Y) (fun n hn => (hx.2 n hn).1) hT.lt, bd_some]
      cases hc : belo (prY Y) (rf Y i) n with
      | true => rw [if_neg (show ¬ bB true = 0 by decide)]; simp [bB]
      | false => rw [if_pos (show bB false = 0 by decide)]; simp [e]
theorem x_hr {X Y : JX} {R M n : Nat} (hX : RX X Y R) (hY : RY Y R) (hT : TY Y M) (hx : TX X Y) (hn : n < 60) : f_X8_hasAtOrBelow X (nI n) = some (bB (hr Y R n)) := by
  have := hY.1.1
  exact x_hr_loop hX hY hT hx hn R 0 1000 (Nat.zero_add _) (by omega)
theorem y_hr_loop {Y : JX} {R M n : Nat} (hY : RY Y R) (hT : TY Y M) (hn : n < 60) : ∀ m i F acc, i + m = R → m + 1 ≤ F → loop2 (lb_X11_holdsRoot_4 Y (nI n)) F (bB acc) (nI i) = some (bB (acc || anyl (fun r => decide (rf Y r = n) || belo (prY Y) (rf Y r) n) m i)) := by
  intro m
  induction m with
  | zero =>
    intro i F acc hi hF
    obtain ⟨F', rfl⟩ := Nat.exists_eq_add_of_le' hF
    rw [zl2]
    generalize hR9 : loop2 _ F' = R9
    unfold lb_X11_holdsRoot_4
    have := hY.1.1
    rw [if_pos (show Y 0 12 ≤ nI i by rw [hY.1.2]; exact nI_le (by omega) (by omega)), if_pos (bB_ok acc)]
    simp [anyl]
  | succ m ih =>
    intro i F acc hi hF
    obtain ⟨F', rfl⟩ := Nat.exists_eq_add_of_le' (show 1 ≤ F by omega)
    rw [zl2]
    have h9 := fun acc => ih (i + 1) F' acc (by omega) (by omega)
    generalize hR9 : loop2 _ F' = R9 at h9
    have h3 := hY.1.1
    have hr : i < R := by omega
    have ht := h9 true
    have hf := h9 false
    rw [show bB true = 1 from rfl] at ht
    rw [show bB false = 0 from rfl] at hf
    unfold lb_X11_holdsRoot_4 b_X11_holdsRoot_45
    rw [if_neg (show ¬ Y 0 12 ≤ nI i by rw [hY.1.2]; exact nI_ge (by omega) (by omega)), anyl_s, dV_eq, n_add1, dV_eq]
    cases acc with
    | true => rw [if_pos (show ¬ bB true = 0 by decide), ht]; simp
    | false =>
      rw [if_neg (show ¬ ¬ bB false = 0 by decide), if_pos (n_ok4 (by omega)), nI_clamp (show i < 2 ^ 31 by omega), rf_eq hY hr]
      by_cases e : rf Y i = n
      · rw [if_pos (by rw [e]), ht]
        simp [e]
      · rw [if_neg (nne (hY.2.1 i hr).1 hn e), if_pos (n_ok4 (by omega)), y_isBelow hT (hY.2.1 i hr).1 (hY.2.1 i hr).2.2.1 hn, bd_some]
        cases hc : belo (prY Y) (rf Y i) n with
        | true => rw [if_neg (show ¬ bB true = 0 by decide), ht]; simp
        | false => rw [if_pos (show bB false = 0 by decide), hf]; simp [e]
theorem y_hr {Y : JX} {R M n : Nat} (hY : RY Y R) (hT : TY Y M) (hn : n < 60) : f_X11_holdsRoot Y (nI n) = some (bB (hr Y R n)) := by
  have := hY.1.1
  have h := y_hr_loop hY hT hn R 0 1000 false (Nat.zero_add _) (by omega)
  rw [Bool.false_or] at h
  exact h

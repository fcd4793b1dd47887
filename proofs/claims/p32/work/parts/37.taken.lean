/-! ===== the name in a folder; how many nodes ===== -/
/-- the first of m from i on -/
def fst (p : Nat → Bool) : Nat → Nat → Option Nat
  | 0, _ => none
  | m + 1, i => if p i = true then some i else fst p m (i + 1)
theorem fst_s (p : Nat → Bool) (m i : Nat) : fst p (m + 1) i = if p i = true then some i else fst p m (i + 1) := rfl
theorem fst_some {p : Nat → Bool} {r : Nat} : ∀ m i, fst p m i = some r → i ≤ r ∧ r < i + m ∧ p r = true ∧ ∀ s, i ≤ s → s < r → p s = false := by
  intro m
  induction m with
  | zero => intro i h; cases h
  | succ m ih =>
    intro i h
    rw [fst_s] at h
    by_cases e : p i = true
    · rw [if_pos e] at h; cases h
      exact ⟨Nat.le_refl _, by omega, e, fun s h1 h2 => by omega⟩
    · rw [if_neg e] at h
      obtain ⟨a, b, c, d⟩ := ih (i + 1) h
      refine ⟨by omega, by omega, c, fun s h1 h2 => ?_⟩
      by_cases q : s = i
      · rw [q]; exact Bool.eq_false_iff.mpr e
      · exact d s (by omega) h2
theorem fst_none {p : Nat → Bool} : ∀ m i, fst p m i = none → ∀ r, i ≤ r → r < i + m → p r = false := by
  intro m
  induction m with
  | zero => intro i _ r h1 h2; omega
  | succ m ih =>
    intro i h r h1 h2
    rw [fst_s] at h
    by_cases e : p i = true
    · rw [if_pos e] at h; cases h
    · rw [if_neg e] at h
      by_cases q : r = i
      · rw [q]; exact Bool.eq_false_iff.mpr e
      · exact ih (i + 1) h r (by omega) (by omega)
theorem n_ok60 {i : Nat} (h : i < 60) : okI (nI i) 60 = true := n_ok h (by decide)
def isIn (Y : JX) (f c : Int32) (n : Nat) : Bool := decide (Y 1 n ≠ 0 ∧ Y 3 n = f ∧ Y 4 n = c)
theorem x_findIn_loop {X Y : JX} {M f : Nat} {c : Int32} (hT : TY Y M) (hx : TX X Y) (hf : f < 60) : ∀ m i F, i + m = 60 → m + 1 ≤ F → loop1 (lb_X9_findIn_2 X (nI f) c) F (nI i) = some (enc (fst (isIn Y (nI f) c) m i)) := by
  intro m
  induction m with
  | zero =>
    intro i F hi hF
    obtain ⟨F', rfl⟩ := Nat.exists_eq_add_of_le' hF
    have : i = 60 := by omega
    subst this
    rw [zl1]
    generalize hR9 : loop1 _ F' = R9
    unfold lb_X9_findIn_2
    rw [if_pos g60]
    rfl
  | succ m ih =>
    intro i F hi hF
    obtain ⟨F', rfl⟩ := Nat.exists_eq_add_of_le' (show 1 ≤ F by omega)
    rw [zl1]
    have h9 := ih (i + 1) F' (by omega) (by omega)
    generalize hR9 : loop1 _ F' = R9 at h9
    have hi60 : i < 60 := by omega
    obtain ⟨x2, x3, -, x5, -⟩ := hx.2 i hi60
    unfold lb_X9_findIn_2 b_X9_findIn_39
    rw [if_neg (nl60 hi60), if_pos (n_ok60 hi60), if_pos (n_ok60 hi60), if_pos (n_ok60 hi60), nI_clamp (sm hi60), dV_eq, n_add1, h9, fst_s, x2, x3, x5]
    by_cases h1 : Y 1 i = 0
    · rw [if_pos h1, if_neg (show ¬ isIn Y (nI f) c i = true by simp [isIn, h1])]
    · rw [if_neg h1, ← (hT.st i ⟨hi60, h1⟩).2.1]
      by_cases h2 : Y 3 i = nI f
      · rw [if_neg (fun q => q h2)]
        by_cases h3 : Y 4 i = c
        · rw [if_neg (fun q => q h3), if_pos (show isIn Y (nI f) c i = true by simp [isIn, h1, h2, h3])]
          rfl
        · rw [if_pos h3, if_neg (show ¬ isIn Y (nI f) c i = true by simp [isIn, h3])]
      · rw [if_pos h2, if_neg (show ¬ isIn Y (nI f) c i = true by simp [isIn, h2])]
theorem x_findIn {X Y : JX} {M f : Nat} {c : Int32} (hT : TY Y M) (hx : TX X Y) (hf : f < 60) : f_X9_findIn X (nI f) c = some (enc (fst (isIn Y (nI f) c) 60 0)) := x_findIn_loop hT hx hf 60 0 1000 rfl (by decide)
theorem y_taken_loop {Y : JX} {M : Nat} {f c b : Int32} (hT : TY Y M) : ∀ m i F acc, i + m = M → m + 1 ≤ F → loop2 (lb_X11_isTaken_6 Y f c b) F (bB acc) (nI i) = some (bB (acc || anyl (fun n => decide (nI n ≠ b) && isIn Y f c n) m i)) := by
  intro m
  induction m with
  | zero =>
    intro i F acc hi hF
    obtain ⟨F', rfl⟩ := Nat.exists_eq_add_of_le' hF
    rw [zl2]
    generalize hR9 : loop2 _ F' = R9
    unfold lb_X11_isTaken_6
    have := hT.1.2.1
    rw [if_pos (show Y 0 2 ≤ nI i by rw [hT.1.2.2]; exact nI_le (by omega) (by omega)), if_pos (bB_ok acc)]
    simp [anyl]
  | succ m ih =>
    intro i F acc hi hF
    obtain ⟨F', rfl⟩ := Nat.exists_eq_add_of_le' (show 1 ≤ F by omega)
    rw [zl2]
    have h9 := fun acc => ih (i + 1) F' acc (by omega) (by omega)
    generalize hR9 : loop2 _ F' = R9 at h9
    have hM := hT.1.2.1
    have hi60 : i < 60 := by omega
    have ht := h9 true
    have hf := h9 false
    rw [show bB true = 1 from rfl] at ht
    rw [show bB false = 0 from rfl] at hf
    unfold lb_X11_isTaken_6 b_X11_isTaken_63
    rw [if_neg (show ¬ Y 0 2 ≤ nI i by rw [hT.1.2.2]; exact nI_ge (by omega) (by omega)), if_pos (n_ok60 hi60), if_pos (n_ok60 hi60), if_pos (n_ok60 hi60), nI_clamp (sm hi60), dV_eq, dV_eq, n_add1, ht, hf, anyl_s]
    cases acc with
    | true => rw [if_pos (show ¬ bB true = 0 by decide)]; simp
    | false =>
      rw [if_neg (show ¬ ¬ bB false = 0 by decide)]
      by_cases h0 : nI i = b
      · rw [if_pos h0]; simp [h0]
      · rw [if_neg h0]
        by_cases h1 : Y 1 i = 0
        · rw [if_pos h1]; simp [isIn, h1]
        · rw [if_neg h1]
          by_cases h2 : Y 3 i = f
          · rw [if_neg (fun q => q h2)]
            by_cases h3 : Y 4 i = c
            · rw [if_neg (fun q => q h3)]; simp [isIn, h0, h1, h2, h3]
            · rw [if_pos h3]; simp [isIn, h3]
          · rw [if_pos h2]; simp [isIn, h2]
theorem y_taken {Y : JX} {M : Nat} {f c b : Int32} (hT : TY Y M) : f_X11_isTaken Y f c b = some (bB (anyl (fun n => decide (nI n ≠ b) && isIn Y f c n) M 0)) := by
  have h := y_taken_loop (f := f) (c := c) (b := b) hT M 0 1000 false (Nat.zero_add _) (by have := hT.1.2.1; omega)
  rw [Bool.false_or] at h
  exact h
/-- how many of m from i on -/
def cnt (p : Nat → Bool) : Nat → Nat → Nat
  | 0, _ => 0
  | m + 1, i => (if p i = true then 1 else 0) + cnt p m (i + 1)
theorem cnt_s (p : Nat → Bool) (m i : Nat) : cnt p (m + 1) i = (if p i = true then 1 else 0) + cnt p m (i + 1) := rfl
theorem cnt_le (p : Nat → Bool) : ∀ m i, cnt p m i ≤ m := by
  intro m
  induction m with
  | zero => intro i; exact Nat.le_refl _
  | succ m ih => intro i; rw [cnt_s]; have := ih (i + 1); split <;> omega
theorem cnt_congr {p q : Nat → Bool} : ∀ m i, (∀ j, i ≤ j → j < i + m → p j = q j) → cnt p m i = cnt q m i := by
  intro m
  induction m with
  | zero => intro i _; rfl
  | succ m ih => intro i h; rw [cnt_s, cnt_s, h i (Nat.le_refl _) (by omega), ih (i + 1) (fun j h1 h2 => h j (by omega) (by omega))]
theorem cnt_add {p : Nat → Bool} : ∀ m k i, cnt p (m + k) i = cnt p m i + cnt p k (i + m) := by
  intro m
  induction m with
  | zero => intro k i; rw [Nat.zero_add]; show _ = 0 + _; rw [Nat.zero_add]; rfl
  | succ m ih => intro k i; rw [show m + 1 + k = (m + k) + 1 by omega, cnt_s, cnt_s, ih, show i + 1 + m = i + (m + 1) by omega, Nat.add_assoc]
theorem cnt_0 {p : Nat → Bool} : ∀ m i, (∀ j, i ≤ j → j < i + m → p j = false) → cnt p m i = 0 := by
  intro m
  induction m with
  | zero => intro i _; rfl
  | succ m ih => intro i h; rw [cnt_s, h i (Nat.le_refl _) (by omega), ih (i + 1) (fun j h1 h2 => h j (by omega) (by omega))]; rfl
/-- none behind M: as many among 60 as among M -/
theorem cnt_60 {p : Nat → Bool} {M : Nat} (hM : M ≤ 60) (h : ∀ n, M ≤ n → n < 60 → p n = false) : cnt p 60 0 = cnt p M 0 := by
  rw [show (60 : Nat) = M + (60 - M) by omega, cnt_add, cnt_0 (60 - M) (0 + M) (fun j h1 h2 => h j (by omega) (by omega))]
  rfl

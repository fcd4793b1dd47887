/-! ===== the first root with notices, the first that is crawled ===== -/
theorem fst_snoc {p : Nat → Bool} : ∀ m i, fst p (m + 1) i = match fst p m i with | some r => some r | none => if p (i + m) = true then some (i + m) else none := by
  intro m
  induction m with
  | zero => intro i; rw [fst_s]; rfl
  | succ m ih =>
    intro i
    rw [fst_s, ih (i + 1), fst_s (m := m)]
    by_cases e : p i = true
    · rw [if_pos e, if_pos e]
    · rw [if_neg e, if_neg e, show i + 1 + m = i + (m + 1) by omega]
theorem m1_lt : nI 0 - 1 < (0 : Int32) := by decide
theorem n_m1 (j : Nat) : nI (j + 1) + -1 = nI (j + 1) - 1 := by rw [Int32.sub_eq_add_neg]
theorem nn_m1 (j : Nat) : nI j + -1 = nI j - 1 := by rw [Int32.sub_eq_add_neg]
def noisy (Y : JX) (r : Nat) : Bool := decide (Y 14 r ≠ 0 ∨ ¬ Y 11 r ≤ 0)
theorem y_noticed_loop {Y : JX} : ∀ j F acc, j ≤ 3 → j + 1 ≤ F → loop2 (lb_X11_firstNoticed_9 Y) F acc (nI j - 1) = some (match fst (noisy Y) j 0 with | some r => nI r | none => acc) := by
  intro j
  induction j with
  | zero =>
    intro F acc hj hF
    obtain ⟨F', rfl⟩ := Nat.exists_eq_add_of_le' hF
    rw [zl2]
    generalize hR9 : loop2 _ F' = R9
    unfold lb_X11_firstNoticed_9
    rw [if_pos m1_lt]
    rfl
  | succ j ih =>
    intro F acc hj hF
    obtain ⟨F', rfl⟩ := Nat.exists_eq_add_of_le' (show 1 ≤ F by omega)
    rw [zl2]
    have h9 := fun acc => ih F' acc (by omega) (by omega)
    generalize hR9 : loop2 _ F' = R9 at h9
    unfold lb_X11_firstNoticed_9 b_X11_firstNoticed_36
    rw [nI_pred, if_neg (nI_pos (show j < 2 ^ 31 by omega)), if_pos (n_ok4 (by omega)), if_pos (n_ok4 (by omega)), nI_clamp (show j < 2 ^ 31 by omega), dV_eq, dV_eq, nn_m1, h9, h9, fst_snoc, Nat.zero_add]
    by_cases e : Y 14 j = 0
    · rw [if_neg (fun q => q e)]
      by_cases e2 : Y 11 j ≤ 0
      · rw [if_pos e2]
        have : noisy Y j = false := by simp [noisy, e, e2]
        cases fst (noisy Y) j 0 <;> simp [this]
      · rw [if_neg e2]
        have : noisy Y j = true := by simp [noisy, e2]
        cases fst (noisy Y) j 0 <;> simp [this]
    · rw [if_pos e]
      have : noisy Y j = true := by simp [noisy, e]
      cases fst (noisy Y) j 0 <;> simp [this]
theorem y_noticed {Y : JX} {R : Nat} (hY : RY Y R) : f_X11_firstNoticed Y = some (enc (fst (noisy Y) R 0)) := by
  have := hY.1.1
  unfold f_X11_firstNoticed l_X11_firstNoticed_9
  rw [dV_eq, dV_eq, hY.1.2, y_noticed_loop R 1000 (-1) (by omega) (by omega)]
  cases fst (noisy Y) R 0 <;> rfl
def crawled (Y : JX) (r : Nat) : Bool := decide (Y 15 r ≠ 0)
theorem y_crawl_loop {Y : JX} : ∀ j F acc, j ≤ 3 → j + 1 ≤ F → loop2 (lb_X11_firstCrawl_9 Y) F acc (nI j - 1) = some (match fst (crawled Y) j 0 with | some r => nI r | none => acc) := by
  intro j
  induction j with
  | zero =>
    intro F acc hj hF
    obtain ⟨F', rfl⟩ := Nat.exists_eq_add_of_le' hF
    rw [zl2]
    generalize hR9 : loop2 _ F' = R9
    unfold lb_X11_firstCrawl_9
    rw [if_pos m1_lt]
    rfl
  | succ j ih =>
    intro F acc hj hF
    obtain ⟨F', rfl⟩ := Nat.exists_eq_add_of_le' (show 1 ≤ F by omega)
    rw [zl2]
    have h9 := fun acc => ih F' acc (by omega) (by omega)
    generalize hR9 : loop2 _ F' = R9 at h9
    unfold lb_X11_firstCrawl_9 b_X11_firstCrawl_27
    rw [nI_pred, if_neg (nI_pos (show j < 2 ^ 31 by omega)), if_pos (n_ok4 (by omega)), nI_clamp (show j < 2 ^ 31 by omega), dV_eq, dV_eq, nn_m1, h9, h9, fst_snoc, Nat.zero_add]
    by_cases e : Y 15 j = 0
    · rw [if_pos e]
      have : crawled Y j = false := by simp [crawled, e]
      cases fst (crawled Y) j 0 <;> simp [this]
    · rw [if_neg e]
      have : crawled Y j = true := by simp [crawled, e]
      cases fst (crawled Y) j 0 <;> simp [this]
theorem y_crawl {Y : JX} {R : Nat} (hY : RY Y R) : f_X11_firstCrawl Y = some (enc (fst (crawled Y) R 0)) := by
  have := hY.1.1
  unfold f_X11_firstCrawl l_X11_firstCrawl_9
  rw [dV_eq, dV_eq, hY.1.2, y_crawl_loop R 1000 (-1) (by omega) (by omega)]
  cases fst (crawled Y) R 0 <;> rfl

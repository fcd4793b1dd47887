theorem x_noisy_loop {X Y : JX} {R : Nat} (hY : RY Y R) (hX : RX X Y R) (hQ : QX X Y R) : ∀ m i F, i + m = R → m + 1 ≤ F → loop1 (lb_X8_firstNoisy_2 X) F (nI i) = some ((fst (noisy Y) m i).map (pl X)) := by
  have hR := hY.1.1
  intro m
  induction m with
  | zero =>
    intro i F hi hF
    obtain ⟨F', rfl⟩ := Nat.exists_eq_add_of_le' hF
    rw [zl1]
    generalize hR9 : loop1 _ F' = R9
    unfold lb_X8_firstNoisy_2
    rw [if_pos (show X 11 2 ≤ nI i by rw [hX.2.1]; exact nI_le (by omega) (by omega))]
    rfl
  | succ m ih =>
    intro i F hi hF
    obtain ⟨F', rfl⟩ := Nat.exists_eq_add_of_le' (show 1 ≤ F by omega)
    rw [zl1]
    have h9 := ih (i + 1) F' (by omega) (by omega)
    generalize hR9 : loop1 _ F' = R9 at h9
    obtain ⟨a4, a5, -⟩ := ((QX_is X Y R) ▸ hQ) i (by omega) |>.1
    unfold lb_X8_firstNoisy_2 b_X8_firstNoisy_42 f_X7_hasNotices
    rw [if_neg (show ¬ X 11 2 ≤ nI i by rw [hX.2.1]; exact nI_ge (by omega) (by omega)), if_neg (nl3 (by omega)), if_pos (n_ok (show i < 3 by omega) (by decide)), nI_clamp (show i < 2 ^ 31 by omega), dN_eq, show (X 12 i).toNatClampNeg = pl X i from rfl, if_pos (hX.1.1 i (by omega)), dV_eq, n_add1, h9, a4, a5, fst_s]
    by_cases e : Y 14 i = 0
    · rw [if_neg (fun q => q e)]
      by_cases e2 : Y 11 i ≤ 0
      · rw [if_pos e2, bd_some, if_pos rfl, if_neg (show ¬ noisy Y i = true by simp [noisy, e, e2])]
      · rw [if_neg e2, bd_some, if_neg one0, if_pos (show noisy Y i = true by simp [noisy, e2])]
        rfl
    · rw [if_pos e, if_pos (show noisy Y i = true by simp [noisy, e])]
      rfl
theorem x_noisy {X Y : JX} {R : Nat} (hY : RY Y R) (hX : RX X Y R) (hQ : QX X Y R) : f_X8_firstNoisy X = some ((fst (noisy Y) R 0).map (pl X)) := by
  have := hY.1.1
  exact x_noisy_loop hY hX hQ R 0 1000 (Nat.zero_add _) (by omega)
theorem x_crawled_loop {X Y : JX} {R : Nat} (hY : RY Y R) (hX : RX X Y R) (hQ : QX X Y R) : ∀ m i F, i + m = R → m + 1 ≤ F → loop1 (lb_X8_firstCrawled_2 X) F (nI i) = some ((fst (crawled Y) m i).map (pl X)) := by
  have hR := hY.1.1
  intro m
  induction m with
  | zero =>
    intro i F hi hF
    obtain ⟨F', rfl⟩ := Nat.exists_eq_add_of_le' hF
    rw [zl1]
    generalize hR9 : loop1 _ F' = R9
    unfold lb_X8_firstCrawled_2
    rw [if_pos (show X 11 2 ≤ nI i by rw [hX.2.1]; exact nI_le (by omega) (by omega))]
    rfl
  | succ m ih =>
    intro i F hi hF
    obtain ⟨F', rfl⟩ := Nat.exists_eq_add_of_le' (show 1 ≤ F by omega)
    rw [zl1]
    have h9 := ih (i + 1) F' (by omega) (by omega)
    generalize hR9 : loop1 _ F' = R9 at h9
    obtain ⟨c4, -⟩ := ((QX_is X Y R) ▸ hQ) i (by omega) |>.2
    unfold lb_X8_firstCrawled_2 b_X8_firstCrawled_38
    rw [if_neg (show ¬ X 11 2 ≤ nI i by rw [hX.2.1]; exact nI_ge (by omega) (by omega)), if_neg (nl3 (by omega)), if_pos (n_ok (show i < 3 by omega) (by decide)), nI_clamp (show i < 2 ^ 31 by omega), dN_eq, show (X 12 i).toNatClampNeg = pl X i from rfl, if_pos (hX.1.1 i (by omega)), dV_eq, n_add1, h9, c4, fst_s]
    by_cases e : Y 15 i = 0
    · rw [if_pos e, if_neg (show ¬ crawled Y i = true by simp [crawled, e])]
    · rw [if_neg e, if_pos (show crawled Y i = true by simp [crawled, e])]
      rfl
theorem x_crawled {X Y : JX} {R : Nat} (hY : RY Y R) (hX : RX X Y R) (hQ : QX X Y R) : f_X8_firstCrawled X = some ((fst (crawled Y) R 0).map (pl X)) := by
  have := hY.1.1
  exact x_crawled_loop hY hX hQ R 0 1000 (Nat.zero_add _) (by omega)
theorem x_cc_loop {X Y : JX} {R : Nat} (hY : RY Y R) (hX : RX X Y R) (hQ : QX X Y R) : ∀ m i F c, i + m = R → m + 1 ≤ F → loop2 (lb_X8_countCrawls_4 X) F (nI c) (nI i) = some (nI (c + cnt (crawled Y) m i)) := by
  have hR := hY.1.1
  intro m
  induction m with
  | zero =>
    intro i F c hi hF
    obtain ⟨F', rfl⟩ := Nat.exists_eq_add_of_le' hF
    rw [zl2]
    generalize hR9 : loop2 _ F' = R9
    unfold lb_X8_countCrawls_4
    rw [if_pos (show X 11 2 ≤ nI i by rw [hX.2.1]; exact nI_le (by omega) (by omega))]
    rfl
  | succ m ih =>
    intro i F c hi hF
    obtain ⟨F', rfl⟩ := Nat.exists_eq_add_of_le' (show 1 ≤ F by omega)
    rw [zl2]
    have h9 := fun c => ih (i + 1) F' c (by omega) (by omega)
    generalize hR9 : loop2 _ F' = R9 at h9
    obtain ⟨c4, -⟩ := ((QX_is X Y R) ▸ hQ) i (by omega) |>.2
    unfold lb_X8_countCrawls_4 b_X8_countCrawls_41
    rw [if_neg (show ¬ X 11 2 ≤ nI i by rw [hX.2.1]; exact nI_ge (by omega) (by omega)), if_neg (nl3 (by omega)), if_pos (n_ok (show i < 3 by omega) (by decide)), nI_clamp (show i < 2 ^ 31 by omega), dN_eq, show (X 12 i).toNatClampNeg = pl X i from rfl, if_pos (hX.1.1 i (by omega)), dV_eq, dV_eq, dV_eq, n_add1, n_add1, c4, cnt_s]
    by_cases e : Y 15 i = 0
    · rw [if_pos e, h9]; simp [crawled, e]
    · rw [if_neg e, h9]; simp [crawled, e, Nat.add_assoc]
theorem x_cc {X Y : JX} {R : Nat} (hY : RY Y R) (hX : RX X Y R) (hQ : QX X Y R) : f_X8_countCrawls X = some (nI (cnt (crawled Y) R 0)) := by
  have := hY.1.1
  have h := x_cc_loop hY hX hQ R 0 1000 0 (Nat.zero_add _) (by omega)
  rw [Nat.zero_add] at h
  exact h

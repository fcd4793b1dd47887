/-! ===== a crawl begins ===== -/
theorem x_letWait {X : JX} {q f w : Nat} (hf : f < 60) (h2 : X (q + 2) f = 0) (h3 : X q 3 = nI w) (hw : w < 60) : f_X1_letWait X q (nI f) = some (pX (pX (pX X (q + 1) (upd (X (q + 1)) w (nI f))) (q + 2) (upd (X (q + 2)) f 1)) q (upd (X q) 3 (nI (w + 1)))) := by
  have s1 : ∀ F, (pX X (q + 1) F) (q + 2) = X (q + 2) := fun F => if_neg (by omega)
  have s2 : ∀ F G, (pX (pX X (q + 1) F) (q + 2) G) q = X q := fun F G => (if_neg (by omega)).trans (if_neg (by omega))
  unfold f_X1_letWait b_X1_letWait_15
  rw [if_neg (nI_pos (sm hf)), if_neg (nl60 hf), if_neg one0, if_pos (n_ok60 hf), nI_clamp (sm hf), if_neg (fun q => q h2), h3, if_neg (nI_pos (sm hw)), if_neg (nl60 hw), if_pos (n_ok60 hw), nI_clamp (sm hw), dX_eq, if_pos (n_ok60 hf), dX_eq, dX_eq, s1, s2, h3, n_add1]
  rfl
theorem x_anew_loop {q f : Nat} (hf : f < 60) : ∀ m i F (X : JX), i + m = 60 → m + 1 ≤ F → (∀ n, n < i → X (q + 2) n = 0 ∧ X (q + 3) n = 0) → ∃ X', loop2 (lb_X1_startAnew_2 q (nI f)) F X (nI i) = some X' ∧ (∀ k, k ≠ q → k ≠ q + 1 → k ≠ q + 2 → k ≠ q + 3 → X' k = X k) ∧ (∀ j, j ≠ 3 → j ≠ 4 → X' q j = X q j) ∧ X' q 3 = nI 1 ∧ X' q 4 = 1 ∧ X' (q + 1) 0 = nI f ∧ (∀ n, n < 60 → X' (q + 2) n = if n = f then 1 else 0) ∧ ∀ n, n < 60 → X' (q + 3) n = 0 := by
  intro m
  induction m with
  | zero =>
    intro i F X hi hF h0
    obtain ⟨F', rfl⟩ := Nat.exists_eq_add_of_le' hF
    have : i = 60 := by omega
    subst this
    rw [zl2]
    generalize hR9 : loop2 _ F' = R9
    let X1 : JX := pX (pX X q (upd (X q) 3 0)) q (upd ((pX X q (upd (X q) 3 0)) q) 4 1)
    have o : ∀ k, k ≠ q → X1 k = X k := fun k hk => (if_neg hk).trans (if_neg hk)
    have x13 : X1 q 3 = nI 0 := by
      show (pX (pX X q (upd (X q) 3 0)) q (upd ((pX X q (upd (X q) 3 0)) q) 4 1)) q 3 = nI 0
      simp [p_at, u_at, nI_0]
    have x14 : X1 q 4 = 1 := by
      show (pX (pX X q (upd (X q) 3 0)) q (upd ((pX X q (upd (X q) 3 0)) q) 4 1)) q 4 = 1
      simp [p_at, u_at]
    have x1j : ∀ j, j ≠ 3 → j ≠ 4 → X1 q j = X q j := by
      intro j h3 h4
      show (pX (pX X q (upd (X q) 3 0)) q (upd ((pX X q (upd (X q) 3 0)) q) 4 1)) q j = X q j
      simp [p_at, u_at, h3, h4]
    have hl := x_letWait (X := X1) (q := q) hf (by rw [o (q + 2) (by omega)]; exact (h0 f hf).1) x13 (by decide)
    have e9 : lb_X1_startAnew_2 q (nI f) R9 X (nI 60) = some (pX (pX (pX X1 (q + 1) (upd (X1 (q + 1)) 0 (nI f))) (q + 2) (upd (X1 (q + 2)) f 1)) q (upd (X1 q) 3 (nI (0 + 1)))) := by
      unfold lb_X1_startAnew_2
      rw [if_pos g60, dX_eq, if_pos (show okB 1 = true from rfl), dX_eq]
      show ((f_X1_letWait X1 q (nI f)).bind fun X3 => some X3) = _
      rw [hl, bd_some]
    refine ⟨_, e9, ?_, ?_, ?_, ?_, ?_, ?_, ?_⟩
    · intro k k0 k1 k2 k3
      rw [p_at, if_neg k0, p_at, if_neg k2, p_at, if_neg k1]
      exact o k k0
    · intro j j3 j4
      rw [p_at, if_pos rfl, u_at, if_neg j3]
      exact x1j j j3 j4
    · rw [p_at, if_pos rfl, u_at, if_pos rfl]
    · rw [p_at, if_pos rfl, u_at, if_neg (by decide)]
      exact x14
    · rw [p_at, if_neg (by omega), p_at, if_neg (by omega), p_at, if_pos rfl, u_at, if_pos rfl]
    · intro n hn
      rw [p_at, if_neg (by omega), p_at, if_pos rfl, u_at, o (q + 2) (by omega), (h0 n hn).1]
    · intro n hn
      rw [p_at, if_neg (by omega), p_at, if_neg (by omega), p_at, if_neg (by omega), o (q + 3) (by omega)]
      exact (h0 n hn).2
  | succ m ih =>
    intro i F X hi hF h0
    obtain ⟨F', rfl⟩ := Nat.exists_eq_add_of_le' (show 1 ≤ F by omega)
    have hi60 : i < 60 := by omega
    let X1 : JX := pX (pX X (q + 2) (upd (X (q + 2)) i 0)) (q + 3) (upd (X (q + 3)) i 0)
    have o : ∀ k, k ≠ q + 2 → k ≠ q + 3 → X1 k = X k := fun k h2 h3 => (if_neg h3).trans (if_neg h2)
    have o2 : X1 (q + 2) = upd (X (q + 2)) i 0 := (if_neg (by omega)).trans (if_pos rfl)
    have o3 : X1 (q + 3) = upd (X (q + 3)) i 0 := if_pos rfl
    obtain ⟨X', e, r1, r2, r3⟩ := ih (i + 1) F' X1 (by omega) (by omega) (fun n hn => by
      rw [o2, o3, u_at, u_at]
      by_cases q : n = i
      · rw [if_pos q, if_pos q]; exact ⟨rfl, rfl⟩
      · rw [if_neg q, if_neg q]; exact h0 n (by omega))
    refine ⟨X', ?_, fun k k0 k1 k2 k3 => (r1 k k0 k1 k2 k3).trans (o k k2 k3), fun j h3 h4 => (r2 j h3 h4).trans (by rw [o q (by omega) (by omega)]), r3⟩
    rw [zl2]
    generalize hR9 : loop2 _ F' = R9 at e
    unfold lb_X1_startAnew_2
    rw [if_neg (nl60 hi60), if_pos (n_ok60 hi60), dX_eq, if_pos (n_ok60 hi60), dX_eq, dV_eq, n_add1, nI_clamp (sm hi60), show (pX X (q + 2) (upd (X (q + 2)) i (vp_nar .boolean 0))) (q + 3) = X (q + 3) from if_neg (by omega)]
    exact e
theorem x_begin {X : JX} {q f : Nat} (hf : f < 60) (h3 : X q 3 = nI f) : ∃ X', f_X7_beginCrawl X q = some X' ∧ (∀ k, k ≠ q + 3 → k ≠ q + 4 → k ≠ q + 5 → k ≠ q + 6 → X' k = X k) ∧ X' (q + 3) 3 = nI 1 ∧ X' (q + 3) 4 = 1 ∧ X' (q + 4) 0 = nI f ∧ (∀ n, n < 60 → X' (q + 5) n = if n = f then 1 else 0) ∧ ∀ n, n < 60 → X' (q + 6) n = 0 := by
  obtain ⟨X', e, r1, -, r3, r4, r5, r6, r7⟩ := x_anew_loop (q := q + 3) hf 60 0 1000 X rfl (by decide) (fun n hn => absurd hn (Nat.not_lt_zero n))
  refine ⟨X', ?_, r1, r3, r4, r5, r6, r7⟩
  unfold f_X7_beginCrawl
  rw [h3]
  show ((loop2 (lb_X1_startAnew_2 (q + 3) (nI f)) 1000 X (nI 0)).bind fun X1 => some X1) = some X'
  rw [e, bd_some]

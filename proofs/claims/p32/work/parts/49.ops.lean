/-! ===== call: write ===== -/
def isM (m : Int32) : Prop := (∃ w, w ≤ 99 ∧ m = nI w) ∨ m = -2 ∨ m = -3
theorem mark_in {m : Int32} (h : isM m) : (¬ m < -3 ∧ ¬ 99 < m) ∧ ¬ m = -1 := by
  rcases h with ⟨w, hw, rfl⟩ | rfl | rfl
  · refine ⟨⟨fun q => nI_pos (show w < 2 ^ 31 by omega) (Int32.lt_trans q (by decide)), fun q => ?_⟩, nm1 (by omega)⟩
    have := (nI_ltI (a := 99) (b := w) (by decide) (by omega)).mp q
    omega
  · exact ⟨⟨by decide, by decide⟩, by decide⟩
  · exact ⟨⟨by decide, by decide⟩, by decide⟩
theorem mark_of {m : Int32} (h1 : ¬ m < -3) (h2 : ¬ 99 < m) (h3 : ¬ m = -1) : isM m := by
  by_cases h : m < 0
  · have e : m = -3 ∨ m = -2 ∨ m = -1 := by
      rw [Int32.lt_iff_toInt_lt] at h1 h
      rw [show (-3 : Int32).toInt = -3 from rfl] at h1
      rw [show (0 : Int32).toInt = 0 from rfl] at h
      rcases (show m.toInt = -3 ∨ m.toInt = -2 ∨ m.toInt = -1 by omega) with e | e | e
      · exact Or.inl (Int32.toInt_inj.mp e)
      · exact Or.inr (Or.inl (Int32.toInt_inj.mp e))
      · exact Or.inr (Or.inr (Int32.toInt_inj.mp e))
    rcases e with e | e | e
    · exact Or.inr (Or.inr e)
    · exact Or.inr (Or.inl e)
    · exact absurd e h3
  · obtain ⟨w, hw, e⟩ := nI_of2 (n := 99) rfl h (Int32.not_lt.mp h2)
    exact Or.inl ⟨w, hw, e⟩
theorem n_20 {n j : Nat} (hn : n < 60) (hj : j ≤ 20) : (20 : Int32) * nI n + nI j = nI (20 * n + j) := by
  have e : (20 : Int32) * nI n = nI (20 * n) := (Int32.ofNat_mul 20 n).symm
  rw [e, nI_add]
theorem x_append {X : JX} {n l : Nat} {v : Int32} (hn : n < 60) (h5 : ¬ X 5 n = 0) (h4 : X 4 n = 0) (h9 : X 9 n = nI l) (hl : l < 20) : f_X9_append X (nI n) v = some (pX (pX (pX X (56 + n) (upd (X (56 + n)) l v)) 9 (upd (X 9) n (nI (l + 1)))) 8 (upd (X 8) n (X 8 n + 1))) := by
  have s9 : ∀ F, (pX X (56 + n) F) 9 = X 9 := fun F => if_neg (by omega)
  have s8 : ∀ F G, (pX (pX X (56 + n) F) 9 G) 8 = X 8 := fun F G => (if_neg (by omega)).trans (if_neg (by omega))
  unfold f_X9_append
  rw [x_lengthOf hn, bd_some, x_isFile hn, bo_t ⟨h5, h4⟩, bd_some, if_neg one0, h9, if_neg (nI_pos (show l < 2 ^ 31 by omega)), if_neg (show ¬ (20 : Int32) ≤ nI l from nI_ge (b := 20) hl (by decide)), if_pos (n_ok60 hn), nI_clamp (sm hn), dN_eq, if_pos (show isI20 (56 + n) = true by simp [isI20]; omega), if_pos (n_ok (show l < 20 from hl) (by decide)), nI_clamp (show l < 2 ^ 31 by omega), dX_eq, if_pos (n_ok60 hn), dX_eq, if_pos (n_ok60 hn), if_pos (n_ok60 hn), dX_eq, s8, s9, n_add1]

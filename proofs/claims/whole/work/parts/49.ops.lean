/-! ===== call: write ===== -/
def isM (m : Int32) : Prop := (∃ w, w ≤ 99 ∧ m = nI w) ∨ m = -2 ∨ m = -3
theorem mark_in {m : Int32} (h : isM m) : (¬ m < -3 ∧ ¬ 99 < m) ∧ ¬ m = -1 := by
  rcases h with ⟨w, hw, rfl⟩ | rfl | rfl
  · refine ⟨⟨fun q => nI_pos (show w < 2 ^ 31 by omega) (Int32.lt_trans q (by decide)), fun q => ?_⟩, nm1 (by omega)⟩
    have := (nI_ltI (a := 99) (b := w) (by decide) (by omega)).mp q
    omega
  · exact ⟨⟨by decide, by decide⟩, by decide⟩
  · exact ⟨⟨by decide, by decide⟩, by decide⟩
theorem mark_of {m : Int32} (h1 : ¬ m < -3) (h2 : ¬ 99 < m) (h3 : ¬ m = -1) : isM m := by
  by_cases h : m < 0
  · have e : m = -3 ∨ m = -2 ∨ m = -1 := by
      rw [Int32.lt_iff_toInt_lt] at h1 h
      rw [show (-3 : Int32).toInt = -3 from rfl] at h1
      rw [show (0 : Int32).toInt = 0 from rfl] at h
      rcases (show m.toInt = -3 ∨ m.toInt = -2 ∨ m.toInt = -1 by omega) with e | e | e
      · exact Or.inl (Int32.toInt_inj.mp e)
      · exact Or.inr (Or.inl (Int32.toInt_inj.mp e))
      · exact Or.inr (Or.inr (Int32.toInt_inj.mp e))
    rcases e with e | e | e
    · exact Or.inr (Or.inr e)
    · exact Or.inr (Or.inl e)
    · exact absurd e h3
  · obtain ⟨w, hw, e⟩ := nI_of2 (n := 99) rfl h (Int32.not_lt.mp h2)
    exact Or.inl ⟨w, hw, e⟩

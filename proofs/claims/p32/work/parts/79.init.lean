/-! ===== behind the constructors ===== -/
theorem prY0 : prY Y0 = fun _ => none := by
  funext n
  unfold prY
  by_cases h : n < 60 ∧ Y0 1 n ≠ 0
  · rw [if_pos h]
    have h1 : Y0 1 n = if n = 0 then 1 else 0 := rfl
    have h3 : Y0 3 n = if n = 0 then -1 else 0 := rfl
    by_cases q : n = 0
    · rw [h3, if_pos q, dec_m1]
    · have := h.2
      rw [h1, if_neg q] at this
      exact absurd rfl this
  · rw [if_neg h]
theorem Rel0 : Rel 0 X0 Y0 := by
  have y1 : ∀ n, Y0 1 n = if n = 0 then 1 else 0 := fun n => rfl
  have y1' : ∀ n, Y0 1 n ≠ 0 → n = 0 := fun n h => by
    by_cases q : n = 0
    · exact q
    · rw [y1, if_neg q] at h; exact absurd rfl h
  have hk : ∀ n, n < 60 → kFil 60 n = -1 := fun n hn => if_pos hn
  refine ⟨1, 0, 0, 0, 0, ⟨⟨⟨by omega, by omega, rfl⟩, ⟨by decide, by decide, rfl⟩, fun n hn h => ?_, fun n h0 hn h => ?_, ?_⟩, ⟨rfl, fun n hn => ?_⟩, fun n hn => ?_⟩, ⟨⟨⟨by omega, rfl⟩, fun r hr => absurd hr (Nat.not_lt_zero r), fun r s hr => absurd hr (Nat.not_lt_zero r)⟩, ⟨⟨fun r hr => ?_, fun r s hr hs e => ?_⟩, rfl, fun r hr => absurd hr (Nat.not_lt_zero r)⟩, fun r hr => absurd hr (Nat.not_lt_zero r)⟩, ⟨fun n hn => ⟨rfl, rfl, rfl, rfl, rfl, rfl, fun j hj => ?_⟩, fun n hn => ⟨fun h => absurd rfl h, ⟨0, by omega, rfl, fun j hj => absurd hj (Nat.not_lt_zero j)⟩, fun _ => rfl⟩⟩, ⟨⟨⟨by omega, rfl⟩, fun j hj => absurd hj (Nat.not_lt_zero j), fun j k hj => absurd hj (Nat.not_lt_zero j)⟩, ⟨rfl, fun j hj => absurd hj (Nat.not_lt_zero j), fun n hn _ => ⟨rfl, rfl⟩⟩⟩, ⟨⟨⟨rfl, rfl⟩, fun k h => absurd h (Nat.not_lt_zero k), fun k k' h => absurd h (Nat.not_lt_zero k), fun k k' h => absurd h (Nat.not_lt_zero k)⟩, ⟨rfl, fun s hs => absurd hs (Nat.not_lt_zero s), fun n hn => Or.inl ⟨hk n hn, fun k h => absurd h (Nat.not_lt_zero k)⟩⟩, ⟨by omega, fun k n h => absurd h (Nat.not_lt_zero k), fun n hn => rfl⟩⟩, ⟨rfl, rfl, rfl, rfl, by decide⟩, ⟨⟨2, by omega, rfl⟩, ⟨12, by omega, by omega, rfl⟩, ⟨0, 0, by omega, rfl, rfl, by omega⟩, ⟨0, by omega, rfl⟩, Or.inl rfl⟩⟩
  · have := y1' n h
    omega
  · have := y1' n h
    omega
  · rw [prY0]
    refine ⟨(fun a b e => by cases e), fun u => ?_⟩
    cases u with
    | none => exact ⟨0, rfl⟩
    | some n => exact ⟨1, rfl⟩
  · rw [prY0]
    refine ⟨hk n hn, rfl, rfl, rfl, rfl, rfl, rfl, fun _ => rfl, fun j hj => ?_, (by decide : vp_nar .char (0 : Int32) = 0)⟩
    show (if 56 + n < 56 then X0L.getD (56 + n) (fun _ => 0) else fun _ => 0) j = _
    rw [if_neg (by omega)]
    rfl
  · refine ⟨⟨0, by omega, rfl⟩, ⟨Or.inl rfl, ?_, fun m hm h1 h2 _ _ => (y1' n h1).trans (y1' m h2).symm⟩, 0, by omega, rfl, fun j hj => absurd hj (Nat.not_lt_zero j)⟩
    rw [y1]
    by_cases q : n = 0
    · rw [if_pos q]; exact Or.inr rfl
    · rw [if_neg q]; exact Or.inl rfl
  · rcases (show r = 0 ∨ r = 1 ∨ r = 2 by omega) with rfl | rfl | rfl <;> decide
  · rcases (show r = 0 ∨ r = 1 ∨ r = 2 by omega) with rfl | rfl | rfl <;> rcases (show s = 0 ∨ s = 1 ∨ s = 2 by omega) with rfl | rfl | rfl <;> first | rfl | (exact absurd e (by decide))
  · show (if 116 + n < 56 then X0L.getD (116 + n) (fun _ => 0) else fun _ => 0) j = _
    rw [if_neg (by omega)]
    rfl

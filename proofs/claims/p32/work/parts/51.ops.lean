/-! ===== call: lose ===== -/
theorem x_forget {X : JX} {p k m : Nat} (h : X p 4 = nI k) (hk : k ≤ 8) (hm : m ≤ 8) : f_X7_forgetLast X p (nI m) = some (nI (k - m), pX X p (upd (X p) 4 (nI (k - m)))) := by
  unfold f_X7_forgetLast
  have e : (if (0 : Int32) < X p 4 - nI m then X p 4 - nI m else 0) = nI (k - m) := by
    rw [h]
    rcases (show k = 0 ∨ k = 1 ∨ k = 2 ∨ k = 3 ∨ k = 4 ∨ k = 5 ∨ k = 6 ∨ k = 7 ∨ k = 8 by omega) with rfl | rfl | rfl | rfl | rfl | rfl | rfl | rfl | rfl <;> rcases (show m = 0 ∨ m = 1 ∨ m = 2 ∨ m = 3 ∨ m = 4 ∨ m = 5 ∨ m = 6 ∨ m = 7 ∨ m = 8 by omega) with rfl | rfl | rfl | rfl | rfl | rfl | rfl | rfl | rfl <;> decide
  rw [e, dX_eq]
  congr 1
  congr 1
  rw [p_at, if_pos rfl, u_at, if_pos rfl]

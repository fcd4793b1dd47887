/-! ===== a notice comes to a root ===== -/
def NQ (X Y : JX) (p r : Nat) : Prop := X p 4 = Y 11 r ∧ X p 5 = Y 14 r ∧ ∃ k, k ≤ 8 ∧ Y 11 r = nI k ∧ (Y 14 r ≠ 0 → k = 0) ∧ ∀ j, j < k → X (p + 1) j = Y 12 (8 * r + j) + 1 ∧ X (p + 2) j = Y 13 (8 * r + j) ∧ (Y 12 (8 * r + j) = 0 ∨ Y 12 (8 * r + j) = 1 ∨ Y 12 (8 * r + j) = 2) ∧ ∃ n, n < 60 ∧ Y 13 (8 * r + j) = nI n
def CQ (X Y : JX) (p r : Nat) : Prop := X (p + 3) 4 = Y 15 r ∧ X (p + 3) 3 = Y 16 r ∧ (∃ w, w ≤ 60 ∧ Y 16 r = nI w ∧ (Y 15 r ≠ 0 → 1 ≤ w) ∧ (∀ j, j < w → X (p + 4) j = Y 17 (60 * r + j) ∧ ∃ n, n < 60 ∧ Y 17 (60 * r + j) = nI n) ∧ (∀ j k, j < w → k < w → Y 17 (60 * r + j) = Y 17 (60 * r + k) → j = k) ∧ ∀ n, n < 60 → (X (p + 5) n ≠ 0 ↔ ∃ j, j < w ∧ Y 17 (60 * r + j) = nI n)) ∧ ∀ n, n < 60 → X (p + 6) n = Y 18 (60 * r + n)
theorem QX_is (X Y : JX) (R : Nat) : QX X Y R = ∀ r, r < R → NQ X Y (pl X r) r ∧ CQ X Y (pl X r) r := rfl
theorem NQ.fr {X X' Y Y' : JX} {p r : Nat} (h : NQ X Y p r) (x0 : X' p = X p) (x1 : X' (p + 1) = X (p + 1)) (x2 : X' (p + 2) = X (p + 2)) (y1 : Y' 11 r = Y 11 r) (y2 : Y' 14 r = Y 14 r) (y3 : ∀ j, j < 8 → Y' 12 (8 * r + j) = Y 12 (8 * r + j)) (y4 : ∀ j, j < 8 → Y' 13 (8 * r + j) = Y 13 (8 * r + j)) : NQ X' Y' p r := by
  obtain ⟨a, b, k, k8, e, f, g⟩ := h
  refine ⟨by rw [x0, y1]; exact a, by rw [x0, y2]; exact b, k, k8, by rw [y1]; exact e, by rw [y2]; exact f, fun j hj => ?_⟩
  rw [x1, x2, y3 j (by omega), y4 j (by omega)]
  exact g j hj
theorem CQ.fr {X X' Y Y' : JX} {p r : Nat} (h : CQ X Y p r) (x3 : X' (p + 3) = X (p + 3)) (x4 : X' (p + 4) = X (p + 4)) (x5 : X' (p + 5) = X (p + 5)) (x6 : X' (p + 6) = X (p + 6)) (y : eqC 15 19 Y' Y) : CQ X' Y' p r := by
  unfold CQ
  rw [x3, x4, x5, x6, y 15 (by omega) (by omega), y 16 (by omega) (by omega), y 17 (by omega) (by omega), y 18 (by omega) (by omega)]
  exact h
/-- places of different roots lie apart -/
theorem pl_apart {X : JX} {r s : Nat} (h : PX X) (hr : r < 3) (hs : s < 3) (hrs : r ≠ s) : pl X s + 7 ≤ pl X r ∨ pl X r + 7 ≤ pl X s := by
  have hne : pl X r ≠ pl X s := fun e => hrs (h.2 r s hr hs e)
  rcases isRt_c (h.1 r hr) with e | e | e <;> rcases isRt_c (h.1 s hs) with e' | e' | e' <;> omega
theorem n_8 {r j : Nat} (hr : r < 3) (hj : j ≤ 8) : (8 : Int32) * nI r + nI j = nI (8 * r + j) := by
  rcases (show r = 0 ∨ r = 1 ∨ r = 2 by omega) with rfl | rfl | rfl
  · rw [show (8 : Int32) * nI 0 = nI 0 by decide, nI_add]
  · rw [show (8 : Int32) * nI 1 = nI 8 by decide, nI_add]
  · rw [show (8 : Int32) * nI 2 = nI 16 by decide, nI_add]

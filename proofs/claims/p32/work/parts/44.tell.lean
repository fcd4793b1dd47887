/-! ===== a notice comes to a root ===== -/
def NQ (X Y : JX) (p r : Nat) : Prop := X p 4 = Y 11 r ∧ X p 5 = Y 14 r ∧ ∃ k, k ≤ 8 ∧ Y 11 r = nI k ∧ (Y 14 r = 0 ∨ Y 14 r = 1 ∧ k = 0) ∧ ∀ j, j < k → X (p + 1) j = Y 12 (8 * r + j) + 1 ∧ X (p + 2) j = Y 13 (8 * r + j) ∧ (Y 12 (8 * r + j) = 0 ∨ Y 12 (8 * r + j) = 1 ∨ Y 12 (8 * r + j) = 2) ∧ ∃ n, n < 60 ∧ Y 13 (8 * r + j) = nI n
def CQ (X Y : JX) (p r : Nat) : Prop := X (p + 3) 4 = Y 15 r ∧ X (p + 3) 3 = Y 16 r ∧ (∃ w, w ≤ 60 ∧ Y 16 r = nI w ∧ (Y 15 r = 0 ∨ Y 15 r = 1 ∧ 1 ≤ w) ∧ (∀ j, j < w → X (p + 4) j = Y 17 (60 * r + j) ∧ ∃ n, n < 60 ∧ Y 17 (60 * r + j) = nI n) ∧ (∀ j k, j < w → k < w → Y 17 (60 * r + j) = Y 17 (60 * r + k) → j = k) ∧ ∀ n, n < 60 → (X (p + 5) n ≠ 0 ↔ ∃ j, j < w ∧ Y 17 (60 * r + j) = nI n)) ∧ ∀ n, n < 60 → X (p + 6) n = Y 18 (60 * r + n) ∧ (Y 18 (60 * r + n) = 0 ∨ Y 18 (60 * r + n) = 1)
theorem QX_is (X Y : JX) (R : Nat) : QX X Y R = ∀ r, r < R → NQ X Y (pl X r) r ∧ CQ X Y (pl X r) r := rfl
theorem NQ.fr {X X' Y Y' : JX} {p r : Nat} (h : NQ X Y p r) (x0 : X' p = X p) (x1 : X' (p + 1) = X (p + 1)) (x2 : X' (p + 2) = X (p + 2)) (y1 : Y' 11 r = Y 11 r) (y2 : Y' 14 r = Y 14 r) (y3 : ∀ j, j < 8 → Y' 12 (8 * r + j) = Y 12 (8 * r + j)) (y4 : ∀ j, j < 8 → Y' 13 (8 * r + j) = Y 13 (8 * r + j)) : NQ X' Y' p r := by
  obtain ⟨a, b, k, k8, e, f, g⟩ := h
  refine ⟨by rw [x0, y1]; exact a, by rw [x0, y2]; exact b, k, k8, by rw [y1]; exact e, by rw [y2]; exact f, fun j hj => ?_⟩
  rw [x1, x2, y3 j (by omega), y4 j (by omega)]
  exact g j hj
theorem CQ.fr {X X' Y Y' : JX} {p r : Nat} (h : CQ X Y p r) (x3 : X' (p + 3) = X (p + 3)) (x4 : X' (p + 4) = X (p + 4)) (x5 : X' (p + 5) = X (p + 5)) (x6 : X' (p + 6) = X (p + 6)) (y : eqC 15 19 Y' Y) : CQ X' Y' p r := by
  unfold CQ
  rw [x3, x4, x5, x6, y 15 (by omega) (by omega), y 16 (by omega) (by omega), y 17 (by omega) (by omega), y 18 (by omega) (by omega)]
  exact h
/-- places of different roots lie apart -/
theorem pl_apart {X : JX} {r s : Nat} (h : PX X) (hr : r < 3) (hs : s < 3) (hrs : r ≠ s) : pl X s + 7 ≤ pl X r ∨ pl X r + 7 ≤ pl X s := by
  have hne : pl X r ≠ pl X s := fun e => hrs (h.2 r s hr hs e)
  rcases isRt_c (h.1 r hr) with e | e | e <;> rcases isRt_c (h.1 s hs) with e' | e' | e' <;> omega
theorem n_8 {r j : Nat} (hr : r < 3) (hj : j ≤ 8) : (8 : Int32) * nI r + nI j = nI (8 * r + j) := by
  rcases (show r = 0 ∨ r = 1 ∨ r = 2 by omega) with rfl | rfl | rfl
  · rw [show (8 : Int32) * nI 0 = nI 0 by decide, nI_add]
  · rw [show (8 : Int32) * nI 1 = nI 8 by decide, nI_add]
  · rw [show (8 : Int32) * nI 2 = nI 16 by decide, nI_add]
/-- one root's queue changes, the rest of the roots stays -/
theorem QX_set {X X' Y Y' : JX} {R r : Nat} (hR : R ≤ 3) (hP : PX X) (hQ : QX X Y R) (hr : r < R) (h12 : X' 12 = X 12) (hx : ∀ q, q ≠ pl X r → q ≠ pl X r + 1 → q ≠ pl X r + 2 → X' q = X q) (hy : eqC 15 19 Y' Y) (hn : NQ X' Y' (pl X r) r) (y1 : ∀ s, s < 3 → s ≠ r → Y' 11 s = Y 11 s ∧ Y' 14 s = Y 14 s ∧ ∀ j, j < 8 → Y' 12 (8 * s + j) = Y 12 (8 * s + j) ∧ Y' 13 (8 * s + j) = Y 13 (8 * s + j)) : QX X' Y' R := by
  rw [QX_is] at hQ ⊢
  intro s hs
  have hpl : pl X' s = pl X s := by unfold pl; rw [h12]
  rw [hpl]
  obtain ⟨a, b⟩ := hQ s hs
  by_cases e : s = r
  · subst e
    exact ⟨hn, b.fr (hx _ (by omega) (by omega) (by omega)) (hx _ (by omega) (by omega) (by omega)) (hx _ (by omega) (by omega) (by omega)) (hx _ (by omega) (by omega) (by omega)) hy⟩
  · have ha := pl_apart hP (show r < 3 by omega) (show s < 3 by omega) (fun z => e z.symm)
    obtain ⟨c1, c2, c3⟩ := y1 s (by omega) e
    refine ⟨a.fr (hx _ (by omega) (by omega) (by omega)) (hx _ (by omega) (by omega) (by omega)) (hx _ (by omega) (by omega) (by omega)) c1 c2 (fun j hj => (c3 j hj).1) (fun j hj => (c3 j hj).2), b.fr (hx _ (by omega) (by omega) (by omega)) (hx _ (by omega) (by omega) (by omega)) (hx _ (by omega) (by omega) (by omega)) (hx _ (by omega) (by omega) (by omega)) hy⟩
theorem RX_set {X X' Y Y' : JX} {R r : Nat} (hR : R ≤ 3) (hX : RX X Y R) (hr : r < R) (h11 : X' 11 = X 11) (h12 : X' 12 = X 12) (hx : ∀ q, q ≠ pl X r → q ≠ pl X r + 1 → q ≠ pl X r + 2 → X' q = X q) (hf : X' (pl X r) 3 = X (pl X r) 3) (hy : Y' 10 = Y 10) : RX X' Y' R := by
  have hpl : ∀ s, pl X' s = pl X s := fun s => by unfold pl; rw [h12]
  obtain ⟨⟨a1, a2⟩, b, c⟩ := hX
  refine ⟨⟨fun s hs => by rw [hpl]; exact a1 s hs, fun s t hs ht => by rw [hpl, hpl]; exact a2 s t hs ht⟩, by rw [h11]; exact b, fun s hs => ?_⟩
  rw [hpl, hy]
  by_cases e : s = r
  · subst e; rw [hf]; exact c s hs
  · have ha := pl_apart (X := X) ⟨a1, a2⟩ (show r < 3 by omega) (show s < 3 by omega) (fun z => e z.symm)
    rw [hx _ (by omega) (by omega) (by omega)]
    exact c s hs

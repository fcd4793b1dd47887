/-! ===== the tree: the reference's cells and the class's ===== -/
def dec (v : Int32) : Option Nat := if v < 0 then none else some v.toNatClampNeg
def prY (Y : JX) : Nat → Option Nat := fun n => if n < 60 ∧ Y 1 n ≠ 0 then dec (Y 3 n) else none
/-- the reference's tree, with M nodes made -/
def TY (Y : JX) (M : Nat) : Prop := (1 ≤ M ∧ M ≤ 60 ∧ Y 0 2 = nI M) ∧ (Y 1 0 ≠ 0 ∧ Y 2 0 ≠ 0 ∧ Y 3 0 = -1) ∧ (∀ n, n < 60 → Y 1 n ≠ 0 → n < M) ∧ (∀ n, 0 < n → n < 60 → Y 1 n ≠ 0 → ∃ m, m < 60 ∧ Y 3 n = nI m ∧ Y 1 m ≠ 0 ∧ Y 2 m ≠ 0) ∧ Tr (prY Y)
/-- the class's tree is that of the reference -/
def TX (X Y : JX) : Prop := X 1 9 = Y 0 2 ∧ ∀ n, n < 60 → X 2 n = enc (prY Y n) ∧ X 3 n = Y 4 n ∧ X 4 n = Y 2 n ∧ X 5 n = Y 1 n ∧ X 6 n = Y 8 n ∧ X 7 n = Y 9 n ∧ X 9 n = Y 6 n ∧ (Y 2 n = 0 → X 8 n = Y 5 n) ∧ (∀ j, j < 20 → X (56 + n) j = Y 7 (20 * n + j)) ∧ vp_nar .char (Y 4 n) = Y 4 n
theorem lt60 {n : Nat} (h : n < 60) : (60 ≤ nI n) = False := eq_false (nI_ge h (by decide))
theorem ge60 : ((60 : Int32) ≤ nI 60) = True := eq_true (nI_le (Nat.le_refl 60) (by decide))
theorem sm {n : Nat} (h : n < 60) : n < 2 ^ 31 := by omega
theorem dec_nI {n : Nat} (h : n < 2 ^ 31) : dec (nI n) = some n := by
  unfold dec
  rw [if_neg (nI_pos h), nI_clamp h]
theorem dec_m1 : dec (-1) = none := by decide
theorem enc_neg {u : Option Nat} (h : ∀ n, u = some n → n < 60) : (enc u = -1) = (u = none) := by
  cases u with
  | none => simp [enc]
  | some n => simp [enc, n_ne1 (sm (h n rfl))]
theorem Int32.neg_of {v : Int32} (h : v < 0) : ¬ (60 : Int32) ≤ v := fun q => by
  rw [Int32.le_iff_toInt_le] at q
  rw [Int32.lt_iff_toInt_lt] at h
  rw [show (60 : Int32).toInt = 60 from rfl] at q
  rw [show (0 : Int32).toInt = 0 from rfl] at h
  omega
theorem v_cases (v : Int32) : v < 0 ∨ (∃ i, i < 60 ∧ v = nI i) ∨ (60 : Int32) ≤ v := n_cases (n := 60) (by decide) v
/-! readers of the class -/
theorem x_parentOf {X : JX} {n : Nat} (h : n < 60) : f_X9_parentOf X (nI n) = some (X 2 n) := by
  simp [f_X9_parentOf, n_neg (sm h), lt60 h, n_ok h, nI_clamp (sm h)]
theorem x_parentOf_m1 {X : JX} : f_X9_parentOf X (-1) = some (-1) := by
  simp [f_X9_parentOf]
theorem x_isThere {X : JX} {n : Nat} (h : n < 60) : f_X9_isThere X (nI n) = some (bo (X 5 n ≠ 0)) := by
  by_cases h5 : X 5 n = 0 <;> simp [f_X9_isThere, n_neg (sm h), lt60 h, n_ok h, nI_clamp (sm h), h5, bo]
theorem x_isThere_no {X : JX} {v : Int32} (h : v < 0 ∨ (60 : Int32) ≤ v) : f_X9_isThere X v = some 0 := by
  unfold f_X9_isThere
  rcases h with h | h
  · rw [if_pos h]
  · by_cases h0 : v < 0
    · rw [if_pos h0]
    · rw [if_neg h0, if_pos h]
theorem x_isFolder {X : JX} {n : Nat} (h : n < 60) : f_X9_isFolder X (nI n) = some (bo (X 5 n ≠ 0 ∧ X 4 n ≠ 0)) := by
  by_cases h5 : X 5 n = 0 <;> by_cases h4 : X 4 n = 0 <;> simp [f_X9_isFolder, n_neg (sm h), lt60 h, n_ok h, nI_clamp (sm h), h5, h4, bo]
theorem x_isFolder_no {X : JX} {v : Int32} (h : v < 0 ∨ (60 : Int32) ≤ v) : f_X9_isFolder X v = some 0 := by
  unfold f_X9_isFolder
  rcases h with h | h
  · rw [if_pos h]
  · by_cases h0 : v < 0
    · rw [if_pos h0]
    · rw [if_neg h0, if_pos h]
theorem x_isFile {X : JX} {n : Nat} (h : n < 60) : f_X9_isFile X (nI n) = some (bo (X 5 n ≠ 0 ∧ X 4 n = 0)) := by
  by_cases h5 : X 5 n = 0 <;> by_cases h4 : X 4 n = 0 <;> simp [f_X9_isFile, n_neg (sm h), lt60 h, n_ok h, nI_clamp (sm h), h5, h4, bo]
theorem x_isFile_no {X : JX} {v : Int32} (h : v < 0 ∨ (60 : Int32) ≤ v) : f_X9_isFile X v = some 0 := by
  unfold f_X9_isFile
  rcases h with h | h
  · rw [if_pos h]
  · by_cases h0 : v < 0
    · rw [if_pos h0]
    · rw [if_neg h0, if_pos h]
theorem x_isLocked {X : JX} {n : Nat} (h : n < 60) : f_X9_isLocked X (nI n) = some (bo (X 6 n ≠ 0)) := by
  by_cases h5 : X 6 n = 0 <;> simp [f_X9_isLocked, n_neg (sm h), lt60 h, n_ok h, nI_clamp (sm h), h5, bo]
theorem x_lengthOf {X : JX} {n : Nat} (h : n < 60) : f_X9_lengthOf X (nI n) = some (X 9 n) := by
  simp [f_X9_lengthOf, n_neg (sm h), lt60 h, n_ok h, nI_clamp (sm h)]
theorem x_peopleOf {X : JX} {n : Nat} (h : n < 60) : f_X9_peopleOf X (nI n) = some (X 7 n) := by
  simp [f_X9_peopleOf, n_neg (sm h), lt60 h, n_ok h, nI_clamp (sm h)]
theorem x_editionOf {X : JX} {n : Nat} (h : n < 60) : f_X9_editionOf X (nI n) = some (X 8 n) := by
  simp [f_X9_editionOf, n_neg (sm h), lt60 h, n_ok h, nI_clamp (sm h)]
theorem x_nameOf {X : JX} {n : Nat} (h : n < 60) (hc : vp_nar .char (X 3 n) = X 3 n) : f_X9_nameOf X (nI n) = some (X 3 n) := by
  simp [f_X9_nameOf, n_neg (sm h), lt60 h, n_ok h, nI_clamp (sm h), hc]
/-! readers of the reference -/
theorem y_in (Y : JX) (v a b : Int32) : f_X11_in Y v a b = some (bo (¬ v < a ∧ ¬ b < v)) := by
  unfold f_X11_in
  by_cases h1 : v < a <;> by_cases h2 : b < v <;> simp [h1, h2, bo]
theorem y_inM {Y : JX} {M : Nat} (h : TY Y M) (v : Int32) : f_X11_in Y v 0 ((Y 0 2) - 1) = some (bo (∃ n, n < M ∧ v = nI n)) := by
  obtain ⟨⟨h1, h2, h3⟩, -⟩ := h
  rw [y_in, h3, n_sub1 h1]
  congr 1
  have e : (¬ v < 0 ∧ ¬ nI (M - 1) < v) ↔ ∃ n, n < M ∧ v = nI n := by
    constructor
    · rintro ⟨a, b⟩
      obtain ⟨j, hj, rfl⟩ := nI_of a
      rw [nI_ltI (by omega) hj] at b
      exact ⟨j, by omega, rfl⟩
    · rintro ⟨n, a, rfl⟩
      refine ⟨nI_pos (by omega), ?_⟩
      rw [nI_ltI (by omega) (by omega)]
      omega
  unfold bo
  by_cases hp : ∃ n, n < M ∧ v = nI n
  · rw [if_pos (e.mpr hp), if_pos hp]
  · rw [if_neg (fun q => hp (e.mp q)), if_neg hp]

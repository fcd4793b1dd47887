/-! ===== the layout of the class: 176 cells; of the reference: 1 ===== -/
def obX (ad : Nat → Nat) (f : Nat → Int32) (k ci : Nat) : List Value := match ci with
  | 0 => [.ref (ad 46), .ref (ad 47), .ref (ad 48), .int (f 3)]
  | 1 => [.ref (ad (k + 1)), .ref (ad (k + 2)), .ref (ad (k + 3)), .int (f 3), .int (f 4)]
  | 2 => [.ref (ad 1), .ref (ad 11), .ref (ad 36), .ref (ad 37), .ref (ad 38), .ref (ad 39), .ref (ad 40), .ref (ad 41), .ref (ad 42), .ref (ad 43)]
  | 3 => [.ref (ad 50), .ref (ad 51), .ref (ad 52), .int (f 3)]
  | 4 => [.ref (ad 1), .ref (ad 11), .ref (ad 34), .ref (ad 35), .ref (ad 45), .ref (ad 49)]
  | 5 => [.ref (ad 1), .ref (ad 11), .ref (ad 34), .ref (ad 35), .ref (ad 54), .ref (ad 55)]
  | 6 => [.int (f 0), .int (f 1)]
  | 7 => [.ref (ad (k + 1)), .ref (ad (k + 2)), .ref (ad (k + 3)), .int (f 3), .int (f 4), .int (f 5)]
  | 8 => [.ref (ad 1), .ref (ad 12), .int (f 2)]
  | 9 => [.ref (ad 2), .ref (ad 3), .ref (ad 4), .ref (ad 5), .ref (ad 6), .ref (ad 7), .ref (ad 8), .ref (ad 9), .ref (ad 10), .int (f 9)]
  | 10 => [.ref (ad 1), .ref (ad 11), .ref (ad 34), .ref (ad 35), .ref (ad 44), .ref (ad 53), .int (f 6), .int (f 7), .int (f 8)]
  | _ => []
def shX (k : Nat) : Nat × Nat := if k < 56 then ([(20, 0), (19, 0), (0, 60), (2, 60), (1, 60), (1, 60), (1, 60), (0, 60), (0, 60), (0, 60), (156, 60), (18, 0), (3, 3), (17, 0), (0, 8), (0, 8), (11, 0), (0, 60), (1, 60), (1, 60), (17, 0), (0, 8), (0, 8), (11, 0), (0, 60), (1, 60), (1, 60), (17, 0), (0, 8), (0, 8), (11, 0), (0, 60), (1, 60), (1, 60), (16, 0), (12, 0), (1, 60), (0, 60), (2, 60), (0, 60), (0, 60), (216, 60), (1, 60), (1, 60), (14, 0), (10, 0), (0, 60), (0, 60), (1, 60), (13, 0), (0, 60), (0, 4), (0, 4), (15, 0), (0, 60), (0, 20)] : List (Nat × Nat)).getD k (0, 20) else (0, 20)
def LX : Lay := (176, shX, obX)
def obY (ad : Nat → Nat) (f : Nat → Int32) (_ ci : Nat) : List Value := match ci with
  | 11 => []
  | _ => []
def shY (k : Nat) : Nat × Nat := ([(21, 0)] : List (Nat × Nat)).getD k (0, 0)
def LY : Lay := (1, shY, obY)
def isRt (q : Nat) : Bool := decide (q = 13) || (decide (q = 20) || decide (q = 27))
def isCr (q : Nat) : Bool := decide (q = 16) || (decide (q = 23) || decide (q = 30))
def isI20 (q : Nat) : Bool := decide (q = 55) || (decide (56 ≤ q) && decide (q < 176))
theorem isRt_c {q : Nat} (h : isRt q = true) : q = 13 ∨ q = 20 ∨ q = 27 := by simpa [isRt] using h
theorem isCr_c {q : Nat} (h : isCr q = true) : q = 16 ∨ q = 23 ∨ q = 30 := by simpa [isCr] using h
theorem isI20_c {q : Nat} (h : isI20 q = true) : q = 55 ∨ (56 ≤ q ∧ q < 176) := by simpa [isI20] using h
theorem rtc {q : Nat} (h : isRt q = true) : isCr (q + 3) = true := by rcases isRt_c h with rfl | rfl | rfl <;> rfl
theorem i20 {q : Nat} (h : isI20 q = true) : LX.2.1 q = (0, 20) := by
  rcases isI20_c h with rfl | ⟨h1, h2⟩
  · rfl
  · show shX q = (0, 20)
    unfold shX
    rw [if_neg (by omega)]
theorem i20l {q : Nat} (h : isI20 q = true) : q < LX.1 := by
  show q < 176
  rcases isI20_c h with rfl | ⟨h1, h2⟩ <;> omega
theorem rt0 {q : Nat} (h : isRt q = true) : LX.2.1 q = (17, 0) := by rcases isRt_c h with rfl | rfl | rfl <;> rfl
theorem rt0l {q : Nat} (h : isRt q = true) : q < LX.1 := by rcases isRt_c h with rfl | rfl | rfl <;> exact Nat.le_of_ble_eq_true rfl
theorem rt1 {q : Nat} (h : isRt q = true) : LX.2.1 (q + 1) = (0, 8) := by rcases isRt_c h with rfl | rfl | rfl <;> rfl
theorem rt1l {q : Nat} (h : isRt q = true) : (q + 1) < LX.1 := by rcases isRt_c h with rfl | rfl | rfl <;> exact Nat.le_of_ble_eq_true rfl
theorem rt2 {q : Nat} (h : isRt q = true) : LX.2.1 (q + 2) = (0, 8) := by rcases isRt_c h with rfl | rfl | rfl <;> rfl
theorem rt2l {q : Nat} (h : isRt q = true) : (q + 2) < LX.1 := by rcases isRt_c h with rfl | rfl | rfl <;> exact Nat.le_of_ble_eq_true rfl
theorem cr0 {q : Nat} (h : isCr q = true) : LX.2.1 q = (11, 0) := by rcases isCr_c h with rfl | rfl | rfl <;> rfl
theorem cr0l {q : Nat} (h : isCr q = true) : q < LX.1 := by rcases isCr_c h with rfl | rfl | rfl <;> exact Nat.le_of_ble_eq_true rfl
theorem cr1 {q : Nat} (h : isCr q = true) : LX.2.1 (q + 1) = (0, 60) := by rcases isCr_c h with rfl | rfl | rfl <;> rfl
theorem cr1l {q : Nat} (h : isCr q = true) : (q + 1) < LX.1 := by rcases isCr_c h with rfl | rfl | rfl <;> exact Nat.le_of_ble_eq_true rfl
theorem cr2 {q : Nat} (h : isCr q = true) : LX.2.1 (q + 2) = (1, 60) := by rcases isCr_c h with rfl | rfl | rfl <;> rfl
theorem cr2l {q : Nat} (h : isCr q = true) : (q + 2) < LX.1 := by rcases isCr_c h with rfl | rfl | rfl <;> exact Nat.le_of_ble_eq_true rfl
theorem cr3 {q : Nat} (h : isCr q = true) : LX.2.1 (q + 3) = (1, 60) := by rcases isCr_c h with rfl | rfl | rfl <;> rfl
theorem cr3l {q : Nat} (h : isCr q = true) : (q + 3) < LX.1 := by rcases isCr_c h with rfl | rfl | rfl <;> exact Nat.le_of_ble_eq_true rfl

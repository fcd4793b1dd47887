/-! ===== the relation between the two systems ===== -/
/-- what else the files hold: i bounds the editions -/
def TV (Y : JX) (i : Nat) : Prop := ∀ n, n < 60 → (∃ e, e ≤ 1 + i ∧ Y 5 n = nI e) ∧ ((Y 8 n = 0 ∨ Y 8 n = 1) ∧ (Y 1 n = 0 ∨ Y 1 n = 1) ∧ ∀ m, m < 60 → Y 1 n ≠ 0 → Y 1 m ≠ 0 → Y 3 n = Y 3 m → Y 4 n = Y 4 m → n = m) ∧ ∃ l, l ≤ 20 ∧ Y 6 n = nI l ∧ ∀ j, j < l → (∃ w, w ≤ 99 ∧ Y 7 (20 * n + j) = nI w) ∨ Y 7 (20 * n + j) = -2 ∨ Y 7 (20 * n + j) = -3
/-- a root's queue, and its crawl -/
def QX (X Y : JX) (R : Nat) : Prop := ∀ r, r < R → (X (pl X r) 4 = Y 11 r ∧ X (pl X r) 5 = Y 14 r ∧ ∃ k, k ≤ 8 ∧ Y 11 r = nI k ∧ (Y 14 r = 0 ∨ Y 14 r = 1 ∧ k = 0) ∧ ∀ j, j < k → X (pl X r + 1) j = Y 12 (8 * r + j) + 1 ∧ X (pl X r + 2) j = Y 13 (8 * r + j) ∧ (Y 12 (8 * r + j) = 0 ∨ Y 12 (8 * r + j) = 1 ∨ Y 12 (8 * r + j) = 2) ∧ ∃ n, n < 60 ∧ Y 13 (8 * r + j) = nI n) ∧ X (pl X r + 3) 4 = Y 15 r ∧ X (pl X r + 3) 3 = Y 16 r ∧ (∃ w, w ≤ 60 ∧ Y 16 r = nI w ∧ (Y 15 r = 0 ∨ Y 15 r = 1 ∧ 1 ≤ w) ∧ (∀ j, j < w → X (pl X r + 4) j = Y 17 (60 * r + j) ∧ ∃ n, n < 60 ∧ Y 17 (60 * r + j) = nI n) ∧ (∀ j k, j < w → k < w → Y 17 (60 * r + j) = Y 17 (60 * r + k) → j = k) ∧ ∀ n, n < 60 → (X (pl X r + 5) n ≠ 0 ↔ ∃ j, j < w ∧ Y 17 (60 * r + j) = nI n)) ∧ ∀ n, n < 60 → X (pl X r + 6) n = Y 18 (60 * r + n) ∧ (Y 18 (60 * r + n) = 0 ∨ Y 18 (60 * r + n) = 1)
/-- the entries -/
def EX (X Y : JX) : Prop := ∀ n, n < 60 → X 36 n = Y 19 n ∧ X 37 n = Y 20 n ∧ X 38 n = Y 21 n ∧ X 39 n = Y 22 n ∧ X 40 n = Y 23 n ∧ X 42 n = Y 31 n ∧ ∀ j, j < 20 → X (116 + n) j = Y 24 (20 * n + j)
def EY (Y : JX) (M : Nat) : Prop := ∀ n, n < 60 → (Y 19 n ≠ 0 → n < M ∧ ∃ m, m < 60 ∧ Y 20 n = nI m) ∧ (∃ l, l ≤ 20 ∧ Y 23 n = nI l ∧ ∀ j, j < l → ∃ w, w ≤ 99 ∧ Y 24 (20 * n + j) = nI w) ∧ (M ≤ n ∨ Y 2 n ≠ 0 → Y 22 n = 0)
/-- the acts -/
def KY (Y : JX) (A : Nat) : Prop := (A ≤ 60 ∧ Y 0 30 = nI A) ∧ (∀ j, j < A → (∃ n, n < 60 ∧ Y 25 j = nI n) ∧ (Y 26 j = 1 ∨ Y 26 j = 2) ∧ (Y 27 j = 0 ∨ Y 27 j = 1)) ∧ ∀ j k, j < A → k < A → Y 25 j = Y 25 k → j = k
def KX (X Y : JX) (A : Nat) : Prop := X 45 3 = nI A ∧ (∀ j, j < A → X 46 j = Y 25 j ∧ X 47 (Y 25 j).toNatClampNeg = Y 26 j ∧ X 48 (Y 25 j).toNatClampNeg = Y 27 j) ∧ ∀ n, n < 60 → (∀ j, j < A → Y 25 j ≠ nI n) → X 47 n = 0 ∧ X 48 n = 0
/-- the index: P places in S segments -/
def IY (Y : JX) (P S : Nat) : Prop := (Y 0 37 = nI P ∧ Y 0 41 = nI S) ∧ (∀ k, k < P → (∃ s, s < S ∧ Y 28 k = nI s) ∧ (∃ n, n < 60 ∧ Y 29 k = nI n ∧ nI n < Y 0 2 ∧ Y 2 n = 0) ∧ (Y 30 k = 0 ∨ Y 30 k = 1)) ∧ (∀ k k', k < P → k' < P → Y 28 k = Y 28 k' → Y 29 k = Y 29 k' → k = k') ∧ ∀ k k', k < P → k' < P → Y 29 k = Y 29 k' → Y 30 k = 0 → Y 30 k' = 0 → k = k'
def liveP (Y : JX) (s : Nat) (k : Nat) : Bool := decide (Y 28 k = nI s ∧ Y 30 k = 0)
def deadP (Y : JX) (s : Nat) (k : Nat) : Bool := decide (Y 28 k = nI s ∧ Y 30 k ≠ 0)
def IX (X Y : JX) (P S : Nat) : Prop := X 49 3 = nI S ∧ (∀ s, s < S → X 51 s = nI (cnt (liveP Y s) P 0) ∧ X 52 s = nI (cnt (deadP Y s) P 0)) ∧ ∀ n, n < 60 → (X 50 n = -1 ∧ ∀ k, k < P → Y 29 k = nI n → Y 30 k ≠ 0) ∨ ∃ s k, s < S ∧ k < P ∧ X 50 n = nI s ∧ Y 28 k = nI s ∧ Y 29 k = nI n ∧ Y 30 k = 0
/-- between works: what is live has an entry, nothing is marked as read, no segment is without a live place -/
def IQ (Y : JX) (P S : Nat) : Prop := S ≤ 3 ∧ (∀ k n, k < P → n < 60 → Y 29 k = nI n → Y 30 k = 0 → Y 19 n ≠ 0) ∧ ∀ n, n < 60 → Y 31 n = 0
def SX (X Y : JX) : Prop := X 34 0 = Y 0 28 ∧ X 34 1 = Y 0 29 ∧ X 0 6 = Y 0 1 ∧ X 0 7 = Y 0 34 ∧ X 0 8 = if Y 0 35 = Y 0 1 / 60 then Y 0 36 else 0
def SY (Y : JX) : Prop := (∃ d, d ≤ 3 ∧ Y 0 28 = nI d) ∧ (∃ w, 1 ≤ w ∧ w ≤ 20 ∧ Y 0 29 = nI w) ∧ (∃ m h, m ≤ 100000 ∧ Y 0 1 = nI m ∧ Y 0 35 = nI h ∧ h ≤ m / 60) ∧ (∃ u, u ≤ 20 ∧ Y 0 36 = nI u) ∧ (Y 0 34 = 0 ∨ Y 0 34 = 1)
def Rel (i : Nat) (X Y : JX) : Prop := ∃ M R A P S, (TY Y M ∧ TX X Y ∧ TV Y i) ∧ (RY Y R ∧ RX X Y R ∧ QX X Y R) ∧ (EX X Y ∧ EY Y M) ∧ (KY Y A ∧ KX X Y A) ∧ (IY Y P S ∧ IX X Y P S ∧ IQ Y P S) ∧ SX X Y ∧ SY Y
theorem Rel.mono {i j : Nat} {X Y : JX} (hij : i ≤ j) (h : Rel i X Y) : Rel j X Y := by
  obtain ⟨M, R, A, P, S, ⟨h1, h2, h3⟩, h4⟩ := h
  refine ⟨M, R, A, P, S, ⟨h1, h2, fun n hn => ?_⟩, h4⟩
  obtain ⟨⟨e, he, e2⟩, h5⟩ := h3 n hn
  exact ⟨⟨e, by omega, e2⟩, h5⟩
/-- the mark of what was thrown is no one's -/
abbrev thr (Y : JX) (s : Int32) : JX := pX Y 0 (upd (Y 0) 0 s)
theorem Rel.thr {i : Nat} {X Y : JX} {s : Int32} (h : Rel i X Y) : Rel i X (thr Y s) := by
  obtain ⟨M, R, A, P, S, ⟨h1, h2, h3⟩, ⟨h4, h5, h6⟩, ⟨h7, h8⟩, ⟨h9, h10⟩, ⟨h11, h12, h13⟩, h14, h15⟩ := h
  exact ⟨M, R, A, P, S, ⟨h1, h2, h3⟩, ⟨h4, h5, h6⟩, ⟨h7, h8⟩, ⟨h9, h10⟩, ⟨h11, h12, h13⟩, h14, h15⟩
/-! what stays where cells stay -/
def eqC (a b : Nat) (X' X : JX) : Prop := ∀ k, a ≤ k → k < b → X' k = X k
theorem eqC.rf {a b : Nat} {X : JX} : eqC a b X X := fun _ _ _ => rfl
theorem eqC.tr {a b : Nat} {X X' X'' : JX} (h : eqC a b X'' X') (h2 : eqC a b X' X) : eqC a b X'' X := fun k h3 h4 => (h k h3 h4).trans (h2 k h3 h4)
theorem eqC.sub {a b c d : Nat} {X X' : JX} (h : eqC a b X' X) (h1 : a ≤ c) (h2 : d ≤ b) : eqC c d X' X := fun k h3 h4 => h k (by omega) (by omega)
theorem eqC.p {a b q : Nat} {X X' : JX} {f : Nat → Int32} (h : eqC a b X' X) (hq : q < a ∨ b ≤ q) : eqC a b (pX X' q f) X := fun k h1 h2 => by
  rw [p_at, if_neg (by omega)]
  exact h k h1 h2
theorem TX.fr {X X' Y Y' : JX} (h : TX X Y) (h1 : X' 1 9 = X 1 9) (h2 : eqC 2 10 X' X) (h3 : eqC 56 116 X' X) (y0 : Y' 0 2 = Y 0 2) (hy : eqC 1 10 Y' Y) : TX X' Y' := by
  have hp : prY Y' = prY Y := by
    unfold prY
    rw [hy 1 (by omega) (by omega), hy 3 (by omega) (by omega)]
  refine ⟨by rw [h1, y0]; exact h.1, fun n hn => ?_⟩
  rw [h2 2 (by omega) (by omega), h2 3 (by omega) (by omega), h2 4 (by omega) (by omega), h2 5 (by omega) (by omega), h2 6 (by omega) (by omega), h2 7 (by omega) (by omega), h2 9 (by omega) (by omega), h2 8 (by omega) (by omega), h3 (56 + n) (by omega) (by omega), hp,
    hy 4 (by omega) (by omega), hy 2 (by omega) (by omega), hy 1 (by omega) (by omega), hy 8 (by omega) (by omega), hy 9 (by omega) (by omega), hy 6 (by omega) (by omega), hy 5 (by omega) (by omega), hy 7 (by omega) (by omega)]
  exact h.2 n hn
theorem pl_fr {X X' : JX} (h : eqC 11 34 X' X) (r : Nat) : pl X' r = pl X r := by
  unfold pl
  rw [h 12 (by omega) (by omega)]
theorem rt_in {X : JX} {r : Nat} (h : PX X) (hr : r < 3) : 13 ≤ pl X r ∧ pl X r + 6 < 34 := by
  rcases isRt_c (h.1 r hr) with e | e | e <;> omega
theorem RX.fr {X X' Y Y' : JX} {R : Nat} (hR : R ≤ 3) (h : RX X Y R) (h1 : eqC 11 34 X' X) (hy : Y' 10 = Y 10) : RX X' Y' R := by
  obtain ⟨⟨a1, a2⟩, b, c⟩ := h
  refine ⟨⟨fun r hr => by rw [pl_fr h1]; exact a1 r hr, fun r s hr hs => by rw [pl_fr h1, pl_fr h1]; exact a2 r s hr hs⟩, by rw [h1 11 (by omega) (by omega)]; exact b, fun r hr => ?_⟩
  have := rt_in ⟨a1, a2⟩ (show r < 3 by omega)
  rw [pl_fr h1, h1 (pl X r) (by omega) (by omega), hy]
  exact c r hr
theorem QX.fr {X X' Y Y' : JX} {R : Nat} (hR : R ≤ 3) (hP : PX X) (h : QX X Y R) (h1 : eqC 11 34 X' X) (hy : eqC 11 19 Y' Y) : QX X' Y' R := by
  intro r hr
  have := rt_in hP (show r < 3 by omega)
  rw [pl_fr h1, h1 (pl X r) (by omega) (by omega), h1 (pl X r + 1) (by omega) (by omega), h1 (pl X r + 2) (by omega) (by omega), h1 (pl X r + 3) (by omega) (by omega), h1 (pl X r + 4) (by omega) (by omega), h1 (pl X r + 5) (by omega) (by omega), h1 (pl X r + 6) (by omega) (by omega),
    hy 11 (by omega) (by omega), hy 12 (by omega) (by omega), hy 13 (by omega) (by omega), hy 14 (by omega) (by omega), hy 15 (by omega) (by omega), hy 16 (by omega) (by omega), hy 17 (by omega) (by omega), hy 18 (by omega) (by omega)]
  exact h r hr
theorem EX.fr {X X' Y Y' : JX} (h : EX X Y) (h1 : eqC 36 43 X' X) (h2 : eqC 116 176 X' X) (hy : eqC 19 25 Y' Y) (hy2 : Y' 31 = Y 31) : EX X' Y' := by
  intro n hn
  rw [h1 36 (by omega) (by omega), h1 37 (by omega) (by omega), h1 38 (by omega) (by omega), h1 39 (by omega) (by omega), h1 40 (by omega) (by omega), h1 42 (by omega) (by omega), h2 (116 + n) (by omega) (by omega),
    hy 19 (by omega) (by omega), hy 20 (by omega) (by omega), hy 21 (by omega) (by omega), hy 22 (by omega) (by omega), hy 23 (by omega) (by omega), hy 24 (by omega) (by omega), hy2]
  exact h n hn

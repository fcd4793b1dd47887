/-! ===== the pure part: loops of the shallow functions in closed form ===== -/
theorem dX_eq (X : JX) {α : Type} (f : JX → α) : nX X f = f X := rfl
theorem dV_eq (v : Int32) {α : Type} (f : Int32 → α) : nV v f = f v := rfl
theorem dN_eq (q : Nat) {α : Type} (f : Nat → α) : nN q f = f q := rfl
theorem oC_none {α : Type} (a : α) (b : Nat → α) : oC none a b = a := rfl
theorem oC_some {α : Type} (q : Nat) (a : α) (b : Nat → α) : oC (some q) a b = b q := rfl
theorem bd_some {α β : Type} (a : α) (f : α → Option β) : (some a).bind f = f a := rfl
/-- m steps from the place i, each may end the loop with an answer -/
def fx {α β : Type} (st : Nat → α → Bool) (res : Nat → α → β) (s : Nat → α → α) (out : α → β) : Nat → Nat → α → β
  | 0, _, a => out a
  | m + 1, i, a => if st i a = true then res i a else fx st res s out m (i + 1) (s i a)
/-- m steps from the place i -/
def fo {α : Type} (s : Nat → α → α) : Nat → Nat → α → α
  | 0, _, a => a
  | m + 1, i, a => fo s m (i + 1) (s i a)
theorem lpx {α β : Type} (N : Nat) (I : Nat → α → Prop) (st : Nat → α → Bool) (res : Nat → α → β) (s : Nat → α → α) (out : α → β) (L : Nat → Nat → α → Option β)
    (hs : ∀ f i a, i < N → I i a → (st i a = true ∧ L (f + 1) i a = some (res i a)) ∨ (st i a = false ∧ L (f + 1) i a = L f (i + 1) (s i a) ∧ I (i + 1) (s i a)))
    (h0 : ∀ f a, I N a → L (f + 1) N a = some (out a)) : ∀ m f i a, i + m = N → m + 1 ≤ f → I i a → L f i a = some (fx st res s out m i a) := by
  intro m
  induction m with
  | zero =>
    intro f i a hi hf hI
    obtain ⟨f', rfl⟩ := Nat.exists_eq_add_of_le' hf
    have : i = N := by omega
    subst this
    exact h0 _ a hI
  | succ m ih =>
    intro f i a hi hf hI
    obtain ⟨f', rfl⟩ := Nat.exists_eq_add_of_le' (show 1 ≤ f by omega)
    rcases hs f' i a (by omega) hI with ⟨h1, h2⟩ | ⟨h1, h2, h3⟩
    · rw [h2, fx, if_pos h1]
    · rw [h2, fx, h1, if_neg (by decide)]
      exact ih f' (i + 1) (s i a) (by omega) (by omega) h3
theorem lp {α β : Type} (N : Nat) (I : Nat → α → Prop) (s : Nat → α → α) (out : α → β) (L : Nat → Nat → α → Option β)
    (hs : ∀ f i a, i < N → I i a → L (f + 1) i a = L f (i + 1) (s i a) ∧ I (i + 1) (s i a))
    (h0 : ∀ f a, I N a → L (f + 1) N a = some (out a)) : ∀ m f i a, i + m = N → m + 1 ≤ f → I i a → L f i a = some (out (fo s m i a)) ∧ I N (fo s m i a) := by
  intro m
  induction m with
  | zero =>
    intro f i a hi hf hI
    obtain ⟨f', rfl⟩ := Nat.exists_eq_add_of_le' hf
    have : i = N := by omega
    subst this
    exact ⟨h0 _ a hI, hI⟩
  | succ m ih =>
    intro f i a hi hf hI
    obtain ⟨f', rfl⟩ := Nat.exists_eq_add_of_le' (show 1 ≤ f by omega)
    obtain ⟨h2, h3⟩ := hs f' i a (by omega) hI
    rw [h2, fo]
    exact ih f' (i + 1) (s i a) (by omega) (by omega) h3
theorem fo_inv {α : Type} {s : Nat → α → α} (P : Nat → α → Prop) (N : Nat) (h : ∀ i a, i < N → P i a → P (i + 1) (s i a)) : ∀ m i a, i + m = N → P i a → P N (fo s m i a) := by
  intro m
  induction m with
  | zero => intro i a hi hP; have : i = N := by omega
            subst this; exact hP
  | succ m ih => intro i a hi hP; rw [fo]; exact ih (i + 1) (s i a) (by omega) (h i a (by omega) hP)
theorem fo_add {α : Type} (s : Nat → α → α) : ∀ m k i a, fo s (m + k) i a = fo s k (i + m) (fo s m i a) := by
  intro m
  induction m with
  | zero => intro k i a; rw [Nat.zero_add]; rfl
  | succ m ih => intro k i a; rw [show m + 1 + k = (m + k) + 1 by omega, fo, fo, ih, show i + 1 + m = i + (m + 1) by omega]
theorem fo_id {α : Type} {s : Nat → α → α} {a : α} : ∀ m i, (∀ j, i ≤ j → j < i + m → s j a = a) → fo s m i a = a := by
  intro m
  induction m with
  | zero => intro i _; rfl
  | succ m ih => intro i h; rw [fo, h i (by omega) (by omega)]; exact ih (i + 1) (fun j h1 h2 => h j (by omega) (by omega))
theorem fo_congr {α : Type} {s t : Nat → α → α} : ∀ m i a, (∀ j a, i ≤ j → j < i + m → s j a = t j a) → fo s m i a = fo t m i a := by
  intro m
  induction m with
  | zero => intro i a _; rfl
  | succ m ih => intro i a h; rw [fo, fo, h i a (by omega) (by omega)]; exact ih (i + 1) _ (fun j a h1 h2 => h j a (by omega) (by omega))
/-! numbers -/
theorem n60 : (60 : Int32) = nI 60 := rfl
theorem n_le {a b : Nat} (ha : a < 2 ^ 31) (hb : b < 2 ^ 31) : (nI a ≤ nI b) = (a ≤ b) := propext (nI_leI ha hb)
theorem n_lt {a b : Nat} (ha : a < 2 ^ 31) (hb : b < 2 ^ 31) : (nI a < nI b) = (a < b) := propext (nI_ltI ha hb)
theorem n_eq {a b : Nat} (ha : a < 2 ^ 31) (hb : b < 2 ^ 31) : (nI a = nI b) = (a = b) := propext (nI_eq ha hb)
theorem n_neg {a : Nat} (ha : a < 2 ^ 31) : (nI a < 0) = False := eq_false (nI_pos ha)
theorem n_ne1 {a : Nat} (ha : a < 2 ^ 31) : (nI a = -1) = False := eq_false (fun h => by
  have h1 := congrArg Int32.toInt h
  rw [nI_toInt ha, show (-1 : Int32).toInt = -1 from rfl] at h1
  omega)
theorem n_0 {a : Nat} (ha : a < 2 ^ 31) : (nI a = 0) = (a = 0) := by
  rw [← nI_0]; exact n_eq ha (by decide)
theorem n_ok {i n : Nat} (h : i < n) (hn : n < 2 ^ 31) : okI (nI i) n = true := okI_nI h hn
theorem n_add1 (a : Nat) : nI a + 1 = nI (a + 1) := nI_1 a
theorem n_sub1 {a : Nat} (h : 0 < a) : nI a - 1 = nI (a - 1) := by
  obtain ⟨b, rfl⟩ := Nat.exists_eq_add_of_le' h
  exact nI_pred b
/-- a place that one write touches, and the rest -/
theorem p_at (X : JX) (k : Nat) (f : Nat → Int32) (q : Nat) : pX X k f q = if q = k then f else X q := rfl
theorem u_at (f : Nat → Int32) (i : Nat) (v : Int32) (j : Nat) : upd f i v j = if j = i then v else f j := rfl
/-- an int that is a number below n -/
def isN (n : Nat) (v : Int32) : Prop := ¬ v < 0 ∧ v < nI n
theorem isN_of {n i : Nat} (h : i < n) (hn : n < 2 ^ 31) : isN n (nI i) := ⟨nI_pos (by omega), nI_lt h hn⟩
theorem isN_ex {n : Nat} {v : Int32} (hn : n < 2 ^ 31) (h : isN n v) : ∃ i, i < n ∧ v = nI i := by
  obtain ⟨j, h1, rfl⟩ := nI_of h.1
  exact ⟨j, (nI_ltI h1 hn).mp h.2, rfl⟩
theorem n_cases {n : Nat} (hn : n < 2 ^ 31) (v : Int32) : v < 0 ∨ (∃ i, i < n ∧ v = nI i) ∨ nI n ≤ v := by
  by_cases h : v < 0
  · exact Or.inl h
  · obtain ⟨j, h1, rfl⟩ := nI_of h
    by_cases h2 : j < n
    · exact Or.inr (Or.inl ⟨j, h2, rfl⟩)
    · exact Or.inr (Or.inr (nI_le (by omega) h1))
def bo (p : Prop) [Decidable p] : Int32 := if p then 1 else 0
theorem bo_0 {p : Prop} [Decidable p] : (bo p = 0) = ¬ p := by
  unfold bo
  by_cases h : p
  · rw [if_pos h]; exact propext ⟨fun e => absurd e (by decide), fun e => absurd h e⟩
  · rw [if_neg h]; exact propext ⟨fun _ => h, fun _ => rfl⟩
theorem bo_ok {p : Prop} [Decidable p] : okB (bo p) = true := by
  unfold bo
  by_cases h : p
  · rw [if_pos h]; rfl
  · rw [if_neg h]; rfl

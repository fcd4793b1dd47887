/-! ===== ways over parents ===== -/
def enc (u : Option Nat) : Int32 := match u with
  | none => -1
  | some n => nI n
def it (pr : Nat → Option Nat) : Nat → Option Nat → Option Nat
  | 0, u => u
  | k + 1, u => it pr k (u.bind pr)
def bel (pr : Nat → Option Nat) (f : Nat) : Nat → Option Nat → Bool
  | 0, _ => false
  | _ + 1, none => false
  | k + 1, some u => u == f || bel pr f k (pr u)
/-- parents lie below 60, and each way ends -/
def Tr (pr : Nat → Option Nat) : Prop := (∀ n m, pr n = some m → n < 60 ∧ m < 60) ∧ ∀ u, ∃ k, it pr k u = none
theorem it_none (pr : Nat → Option Nat) : ∀ k, it pr k none = none
  | 0 => rfl
  | k + 1 => it_none pr k
theorem it_succ (pr : Nat → Option Nat) : ∀ k u, it pr (k + 1) u = (it pr k u).bind pr
  | 0, _ => rfl
  | k + 1, u => it_succ pr k (u.bind pr)
theorem it_add (pr : Nat → Option Nat) : ∀ j k u, it pr (j + k) u = it pr k (it pr j u)
  | 0, k, u => by rw [Nat.zero_add]; rfl
  | j + 1, k, u => by rw [show j + 1 + k = (j + k) + 1 by omega]; exact it_add pr j k (u.bind pr)
theorem it_up {pr : Nat → Option Nat} {k j : Nat} {u : Option Nat} (h : it pr k u = none) (hj : k ≤ j) : it pr j u = none := by
  obtain ⟨d, rfl⟩ := Nat.exists_eq_add_of_le hj
  rw [it_add, h, it_none]
theorem bel_iff (pr : Nat → Option Nat) (f : Nat) : ∀ k u, bel pr f k u = true ↔ ∃ j, j < k ∧ it pr j u = some f
  | 0, u => by simp [bel]
  | k + 1, none => by
    simp only [bel]
    constructor
    · intro h; cases h
    · rintro ⟨j, -, h⟩; rw [it_none] at h; cases h
  | k + 1, some u => by
    simp only [bel, Bool.or_eq_true, beq_iff_eq]
    rw [bel_iff pr f k (pr u)]
    constructor
    · rintro (rfl | ⟨j, h1, h2⟩)
      · exact ⟨0, Nat.succ_pos _, rfl⟩
      · exact ⟨j + 1, by omega, h2⟩
    · rintro ⟨j, h1, h2⟩
      rcases j with _ | j
      · exact Or.inl (Option.some.inj h2)
      · exact Or.inr ⟨j, by omega, h2⟩
theorem it_lt {pr : Nat → Option Nat} (h : ∀ n m, pr n = some m → n < 60 ∧ m < 60) {u : Option Nat} (hu : ∀ n, u = some n → n < 60) : ∀ k n, it pr k u = some n → n < 60
  | 0, n, e => hu n e
  | k + 1, n, e => by
    rw [it_succ] at e
    obtain ⟨m, -, h2⟩ := Option.bind_eq_some_iff.mp e
    exact (h m n h2).2
theorem it_rep {pr : Nat → Option Nat} {i j k : Nat} {u : Option Nat} (hij : i < j) (e : it pr i u = it pr j u) (hk : it pr k u = none) : it pr i u = none := by
  have h : ∀ n, it pr (i + n * (j - i)) u = it pr i u := by
    intro n
    induction n with
    | zero => rw [Nat.zero_mul]; rfl
    | succ n ih =>
      have e3 : i + (n + 1) * (j - i) = (i + n * (j - i)) + (j - i) := by rw [Nat.succ_mul]; omega
      rw [e3, it_add, ih, ← it_add, show i + (j - i) = j by omega]
      exact e.symm
  have h2 := h k
  rw [it_up hk (by
    have : k * 1 ≤ k * (j - i) := Nat.mul_le_mul_left k (by omega)
    omega)] at h2
  exact h2.symm
/-- more places than values: two hold the same -/
theorem holes : ∀ (m n : Nat) (f : Nat → Nat), (∀ i, i < n → f i < m) → (∀ i j, i < j → j < n → f i ≠ f j) → n ≤ m
  | 0, 0, _, _, _ => Nat.le_refl _
  | 0, n + 1, f, h, _ => absurd (h 0 (Nat.succ_pos _)) (Nat.not_lt_zero _)
  | m + 1, 0, _, _, _ => Nat.zero_le _
  | m + 1, n + 1, f, h, hd => by
    have := holes m n (fun i => if f i < f n then f i else f i - 1) (fun i hi => by
      have h1 := h i (by omega)
      have h2 := h n (by omega)
      have h3 := hd i n hi (by omega)
      show (if f i < f n then f i else f i - 1) < m
      split <;> omega) (fun i j hij hj => by
      have h1 := hd i j hij (by omega)
      have h2 := hd i n (by omega) (by omega)
      have h3 := hd j n hj (by omega)
      show (if f i < f n then f i else f i - 1) ≠ (if f j < f n then f j else f j - 1)
      split <;> split <;> omega)
    omega
theorem pigeon {f : Nat → Nat} (h : ∀ i, i < 61 → f i < 60) : ∃ i j, i < j ∧ j < 61 ∧ f i = f j := by
  by_cases hc : ∃ i j, i < j ∧ j < 61 ∧ f i = f j
  · exact hc
  · have := holes 60 61 f h (fun i j hij hj e => hc ⟨i, j, hij, hj, e⟩)
    omega
theorem it_60 {pr : Nat → Option Nat} (h : Tr pr) {u : Option Nat} (hu : ∀ n, u = some n → n < 60) : it pr 60 u = none := by
  obtain ⟨k, hk⟩ := h.2 u
  by_cases hc : it pr 60 u = none
  · exact hc
  · have hv : ∀ i, i < 61 → it pr i u ≠ none := fun i hi e => hc (it_up e (by omega))
    obtain ⟨i, j, h1, h2, h3⟩ := pigeon (f := fun i => (it pr i u).getD 0) (fun i hi => by
      show (it pr i u).getD 0 < 60
      cases e : it pr i u with
      | none => exact absurd e (hv i hi)
      | some n => exact it_lt h.1 hu i n e)
    have h3 : (it pr i u).getD 0 = (it pr j u).getD 0 := h3
    cases e1 : it pr i u with
    | none => exact absurd e1 (hv i (by omega))
    | some a =>
      cases e2 : it pr j u with
      | none => exact absurd e2 (hv j h2)
      | some b =>
        rw [e1, e2] at h3
        have h3 : a = b := h3
        subst h3
        exact absurd (it_rep h1 (e1.trans e2.symm) hk) (hv i (by omega))
/-- f is on the way from u -/
def On (pr : Nat → Option Nat) (u : Option Nat) (f : Nat) : Prop := ∃ j, it pr j u = some f
theorem bel_On {pr : Nat → Option Nat} (h : Tr pr) {u : Option Nat} (hu : ∀ n, u = some n → n < 60) (f : Nat) : bel pr f 60 u = true ↔ On pr u f := by
  rw [bel_iff]
  constructor
  · rintro ⟨j, -, e⟩; exact ⟨j, e⟩
  · rintro ⟨j, e⟩
    refine ⟨j, ?_, e⟩
    by_cases hj : j < 60
    · exact hj
    · rw [it_up (it_60 h hu) (by omega)] at e; cases e
theorem bel_up {pr : Nat → Option Nat} {f K : Nat} {u : Option Nat} (h : it pr K u = none) {K' : Nat} (hK : K ≤ K') : bel pr f K' u = bel pr f K u := by
  rw [Bool.eq_iff_iff, bel_iff, bel_iff]
  constructor
  · rintro ⟨j, -, e⟩
    refine ⟨j, ?_, e⟩
    by_cases hj : j < K
    · exact hj
    · rw [it_up h (by omega)] at e; cases e
  · rintro ⟨j, h1, e⟩; exact ⟨j, by omega, e⟩
theorem On.self {pr : Nat → Option Nat} (n : Nat) : On pr (some n) n := ⟨0, rfl⟩
theorem On.up {pr : Nat → Option Nat} {n f : Nat} : On pr (some n) f ↔ n = f ∨ On pr (pr n) f := by
  constructor
  · rintro ⟨j, e⟩
    rcases j with _ | j
    · exact Or.inl (Option.some.inj e)
    · exact Or.inr ⟨j, e⟩
  · rintro (rfl | ⟨j, e⟩)
    · exact ⟨0, rfl⟩
    · exact ⟨j + 1, e⟩
theorem On.trans {pr : Nat → Option Nat} {u : Option Nat} {f g : Nat} (h1 : On pr u f) (h2 : On pr (some f) g) : On pr u g := by
  obtain ⟨j, e⟩ := h1
  obtain ⟨k, e2⟩ := h2
  exact ⟨j + k, by rw [it_add, e, e2]⟩
theorem On.none {pr : Nat → Option Nat} {f : Nat} : ¬ On pr none f := by
  rintro ⟨j, e⟩
  rw [it_none] at e
  cases e
/-- of two on one way, one is on the way from the other -/
theorem On.two {pr : Nat → Option Nat} {u : Option Nat} {f g : Nat} (h1 : On pr u f) (h2 : On pr u g) : On pr (some f) g ∨ On pr (some g) f := by
  obtain ⟨j, e⟩ := h1
  obtain ⟨k, e2⟩ := h2
  rcases Nat.le_total j k with h | h
  · obtain ⟨d, rfl⟩ := Nat.exists_eq_add_of_le h
    rw [it_add, e] at e2
    exact Or.inl ⟨d, e2⟩
  · obtain ⟨d, rfl⟩ := Nat.exists_eq_add_of_le h
    rw [it_add, e2] at e
    exact Or.inr ⟨d, e⟩
/-- nothing is on its own way again -/
theorem On.irr {pr : Nat → Option Nat} (h : Tr pr) {n : Nat} : ¬ On pr (pr n) n := by
  rintro ⟨j, e⟩
  obtain ⟨k, hk⟩ := h.2 (some n)
  have h2 := it_rep (i := 0) (j := j + 1) (u := some n) (Nat.succ_pos _) (show some n = it pr j (pr n) from e.symm) hk
  cases h2
/-! a parent changes -/
def setP (pr : Nat → Option Nat) (n : Nat) (v : Option Nat) : Nat → Option Nat := fun k => if k = n then v else pr k
theorem setP_off {pr : Nat → Option Nat} {n : Nat} {v : Option Nat} : ∀ j u, ¬ On pr u n → it (setP pr n v) j u = it pr j u
  | 0, _, _ => rfl
  | j + 1, none, _ => by rw [it_none, it_none]
  | j + 1, some k, h => by
    have hk : k ≠ n := fun e => h (by rw [e]; exact On.self n)
    have e : setP pr n v k = pr k := if_neg hk
    show it (setP pr n v) j (setP pr n v k) = it pr j (pr k)
    rw [e]
    exact setP_off j (pr k) (fun q => h (On.up.mpr (Or.inr q)))
theorem setP_Tr {pr : Nat → Option Nat} (h : Tr pr) {n : Nat} {v : Option Nat} (hn : n < 60) (hv : ∀ m, v = some m → m < 60) (ho : ¬ On pr v n) : Tr (setP pr n v) := by
  refine ⟨fun a b e => ?_, fun u => ?_⟩
  · unfold setP at e
    by_cases ha : a = n
    · rw [if_pos ha] at e; exact ⟨by omega, hv b e⟩
    · rw [if_neg ha] at e; exact h.1 a b e
  · obtain ⟨k, hk⟩ := h.2 u
    obtain ⟨kv, hkv⟩ := h.2 v
    have hv9 : it (setP pr n v) kv v = none := by rw [setP_off kv v ho]; exact hkv
    revert u
    induction k with
    | zero => intro u hk; exact ⟨0, hk⟩
    | succ k ih =>
      intro u hk
      cases u with
      | none => exact ⟨0, rfl⟩
      | some a =>
        by_cases ha : a = n
        · refine ⟨kv + 1, ?_⟩
          show it (setP pr n v) kv (setP pr n v a) = none
          rw [show setP pr n v a = v from if_pos ha]
          exact hv9
        · obtain ⟨k9, h9⟩ := ih (pr a) hk
          refine ⟨k9 + 1, ?_⟩
          show it (setP pr n v) k9 (setP pr n v a) = none
          rw [show setP pr n v a = pr a from if_neg ha]
          exact h9
theorem setP_On_off {pr : Nat → Option Nat} {n : Nat} {v u : Option Nat} {f : Nat} (h : ¬ On pr u n) : On (setP pr n v) u f ↔ On pr u f := by
  constructor
  · rintro ⟨j, e⟩; rw [setP_off j u h] at e; exact ⟨j, e⟩
  · rintro ⟨j, e⟩; exact ⟨j, by rw [setP_off j u h]; exact e⟩
/-! some are cut: the parents of what stays stay -/
theorem cut_it {pr pr' : Nat → Option Nat} {st : Nat → Prop} (h1 : ∀ n, st n → pr' n = pr n) (h2 : ∀ n m, st n → pr n = some m → st m) : ∀ j u, (∀ n, u = some n → st n) → it pr' j u = it pr j u
  | 0, _, _ => rfl
  | j + 1, none, _ => by rw [it_none, it_none]
  | j + 1, some n, h => by
    show it pr' j (pr' n) = it pr j (pr n)
    rw [h1 n (h n rfl)]
    exact cut_it h1 h2 j (pr n) (fun m e => h2 n m (h n rfl) e)

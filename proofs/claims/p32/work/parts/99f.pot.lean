/-! ===== p32: how much is still to do ===== -/
def tw (a b : Nat → Nat) (pr : Nat → Option Nat) : Nat → Nat → Option Nat → Nat
  | 0, _, _ => 0
  | _ + 1, _, none => 0
  | F + 1, k, some q => a q + b q * (1 + k) + tw a b pr F (k + 1) (pr q)
theorem tw_s (a b : Nat → Nat) (pr : Nat → Option Nat) (F k q : Nat) : tw a b pr (F + 1) k (some q) = a q + b q * (1 + k) + tw a b pr F (k + 1) (pr q) := rfl
theorem tw_n (a b : Nat → Nat) (pr : Nat → Option Nat) : ∀ F k, tw a b pr F k none = 0
  | 0, _ => rfl
  | _ + 1, _ => rfl
theorem tw_le {a b a' b' : Nat → Nat} {pr : Nat → Option Nat} : ∀ F k u, (∀ q, On pr u q → a' q ≤ a q ∧ b' q ≤ b q) → tw a' b' pr F k u ≤ tw a b pr F k u := by
  intro F
  induction F with
  | zero => intro k u _; exact Nat.le_refl _
  | succ F ih =>
    intro k u h
    cases u with
    | none => exact Nat.le_refl _
    | some q =>
      obtain ⟨h1, h2⟩ := h q (On.self q)
      have h3 := ih (k + 1) (pr q) (fun z hz => h z (On.up.mpr (Or.inr hz)))
      have h4 : b' q * (1 + k) ≤ b q * (1 + k) := Nat.mul_le_mul_right _ h2
      rw [tw_s, tw_s]
      omega
/-- one act more -/
theorem tw_add {a b a' : Nat → Nat} {pr : Nat → Option Nat} (hp : Tr pr) {n : Nat} (h : ∀ q, q ≠ n → a' q ≤ a q) (hn : a' n ≤ a n + 1) : ∀ F k u, tw a' b pr F k u ≤ tw a b pr F k u + 1 := by
  intro F
  induction F with
  | zero => intro k u; exact Nat.le_succ _
  | succ F ih =>
    intro k u
    cases u with
    | none => exact Nat.le_succ _
    | some q =>
      rw [tw_s, tw_s]
      by_cases e : q = n
      · have h3 := tw_le (a := a) (b := b) (a' := a') (b' := b) (pr := pr) F (k + 1) (pr q) (fun z hz => ⟨h z (fun y => On.irr hp (by rw [e] at hz; rw [y] at hz; exact hz)), Nat.le_refl _⟩)
        rw [e] at h3 ⊢
        omega
      · have h1 := h q e
        have h3 := ih (k + 1) (pr q)
        omega
/-- an act is done, and may bring acts on those next below -/
theorem tw_fold {a b a' : Nat → Nat} {pr : Nat → Option Nat} (hp : Tr pr) {n : Nat} (h1 : ∀ q, q ≠ n → pr q ≠ some n → a' q ≤ a q) (h2 : ∀ q, pr q = some n → a' q ≤ 1) (h3 : a' n + 1 ≤ a n) : ∀ F k u, it pr F u = none → tw a' b pr F k u ≤ tw a b pr F k u ∧ (u = some n → tw a' b pr F k u + 1 ≤ tw a b pr F k u) := by
  intro F
  induction F with
  | zero => intro k u h; exact ⟨Nat.le_refl _, fun e => by rw [e] at h; cases h⟩
  | succ F ih =>
    intro k u h
    cases u with
    | none => exact ⟨Nat.le_refl _, fun e => by cases e⟩
    | some q =>
      have h : it pr F (pr q) = none := h
      rw [tw_s, tw_s]
      by_cases e : q = n
      · have h4 := tw_le (a := a) (b := b) (a' := a') (b' := b) (pr := pr) F (k + 1) (pr q) (fun z hz => ⟨h1 z (fun y => On.irr hp (by rw [e] at hz; rw [y] at hz; exact hz)) (fun y => On.irr hp (n := n) (by
          rw [e] at hz
          exact hz.trans (On.up.mpr (Or.inr (by rw [y]; exact On.self n))))), Nat.le_refl _⟩)
        rw [e] at h4 ⊢
        exact ⟨by omega, fun _ => by omega⟩
      · obtain ⟨h5, h6⟩ := ih (k + 1) (pr q) h
        refine ⟨?_, fun z => absurd (Option.some.inj z) e⟩
        by_cases e2 : pr q = some n
        · have := h6 e2
          have := h2 q e2
          omega
        · have := h1 q e e2
          omega
/-- a folder of the crawl is done -/
theorem tw_crawl {a b a' b' : Nat → Nat} {pr : Nat → Option Nat} (hp : Tr pr) {f : Nat} (h1 : ∀ q, pr q ≠ some f → a' q ≤ a q ∧ (q ≠ f → b' q ≤ b q)) (h2 : ∀ q, pr q = some f → a' q ≤ a q + 1 ∧ b' q ≤ 1) (h3 : b' f + 1 ≤ b f) : ∀ F k u, it pr F u = none → tw a' b' pr F k u ≤ tw a b pr F k u ∧ (u = some f → tw a' b' pr F k u + (1 + k) ≤ tw a b pr F k u) := by
  intro F
  induction F with
  | zero => intro k u h; exact ⟨Nat.le_refl _, fun e => by rw [e] at h; cases h⟩
  | succ F ih =>
    intro k u h
    cases u with
    | none => exact ⟨Nat.le_refl _, fun e => by cases e⟩
    | some q =>
      have h : it pr F (pr q) = none := h
      rw [tw_s, tw_s]
      by_cases e : q = f
      · have ns : ∀ z, On pr (pr q) z → z ≠ f ∧ pr z ≠ some f := fun z hz => ⟨fun y => On.irr hp (by rw [e] at hz; rw [y] at hz; exact hz), fun y => On.irr hp (n := f) (by
          rw [e] at hz
          exact hz.trans (On.up.mpr (Or.inr (by rw [y]; exact On.self f))))⟩
        have h4 := tw_le (a := a) (b := b) (a' := a') (b' := b') (pr := pr) F (k + 1) (pr q) (fun z hz => ⟨(h1 z (ns z hz).2).1, (h1 z (ns z hz).2).2 (ns z hz).1⟩)
        have hff : pr f ≠ some f := fun y => On.irr hp (n := f) (by rw [y]; exact On.self f)
        have h5 := (h1 f hff).1
        have h6 : (b' f + 1) * (1 + k) ≤ b f * (1 + k) := Nat.mul_le_mul_right _ h3
        have h7 : (b' f + 1) * (1 + k) = b' f * (1 + k) + (1 + k) := Nat.succ_mul _ _
        rw [e] at h4 ⊢
        exact ⟨by omega, fun _ => by omega⟩
      · obtain ⟨h5, h6⟩ := ih (k + 1) (pr q) h
        refine ⟨?_, fun z => absurd (Option.some.inj z) e⟩
        by_cases e2 : pr q = some f
        · have h7 := h6 e2
          obtain ⟨h8, h9⟩ := h2 q e2
          have h10 : b' q * (1 + k) ≤ 1 * (1 + k) := Nat.mul_le_mul_right _ h9
          omega
        · obtain ⟨h8, h9⟩ := h1 q e2
          have h10 : b' q * (1 + k) ≤ b q * (1 + k) := Nat.mul_le_mul_right _ (h9 e)
          omega
/-- no folder waits -/
theorem tw_b0 {a b : Nat → Nat} {pr : Nat → Option Nat} (ha : ∀ q, a q ≤ 1) (hb : ∀ q, b q = 0) : ∀ G F k u, it pr G u = none → tw a b pr F k u ≤ G := by
  intro G
  induction G with
  | zero => intro F k u h; have h : u = none := h; rw [h, tw_n]; exact Nat.le_refl _
  | succ G ih =>
    intro F k u h
    cases u with
    | none => rw [tw_n]; exact Nat.zero_le _
    | some q =>
      cases F with
      | zero => exact Nat.zero_le _
      | succ F =>
        have := ih F (k + 1) (pr q) h
        have := ha q
        rw [tw_s, hb q, Nat.zero_mul]
        omega
/-- the top alone waits -/
theorem tw_b1 {a b : Nat → Nat} {pr : Nat → Option Nat} (h0 : pr 0 = none) (hb : ∀ q, q ≠ 0 → b q = 0) (hb0 : b 0 ≤ 1) : ∀ G F k u, it pr G u = none → tw a b pr F k u ≤ tw a (fun _ => 0) pr F k u + (G + k) := by
  intro G
  induction G with
  | zero => intro F k u h; have h : u = none := h; rw [h, tw_n]; exact Nat.zero_le _
  | succ G ih =>
    intro F k u h
    cases u with
    | none => rw [tw_n]; exact Nat.zero_le _
    | some q =>
      cases F with
      | zero => exact Nat.zero_le _
      | succ F =>
        rw [tw_s, tw_s, Nat.zero_mul]
        by_cases e : q = 0
        · rw [e, h0, tw_n, tw_n]
          have : b 0 * (1 + k) ≤ 1 * (1 + k) := Nat.mul_le_mul_right _ hb0
          omega
        · have := ih F (k + 1) (pr q) h
          rw [hb q e, Nat.zero_mul]
          omega
theorem it_M {pr : Nat → Option Nat} {M : Nat} (h : Tr pr) (hM : ∀ n m, pr n = some m → m < M) {u : Option Nat} (hu : ∀ n, u = some n → n < M) : it pr M u = none := by
  obtain ⟨k, hk⟩ := h.2 u
  by_cases hc : it pr M u = none
  · exact hc
  · have hv : ∀ i, i < M + 1 → it pr i u ≠ none := fun i hi e => hc (it_up e (by omega))
    have hlt : ∀ i n, it pr i u = some n → n < M := fun i n e => by
      cases i with
      | zero => exact hu n e
      | succ i =>
        rw [it_succ] at e
        obtain ⟨m, -, h2⟩ := Option.bind_eq_some_iff.mp e
        exact hM m n h2
    have := holes M (M + 1) (fun i => (it pr i u).getD 0) (fun i hi => by
      show (it pr i u).getD 0 < M
      cases e : it pr i u with
      | none => exact absurd e (hv i hi)
      | some n => exact hlt i n e) (fun i j hij hj => by
      show (it pr i u).getD 0 ≠ (it pr j u).getD 0
      cases e1 : it pr i u with
      | none => exact absurd e1 (hv i (by omega))
      | some a =>
        cases e2 : it pr j u with
        | none => exact absurd e2 (hv j hj)
        | some b =>
          intro z
          have z : a = b := z
          subst z
          exact absurd (it_rep hij (e1.trans e2.symm) hk) (hv i (by omega)))
    omega
/-! sums and counts -/
theorem su_le {f g : Nat → Nat} : ∀ m i, (∀ j, i ≤ j → j < i + m → f j ≤ g j) → su f m i ≤ su g m i := by
  intro m
  induction m with
  | zero => intro i _; exact Nat.le_refl _
  | succ m ih =>
    intro i h
    have := h i (Nat.le_refl _) (by omega)
    have := ih (i + 1) (fun j a b => h j (by omega) (by omega))
    rw [su_s, su_s]
    omega
theorem su_lt {f g : Nat → Nat} {r : Nat} : ∀ m i, (∀ j, i ≤ j → j < i + m → f j ≤ g j) → i ≤ r → r < i + m → f r + 1 ≤ g r → su f m i + 1 ≤ su g m i := by
  intro m
  induction m with
  | zero => intro i _ h1 h2; omega
  | succ m ih =>
    intro i h h1 h2 h3
    rw [su_s, su_s]
    by_cases e : r = i
    · have := su_le m (i + 1) (fun j a b => h j (by omega) (by omega))
      rw [e] at h3
      omega
    · have := h i (Nat.le_refl _) (by omega)
      have := ih (i + 1) (fun j a b => h j (by omega) (by omega)) (by omega) (by omega) h3
      omega
theorem su_le1 {f g : Nat → Nat} {d : Nat} : ∀ m i, (∀ j, i ≤ j → j < i + m → f j ≤ g j + d) → su f m i ≤ su g m i + d * m := by
  intro m
  induction m with
  | zero => intro i _; exact Nat.le_add_right _ _
  | succ m ih =>
    intro i h
    have h1 := h i (Nat.le_refl _) (by omega)
    have h2 := ih (i + 1) (fun j a b => h j (by omega) (by omega))
    rw [su_s, su_s, Nat.mul_succ]
    omega
theorem su_add' {f : Nat → Nat} : ∀ m k i, su f (m + k) i = su f m i + su f k (i + m) := by
  intro m
  induction m with
  | zero => intro k i; rw [Nat.zero_add, Nat.add_zero]; exact (Nat.zero_add _).symm
  | succ m ih => intro k i; rw [show m + 1 + k = (m + k) + 1 by omega, su_s, su_s, ih, show i + 1 + m = i + (m + 1) by omega]; omega
theorem cnt_mono2 {p q : Nat → Bool} : ∀ m i, (∀ j, i ≤ j → j < i + m → p j = true → q j = true) → cnt p m i ≤ cnt q m i := by
  intro m
  induction m with
  | zero => intro i _; exact Nat.le_refl _
  | succ m ih =>
    intro i h
    have h1 := h i (Nat.le_refl _) (by omega)
    have h2 := ih (i + 1) (fun j a b => h j (by omega) (by omega))
    rw [cnt_s, cnt_s]
    by_cases e : p i = true
    · rw [if_pos e, if_pos (h1 e)]; omega
    · rw [if_neg e]; omega
theorem cnt_lt {p q : Nat → Bool} {r : Nat} : ∀ m i, (∀ j, i ≤ j → j < i + m → p j = true → q j = true) → i ≤ r → r < i + m → p r = false → q r = true → cnt p m i + 1 ≤ cnt q m i := by
  intro m
  induction m with
  | zero => intro i _ h1 h2; omega
  | succ m ih =>
    intro i h h1 h2 h3 h4
    rw [cnt_s, cnt_s]
    by_cases e : r = i
    · have := cnt_mono2 m (i + 1) (fun j a b => h j (by omega) (by omega))
      rw [e] at h3 h4
      rw [if_neg (by rw [h3]; decide), if_pos h4]
      omega
    · have h5 := h i (Nat.le_refl _) (by omega)
      have h6 := ih (i + 1) (fun j a b => h j (by omega) (by omega)) (by omega) (by omega) h3 h4
      by_cases e2 : p i = true
      · rw [if_pos e2, if_pos (h5 e2)]; omega
      · rw [if_neg e2]; omega
theorem cnt_up1 {p q : Nat → Bool} {r : Nat} : ∀ m i, (∀ j, i ≤ j → j < i + m → j ≠ r → p j = true → q j = true) → cnt p m i ≤ cnt q m i + 1 := by
  intro m
  induction m with
  | zero => intro i _; exact Nat.le_succ _
  | succ m ih =>
    intro i h
    rw [cnt_s, cnt_s]
    by_cases e : i = r
    · have := cnt_mono2 (p := p) (q := q) m (i + 1) (fun j a b => h j (by omega) (by omega) (by omega))
      split <;> omega
    · have h5 := h i (Nat.le_refl _) (by omega) e
      have h6 := ih (i + 1) (fun j a b => h j (by omega) (by omega))
      by_cases e2 : p i = true
      · rw [if_pos e2, if_pos (h5 e2)]; omega
      · rw [if_neg e2]; omega
theorem cnt_two {p q r : Nat → Bool} : ∀ m i, (∀ j, i ≤ j → j < i + m → (p j = true → r j = true) ∧ (q j = true → r j = true) ∧ ¬ (p j = true ∧ q j = true)) → cnt p m i + cnt q m i ≤ cnt r m i := by
  intro m
  induction m with
  | zero => intro i _; exact Nat.le_refl _
  | succ m ih =>
    intro i h
    obtain ⟨h1, h2, h3⟩ := h i (Nat.le_refl _) (by omega)
    have h6 := ih (i + 1) (fun j a b => h j (by omega) (by omega))
    rw [cnt_s, cnt_s, cnt_s]
    by_cases e1 : p i = true
    · have e2 : ¬ q i = true := fun z => h3 ⟨e1, z⟩
      rw [if_pos e1, if_neg e2, if_pos (h1 e1)]; omega
    · by_cases e2 : q i = true
      · rw [if_neg e1, if_pos e2, if_pos (h2 e2)]; omega
      · rw [if_neg e1, if_neg e2]; omega

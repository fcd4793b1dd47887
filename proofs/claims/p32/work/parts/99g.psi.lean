/-! ===== p32: each step makes what is still to do less by its cost ===== -/
def aX (X : JX) (q : Nat) : Nat := if 60 ≤ q ∨ X 47 q = 0 then 0 else 1
def bX (X : JX) (q : Nat) : Nat := if X 13 5 ≠ 0 ∨ 60 ≤ q ∨ X 18 q = 0 then 0 else 1
def drX (X : JX) (q : Nat) : Bool := decide (X 47 q = 2)
def flX (X : JX) (q : Nat) : Bool := decide (X 5 q ≠ 0 ∧ X 4 q = 0)
def unX (X : JX) (q : Nat) : Bool := flX X q && decide (¬ (X 36 q ≠ 0 ∧ X 39 q = X 8 q))
def dgX (M : Nat) (X : JX) (q : Nat) : Bool := decide (q < M ∧ X 5 q = 0 ∧ (¬ X 13 4 = 0 ∨ X 47 q ≠ 0 ∨ X 36 q ≠ 0))
def hdX (X : JX) : Nat := if X 13 5 ≠ 0 then 1225 else 62 * (X 13 4).toNatClampNeg + if X 16 4 = 0 then 0 else 612
def twX (pr : Nat → Option Nat) (X : JX) : Nat := su (fun m => tw (aX X) (bX X) pr 60 0 (some m)) 60 0
def Psi (pr : Nat → Option Nat) (M : Nat) (X : JX) : Nat := hdX X + twX pr X + cnt (drX X) 60 0 + 20 * (cnt (unX X) 60 0 + cnt (flX X) 60 0 * cnt (dgX M X) 60 0)
/-- what holds of the tree and the entries in a work -/
def PC (pr : Nat → Option Nat) (M : Nat) (X : JX) : Prop := TF pr X ∧ (M ≤ 24 ∧ ∀ n, n < 60 → X 5 n ≠ 0 → n < M) ∧ (∀ k, k < 60 → X 36 k ≠ 0 → ∃ m, m < M ∧ X 37 k = nI m) ∧ (∃ k, k ≤ 8 ∧ X 13 4 = nI k ∧ (X 13 5 ≠ 0 → k = 0)) ∧ X 4 0 ≠ 0
theorem aX_1 (X : JX) (q : Nat) : aX X q ≤ 1 := by unfold aX; split <;> omega
theorem bX_1 (X : JX) (q : Nat) : bX X q ≤ 1 := by unfold bX; split <;> omega
theorem aX_le {X X1 : JX} {q : Nat} (h : q < 60 → X1 47 q ≠ 0 → X 47 q ≠ 0) : aX X1 q ≤ aX X q := by
  unfold aX
  by_cases c : 60 ≤ q ∨ X1 47 q = 0
  · rw [if_pos c]; exact Nat.zero_le _
  · rw [if_neg c, if_neg (fun z => by
      rcases z with z | z
      · exact c (Or.inl z)
      · exact h (by omega) (fun y => c (Or.inr y)) z)]
    exact Nat.le_refl _
theorem bX_le {X X1 : JX} {q : Nat} (h5 : X1 13 5 = 0 → X 13 5 = 0) (h : q < 60 → X1 18 q ≠ 0 → X 18 q ≠ 0) : bX X1 q ≤ bX X q := by
  unfold bX
  by_cases c : X1 13 5 ≠ 0 ∨ 60 ≤ q ∨ X1 18 q = 0
  · rw [if_pos c]; exact Nat.zero_le _
  · have c5 : X1 13 5 = 0 := by
      by_cases z : X1 13 5 = 0
      · exact z
      · exact absurd (Or.inl z) c
    rw [if_neg c, if_neg (fun z => by
      rcases z with z | z | z
      · exact z (h5 c5)
      · exact c (Or.inr (Or.inl z))
      · exact h (by omega) (fun y => c (Or.inr (Or.inr y))) z)]
    exact Nat.le_refl _
theorem it60 {pr : Nat → Option Nat} {X : JX} (hF : TF pr X) {m : Nat} (hm : m < 60) : it pr 60 (some m) = none := it_60 hF.1 (fun n e => by cases e; exact hm)
theorem PC.lt {pr : Nat → Option Nat} {M : Nat} {X : JX} (h : PC pr M X) {n m : Nat} (e : pr n = some m) : n < M ∧ m < M := by
  obtain ⟨hF, ⟨-, h2⟩, -⟩ := h
  obtain ⟨n6, -, n5, m', em', m6, m5, -⟩ := hF.2.2.1 n (by rw [e]; exact fun z => by cases z)
  rw [e] at em'
  cases em'
  exact ⟨h2 n n6 n5, h2 m m6 m5⟩
/-- a way is no longer than 24, and of what was not made just one -/
def gM (m : Nat) : Nat := if m < 24 then 24 else 1
theorem it_g {pr : Nat → Option Nat} {M : Nat} {X : JX} (h : PC pr M X) (m : Nat) : it pr (gM m) (some m) = none := by
  unfold gM
  by_cases c : m < 24
  · rw [if_pos c]
    exact it_M h.1.1 (fun a b e => by have := (h.lt e).2; have := h.2.1.1; omega) (fun n e => by cases e; exact c)
  · rw [if_neg c]
    show pr m = none
    cases e : pr m with
    | none => rfl
    | some z =>
      have := (h.lt e).1
      have := h.2.1.1
      omega
theorem su_g : su gM 60 0 = 612 := by decide
theorem twX_b0 {pr : Nat → Option Nat} {M : Nat} {X : JX} (h : PC pr M X) {a b : Nat → Nat} (ha : ∀ q, a q ≤ 1) (hb : ∀ q, b q = 0) : su (fun m => tw a b pr 60 0 (some m)) 60 0 ≤ 612 := by
  rw [← su_g]
  exact su_le 60 0 (fun j _ _ => tw_b0 ha hb (gM j) 60 0 (some j) (it_g h j))
theorem twX_b1 {pr : Nat → Option Nat} {M : Nat} {X : JX} (h : PC pr M X) {a b : Nat → Nat} (hb : ∀ q, q ≠ 0 → b q = 0) (hb0 : b 0 ≤ 1) : su (fun m => tw a b pr 60 0 (some m)) 60 0 ≤ su (fun m => tw a (fun _ => 0) pr 60 0 (some m)) 60 0 + 612 := by
  have h1 : su (fun m => tw a b pr 60 0 (some m)) 60 0 ≤ su (fun m => tw a (fun _ => 0) pr 60 0 (some m) + gM m) 60 0 := su_le 60 0 (fun j _ _ => tw_b1 h.1.top hb hb0 (gM j) 60 0 (some j) (it_g h j))
  rw [su_add (f := fun m => tw a (fun _ => 0) pr 60 0 (some m) + gM m) (g := fun m => tw a (fun _ => 0) pr 60 0 (some m)) (h := gM) 60 0 (fun j _ _ => rfl), su_g] at h1
  exact h1
theorem num_144 : ∀ x, x < 24 → ∀ d, d < 24 → x + d ≤ 23 → x + x * d ≤ 144 := by decide
theorem PC.un {pr : Nat → Option Nat} {M : Nat} {X : JX} (h : PC pr M X) : cnt (unX X) 60 0 + cnt (flX X) 60 0 * cnt (dgX M X) 60 0 ≤ 144 := by
  have h0 : X 5 0 ≠ 0 → True := fun _ => trivial
  have h1 : cnt (unX X) 60 0 ≤ cnt (flX X) 60 0 := cnt_mono2 60 0 (fun j _ _ hj => by
    unfold unX at hj
    rw [Bool.and_eq_true] at hj
    exact hj.1)
  have h2 : cnt (flX X) 60 0 + cnt (fun q => decide (q ≠ 0) && dgX M X q) 60 0 ≤ cnt (fun q => decide (0 < q ∧ q < 24)) 60 0 := cnt_two 60 0 (fun j _ hj => by
    refine ⟨fun z => ?_, fun z => ?_, fun z => ?_⟩
    · have z := of_decide_eq_true z
      have := h.2.1.2 j (by omega) z.1
      have := h.2.1.1
      refine decide_eq_true ⟨?_, by omega⟩
      rcases Nat.eq_zero_or_pos j with w | w
      · rw [w] at z; exact absurd z.2 h.2.2.2.2
      · exact w
    · rw [Bool.and_eq_true] at z
      have z1 := of_decide_eq_true z.1
      have z2 := (of_decide_eq_true z.2).1
      have := h.2.1.1
      exact decide_eq_true ⟨by omega, by omega⟩
    · have z1 := of_decide_eq_true z.1
      have z2 := z.2
      rw [Bool.and_eq_true] at z2
      exact z1.1 (of_decide_eq_true z2.2).2.1)
  have h3 : cnt (fun q => decide (0 < q ∧ q < 24)) 60 0 = 23 := by decide
  have h4 : cnt (dgX M X) 60 0 ≤ cnt (fun q => decide (q ≠ 0) && dgX M X q) 60 0 + (if X 5 0 = 0 then 1 else 0) := by
    by_cases c : X 5 0 = 0
    · rw [if_pos c]
      exact cnt_up1 (r := 0) 60 0 (fun j _ _ h0 hj => by rw [Bool.and_eq_true]; exact ⟨decide_eq_true h0, hj⟩)
    · rw [if_neg c, Nat.add_zero]
      exact cnt_mono2 60 0 (fun j _ _ hj => by
        rw [Bool.and_eq_true]
        refine ⟨decide_eq_true (fun z => ?_), hj⟩
        have := (of_decide_eq_true hj).2.1
        rw [z] at this
        exact c this)
  by_cases c : X 5 0 = 0
  · -- the top is there where anything is
    have hno : cnt (flX X) 60 0 = 0 := cnt_0 60 0 (fun j _ hj => by
      refine decide_eq_false (fun z => ?_)
      obtain ⟨k, ek⟩ := h.1.2.2.2.2 j (by omega) z.1
      obtain ⟨-, a5⟩ := h.1.up k (some j) 0 (fun n en => by cases en; exact ⟨by omega, z.1⟩) ek
      exact a5 c)
    rw [hno] at h1 ⊢
    rw [Nat.zero_mul]
    omega
  · rw [if_neg c] at h4
    have h5 := num_144 (cnt (flX X) 60 0) (by omega) (cnt (dgX M X) 60 0) (by omega) (by omega)
    omega
/-- what is to do at most, at a crawl's beginning -/
theorem Psi_top {pr : Nat → Option Nat} {M : Nat} {X : JX} (h : PC pr M X) (h18 : ∀ n, n < 60 → X 18 n ≠ 0 → X 13 5 = 0 → n = 0) : Psi pr M X ≤ 5272 := by
  have h1 := h.un
  have h2 : cnt (drX X) 60 0 ≤ 60 := cnt_le _ 60 0
  have hb : ∀ q, q ≠ 0 → bX X q = 0 := fun q q0 => by
    unfold bX
    by_cases c : X 13 5 ≠ 0 ∨ 60 ≤ q ∨ X 18 q = 0
    · rw [if_pos c]
    · refine absurd (h18 q ?_ (fun z => c (Or.inr (Or.inr z))) ?_) q0
      · rcases Nat.lt_or_ge q 60 with w | w
        · exact w
        · exact absurd (Or.inr (Or.inl w)) c
      · by_cases z : X 13 5 = 0
        · exact z
        · exact absurd (Or.inl z) c
  have h3 := twX_b1 h (a := aX X) hb (bX_1 X 0)
  have h4 := twX_b0 h (a := aX X) (b := fun _ => 0) (aX_1 X) (fun _ => rfl)
  obtain ⟨k, k8, ek, e0⟩ := h.2.2.2.1
  have h5 : hdX X ≤ 1225 := by
    unfold hdX
    by_cases c : X 13 5 ≠ 0
    · rw [if_pos c]; exact Nat.le_refl _
    · rw [if_neg c, ek, nI_clamp (by omega)]
      split <;> omega
  have h6 : twX pr X ≤ 1224 := by unfold twX; omega
  -- flooded: no folder counts
  by_cases c : X 13 5 ≠ 0
  · have hb0 : ∀ q, bX X q = 0 := fun q => by unfold bX; rw [if_pos (Or.inl c)]
    have h7 := twX_b0 h (a := aX X) (aX_1 X) hb0
    have h8 : twX pr X ≤ 612 := h7
    unfold Psi
    omega
  · have h9 : hdX X ≤ 1108 := by
      unfold hdX
      rw [if_neg c, ek, nI_clamp (by omega)]
      split <;> omega
    unfold Psi
    omega

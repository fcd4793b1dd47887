/-! ===== a parent changes ===== -/
theorem setP_split {pr : Nat → Option Nat} {n g : Nat} {v : Option Nat} (ho : ¬ On pr v n) : ∀ j u, it (setP pr n v) j u = some g → On pr u g ∨ On pr v g
  | 0, u, e => Or.inl ⟨0, e⟩
  | j + 1, none, e => by rw [it_none] at e; cases e
  | j + 1, some k, e => by
    by_cases hk : k = n
    · have e2 : it (setP pr n v) j v = some g := by
        have e' : it (setP pr n v) j (setP pr n v k) = some g := e
        rw [show setP pr n v k = v from if_pos hk] at e'
        exact e'
      rw [setP_off j v ho] at e2
      exact Or.inr ⟨j, e2⟩
    · have e2 : it (setP pr n v) j (pr k) = some g := by
        have e' : it (setP pr n v) j (setP pr n v k) = some g := e
        rw [show setP pr n v k = pr k from if_neg hk] at e'
        exact e'
      rcases setP_split ho j (pr k) e2 with h | h
      · exact Or.inl (On.up.mpr (Or.inr h))
      · exact Or.inr h
theorem hol_off {fnd pr : Nat → Option Nat} {n : Nat} {v : Option Nat} : ∀ m u, ¬ On pr u n → hol fnd (setP pr n v) m u = hol fnd pr m u := by
  intro m
  induction m with
  | zero => intro u _; rfl
  | succ m ih =>
    intro u h
    cases u with
    | none => rfl
    | some k =>
      have hk : k ≠ n := fun e => h (by rw [e]; exact On.self n)
      show (match fnd k with | some q => some q | none => hol fnd (setP pr n v) m (setP pr n v k)) = (match fnd k with | some q => some q | none => hol fnd pr m (pr k))
      rw [show setP pr n v k = pr k from if_neg hk, ih (pr k) (fun q => h (On.up.mpr (Or.inr q)))]
/-- a notice to a root, if there is one -/
theorem c_tello {X Y : JX} {R n : Nat} {v : Int32} {o : Option Nat} (hY : RY Y R) (hX : RX X Y R) (hQ : QX X Y R) (ho : ∀ r, o = some r → r < R) (hv : v = 0 ∨ v = 1 ∨ v = 2) (hn : n < 60) : ∃ X' Y', (∀ r, o = some r → f_X7_tell X (pl X r) (v + 1) (nI n) = some X') ∧ (o = none → X' = X ∧ Y' = Y) ∧ f_X11_comes Y (enc o) v (nI n) = some Y' ∧ QX X' Y' R ∧ RX X' Y' R ∧ (∀ q, q < 13 ∨ 33 < q → X' q = X q) ∧ (∀ q, q ≠ 11 → q ≠ 12 → q ≠ 13 → q ≠ 14 → Y' q = Y q) := by
  have hR := hY.1.1
  cases o with
  | none => exact ⟨X, Y, (fun r e => by cases e), fun _ => ⟨rfl, rfl⟩, rfl, hQ, hX, fun _ _ => rfl, fun _ _ _ _ _ => rfl⟩
  | some r =>
    have hr := ho r rfl
    have hp := rt_in hX.1 (show r < 3 by omega)
    obtain ⟨X', Y', x1, y1, q1, q2, q3, q4⟩ := c_tell hY hX hQ hr hv hn
    exact ⟨X', Y', (fun s e => by cases e; exact x1), (fun e => by cases e), y1, q1, q2, fun q hq => q3 q (by omega) (by omega) (by omega), q4⟩
theorem enc_inj {a b : Option Nat} (ha : ∀ r, a = some r → r < 60) (hb : ∀ r, b = some r → r < 60) (e : enc a = enc b) : a = b := by
  cases a with
  | none =>
    cases b with
    | none => rfl
    | some s => exact absurd e.symm (nm1 (sm (hb s rfl)))
  | some r =>
    cases b with
    | none => exact absurd e (nm1 (sm (ha r rfl)))
    | some s => rw [(nI_eq (sm (ha r rfl)) (sm (hb s rfl))).mp e]

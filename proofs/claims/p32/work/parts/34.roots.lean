/-! ===== roots: find and rootAt, holding, above and over ===== -/
def pl (X : JX) (r : Nat) : Nat := (X 12 r).toNatClampNeg
def rf (Y : JX) (r : Nat) : Nat := (Y 10 r).toNatClampNeg
/-- the three rows of roots -/
def PX (X : JX) : Prop := (∀ r, r < 3 → isRt (pl X r) = true) ∧ ∀ r s, r < 3 → s < 3 → pl X r = pl X s → r = s
/-- the reference's roots -/
def RY (Y : JX) (R : Nat) : Prop := (R ≤ 3 ∧ Y 0 12 = nI R) ∧ (∀ r, r < R → rf Y r < 60 ∧ Y 10 r = nI (rf Y r) ∧ Y 1 (rf Y r) ≠ 0 ∧ Y 2 (rf Y r) ≠ 0) ∧ ∀ r s, r < R → s < R → r ≠ s → rf Y r ≠ rf Y s ∧ ¬ On (prY Y) (prY Y (rf Y r)) (rf Y s)
/-- the class's roots lie in the same folders -/
def RX (X Y : JX) (R : Nat) : Prop := PX X ∧ X 11 2 = nI R ∧ ∀ r, r < R → X (pl X r) 3 = Y 10 r
def fri (g : Nat → Int32) (v : Int32) : Nat → Nat → Option Nat
  | 0, _ => none
  | m + 1, i => if g i = v then some i else fri g v m (i + 1)
theorem fri_s (g : Nat → Int32) (v : Int32) (m i : Nat) : fri g v (m + 1) i = if g i = v then some i else fri g v m (i + 1) := rfl
theorem fri_some {g : Nat → Int32} {v : Int32} {r : Nat} : ∀ m i, fri g v m i = some r → i ≤ r ∧ r < i + m ∧ g r = v := by
  intro m
  induction m with
  | zero => intro i h; cases h
  | succ m ih =>
    intro i h
    unfold fri at h
    by_cases e : g i = v
    · rw [if_pos e] at h
      cases h
      exact ⟨Nat.le_refl _, by omega, e⟩
    · rw [if_neg e] at h
      obtain ⟨a, b, c⟩ := ih (i + 1) h
      exact ⟨by omega, by omega, c⟩
theorem fri_none {g : Nat → Int32} {v : Int32} : ∀ m i, fri g v m i = none → ∀ r, i ≤ r → r < i + m → ¬ g r = v := by
  intro m
  induction m with
  | zero => intro i _ r h1 h2; omega
  | succ m ih =>
    intro i h r h1 h2
    unfold fri at h
    by_cases e : g i = v
    · rw [if_pos e] at h; cases h
    · rw [if_neg e] at h
      by_cases hr : r = i
      · rw [hr]; exact e
      · exact ih (i + 1) h r (by omega) (by omega)
theorem fri_at {g : Nat → Int32} {v : Int32} {r m i : Nat} (h1 : i ≤ r) (h2 : r < i + m) (h3 : g r = v) (hu : ∀ s, i ≤ s → s < i + m → g s = v → s = r) : fri g v m i = some r := by
  cases h : fri g v m i with
  | none => exact absurd h3 (fri_none m i h r h1 h2)
  | some s =>
    obtain ⟨a, b, c⟩ := fri_some m i h
    rw [hu s a b c]
theorem RY.inj {Y : JX} {R : Nat} (h : RY Y R) {r s : Nat} (hr : r < R) (hs : s < R) (e : Y 10 r = Y 10 s) : r = s := by
  by_cases q : r = s
  · exact q
  · exact absurd (show rf Y r = rf Y s by unfold rf; rw [e]) (h.2.2 r s hr hs q).1
/-- the root of a folder, by its place in the row -/
def ro (Y : JX) (R : Nat) (v : Int32) : Option Nat := fri (Y 10) v R 0
theorem ro_lt {Y : JX} {R r : Nat} {v : Int32} (h : ro Y R v = some r) : r < R ∧ Y 10 r = v := by
  obtain ⟨-, a, b⟩ := fri_some R 0 h
  exact ⟨by omega, b⟩
theorem ro_no {Y : JX} {R : Nat} {v : Int32} (h : ro Y R v = none) : ∀ r, r < R → ¬ Y 10 r = v := fun r hr => fri_none R 0 h r (Nat.zero_le _) (by omega)
theorem ro_of {Y : JX} {R r : Nat} {v : Int32} (hY : RY Y R) (hr : r < R) (e : Y 10 r = v) : ro Y R v = some r := fri_at (Nat.zero_le _) (by omega) e (fun s _ hs es => hY.inj (by omega) hr (es.trans e.symm))
theorem nl3 {n : Nat} (h : n < 3) : ¬ (3 : Int32) ≤ nI n := nI_ge h (by decide)
theorem x_find_loop {X : JX} {R : Nat} {v : Int32} (hP : PX X) (hR : R ≤ 3) (h2 : X 11 2 = nI R) : ∀ m i F, i + m = R → m + 1 ≤ F → loop1 (lb_X8_find_2 X v) F (nI i) = some ((fri (fun r => X (pl X r) 3) v m i).map (pl X)) := by
  intro m
  induction m with
  | zero =>
    intro i F hi hF
    obtain ⟨F', rfl⟩ := Nat.exists_eq_add_of_le' hF
    rw [zl1]
    generalize hR9 : loop1 _ F' = R9
    unfold lb_X8_find_2
    rw [if_pos (show X 11 2 ≤ nI i by rw [h2]; exact nI_le (by omega) (by omega))]
    rfl
  | succ m ih =>
    intro i F hi hF
    obtain ⟨F', rfl⟩ := Nat.exists_eq_add_of_le' (show 1 ≤ F by omega)
    rw [zl1]
    have h9 := ih (i + 1) F' (by omega) (by omega)
    generalize hR9 : loop1 _ F' = R9 at h9
    unfold lb_X8_find_2 b_X8_find_36
    rw [if_neg (show ¬ X 11 2 ≤ nI i by rw [h2]; exact nI_ge (by omega) (by omega)), if_neg (nl3 (by omega)), if_pos (n_ok (show i < 3 by omega) (by decide)), nI_clamp (show i < 2 ^ 31 by omega), dN_eq]
    rw [show (X 12 i).toNatClampNeg = pl X i from rfl, if_pos (hP.1 i (by omega)), dV_eq, n_add1, h9, fri_s]
    by_cases e : X (pl X i) 3 = v
    · rw [if_neg (fun q => q e), if_pos e]; rfl
    · rw [if_pos e, if_neg (show ¬ (fun r => X (pl X r) 3) i = v from e)]
theorem fri_congr {g g' : Nat → Int32} {v : Int32} : ∀ m i, (∀ r, i ≤ r → r < i + m → g r = g' r) → fri g v m i = fri g' v m i := by
  intro m
  induction m with
  | zero => intro i _; rfl
  | succ m ih =>
    intro i h
    unfold fri
    rw [h i (Nat.le_refl _) (by omega), ih (i + 1) (fun r h1 h2 => h r (by omega) (by omega))]
theorem x_find {X Y : JX} {R : Nat} (hX : RX X Y R) (hY : RY Y R) (v : Int32) : f_X8_find X v = some ((ro Y R v).map (pl X)) := by
  unfold f_X8_find l_X8_find_2
  have h := x_find_loop (v := v) hX.1 hY.1.1 hX.2.1 R 0 1000 (Nat.zero_add _) (by have := hY.1.1; omega)
  rw [show (0 : Int32) = nI 0 from rfl, h, fri_congr R 0 (g' := Y 10) (fun r _ hr => hX.2.2 r (by omega))]
  rfl
theorem n_ok4 {i : Nat} (h : i < 4) : okI (nI i) 4 = true := n_ok h (by decide)
theorem y_rootAt_loop {Y : JX} {R : Nat} {v : Int32} (hY : RY Y R) : ∀ m i F acc, i + m = R → m + 1 ≤ F → loop2 (lb_X11_rootAt_4 Y v) F acc (nI i) = some (match fri (Y 10) v m i with | none => acc | some r => nI r) := by
  intro m
  induction m with
  | zero =>
    intro i F acc hi hF
    obtain ⟨F', rfl⟩ := Nat.exists_eq_add_of_le' hF
    rw [zl2]
    generalize hR9 : loop2 _ F' = R9
    unfold lb_X11_rootAt_4
    have := hY.1.1
    rw [if_pos (show Y 0 12 ≤ nI i by rw [hY.1.2]; exact nI_le (by omega) (by omega))]
    rfl
  | succ m ih =>
    intro i F acc hi hF
    obtain ⟨F', rfl⟩ := Nat.exists_eq_add_of_le' (show 1 ≤ F by omega)
    rw [zl2]
    have h9 := fun acc => ih (i + 1) F' acc (by omega) (by omega)
    generalize hR9 : loop2 _ F' = R9 at h9
    have := hY.1.1
    unfold lb_X11_rootAt_4 b_X11_rootAt_27
    rw [if_neg (show ¬ Y 0 12 ≤ nI i by rw [hY.1.2]; exact nI_ge (by omega) (by omega)), if_pos (n_ok4 (by omega)), nI_clamp (show i < 2 ^ 31 by omega), dV_eq, dV_eq, n_add1, fri_s]
    by_cases e : Y 10 i = v
    · rw [if_neg (fun q => q e), if_pos e, h9]
      cases h : fri (Y 10) v m (i + 1) with
      | none => rfl
      | some s =>
        obtain ⟨a, b, c⟩ := fri_some m (i + 1) h
        have := hY.inj (show s < R by omega) (show i < R by omega) (c.trans e.symm)
        omega
    · rw [if_pos e, if_neg e, h9]
theorem y_rootAt {Y : JX} {R : Nat} (hY : RY Y R) (v : Int32) : f_X11_rootAt Y v = some (enc (ro Y R v)) := by
  unfold f_X11_rootAt l_X11_rootAt_4
  have := hY.1.1
  rw [dV_eq, show (0 : Int32) = nI 0 from rfl, y_rootAt_loop hY R 0 1000 (-1) (Nat.zero_add _) (by omega)]
  unfold ro enc
  cases fri (Y 10) v R 0 <;> rfl
/-! the root above -/
def hol (fnd : Nat → Option Nat) (pr : Nat → Option Nat) : Nat → Option Nat → Option Nat
  | 0, _ => none
  | _ + 1, none => none
  | m + 1, some n => match fnd n with
    | some q => some q
    | none => hol fnd pr m (pr n)
theorem hol_some {fnd pr : Nat → Option Nat} {q : Nat} : ∀ m u, hol fnd pr m u = some q → ∃ k, On pr u k ∧ fnd k = some q := by
  intro m
  induction m with
  | zero => intro u h; cases h
  | succ m ih =>
    intro u h
    cases u with
    | none => cases h
    | some n =>
      unfold hol at h
      cases e : fnd n with
      | some q' => rw [e] at h; cases h; exact ⟨n, On.self n, e⟩
      | none =>
        rw [e] at h
        obtain ⟨k, h1, h2⟩ := ih (pr n) h
        exact ⟨k, On.up.mpr (Or.inr h1), h2⟩
theorem hol_none {fnd pr : Nat → Option Nat} : ∀ m u, it pr m u = none → hol fnd pr m u = none → ∀ k, On pr u k → fnd k = none := by
  intro m
  induction m with
  | zero => intro u h1 _ k hk; rw [show u = none from h1] at hk; exact absurd hk On.none
  | succ m ih =>
    intro u h1 h2 k hk
    cases u with
    | none => exact absurd hk On.none
    | some n =>
      unfold hol at h2
      cases e : fnd n with
      | some q' => rw [e] at h2; cases h2
      | none =>
        rw [e] at h2
        rcases On.up.mp hk with rfl | h
        · exact e
        · exact ih (pr n) h1 h2 k h
theorem x_hol_loop {X Y : JX} {R : Nat} (hX : RX X Y R) (hY : RY Y R) {pr : Nat → Option Nat} (hp : ∀ n, n < 60 → X 2 n = enc (pr n)) (hl : ∀ n m, pr n = some m → m < 60) : ∀ m i F u, i + m = 60 → m + 1 ≤ F → (∀ n, u = some n → n < 60) → loop2 (lb_X8_holding_4 X) F (enc u) (nI i) = some ((hol (fun n => ro Y R (nI n)) pr m u).map (pl X)) := by
  intro m
  induction m with
  | zero =>
    intro i F u hi hF hu
    obtain ⟨F', rfl⟩ := Nat.exists_eq_add_of_le' hF
    have : i = 60 := by omega
    subst this
    rw [zl2]
    generalize hR9 : loop2 _ F' = R9
    unfold lb_X8_holding_4
    rw [if_pos g60]
    rfl
  | succ m ih =>
    intro i F u hi hF hu
    obtain ⟨F', rfl⟩ := Nat.exists_eq_add_of_le' (show 1 ≤ F by omega)
    rw [zl2]
    have h9 := fun u hu => ih (i + 1) F' u (by omega) (by omega) hu
    generalize hR9 : loop2 _ F' = R9 at h9
    unfold lb_X8_holding_4
    rw [if_neg (nl60 (show i < 60 by omega))]
    cases u with
    | none => rw [if_pos (show enc none = -1 from rfl)]; rfl
    | some n =>
      have hn := hu n rfl
      rw [show enc (some n) = nI n from rfl, if_neg (nm1 (sm hn)), x_find hX hY, bd_some]
      unfold hol
      cases e : ro Y R (nI n) with
      | some q =>
        rw [Option.map_some, oC_some, if_pos (hX.1.1 q (Nat.lt_of_lt_of_le (ro_lt e).1 hY.1.1))]
      | none =>
        rw [Option.map_none, oC_none, x_parentOf hn, bd_some, dV_eq, n_add1, hp n hn]
        exact h9 (pr n) (fun k hk => hl n k hk)
theorem x_holding {X Y : JX} {R : Nat} (hX : RX X Y R) (hY : RY Y R) {pr : Nat → Option Nat} (hp : ∀ n, n < 60 → X 2 n = enc (pr n)) (hl : ∀ n m, pr n = some m → m < 60) {u : Option Nat} (hu : ∀ n, u = some n → n < 60) : f_X8_holding X (enc u) = some ((hol (fun n => ro Y R (nI n)) pr 60 u).map (pl X)) := x_hol_loop hX hY hp hl 60 0 1000 u rfl (by decide) hu
/-- the root above a node, by its place in the row -/
def ov (Y : JX) (R n : Nat) : Option Nat := hol (fun n => ro Y R (nI n)) (prY Y) 60 (prY Y n)
theorem x_above {X Y : JX} {R M n : Nat} (hX : RX X Y R) (hY : RY Y R) (hT : TY Y M) (hx : TX X Y) (hn : n < 60) : f_X8_above X (nI n) = some ((ov Y R n).map (pl X)) := by
  unfold f_X8_above
  rw [x_parentOf hn, bd_some, (hx.2 n hn).1, x_holding hX hY (pr := prY Y) (fun n hn => (hx.2 n hn).1) hT.lt (fun k hk => hT.lt n k hk), bd_some]
  show oC (Option.map (pl X) (ov Y R n)) _ _ = _
  cases e : ov Y R n with
  | none => rfl
  | some q =>
    obtain ⟨k, -, h2⟩ := hol_some 60 _ e
    rw [Option.map_some, oC_some, if_pos (hX.1.1 q (Nat.lt_of_lt_of_le (ro_lt h2).1 hY.1.1))]
/-- which root: the only one that the node lies below -/
theorem ov_belo {Y : JX} {R M n r : Nat} (hY : RY Y R) (hT : TY Y M) (hr : r < R) : belo (prY Y) n (rf Y r) = true ↔ ov Y R n = some r := by
  have hpr : Tr (prY Y) := hT.2.2.2.2
  rw [belo_On hpr]
  constructor
  · intro h
    cases e : ov Y R n with
    | none =>
      have := hol_none 60 _ (it_60 hpr (fun k hk => hT.lt n k hk)) e (rf Y r) h
      exact absurd (hY.2.1 r hr).2.1 (ro_no this r hr)
    | some s =>
      obtain ⟨k, h1, h2⟩ := hol_some 60 _ e
      obtain ⟨hs, e2⟩ := ro_lt h2
      by_cases q : s = r
      · rw [q]
      · exfalso
        have hk : On (prY Y) (prY Y n) (rf Y s) := by
          have : rf Y s = k := by
            have hk60 : k < 60 := by
              obtain ⟨j, hj⟩ := h1
              exact it_lt hpr.1 (fun k hk => hT.lt n k hk) j k hj
            unfold rf
            rw [e2, nI_clamp (sm hk60)]
          rw [this]; exact h1
        rcases On.two h hk with h3 | h3
        · rcases On.up.mp h3 with h4 | h4
          · exact (hY.2.2 r s hr hs (fun z => q z.symm)).1 h4
          · exact (hY.2.2 r s hr hs (fun z => q z.symm)).2 h4
        · rcases On.up.mp h3 with h4 | h4
          · exact (hY.2.2 s r hs hr q).1 h4
          · exact (hY.2.2 s r hs hr q).2 h4
  · intro e
    obtain ⟨k, h1, h2⟩ := hol_some 60 _ e
    obtain ⟨-, e2⟩ := ro_lt h2
    have hk60 : k < 60 := by
      obtain ⟨j, hj⟩ := h1
      exact it_lt hpr.1 (fun k hk => hT.lt n k hk) j k hj
    rw [show rf Y r = k by unfold rf; rw [e2, nI_clamp (sm hk60)]]
    exact h1

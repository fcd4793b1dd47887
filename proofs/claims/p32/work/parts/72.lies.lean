/-! ===== below, as the keeper knows it ===== -/
def kp (Y : JX) (n : Nat) : Option Nat := if Y 19 n ≠ 0 then some (Y 20 n).toNatClampNeg else none
def lbl (Y : JX) (R : Nat) (v : Int32) : Nat → Option Nat → Bool
  | 0, _ => false
  | _ + 1, none => false
  | m + 1, some u => decide (nI u = v) || (if ro Y R (nI u) = none then lbl Y R v m (kp Y u) else false)
theorem lbl_s (Y : JX) (R : Nat) (v : Int32) (m u : Nat) : lbl Y R v (m + 1) (some u) = (decide (nI u = v) || (if ro Y R (nI u) = none then lbl Y R v m (kp Y u) else false)) := rfl
theorem kp_lt {Y : JX} {M : Nat} (hE : EY Y M) {n u : Nat} (hn : n < 60) (h : kp Y n = some u) : u < 60 ∧ Y 20 n = nI u ∧ Y 19 n ≠ 0 := by
  unfold kp at h
  by_cases e : Y 19 n ≠ 0
  · rw [if_pos e] at h
    obtain ⟨m, hm, em⟩ := ((hE n hn).1 e).2
    rw [em, nI_clamp (sm hm)] at h
    cases h
    exact ⟨hm, em, e⟩
  · rw [if_neg e] at h; cases h
theorem lbl_n (Y : JX) (R : Nat) (v : Int32) : ∀ m, lbl Y R v m none = false
  | 0 => rfl
  | _ + 1 => rfl
theorem x_lies_loop {X Y : JX} {M R : Nat} {v : Int32} (hX : RX X Y R) (hY : RY Y R) (hE : EX X Y) (hEY : EY Y M) : ∀ m i F n, i + m = 60 → m + 1 ≤ F → n < 60 → loop2 (lb_X2_isBelow_5 X v) F (nI n) (nI i) = some (bB (lbl Y R v m (kp Y n))) := by
  intro m
  induction m with
  | zero =>
    intro i F n hi hF hn
    obtain ⟨F', rfl⟩ := Nat.exists_eq_add_of_le' hF
    have : i = 60 := by omega
    subst this
    rw [zl2]
    generalize hR9 : loop2 _ F' = R9
    unfold lb_X2_isBelow_5
    rw [if_pos g60]
    rfl
  | succ m ih =>
    intro i F n hi hF hn
    obtain ⟨F', rfl⟩ := Nat.exists_eq_add_of_le' (show 1 ≤ F by omega)
    rw [zl2]
    have h9 := fun n hn => ih (i + 1) F' n (by omega) (by omega) hn
    generalize hR9 : loop2 _ F' = R9 at h9
    unfold lb_X2_isBelow_5
    rw [if_neg (nl60 (show i < 60 by omega)), x_has hn, bd_some, (hE n hn).1]
    by_cases e : Y 19 n = 0
    · rw [bo_f (fun z => z e), if_pos rfl, show kp Y n = none by unfold kp; rw [if_neg (fun z => z e)], lbl_n]
      rfl
    · obtain ⟨u, hu, eu⟩ := ((hEY n hn).1 e).2
      have ek : kp Y n = some u := by unfold kp; rw [if_pos e, eu, nI_clamp (sm hu)]
      rw [bo_t e, if_neg one0, if_pos (n_ok60 hn), nI_clamp (sm hn), (hE n hn).2.1, eu, dV_eq, dV_eq, n_add1, x_find hX hY, bd_some, ek, lbl_s]
      by_cases c : nI u = v
      · rw [if_neg (fun z => z c)]; simp [c, bB]
      · rw [if_pos c, decide_eq_false c, Bool.false_or]
        cases er : ro Y R (nI u) with
        | none => rw [Option.map_none, oC_none, if_pos rfl, h9 u hu]
        | some r =>
          rw [Option.map_some, oC_some, if_pos (hX.1.1 r (by have := (ro_lt er).1; have := hY.1.1; omega)), if_neg (fun z => by cases z)]
          rfl
theorem y_lies_loop {Y : JX} {M R : Nat} {v : Int32} (hY : RY Y R) (hEY : EY Y M) : ∀ m i F u, i + m = 60 → m + 1 ≤ F → (∀ n, u = some n → n < 60) → loop2 (lb_X11_liesBelow_23 Y v) F (enc u) (nI i) = some (bB (lbl Y R v m u)) := by
  intro m
  induction m with
  | zero =>
    intro i F u hi hF hu
    obtain ⟨F', rfl⟩ := Nat.exists_eq_add_of_le' hF
    have : i = 60 := by omega
    subst this
    rw [zl2]
    generalize hR9 : loop2 _ F' = R9
    unfold lb_X11_liesBelow_23
    rw [if_pos g60]
    rfl
  | succ m ih =>
    intro i F u hi hF hu
    obtain ⟨F', rfl⟩ := Nat.exists_eq_add_of_le' (show 1 ≤ F by omega)
    rw [zl2]
    have h9 := fun u hu => ih (i + 1) F' u (by omega) (by omega) hu
    generalize hR9 : loop2 _ F' = R9 at h9
    unfold lb_X11_liesBelow_23 b_X11_liesBelow_70
    rw [if_neg (nl60 (show i < 60 by omega))]
    cases u with
    | none => rw [if_pos (show enc none = -1 from rfl)]; rfl
    | some n =>
      have hn := hu n rfl
      have hnone : R9 (-1) (nI (i + 1)) = some (bB false) := by
        have := h9 none (fun k hk => by cases hk)
        rw [lbl_n] at this
        exact this
      rw [show enc (some n) = nI n from rfl, if_neg (nm1 (sm hn)), lbl_s]
      by_cases c : nI n = v
      · rw [if_neg (fun z => z c)]; simp [c, bB]
      · rw [if_pos c, decide_eq_false c, Bool.false_or, y_rootAt hY, bd_some, dV_eq, dV_eq, n_add1]
        cases er : ro Y R (nI n) with
        | some r =>
          rw [show enc (some r) = nI r from rfl, if_pos (nm1 (show r < 2 ^ 31 by have := (ro_lt er).1; have := hY.1.1; omega)), hnone, if_neg (fun z => by cases z)]
        | none =>
          rw [if_neg (show ¬ ¬ enc none = -1 from fun z => z rfl), if_pos (n_ok60 hn), nI_clamp (sm hn), if_pos rfl]
          by_cases e : Y 19 n = 0
          · rw [if_pos e, hnone, show kp Y n = none by unfold kp; rw [if_neg (fun z => z e)], lbl_n]
          · obtain ⟨w, hw, ew⟩ := ((hEY n hn).1 e).2
            have ek : kp Y n = some w := by unfold kp; rw [if_pos e, ew, nI_clamp (sm hw)]
            have := h9 (some w) (fun k hk => by cases hk; exact hw)
            rw [if_neg e, if_pos (n_ok60 hn), ew, ek]
            exact this
theorem x_lies {X Y : JX} {M R n : Nat} {v : Int32} (hX : RX X Y R) (hY : RY Y R) (hE : EX X Y) (hEY : EY Y M) (hn : n < 60) : f_X2_isBelow X (nI n) v = some (bB (lbl Y R v 60 (kp Y n))) := x_lies_loop hX hY hE hEY 60 0 1000 n rfl (by decide) hn
theorem y_lies {Y : JX} {M R n : Nat} {v : Int32} (hY : RY Y R) (hEY : EY Y M) (hn : n < 60) : f_X11_liesBelow Y (nI n) v = some (bB (lbl Y R v 60 (kp Y n))) := by
  unfold f_X11_liesBelow b_X11_liesBelow_19
  rw [if_pos (n_ok60 hn), if_pos (n_ok60 hn), nI_clamp (sm hn)]
  by_cases e : Y 19 n = 0
  · rw [if_pos e, show kp Y n = none by unfold kp; rw [if_neg (fun z => z e)]]
    exact y_lies_loop hY hEY 60 0 1000 none rfl (by decide) (fun k hk => by cases hk)
  · obtain ⟨w, hw, ew⟩ := ((hEY n hn).1 e).2
    have ek : kp Y n = some w := by unfold kp; rw [if_pos e, ew, nI_clamp (sm hw)]
    rw [if_neg e, ew, ek]
    exact y_lies_loop hY hEY 60 0 1000 (some w) rfl (by decide) (fun k hk => by cases hk; exact hw)
/-! what is asked for -/
theorem x_isPerson {X : JX} {p : Int32} : f_X10_isPerson X p = some (bo (¬ p < 0 ∧ ¬ 3 < p)) := by
  unfold f_X10_isPerson
  have e : (4 : Int32) ≤ p ↔ 3 < p := by
    rw [Int32.le_iff_toInt_le, Int32.lt_iff_toInt_lt]
    rw [show (4 : Int32).toInt = 4 from rfl, show (3 : Int32).toInt = 3 from rfl]
    omega
  by_cases h1 : p < 0
  · rw [if_pos h1, bo_f (fun z => z.1 h1)]
  · rw [if_neg h1]
    by_cases h2 : 3 < p
    · rw [if_pos (e.mpr h2), bo_f (fun z => z.2 h2)]
    · rw [if_neg (fun z => h2 (e.mp z)), bo_t ⟨h1, h2⟩]
theorem x_isWord {X : JX} {w : Int32} : f_X10_isWord X w = some (bo (¬ w < 0 ∧ ¬ 99 < w)) := by
  unfold f_X10_isWord
  by_cases h1 : w < 0 <;> by_cases h2 : 99 < w <;> simp [h1, h2, bo]
theorem x_isWordN {X : JX} {w : Int32} : f_X10_isWordOrNone X w = some (bo (¬ w < -1 ∧ ¬ 99 < w)) := by
  unfold f_X10_isWordOrNone b_X10_isWordOrNone_12
  rw [x_isWord, bd_some]
  by_cases h : w = -1
  · rw [if_pos h, h, bo_t (by decide)]
  · rw [if_neg h]
    have e : w < 0 ↔ w < -1 := by
      rw [Int32.lt_iff_toInt_lt, Int32.lt_iff_toInt_lt]
      rw [show (0 : Int32).toInt = 0 from rfl, show (-1 : Int32).toInt = -1 from rfl]
      have : w.toInt ≠ -1 := fun z => h (Int32.toInt_inj.mp z)
      omega
    by_cases c : ¬ w < 0 ∧ ¬ 99 < w
    · rw [bo_t c, if_neg one0, bo_t ⟨fun z => c.1 (e.mpr z), c.2⟩]
    · rw [bo_f c, if_pos rfl, bo_f (fun z => c ⟨fun y => z.1 (e.mp y), z.2⟩)]
theorem x_isMadeN {X Y : JX} {M : Nat} {v : Int32} (hT : TY Y M) (hx : TX X Y) : f_X10_isMadeOrNone X v = some (bo (v = -1 ∨ ∃ n, n < M ∧ v = nI n)) := by
  unfold f_X10_isMadeOrNone b_X10_isMadeOrNone_16 f_X9_wasMade
  have hM := hT.1.2.1
  by_cases h : v = -1
  · rw [if_pos h, bo_t (Or.inl h)]
  · rw [if_neg h, hx.1, hT.1.2.2]
    by_cases h1 : v < 0
    · rw [if_pos h1, bd_some, if_pos rfl, bo_f (fun z => z.elim h (fun ⟨n, hn, e⟩ => nI_pos (show n < 2 ^ 31 by omega) (by rw [← e]; exact h1)))]
    · obtain ⟨j, hj, rfl⟩ := nI_of h1
      rw [if_neg h1]
      by_cases c : j < M
      · rw [if_neg (nI_ge c (by omega)), bd_some, if_neg one0, bo_t (Or.inr ⟨j, c, rfl⟩)]
      · rw [if_pos (nI_le (by omega) hj), bd_some, if_pos rfl, bo_f (fun z => z.elim h (fun ⟨n, hn, e⟩ => c (by rw [(nI_eq hj (by omega)).mp e]; exact hn)))]
theorem y_madeN {Y : JX} {M : Nat} {v : Int32} (hT : TY Y M) : f_X11_in Y v (-1) (Y 0 2 - 1) = some (bo (v = -1 ∨ ∃ n, n < M ∧ v = nI n)) := by
  obtain ⟨⟨h1, h2, h3⟩, -⟩ := hT
  rw [y_in, h3, n_sub1 h1]
  congr 1
  have e : (¬ v < -1 ∧ ¬ nI (M - 1) < v) ↔ (v = -1 ∨ ∃ n, n < M ∧ v = nI n) := by
    constructor
    · rintro ⟨a, b⟩
      by_cases c : v < 0
      · refine Or.inl (Int32.toInt_inj.mp ?_)
        rw [Int32.lt_iff_toInt_lt] at a c
        rw [show (-1 : Int32).toInt = -1 from rfl] at a ⊢
        rw [show (0 : Int32).toInt = 0 from rfl] at c
        omega
      · obtain ⟨j, hj, rfl⟩ := nI_of c
        rw [nI_ltI (by omega) hj] at b
        exact Or.inr ⟨j, by omega, rfl⟩
    · rintro (rfl | ⟨n, a, rfl⟩)
      · refine ⟨by decide, fun z => ?_⟩
        exact nI_pos (show M - 1 < 2 ^ 31 by omega) (Int32.lt_trans z (by decide))
      · refine ⟨fun z => nI_pos (show n < 2 ^ 31 by omega) (Int32.lt_trans z (by decide)), ?_⟩
        rw [nI_ltI (by omega) (by omega)]
        omega
  unfold bo
  by_cases hp : v = -1 ∨ ∃ n, n < M ∧ v = nI n
  · rw [if_pos (e.mpr hp), if_pos hp]
  · rw [if_neg (fun q => hp (e.mp q)), if_neg hp]
theorem y_areWords {Y : JX} {a b : Int32} : f_X11_areWords Y a b = some (bo ((¬ a < 0 ∧ ¬ 99 < a) ∧ ¬ b < -1 ∧ ¬ 99 < b)) := by
  unfold f_X11_areWords
  rw [y_in, y_in, bd_some, bd_some]
  by_cases h1 : ¬ a < 0 ∧ ¬ 99 < a
  · rw [bo_t h1, if_neg one0]
    by_cases h2 : ¬ b < -1 ∧ ¬ 99 < b
    · rw [bo_t h2, if_neg one0, bo_t ⟨h1, h2⟩]
    · rw [bo_f h2, if_pos rfl, bo_f (fun z => h2 z.2)]
  · rw [bo_f h1, if_pos rfl, bo_f (fun z => h1 z.1)]

/-! ===== a segment is closed ===== -/
theorem x_close_loop {S : Nat} {v1 : Int32} (hS : S ≤ 4) : ∀ m i F (X : JX), i + m = S - 1 → m + 1 ≤ F → 1 ≤ S → X 49 3 = nI S → ∃ X', loop2 (lb_X3_close_15 v1) F X (nI i) = l_X3_close_66 v1 X' 0 ∧ (∀ q, q ≠ 51 → q ≠ 52 → X' q = X q) ∧ X' 51 = sh 1 i (S - 1) (X 51) ∧ X' 52 = sh 1 i (S - 1) (X 52) := by
  intro m
  induction m with
  | zero =>
    intro i F X hi hF h1 h49
    obtain ⟨F', rfl⟩ := Nat.exists_eq_add_of_le' hF
    refine ⟨X, ?_, fun _ _ _ => rfl, ?_, ?_⟩
    · rw [zl2]
      generalize loop2 _ F' = R9
      unfold lb_X3_close_15 b_X3_close_64
      rw [h49, n_add1, if_pos (show nI S ≤ nI (i + 1) from nI_le (by omega) (by omega))]
    all_goals rw [sh_nil _ _ _ _ (by omega)]
  | succ m ih =>
    intro i F X hi hF h1 h49
    obtain ⟨F', rfl⟩ := Nat.exists_eq_add_of_le' (show 1 ≤ F by omega)
    have s1 : ∀ f : Nat → Int32, upd f i (f (i + 1)) = sh 1 i (i + 1) f := by
      intro f
      funext q
      unfold sh
      rw [u_at]
      by_cases c : q = i
      · rw [if_pos c, if_pos (by omega), c]
      · rw [if_neg c, if_neg (by omega)]
    obtain ⟨X', a, b, c, d⟩ := ih (i + 1) F' (pX (pX X 51 (upd (X 51) i (X 51 (i + 1)))) 52 (upd (X 52) i (X 52 (i + 1)))) (by omega) (by omega) h1 h49
    have hlt : i < S - 1 := by omega
    refine ⟨X', ?_, fun q h1 h2 => (b q h1 h2).trans ((if_neg h2).trans (if_neg h1)), ?_, ?_⟩
    · rw [zl2]
      generalize loop2 _ F' = R9 at a
      have ok := n_ok4 (show i < 4 by omega)
      have ok1 := n_ok4 (show i + 1 < 4 by omega)
      unfold lb_X3_close_15
      rw [h49, n_add1, if_neg (nI_ge (show i + 1 < S by omega) (by omega)), if_neg (show ¬ (3 : Int32) ≤ nI i from nI_ge (b := 3) (by omega) (by decide)), if_pos ok1, if_pos ok, dX_eq, if_pos ok1, if_pos ok, dX_eq, dV_eq, nI_clamp (show i < 2 ^ 31 by omega), nI_clamp (show i + 1 < 2 ^ 31 by omega)]
      exact a
    · rw [c, show (pX (pX X 51 (upd (X 51) i (X 51 (i + 1)))) 52 (upd (X 52) i (X 52 (i + 1)))) 51 = sh 1 i (i + 1) (X 51) from s1 (X 51), sh_cons _ _ _ _ hlt]
    · rw [d, show (pX (pX X 51 (upd (X 51) i (X 51 (i + 1)))) 52 (upd (X 52) i (X 52 (i + 1)))) 52 = sh 1 i (i + 1) (X 52) from s1 (X 52), sh_cons _ _ _ _ hlt]
theorem x_home_loop {S s : Nat} (h1 : 1 ≤ S) : ∀ m i F (X : JX), i + m = 60 → m + 1 ≤ F → X 49 3 = nI S → ∃ X', loop2 (lb_X3_close_66 (nI s)) F X (nI i) = some X' ∧ (∀ q, q ≠ 49 → q ≠ 50 → X' q = X q) ∧ X' 49 = upd (X 49) 3 (nI (S - 1)) ∧ ∀ n, X' 50 n = if i ≤ n ∧ n < 60 then rel s (X 50 n) else X 50 n := by
  intro m
  induction m with
  | zero =>
    intro i F X hi hF h49
    obtain ⟨F', rfl⟩ := Nat.exists_eq_add_of_le' hF
    have : i = 60 := by omega
    subst this
    refine ⟨pX X 49 (upd (X 49) 3 (nI (S - 1))), ?_, fun q h1 _ => if_neg h1, rfl, fun n => by rw [if_neg (by omega)]; rfl⟩
    rw [zl2]
    generalize loop2 _ F' = R9
    unfold lb_X3_close_66
    rw [if_pos g60, h49, n_sub1 (by omega), dX_eq]
  | succ m ih =>
    intro i F X hi hF h49
    obtain ⟨F', rfl⟩ := Nat.exists_eq_add_of_le' (show 1 ≤ F by omega)
    have hi6 : i < 60 := by omega
    have ok := n_ok60 hi6
    by_cases e : X 50 i ≤ nI s
    · obtain ⟨X', a, b, c, d⟩ := ih (i + 1) F' X (by omega) (by omega) h49
      refine ⟨X', ?_, b, c, fun n => ?_⟩
      · rw [zl2]
        generalize loop2 _ F' = R9 at a
        unfold lb_X3_close_66 b_X3_close_92
        rw [if_neg (nl60 hi6), if_pos ok, nI_clamp (sm hi6), if_pos e, dV_eq, n_add1]
        exact a
      · rw [d n]
        by_cases q : n = i
        · rw [if_neg (show ¬ (i + 1 ≤ n ∧ n < 60) by omega), if_pos (show i ≤ n ∧ n < 60 by omega), q]
          unfold rel
          rw [if_pos e]
        · by_cases q2 : i + 1 ≤ n ∧ n < 60
          · rw [if_pos q2, if_pos (by omega)]
          · rw [if_neg q2, if_neg (by omega)]
    · obtain ⟨X', a, b, c, d⟩ := ih (i + 1) F' (pX X 50 (upd (X 50) i (X 50 i - 1))) (by omega) (by omega) h49
      refine ⟨X', ?_, fun q h1 h2 => (b q h1 h2).trans (if_neg h2), c, fun n => ?_⟩
      · rw [zl2]
        generalize loop2 _ F' = R9 at a
        unfold lb_X3_close_66 b_X3_close_92
        rw [if_neg (nl60 hi6), if_pos ok, nI_clamp (sm hi6), if_neg e, if_pos ok, if_pos ok, dX_eq, dV_eq, n_add1]
        exact a
      · rw [d n]
        show (if i + 1 ≤ n ∧ n < 60 then rel s (upd (X 50) i (X 50 i - 1) n) else upd (X 50) i (X 50 i - 1) n) = _
        rw [u_at]
        by_cases q : n = i
        · rw [if_neg (show ¬ (i + 1 ≤ n ∧ n < 60) by omega), if_pos q, if_pos (show i ≤ n ∧ n < 60 by omega), q]
          unfold rel
          rw [if_neg e]
        · rw [if_neg q]
          by_cases q2 : i + 1 ≤ n ∧ n < 60
          · rw [if_pos q2, if_pos (by omega)]
          · rw [if_neg q2, if_neg (by omega)]
theorem x_close {X : JX} {S s : Nat} (hs : s < S) (hS : S ≤ 4) (h49 : X 49 3 = nI S) : ∃ X', f_X3_close X (nI s) = some X' ∧ (∀ q, q ≠ 49 → q ≠ 50 → q ≠ 51 → q ≠ 52 → X' q = X q) ∧ X' 49 = upd (X 49) 3 (nI (S - 1)) ∧ (∀ t, t < S - 1 → X' 51 t = X 51 (tu s t) ∧ X' 52 t = X 52 (tu s t)) ∧ ∀ n, n < 60 → X' 50 n = rel s (X 50 n) := by
  obtain ⟨X1, a, b, c, d⟩ := x_close_loop (v1 := nI s) hS (S - 1 - s) s 1000 X (by omega) (by omega) (by omega) h49
  obtain ⟨X', a2, b2, c2, d2⟩ := x_home_loop (s := s) (S := S) (by omega) 60 0 1000 X1 (by omega) (by omega) (by rw [b 49 (by omega) (by omega)]; exact h49)
  refine ⟨X', ?_, fun q h1 h2 h3 h4 => (b2 q h1 h2).trans (b q h3 h4), by rw [c2, b 49 (by omega) (by omega)], fun t ht => ?_, fun n hn => ?_⟩
  · unfold f_X3_close
    rw [if_neg (nI_pos (show s < 2 ^ 31 by omega)), h49, if_pos (show nI s < nI S from nI_lt hs (by omega))]
    exact a.trans a2
  · rw [b2 51 (by omega) (by omega), b2 52 (by omega) (by omega), c, d]
    exact ⟨sh_1 ht, sh_1 ht⟩
  · rw [d2 n, if_pos ⟨Nat.zero_le _, hn⟩, b 50 (by omega) (by omega)]
def rn (s t : Nat) : Nat := if t ≤ s then t else t - 1
theorem rel_nI {s t : Nat} (hs : s < 100) (ht : t < 100) : rel s (nI t) = nI (rn s t) := by
  unfold rel rn
  by_cases e : t ≤ s
  · rw [if_pos e, if_pos (nI_le e (by omega))]
  · rw [if_neg e, if_neg (nI_ge (by omega) (by omega)), n_sub1 (by omega)]
theorem rel_m1 {s : Nat} (hs : s < 100) : rel s (-1) = -1 := by
  unfold rel
  rw [if_pos]
  rw [Int32.le_iff_toInt_le, nI_toInt (by omega)]
  show (-1 : Int) ≤ s
  omega
/-- places go, segments move up: what is left is an index -/
theorem ID.join {ok : Nat → Prop} {lv : Int32 → Prop} {X X' : JX} {g h D g' h' D' : Nat → Int32} {P P' S s : Nat} {B : Int32 → Int32 → Int32 → Bool} (H : ID ok lv X g h D P S) (hS : S ≤ 4) (hs : s < S) (hB : ∀ a b c, B a b c = true → c ≠ 0) (hq : ∀ q, pc g' h' D' P' q = pc g h D P (fun a b c => q (rel s a) b c && !B a b c)) (hr : ∀ k, k < P → B (g k) (h k) (D k) = false → g k = nI s → s < S - 1) (hN : ∀ t n, t < S - 1 → n < 60 → pc g' h' D' P' (sN t n) ≤ 1) (h5 : ∀ t, t < S - 1 → X' 51 t = nI (pc g' h' D' P' (sL t)) ∧ X' 52 t = nI (pc g' h' D' P' (sD t))) (h50 : ∀ n, n < 60 → X' 50 n = rel s (X 50 n)) : ID ok lv X' g' h' D' P' (S - 1) := by
  obtain ⟨a, b, c, d, e⟩ := H
  have hnL : ∀ n, pc g' h' D' P' (nL n) = pc g h D P (nL n) := fun n => (hq _).trans (cnt_congr P 0 (fun k _ _ => by
    show (nL n (rel s (g k)) (h k) (D k) && !B (g k) (h k) (D k)) = nL n (g k) (h k) (D k)
    unfold nL
    cases eB : B (g k) (h k) (D k) with
    | false => simp
    | true => simp [hB _ _ _ eB]))
  have mv : ∀ k t, k < P → B (g k) (h k) (D k) = false → g k = nI t → t < S → rn s t < S - 1 := fun k t hk hb eg ht => by
    unfold rn
    by_cases q : t = s
    · subst q
      have := hr k hk hb eg
      rw [if_pos (Nat.le_refl _)]
      exact this
    · split <;> omega
  refine ⟨fun k hk => ?_, hN, fun n hn => by rw [hnL]; exact c n hn, h5, fun n hn => ?_⟩
  · have h1 : 0 < pc g' h' D' P' (fun a b c => decide (a = g' k) && (decide (b = h' k) && decide (c = D' k))) := cnt_ex.mpr ⟨k, hk, by simp⟩
    rw [hq] at h1
    obtain ⟨k2, hk2, e2⟩ := cnt_ex.mp h1
    rw [Bool.and_eq_true, Bool.and_eq_true, Bool.and_eq_true, decide_eq_true_eq, decide_eq_true_eq, decide_eq_true_eq, Bool.not_eq_true'] at e2
    obtain ⟨⟨e3, e4, e5⟩, e6⟩ := e2
    obtain ⟨⟨t, ht, et⟩, z2, z3⟩ := a k2 hk2
    rw [e4] at z2 z3
    rw [e5] at z3
    refine ⟨⟨rn s t, mv k2 t hk2 e6 et ht, ?_⟩, z2, z3⟩
    rw [← e3, et, rel_nI (by omega) (by omega)]
  · rw [h50 n hn, hnL]
    rcases e n hn with ⟨z1, z2⟩ | ⟨t, ht, z1, z2⟩
    · exact Or.inl ⟨by rw [z1, rel_m1 (by omega)], z2⟩
    · obtain ⟨k, hk, ek⟩ := cnt_ex.mp z2
      unfold sNL at ek
      rw [Bool.and_eq_true, Bool.and_eq_true, decide_eq_true_eq, decide_eq_true_eq, decide_eq_true_eq] at ek
      obtain ⟨e1, e2, e3⟩ := ek
      have hb : B (g k) (h k) (D k) = false := by
        cases eB : B (g k) (h k) (D k) with
        | false => rfl
        | true => exact absurd e3 (hB _ _ _ eB)
      refine Or.inr ⟨rn s t, mv k t hk hb e1 ht, by rw [z1, rel_nI (by omega) (by omega)], ?_⟩
      rw [hq]
      refine cnt_ex.mpr ⟨k, hk, ?_⟩
      show (sNL (rn s t) n (rel s (g k)) (h k) (D k) && !B (g k) (h k) (D k)) = true
      unfold sNL
      rw [hb, e1, rel_nI (by omega) (by omega), e2, e3]
      simp
theorem c_close {ok : Nat → Prop} {lv : Int32 → Prop} {X Y : JX} {P S s : Nat} (H : ID ok lv X (Y 28) (Y 29) (Y 30) P S) (hs : s < S) (hS : S ≤ 4) (h49 : X 49 3 = nI S) (h37 : Y 0 37 = nI P) (h41 : Y 0 41 = nI S) (h0 : pc (Y 28) (Y 29) (Y 30) P (sL s) = 0) : ∃ X' Y1 Y' P', f_X3_close X (nI s) = some X' ∧ f_X11_cleans Y (nI s) = some Y1 ∧ f_X11_joins Y1 (nI s) = some Y' ∧ ID ok lv X' (Y' 28) (Y' 29) (Y' 30) P' (S - 1) ∧ (∀ q, q ≠ 49 → q ≠ 50 → q ≠ 51 → q ≠ 52 → X' q = X q) ∧ X' 49 = upd (X 49) 3 (nI (S - 1)) ∧ Y' 0 37 = nI P' ∧ Y' 0 41 = nI (S - 1) ∧ (∀ c, c ≠ 0 → c ≠ 28 → c ≠ 29 → c ≠ 30 → Y' c = Y c) ∧ ∀ j, j ≠ 37 → j ≠ 41 → Y' 0 j = Y 0 j := by
  have hP := H.P hS
  have hP2 : P ≤ 240 := by omega
  obtain ⟨X', x1, x2, x3, x4, x5⟩ := x_close hs hS h49
  obtain ⟨Y1, P', a1, a2, a3, a4, -, a6, a7⟩ := y_cleans (s := s) hP2 h37 (fun j hj => H.b j hj)
  obtain ⟨Y', b1, b2, b3, b4, -, b6, b7⟩ := y_joins (s := s) (S := S) (show P' ≤ 240 by omega) (by omega) a3 ((a7 41 (by omega)).trans h41)
  have hq : ∀ q, pc (Y' 28) (Y' 29) (Y' 30) P' q = pc (Y 28) (Y 29) (Y 30) P (fun a b c => q (rel s a) b c && !sD s a b c) := fun q => by rw [b4, a4]
  have hdead : ∀ k, k < P → Y 28 k = nI s → ¬ Y 30 k = 0 := fun k hk e1 e2 => by
    have : 0 < pc (Y 28) (Y 29) (Y 30) P (sL s) := cnt_ex.mpr ⟨k, hk, by unfold sL; rw [decide_eq_true e1, decide_eq_true e2]; rfl⟩
    omega
  have key : ∀ k t, k < P → t < S - 1 → (decide (rel s (Y 28 k) = nI t) && !sD s (Y 28 k) (Y 29 k) (Y 30 k)) = decide (Y 28 k = nI (tu s t)) := fun k t hk ht => by
    obtain ⟨⟨u, hu, eu⟩, -, -⟩ := H.1 k hk
    unfold sD
    rw [eu, rel_nI (by omega) (by omega)]
    have q1 : decide (nI u = nI (tu s t)) = decide (u = tu s t) := decide_eq_decide.mpr (nI_eq (by omega) (by unfold tu; split <;> omega))
    have q2 : decide (nI (rn s u) = nI t) = decide (rn s u = t) := decide_eq_decide.mpr (nI_eq (by unfold rn; split <;> omega) (by omega))
    have q3 : decide (nI u = nI s) = decide (u = s) := decide_eq_decide.mpr (nI_eq (by omega) (by omega))
    rw [q1, q2, q3]
    by_cases e : u = s
    · have e1 : decide (Y 30 k = 0) = false := decide_eq_false (hdead k hk (eu.trans (by rw [e])))
      have e2 : decide (u = tu s t) = false := decide_eq_false (fun z => tu_ne (z.symm.trans e))
      rw [decide_eq_true e, e1, e2]
      simp
    · have e1 : decide (rn s u = t) = decide (u = tu s t) := decide_eq_decide.mpr (by
        unfold rn tu
        split <;> split <;> omega)
      rw [decide_eq_false e, Bool.false_and, Bool.not_false, Bool.and_true]
      exact e1
  have hqt : ∀ (t : Nat) (x : Int32 → Int32 → Bool), t < S - 1 → pc (Y' 28) (Y' 29) (Y' 30) P' (fun a b c => decide (a = nI t) && x b c) = pc (Y 28) (Y 29) (Y 30) P (fun a b c => decide (a = nI (tu s t)) && x b c) := fun t x ht => (hq _).trans (cnt_congr P 0 (fun k _ hk => by
    show ((decide (rel s (Y 28 k) = nI t) && x (Y 29 k) (Y 30 k)) && !sD s (Y 28 k) (Y 29 k) (Y 30 k)) = (decide (Y 28 k = nI (tu s t)) && x (Y 29 k) (Y 30 k))
    rw [← key k t (by omega) ht, Bool.and_assoc, Bool.and_comm (x _ _), ← Bool.and_assoc]))
  refine ⟨X', Y1, Y', P', x1, a1, b1, ?_, x2, x3, b2, b3, fun c h0 h1 h2 h3 => (b6 c h0 h1).trans (a6 c h0 h1 h2 h3), fun j h1 h2 => (b7 j h2).trans (a7 j h1)⟩
  refine H.join hS hs (B := sD s) (fun a b c hb => ?_) hq (fun k hk hb eg => ?_) (fun t n ht hn => ?_) (fun t ht => ?_) x5
  · unfold sD at hb
    rw [Bool.and_eq_true, Bool.not_eq_true', decide_eq_false_iff_not] at hb
    exact hb.2
  · unfold sD at hb
    rw [decide_eq_true eg, decide_eq_false (hdead k hk eg)] at hb
    cases hb
  · show pc _ _ _ _ (fun a b c => decide (a = nI t) && (fun b _ => decide (b = nI n)) b c) ≤ 1
    rw [hqt t _ ht]
    exact H.2.1 (tu s t) n (tu_lt hs ht) hn
  · obtain ⟨z1, z2⟩ := x4 t ht
    obtain ⟨z3, z4⟩ := H.2.2.2.1 (tu s t) (tu_lt hs ht)
    rw [z1, z2, z3, z4]
    exact ⟨congrArg nI (hqt t (fun _ c => decide (c = 0)) ht).symm, congrArg nI (hqt t (fun _ c => !decide (c = 0)) ht).symm⟩
/-- the last segment of the class, when nothing came into it -/
theorem c_close0 {ok : Nat → Prop} {lv : Int32 → Prop} {X : JX} {g h D : Nat → Int32} {P S : Nat} (H : ID ok lv X g h D P (S + 1)) (hS : S ≤ 3) (h49 : X 49 3 = nI (S + 1)) (h0 : pc g h D P (sA S) = 0) : ∃ X', f_X3_close X (nI S) = some X' ∧ ID ok lv X' g h D P S ∧ (∀ q, q ≠ 49 → q ≠ 50 → q ≠ 51 → q ≠ 52 → X' q = X q) ∧ X' 49 = upd (X 49) 3 (nI S) := by
  obtain ⟨X', x1, x2, x3, x4, x5⟩ := x_close (s := S) (S := S + 1) (by omega) (by omega) h49
  obtain ⟨a, b, c, d, e⟩ := H
  have hno : ∀ k, k < P → ¬ g k = nI S := fun k hk e1 => by
    have : 0 < pc g h D P (sA S) := cnt_ex.mpr ⟨k, hk, by unfold sA; rw [decide_eq_true e1]⟩
    omega
  have et : ∀ t, t < S → tu S t = t := fun t ht => by unfold tu; rw [if_pos ht]
  refine ⟨X', x1, ⟨fun k hk => ?_, fun t n ht hn => b t n (by omega) hn, c, fun t ht => ?_, fun n hn => ?_⟩, x2, x3⟩
  · obtain ⟨⟨t, ht, z1⟩, z2⟩ := a k hk
    refine ⟨⟨t, ?_, z1⟩, z2⟩
    by_cases q : t = S
    · exact absurd (z1.trans (by rw [q])) (hno k hk)
    · omega
  · obtain ⟨z1, z2⟩ := x4 t (by omega)
    rw [z1, z2, et t ht]
    exact d t (by omega)
  · rw [x5 n hn]
    rcases e n hn with ⟨z1, z2⟩ | ⟨t, ht, z1, z2⟩
    · exact Or.inl ⟨by rw [z1, rel_m1 (by omega)], z2⟩
    · obtain ⟨k, hk, ek⟩ := cnt_ex.mp z2
      unfold sNL at ek
      rw [Bool.and_eq_true, decide_eq_true_eq] at ek
      have : t ≠ S := fun q => hno k hk (ek.1.trans (by rw [q]))
      refine Or.inr ⟨t, by omega, ?_, z2⟩
      rw [z1, rel_nI (by omega) (by omega)]
      unfold rn
      rw [if_pos (by omega)]

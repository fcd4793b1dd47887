/-! ===== places are counted, taken away, and joined ===== -/
theorem y_count_loop {Y : JX} {P s : Nat} {d : Bool} (hP : P ≤ 240) (h37 : Y 0 37 = nI P) : ∀ m i F c, i + m = P → m + 1 ≤ F → loop2 (lb_X11_count_5 Y (nI s) (bB d)) F (nI c) (nI i) = some (nI (c + cnt (fun k => (if d = true then sD s else sA s) (Y 28 k) (Y 29 k) (Y 30 k)) m i)) := by
  intro m
  induction m with
  | zero =>
    intro i F c hi hF
    obtain ⟨F', rfl⟩ := Nat.exists_eq_add_of_le' hF
    rw [zl2]
    generalize loop2 _ F' = R9
    unfold lb_X11_count_5
    rw [h37, if_pos (show nI P ≤ nI i from nI_le (by omega) (by omega))]
    rfl
  | succ m ih =>
    intro i F c hi hF
    obtain ⟨F', rfl⟩ := Nat.exists_eq_add_of_le' (show 1 ≤ F by omega)
    rw [zl2]
    have h9 := fun c => ih (i + 1) F' c (by omega) (by omega)
    generalize loop2 _ F' = R9 at h9
    have ok := n_ok (show i < 600 by omega) (show 600 < 2 ^ 31 by decide)
    unfold lb_X11_count_5 b_X11_count_45
    rw [h37, if_neg (show ¬ nI P ≤ nI i from nI_ge (by omega) (by omega)), if_pos ok, if_pos ok, nI_clamp (show i < 2 ^ 31 by omega), dV_eq, dV_eq, dV_eq, dV_eq, n_add1, n_add1, Int32.add_zero, h9, h9, cnt_s]
    by_cases e1 : Y 28 i = nI s
    · rw [if_neg (fun z => z e1)]
      by_cases e2 : Y 30 i = 0
      · rw [if_neg (fun z => z e2)]
        cases d with
        | true =>
          rw [if_pos (show ¬ bB true = 0 by decide), show (if (if true = true then sD s else sA s) (Y 28 i) (Y 29 i) (Y 30 i) = true then 1 else 0) = 0 from if_neg (by rw [if_pos rfl]; unfold sD; simp [e2]), Nat.zero_add]
        | false =>
          rw [if_neg (show ¬ ¬ bB false = 0 by decide), show (if (if false = true then sD s else sA s) (Y 28 i) (Y 29 i) (Y 30 i) = true then 1 else 0) = 1 from if_pos (by rw [if_neg (by decide)]; unfold sA; simp [e1]), Nat.add_assoc]
      · rw [if_pos e2, show (if (if d = true then sD s else sA s) (Y 28 i) (Y 29 i) (Y 30 i) = true then 1 else 0) = 1 from if_pos (by
          cases d
          · rw [if_neg (by decide)]; unfold sA; simp [e1]
          · rw [if_pos rfl]; unfold sD; simp [e1, e2]), Nat.add_assoc]
    · rw [if_pos e1, show (if (if d = true then sD s else sA s) (Y 28 i) (Y 29 i) (Y 30 i) = true then 1 else 0) = 0 from if_neg (by
        cases d
        · rw [if_neg (by decide)]; unfold sA; simp [e1]
        · rw [if_pos rfl]; unfold sD; simp [e1]), Nat.zero_add]
theorem y_countA {Y : JX} {P s : Nat} (hP : P ≤ 240) (h37 : Y 0 37 = nI P) : f_X11_count Y (nI s) 0 = some (nI (pc (Y 28) (Y 29) (Y 30) P (sA s))) := by
  have h := y_count_loop (s := s) (d := false) hP h37 P 0 1000 0 (Nat.zero_add _) (by omega)
  rw [Nat.zero_add] at h
  exact h
theorem y_countD {Y : JX} {P s : Nat} (hP : P ≤ 240) (h37 : Y 0 37 = nI P) : f_X11_count Y (nI s) 1 = some (nI (pc (Y 28) (Y 29) (Y 30) P (sD s))) := by
  have h := y_count_loop (s := s) (d := true) hP h37 P 0 1000 0 (Nat.zero_add _) (by omega)
  rw [Nat.zero_add] at h
  exact h
theorem pc_A {g h D : Nat → Int32} {P s : Nat} : pc g h D P (sA s) = pc g h D P (sL s) + pc g h D P (sD s) := cnt_split (p := fun k => sA s (g k) (h k) (D k)) (q := fun k => decide (D k = 0)) P 0
theorem y_takePl_loop {P : Nat} (hP : P ≤ 240) : ∀ m i F (Y : JX), i + m = P - 1 → m + 1 ≤ F → Y 0 37 = nI (P - 1) → (∀ s, i < s → s < P → Y 30 s = 0 ∨ Y 30 s = 1) → ∃ Y', loop2 lb_X11_takesPlace_12 F Y (nI i) = some Y' ∧ (∀ c, c ≠ 28 → c ≠ 29 → c ≠ 30 → Y' c = Y c) ∧ Y' 28 = sh 1 i (P - 1) (Y 28) ∧ Y' 29 = sh 1 i (P - 1) (Y 29) ∧ Y' 30 = sh 1 i (P - 1) (Y 30) := by
  intro m
  induction m with
  | zero =>
    intro i F Y hi hF h37 hb
    obtain ⟨F', rfl⟩ := Nat.exists_eq_add_of_le' hF
    have : i = P - 1 := by omega
    subst this
    refine ⟨Y, ?_, fun _ _ _ _ => rfl, ?_, ?_, ?_⟩
    · rw [zl2]
      generalize loop2 _ F' = R9
      unfold lb_X11_takesPlace_12
      rw [h37, if_pos (Int32.le_refl _)]
    all_goals rw [sh_nil _ _ _ _ (Nat.le_refl _)]
  | succ m ih =>
    intro i F Y hi hF h37 hb
    obtain ⟨F', rfl⟩ := Nat.exists_eq_add_of_le' (show 1 ≤ F by omega)
    have s1 : ∀ f : Nat → Int32, upd f i (f (i + 1)) = sh 1 i (i + 1) f := by
      intro f
      funext q
      unfold sh
      rw [u_at]
      by_cases c : q = i
      · rw [if_pos c, if_pos (by omega), c]
      · rw [if_neg c, if_neg (by omega)]
    let Y1 : JX := pX (pX (pX Y 28 (upd (Y 28) i (Y 28 (i + 1)))) 29 (upd (Y 29) i (Y 29 (i + 1)))) 30 (upd (Y 30) i (Y 30 (i + 1)))
    obtain ⟨Y', a, b, c25, c26, c27⟩ := ih (i + 1) F' Y1 (by omega) (by omega) h37 (fun s h1 h2 => by
      show upd (Y 30) i (Y 30 (i + 1)) s = 0 ∨ upd (Y 30) i (Y 30 (i + 1)) s = 1
      rw [u_at, if_neg (by omega)]
      exact hb s (by omega) h2)
    have hlt : i < P - 1 := by omega
    refine ⟨Y', ?_, fun c h1 h2 h3 => (b c h1 h2 h3).trans ((if_neg h3).trans ((if_neg h2).trans (if_neg h1))), ?_, ?_, ?_⟩
    · rw [zl2]
      generalize loop2 _ F' = R9 at a
      have ok := n_ok (show i < 600 by omega) (show 600 < 2 ^ 31 by decide)
      have ok1 := n_ok (show i + 1 < 600 by omega) (show 600 < 2 ^ 31 by decide)
      unfold lb_X11_takesPlace_12
      rw [h37, if_neg (show ¬ nI (P - 1) ≤ nI i from nI_ge hlt (by omega)), n_add1, if_pos ok1, if_pos ok, dX_eq, if_pos ok1, if_pos ok, dX_eq, if_pos ok1, if_pos ok, dX_eq, dV_eq, nI_clamp (show i < 2 ^ 31 by omega), nI_clamp (show i + 1 < 2 ^ 31 by omega)]
      show R9 (pX (pX (pX Y 28 (upd (Y 28) i (Y 28 (i + 1)))) 29 (upd (Y 29) i (Y 29 (i + 1)))) 30 (upd (Y 30) i (vp_nar .boolean (Y 30 (i + 1))))) (nI (i + 1)) = _
      rw [nar01 (hb (i + 1) (by omega) (by omega))]
      exact a
    · rw [c25, show Y1 28 = sh 1 i (i + 1) (Y 28) from s1 (Y 28), sh_cons _ _ _ _ hlt]
    · rw [c26, show Y1 29 = sh 1 i (i + 1) (Y 29) from s1 (Y 29), sh_cons _ _ _ _ hlt]
    · rw [c27, show Y1 30 = sh 1 i (i + 1) (Y 30) from s1 (Y 30), sh_cons _ _ _ _ hlt]
theorem y_takePl {Y : JX} {P t : Nat} (hP : P ≤ 240) (ht : t < P) (h37 : Y 0 37 = nI P) (hb : ∀ s, s < P → Y 30 s = 0 ∨ Y 30 s = 1) : ∃ Y', f_X11_takesPlace Y (nI t) = some Y' ∧ (∀ c, c ≠ 0 → c ≠ 28 → c ≠ 29 → c ≠ 30 → Y' c = Y c) ∧ Y' 0 = upd (Y 0) 37 (nI (P - 1)) ∧ ∀ j, j < P - 1 → Y' 28 j = Y 28 (tu t j) ∧ Y' 29 j = Y 29 (tu t j) ∧ Y' 30 j = Y 30 (tu t j) := by
  obtain ⟨Y', a, b, c, d, e⟩ := y_takePl_loop hP (P - 1 - t) t 1000 (pX Y 0 (upd (Y 0) 37 (nI (P - 1)))) (by omega) (by omega) rfl (fun s _ hs => hb s hs)
  refine ⟨Y', ?_, fun c9 h0 h1 h2 h3 => (b c9 h1 h2 h3).trans (if_neg h0), (b 0 (by omega) (by omega) (by omega)).trans rfl, fun j hj => ⟨?_, ?_, ?_⟩⟩
  · unfold f_X11_takesPlace
    rw [h37, n_sub1 (by omega), dX_eq]
    exact a
  · rw [c]; exact sh_1 hj
  · rw [d]; exact sh_1 hj
  · rw [e]; exact sh_1 hj
theorem cnt_shift {p : Nat → Bool} : ∀ m i, cnt (fun j => p (j + 1)) m i = cnt p m (i + 1) := by
  intro m
  induction m with
  | zero => intro i; rfl
  | succ m ih => intro i; rw [cnt_s, cnt_s, ih]
def gq (Y : JX) (q : Int32 → Int32 → Int32 → Bool) (k : Nat) : Bool := q (Y 28 k) (Y 29 k) (Y 30 k)
theorem y_cleans_loop {s : Nat} : ∀ k F (Y : JX) (P : Nat), k ≤ P → P ≤ 240 → Y 0 37 = nI P → (∀ j, j < P → Y 30 j = 0 ∨ Y 30 j = 1) → k + 1 ≤ F → ∃ Y' P', loop2 (lb_X11_cleans_7 (nI s)) F Y (nI k - 1) = some Y' ∧ P' ≤ P ∧ Y' 0 37 = nI P' ∧ (∀ q, pc (Y' 28) (Y' 29) (Y' 30) P' q = cnt (fun j => gq Y q j && !gq Y (sD s) j) k 0 + cnt (gq Y q) (P - k) k) ∧ (∀ j, j < P' → ∃ j2, j2 < P ∧ Y' 28 j = Y 28 j2 ∧ Y' 29 j = Y 29 j2 ∧ Y' 30 j = Y 30 j2) ∧ (∀ c, c ≠ 0 → c ≠ 28 → c ≠ 29 → c ≠ 30 → Y' c = Y c) ∧ ∀ j, j ≠ 37 → Y' 0 j = Y 0 j := by
  intro k
  induction k with
  | zero =>
    intro F Y P hk hP h37 hb hF
    obtain ⟨F', rfl⟩ := Nat.exists_eq_add_of_le' hF
    refine ⟨Y, P, ?_, Nat.le_refl _, h37, fun q => ?_, fun j hj => ⟨j, hj, rfl, rfl, rfl⟩, fun _ _ _ _ _ => rfl, fun _ _ => rfl⟩
    · rw [zl2]
      generalize loop2 _ F' = R9
      unfold lb_X11_cleans_7
      rw [if_pos m1_lt]
    · show cnt (gq Y q) P 0 = 0 + cnt (gq Y q) (P - 0) 0
      rw [Nat.zero_add, Nat.sub_zero]
  | succ k ih =>
    intro F Y P hk hP h37 hb hF
    obtain ⟨F', rfl⟩ := Nat.exists_eq_add_of_le' (show 1 ≤ F by omega)
    have ok := n_ok (show k < 600 by omega) (show 600 < 2 ^ 31 by decide)
    have cl := nI_clamp (show k < 2 ^ 31 by omega)
    have hsnoc : ∀ p : Nat → Bool, cnt p (k + 1) 0 = cnt p k 0 + if p k = true then 1 else 0 := fun p => by
      rw [cnt_add, Nat.zero_add]
      rfl
    by_cases e : gq Y (sD s) k = true
    · obtain ⟨Y1, t1, t2, t3, t4⟩ := y_takePl hP (show k < P by omega) h37 hb
      obtain ⟨Y', P', a1, a2, a3, a4, a5, a6, a7⟩ := ih F' Y1 (P - 1) (by omega) (by omega) (by rw [t3]; rfl) (fun j hj => by rw [(t4 j hj).2.2]; exact hb _ (tu_lt (by omega) hj)) (by omega)
      refine ⟨Y', P', ?_, by omega, a3, fun q => ?_, fun j hj => ?_, fun c h0 h1 h2 h3 => (a6 c h0 h1 h2 h3).trans (t2 c h0 h1 h2 h3), fun j hj => (a7 j hj).trans (by rw [t3, u_at, if_neg hj])⟩
      · rw [zl2]
        generalize loop2 _ F' = R9 at a1
        unfold gq sD at e
        rw [Bool.and_eq_true, decide_eq_true_eq, Bool.not_eq_true', decide_eq_false_iff_not] at e
        unfold lb_X11_cleans_7 b_X11_cleans_35
        rw [nI_pred, if_neg (nI_pos (show k < 2 ^ 31 by omega)), if_pos ok, cl, if_neg (fun z => z e.1), if_pos ok, if_neg e.2, t1, bd_some, dV_eq, nn_m1]
        exact a1
      · rw [a4 q, hsnoc, if_neg (show ¬ (gq Y q k && !gq Y (sD s) k) = true by rw [e]; simp), Nat.add_zero]
        congr 1
        · exact cnt_congr k 0 (fun j _ hj => by
            have hj' : j < P - 1 := by omega
            have et : tu k j = j := by unfold tu; rw [if_pos (by omega)]
            obtain ⟨u1, u2, u3⟩ := t4 j hj'
            rw [et] at u1 u2 u3
            unfold gq
            rw [u1, u2, u3])
        · rw [show P - (k + 1) = P - 1 - k by omega, ← cnt_shift]
          exact cnt_congr (P - 1 - k) k (fun j hj1 hj => by
            have hj' : j < P - 1 := by omega
            have et : tu k j = j + 1 := by unfold tu; rw [if_neg (by omega)]
            obtain ⟨u1, u2, u3⟩ := t4 j hj'
            rw [et] at u1 u2 u3
            unfold gq
            rw [u1, u2, u3])
      · obtain ⟨j2, h2, e1, e2, e3⟩ := a5 j hj
        obtain ⟨u1, u2, u3⟩ := t4 j2 h2
        exact ⟨tu k j2, tu_lt (by omega) h2, e1.trans u1, e2.trans u2, e3.trans u3⟩
    · obtain ⟨Y', P', a1, a2, a3, a4, a5⟩ := ih F' Y P (by omega) hP h37 hb (by omega)
      refine ⟨Y', P', ?_, a2, a3, fun q => ?_, a5⟩
      · rw [zl2]
        generalize loop2 _ F' = R9 at a1
        unfold lb_X11_cleans_7 b_X11_cleans_35
        rw [nI_pred, if_neg (nI_pos (show k < 2 ^ 31 by omega)), if_pos ok, cl, if_pos ok, dV_eq, nn_m1, a1]
        by_cases z1 : Y 28 k = nI s
        · rw [if_neg (fun z => z z1)]
          by_cases z2 : Y 30 k = 0
          · rw [if_pos z2]
          · exact absurd (show gq Y (sD s) k = true by unfold gq sD; simp [z1, z2]) e
        · rw [if_pos z1]
      · rw [a4 q, hsnoc, show P - k = (P - (k + 1)) + 1 by omega, cnt_s]
        have : (gq Y q k && !gq Y (sD s) k) = gq Y q k := by
          rw [Bool.eq_false_iff.mpr e]; simp
        rw [this]
        omega
theorem y_cleans {Y : JX} {P s : Nat} (hP : P ≤ 240) (h37 : Y 0 37 = nI P) (hb : ∀ j, j < P → Y 30 j = 0 ∨ Y 30 j = 1) : ∃ Y' P', f_X11_cleans Y (nI s) = some Y' ∧ P' ≤ P ∧ Y' 0 37 = nI P' ∧ (∀ q, pc (Y' 28) (Y' 29) (Y' 30) P' q = pc (Y 28) (Y 29) (Y 30) P (fun a b c => q a b c && !sD s a b c)) ∧ (∀ j, j < P' → ∃ j2, j2 < P ∧ Y' 28 j = Y 28 j2 ∧ Y' 29 j = Y 29 j2 ∧ Y' 30 j = Y 30 j2) ∧ (∀ c, c ≠ 0 → c ≠ 28 → c ≠ 29 → c ≠ 30 → Y' c = Y c) ∧ ∀ j, j ≠ 37 → Y' 0 j = Y 0 j := by
  obtain ⟨Y', P', a1, a2, a3, a4, a5⟩ := y_cleans_loop (s := s) P 1000 Y P (Nat.le_refl _) hP h37 hb (by omega)
  refine ⟨Y', P', ?_, a2, a3, fun q => ?_, a5⟩
  · unfold f_X11_cleans
    rw [h37, dV_eq]
    exact a1
  · rw [a4 q, Nat.sub_self]
    rfl
def rel (s : Nat) (a : Int32) : Int32 := if a ≤ nI s then a else a - 1
theorem y_joins_loop {s P : Nat} (hP : P ≤ 240) : ∀ m i F (Y : JX), i + m = P → m + 1 ≤ F → Y 0 37 = nI P → ∃ Y', loop2 (lb_X11_joins_12 (nI s)) F Y (nI i) = some Y' ∧ (∀ c, c ≠ 28 → Y' c = Y c) ∧ ∀ j, Y' 28 j = if i ≤ j ∧ j < P then rel s (Y 28 j) else Y 28 j := by
  intro m
  induction m with
  | zero =>
    intro i F Y hi hF h37
    obtain ⟨F', rfl⟩ := Nat.exists_eq_add_of_le' hF
    refine ⟨Y, ?_, fun _ _ => rfl, fun j => by rw [if_neg (by omega)]⟩
    rw [zl2]
    generalize loop2 _ F' = R9
    unfold lb_X11_joins_12
    rw [h37, if_pos (show nI P ≤ nI i from nI_le (by omega) (by omega))]
  | succ m ih =>
    intro i F Y hi hF h37
    obtain ⟨F', rfl⟩ := Nat.exists_eq_add_of_le' (show 1 ≤ F by omega)
    have ok := n_ok (show i < 600 by omega) (show 600 < 2 ^ 31 by decide)
    obtain ⟨Y', a, b, c⟩ := ih (i + 1) F' (pX Y 28 (upd (Y 28) i (rel s (Y 28 i)))) (by omega) (by omega) h37
    refine ⟨Y', ?_, fun c9 hc => (b c9 hc).trans (if_neg hc), fun j => ?_⟩
    · rw [zl2]
      generalize loop2 _ F' = R9 at a
      unfold lb_X11_joins_12 b_X11_joins_42
      rw [h37, if_neg (show ¬ nI P ≤ nI i from nI_ge (by omega) (by omega)), if_pos ok, if_pos ok, if_pos ok, if_pos ok, nI_clamp (show i < 2 ^ 31 by omega), dX_eq, dX_eq, dV_eq, dV_eq, n_add1]
      unfold rel at a
      by_cases e : Y 28 i ≤ nI s
      · rw [if_pos e] at a
        rw [if_pos e, Int32.sub_zero]; exact a
      · rw [if_neg e] at a
        rw [if_neg e]; exact a
    · rw [c j]
      show (if i + 1 ≤ j ∧ j < P then rel s (upd (Y 28) i (rel s (Y 28 i)) j) else upd (Y 28) i (rel s (Y 28 i)) j) = _
      rw [u_at]
      by_cases q : j = i
      · rw [if_neg (show ¬ (i + 1 ≤ j ∧ j < P) by omega), if_pos q, if_pos (show i ≤ j ∧ j < P by omega), q]
      · rw [if_neg q]
        by_cases q2 : i + 1 ≤ j ∧ j < P
        · rw [if_pos q2, if_pos (show i ≤ j ∧ j < P by omega)]
        · rw [if_neg q2, if_neg (show ¬ (i ≤ j ∧ j < P) by omega)]
theorem y_joins {Y : JX} {P S s : Nat} (hP : P ≤ 240) (hS : 1 ≤ S) (h37 : Y 0 37 = nI P) (h41 : Y 0 41 = nI S) : ∃ Y', f_X11_joins Y (nI s) = some Y' ∧ Y' 0 37 = nI P ∧ Y' 0 41 = nI (S - 1) ∧ (∀ q, pc (Y' 28) (Y' 29) (Y' 30) P q = pc (Y 28) (Y 29) (Y 30) P (fun a b c => q (rel s a) b c)) ∧ (∀ j, j < P → Y' 28 j = rel s (Y 28 j) ∧ Y' 29 j = Y 29 j ∧ Y' 30 j = Y 30 j) ∧ (∀ c, c ≠ 0 → c ≠ 28 → Y' c = Y c) ∧ ∀ j, j ≠ 41 → Y' 0 j = Y 0 j := by
  obtain ⟨Y', a, b, c⟩ := y_joins_loop (s := s) hP P 0 1000 (pX Y 0 (upd (Y 0) 41 (nI (S - 1)))) (Nat.zero_add _) (by omega) h37
  have e0 : Y' 0 = upd (Y 0) 41 (nI (S - 1)) := (b 0 (by omega)).trans rfl
  have e : ∀ j, j < P → Y' 28 j = rel s (Y 28 j) ∧ Y' 29 j = Y 29 j ∧ Y' 30 j = Y 30 j := fun j hj => ⟨by rw [c j, if_pos ⟨Nat.zero_le _, hj⟩]; rfl, by rw [b 29 (by omega)]; rfl, by rw [b 30 (by omega)]; rfl⟩
  refine ⟨Y', ?_, by rw [e0, u_at, if_neg (by decide)]; exact h37, by rw [e0, u_at, if_pos rfl], fun q => ?_, e, fun c9 h0 h1 => (b c9 h1).trans (if_neg h0), fun j hj => by rw [e0, u_at, if_neg hj]⟩
  · unfold f_X11_joins
    rw [h41, n_sub1 (by omega), dX_eq]
    exact a
  · refine cnt_congr P 0 (fun j _ hj => ?_)
    obtain ⟨e1, e2, e3⟩ := e j (by omega)
    rw [e1, e2, e3]

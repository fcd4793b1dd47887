/-! ===== call: dead ===== -/
theorem IY.P {Y : JX} {P S : Nat} (h : IY Y P S) (hS : S ≤ 4) : P ≤ 60 * S := by
  refine holes (60 * S) P (fun k => 60 * (Y 28 k).toNatClampNeg + (Y 29 k).toNatClampNeg) (fun k hk => ?_) (fun k k' hkk hk' => ?_)
  · obtain ⟨⟨s, hs, es⟩, ⟨n, hn, en, -⟩, -⟩ := h.2.1 k hk
    show 60 * (Y 28 k).toNatClampNeg + (Y 29 k).toNatClampNeg < 60 * S
    rw [es, en, nI_clamp (show s < 2 ^ 31 by omega), nI_clamp (sm hn)]
    omega
  · obtain ⟨⟨s, hs, es⟩, ⟨n, hn, en, -⟩, -⟩ := h.2.1 k (by omega)
    obtain ⟨⟨s', hs', es'⟩, ⟨n', hn', en', -⟩, -⟩ := h.2.1 k' hk'
    show 60 * (Y 28 k).toNatClampNeg + (Y 29 k).toNatClampNeg ≠ 60 * (Y 28 k').toNatClampNeg + (Y 29 k').toNatClampNeg
    rw [es, en, es', en', nI_clamp (show s < 2 ^ 31 by omega), nI_clamp (sm hn), nI_clamp (show s' < 2 ^ 31 by omega), nI_clamp (sm hn')]
    intro e
    have e1 : s = s' := by omega
    have e2 : n = n' := by omega
    have := h.2.2.1 k k' (by omega) hk' (by rw [es, es', e1]) (by rw [en, en', e2])
    omega
def su (f : Nat → Nat) : Nat → Nat → Nat
  | 0, _ => 0
  | m + 1, i => f i + su f m (i + 1)
theorem su_s (f : Nat → Nat) (m i : Nat) : su f (m + 1) i = f i + su f m (i + 1) := rfl
theorem su_add {f g h : Nat → Nat} : ∀ m i, (∀ j, i ≤ j → j < i + m → f j = g j + h j) → su f m i = su g m i + su h m i := by
  intro m
  induction m with
  | zero => intro i _; rfl
  | succ m ih =>
    intro i hj
    rw [su_s, su_s, su_s, hj i (Nat.le_refl _) (by omega), ih (i + 1) (fun j h1 h2 => hj j (by omega) (by omega))]
    omega
theorem su_cnt {p : Nat → Bool} : ∀ m i, su (fun j => if p j = true then 1 else 0) m i = cnt p m i := by
  intro m
  induction m with
  | zero => intro i; rfl
  | succ m ih => intro i; rw [su_s, cnt_s, ih]
theorem su_0 : ∀ m i, su (fun _ => 0) m i = 0 := by
  intro m
  induction m with
  | zero => intro i; rfl
  | succ m ih => intro i; rw [su_s, ih]
theorem cnt_one {p : Nat → Bool} {r : Nat} : ∀ m i, i ≤ r → r < i + m → p r = true → (∀ s, i ≤ s → s < i + m → p s = true → s = r) → cnt p m i = 1 := by
  intro m
  induction m with
  | zero => intro i h1 h2; omega
  | succ m ih =>
    intro i h1 h2 h3 h4
    rw [cnt_s]
    by_cases q : i = r
    · rw [if_pos (by rw [q]; exact h3), cnt_0 m (i + 1) (fun j a b => by
        cases w : p j with
        | false => rfl
        | true => have := h4 j (by omega) (by omega) w; omega)]
    · rw [if_neg (fun z => q (h4 i (Nat.le_refl _) (by omega) z)), ih (i + 1) (by omega) (by omega) h3 (fun s a b => h4 s (by omega) (by omega))]
theorem su_seg {Y : JX} {P S : Nat} (q : Nat → Bool) (hS : S ≤ 4) (h : ∀ k, k < P → ∃ s, s < S ∧ Y 28 k = nI s) : ∀ m i, i + m ≤ P → su (fun s => cnt (fun k => decide (Y 28 k = nI s) && q k) m i) S 0 = cnt q m i := by
  intro m
  induction m with
  | zero => intro i _; exact su_0 S 0
  | succ m ih =>
    intro i hi
    rw [cnt_s, ← ih (i + 1) (by omega)]
    have e := su_add (f := fun s => cnt (fun k => decide (Y 28 k = nI s) && q k) (m + 1) i) (g := fun s => if (decide (Y 28 i = nI s) && q i) = true then 1 else 0) (h := fun s => cnt (fun k => decide (Y 28 k = nI s) && q k) m (i + 1)) S 0 (fun j _ _ => cnt_s _ m i)
    rw [e, su_cnt (p := fun s => decide (Y 28 i = nI s) && q i)]
    congr 1
    cases hq : q i with
    | false => rw [cnt_0 S 0 (fun j _ _ => by simp)]; rfl
    | true =>
      obtain ⟨s, hs, es⟩ := h i (by omega)
      rw [cnt_one (r := s) S 0 (Nat.zero_le _) (by omega) (by simp [es]) (fun t _ ht w => by
        have : Y 28 i = nI t := by simpa using w
        rw [es] at this
        exact ((nI_eq (a := s) (b := t) (by omega) (by omega)).mp this).symm)]
      rfl
theorem x_buried_loop {X Y : JX} {P S : Nat} (hX : IX X Y P S) (hS : S ≤ 4) : ∀ m i F c, i + m = S → m + 1 ≤ F → loop2 (lb_X3_countBuried_4 X) F (nI c) (nI i) = some (nI (c + su (fun s => cnt (deadP Y s) P 0) m i)) := by
  intro m
  induction m with
  | zero =>
    intro i F c hi hF
    obtain ⟨F', rfl⟩ := Nat.exists_eq_add_of_le' hF
    rw [zl2]
    generalize hR9 : loop2 _ F' = R9
    unfold lb_X3_countBuried_4
    rw [if_pos (show X 49 3 ≤ nI i by rw [hX.1]; exact nI_le (by omega) (by omega))]
    rfl
  | succ m ih =>
    intro i F c hi hF
    obtain ⟨F', rfl⟩ := Nat.exists_eq_add_of_le' (show 1 ≤ F by omega)
    rw [zl2]
    have h9 := fun c => ih (i + 1) F' c (by omega) (by omega)
    generalize hR9 : loop2 _ F' = R9 at h9
    unfold lb_X3_countBuried_4
    rw [if_neg (show ¬ X 49 3 ≤ nI i by rw [hX.1]; exact nI_ge (by omega) (by omega)), if_neg (show ¬ (3 : Int32) < nI i from fun z => by have := (nI_ltI (a := 3) (b := i) (by decide) (by omega)).mp z; omega), if_pos (n_ok4 (by omega)), nI_clamp (show i < 2 ^ 31 by omega), (hX.2.1 i (by omega)).2, dV_eq, dV_eq, nI_add, n_add1, h9, su_s, Nat.add_assoc]
theorem y_dead_loop {Y : JX} {P : Nat} (hP : P ≤ 600) (h37 : Y 0 37 = nI P) : ∀ m i F c, i + m = P → m + 1 ≤ F → loop2 (lb_X11_dead_9 Y) F (nI c) (nI i) = some (nI (c + cnt (fun k => decide (Y 30 k ≠ 0)) m i), Y) := by
  intro m
  induction m with
  | zero =>
    intro i F c hi hF
    obtain ⟨F', rfl⟩ := Nat.exists_eq_add_of_le' hF
    rw [zl2]
    generalize hR9 : loop2 _ F' = R9
    unfold lb_X11_dead_9
    rw [if_pos (show Y 0 37 ≤ nI i by rw [h37]; exact nI_le (by omega) (by omega))]
    rfl
  | succ m ih =>
    intro i F c hi hF
    obtain ⟨F', rfl⟩ := Nat.exists_eq_add_of_le' (show 1 ≤ F by omega)
    rw [zl2]
    have h9 := fun c => ih (i + 1) F' c (by omega) (by omega)
    generalize hR9 : loop2 _ F' = R9 at h9
    unfold lb_X11_dead_9 b_X11_dead_32
    rw [if_neg (show ¬ Y 0 37 ≤ nI i by rw [h37]; exact nI_ge (by omega) (by omega)), if_pos (n_ok (show i < 600 by omega) (by decide)), nI_clamp (show i < 2 ^ 31 by omega), dV_eq, dV_eq, dV_eq, dV_eq, n_add1, n_add1, Int32.add_zero, cnt_s]
    by_cases e : Y 30 i = 0
    · rw [if_pos e, h9, if_neg (by simp [e]), Nat.zero_add]
    · rw [if_neg e, h9, if_pos (by simp [e]), Nat.add_assoc]
theorem op_24 {i : Nat} {X Y : JX} (h : Rel i X Y) : OpSim (Rel (i + 5)) X Y 24 := by
  have h' := (h.mono (show i ≤ i + 5 by omega)).thr (s := 0)
  obtain ⟨M, R, A, P, S, -, -, -, -, ⟨h11, h12, h13⟩, -⟩ := h
  have hS : S ≤ 3 := h13.1
  have hP := h11.P (by omega)
  have e1 : f_X10_dead X = some (nI (cnt (fun k => decide (Y 30 k ≠ 0)) P 0)) := by
    have hl := x_buried_loop h12 (by omega) S 0 1000 0 (Nat.zero_add _) (by omega)
    rw [Nat.zero_add] at hl
    have h9 : f_X4_countDead X = some (nI (su (fun s => cnt (deadP Y s) P 0) S 0)) := by
      show (loop2 (lb_X3_countBuried_4 X) 1000 (nI 0) (nI 0)).bind _ = _
      rw [hl, bd_some]
    unfold f_X10_dead
    rw [h9, bd_some, ← su_seg (Y := Y) (P := P) (S := S) (fun k => decide (Y 30 k ≠ 0)) (by omega) (fun k hk => (h11.2.1 k hk).1) P 0 (by omega)]
    congr 3
    funext s
    refine cnt_congr P 0 (fun k _ _ => ?_)
    unfold deadP
    by_cases a : Y 28 k = nI s <;> by_cases b : Y 30 k = 0 <;> simp [a, b]
  have e2 : f_X11_dead Y = some (nI (cnt (fun k => decide (Y 30 k ≠ 0)) P 0), thr Y 0) := by
    unfold f_X11_dead
    rw [dX_eq]
    have := y_dead_loop (Y := thr Y 0) (P := P) (by omega) h11.1.1 P 0 1000 0 (Nat.zero_add _) (by omega)
    rw [Nat.zero_add] at this
    exact this
  exact ⟨_, _, e1, e2, h'⟩

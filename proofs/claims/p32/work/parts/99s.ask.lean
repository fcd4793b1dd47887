/-! ===== p32: what questions answer, where all is right ===== -/
theorem x_staleQ {i M : Nat} {X Y : JX} (h : Rel i X Y) (hC : CI M X) (h9 : X 1 9 = nI M) (hM : M ≤ 60) (hr : RT X Y) : f_X10_stale X = some 0 := by
  obtain ⟨A, P, S, ⟨t1, t2, t3⟩, ⟨r4, r5, r6⟩, ⟨hE, hEY⟩, -⟩ := h.one hC.1.1 h9 hM
  have hpl : pl X 0 = 13 := by unfold pl; rw [hC.1.2.1]; rfl
  have h10 : Y 10 0 = 0 := by
    have := r5.2.2 0 (by omega)
    rw [hpl, hC.1.2.2] at this
    exact this.symm
  have h0 : cnt (stl Y 1) 60 0 = 0 := cnt_0 60 0 (fun k _ hk => by
    have hk6 : k < 60 := by omega
    unfold stl
    cases e : ov Y 1 k with
    | none =>
      have hp := (ov_top t1 r4 h10).mp e
      exact decide_eq_false (fun z => z (by rw [← (hE k hk6).1]; exact hr.2 k hk6 hp))
    | some r =>
      have hp : prY Y k ≠ none := fun z => by rw [(ov_top t1 r4 h10).mpr z] at e; cases e
      obtain ⟨-, k0, k1, -⟩ := pr_some t1 hp
      obtain ⟨a36, a37, a38, a39⟩ := hr.1 k hp
      show (decide (Y 2 k = 0) && ! knw Y k) = false
      by_cases k2 : Y 2 k = 0
      · have : knw Y k = true := by
          obtain ⟨b36, b37, b38, b39, -⟩ := hE k hk6
          obtain ⟨c2, c3, c4, c5, -, -, -, c8, -⟩ := t2.2 k hk6
          refine decide_eq_true ⟨by rw [← b36]; exact a36, ?_, ?_, Or.inr ?_⟩
          · rw [← b37, a37, c2]; exact ((t1.st k ⟨hk6, k1⟩).2.1).symm
          · rw [← b38, a38, c3]
          · rw [← b39, a39 ⟨by rw [c5]; exact k1, by rw [c4]; exact k2⟩, c8 k2]
        rw [this]
        exact Bool.and_false _
      · rw [decide_eq_false k2]; rfl)
  have hl := x_stale_loop t1 t2 r4 r5 hE 60 0 1000 0 rfl (by decide)
  rw [Nat.zero_add, h0] at hl
  have : f_X2_countStale X = some (nI 0) := hl
  unfold f_X10_stale
  rw [this]
  rfl
def okA (p a b : Int32) : Prop := (¬ p < 0 ∧ ¬ 3 < p) ∧ (¬ a < 0 ∧ ¬ 99 < a) ∧ ¬ b < -1 ∧ ¬ 99 < b
theorem x_answersQ {i M : Nat} {X Y : JX} {p a b f : Int32} (h : Rel i X Y) (hC : CI M X) (h9 : X 1 9 = nI M) (hM : 2 ≤ M ∧ M ≤ 60) (ho : okA p a b) (hf : f = -1 ∨ f = nI 1) : f_X10_answers X p a b f = some (none, nI (cnt (ans Y 1 p a b f) 60 0), X) := by
  obtain ⟨A, P, S, ⟨t1, t2, t3⟩, ⟨r4, r5, r6⟩, ⟨hE, hEY⟩, -⟩ := h.one hC.1.1 h9 hM.2
  have hl := x_count_loop (Y := Y) (M := M) (R := 1) (p := p) (a := a) (b := b) (f := f) t1 t2 r5 r4 hE hEY 60 0 1000 0 rfl (by decide)
  rw [Nat.zero_add] at hl
  have hf' : f = -1 ∨ ∃ n, n < M ∧ f = nI n := hf.imp id (fun z => ⟨1, by omega, z⟩)
  unfold f_X10_answers
  rw [x_isPerson, bo_t ho.1, bd_some, if_neg one0, x_isMadeN t1 t2, bo_t hf', bd_some, if_pos one0, x_isWord, bo_t ho.2.1, bd_some, if_neg one0, x_isWordN, bo_t ho.2.2, bd_some, if_pos one0, show f_X5_count X p a b f = some _ from hl, bd_some]
theorem x_anewQ {i M : Nat} {X Y : JX} {p a b f : Int32} (h : Rel i X Y) (hC : CI M X) (h9 : X 1 9 = nI M) (hM : 2 ≤ M ∧ M ≤ 60) (ho : okA p a b) (hf : f = -1 ∨ f = nI 1) : ∃ X', f_X10_answersAnew X p a b f = some (none, nI (cnt (anw Y 1 p a b f) 60 0), X') ∧ ∀ q, q ≠ 55 → X' q = X q := by
  obtain ⟨A, P, S, ⟨t1, t2, t3⟩, ⟨r4, r5, r6⟩, ⟨hE, hEY⟩, -, -, ⟨s1, s2, -⟩, hSY⟩ := h.one hC.1.1 h9 hM.2
  have hf' : f = -1 ∨ ∃ n, n < M ∧ f = nI n := hf.imp id (fun z => ⟨1, by omega, z⟩)
  obtain ⟨X', x1, x2⟩ := x_anw_loop (X := X) (Y := Y) (M := M) (R := 1) (i9 := i) (p := p) (a := a) (b := b) (f := f) t1 t2 t3 r5 r4 ⟨s1, s2⟩ hSY hf' 60 0 1000 X 0 rfl (by decide) (fun _ _ => rfl)
  rw [Nat.zero_add] at x1
  refine ⟨X', ?_, x2⟩
  unfold f_X10_answersAnew
  rw [x_isPerson, bo_t ho.1, bd_some, if_neg one0, x_isMadeN t1 t2, bo_t hf', bd_some, if_pos one0, x_isWord, bo_t ho.2.1, bd_some, if_neg one0, x_isWordN, bo_t ho.2.2, bd_some, if_pos one0, show f_X5_countAnew X p a b f = some _ from x1, bd_some]
theorem x_deadQ {i M : Nat} {X Y : JX} (h : Rel i X Y) (hC : CI M X) (h9 : X 1 9 = nI M) (hM : M ≤ 60) : ∃ v, f_X10_dead X = some v ∧ ¬ v < 0 := by
  obtain ⟨v, Y', h1, -⟩ := op_24 h
  obtain ⟨A, P, S, -, -, -, -, ⟨h11, h12, h13⟩, -⟩ := h.one hC.1.1 h9 hM
  have hS : S ≤ 3 := h13.1
  have hP := h11.P (by omega)
  refine ⟨v, h1, ?_⟩
  have hl := x_buried_loop h12 (by omega) S 0 1000 0 (Nat.zero_add _) (by omega)
  rw [Nat.zero_add] at hl
  have h9 : f_X10_dead X = some (nI (su (fun s => cnt (deadP Y s) P 0) S 0)) := by
    show ((loop2 (lb_X3_countBuried_4 X) 1000 (nI 0) (nI 0)).bind _).bind _ = _
    rw [hl, bd_some, bd_some]
  rw [h9] at h1
  cases h1
  have hb := su_le1 (f := fun s => cnt (deadP Y s) P 0) (g := fun _ => 0) (d := 180) S 0 (fun j _ _ => by
    have := cnt_le (deadP Y j) P 0
    omega)
  rw [su_0] at hb
  exact nI_pos (by omega)
/-! places in the order of scores -/
theorem ahd_tr {s : Nat → Nat} {n m j : Nat} (h : ahd s n m = true) (h2 : ahd s m j = true) : ahd s n j = true := by
  unfold ahd at *
  simp only [Bool.or_eq_true, Bool.and_eq_true, decide_eq_true_eq] at *
  omega
theorem ahd_irr {s : Nat → Nat} {n : Nat} : ahd s n n = false := by
  cases e : ahd s n n with
  | false => rfl
  | true =>
    unfold ahd at e
    simp only [Bool.or_eq_true, Bool.and_eq_true, decide_eq_true_eq] at e
    omega
theorem ahd_tot {s : Nat → Nat} {n m : Nat} (h : n ≠ m) : ahd s n m = true ∨ ahd s m n = true := by
  unfold ahd
  simp only [Bool.or_eq_true, Bool.and_eq_true, decide_eq_true_eq]
  omega
def rk (s : Nat → Nat) (n : Nat) : Nat := cnt (ahd s n) 60 0
theorem rk_lt {s : Nat → Nat} {n m : Nat} (hm : m < 60) (h : ahd s n m = true) : rk s m + 1 ≤ rk s n := cnt_lt (r := m) 60 0 (fun _ _ _ => ahd_tr h) (Nat.zero_le _) (by omega) ahd_irr h
theorem rk_few {s : Nat → Nat} : ∀ k, cnt (fun n => decide (0 < s n ∧ rk s n < k)) 60 0 ≤ k := by
  intro k
  induction k with
  | zero => exact Nat.le_of_eq (cnt_0 60 0 (fun j _ _ => decide_eq_false (fun z => by omega)))
  | succ k ih =>
    by_cases hx : ∃ r, r < 60 ∧ rk s r = k
    · obtain ⟨r, r6, hr⟩ := hx
      refine Nat.le_trans (cnt_up1 (r := r) (q := fun n => decide (0 < s n ∧ rk s n < k)) 60 0 (fun j _ hj jr z => ?_)) (Nat.succ_le_succ ih)
      have z := of_decide_eq_true z
      refine decide_eq_true ⟨z.1, ?_⟩
      by_cases y : rk s j = k
      · rcases ahd_tot (s := s) jr with w | w
        · have := rk_lt r6 w; omega
        · have := rk_lt (show j < 60 by omega) w; omega
      · omega
    · refine Nat.le_trans (cnt_mono2 60 0 (fun j _ hj z => ?_)) (Nat.le_succ_of_le ih)
      have z := of_decide_eq_true z
      refine decide_eq_true ⟨z.1, ?_⟩
      by_cases y : rk s j = k
      · exact absurd ⟨j, by omega, y⟩ hx
      · omega
theorem rk_at {s : Nat → Nat} {k : Nat} : ∀ r n, n < 60 → 0 < s n → rk s n = r → k ≤ r → ∃ m, m < 60 ∧ 0 < s m ∧ rk s m = k := by
  intro r
  induction r using Nat.strongRecOn with
  | _ r ih =>
    intro n n6 hn hr hk
    by_cases hx : ∃ m, m < 60 ∧ ahd s n m = true ∧ k ≤ rk s m
    · obtain ⟨m, m6, hm, hkm⟩ := hx
      have h1 := rk_lt m6 hm
      refine ih (rk s m) (by omega) m m6 ?_ rfl hkm
      unfold ahd at hm
      simp only [Bool.or_eq_true, Bool.and_eq_true, decide_eq_true_eq] at hm
      omega
    · have h2 : rk s n ≤ cnt (fun n => decide (0 < s n ∧ rk s n < k)) 60 0 := cnt_mono2 60 0 (fun j _ hj z => by
        refine decide_eq_true ⟨?_, ?_⟩
        · unfold ahd at z
          simp only [Bool.or_eq_true, Bool.and_eq_true, decide_eq_true_eq] at z
          omega
        · rcases Nat.lt_or_ge (rk s j) k with w | w
          · exact w
          · exact absurd ⟨j, by omega, z, w⟩ hx)
      have h3 := rk_few (s := s) k
      exact ⟨n, n6, hn, by omega⟩
theorem rk_all {s : Nat → Nat} {k : Nat} (hk : k < cnt (fun n => decide (0 < s n)) 60 0) : ∃ m, m < 60 ∧ 0 < s m ∧ rk s m = k := by
  by_cases hx : ∃ n, n < 60 ∧ 0 < s n ∧ k ≤ rk s n
  · obtain ⟨n, n6, hn, hkn⟩ := hx
    exact rk_at (rk s n) n n6 hn rfl hkn
  · have h1 : cnt (fun n => decide (0 < s n)) 60 0 ≤ cnt (fun n => decide (0 < s n ∧ rk s n < k)) 60 0 := cnt_mono2 60 0 (fun j _ hj z => by
      have z := of_decide_eq_true z
      refine decide_eq_true ⟨z, ?_⟩
      rcases Nat.lt_or_ge (rk s j) k with w | w
      · exact w
      · exact absurd ⟨j, by omega, z, w⟩ hx)
    have h2 := rk_few (s := s) k
    omega
theorem rk_next {s : Nat → Nat} {n m k : Nat} (hn : n < 60) (hm : m < 60) (h1 : rk s n = k) (h2 : rk s m = k + 1) : ahd s m n = true := by
  have hne : m ≠ n := fun z => by rw [z] at h2; omega
  rcases ahd_tot (s := s) hne with w | w
  · exact w
  · have := rk_lt hm w
    omega
theorem x_answerQ {i M k : Nat} {X Y : JX} {p a b : Int32} (h : Rel i X Y) (hC : CI M X) (h9 : X 1 9 = nI M) (hM : M ≤ 60) (ho : okA p a b) (hk : k < cnt (fun n => decide (0 < scr Y p a b n)) 60 0) : ∃ n X', n < 60 ∧ 0 < scr Y p a b n ∧ scr Y p a b n ≤ 50 ∧ rk (scr Y p a b) n = k ∧ f_X10_answer X p a b (nI k) = some (none, nI (100 * scr Y p a b n + n), X') ∧ ∀ q, q ≠ 54 → X' q = X q := by
  obtain ⟨A, P, S, ⟨t1, t2, t3⟩, ⟨r4, r5, r6⟩, ⟨hE, hEY⟩, -⟩ := h.one hC.1.1 h9 hM
  have hs : ∀ j, j < 60 → scr Y p a b j ≤ 50 := fun j hj => scr_le hEY hj
  have hk6 : k < 60 := Nat.lt_of_lt_of_le hk (cnt_le _ 60 0)
  obtain ⟨X', x1, x2, x3⟩ := x_fill_loop (X := X) (Y := Y) (M := M) (p := p) (a := a) (b := b) (v := nI k) t1 t2 hE hEY 60 0 1000 X rfl (by decide) (fun _ _ => rfl) (fun j hj => absurd hj (Nat.not_lt_zero j))
  have xa := x_at_loop (X := X') (s := scr Y p a b) (v := nI k) x3 hs 60 0 1000 rfl (by decide)
  obtain ⟨m, m6, hm, hrm⟩ := rk_all hk
  have hfst : ∃ n, fst (qfl (scr Y p a b) (nI k)) 60 0 = some n := by
    cases e : fst (qfl (scr Y p a b) (nI k)) 60 0 with
    | some n => exact ⟨n, rfl⟩
    | none =>
      have := fst_none 60 0 e m (Nat.zero_le _) (by omega)
      unfold qfl at this
      rw [decide_eq_true hm, show cnt (ahd (scr Y p a b) m) 60 0 = k from hrm, decide_eq_true rfl] at this
      cases this
  obtain ⟨n, hn⟩ := hfst
  obtain ⟨-, n6, hq, -⟩ := fst_some 60 0 hn
  have n6 : n < 60 := by omega
  unfold qfl at hq
  rw [Bool.and_eq_true, decide_eq_true_eq, decide_eq_true_eq] at hq
  have hrk : rk (scr Y p a b) n = k := (nI_eq (by have := cnt_le (ahd (scr Y p a b) n) 60 0; unfold rk; omega) (by omega)).mp hq.2
  have e2 : (100 : Int32) * nI (scr Y p a b n) + nI n = nI (100 * scr Y p a b n + n) := by
    rw [show (100 : Int32) * nI (scr Y p a b n) = nI (100 * scr Y p a b n) from (Int32.ofNat_mul 100 (scr Y p a b n)).symm, nI_add]
  rw [hn] at xa
  have xe : f_X5_fileAt X p a b (nI k) = some (nI (100 * scr Y p a b n + n), X') := by
    show loop2 (lb_X5_fileAt_3 p a b (nI k)) 1000 X (nI 0) = _
    rw [x1, ← e2]
    exact xa
  have hb := hs n n6
  refine ⟨n, X', n6, hq.1, hb, hrk, ?_, x2⟩
  unfold f_X10_answer
  rw [x_isPerson, bo_t ho.1, bd_some, if_pos one0, x_isWord, bo_t ho.2.1, bd_some, if_neg one0, x_isWordN, bo_t ho.2.2, bd_some, if_pos one0, xe, bd_some, if_pos (show ¬ nI (100 * scr Y p a b n + n) = -1 from nm1 (by omega))]

def bD (s : Nat) : Int32 → Int32 → Int32 → Bool := fun a b c => sD s a b c || sD (s + 1) a b c
theorem bD_eq {s u : Nat} {a b c : Int32} (hs : s < 4) (hu : u < 4) (e : a = nI u) : bD s a b c = ((decide (u = s) || decide (u = s + 1)) && !decide (c = 0)) := by
  unfold bD sD
  rw [e, show decide (nI u = nI s) = decide (u = s) from decide_eq_decide.mpr (nI_eq (by omega) (by omega)), show decide (nI u = nI (s + 1)) = decide (u = s + 1) from decide_eq_decide.mpr (nI_eq (by omega) (by omega))]
  cases decide (u = s) <;> cases decide (u = s + 1) <;> simp
theorem c_join {ok : Nat → Prop} {lv : Int32 → Prop} {X Y : JX} {P S s : Nat} (H : IDS ok lv X Y P S) (hs : s + 1 < S) : ∃ X' Y1 Y2 Y' P', f_X3_joinWithNext X (nI s) = some X' ∧ f_X11_cleans Y (nI s) = some Y1 ∧ f_X11_cleans Y1 (nI (s + 1)) = some Y2 ∧ f_X11_joins Y2 (nI s) = some Y' ∧ IDS ok lv X' Y' P' (S - 1) ∧ FRI X X' Y Y' := by
  obtain ⟨H, hS, h49, h37, h41⟩ := H
  have hP := H.P hS
  have hP2 : P ≤ 240 := by omega
  obtain ⟨X', x1, x2, x3, x4, x5⟩ := x_join hs hS h49
  obtain ⟨Y1, P1, a1, a2, a3, a4, a5, a6, a7⟩ := y_cleans (s := s) hP2 h37 (fun j hj => H.b j hj)
  obtain ⟨Y2, P2, g1, g2, g3, g4, -, g6, g7⟩ := y_cleans (s := s + 1) (show P1 ≤ 240 by omega) a3 (fun j hj => by
    obtain ⟨j2, h2, -, -, e3⟩ := a5 j hj
    rw [e3]
    exact H.b j2 h2)
  obtain ⟨Y', b1, b2, b3, b4, -, b6, b7⟩ := y_joins (s := s) (S := S) (show P2 ≤ 240 by omega) (by omega) g3 ((g7 41 (by omega)).trans ((a7 41 (by omega)).trans h41))
  have hq : ∀ q, pc (Y' 28) (Y' 29) (Y' 30) P2 q = pc (Y 28) (Y 29) (Y 30) P (fun a b c => q (rel s a) b c && !bD s a b c) := fun q => by
    rw [b4, g4, a4]
    refine cnt_congr P 0 (fun k _ _ => ?_)
    show ((q (rel s (Y 28 k)) (Y 29 k) (Y 30 k) && !sD (s + 1) (Y 28 k) (Y 29 k) (Y 30 k)) && !sD s (Y 28 k) (Y 29 k) (Y 30 k)) = (q (rel s (Y 28 k)) (Y 29 k) (Y 30 k) && !(sD s (Y 28 k) (Y 29 k) (Y 30 k) || sD (s + 1) (Y 28 k) (Y 29 k) (Y 30 k)))
    cases q (rel s (Y 28 k)) (Y 29 k) (Y 30 k) <;> cases sD (s + 1) (Y 28 k) (Y 29 k) (Y 30 k) <;> cases sD s (Y 28 k) (Y 29 k) (Y 30 k) <;> rfl
  have key : ∀ k t, k < P → t < S - 1 → t ≠ s → (decide (rel s (Y 28 k) = nI t) && !bD s (Y 28 k) (Y 29 k) (Y 30 k)) = decide (Y 28 k = nI (tu s t)) := fun k t hk ht hts => by
    obtain ⟨⟨u, hu, eu⟩, -, -⟩ := H.1 k hk
    rw [bD_eq (by omega) (by omega) eu, eu, rel_nI (by omega) (by omega)]
    have q1 : decide (nI u = nI (tu s t)) = decide (u = tu s t) := decide_eq_decide.mpr (nI_eq (by omega) (by unfold tu; split <;> omega))
    have q2 : decide (nI (rn s u) = nI t) = decide (rn s u = t) := decide_eq_decide.mpr (nI_eq (by unfold rn; split <;> omega) (by omega))
    rw [q1, q2]
    by_cases e : u = s ∨ u = s + 1
    · have e1 : decide (rn s u = t) = false := decide_eq_false (by unfold rn; split <;> omega)
      have e2 : decide (u = tu s t) = false := decide_eq_false (by unfold tu; split <;> omega)
      rw [e1, e2, Bool.false_and]
    · have e1 : decide (rn s u = t) = decide (u = tu s t) := decide_eq_decide.mpr (by
        unfold rn tu
        split <;> split <;> omega)
      rw [e1, decide_eq_false (fun z => e (Or.inl z)), decide_eq_false (fun z => e (Or.inr z))]
      simp
  have keyS : ∀ k, k < P → (decide (rel s (Y 28 k) = nI s) && !bD s (Y 28 k) (Y 29 k) (Y 30 k)) = ((decide (Y 28 k = nI s) || decide (Y 28 k = nI (s + 1))) && decide (Y 30 k = 0)) := fun k hk => by
    obtain ⟨⟨u, hu, eu⟩, -, -⟩ := H.1 k hk
    rw [bD_eq (by omega) (by omega) eu, eu, rel_nI (by omega) (by omega)]
    have q1 : decide (nI u = nI s) = decide (u = s) := decide_eq_decide.mpr (nI_eq (by omega) (by omega))
    have q3 : decide (nI u = nI (s + 1)) = decide (u = s + 1) := decide_eq_decide.mpr (nI_eq (by omega) (by omega))
    have q2 : decide (nI (rn s u) = nI s) = decide (rn s u = s) := decide_eq_decide.mpr (nI_eq (by unfold rn; split <;> omega) (by omega))
    rw [q1, q2, q3]
    by_cases e : u = s ∨ u = s + 1
    · have e1 : decide (rn s u = s) = true := decide_eq_true (by unfold rn; split <;> omega)
      have e2 : (decide (u = s) || decide (u = s + 1)) = true := by
        rcases e with z | z <;> simp [z]
      rw [e1, e2, Bool.true_and, Bool.true_and, Bool.true_and, Bool.not_not]
    · have e1 : decide (rn s u = s) = false := decide_eq_false (by unfold rn; split <;> omega)
      rw [e1, decide_eq_false (fun z => e (Or.inl z)), decide_eq_false (fun z => e (Or.inr z))]
      simp
  have hqt : ∀ (t : Nat) (x : Int32 → Int32 → Bool), t < S - 1 → t ≠ s → pc (Y' 28) (Y' 29) (Y' 30) P2 (fun a b c => decide (a = nI t) && x b c) = pc (Y 28) (Y 29) (Y 30) P (fun a b c => decide (a = nI (tu s t)) && x b c) := fun t x ht hts => (hq _).trans (cnt_congr P 0 (fun k _ hk => by
    show ((decide (rel s (Y 28 k) = nI t) && x (Y 29 k) (Y 30 k)) && !bD s (Y 28 k) (Y 29 k) (Y 30 k)) = (decide (Y 28 k = nI (tu s t)) && x (Y 29 k) (Y 30 k))
    rw [← key k t (by omega) ht hts, Bool.and_assoc, Bool.and_comm (x _ _), ← Bool.and_assoc]))
  have hqs : ∀ (x : Int32 → Int32 → Bool), pc (Y' 28) (Y' 29) (Y' 30) P2 (fun a b c => decide (a = nI s) && x b c) = cnt (fun k => ((decide (Y 28 k = nI s) || decide (Y 28 k = nI (s + 1))) && decide (Y 30 k = 0)) && x (Y 29 k) (Y 30 k)) P 0 := fun x => (hq _).trans (cnt_congr P 0 (fun k _ hk => by
    show ((decide (rel s (Y 28 k) = nI s) && x (Y 29 k) (Y 30 k)) && !bD s (Y 28 k) (Y 29 k) (Y 30 k)) = _
    rw [← keyS k (by omega), Bool.and_assoc, Bool.and_comm (x _ _), ← Bool.and_assoc]))
  refine ⟨X', Y1, Y2, Y', P2, x1, a1, g1, b1, ⟨?_, by omega, by rw [x3]; rfl, b2, b3⟩, x2, fun c h0 h1 h2 h3 => (b6 c h0 h1).trans ((g6 c h0 h1 h2 h3).trans (a6 c h0 h1 h2 h3)), fun j h1 h2 => (b7 j h2).trans ((g7 j h1).trans (a7 j h1))⟩
  refine H.join hS (by omega) (B := bD s) (fun a b c hb => ?_) hq (fun k hk hb eg => by omega) (fun t n ht hn => ?_) (fun t ht => ?_) (fun n hn => ?_)
  · unfold bD sD at hb
    rw [Bool.or_eq_true, Bool.and_eq_true, Bool.and_eq_true, Bool.not_eq_true', decide_eq_false_iff_not] at hb
    rcases hb with z | z
    · exact z.2
    · exact z.2
  · show pc _ _ _ _ (fun a b c => decide (a = nI t) && (fun b _ => decide (b = nI n)) b c) ≤ 1
    by_cases q : t = s
    · rw [q, hqs]
      refine Nat.le_trans (cnt_mono P 0 (fun k _ _ w => ?_)) (H.2.2.1 n hn)
      rw [Bool.and_eq_true, Bool.and_eq_true] at w
      unfold nL
      rw [w.1.2, w.2]; rfl
    · rw [hqt t _ ht q]
      exact H.2.1 (tu s t) n (tu_lt (by omega) ht) hn
  · obtain ⟨z1, z2⟩ := x4 t ht
    rw [z1, z2]
    by_cases q : t = s
    · obtain ⟨z3, z4⟩ := H.2.2.2.1 s (by omega)
      obtain ⟨z5, z6⟩ := H.2.2.2.1 (s + 1) (by omega)
      rw [if_pos q, if_pos q, z3, z5, nI_add, q]
      refine ⟨congrArg nI ?_, ?_⟩
      · show _ = pc (Y' 28) (Y' 29) (Y' 30) P2 (fun a b c => decide (a = nI s) && (fun _ c => decide (c = 0)) b c)
        rw [hqs]
        have e := cnt_split (p := fun k => ((decide (Y 28 k = nI s) || decide (Y 28 k = nI (s + 1))) && decide (Y 30 k = 0)) && decide (Y 30 k = 0)) (q := fun k => decide (Y 28 k = nI s)) P 0
        have hne : ¬ nI s = nI (s + 1) := fun z => by
          have := (nI_eq (show s < 2 ^ 31 by omega) (show s + 1 < 2 ^ 31 by omega)).mp z
          omega
        have e1 : pc (Y 28) (Y 29) (Y 30) P (sL s) = cnt (fun k => (((decide (Y 28 k = nI s) || decide (Y 28 k = nI (s + 1))) && decide (Y 30 k = 0)) && decide (Y 30 k = 0)) && decide (Y 28 k = nI s)) P 0 := cnt_congr P 0 (fun k _ _ => by
          unfold sL
          by_cases q1 : Y 28 k = nI s <;> by_cases q3 : Y 30 k = 0 <;> simp [q1, q3])
        have e2 : pc (Y 28) (Y 29) (Y 30) P (sL (s + 1)) = cnt (fun k => (((decide (Y 28 k = nI s) || decide (Y 28 k = nI (s + 1))) && decide (Y 30 k = 0)) && decide (Y 30 k = 0)) && !decide (Y 28 k = nI s)) P 0 := cnt_congr P 0 (fun k _ _ => by
          unfold sL
          by_cases q1 : Y 28 k = nI s
          · by_cases q3 : Y 30 k = 0 <;> simp [q1, q3, hne]
          · by_cases q2 : Y 28 k = nI (s + 1) <;> by_cases q3 : Y 30 k = 0 <;> simp [q1, q2, q3, show ¬ nI (s + 1) = nI s from fun z => hne (Eq.symm z)])
        omega
      · show (0 : Int32) = nI (pc (Y' 28) (Y' 29) (Y' 30) P2 (fun a b c => decide (a = nI s) && (fun _ c => !decide (c = 0)) b c))
        rw [hqs, cnt_0 P 0 (fun k _ _ => by
          by_cases q3 : Y 30 k = 0 <;> simp [q3])]
        rfl
    · obtain ⟨z3, z4⟩ := H.2.2.2.1 (tu s t) (tu_lt (by omega) ht)
      rw [if_neg q, if_neg q, z3, z4]
      exact ⟨congrArg nI (hqt t (fun _ c => decide (c = 0)) ht q).symm, congrArg nI (hqt t (fun _ c => !decide (c = 0)) ht q).symm⟩
  · rw [x5 n hn]
    rcases H.2.2.2.2 n hn with ⟨z1, -⟩ | ⟨t, ht, z1, -⟩
    · rw [z1, if_neg (fun z => by
        have h9 := congrArg (fun v => decide (v < (0 : Int32))) z
        simp only [decide_eq_decide] at h9
        exact nI_pos (show s + 1 < 2 ^ 31 by omega) (h9.mp (by decide))), rel_m1 (by omega), rel_m1 (by omega)]
    · rw [z1, rel_nI (by omega) (by omega)]
      by_cases q : t = s + 1
      · rw [if_pos (by rw [q]), rel_nI (by omega) (by omega)]
        congr 1
        unfold rn
        split <;> split <;> omega
      · rw [if_neg (fun z => q ((nI_eq (by omega) (by omega)).mp z)), rel_nI (by omega) (by omega)]
        congr 1
        unfold rn
        split <;> split <;> omega

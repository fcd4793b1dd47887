/-! ===== p32: the other turns ===== -/
theorem t_notices {g : Int32 → Int32} {R9 : JX → Int32 → Int32 → Option Int32} {M t : Nat} {X : JX} {t7 : Int32} (h : LW M t 60 X) (hR : Rc R9 t) : ((f_X10_notices X (0)).bind fun z37 => thn X z37 fun t36 X38 => (if t36 ≤ 0 then b_L_law_1132 g R9 X38 (nI M) (nI t) (1) else (f_X10_notices X38 (0)).bind fun z40 => thn X38 z40 fun t39 X41 => (f_L_low X41 t7 (2)).bind fun t42 => (if ¬ t42 = 0 then (f_X10_lose X41 (0) (1)).bind fun z44 => thn X41 z44 fun t43 X45 => b_L_law_661 g R9 X45 (nI M) (nI t) t39 t43 else (f_X10_twice X41 (0)).bind fun z47 => thn X41 z47 fun t46 X48 => b_L_law_661 g R9 X48 (nI M) (nI t) t39 t46))) = some 1 := by
  have hM := h.1.2.2.2.1
  have nt : ∀ {X : JX}, LB M X → f_X10_notices X 0 = some (none, (if X 13 5 = 0 then X 13 4 else -1), X) := fun hB => x_notices hB.1 hB.2.1.1 hB.2.2.1 (by omega)
  rw [nt h.1, bd_some, h.thn]
  have h1 : LW M t 59 (mrg X X 1) := h.go h.1 (fun _ _ => rfl) rfl
  by_cases c5 : X 13 5 = 0
  · rw [if_pos c5]
    obtain ⟨k, k8, ek⟩ := noteK h.1
    by_cases k0 : k = 0
    · rw [ek, k0, if_pos (show nI 0 ≤ 0 by decide)]
      exact h1.ends (by omega) hR
    · rw [ek, if_neg (show ¬ nI k ≤ 0 from nI_nle (by omega) (by omega)), nt h1.1, bd_some, h1.thn]
      have e5 : mrg X X 1 13 5 = 0 := by rw [mrg_lo (by omega)]; exact c5
      have e4 : mrg X X 1 13 4 = nI k := by rw [mrg_lo (by omega)]; exact ek
      rw [if_pos e5, e4]
      have h2 : LW M t 58 (mrg (mrg X X 1) (mrg X X 1) 1) := h1.go h1.1 (fun _ _ => rfl) rfl
      have f5 : mrg (mrg X X 1) (mrg X X 1) 1 13 5 = 0 := by rw [mrg_lo (by omega)]; exact e5
      have f4 : mrg (mrg X X 1) (mrg X X 1) 1 13 4 = nI k := by rw [mrg_lo (by omega)]; exact e4
      generalize mrg (mrg X X 1) (mrg X X 1) 1 = Z at h2 f5 f4 ⊢
      obtain ⟨r, hr, er⟩ := i_low (X := Z) (v := t7) (n := 2) (by omega) (by decide)
      have fin : ∀ X' v, LB M X' → (∀ q, q < 176 → q < 13 ∨ 33 < q → X' q = Z q) → (v = -1 ∨ v = nI k + 1 ∨ v = nI k - 1) → b_L_law_661 g R9 (mrg Z X' 1) (nI M) (nI t) (nI k) v = some 1 := fun X' v hB' f hv => by
        have h3 : LW M t 57 (mrg Z X' 1) := h2.go hB' (fun q hq => f q (by omega) (by omega)) (by rw [f 0 (by omega) (by omega)])
        have e := h3.ends (g := g) (by omega) hR
        unfold b_L_law_661 b_L_law_692
        by_cases v1 : v = -1
        · rw [if_pos v1]; exact e
        · rw [if_neg v1]
          by_cases v2 : v = nI k + 1
          · rw [if_pos v2]; exact e
          · rw [if_neg v2, if_neg (fun z => z ((hv.resolve_left v1).resolve_left v2))]
            exact e
      rw [nI_2, er, bd_some]
      by_cases z : nI r = 0
      · rw [if_neg (fun y => y z)]
        obtain ⟨v, X', w1, w2, w3, w4⟩ := e_twice h2.1 ⟨by omega, k8⟩ f4 f5
        rw [w1, bd_some, h2.thn]
        exact fin X' v w3 w4 (w2.imp id (fun y => Or.inl (by rw [y, n_add1])))
      · rw [if_pos z]
        obtain ⟨X', w1, w3, w4⟩ := e_lose h2.1 ⟨by omega, k8⟩ f4
        rw [w1, bd_some, h2.thn]
        exact fin X' _ w3 w4 (Or.inr (Or.inr (by rw [n_sub1 (by omega)])))
  · rw [if_neg c5, if_pos (show (-1 : Int32) ≤ 0 by decide)]
    exact h1.ends (by omega) hR
theorem t_743 {g : Int32 → Int32} {R9 : JX → Int32 → Int32 → Option Int32} {M t n b : Nat} {X : JX} {v8 : Int32} (h : LW M t (b + 1) X) (hb : 1 ≤ b) (hR : Rc R9 t) (hn : n < M) : b_L_law_743 g R9 X (nI M) (nI t) v8 (nI n) 1 = some 1 := by
  have hM := h.1.2.2.2.1
  have k : ∀ m, m < M → X 5 m ≠ 0 → b_L_law_757 g R9 X (nI M) (nI t) v8 1 (nI m) = some 1 := fun m hm m5 => by
    have kp : ∀ p : Int32, (¬ p < 0 ∧ p ≤ 15) → b_L_law_776 g R9 X (nI M) (nI t) 1 p (nI m) = some 1 := fun p hp => by
      obtain ⟨v, X', w1, w2, w3⟩ := e_people h.1 hm m5 hp
      unfold b_L_law_776
      rw [w1, bd_some, h.thn]
      exact (h.go w2 (fun q hq => w3 q (by omega) (by omega)) (by rw [w3 0 (by omega) (by omega)])).ends hb hR
    unfold b_L_law_757
    obtain ⟨r, hr, er⟩ := i_low (X := X) (v := v8 >>> ((7) &&& 31)) (n := 3) (by omega) (by decide)
    rw [show (3 : Int32) = nI 3 from rfl, er, bd_some]
    by_cases z : nI r = 0
    · rw [if_neg (fun y => y z)]; exact kp 7 (by decide)
    · rw [if_pos z]; exact kp 15 (by decide)
  unfold b_L_law_743
  rw [if_pos (n_ok (show n < 32 by omega) (by decide)), nI_clamp (by omega)]
  by_cases c : X 176 n ≤ 0
  · rw [if_pos c]
    exact k 0 hM.1 h.1.top.1
  · rw [if_neg c]
    refine k n hn (fun z => c ?_)
    rw [(h.2.1.gone hn).mpr z]
    exact Int32.le_refl _
theorem t_731 {g : Int32 → Int32} {R9 : JX → Int32 → Int32 → Option Int32} {M t n : Nat} {X : JX} {v8 x : Int32} (h : LW M t 60 X) (hR : Rc R9 t) (hn : n < M) (h2 : X 176 n = 2) : b_L_law_731 g R9 X (nI M) (nI t) v8 (nI n) 1 (bZ x) (nI n) = some 1 := by
  obtain ⟨f5, f4, -⟩ := h.2.1.file hn h2
  obtain ⟨v, X1, w1, v2, X2, w2, w3, w4⟩ := e_lock (x := x) h.1 hn f5 f4
  unfold b_L_law_731
  rw [w1, bd_some, h.thn, w2, bd_some]
  have hU : BU (60 * (60 - (t + 1)) + 58 + 1) (mrg X X1 1) := (BU.go (b := 60 * (60 - (t + 1)) + 59) h.2.2.2).2
  rw [thn_go hU]
  have h9 : LW M t 58 (mrg (mrg X X1 1) X2 1) := by
    refine ⟨w3.mrg, h.2.1.same (fun q hq => ?_), h.2.2.1.fr (by rw [mrg_lo (by omega), w4 0 (by omega) (by omega)]), (BU.go (b := 60 * (60 - (t + 1)) + 58) hU).2⟩
    by_cases c : q < 176
    · rw [mrg_lo c]; exact w4 q c (by omega)
    · rw [mrg_hi3 (by omega), mrg_hi3 (by omega)]
  exact t_743 (b := 57) h9 (by omega) hR hn
theorem t_work {g : Int32 → Int32} {R9 : JX → Int32 → Int32 → Option Int32} {M t : Nat} {X : JX} {t7 : Int32} (h : LW M t 60 X) (hR : Rc R9 t) : ((f_L_low X t7 (20)).bind fun t29 => nV ((1) + t29) fun t30 => (f_X10_work X t30).bind fun z32 => thn X z32 fun t31 X33 => (if t30 < t31 then b_L_law_825 g R9 X33 (nI M) (nI t) (0) else (f_X10_segments X33 ).bind fun t34 => (if 3 < t34 then b_L_law_825 g R9 X33 (nI M) (nI t) (0) else b_L_law_825 g R9 X33 (nI M) (nI t) (1)))) = some 1 := by
  obtain ⟨r, hr, er⟩ := i_low (X := X) (v := t7) (n := 20) (by omega) (by decide)
  rw [show (20 : Int32) = nI 20 from rfl, er, bd_some, dV_eq, show (1 : Int32) + nI r = nI (1 + r) from nI_add 1 r]
  obtain ⟨d, X', w1, w2, w3, w4⟩ := e_work h.1 (show 1 ≤ 1 + r by omega) (by omega)
  rw [w1, bd_some, h.thn, if_neg (show ¬ nI (1 + r) < nI d from nI_nlt w2 (by omega))]
  have h9 : LW M t 59 (mrg X X' 1) := h.go w3 (fun q hq => w4 q (by omega)) (by rw [w4 0 (by omega)])
  obtain ⟨s, hs, es⟩ := x_segments h9.1
  rw [es, bd_some, if_neg (show ¬ (3 : Int32) < nI s from nI_nlt (a := 3) hs (by decide))]
  unfold b_L_law_825
  exact h9.ends (by omega) hR
theorem t_batt {g : Int32 → Int32} {R9 : JX → Int32 → Int32 → Option Int32} {M t : Nat} {X : JX} (h : LW M t 60 X) (ht : t < 60) (hR : Rc R9 t) : ((f_X10_battery X (1)).bind fun z18 => thm X z18 fun t17 X19 => (f_X10_work X19 (60)).bind fun z21 => thn X19 z21 fun t20 X22 => (f_X10_battery X22 (0)).bind fun z24 => thm X22 z24 fun t23 X25 => (f_X10_pass X25 (60)).bind fun z27 => thn X25 z27 fun t26 X28 => (if 20 < t20 then b_L_law_882 g R9 X28 (nI M) (nI t) (0) else (if ¬ t17 = 0 then b_L_law_882 g R9 X28 (nI M) (nI t) (0) else b_L_law_882 g R9 X28 (nI M) (nI t) (1)))) = some 1 := by
  obtain ⟨Xa, a1, d, Xb, hd, b1, v, Xc, c1, v2, Xd, d1, hB, hT, hf⟩ := e_batt h.1 h.2.2.1 ht
  have hU := h.2.2.2
  have u0 : ∀ (X X' : JX), mrg X X' 0 179 0 = X 179 0 := fun X X' => by rw [mrg_179, Int32.sub_zero]
  have hU1 : BU (60 * (60 - (t + 1)) + 59 + 1) (mrg X Xa 0) := hU.fr (u0 _ _)
  have hU2 : BU (60 * (60 - (t + 1)) + 59) (mrg (mrg X Xa 0) Xb 1) := (BU.go (b := 60 * (60 - (t + 1)) + 59) hU1).2
  have hU3 : BU (60 * (60 - (t + 1)) + 58 + 1) (mrg (mrg (mrg X Xa 0) Xb 1) Xc 0) := hU2.fr (u0 _ _)
  rw [a1, bd_some]
  show ((f_X10_work (mrg X Xa 0) (60)).bind fun z21 => thn (mrg X Xa 0) z21 fun t20 X22 => (f_X10_battery X22 (0)).bind fun z24 => thm X22 z24 fun t23 X25 => (f_X10_pass X25 (60)).bind fun z27 => thn X25 z27 fun t26 X28 => (if 20 < t20 then b_L_law_882 g R9 X28 (nI M) (nI t) (0) else (if ¬ (0 : Int32) = 0 then b_L_law_882 g R9 X28 (nI M) (nI t) (0) else b_L_law_882 g R9 X28 (nI M) (nI t) (1)))) = some 1
  rw [b1, bd_some, thn_go hU1, c1, bd_some]
  show ((f_X10_pass (mrg (mrg (mrg X Xa 0) Xb 1) Xc 0) (60)).bind fun z27 => thn (mrg (mrg (mrg X Xa 0) Xb 1) Xc 0) z27 fun t26 X28 => (if 20 < nI d then b_L_law_882 g R9 X28 (nI M) (nI t) (0) else (if ¬ (0 : Int32) = 0 then b_L_law_882 g R9 X28 (nI M) (nI t) (0) else b_L_law_882 g R9 X28 (nI M) (nI t) (1)))) = some 1
  rw [d1, bd_some, thn_go hU3, if_neg (show ¬ (20 : Int32) < nI d from nI_nlt (a := 20) hd (by decide)), if_neg (fun z => z rfl)]
  unfold b_L_law_882
  refine tail (M := M) ⟨hB.mrg, h.2.1.same (fun q hq => ?_), hT.fr (by rw [mrg_lo (by omega)]), ((BU.go (b := 60 * (60 - (t + 1)) + 58) hU3).2).le (by omega)⟩ (fun X' h' => hR M X' h')
  by_cases c : q < 176
  · rw [mrg_lo c]; exact hf q (by omega) (by omega)
  · rw [mrg_hi3 (by omega), mrg_hi3 (by omega), mrg_hi3 (by omega), mrg_hi3 (by omega)]
/-! the crawl's turn -/
theorem LB.pc {M : Nat} {X : JX} (h : LB M X) : PC (prX X) M X := by
  obtain ⟨hF, hFM, hF5⟩ := h.tree
  have h40 := h.top.2
  obtain ⟨⟨Y, hY⟩, hC, h9, ⟨hM1, hM⟩, -⟩ := h
  obtain ⟨A, P, S, ⟨t1, t2, t3⟩, ⟨r4, r5, r6⟩, -⟩ := hY.one hC.1.1 h9 (by omega)
  have hpl : pl X 0 = 13 := by unfold pl; rw [hC.1.2.1]; rfl
  obtain ⟨⟨a4, a5, k, k8, ek, ef, -⟩, -⟩ := ((QX_is X Y 1) ▸ r6) 0 (by omega)
  rw [hpl] at a4 a5
  refine ⟨hF, ⟨hM, hF5⟩, hC.2.2.1, ⟨k, k8, a4.trans ek, fun z => ?_⟩, h40⟩
  rcases ef with y | y
  · exact absurd (a5.trans y) z
  · exact y.2
theorem LB.q {M : Nat} {X X' : JX} (h : LB M X) (f : ∀ q, q < 176 → q ≠ 54 → q ≠ 55 → X' q = X q) : LB M X' := by
  obtain ⟨⟨Y, hY⟩, hC, h9, hM, h07, e8⟩ := h
  exact ⟨⟨Y, hY.q f⟩, hC.q f, by rw [f 1 (by omega) (by omega) (by omega)]; exact h9, hM, by rw [f 0 (by omega) (by omega) (by omega)]; exact h07, e8.fr (f 4 (by omega) (by omega) (by omega)) (f 8 (by omega) (by omega) (by omega))⟩
def QS (M t b : Nat) (Y X : JX) : Prop := LW M t b X ∧ Rel 20 X Y ∧ RT X Y
theorem QS.go {M t b : Nat} {X X' Y : JX} (h : QS M t (b + 1) Y X) (f : ∀ q, q < 176 → q ≠ 54 → q ≠ 55 → X' q = X q) : QS M t b Y (mrg X X' 1) := by
  have f2 : ∀ q, q < 176 → q ≠ 54 → q ≠ 55 → mrg X X' 1 q = X q := fun q hq a b => (mrg_lo hq).trans (f q hq a b)
  exact ⟨h.1.go (h.1.1.q f) (fun q hq => f q (by omega) (by omega) (by omega)) (by rw [f 0 (by omega) (by omega) (by omega)]), h.2.1.q f2, h.2.2.q f2⟩
theorem n_d100 {s n : Nat} (hn : n < 60) (hs : s ≤ 2000) : nI (100 * s + n) / 100 = nI s := by
  rw [show (100 : Int32) = nI 100 from rfl, pk_div (show 100 * s + n < 2 ^ 31 by omega) (by decide) (by decide)]
  congr 1
  omega
theorem t_order {g : Int32 → Int32} {R9 : JX → Int32 → Int32 → Option Int32} {M t : Nat} {Y : JX} {p a b : Int32} (hR : Rc R9 t) (ho : okA p a b) : ∀ m k F X v16, k + m = cnt (fun n => decide (0 < scr Y p a b n)) 60 0 → m + 1 ≤ F → QS M t (m + 1) Y X → (k = 0 ∧ v16 = 100000 ∨ ∃ n, n < 60 ∧ scr Y p a b n ≤ 50 ∧ v16 = nI (100 * scr Y p a b n + n) ∧ rk (scr Y p a b) n + 1 = k) → loop4 (lb_L_law_1050 g R9 (nI M) (nI t) p a b (nI (cnt (fun n => decide (0 < scr Y p a b n)) 60 0))) F X 1 v16 (nI k) = some 1 := by
  have hc60 := cnt_le (fun n => decide (0 < scr Y p a b n)) 60 0
  intro m
  induction m with
  | zero =>
    intro k F X v16 hk hF hq hv
    obtain ⟨F', rfl⟩ := Nat.exists_eq_add_of_le' hF
    rw [zl4]
    generalize loop4 _ F' = R8
    unfold lb_L_law_1050
    rw [if_pos (nI_le (by omega) (by omega))]
    exact hq.1.ends (by omega) hR
  | succ m ih =>
    intro k F X v16 hk hF hq hv
    obtain ⟨F', rfl⟩ := Nat.exists_eq_add_of_le' (show 1 ≤ F by omega)
    rw [zl4]
    have h9 := fun X' v => ih (k + 1) F' X' v (by omega) (by omega)
    generalize loop4 _ F' = R8 at h9
    have hB := hq.1.1
    have hM := hB.2.2.2.1
    obtain ⟨n, X', n6, hpos, hs50, hrk, ea, fx⟩ := x_answerQ (k := k) hq.2.1 hB.2.1 hB.2.2.1 (by omega) ho (by omega)
    unfold lb_L_law_1050
    rw [if_neg (show ¬ nI (cnt (fun n => decide (0 < scr Y p a b n)) 60 0) ≤ nI k from nI_ge (by omega) (by omega)), if_neg one0, ea, bd_some, hq.1.thn]
    have hq' := hq.go (X' := X') (fun q _ q1 _ => fx q q1)
    have fin : b_L_law_1120 g R9 R8 (mrg X X' 1) (nI M) (nI t) p a b (nI (cnt (fun n => decide (0 < scr Y p a b n)) 60 0)) (nI k) (nI (100 * scr Y p a b n + n)) 1 = some 1 := by
      unfold b_L_law_1120
      rw [dV_eq, n_add1]
      exact h9 (mrg X X' 1) _ hq' (Or.inr ⟨n, n6, hs50, rfl, by rw [hrk]⟩)
    have d1 := n_d100 (s := scr Y p a b n) n6 (by omega)
    rw [d1]
    rcases hv with ⟨k0, e16⟩ | ⟨n', n6', hs', e16, hrk'⟩
    · rw [e16, if_pos (show nI (scr Y p a b n) < 100000 / 100 by
        rw [show (100000 : Int32) / 100 = nI 1000 by decide]
        exact nI_lt (by omega) (by omega))]
      exact fin
    · have d2 := n_d100 (s := scr Y p a b n') n6' (by omega)
      rw [e16, d2]
      have hah := rk_next (s := scr Y p a b) (k := rk (scr Y p a b) n') n6' n6 rfl (by omega)
      unfold ahd at hah
      rw [Bool.or_eq_true, Bool.and_eq_true, decide_eq_true_eq, decide_eq_true_eq, decide_eq_true_eq] at hah
      rcases hah with z | ⟨z1, z2⟩
      · rw [if_pos (show nI (scr Y p a b n) < nI (scr Y p a b n') from nI_lt z (by omega))]
        exact fin
      · rw [if_neg (show ¬ nI (scr Y p a b n) < nI (scr Y p a b n') by rw [z1]; exact Int32.lt_irrefl), if_neg (fun y => y (by rw [z1]))]
        have m1 : ∀ s n, nI (100 * s + n) - nI s * 100 = nI n := fun s n => by
          have e : nI s * 100 = nI (s * 100) := (Int32.ofNat_mul s 100).symm
          rw [e, Nat.mul_comm s 100, n_sub (Nat.le_add_right _ _), Nat.add_sub_cancel_left]
        rw [m1, m1, if_neg (show ¬ nI n ≤ nI n' from nI_ge z2 (by omega))]
        exact fin
theorem t_crawl {g : Int32 → Int32} {R9 : JX → Int32 → Int32 → Option Int32} {M t : Nat} {X : JX} {t7 : Int32} (h : LW M t 60 X) (hM4 : 4 ≤ M) (hR : Rc R9 t) : ((f_X10_crawl X (0)).bind fun z11 => thn X z11 fun t10 X12 => (f_L_low X12 t7 (4)).bind fun t13 => (f_L_low X12 (t7 >>> ((3) &&& 31)) (7)).bind fun t14 => (f_L_low X12 (t7 >>> ((6) &&& 31)) (2)).bind fun t15 => (if ¬ t15 = 0 then (f_L_low X12 (t7 >>> ((7) &&& 31)) (7)).bind fun t16 => b_L_law_938 g R9 X12 (nI M) (nI t) t13 t14 t16 else b_L_law_938 g R9 X12 (nI M) (nI t) t13 t14 (-1))) = some 1 := by
  obtain ⟨v, Xc, c1, hBc, cf, c16', c18, c19⟩ := e_crawl h.1
  rw [c1, bd_some, h.thn]
  have h1 : LW M t 59 (mrg X Xc 1) := h.go hBc (fun q hq => cf q (by omega)) (by rw [cf 0 (by omega)])
  have x5 : mrg X Xc 1 13 5 = Xc 13 5 := by rw [mrg_lo (by omega)]
  have x16 : mrg X Xc 1 16 4 = 1 := by rw [mrg_lo (by omega)]; exact c16'
  have x18 : ∀ n, n < 60 → mrg X Xc 1 18 n = if n = 0 then 1 else 0 := fun n hn => by rw [mrg_lo (by omega)]; exact c18 n hn
  have x19 : ∀ n, n < 60 → mrg X Xc 1 19 n = 0 := fun n hn => by rw [mrg_lo (by omega)]; exact c19 n hn
  generalize mrg X Xc 1 = Z at h1 x5 x16 x18 x19 ⊢
  obtain ⟨hB, hL, hT, hU⟩ := id h1
  have hM := hB.2.2.2.1
  have hPC := hB.pc
  have u18 : ∀ n, n < 60 → Z 18 n ≠ 0 → n = 0 := fun n hn z => by
    by_cases n0 : n = 0
    · exact n0
    · rw [x18 n hn, if_neg n0] at z; exact absurd rfl z
  have hJ : JJ (prX Z) Z := by
    by_cases z : Z 13 5 = 0
    · exact Or.inr (Or.inl ⟨by rw [x16]; exact one0, J1.begin hPC.1 (by rw [x18 0 (by omega), if_pos rfl]; exact one0) u18 x19⟩)
    · exact Or.inl z
  have hPs := Psi_top hPC (fun n hn z _ => u18 n hn z)
  obtain ⟨Xr, r1, r2, r3, r4, r5, r6⟩ := rests hM.2 hB.1 hB.2.2.2.2.2 hB.2.1 hB.2.2.1 hB.2.2.2.2.1 hJ hPs
  obtain ⟨b', hb1, hb2, hb3⟩ := hU
  have e12 : Z 179 0 - 12 = nI (b' - 12) := by
    rw [hb3]
    exact n_sub (b := 12) (by omega)
  -- the state behind the rests
  have s1 : ∀ q, q < 179 → sbu Xr (Z 179 0 - 12) q = Xr q := fun q hq => sbu_ne (by omega)
  have hBr : LB M (sbu Xr (Z 179 0 - 12)) := by
    have : LB M Xr := ⟨r2, r3, by rw [r6 1 (by omega)]; exact hB.2.2.1, hM, by rw [r6 0 (by omega)]; exact hB.2.2.2.2.1, hB.2.2.2.2.2.fr (r6 4 (by omega)) (r6 8 (by omega))⟩
    exact this.congr (fun q hq => s1 q (by omega))
  have hWr : LW M t 47 (sbu Xr (Z 179 0 - 12)) := by
    refine ⟨hBr, hL.same (fun q hq => (s1 q (by omega)).trans (r6 q (by omega))), hT.fr (by rw [s1 0 (by omega), r6 0 (by omega)]), b' - 12, by omega, by omega, ?_⟩
    rw [sbu_179, e12]
  have hall : ∀ Y, Rel 20 (sbu Xr (Z 179 0 - 12)) Y → RT (sbu Xr (Z 179 0 - 12)) Y := fun Y hY => by
    obtain ⟨A, P, S, ⟨t1, t2, t3⟩, -⟩ := hY.one hBr.2.1.1.1 hBr.2.2.1 (by omega)
    have e : prY Y = prX Z := (prX_eq t1 t2).trans (prX_fr ((s1 2 (by omega)).trans (r6 2 (by omega))))
    have hF : TF (prX Z) (sbu Xr (Z 179 0 - 12)) := hPC.1.fr ((s1 2 (by omega)).trans (r6 2 (by omega))) ((s1 4 (by omega)).trans (r6 4 (by omega))) ((s1 5 (by omega)).trans (r6 5 (by omega)))
    have hq := r5.congr (X' := sbu Xr (Z 179 0 - 12)) (fun q hq => s1 q (by omega))
    unfold RT
    rw [e]
    exact JJ_quiet (r4.congr (fun q hq => s1 q (by omega))) hq.1 hq.2.2.1 hq.2.2.2 hF
  have h938 : ∀ p a b, okA p a b → b_L_law_938 g R9 Z (nI M) (nI t) p a b = some 1 := fun p a b ho => by
    unfold b_L_law_938
    rw [if_pos (show (12 : Int32) ≤ Z 179 0 by rw [hb3]; exact nI_le (a := 12) (by omega) (by omega)), r1, bd_some]
    unfold thb
    show (if (1 : Int32) = 0 then _ else _) = some 1
    rw [if_neg one0]
    show ((f_X10_stale (sbu Xr (Z 179 0 - 12))).bind fun t55 => (if ¬ t55 = 0 then b_L_law_984 g R9 (sbu Xr (Z 179 0 - 12)) (nI M) (nI t) p a b (0) else (f_X10_answers (sbu Xr (Z 179 0 - 12)) p a b (-1)).bind fun z57 => thn (sbu Xr (Z 179 0 - 12)) z57 fun t56 X58 => (f_X10_answersAnew X58 p a b (-1)).bind fun z60 => thn X58 z60 fun t59 X61 => (if ¬ t56 = t59 then b_L_law_984 g R9 X61 (nI M) (nI t) p a b (0) else b_L_law_984 g R9 X61 (nI M) (nI t) p a b (1)))) = some 1
    obtain ⟨Y, hY⟩ := hBr.1
    have q0 : QS M t 47 Y (sbu Xr (Z 179 0 - 12)) := ⟨hWr, hY, hall Y hY⟩
    generalize sbu Xr (Z 179 0 - 12) = Z0 at q0 ⊢
    have ceq : ∀ {Z : JX} {b' : Nat} (f : Int32), (f = -1 ∨ f = nI 1) → QS M t b' Y Z → cnt (ans Y 1 p a b f) 60 0 = cnt (anw Y 1 p a b f) 60 0 := fun f hf hq => cnt_congr 60 0 (fun k _ hk => ask_eq hq.2.1 hq.1.1.2.1 hq.1.1.2.2.1 (by omega) hq.2.2 (by omega) hf)
    have m1 : ∀ (f : Int32), f = -1 → f = -1 ∨ f = nI 1 := fun f hf => Or.inl hf
    rw [x_staleQ q0.2.1 q0.1.1.2.1 q0.1.1.2.2.1 (by omega) q0.2.2, bd_some, if_neg (fun z => z rfl), x_answersQ q0.2.1 q0.1.1.2.1 q0.1.1.2.2.1 (by omega) ho (m1 _ rfl), bd_some, q0.1.thn]
    have q1 := q0.go (X' := Z0) (fun _ _ _ _ => rfl)
    generalize mrg Z0 Z0 1 = Z1 at q1 ⊢
    obtain ⟨Xw, w1, w2⟩ := x_anewQ q1.2.1 q1.1.1.2.1 q1.1.1.2.2.1 (by omega) ho (m1 _ rfl)
    rw [w1, bd_some, q1.1.thn, ceq (-1) (m1 _ rfl) q1, if_neg (fun z => z rfl)]
    have q2 := q1.go (X' := Xw) (fun q _ _ q5 => w2 q q5)
    generalize mrg Z1 Xw 1 = Z2 at q2 ⊢
    unfold b_L_law_984
    have n1 : (1 : Int32) = nI 1 := rfl
    rw [if_neg one0, x_answersQ q2.2.1 q2.1.1.2.1 q2.1.1.2.2.1 (by omega) ho (Or.inr n1), bd_some, q2.1.thn]
    have q3 := q2.go (X' := Z2) (fun _ _ _ _ => rfl)
    generalize mrg Z2 Z2 1 = Z3 at q3 ⊢
    obtain ⟨Xv, v1, v2⟩ := x_anewQ q3.2.1 q3.1.1.2.1 q3.1.1.2.2.1 (by omega) ho (Or.inr n1)
    rw [v1, bd_some, q3.1.thn, ceq 1 (Or.inr n1) q3, if_neg (fun z => z rfl)]
    have q4' := q3.go (X' := Xv) (fun q _ _ q5 => v2 q q5)
    generalize mrg Z3 Xv 1 = Z4 at q4' ⊢
    obtain ⟨dv, d1, d2⟩ := x_deadQ q4'.2.1 q4'.1.1.2.1 q4'.1.1.2.2.1 (by omega)
    rw [d1, bd_some, if_neg d2]
    unfold b_L_law_1028
    rw [x_answersQ q4'.2.1 q4'.1.1.2.1 q4'.1.1.2.2.1 (by omega) ho (m1 _ rfl), bd_some, q4'.1.thn]
    have q5' := q4'.go (X' := Z4) (fun _ _ _ _ => rfl)
    generalize mrg Z4 Z4 1 = Z5 at q5' ⊢
    have ec : cnt (ans Y 1 p a b (-1)) 60 0 = cnt (fun n => decide (0 < scr Y p a b n)) 60 0 := cnt_congr 60 0 (fun k _ _ => ans_m1)
    have c24 : cnt (fun n => decide (0 < scr Y p a b n)) 60 0 ≤ M := by
      obtain ⟨A, P, S, ⟨t1, t2, t3⟩, -⟩ := q5'.2.1.one q5'.1.1.2.1.1.1 q5'.1.1.2.2.1 (by omega)
      rw [cnt_60 (M := M) (by omega) (fun n n1 n2 => decide_eq_false (fun z => absurd (t1.2.2.1 n n2 (scr_pos.mp z).1.1) (by omega)))]
      exact cnt_le _ M 0
    show l_L_law_1050 g R9 (nI M) (nI t) p a b (nI (cnt (ans Y 1 p a b (-1)) 60 0)) Z5 1 100000 0 = some 1
    rw [ec]
    unfold l_L_law_1050
    exact t_order hR ho _ 0 1000 Z5 100000 (Nat.zero_add _) (by omega) ⟨q5'.1.le (by omega), q5'.2⟩ (Or.inl ⟨rfl, rfl⟩)
  obtain ⟨p, hp, ep⟩ := i_low (X := Z) (v := t7) (n := 4) (by omega) (by decide)
  obtain ⟨a, ha, ea⟩ := i_low (X := Z) (v := t7 >>> ((3) &&& 31)) (n := 7) (by omega) (by decide)
  obtain ⟨c, hc, ec⟩ := i_low (X := Z) (v := t7 >>> ((6) &&& 31)) (n := 2) (by omega) (by decide)
  obtain ⟨b, hb, eb⟩ := i_low (X := Z) (v := t7 >>> ((7) &&& 31)) (n := 7) (by omega) (by decide)
  have okp : ¬ nI p < 0 ∧ ¬ 3 < nI p := ⟨nI_pos (by omega), nI_nlt (a := 3) (by omega) (by decide)⟩
  have okw : ∀ a, a < 7 → ¬ nI a < 0 ∧ ¬ 99 < nI a := fun a ha => ⟨nI_pos (by omega), nI_nlt (a := 99) (by omega) (by decide)⟩
  have okn : ∀ a, a < 7 → ¬ nI a < -1 ∧ ¬ 99 < nI a := fun a ha => ⟨fun z => absurd (Int32.lt_trans z (show (-1 : Int32) < 0 by decide)) (nI_pos (by omega)), (okw a ha).2⟩
  have ep : f_L_low Z t7 4 = some (nI p) := ep
  have ea : f_L_low Z (t7 >>> ((3) &&& 31)) 7 = some (nI a) := ea
  have ec : f_L_low Z (t7 >>> ((6) &&& 31)) 2 = some (nI c) := ec
  have eb : f_L_low Z (t7 >>> ((7) &&& 31)) 7 = some (nI b) := eb
  rw [ep, bd_some, ea, bd_some, ec, bd_some]
  by_cases z : nI c = 0
  · rw [if_neg (fun y => y z)]
    exact h938 _ _ _ ⟨okp, okw a ha, by decide, by decide⟩
  · rw [if_pos z, eb, bd_some]
    exact h938 _ _ _ ⟨okp, okw a ha, okn b hb⟩

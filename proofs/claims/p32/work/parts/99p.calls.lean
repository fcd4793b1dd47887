/-! ===== p32: lock, people, twice, lose, crawl ===== -/
theorem LB.op {M i : Nat} {X X' Y' : JX} (hB : LB M X) (hr : Rel i X' Y') (f : ∀ q, q < 176 → q < 7 ∨ (7 < q ∧ q < 13) ∨ 33 < q → X' q = X q) (h3 : X' 13 3 = X 13 3) : LB M X' := by
  obtain ⟨-, hC, h9, hM, h07, e8⟩ := hB
  have hCI : CI M X' := hC.op (Nat.le_refl _) ⟨fun p hp => f p (by omega) (by omega), h3⟩ (by rw [f 6 (by omega) (by omega)]; exact hC.2.1.1) (fun k hk k5 k4 => by
    rw [f 5 (by omega) (by omega)] at k5
    rw [f 4 (by omega) (by omega)] at k4
    exact Or.inl ⟨k5, k4, by rw [f 8 (by omega) (by omega)], by rw [f 9 (by omega) (by omega)], f (56 + k) (by omega) (by omega)⟩)
  exact LB.of hr hCI (by rw [f 1 (by omega) (by omega)]; exact h9) hM (by rw [f 0 (by omega) (by omega)]; exact h07) (e8.fr (f 4 (by omega) (by omega)) (f 8 (by omega) (by omega)))
theorem x_lock {X : JX} {n : Nat} {x : Int32} (hn : n < 60) (h5 : X 5 n ≠ 0) (h4 : X 4 n = 0) : f_X10_lock X (nI n) (bZ x) = some (none, bo (X 6 n ≠ 0), pX X 6 (upd (X 6) n (bZ x))) := by
  have hf : f_X9_isFile X (nI n) = some 1 := by rw [x_isFile hn, bo_t ⟨h5, h4⟩]
  have hs : f_X9_setLocked X (nI n) (bZ x) = some (pX X 6 (upd (X 6) n (bZ x))) := by
    unfold f_X9_setLocked
    rw [hf, bd_some, if_neg one0, if_pos (n_ok60 hn), nI_clamp (sm hn), dX_eq, nar_bZ]
  have hb : okB (bo (X 6 n ≠ 0)) = true := by
    by_cases z : X 6 n ≠ 0
    · rw [bo_t z]; rfl
    · rw [bo_f z]; rfl
  unfold f_X10_lock
  rw [hf, bd_some, if_pos one0, x_isLocked hn, bd_some, hs, bd_some, if_pos hb]
theorem e_lock {M n : Nat} {X : JX} {x : Int32} (hB : LB M X) (hn : n < M) (h5 : X 5 n ≠ 0) (h4 : X 4 n = 0) : ∃ v X1, f_X10_lock X (nI n) (bZ x) = some (none, v, X1) ∧ ∃ v2 X2, f_X10_lock (mrg X X1 1) (nI n) 0 = some (none, v2, X2) ∧ LB M X2 ∧ (∀ q, q < 176 → q ≠ 6 → X2 q = X q) := by
  have hB' := hB
  obtain ⟨⟨Y, hY⟩, hC, h9, ⟨hM1, hM⟩, h07, e8⟩ := hB
  have hn6 : n < 60 := by omega
  have e1 := x_lock (x := x) hn6 h5 h4
  obtain ⟨e, v, X', w, Y', h1, -, -, -, hr⟩ := op_5 hY (nI n) x
  rw [e1] at h1
  have g3 := Option.some.inj h1
  have e3 : pX X 6 (upd (X 6) n (bZ x)) = X' := congrArg (fun z => z.2.2) g3
  rw [← e3] at hr
  have lo : ∀ q, q < 176 → q ≠ 6 → mrg X (pX X 6 (upd (X 6) n (bZ x))) 1 q = X q := fun q hq q6 => (mrg_lo hq).trans (pX_ne _ _ q6)
  have hr2 : Rel (20 + 5) (mrg X (pX X 6 (upd (X 6) n (bZ x))) 1) Y' := hr.congr (fun q hq => mrg_lo hq)
  have e2 := x_lock (X := mrg X (pX X 6 (upd (X 6) n (bZ x))) 1) (x := 0) hn6 (by rw [lo 5 (by omega) (by omega)]; exact h5) (by rw [lo 4 (by omega) (by omega)]; exact h4)
  obtain ⟨e', v', X'', w', Y'', h1', -, -, -, hr'⟩ := op_5 hr2 (nI n) 0
  rw [e2] at h1'
  have g4 := Option.some.inj h1'
  have e4 : _ = X'' := congrArg (fun z => z.2.2) g4
  rw [← e4] at hr'
  refine ⟨_, _, e1, _, _, e2, ?_, fun q hq q6 => (pX_ne _ _ q6).trans (lo q hq q6)⟩
  have x6 : ∀ k, k < 60 → (pX (mrg X (pX X 6 (upd (X 6) n (bZ x))) 1) 6 (upd (mrg X (pX X 6 (upd (X 6) n (bZ x))) 1 6) n (bZ 0))) 6 k = 0 := fun k hk => by
    rw [pX_self, u_at, mrg_lo (by omega), pX_self, u_at]
    by_cases kn : k = n
    · rw [if_pos kn]; rfl
    · rw [if_neg kn, if_neg kn]; exact hC.2.1.1 k hk
  have z : ∀ q, q < 176 → q ≠ 6 → (pX (mrg X (pX X 6 (upd (X 6) n (bZ x))) 1) 6 (upd (mrg X (pX X 6 (upd (X 6) n (bZ x))) 1 6) n (bZ 0))) q = X q := fun q hq q6 => (pX_ne _ _ q6).trans (lo q hq q6)
  have hCI := hC.op (Nat.le_refl M) (X' := pX (mrg X (pX X 6 (upd (X 6) n (bZ x))) 1) 6 (upd (mrg X (pX X 6 (upd (X 6) n (bZ x))) 1 6) n (bZ 0))) ⟨fun p hp => z p (by omega) (by omega), by rw [z 13 (by omega) (by omega)]⟩ x6 (fun k hk k5 k4 => by
    rw [z 5 (by omega) (by omega)] at k5
    rw [z 4 (by omega) (by omega)] at k4
    exact Or.inl ⟨k5, k4, by rw [z 8 (by omega) (by omega)], by rw [z 9 (by omega) (by omega)], z (56 + k) (by omega) (by omega)⟩)
  exact LB.of hr' hCI (by rw [z 1 (by omega) (by omega)]; exact h9) ⟨hM1, hM⟩ (by rw [z 0 (by omega) (by omega)]; exact h07) (e8.fr (z 4 (by omega) (by omega)) (z 8 (by omega) (by omega)))
theorem e_people {M n : Nat} {X : JX} {p : Int32} (hB : LB M X) (hn : n < M) (h5 : X 5 n ≠ 0) (hp : ¬ p < 0 ∧ p ≤ 15) : ∃ v X1, f_X10_people X (nI n) p = some (none, v, X1) ∧ LB M X1 ∧ ∀ q, q < 176 → q ≠ 7 → X1 q = X q := by
  have hB' := hB
  obtain ⟨⟨Y, hY⟩, hC, h9, ⟨hM1, hM⟩, h07, e8⟩ := hB
  have hn6 : n < 60 := by omega
  have e1 : f_X10_people X (nI n) p = some (none, X 7 n, pX X 7 (upd (X 7) n p)) := by
    unfold f_X10_people f_X9_setPeople
    rw [x_isThere hn6, bo_t h5, bd_some, if_pos one0, if_neg hp.1, if_pos hp.2, x_peopleOf hn6, bd_some, bd_some, if_neg one0, if_pos (n_ok60 hn6), nI_clamp (sm hn6), dX_eq]
    rfl
  obtain ⟨e, v, X', w, Y', h1, -, -, -, hr⟩ := op_6 hY (nI n) p
  rw [e1] at h1
  have g3 := Option.some.inj h1
  have e3 : pX X 7 (upd (X 7) n p) = X' := congrArg (fun z => z.2.2) g3
  rw [← e3] at hr
  exact ⟨_, _, e1, hB'.op hr (fun q hq h => pX_ne _ _ (by omega)) (by rw [pX_ne _ _ (by omega)]), fun q hq q7 => pX_ne _ _ q7⟩
theorem noteK {M : Nat} {X : JX} (hB : LB M X) : ∃ k, k ≤ 8 ∧ X 13 4 = nI k := by
  obtain ⟨⟨Y, hY⟩, hC, h9, ⟨hM1, hM⟩, h07, e8⟩ := hB
  obtain ⟨A, P, S, -, ⟨r4, r5, r6⟩, -⟩ := hY.one hC.1.1 h9 (by omega)
  have hpl : pl X 0 = 13 := by unfold pl; rw [hC.1.2.1]; rfl
  obtain ⟨⟨a4, a5, k, k8, ek, -⟩, -⟩ := ((QX_is X Y 1) ▸ r6) 0 (by omega)
  rw [hpl] at a4
  exact ⟨k, k8, a4.trans ek⟩
theorem e_lose {M k : Nat} {X : JX} (hB : LB M X) (hk : 1 ≤ k ∧ k ≤ 8) (h4 : X 13 4 = nI k) : ∃ X1, f_X10_lose X 0 1 = some (none, nI (k - 1), X1) ∧ LB M X1 ∧ ∀ q, q < 176 → q < 13 ∨ 33 < q → X1 q = X q := by
  have hB' := hB
  obtain ⟨⟨Y, hY⟩, hC, h9, ⟨hM1, hM⟩, h07, e8⟩ := hB
  have e0 : (if (0 : Int32) < X 13 4 - 1 then X 13 4 - 1 else 0) = nI (k - 1) := by
    rw [h4, n_sub1 (by omega)]
    by_cases z : k = 1
    · rw [z]; rfl
    · rw [if_pos (show (0 : Int32) < nI (k - 1) from nI_lt (a := 0) (by omega) (by omega))]
  have e1 : f_X10_lose X 0 1 = some (none, nI (k - 1), pX X 13 (upd (X 13) 4 (nI (k - 1)))) := by
    unfold f_X10_lose f_X7_forgetLast
    rw [x_root ⟨Y, hY⟩ hC.1 h9 (by omega), bd_some, oC_some, if_pos (show isRt 13 = true from rfl), if_neg (by decide), if_pos (by decide), dX_eq, e0, bd_some, pX_self, u_at, if_pos rfl]
  obtain ⟨e, v, X', w, Y', h1, -, -, -, hr⟩ := op_12 hY 0 1
  rw [e1] at h1
  have g3 := Option.some.inj h1
  have e3 : pX X 13 (upd (X 13) 4 (nI (k - 1))) = X' := congrArg (fun z => z.2.2) g3
  rw [← e3] at hr
  exact ⟨_, e1, hB'.op hr (fun q hq h => pX_ne _ _ (by omega)) (by rw [pX_self, u_at, if_neg (by omega)]), fun q hq q7 => pX_ne _ _ (by omega)⟩
theorem e_twice {M k : Nat} {X : JX} (hB : LB M X) (hk : 1 ≤ k ∧ k ≤ 8) (h4 : X 13 4 = nI k) (h5 : X 13 5 = 0) : ∃ v X1, f_X10_twice X 0 = some (none, v, X1) ∧ (v = -1 ∨ v = nI (k + 1)) ∧ LB M X1 ∧ ∀ q, q < 176 → q < 13 ∨ 33 < q → X1 q = X q := by
  have hB' := hB
  obtain ⟨⟨Y, hY⟩, hC, h9, ⟨hM1, hM⟩, h07, e8⟩ := hB
  have hn : f_X7_hasNotices X 13 = some 1 := by
    unfold f_X7_hasNotices
    rw [h4, if_neg (nI_nle (by omega) (by omega))]
  have hl : ∃ a b, f_X7_tellLastAgain X 13 = (f_X7_tell X 13 a b).bind fun X2 => some X2 := by
    refine ⟨X (13 + 1) (nI (k - 1)).toNatClampNeg, X (13 + 2) (nI (k - 1)).toNatClampNeg, ?_⟩
    unfold f_X7_tellLastAgain
    rw [h4, n_sub1 (by omega), dV_eq, if_neg (nI_pos (by omega)), if_neg (show ¬ (8 : Int32) ≤ nI (k - 1) from nI_ge (show k - 1 < 8 by omega) (by decide)), if_pos (n_ok (show k - 1 < 8 by omega) (by decide)), if_pos (n_ok (show k - 1 < 8 by omega) (by decide))]
  obtain ⟨a, b, hl⟩ := hl
  obtain ⟨X1, hX1, hv⟩ : ∃ X1, f_X7_tell X 13 a b = some X1 ∧ ∃ v, f_X7_countOrFlood X1 13 = some v ∧ (v = -1 ∨ v = nI (k + 1)) := by
    by_cases k8 : k = 8
    · refine ⟨_, x_tell_full h5 (by rw [h4, k8]), -1, ?_, Or.inl rfl⟩
      unfold f_X7_countOrFlood
      rw [if_neg (by simp [p_at, u_at])]
    · refine ⟨_, x_tell_add h5 h4 (by omega), nI (k + 1), ?_, Or.inr rfl⟩
      unfold f_X7_countOrFlood
      rw [if_pos (by simp [p_at, u_at]; exact h5)]
      simp [p_at, u_at]
  obtain ⟨v, hv1, hv2⟩ := hv
  have e1 : f_X10_twice X 0 = some (none, v, X1) := by
    unfold f_X10_twice
    rw [x_root ⟨Y, hY⟩ hC.1 h9 (by omega), bd_some, oC_some, if_pos (show isRt 13 = true from rfl), hn, bd_some, if_pos one0, hl, hX1, bd_some, bd_some, hv1, bd_some]
  obtain ⟨e, v', X', w, Y', h1, -, -, -, hr⟩ := op_11 hY 0
  rw [e1] at h1
  have g3 := Option.some.inj h1
  have e3 : X1 = X' := congrArg (fun z => z.2.2) g3
  rw [← e3] at hr
  have hfr := i_tell (show isRt 13 = true from rfl) hX1
  exact ⟨v, X1, e1, hv2, hB'.op hr (fun q hq h => hfr.1 q (by omega)) hfr.2, fun q hq q7 => hfr.1 q q7⟩
theorem e_crawl {M : Nat} {X : JX} (hB : LB M X) : ∃ v X1, f_X10_crawl X 0 = some (none, v, X1) ∧ LB M X1 ∧ (∀ q, q < 16 ∨ 19 < q → X1 q = X q) ∧ X1 16 4 = 1 ∧ (∀ n, n < 60 → X1 18 n = if n = 0 then 1 else 0) ∧ ∀ n, n < 60 → X1 19 n = 0 := by
  have hB' := hB
  obtain ⟨⟨Y, hY⟩, hC, h9, ⟨hM1, hM⟩, h07, e8⟩ := hB
  obtain ⟨X1, x1, x2, x3, x4, x5, x6, x7⟩ := x_begin (X := X) (q := 13) (f := 0) (by omega) (by rw [hC.1.2.2]; rfl)
  obtain ⟨e, v, X', w, Y', h1, -, -, -, hr⟩ := op_17 hY 0
  have h1' := h1
  unfold f_X10_crawl at h1
  rw [x_root ⟨Y, hY⟩ hC.1 h9 (by omega), bd_some, oC_some, if_pos (show isRt 13 = true from rfl), x1, bd_some] at h1
  obtain ⟨t4, -, g2⟩ := bd_inv h1
  have g3 := Option.some.inj g2
  have e1 : none = e := congrArg Prod.fst g3
  have e3 : X1 = X' := congrArg (fun z => z.2.2) g3
  rw [← e1, ← e3] at h1'
  rw [← e3] at hr
  refine ⟨v, X1, h1', hB'.op hr (fun q hq h => x2 q (by omega) (by omega) (by omega) (by omega)) (by rw [x2 13 (by omega) (by omega) (by omega) (by omega)]), fun q hq => x2 q (by omega) (by omega) (by omega) (by omega), x4, x6, x7⟩

/-! ===== p32: the calls on files ===== -/
def fr13 (X1 X : JX) : Prop := (∀ p, p < 13 ∨ 33 < p → X1 p = X p) ∧ X1 13 3 = X 13 3
theorem fr13.rf (X : JX) : fr13 X X := ⟨fun _ _ => rfl, rfl⟩
theorem fr13.tr {X X' X'' : JX} (h : fr13 X'' X') (h2 : fr13 X' X) : fr13 X'' X := ⟨fun p hp => (h.1 p hp).trans (h2.1 p hp), h.2.trans h2.2⟩
theorem i_tell {X X1 : JX} {q : Nat} {a b : Int32} (hq : isRt q = true) (h : f_X7_tell X q a b = some X1) : fr13 X1 X := by
  have hq3 := isRt_c hq
  have key : ∀ X2 : JX, (∀ p, p ≠ q → p ≠ q + 1 → p ≠ q + 2 → X2 p = X p) → X2 q 3 = X q 3 → fr13 X2 X := fun X2 h1 h2 => by
    refine ⟨fun p hp => h1 p (by omega) (by omega) (by omega), ?_⟩
    rcases hq3 with e | e | e
    · rw [e] at h2; exact h2
    · rw [h1 13 (by omega) (by omega) (by omega)]
    · rw [h1 13 (by omega) (by omega) (by omega)]
  unfold f_X7_tell b_X7_tell_24 at h
  simp only [dX_eq] at h
  repeat' split at h
  all_goals first
    | (cases h; done)
    | (cases h; exact fr13.rf X)
    | skip
  all_goals
    cases h
    refine key _ (fun p h1 h2 h3 => ?_) ?_
    · simp [p_at, h1, h2, h3]
    · simp [p_at, u_at]
theorem i_tellAbove {X X1 : JX} {a k : Int32} (h : f_X8_tellAbove X a k = some X1) : fr13 X1 X := by
  unfold f_X8_tellAbove at h
  obtain ⟨o, -, h⟩ := bd_inv h
  cases o with
  | none => cases h; exact fr13.rf X
  | some q =>
    rw [oC_some] at h
    by_cases hq : isRt q = true
    · rw [if_pos hq] at h
      obtain ⟨X3, g1, g2⟩ := bd_inv h
      cases g2
      exact i_tell hq g1
    · rw [if_neg hq] at h; cases h
/-- what the calls on files leave as it is -/
def OF (X' X : JX) : Prop := (∀ p, p = 0 ∨ (9 < p ∧ p < 13) ∨ (33 < p ∧ p < 56) ∨ (115 < p ∧ p < 176) → X' p = X p) ∧ X' 13 3 = X 13 3
theorem OF.of {X' X : JX} (h : fr13 X' X) : OF X' X := ⟨fun p hp => h.1 p (by omega), h.2⟩
theorem OF.tr {X X' X'' : JX} (h : OF X'' X') (h2 : OF X' X) : OF X'' X := ⟨fun p hp => (h.1 p hp).trans (h2.1 p hp), h.2.trans h2.2⟩
theorem OF.p {X X' : JX} {k : Nat} {f : Nat → Int32} (h : OF X' X) (hk : (1 ≤ k ∧ k ≤ 9) ∨ (56 ≤ k ∧ k < 116)) : OF (pX X' k f) X := ⟨fun p hp => (pX_ne _ _ (by omega)).trans (h.1 p hp), by rw [pX_ne _ _ (by omega)]; exact h.2⟩
theorem wds.at' {X X1 : JX} {n : Nat} (h : wds X n) (h34 : X1 34 = X 34) (h9 : X1 9 n = X 9 n) (ht : X1 (56 + n) = X (56 + n)) (h40 : X1 40 n = X 40 n) (hw : X1 (116 + n) = X (116 + n)) : wds X1 n := by
  have e : tkX X1 n = tkX X n := by unfold tkX; rw [h34, h9, ht]
  unfold wds
  rw [e, h40, hw]
  exact h
theorem CI.op {M M' : Nat} {X X' : JX} (h : CI M X) (hMM : M ≤ M') (f : OF X' X) (h6 : ∀ n, n < 60 → X' 6 n = 0) (hn : ∀ n, n < 60 → X' 5 n ≠ 0 → X' 4 n = 0 → (X 5 n ≠ 0 ∧ X 4 n = 0 ∧ X' 8 n = X 8 n ∧ X' 9 n = X 9 n ∧ X' (56 + n) = X (56 + n)) ∨ ∃ e e', e < e' ∧ e' ≤ 2600 ∧ X 39 n = nI e ∧ X' 8 n = nI e') : CI M' X' := by
  obtain ⟨⟨a1, a2, a3⟩, ⟨b1, b2⟩, hE, hW⟩ := h
  have g := f.1
  refine ⟨⟨by rw [g 11 (by omega)]; exact a1, by rw [g 12 (by omega)]; exact a2, by rw [f.2]; exact a3⟩, ⟨h6, by rw [g 48 (by omega)]; exact b2⟩, fun k hk h36 => ?_, fun n hn6 h5 h4 => ?_⟩
  · rw [g 36 (by omega)] at h36
    rw [g 37 (by omega)]
    obtain ⟨m, hm, em⟩ := hE k hk h36
    exact ⟨m, by omega, em⟩
  · rw [g 36 (by omega), g 39 (by omega)]
    rcases hn n hn6 h5 h4 with ⟨c5, c4, c8, c9, ct⟩ | ⟨e, e', h1, h2, h3, h4⟩
    · obtain ⟨d1, d2⟩ := hW n hn6 c5 c4
      rw [c8]
      exact ⟨fun x y => (d1 x y).at' (g 34 (by omega)) c9 ct (by rw [g 40 (by omega)]) (g (116 + n) (by omega)), d2⟩
    · refine ⟨fun _ y => ?_, e, e', by omega, h2, h3, h4⟩
      rw [h3, h4] at y
      have := (nI_eq (a := e) (b := e') (by omega) (by omega)).mp y
      omega
theorem LB.of {i M : Nat} {X' Y' : JX} (hr : Rel i X' Y') (hC : CI M X') (h9 : X' 1 9 = nI M) (hM : 1 ≤ M ∧ M ≤ 24) (h07 : X' 0 7 = 0) (e8 : E8 X') : LB M X' := ⟨hr.low e8, hC, h9, hM, h07, e8⟩
theorem k_isWord {X : JX} {n : Nat} {b : Int32} (hm : isM b) (hf : f_X9_isFile X (nI n) = some 1) : f_X10_write X (nI n) b = b_X10_write_50 X (nI n) b := by
  obtain ⟨⟨m1, m2⟩, m3⟩ := mark_in hm
  unfold f_X10_write f_X10_isWord
  rw [hf, bd_some, if_pos one0]
  rcases hm with ⟨w, hw, rfl⟩ | rfl | rfl
  · rw [if_neg (nI_pos (show w < 2 ^ 31 by omega)), if_neg m2, bd_some, if_pos one0]
  · rfl
  · rfl
theorem e_write {M n l : Nat} {X : JX} {b : Int32} (hB : LB M X) (hn : n < M) (h5 : X 5 n ≠ 0) (h4 : X 4 n = 0) (h9n : X 9 n = nI l) (hl : l < 20) (h8n : X 8 n = nI (1 + l)) (hm : isM b) : ∃ X', f_X10_write X (nI n) b = some (none, nI (l + 2), X') ∧ LB M X' ∧ X' 0 = X 0 ∧ X' 8 = upd (X 8) n (nI (l + 2)) ∧ X' 9 = upd (X 9) n (nI (l + 1)) ∧ ∀ q, q < 8 → X' q = X q := by
  obtain ⟨⟨Y, hY⟩, hC, h9, ⟨hM1, hM⟩, h07, e8⟩ := hB
  obtain ⟨e, v, X', w, Y', h1, -, -, -, hr⟩ := op_1 hY (nI n) b
  have hn6 : n < 60 := by omega
  have hf : f_X9_isFile X (nI n) = some 1 := by rw [x_isFile hn6, bo_t ⟨h5, h4⟩]
  rw [k_isWord hm hf] at h1
  have h1' := h1
  unfold b_X10_write_50 at h1
  rw [x_isLocked hn6, bo_f (fun z => z (hC.2.1.1 n hn6)), bd_some, if_neg (fun z => z rfl), x_lengthOf hn6, bd_some, h9n, if_pos (show nI l < 20 from nI_lt (b := 20) hl (by decide)), x_append hn6 h5 h4 h9n hl, bd_some] at h1
  obtain ⟨X6, g1, g2⟩ := bd_inv h1
  rw [x_editionOf hn6, bd_some] at g2
  have g3 := Option.some.inj g2
  have e1 : none = e := congrArg Prod.fst g3
  have e2 : X6 8 n = v := congrArg (fun z => z.2.1) g3
  have e3 : X6 = X' := congrArg (fun z => z.2.2) g3
  subst e1 e3
  have hfr := i_tellAbove g1
  have o8 : X6 8 = upd (X 8) n (nI (l + 2)) := by
    rw [hfr.1 8 (by omega), pX_self, h8n, show (1 + l) = l + 1 by omega, n_add1]
  have o9 : X6 9 = upd (X 9) n (nI (l + 1)) := by
    rw [hfr.1 9 (by omega), pX_ne _ _ (by omega), pX_self]
  have oth : ∀ q, q < 13 ∨ 33 < q → q ≠ 8 → q ≠ 9 → q ≠ 56 + n → X6 q = X q := fun q hq q8 q9 qt => (hfr.1 q hq).trans ((pX_ne _ _ q8).trans ((pX_ne _ _ q9).trans (pX_ne _ _ qt)))
  have hOF : OF X6 X := (OF.of hfr).tr (OF.p (OF.p (OF.p (OF.of (fr13.rf X)) (by omega)) (by omega)) (by omega))
  have hCI : CI M X6 := by
    refine hC.op (Nat.le_refl _) hOF (by rw [oth 6 (by omega) (by omega) (by omega) (by omega)]; exact hC.2.1.1) (fun k hk k5 k4 => ?_)
    rw [oth 5 (by omega) (by omega) (by omega) (by omega)] at k5
    rw [oth 4 (by omega) (by omega) (by omega) (by omega)] at k4
    by_cases kn : k = n
    · subst kn
      obtain ⟨-, e, e', z1, z2, z3, z4⟩ := hC.2.2.2 k hk k5 k4
      rw [h8n] at z4
      have := (nI_eq (a := 1 + l) (b := e') (by omega) (by omega)).mp z4
      exact Or.inr ⟨e, l + 2, by omega, by omega, z3, by rw [o8, u_at, if_pos rfl]⟩
    · exact Or.inl ⟨k5, k4, by rw [o8, u_at, if_neg kn], by rw [o9, u_at, if_neg kn], oth (56 + k) (by omega) (by omega) (by omega) (by omega)⟩
  refine ⟨X6, ?_, LB.of hr hCI (by rw [oth 1 (by omega) (by omega) (by omega) (by omega)]; exact h9) ⟨hM1, hM⟩ (by rw [oth 0 (by omega) (by omega) (by omega) (by omega)]; exact h07) (fun k hk k4 => ?_), oth 0 (by omega) (by omega) (by omega) (by omega), o8, o9, fun q hq => oth q (by omega) (by omega) (by omega) (by omega)⟩
  · rw [k_isWord hm hf, h1', ← e2, o8, u_at, if_pos rfl]
  · rw [oth 4 (by omega) (by omega) (by omega) (by omega)] at k4
    rw [o8, u_at]
    by_cases kn : k = n
    · rw [if_pos kn]; exact ⟨l + 2, by omega, rfl⟩
    · rw [if_neg kn]; exact e8 k hk k4
theorem c16_nm : ∀ M, M < 26 → c16 (97 + nI M) = nI (97 + M) := by decide
theorem nm_is : ∀ M, M < 26 → (¬ nI (97 + M) < 97 ∧ ¬ 122 < nI (97 + M)) := by decide
theorem bZ_nar (x : Int32) : vp_nar .boolean (bZ x) = bZ x := nar_bZ x
theorem e_make {M f : Nat} {X : JX} {x : Int32} (hB : LB M X) (hM24 : M < 24) (hf : f < M) (h5 : X 5 f ≠ 0) (h4 : X 4 f ≠ 0) (hnm : ∀ n, n < M → X 5 n ≠ 0 → X 2 n = nI f → X 3 n ≠ nI (97 + M)) : ∃ X', f_X10_make X (nI f) (c16 (97 + nI M)) (bZ x) = some (none, nI M, X') ∧ LB (M + 1) X' ∧ X' 0 = X 0 ∧ X' 2 = upd (X 2) M (nI f) ∧ X' 3 = upd (X 3) M (nI (97 + M)) ∧ X' 4 = upd (X 4) M (bZ x) ∧ X' 5 = upd (X 5) M 1 ∧ X' 8 = upd (X 8) M (if bZ x = 0 then 1 else 0) ∧ X' 9 = X 9 := by
  obtain ⟨⟨Y, hY⟩, hC, h9, ⟨hM1, hM⟩, h07, e8⟩ := hB
  obtain ⟨A, P, S, ⟨t1, t2, t3⟩, -, ⟨hE, hEY⟩, -⟩ := hY.one hC.1.1 h9 (by omega)
  obtain ⟨e, v, X', w, Y', h1, -, -, -, hr⟩ := op_0 hY (nI f) (97 + nI M) x
  have hf6 : f < 60 := by omega
  have hM6 : M < 60 := by omega
  have h1' := h1
  rw [c16_nm M (by omega)] at h1
  unfold f_X10_make at h1
  have hfind : fst (isIn Y (nI f) (nI (97 + M))) 60 0 = none := by
    cases e9 : fst (isIn Y (nI f) (nI (97 + M))) 60 0 with
    | none => rfl
    | some r =>
      obtain ⟨-, hr6, hp, -⟩ := fst_some 60 0 e9
      have hp := of_decide_eq_true hp
      have hr6 : r < 60 := by omega
      obtain ⟨c2, c3, c4, c5, -⟩ := t2.2 r hr6
      have hrM := t1.2.2.1 r hr6 hp.1
      refine absurd (c3.trans hp.2.2) (hnm r hrM (by rw [c5]; exact hp.1) ?_)
      rw [c2, ← (t1.st r ⟨hr6, hp.1⟩).2.1]
      exact hp.2.1
  have hfull : f_X9_isFull X = some 0 := by
    unfold f_X9_isFull
    rw [h9, if_pos (l60 hM6)]
  rw [x_isFolder hf6, bo_t ⟨h5, h4⟩, bd_some, if_pos one0, x_isName, bo_t (nm_is M (by omega)), bd_some, if_pos one0, x_findIn t1 t2 hf6, hfind, bd_some, if_neg (show ¬ ¬ enc none = -1 from fun z => z rfl), hfull, bd_some, if_pos rfl, x_mk h9 hM6 (nm_ok (nm_is M (by omega))) (bZ_nar x), bd_some] at h1
  obtain ⟨X6, g1, g2⟩ := bd_inv h1
  have g3 := Option.some.inj g2
  have e1 : none = e := congrArg Prod.fst g3
  have e2 : nI M = v := congrArg (fun z => z.2.1) g3
  have e3 : X6 = X' := congrArg (fun z => z.2.2) g3
  subst e1 e2 e3
  have hfr := i_tellAbove g1
  have o := fun q (hq : q < 13) => hfr.1 q (Or.inl hq)
  have o1 : X6 1 = upd (X 1) 9 (nI (M + 1)) := (o 1 (by omega)).trans rfl
  have o2 : X6 2 = upd (X 2) M (nI f) := (o 2 (by omega)).trans rfl
  have o3 : X6 3 = upd (X 3) M (nI (97 + M)) := (o 3 (by omega)).trans rfl
  have o4 : X6 4 = upd (X 4) M (bZ x) := (o 4 (by omega)).trans rfl
  have o5 : X6 5 = upd (X 5) M 1 := (o 5 (by omega)).trans rfl
  have o8 : X6 8 = upd (X 8) M (if bZ x = 0 then 1 else 0) := (o 8 (by omega)).trans rfl
  have oth : ∀ q, q < 13 ∨ 33 < q → q = 0 ∨ q = 6 ∨ 8 < q → X6 q = X q := fun q hq h => (hfr.1 q hq).trans ((pX_ne _ _ (by omega)).trans ((pX_ne _ _ (by omega)).trans ((pX_ne _ _ (by omega)).trans ((pX_ne _ _ (by omega)).trans ((pX_ne _ _ (by omega)).trans ((pX_ne _ _ (by omega)).trans (pX_ne _ _ (by omega))))))))
  have hOF : OF X6 X := (OF.of hfr).tr (OF.p (OF.p (OF.p (OF.p (OF.p (OF.p (OF.p (OF.of (fr13.rf X)) (by omega)) (by omega)) (by omega)) (by omega)) (by omega)) (by omega)) (by omega))
  have m5 : X 5 M = 0 := by
    rw [(t2.2 M hM6).2.2.2.1]
    by_cases z : Y 1 M = 0
    · exact z
    · exact absurd (t1.2.2.1 M hM6 z) (by omega)
  have m39 : X 39 M = nI 0 := by
    rw [(hE M hM6).2.2.2.1, (hEY M hM6).2.2 (Or.inl (Nat.le_refl _))]
    rfl
  have hCI : CI (M + 1) X6 := by
    refine hC.op (Nat.le_succ _) hOF (by rw [oth 6 (by omega) (by omega)]; exact hC.2.1.1) (fun k hk k5 k4 => ?_)
    by_cases kn : k = M
    · subst kn
      rw [o4, u_at, if_pos rfl] at k4
      exact Or.inr ⟨0, 1, by omega, by omega, m39, by rw [o8, u_at, if_pos rfl, if_pos k4]; rfl⟩
    · rw [o5, u_at, if_neg kn] at k5
      rw [o4, u_at, if_neg kn] at k4
      exact Or.inl ⟨k5, k4, by rw [o8, u_at, if_neg kn], by rw [oth 9 (by omega) (by omega)], oth (56 + k) (by omega) (by omega)⟩
  refine ⟨X6, h1', LB.of hr hCI (by rw [o1, u_at, if_pos rfl]) ⟨by omega, by omega⟩ (by rw [oth 0 (by omega) (by omega)]; exact h07) (fun k hk k4 => ?_), oth 0 (by omega) (by omega), o2, o3, o4, o5, o8, oth 9 (by omega) (by omega)⟩
  rw [o8, u_at]
  by_cases kn : k = M
  · rw [if_pos kn]
    split
    · exact ⟨1, by omega, rfl⟩
    · exact ⟨0, by omega, rfl⟩
  · rw [if_neg kn]
    rw [o4, u_at, if_neg kn] at k4
    exact e8 k hk k4

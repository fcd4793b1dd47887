/-! ===== p32: move and remove ===== -/
theorem e_move {M n f : Nat} {X : JX} (hB : LB M X) (hn : n < M) (n0 : n ≠ 0) (n5 : X 5 n ≠ 0) (hf : f < M) (hfn : f ≠ n) (f5 : X 5 f ≠ 0) (f4 : X 4 f ≠ 0) (hin : ¬ On (prX X) (some f) n) (hnm : ∀ k, k < M → k ≠ n → X 5 k ≠ 0 → X 2 k = nI f → X 3 k ≠ nI (97 + n)) : ∃ X', f_X10_move X (nI n) (nI f) (c16 (97 + nI n)) = some (none, X 2 n, X') ∧ LB M X' ∧ X' 0 = X 0 ∧ X' 2 = upd (X 2) n (nI f) ∧ X' 3 = upd (X 3) n (nI (97 + n)) ∧ ∀ q, q < 10 → q ≠ 2 → q ≠ 3 → X' q = X q := by
  obtain ⟨⟨Y, hY⟩, hC, h9, ⟨hM1, hM⟩, h07, e8⟩ := hB
  obtain ⟨A, P, S, ⟨t1, t2, t3⟩, ⟨r4, r5, r6⟩, ⟨hE, hEY⟩, -⟩ := hY.one hC.1.1 h9 (by omega)
  have hpr := prX_eq t1 t2
  obtain ⟨e, v, X', w, Y', h1, -, -, -, hrl⟩ := op_3 hY (nI n) (nI f) (97 + nI n)
  have hf6 : f < 60 := by omega
  have hn6 : n < 60 := by omega
  have h1' := h1
  have hX2 : ∀ k, k < 60 → X 2 k = enc (prY Y k) := fun k hk => (t2.2 k hk).1
  have hb : f_X9_isBelow X (nI f) (nI n) = some 0 := by
    rw [x_isBelow hn6 hf6 hX2 t1.lt]
    have : belo (prY Y) f n = false := by
      cases e9 : belo (prY Y) f n with
      | false => rfl
      | true =>
        rw [belo_On t1.2.2.2.2, hpr] at e9
        exact absurd (On.up.mpr (Or.inr e9)) hin
    rw [this]
    rfl
  have hpl : pl X 0 = 13 := by unfold pl; rw [hC.1.2.1]; rfl
  have h10 : Y 10 0 = 0 := by
    have := r5.2.2 0 (by omega)
    rw [hpl, hC.1.2.2] at this
    exact this.symm
  have hhr : f_X8_hasAtOrBelow X (nI n) = some 0 := by
    rw [x_hr r5 r4 t1 t2 hn6]
    have r0 : rf Y 0 = 0 := by unfold rf; rw [h10]; rfl
    have p0 : prY Y 0 = none := by
      unfold prY
      rw [if_pos ⟨by omega, t1.2.1.1⟩, t1.2.1.2.2, dec_m1]
    have : hr Y 1 n = false := by
      unfold hr
      show ((decide (rf Y 0 = n) || belo (prY Y) (rf Y 0) n) || anyl _ 0 1) = false
      rw [r0, decide_eq_false (show ¬ 0 = n from fun z => n0 z.symm)]
      unfold belo
      rw [p0]
      rfl
    rw [this]
    rfl
  rw [c16_nm n (by omega)] at h1
  unfold f_X10_move at h1
  rw [if_neg (show ¬ nI n = 0 from nI_ne0 (by omega) (by omega)), x_isThere hn6, bo_t n5, bd_some, if_neg one0, x_isFolder hf6, bo_t ⟨f5, f4⟩, bd_some, if_pos one0, x_isName, bo_t (nm_is n (by omega)), bd_some, if_pos one0, x_findIn t1 t2 hf6, bd_some, if_neg (nne hf6 hn6 hfn), hb, bd_some, if_neg (fun z => z rfl)] at h1
  have h2 : b_X10_move_103 X (nI n) (nI f) (nI (97 + n)) = some (e, v, X') := by
    cases e9 : fst (isIn Y (nI f) (nI (97 + n))) 60 0 with
    | none => rw [e9, if_pos (show enc none = -1 from rfl)] at h1; exact h1
    | some r =>
      obtain ⟨-, hr6, hp, -⟩ := fst_some 60 0 e9
      have hp := of_decide_eq_true hp
      have hr6 : r < 60 := by omega
      obtain ⟨c2, c3, c4, c5, -⟩ := t2.2 r hr6
      have hrM := t1.2.2.1 r hr6 hp.1
      have ern : r = n := by
        by_cases z : r = n
        · exact z
        · refine absurd (c3.trans hp.2.2) (hnm r hrM z (by rw [c5]; exact hp.1) ?_)
          rw [c2, ← (t1.st r ⟨hr6, hp.1⟩).2.1]
          exact hp.2.1
      rw [e9, ern, show enc (some n) = nI n from rfl, if_neg (nm1 (sm hn6)), if_pos rfl] at h1
      exact h1
  have hc : vp_nar .char (nI (97 + n)) = nI (97 + n) := nm_ok (nm_is n (by omega))
  have hput := x_put (f := f) hn6 n5 hc
  have key : e = none ∧ v = X 2 n ∧ fr13 X' (mvX X n f (nI (97 + n))) := by
    have hpar := x_parentOf (X := X) hn6
    have fin : ∀ {X2 : JX}, fr13 X2 (mvX X n f (nI (97 + n))) → some (none, X 2 n, X2) = some (e, v, X') → e = none ∧ v = X 2 n ∧ fr13 X' (mvX X n f (nI (97 + n))) := fun h3 h4 => by
      have g3 := Option.some.inj h4
      have e1 : none = e := congrArg Prod.fst g3
      have e2 : X 2 n = v := congrArg (fun z => z.2.1) g3
      have e3 : _ = X' := congrArg (fun z => z.2.2) g3
      exact ⟨e1.symm, e2.symm, e3 ▸ h3⟩
    unfold b_X10_move_103 at h2
    obtain ⟨o6, -, h2⟩ := bd_inv h2
    cases o6 with
    | none =>
      rw [oC_none] at h2
      unfold b_X10_move_139n5 b_X10_move_188n5 at h2
      obtain ⟨o9, -, h2⟩ := bd_inv h2
      cases o9 with
      | none =>
        rw [oC_none, hpar, bd_some, hput, bd_some] at h2
        exact fin (fr13.rf _) h2
      | some q =>
        rw [oC_some] at h2
        by_cases hq : isRt q = true
        · rw [if_pos hq, hpar, bd_some, hput, bd_some] at h2
          obtain ⟨X15, g1, g2⟩ := bd_inv h2
          exact fin (i_tell hq g1) g2
        · rw [if_neg hq] at h2; cases h2
    | some q7 =>
      rw [oC_some] at h2
      by_cases hq : isRt q7 = true
      · rw [if_pos hq, hhr, bd_some, if_pos rfl] at h2
        unfold b_X10_move_139 b_X10_move_188 at h2
        obtain ⟨o9, -, h2⟩ := bd_inv h2
        cases o9 with
        | none =>
          rw [oC_none, hpar, bd_some, hput, bd_some] at h2
          obtain ⟨X23, g1, g2⟩ := bd_inv h2
          exact fin (i_tell hq g1) g2
        | some q =>
          rw [oC_some] at h2
          by_cases hq' : isRt q = true
          · rw [if_pos hq', hpar, bd_some, hput, bd_some] at h2
            by_cases hqq : q = q7
            · rw [if_pos hqq] at h2
              obtain ⟨X23, g1, g2⟩ := bd_inv h2
              exact fin (i_tell hq g1) g2
            · rw [if_neg hqq] at h2
              obtain ⟨X22, g1, g2⟩ := bd_inv h2
              obtain ⟨X23, g3, g4⟩ := bd_inv g2
              exact fin ((i_tell hq g3).tr (i_tell hq' g1)) g4
          · rw [if_neg hq'] at h2; cases h2
      · rw [if_neg hq] at h2; cases h2
  obtain ⟨e1, e2, hfr⟩ := key
  subst e1 e2
  have oth : ∀ q, q < 13 ∨ 33 < q → q ≠ 2 → q ≠ 3 → X' q = X q := fun q hq q2 q3 => (hfr.1 q hq).trans ((pX_ne _ _ q3).trans (pX_ne _ _ q2))
  have o2 : X' 2 = upd (X 2) n (nI f) := (hfr.1 2 (by omega)).trans rfl
  have o3 : X' 3 = upd (X 3) n (nI (97 + n)) := (hfr.1 3 (by omega)).trans rfl
  have hOF : OF X' X := (OF.of hfr).tr (OF.p (OF.p (OF.of (fr13.rf X)) (by omega)) (by omega))
  have hCI : CI M X' := hC.op (Nat.le_refl _) hOF (by rw [oth 6 (by omega) (by omega) (by omega)]; exact hC.2.1.1) (fun k hk k5 k4 => by
    rw [oth 5 (by omega) (by omega) (by omega)] at k5
    rw [oth 4 (by omega) (by omega) (by omega)] at k4
    exact Or.inl ⟨k5, k4, by rw [oth 8 (by omega) (by omega) (by omega)], by rw [oth 9 (by omega) (by omega) (by omega)], oth (56 + k) (by omega) (by omega) (by omega)⟩)
  exact ⟨X', h1', LB.of hrl hCI (by rw [oth 1 (by omega) (by omega) (by omega)]; exact h9) ⟨hM1, hM⟩ (by rw [oth 0 (by omega) (by omega) (by omega)]; exact h07) (e8.fr (oth 4 (by omega) (by omega) (by omega)) (oth 8 (by omega) (by omega) (by omega))), oth 0 (by omega) (by omega) (by omega), o2, o3, fun q hq q2 q3 => oth q (by omega) q2 q3⟩
/-- a node at or below another, as the class has it -/
def lvX (X : JX) (n k : Nat) : Bool := decide (X 5 k ≠ 0) && (decide (k = n) || belo (prX X) k n)
theorem x_noGone {X : JX} (h1 : One X) (h5 : X 5 0 ≠ 0) (hP : PX X) : f_X8_endGone X = some (0, X) := by
  have r2 := hP.1 2 (by omega)
  have r1 := hP.1 1 (by omega)
  have r0 := hP.1 0 (by omega)
  have a2 : ∀ F, loop3 lb_X8_endGone_4 (F + 1) X 0 2 = loop3 lb_X8_endGone_4 F X 0 1 := fun F => by
    rw [zl3]
    generalize loop3 lb_X8_endGone_4 F = R9
    unfold lb_X8_endGone_4 b_X8_endGone_51
    rw [if_neg (by decide), if_pos (show okI 2 3 = true from rfl), dN_eq, if_pos (show isRt (X 12 (2 : Int32).toNatClampNeg).toNatClampNeg = true from r2), h1.1, if_pos (by decide), dV_eq]
    rfl
  have a1 : ∀ F, loop3 lb_X8_endGone_4 (F + 1) X 0 1 = loop3 lb_X8_endGone_4 F X 0 0 := fun F => by
    rw [zl3]
    generalize loop3 lb_X8_endGone_4 F = R9
    unfold lb_X8_endGone_4 b_X8_endGone_51
    rw [if_neg (by decide), if_pos (show okI 1 3 = true from rfl), dN_eq, if_pos (show isRt (X 12 (1 : Int32).toNatClampNeg).toNatClampNeg = true from r1), h1.1, if_pos (by decide), dV_eq]
    rfl
  have ht0 : f_X9_isThere X 0 = some 1 := (x_isThere (n := 0) (by omega)).trans (by rw [bo_t h5])
  have a0 : ∀ F, loop3 lb_X8_endGone_4 (F + 1) X 0 0 = loop3 lb_X8_endGone_4 F X 0 (-1) := fun F => by
    rw [zl3]
    generalize loop3 lb_X8_endGone_4 F = R9
    unfold lb_X8_endGone_4 b_X8_endGone_51
    have e13 : (X 12 (0 : Int32).toNatClampNeg).toNatClampNeg = 13 := by
      show (X 12 0).toNatClampNeg = 13
      rw [h1.2.1]; rfl
    rw [if_neg (by decide), if_pos (show okI 0 3 = true from rfl), dN_eq, e13, if_pos (show isRt 13 = true from rfl), h1.1, if_neg (by decide), h1.2.2, ht0, bd_some, if_pos one0, dV_eq]
    rfl
  have am : ∀ F, loop3 lb_X8_endGone_4 (F + 1) X 0 (-1) = some (0, X) := fun F => by
    rw [zl3]
    generalize loop3 lb_X8_endGone_4 F = R9
    unfold lb_X8_endGone_4
    rw [if_pos (by decide), if_pos (show okB 0 = true from rfl)]
  show loop3 lb_X8_endGone_4 (996 + 1 + 1 + 1 + 1) X 0 2 = _
  rw [a2, a1, a0, am]
theorem e_remove {M n : Nat} {X : JX} (hB : LB M X) (hn : n < M) (n0 : n ≠ 0) (n5 : X 5 n ≠ 0) : ∃ X', f_X10_remove X (nI n) = some (none, nI (cnt (lvX X n) 60 0), X') ∧ LB M X' ∧ X' 0 = X 0 ∧ (∀ j, j < 60 → X' 5 j = if lvX X n j = true then 0 else X 5 j) ∧ (∀ j, j < 60 → X' 2 j = if X' 5 j = 0 then -1 else X 2 j) ∧ ∀ q, q < 10 → q ≠ 2 → q ≠ 5 → X' q = X q := by
  obtain ⟨⟨Y, hY⟩, hC, h9, ⟨hM1, hM⟩, h07, e8⟩ := hB
  obtain ⟨A, P, S, ⟨t1, t2, t3⟩, ⟨r4, r5, r6⟩, ⟨hE, hEY⟩, -⟩ := hY.one hC.1.1 h9 (by omega)
  have hpr := prX_eq t1 t2
  obtain ⟨e, v, X', w, Y', h1, -, -, -, hr⟩ := op_4 hY (nI n)
  have hn6 : n < 60 := by omega
  have h1' := h1
  have elv : ∀ k, k < 60 → lv Y n k = lvX X n k := fun k hk => by
    unfold lv lvX
    rw [hpr, (t2.2 k hk).2.2.2.1]
  unfold f_X10_remove at h1
  rw [if_neg (show ¬ nI n = 0 from nI_ne0 (by omega) (by omega)), x_isThere hn6, bo_t n5, bd_some, if_pos one0] at h1
  obtain ⟨X2, g1, h1⟩ := bd_inv h1
  have hfr := i_tellAbove g1
  have tx2 : TX X2 Y := t2.fr (by rw [hfr.1 1 (by omega)]) (fun q _ _ => hfr.1 q (by omega)) (fun q _ _ => hfr.1 q (by omega)) rfl eqC.rf
  obtain ⟨X3, k1, k2, k3⟩ := x_tk1 t1 tx2 hn6 60 0 1000 X2 0 (Nat.zero_add _) (by omega) (fun _ _ => rfl) (fun j => by rw [if_neg (fun z => by omega)])
  obtain ⟨X4, k4, k5, k6⟩ := x_tk2 (c := nI (0 + cnt (lv Y n) 60 0)) 60 0 1000 X3 (Nat.zero_add _) (by omega)
  have htk : f_X9_takeAway X2 (nI n) = some (nI (cnt (lv Y n) 60 0), X4) := by
    rw [Nat.zero_add] at k1 k4
    exact k1.trans k4
  rw [htk, bd_some] at h1
  have o5 : ∀ j, j < 60 → X4 5 j = if lvX X n j = true then 0 else X 5 j := fun j hj => by
    rw [k5 5 (by omega), k3 j, hfr.1 5 (by omega), elv j hj]
    by_cases z : lvX X n j = true
    · rw [if_pos ⟨hj, z⟩, if_pos z]
    · rw [if_neg (fun y => z y.2), if_neg z]
  have oth : ∀ q, q < 13 ∨ 33 < q → q ≠ 2 → q ≠ 5 → X4 q = X q := fun q hq q2 q5 => (k5 q q2).trans ((k2 q q5).trans (hfr.1 q hq))
  have o2 : ∀ j, j < 60 → X4 2 j = if X4 5 j = 0 then -1 else X 2 j := fun j hj => by
    rw [k6 j, k5 5 (by omega)]
    have : X3 2 = X 2 := (k2 2 (by omega)).trans (hfr.1 2 (by omega))
    rw [this]
    by_cases z : X3 5 j = 0
    · rw [if_pos ⟨Nat.zero_le _, hj, z⟩, if_pos z]
    · rw [if_neg (fun y => z y.2.2), if_neg z]
  have hone4 : One X4 := ⟨by rw [oth 11 (by omega) (by omega) (by omega)]; exact hC.1.1, by rw [oth 12 (by omega) (by omega) (by omega)]; exact hC.1.2.1, by rw [k5 13 (by omega), k2 13 (by omega), hfr.2]; exact hC.1.2.2⟩
  have lv0 : lvX X n 0 = false := by
    have p0 : prX X 0 = none := by
      rw [← hpr]
      unfold prY
      rw [if_pos ⟨by omega, t1.2.1.1⟩, t1.2.1.2.2, dec_m1]
    unfold lvX belo
    rw [p0, decide_eq_false (show ¬ 0 = n from fun z => n0 z.symm)]
    show (decide (X 5 0 ≠ 0) && (false || false)) = false
    rw [Bool.or_self, Bool.and_false]
  have h50 : X4 5 0 ≠ 0 := by
    rw [o5 0 (by omega), lv0, if_neg (fun z => by cases z), (t2.2 0 (by omega)).2.2.2.1]
    exact t1.2.1.1
  have hPX : PX X4 := by
    have e12 := oth 12 (by omega) (by omega) (by omega)
    have hp := r5.1
    unfold PX pl at hp ⊢
    rw [e12]
    exact hp
  rw [x_noGone hone4 h50 hPX, bd_some, if_pos rfl] at h1
  have g3 := Option.some.inj h1
  have e1 : none = e := congrArg Prod.fst g3
  have e2 : nI (cnt (lv Y n) 60 0) = v := congrArg (fun z => z.2.1) g3
  have e3 : X4 = X' := congrArg (fun z => z.2.2) g3
  subst e1 e2 e3
  have hcn : cnt (lv Y n) 60 0 = cnt (lvX X n) 60 0 := cnt_congr 60 0 (fun j _ hj => elv j (by omega))
  have hOF : OF X4 X := ⟨fun p hp => oth p (by omega) (by omega) (by omega), by rw [k5 13 (by omega), k2 13 (by omega), hfr.2]⟩
  have hCI : CI M X4 := hC.op (Nat.le_refl _) hOF (by rw [oth 6 (by omega) (by omega) (by omega)]; exact hC.2.1.1) (fun k hk k5' k4' => by
    rw [o5 k hk] at k5'
    rw [oth 4 (by omega) (by omega) (by omega)] at k4'
    refine Or.inl ⟨?_, k4', by rw [oth 8 (by omega) (by omega) (by omega)], by rw [oth 9 (by omega) (by omega) (by omega)], oth (56 + k) (by omega) (by omega) (by omega)⟩
    by_cases z : lvX X n k = true
    · rw [if_pos z] at k5'; exact absurd rfl k5'
    · rw [if_neg z] at k5'; exact k5')
  exact ⟨X4, by rw [h1', hcn], LB.of hr hCI (by rw [oth 1 (by omega) (by omega) (by omega)]; exact h9) ⟨hM1, hM⟩ (by rw [oth 0 (by omega) (by omega) (by omega)]; exact h07) (e8.fr (oth 4 (by omega) (by omega) (by omega)) (oth 8 (by omega) (by omega) (by omega))), oth 0 (by omega) (by omega) (by omega), o5, o2, fun q hq q2 q5 => oth q (by omega) q2 q5⟩

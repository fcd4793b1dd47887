/-! ===== p32: a turn: remove ===== -/
def goL (pl : Nat → Option Nat) (n k : Nat) : Bool := decide (k = n) || bel pl n 60 (pl k)
def gkL (X : JX) (pl : Nat → Option Nat) (n k : Nat) : Bool := goL pl n k && decide (¬ X 176 k ≤ 0)
theorem t_way {g : Int32 → Int32} {R9 : JX → Int32 → Int32 → Option Int32} {R4 : JX → Int32 → Int32 → Option Int32} {M n : Nat} {X : JX} {v6 v12 v13 : Int32} {pl : Nat → Option Nat} (hM : M ≤ 24) (h5 : ∀ n, n < M → X 177 n = enc (pl n)) (hl : ∀ n m, pl n = some m → m < M) (hn : n < M) : ∀ K F u (s : Bool), it pl K u = none → K + 1 ≤ F → (∀ k, u = some k → k < M) → loop2 (lb_L_law_476 g R9 R4 X (nI M) v6 (nI n) v12 v13) F (bB s) (enc u) = b_L_law_509 g R9 R4 X (nI M) v6 (nI n) v12 v13 (bB (s || bel pl n K u)) := by
  intro K
  induction K with
  | zero =>
    intro F u s h hF hu
    have h : u = none := h
    subst h
    obtain ⟨F', rfl⟩ := Nat.exists_eq_add_of_le' hF
    rw [zl2]
    generalize loop2 _ F' = R8
    unfold lb_L_law_476
    rw [if_pos (show enc none < 0 by decide), bel_n, Bool.or_false]
  | succ K ih =>
    intro F u s h hF hu
    obtain ⟨F', rfl⟩ := Nat.exists_eq_add_of_le' (show 1 ≤ F by omega)
    cases u with
    | none =>
      rw [zl2]
      generalize loop2 _ F' = R8
      unfold lb_L_law_476
      rw [if_pos (show enc none < 0 by decide), bel_n, Bool.or_false]
    | some k =>
      have hk := hu k rfl
      rw [zl2]
      have h9 := fun s => ih F' (pl k) s h (by omega) (fun m em => hl k m em)
      generalize loop2 _ F' = R8 at h9
      have k498 : ∀ b : Bool, b_L_law_498 g R9 R4 R8 X (nI M) v6 (nI n) v12 v13 (nI k) (bB b) = R8 (bB b) (enc (pl k)) := fun b => by
        unfold b_L_law_498
        rw [if_pos (n_ok (show k < 32 by omega) (by decide)), dV_eq, nI_clamp (by omega), h5 k hk]
      have k1 : b_L_law_498 g R9 R4 R8 X (nI M) v6 (nI n) v12 v13 (nI k) 1 = R8 (bB true) (enc (pl k)) := k498 true
      have k0 : b_L_law_498 g R9 R4 R8 X (nI M) v6 (nI n) v12 v13 (nI k) 0 = R8 (bB false) (enc (pl k)) := k498 false
      unfold lb_L_law_476
      rw [show enc (some k) = nI k from rfl, if_neg (nI_pos (show k < 2 ^ 31 by omega)), bel_s]
      cases s with
      | true => rw [if_pos (show ¬ bB true = 0 by decide), Bool.true_or]
      | false =>
        rw [if_neg (show ¬ ¬ bB false = 0 by decide), Bool.false_or]
        by_cases e : k = n
        · rw [if_neg (fun z => z (by rw [e])), k1, h9 true, Bool.true_or]
          have : (k == n) = true := by rw [e]; exact beq_self_eq_true n
          rw [this, Bool.true_or]
        · rw [if_pos (show ¬ nI k = nI n from fun z => e ((nI_eq (by omega) (by omega)).mp z)), k0, h9 false, Bool.false_or]
          have : (k == n) = false := beq_eq_false_iff_ne.mpr e
          rw [this, Bool.false_or]
theorem t_count {g : Int32 → Int32} {R9 : JX → Int32 → Int32 → Option Int32} {M n : Nat} {Xb : JX} {v6 : Int32} {pl : Nat → Option Nat} (hM : M ≤ 24) (hp : Tr pl) (h5 : ∀ n, n < M → Xb 177 n = enc (pl n)) (hl : ∀ n m, pl n = some m → m < M) (hn : n < M) : ∀ j F X c, j < M → j + 1 ≤ F → (∀ q, q ≠ 178 → X q = Xb q) → ∃ X', loop3 (lb_L_law_451 g R9 (nI M) v6 (nI n)) F X (nI c) (nI j) = l_L_law_560 g R9 (nI M) v6 (nI n) (nI (c + cnt (gkL Xb pl n) j 1)) X' 1 ∧ (∀ q, q ≠ 178 → X' q = Xb q) ∧ ∀ k, X' 178 k = if 1 ≤ k ∧ k ≤ j ∧ goL pl n k = true then 40 else X 178 k := by
  intro j
  induction j with
  | zero =>
    intro F X c hj hF hX
    obtain ⟨F', rfl⟩ := Nat.exists_eq_add_of_le' hF
    refine ⟨X, ?_, hX, fun k => by rw [if_neg (by omega)]⟩
    rw [zl3]
    generalize loop3 _ F' = R8
    unfold lb_L_law_451
    rw [if_pos (show nI 0 ≤ 0 by decide)]
    rfl
  | succ j ih =>
    intro F X c hj hF hX
    obtain ⟨F', rfl⟩ := Nat.exists_eq_add_of_le' (show 1 ≤ F by omega)
    have ok := n_ok (show j + 1 < 32 by omega) (by decide)
    have cl := nI_clamp (show j + 1 < 2 ^ 31 by omega)
    obtain ⟨X', a1, a2, a3⟩ := ih F' (pX X 178 (upd (X 178) (j + 1) (if goL pl n (j + 1) = true then 40 else X 178 (j + 1)))) (c + if gkL Xb pl n (j + 1) = true then 1 else 0) (by omega) (by omega) (fun q hq => (pX_ne _ _ hq).trans (hX q hq))
    refine ⟨X', ?_, a2, fun k => ?_⟩
    · have ecnt : c + cnt (gkL Xb pl n) (j + 1) 1 = (c + if gkL Xb pl n (j + 1) = true then 1 else 0) + cnt (gkL Xb pl n) j 1 := by
        rw [cnt_add j 1 1, show 1 + j = j + 1 by omega]
        have : cnt (gkL Xb pl n) 1 (j + 1) = if gkL Xb pl n (j + 1) = true then 1 else 0 := by
          rw [cnt_s]
          rfl
        rw [this]
        omega
      rw [ecnt, ← a1, zl3]
      generalize loop3 (lb_L_law_451 g R9 (nI M) v6 (nI n)) F' = R8
      -- behind the way
      have k550 : ∀ (z x : Int32), b_L_law_550 g R9 R8 X (nI M) v6 (nI n) z (nI (j + 1)) x (nI (j + 1)) = R8 (pX X 178 (upd (X 178) (j + 1) x)) z (nI j) := fun z x => by
        unfold b_L_law_550
        rw [if_pos ok, dX_eq, dV_eq, cl, n_m1, n_sub1 (by omega), Nat.add_sub_cancel]
      have k509 : b_L_law_509 g R9 R8 X (nI M) v6 (nI n) (nI c) (nI (j + 1)) (bB (goL pl n (j + 1))) = R8 (pX X 178 (upd (X 178) (j + 1) (if goL pl n (j + 1) = true then 40 else X 178 (j + 1)))) (nI (c + if gkL Xb pl n (j + 1) = true then 1 else 0)) (nI j) := by
        unfold b_L_law_509 b_L_law_528
        have e176 : X 176 = Xb 176 := hX 176 (by omega)
        cases e : goL pl n (j + 1) with
        | false =>
          have : gkL Xb pl n (j + 1) = false := by unfold gkL; rw [e]; rfl
          rw [this, if_pos (show bB false = 0 from rfl), dV_eq, if_pos (show bB false = 0 from rfl), if_pos ok, k550, cl, Int32.add_zero, if_neg (show ¬ false = true by decide), if_neg (show ¬ false = true by decide)]
          rfl
        | true =>
          rw [if_neg (show ¬ bB true = 0 by decide), if_pos ok, cl, e176, if_pos (show true = true from rfl)]
          by_cases z : Xb 176 (j + 1) ≤ 0
          · have : gkL Xb pl n (j + 1) = false := by unfold gkL; rw [decide_eq_false (fun y => y z), Bool.and_false]
            rw [this, if_pos z, dV_eq, if_neg (show ¬ bB true = 0 by decide), k550, Int32.add_zero, if_neg (show ¬ false = true by decide)]
            rfl
          · have : gkL Xb pl n (j + 1) = true := by unfold gkL; rw [e, decide_eq_true z]; rfl
            rw [this, if_neg z, dV_eq, if_neg (show ¬ bB true = 0 by decide), k550, n_add1, if_pos (show true = true from rfl)]
      have k468 : ∀ s : Bool, (s || bel pl n 60 (pl (j + 1))) = goL pl n (j + 1) → b_L_law_468 g R9 R8 X (nI M) v6 (nI n) (nI c) (nI (j + 1)) (bB s) = R8 (pX X 178 (upd (X 178) (j + 1) (if goL pl n (j + 1) = true then 40 else X 178 (j + 1)))) (nI (c + if gkL Xb pl n (j + 1) = true then 1 else 0)) (nI j) := fun s hs => by
        unfold b_L_law_468 l_L_law_476
        rw [if_pos ok, dV_eq, cl, hX 177 (by omega), h5 (j + 1) hj]
        refine (t_way hM (fun n hn => by rw [hX 177 (by omega)]; exact h5 n hn) hl hn 60 1000 (pl (j + 1)) s (it_60 hp (fun k e => by have := hl (j + 1) k e; omega)) (by omega) (fun k e => hl (j + 1) k e)).trans ?_
        rw [hs]
        exact k509
      unfold lb_L_law_451
      rw [if_neg (show ¬ nI (j + 1) ≤ 0 from nI_nle (by omega) (by omega))]
      by_cases e : j + 1 = n
      · rw [if_neg (fun z => z (by rw [e]))]
        refine k468 true ?_
        unfold goL
        rw [decide_eq_true e]
      · rw [if_pos (show ¬ nI (j + 1) = nI n from fun z => e ((nI_eq (by omega) (by omega)).mp z))]
        refine k468 false ?_
        unfold goL
        rw [decide_eq_false e]
    · rw [a3 k, pX_self, u_at]
      by_cases e : k = j + 1
      · rw [if_neg (by omega), if_pos e, e]
        by_cases z : goL pl n (j + 1) = true
        · rw [if_pos z, if_pos ⟨by omega, Nat.le_refl _, z⟩]
        · rw [if_neg z, if_neg (fun y => z y.2.2)]
      · rw [if_neg e]
        by_cases z : 1 ≤ k ∧ k ≤ j ∧ goL pl n k = true
        · rw [if_pos z, if_pos ⟨z.1, by omega, z.2.2⟩]
        · rw [if_neg z, if_neg (fun y => z ⟨y.1, by omega, y.2.2⟩)]
theorem t_kinds {g : Int32 → Int32} {R9 : JX → Int32 → Int32 → Option Int32} {M n : Nat} {v6 v12 : Int32} (hM : M ≤ 24) : ∀ m i F X, i + m = M → m + 1 ≤ F → ∃ X', loop2 (lb_L_law_560 g R9 (nI M) v6 (nI n) v12) F X (nI i) = ((f_X10_remove X' (nI n)).bind fun z83 => thn X' z83 fun t82 X84 => (if ¬ t82 = v12 then b_L_law_611 g R9 X84 (nI M) v6 (0) else b_L_law_611 g R9 X84 (nI M) v6 (1))) ∧ (∀ q, q ≠ 176 → X' q = X q) ∧ ∀ k, X' 176 k = if i ≤ k ∧ k < M ∧ X 178 k = 40 then 0 else X 176 k := by
  intro m
  induction m with
  | zero =>
    intro i F X hi hF
    obtain ⟨F', rfl⟩ := Nat.exists_eq_add_of_le' hF
    have : i = M := by omega
    subst this
    refine ⟨X, ?_, fun _ _ => rfl, fun k => by rw [if_neg (by omega)]⟩
    rw [zl2]
    generalize loop2 _ F' = R8
    unfold lb_L_law_560
    rw [if_pos (Int32.le_refl _)]
  | succ m ih =>
    intro i F X hi hF
    obtain ⟨F', rfl⟩ := Nat.exists_eq_add_of_le' (show 1 ≤ F by omega)
    have ok := n_ok (show i < 32 by omega) (by decide)
    have cl := nI_clamp (show i < 2 ^ 31 by omega)
    have step : ∀ x, (x = if X 178 i = 40 then 0 else X 176 i) → ∃ X', b_L_law_588 g R9 (loop2 (lb_L_law_560 g R9 (nI M) v6 (nI n) v12) F') X (nI M) v6 (nI n) v12 (nI i) x (nI i) = ((f_X10_remove X' (nI n)).bind fun z83 => thn X' z83 fun t82 X84 => (if ¬ t82 = v12 then b_L_law_611 g R9 X84 (nI M) v6 (0) else b_L_law_611 g R9 X84 (nI M) v6 (1))) ∧ (∀ q, q ≠ 176 → X' q = X q) ∧ ∀ k, X' 176 k = if i ≤ k ∧ k < M ∧ X 178 k = 40 then 0 else X 176 k := fun x hx => by
      obtain ⟨X', a1, a2, a3⟩ := ih (i + 1) F' (pX X 176 (upd (X 176) i x)) (by omega) (by omega)
      refine ⟨X', ?_, fun q hq => (a2 q hq).trans (pX_ne _ _ hq), fun k => ?_⟩
      · rw [← a1]
        unfold b_L_law_588
        rw [if_pos ok, dX_eq, dV_eq, n_add1, cl]
      · rw [a3 k, pX_ne _ _ (show 178 ≠ 176 by omega), pX_self, u_at]
        by_cases e : k = i
        · rw [if_neg (by omega), if_pos e, hx, e]
          by_cases z : X 178 i = 40
          · rw [if_pos z, if_pos ⟨Nat.le_refl _, by omega, z⟩]
          · rw [if_neg z, if_neg (fun y => z y.2.2)]
        · rw [if_neg e]
          by_cases z : i + 1 ≤ k ∧ k < M ∧ X 178 k = 40
          · rw [if_pos z, if_pos ⟨by omega, z.2⟩]
          · rw [if_neg z, if_neg (fun y => z ⟨by omega, y.2⟩)]
    rw [zl2]
    have hs := step
    generalize loop2 (lb_L_law_560 g R9 (nI M) v6 (nI n) v12) F' = R8 at hs
    unfold lb_L_law_560
    rw [if_neg (show ¬ nI M ≤ nI i from nI_ge (by omega) (by omega)), if_pos ok, cl]
    by_cases z : X 178 i = 40
    · rw [if_neg (fun y => y z)]
      exact hs 0 (by rw [if_pos z])
    · rw [if_pos z, if_pos ok]
      exact hs _ (by rw [if_neg z])
theorem t_remove {g : Int32 → Int32} {R9 : JX → Int32 → Int32 → Option Int32} {M t n : Nat} {X : JX} (h : LW M t 60 X) (hR : Rc R9 t) (hn : n < M) (n3 : 3 < n) (hk : X 176 n ≠ 0) : l_L_law_451 g R9 (nI M) (nI t) (nI n) X 0 (nI (M - 1)) = some 1 := by
  obtain ⟨hB, hL, hT, hU⟩ := id h
  have hM := hB.2.2.2.1
  obtain ⟨l1, l2, l3, pl, l4, l5, l6⟩ := id hL
  have n0 : n ≠ 0 := by omega
  have n5 : X 5 n ≠ 0 := fun z => hk ((hL.gone hn).mpr z)
  obtain ⟨X1, a1, a2, a3⟩ := t_count (g := g) (R9 := R9) (v6 := nI t) hM.2 l4 l5 (fun n m e => (l6 n m e).2) hn (M - 1) 1000 X 0 (by omega) (by omega) (fun _ _ => rfl)
  rw [Nat.zero_add] at a1
  obtain ⟨X2, b1, b2, b3⟩ := t_kinds (g := g) (R9 := R9) (n := n) (v6 := nI t) (v12 := nI (cnt (gkL X pl n) (M - 1) 1)) hM.2 (M - 1) 1 1000 X1 (by omega) (by omega)
  have hlo2 : ∀ q, q < 176 → X2 q = X q := fun q hq => (b2 q (by omega)).trans (a2 q (by omega))
  have hB2 := hB.congr hlo2
  have m5 := hlo2 5 (by omega)
  obtain ⟨X', e1, hB', o0, o5, o2, oo⟩ := e_remove hB2 hn n0 (by rw [m5]; exact n5)
  have epr : prX X2 = prX X := prX_fr (hlo2 2 (by omega))
  obtain ⟨hF, hFM, hF5⟩ := hB.tree
  have hb : ∀ n, n < M → X 5 n ≠ 0 → X 177 n = X 2 n := fun k hk k5 => (l2 k hk k5).2
  -- what goes by the law goes by the class, where it is there
  have elv : ∀ k, k < M → X 5 k ≠ 0 → lvX X2 n k = goL pl n k := fun k hk k5 => by
    unfold lvX goL
    rw [m5, epr, decide_eq_true k5, Bool.true_and]
    congr 1
    have e := fun u hu => it_law hF (fun n m e => (hFM n m e).2) hb l5 (by omega) (fun n m e => (l6 n m e).2) (n) u hu
    have epk : prX X k = pl k := by
      unfold prX
      rw [if_pos (by omega), ← hb k hk k5, l5 k hk]
      cases ep : pl k with
      | none => exact dec_m1
      | some m => exact dec_nI (by have := (l6 k m ep).2; omega)
    rw [Bool.eq_iff_iff, belo_On hF.1, bel_On l4 (fun m em => by have := (l6 k m em).2; omega), ← epk]
    cases ep : prX X k with
    | none => exact ⟨fun z => absurd z On.none, fun z => absurd z On.none⟩
    | some m =>
      obtain ⟨-, -, -, m', em', m6, mm5, -⟩ := hF.2.2.1 k (by rw [ep]; exact fun z => by cases z)
      rw [ep] at em'
      cases em'
      exact On_law hB hb l5 (fun n m e => (l6 n m e).2) (hFM k m ep).2 mm5
  have elv0 : ∀ k, X 5 k = 0 → lvX X2 n k = false := fun k k5 => by
    unfold lvX
    rw [m5, decide_eq_false (fun z => z k5)]
    rfl
  have g0 : goL pl n 0 = false := by
    unfold goL
    have p0 : pl 0 = none := by
      have h1 := (l2 0 (by omega) hB.top.1).2
      rw [l5 0 (by omega), hF.2.1 0 (by omega), hF.top] at h1
      cases ep : pl 0 with
      | none => rfl
      | some m => rw [ep] at h1; exact absurd h1 (nm1 (by have := (l6 0 m ep).2; omega))
    rw [p0, bel_n, decide_eq_false (show ¬ 0 = n from fun z => n0 z.symm)]
    rfl
  have hcnt : cnt (lvX X2 n) 60 0 = cnt (gkL X pl n) (M - 1) 1 := by
    rw [cnt_60 (M := M) (by omega) (fun k k1 k2 => elv0 k (by
      by_cases z : X 5 k = 0
      · exact z
      · exact absurd (hF5 k k2 z) (by omega)))]
    have e9 : cnt (lvX X2 n) M 0 = cnt (lvX X2 n) 1 0 + cnt (lvX X2 n) (M - 1) (0 + 1) := by
      rw [← cnt_add 1 (M - 1) 0, show 1 + (M - 1) = M by omega]
    have e0 : cnt (lvX X2 n) 1 0 = 0 := cnt_0 1 0 (fun j _ hj => by
      have : j = 0 := by omega
      rw [this, elv 0 (by omega) hB.top.1]
      exact g0)
    rw [e9, e0, Nat.zero_add]
    refine cnt_congr (M - 1) 1 (fun k k1 k2 => ?_)
    unfold gkL
    rcases l1 k (by omega) with ⟨z1, z2, -⟩ | ⟨z1, z2, -⟩ | ⟨z1, z2, -⟩
    · rw [elv0 k z2, z1, decide_eq_false (fun y => y (Int32.le_refl _)), Bool.and_false]
    · rw [elv k (by omega) z2, z1, decide_eq_true (show ¬ (1 : Int32) ≤ 0 by decide), Bool.and_true]
    · rw [elv k (by omega) z2, z1, decide_eq_true (show ¬ (2 : Int32) ≤ 0 by decide), Bool.and_true]
  have e179 : X2 179 = X 179 := (b2 179 (by omega)).trans (a2 179 (by omega))
  have hU2 : BU (60 * (60 - (t + 1)) + 59 + 1) X2 := hU.fr (by rw [e179])
  unfold l_L_law_451
  refine (show loop3 (lb_L_law_451 g R9 (nI M) (nI t) (nI n)) 1000 X (nI 0) (nI (M - 1)) = _ from a1).trans ?_
  unfold l_L_law_560
  refine (show loop2 (lb_L_law_560 g R9 (nI M) (nI t) (nI n) (nI (cnt (gkL X pl n) (M - 1) 1))) 1000 X1 (nI 1) = _ from b1).trans ?_
  rw [e1, bd_some, thn_go hU2, hcnt, if_neg (fun z => z rfl)]
  unfold b_L_law_611
  have c178 : X2 178 = X1 178 := b2 178 (by omega)
  refine tail (M := M) ⟨hB'.mrg, ?_, (hT.le (by omega)).fr (by rw [mrg_lo (by omega), o0, hlo2 0 (by omega)]), ((BU.go (b := 60 * (60 - (t + 1)) + 59) hU2).2).le (by omega)⟩ (fun X' h' => hR M X' h')
  unfold LR
  rw [mrg_hi3 (q := 176) (by omega), mrg_hi3 (q := 177) (by omega), mrg_hi3 (q := 178) (by omega), mrg_lo (q := 2) (by omega), mrg_lo (q := 3) (by omega), mrg_lo (q := 4) (by omega), mrg_lo (q := 5) (by omega), mrg_lo (q := 8) (by omega), mrg_lo (q := 9) (by omega), oo 3 (by omega) (by omega) (by omega), oo 4 (by omega) (by omega) (by omega), oo 8 (by omega) (by omega) (by omega), oo 9 (by omega) (by omega) (by omega), hlo2 3 (by omega), hlo2 4 (by omega), hlo2 8 (by omega), hlo2 9 (by omega), c178, (b2 177 (by omega)).trans (a2 177 (by omega))]
  have v178 : ∀ k, k < M → X1 178 k = if goL pl n k = true then 40 else X 178 k := fun k hk => by
    rw [a3 k]
    by_cases z : goL pl n k = true
    · have k0 : k ≠ 0 := fun y => by rw [y, g0] at z; cases z
      rw [if_pos ⟨by omega, by omega, z⟩, if_pos z]
    · rw [if_neg (fun y => z y.2.2), if_neg z]
  have v176 : ∀ k, k < M → X2 176 k = if 1 ≤ k ∧ X1 178 k = 40 then 0 else X 176 k := fun k hk => by
    rw [b3 k, a2 176 (by omega)]
    by_cases z : 1 ≤ k ∧ X1 178 k = 40
    · rw [if_pos ⟨z.1, hk, z.2⟩, if_pos z]
    · rw [if_neg (fun y => z ⟨y.1, y.2.2⟩), if_neg z]
  have nl : ∀ l, l ≤ 20 → ¬ nI l = 40 := fun l hl z => by
    have := (nI_eq (a := l) (b := 40) (by omega) (by decide)).mp z
    omega
  have there : ∀ k, k < M → X' 5 k ≠ 0 → X 5 k ≠ 0 ∧ goL pl n k = false := fun k hk k5 => by
    rw [o5 k (by omega), m5] at k5
    by_cases z : lvX X2 n k = true
    · rw [if_pos z] at k5; exact absurd rfl k5
    · rw [if_neg z] at k5
      refine ⟨k5, ?_⟩
      rw [elv k hk k5] at z
      exact Bool.eq_false_iff.mpr z
  refine ⟨fun k hk => ?_, fun k hk k5 => ?_, fun k hk hk6 => ?_, pl, l4, l5, l6⟩
  · by_cases gk : goL pl n k = true
    · have k0 : k ≠ 0 := fun y => by rw [y, g0] at gk; cases gk
      have e40 : X1 178 k = 40 := by rw [v178 k hk, if_pos gk]
      refine Or.inl ⟨by rw [v176 k hk, if_pos ⟨by omega, e40⟩], ?_, e40⟩
      by_cases z : X' 5 k = 0
      · exact z
      · have := (there k hk z).2
        rw [gk] at this
        cases this
    · have e78 : X1 178 k = X 178 k := by rw [v178 k hk, if_neg gk]
      rcases l1 k hk with ⟨z1, z2, z3⟩ | ⟨z1, z2, z4, z3⟩ | ⟨z1, z2, z4, l, hl, z3, z5, z6⟩
      · refine Or.inl ⟨?_, ?_, by rw [e78]; exact z3⟩
        · rw [v176 k hk]
          split
          · rfl
          · exact z1
        · rw [o5 k (by omega), m5, z2]
          split <;> rfl
      · refine Or.inr (Or.inl ⟨?_, ?_, z4, by rw [e78]; exact z3⟩)
        · rw [v176 k hk, e78, z3, if_neg (fun y => absurd y.2 (by decide))]
          exact z1
        · rw [o5 k (by omega), m5, elv k hk z2, if_neg gk]
          exact z2
      · refine Or.inr (Or.inr ⟨?_, ?_, z4, l, hl, by rw [e78]; exact z3, z5, z6⟩)
        · rw [v176 k hk, e78, z3, if_neg (fun y => nl l hl y.2)]
          exact z1
        · rw [o5 k (by omega), m5, elv k hk z2, if_neg gk]
          exact z2
  · obtain ⟨k5', -⟩ := there k hk k5
    rw [o2 k (by omega), if_neg k5, hlo2 2 (by omega)]
    exact l2 k hk k5'
  · have : X1 178 k = X 178 k := by rw [a3 k, if_neg (by omega)]
    rw [this]
    exact l3 k hk hk6

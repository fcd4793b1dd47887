/-! ===== p32: a turn: move ===== -/
theorem bel_s (pr : Nat → Option Nat) (f m u : Nat) : bel pr f (m + 1) (some u) = (u == f || bel pr f m (pr u)) := rfl
theorem bel_n (pr : Nat → Option Nat) (f : Nat) : ∀ m, bel pr f m none = false
  | 0 => rfl
  | _ + 1 => rfl
/-- for what is there, the law's ways are the class's -/
theorem it_law {M : Nat} {X : JX} {pl : Nat → Option Nat} (hF : TF (prX X) X) (hM : ∀ n m, prX X n = some m → m < M) (hb : ∀ n, n < M → X 5 n ≠ 0 → X 177 n = X 2 n) (h5 : ∀ n, n < M → X 177 n = enc (pl n)) (hM6 : M ≤ 60) (hl : ∀ n m, pl n = some m → m < M) : ∀ j u, (∀ n, u = some n → n < M ∧ X 5 n ≠ 0) → it (prX X) j u = it pl j u := by
  intro j
  induction j with
  | zero => intro u _; rfl
  | succ j ih =>
    intro u hu
    cases u with
    | none => rw [it_none, it_none]
    | some n =>
      obtain ⟨nM, n5⟩ := hu n rfl
      have e : prX X n = pl n := by
        unfold prX
        rw [if_pos (by omega), ← hb n nM n5, h5 n nM]
        cases ep : pl n with
        | none => exact dec_m1
        | some m => exact dec_nI (by have := hl n m ep; omega)
      show it (prX X) j (prX X n) = it pl j (pl n)
      rw [← e]
      refine ih (prX X n) (fun m em => ?_)
      obtain ⟨-, -, -, m', em', -, m5, -⟩ := hF.2.2.1 n (by rw [em]; exact fun z => by cases z)
      rw [em] at em'
      cases em'
      exact ⟨hM n m em, m5⟩
theorem LB.tree {M : Nat} {X : JX} (h : LB M X) : TF (prX X) X ∧ (∀ n m, prX X n = some m → n < M ∧ m < M) ∧ ∀ n, n < 60 → X 5 n ≠ 0 → n < M := by
  obtain ⟨⟨Y, hY⟩, hC, h9, ⟨hM1, hM⟩, -⟩ := h
  obtain ⟨A, P, S, ⟨t1, t2, t3⟩, -⟩ := hY.one hC.1.1 h9 (by omega)
  have hF := TF.of t1 t2
  rw [prX_eq t1 t2] at hF
  have h5 : ∀ n, n < 60 → X 5 n ≠ 0 → n < M := fun n hn z => t1.2.2.1 n hn (by rw [← (t2.2 n hn).2.2.2.1]; exact z)
  refine ⟨hF, fun n m e => ?_, h5⟩
  obtain ⟨n6, -, n5, m', em', m6, m5, -⟩ := hF.2.2.1 n (by rw [e]; exact fun z => by cases z)
  rw [e] at em'
  cases em'
  exact ⟨h5 n n6 n5, h5 m m6 m5⟩
theorem On_law {M n f : Nat} {X : JX} {pl : Nat → Option Nat} (hB : LB M X) (hb : ∀ n, n < M → X 5 n ≠ 0 → X 177 n = X 2 n) (h5 : ∀ n, n < M → X 177 n = enc (pl n)) (hl : ∀ n m, pl n = some m → m < M) (hf : f < M) (f5 : X 5 f ≠ 0) : On (prX X) (some f) n ↔ On pl (some f) n := by
  obtain ⟨hF, hM, -⟩ := hB.tree
  have hM6 := hB.2.2.2.1.2
  have e := fun j => it_law hF (fun n m e => (hM n m e).2) hb h5 (by omega) hl j (some f) (fun n en => by cases en; exact ⟨hf, f5⟩)
  constructor
  · rintro ⟨j, ej⟩; exact ⟨j, by rw [← e j]; exact ej⟩
  · rintro ⟨j, ej⟩; exact ⟨j, by rw [e j]; exact ej⟩
theorem t_inside {g : Int32 → Int32} {R9 : JX → Int32 → Int32 → Option Int32} {M n : Nat} {X : JX} {v6 v11 v12 : Int32} {pl : Nat → Option Nat} (hM : M ≤ 24) (h5 : ∀ n, n < M → X 177 n = enc (pl n)) (hl : ∀ n m, pl n = some m → m < M) (hn : n < M) : ∀ K F u (s : Bool), it pl K u = none → K + 1 ≤ F → (∀ k, u = some k → k < M) → loop2 (lb_L_law_347 g R9 X (nI M) v6 (nI n) v11 v12) F (bB s) (enc u) = if (s || bel pl n K u) = true then b_L_law_1132 g R9 X (nI M) v6 v11 else (f_X10_move X (nI n) v12 (c16 ((97) + nI n))).bind fun z87 => thn X z87 fun t86 X88 => (if okI (nI n) 32 = true then (if ¬ t86 = (X88 177 (nI n).toNatClampNeg) then b_L_law_411 g R9 X88 (nI M) v6 (nI n) v12 (0) else b_L_law_411 g R9 X88 (nI M) v6 (nI n) v12 (1)) else none) := by
  intro K
  induction K with
  | zero =>
    intro F u s h hF hu
    have h : u = none := h
    subst h
    obtain ⟨F', rfl⟩ := Nat.exists_eq_add_of_le' hF
    rw [zl2]
    generalize loop2 _ F' = R8
    unfold lb_L_law_347
    rw [if_pos (show enc none < 0 by decide), bel_n, Bool.or_false]
    cases s with
    | false => rw [if_neg (show ¬ ¬ bB false = 0 by decide), if_neg (fun z => by cases z)]
    | true => rw [if_pos (show ¬ bB true = 0 by decide), if_pos rfl]
  | succ K ih =>
    intro F u s h hF hu
    obtain ⟨F', rfl⟩ := Nat.exists_eq_add_of_le' (show 1 ≤ F by omega)
    cases u with
    | none =>
      rw [zl2]
      generalize loop2 _ F' = R8
      unfold lb_L_law_347
      rw [if_pos (show enc none < 0 by decide), bel_n, Bool.or_false]
      cases s with
      | false => rw [if_neg (show ¬ ¬ bB false = 0 by decide), if_neg (fun z => by cases z)]
      | true => rw [if_pos (show ¬ bB true = 0 by decide), if_pos rfl]
    | some k =>
      have hk := hu k rfl
      rw [zl2]
      have h9 := fun s => ih F' (pl k) s h (by omega) (fun m em => hl k m em)
      generalize loop2 _ F' = R8 at h9
      have k369 : ∀ b : Bool, b_L_law_369 g R9 R8 X (nI M) v6 (nI n) v11 v12 (nI k) (bB b) = R8 (bB b) (enc (pl k)) := fun b => by
        unfold b_L_law_369
        rw [if_pos (n_ok (show k < 32 by omega) (by decide)), dV_eq, nI_clamp (by omega), h5 k hk]
      have k1 : b_L_law_369 g R9 R8 X (nI M) v6 (nI n) v11 v12 (nI k) 1 = R8 (bB true) (enc (pl k)) := k369 true
      have k0 : b_L_law_369 g R9 R8 X (nI M) v6 (nI n) v11 v12 (nI k) 0 = R8 (bB false) (enc (pl k)) := k369 false
      unfold lb_L_law_347
      rw [show enc (some k) = nI k from rfl, if_neg (nI_pos (show k < 2 ^ 31 by omega))]
      rw [bel_s]
      cases s with
      | true =>
        rw [if_pos (show ¬ bB true = 0 by decide), k1, h9 true, Bool.true_or, Bool.true_or]
      | false =>
        rw [if_neg (show ¬ ¬ bB false = 0 by decide)]
        by_cases e : k = n
        · rw [if_neg (fun z => z (by rw [e])), k1, h9 true, Bool.true_or]
          have : (k == n) = true := by rw [e]; exact beq_self_eq_true n
          rw [this, Bool.true_or, Bool.false_or]
        · rw [if_pos (show ¬ nI k = nI n from fun z => e ((nI_eq (by omega) (by omega)).mp z)), k0, h9 false]
          have : (k == n) = false := beq_eq_false_iff_ne.mpr e
          rw [this, Bool.false_or, Bool.false_or]
theorem t_move {g : Int32 → Int32} {R9 : JX → Int32 → Int32 → Option Int32} {M t n f : Nat} {X : JX} {s : Bool} (h : LW M t 60 X) (hR : Rc R9 t) (hn : n < M) (hf : f < M) (hs : s = false → f ≠ n ∧ n ≠ 0 ∧ X 176 f = 1 ∧ X 176 n ≠ 0) : b_L_law_341 g R9 X (nI M) (nI t) (nI n) 1 (nI f) (bB s) = some 1 := by
  obtain ⟨hB, hL, hT, hU⟩ := id h
  have hM := hB.2.2.2.1
  obtain ⟨l1, l2, l3, pl, l4, l5, l6⟩ := id hL
  have hin := t_inside (g := g) (R9 := R9) (v6 := nI t) (v11 := 1) (v12 := nI f) hM.2 l5 (fun n m e => (l6 n m e).2) hn 60 1000 (some f) s (it_60 l4 (fun k e => by cases e; omega)) (by omega) (fun k e => by cases e; exact hf)
  unfold b_L_law_341 l_L_law_347
  refine hin.trans ?_
  by_cases c : (s || bel pl n 60 (some f)) = true
  · rw [if_pos c]
    exact h.ends (by omega) hR
  · rw [if_neg c]
    rw [Bool.or_eq_true] at c
    have s0 : s = false := by
      cases s with
      | false => rfl
      | true => exact absurd (Or.inl rfl) c
    obtain ⟨hfn, n0, hf1, hn1⟩ := hs s0
    obtain ⟨f5, f4⟩ := hL.fold hf hf1
    have n5 : X 5 n ≠ 0 := fun z => hn1 ((hL.gone hn).mpr z)
    have hon : ¬ On pl (some f) n := fun z => c (Or.inr ((bel_On l4 (fun k e => by cases e; omega) n).mpr z))
    have hb : ∀ n, n < M → X 5 n ≠ 0 → X 177 n = X 2 n := fun k hk k5 => (l2 k hk k5).2
    obtain ⟨X', e1, hB', o0, o2, o3, oo⟩ := e_move hB hn n0 n5 hf hfn f5 f4 (fun z => hon ((On_law hB hb l5 (fun n m e => (l6 n m e).2) hf f5).mp z)) (fun k hk kn k5 k2 e => by
      rcases Nat.eq_zero_or_pos k with k0 | k0
      · have hF := hB.tree.1
        rw [k0] at k2
        have := (hF.kid (by omega) (by omega)).mp k2
        rw [hF.top] at this
        cases this
      · rw [(l2 k hk k5).1 k0] at e
        have := (nI_eq (a := 97 + k) (b := 97 + n) (by omega) (by omega)).mp e
        omega)
    rw [e1, bd_some, h.thn, if_pos (n_ok (show n < 32 by omega) (by decide)), nI_clamp (by omega), mrg_hi3 (by omega), hb n hn n5, if_neg (fun z => z rfl)]
    unfold b_L_law_411
    rw [if_pos (n_ok (show n < 32 by omega) (by decide)), dX_eq, nI_clamp (by omega)]
    have hlo : ∀ q, q < 176 → (pX (mrg X X' 1) 177 (upd ((mrg X X' 1) 177) n (nI f))) q = X' q := fun q hq => (pX_ne _ _ (by omega)).trans (mrg_lo hq)
    have h176 : (pX (mrg X X' 1) 177 (upd ((mrg X X' 1) 177) n (nI f))) 176 = X 176 := (pX_ne _ _ (by omega)).trans (mrg_hi3 (by omega))
    have h177 : (pX (mrg X X' 1) 177 (upd ((mrg X X' 1) 177) n (nI f))) 177 = upd (X 177) n (nI f) := (pX_self _ _ _).trans (by rw [mrg_hi3 (by omega)])
    have h178 : (pX (mrg X X' 1) 177 (upd ((mrg X X' 1) 177) n (nI f))) 178 = X 178 := (pX_ne _ _ (by omega)).trans (mrg_hi3 (by omega))
    have h179 : (pX (mrg X X' 1) 177 (upd ((mrg X X' 1) 177) n (nI f))) 179 = (mrg X X' 1) 179 := pX_ne _ _ (by omega)
    generalize (pX (mrg X X' 1) 177 (upd ((mrg X X' 1) 177) n (nI f))) = Z at hlo h176 h177 h178 h179 ⊢
    have hU' : BU (60 * (60 - (t + 1)) + 59) (mrg X X' 1) := (BU.go (b := 60 * (60 - (t + 1)) + 59) hU).2
    refine tail (M := M) ⟨hB'.congr hlo, ?_, (hT.le (by omega)).fr (by rw [hlo 0 (by omega), o0]), (hU'.fr (by rw [h179])).le (by omega)⟩ (fun X' h' => hR M X' h')
    unfold LR
    rw [h176, h177, h178, (hlo 2 (by omega)).trans o2, (hlo 3 (by omega)).trans o3, (hlo 4 (by omega)).trans (oo 4 (by omega) (by omega) (by omega)), (hlo 5 (by omega)).trans (oo 5 (by omega) (by omega) (by omega)), (hlo 8 (by omega)).trans (oo 8 (by omega) (by omega) (by omega)), (hlo 9 (by omega)).trans (oo 9 (by omega) (by omega) (by omega))]
    refine ⟨l1, fun k hk k5 => ?_, l3, setP pl n (some f), setP_Tr l4 (by omega) (fun m em => by cases em; omega) hon, fun k hk => ?_, fun k m e => ?_⟩
    · rw [u_at, u_at, u_at]
      by_cases z : k = n
      · rw [if_pos z, if_pos z, if_pos z, z]
        exact ⟨fun _ => rfl, rfl⟩
      · rw [if_neg z, if_neg z, if_neg z]
        exact l2 k hk k5
    · rw [u_at]
      unfold setP
      by_cases z : k = n
      · rw [if_pos z, if_pos z]; rfl
      · rw [if_neg z, if_neg z]; exact l5 k hk
    · unfold setP at e
      by_cases z : k = n
      · rw [if_pos z] at e; cases e; omega
      · rw [if_neg z] at e; exact l6 k m e

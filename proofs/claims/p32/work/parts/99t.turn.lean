/-! ===== p32: a turn: make, write ===== -/
def LW (M t b : Nat) (X : JX) : Prop := LB M X ∧ LR M X ∧ LT t X ∧ BU (60 * (60 - (t + 1)) + b) X
def Rc (R9 : JX → Int32 → Int32 → Option Int32) (t : Nat) : Prop := ∀ M X', LI M (t + 1) X' → R9 X' (nI M) (nI (t + 1)) = some 1
theorem LI.lw {M t : Nat} {X : JX} (h : LI M t X) (ht : t < 60) : LW M t 60 X := ⟨h.1, h.2.1, h.2.2.1, h.2.2.2.le (by omega)⟩
theorem LW.le {M t a b : Nat} {X : JX} (h : LW M t b X) (hab : a ≤ b) : LW M t a X := ⟨h.1, h.2.1, h.2.2.1, h.2.2.2.le (by omega)⟩
theorem LW.lm {M t b : Nat} {X : JX} (h : LW M t b X) (hb : 1 ≤ b) : LM M t X := ⟨h.1, h.2.1, h.2.2.1.le (by omega), h.2.2.2.le (by omega)⟩
theorem LW.ends {g : Int32 → Int32} {R9 : JX → Int32 → Int32 → Option Int32} {M t b : Nat} {X : JX} (h : LW M t b X) (hb : 1 ≤ b) (hR : Rc R9 t) : b_L_law_1132 g R9 X (nI M) (nI t) 1 = some 1 := tail (h.lm hb) (fun X' h' => hR M X' h')
theorem LW.go {M t b : Nat} {X X' : JX} (h : LW M t (b + 1) X) (hB : LB M X') (f : ∀ q, q = 2 ∨ q = 3 ∨ q = 4 ∨ q = 5 ∨ q = 8 ∨ q = 9 → X' q = X q) (h0 : X' 0 6 = X 0 6) : LW M t b (mrg X X' 1) := by
  refine ⟨hB.mrg, h.2.1.same (fun q hq => ?_), h.2.2.1.fr (by rw [mrg_lo (by omega)]; exact h0), (BU.go (b := 60 * (60 - (t + 1)) + b) h.2.2.2).2⟩
  by_cases c : q < 176
  · rw [mrg_lo c]; exact f q (by omega)
  · rw [mrg_hi3 (by omega)]
theorem LW.thn {β : Type} {M t b : Nat} {X X' : JX} {v : Int32} {G : Int32 → JX → Option β} (h : LW M t (b + 1) X) : thn X (none, v, X') G = G v (mrg X X' 1) := thn_go (b := 60 * (60 - (t + 1)) + b) h.2.2.2
theorem nI_2 : (2 : Int32) = nI 2 := rfl
theorem LR.kind {M n : Nat} {X : JX} (h : LR M X) (hn : n < M) : X 176 n = 0 ∨ X 176 n = 1 ∨ X 176 n = 2 := by
  rcases h.1 n hn with ⟨z, -⟩ | ⟨z, -⟩ | ⟨z, -⟩
  · exact Or.inl z
  · exact Or.inr (Or.inl z)
  · exact Or.inr (Or.inr z)
theorem LR.fold {M n : Nat} {X : JX} (h : LR M X) (hn : n < M) (h1 : X 176 n = 1) : X 5 n ≠ 0 ∧ X 4 n ≠ 0 := by
  rcases h.1 n hn with ⟨z, -⟩ | ⟨-, z1, z2, -⟩ | ⟨z, -⟩
  · rw [z] at h1; exact absurd h1.symm one0
  · exact ⟨z1, z2⟩
  · rw [z] at h1; exact absurd h1 (by decide)
theorem LR.file {M n : Nat} {X : JX} (h : LR M X) (hn : n < M) (h1 : X 176 n = 2) : X 5 n ≠ 0 ∧ X 4 n = 0 ∧ ∃ l, l ≤ 20 ∧ X 178 n = nI l ∧ X 9 n = nI l ∧ X 8 n = nI (1 + l) := by
  rcases h.1 n hn with ⟨z, -⟩ | ⟨z, -⟩ | ⟨-, z⟩
  · rw [z] at h1; exact absurd h1 (by decide)
  · rw [z] at h1; exact absurd h1 (by decide)
  · exact z
theorem LR.gone {M n : Nat} {X : JX} (h : LR M X) (hn : n < M) : X 176 n = 0 ↔ X 5 n = 0 := by
  rcases h.1 n hn with ⟨z, z1, -⟩ | ⟨z, z1, -⟩ | ⟨z, z1, -⟩
  · exact ⟨fun _ => z1, fun _ => z⟩
  · exact ⟨fun y => absurd (z.symm.trans y) one0, fun y => absurd y z1⟩
  · exact ⟨fun y => absurd (z.symm.trans y) (by decide), fun y => absurd y z1⟩
theorem LB.top {M : Nat} {X : JX} (h : LB M X) : X 5 0 ≠ 0 ∧ X 4 0 ≠ 0 := by
  obtain ⟨⟨Y, hY⟩, hC, h9, ⟨hM1, hM⟩, -⟩ := h
  obtain ⟨A, P, S, ⟨t1, t2, t3⟩, -⟩ := hY.one hC.1.1 h9 (by omega)
  obtain ⟨-, -, c4, c5, -⟩ := t2.2 0 (by omega)
  exact ⟨by rw [c5]; exact t1.2.1.1, by rw [c4]; exact t1.2.1.2.1⟩
theorem LR.top {M : Nat} {X : JX} (h : LR M X) (hB : LB M X) : X 176 0 = 1 := by
  have h0 : 0 < M := hB.2.2.2.1.1
  obtain ⟨a, b⟩ := hB.top
  rcases h.1 0 h0 with ⟨-, z, -⟩ | ⟨z, -⟩ | ⟨-, -, z, -⟩
  · exact absurd z a
  · exact z
  · exact absurd z b
theorem t_make {g : Int32 → Int32} {R9 : JX → Int32 → Int32 → Option Int32} {M t f : Nat} {X : JX} {x : Int32} (h : LW M t 60 X) (hR : Rc R9 t) (hM24 : M < 24) (hf : f < M) (hf1 : X 176 f = 1) (hx : x = 1 ∨ x = 2) : b_L_law_145 g R9 X (nI M) (nI t) (nI f) x = some 1 := by
  obtain ⟨hB, hL, hT, hU⟩ := id h
  obtain ⟨f5, f4⟩ := hL.fold hf hf1
  have hnm : ∀ n, n < M → X 5 n ≠ 0 → X 2 n = nI f → X 3 n ≠ nI (97 + M) := fun n hn n5 n2 e => by
    rcases Nat.eq_zero_or_pos n with n0 | n0
    · obtain ⟨⟨Y, hY⟩, hC, h9, -⟩ := hB
      obtain ⟨A, P, S, ⟨t1, t2, t3⟩, -⟩ := hY.one hC.1.1 h9 (by omega)
      have hTF := TF.of t1 t2
      rw [n0] at n2
      have := (hTF.kid (by omega) (by omega)).mp n2
      rw [hTF.top] at this
      cases this
    · rw [(hL.2.1 n hn n5).1 n0] at e
      have := (nI_eq (a := 97 + n) (b := 97 + M) (by omega) (by omega)).mp e
      omega
  have key : ∀ (b its : Int32), (its = 1 ∧ bZ b = 1 ∨ its = 2 ∧ bZ b = 0) → b_L_law_167 g R9 X (nI M) (nI t) (nI f) its (bZ b) (c16 (97 + nI M)) (nI f) = some 1 := fun b its hits => by
    obtain ⟨X', e1, hB', o0, o2, o3, o4, o5, o8, o9⟩ := e_make (x := b) hB hM24 hf f5 f4 hnm
    unfold b_L_law_167
    rw [e1, bd_some, h.thn, if_neg (fun z => z rfl)]
    unfold b_L_law_180
    rw [if_pos (n_ok (show M < 32 by omega) (by decide)), dX_eq, if_pos (n_ok (show M < 32 by omega) (by decide)), dX_eq, dV_eq, n_add1, nI_clamp (by omega)]
    have hlo : ∀ q, q < 176 → (pX (pX (mrg X X' 1) 176 (upd ((mrg X X' 1) 176) M its)) 177 (upd ((pX (mrg X X' 1) 176 (upd ((mrg X X' 1) 176) M its)) 177) M (nI f))) q = X' q := fun q hq => (pX_ne _ _ (by omega)).trans ((pX_ne _ _ (by omega)).trans (mrg_lo hq))
    have h176 : (pX (pX (mrg X X' 1) 176 (upd ((mrg X X' 1) 176) M its)) 177 (upd ((pX (mrg X X' 1) 176 (upd ((mrg X X' 1) 176) M its)) 177) M (nI f))) 176 = upd (X 176) M its := (pX_ne _ _ (by omega)).trans ((pX_self _ _ _).trans (by rw [mrg_hi3 (by omega)]))
    have h177 : (pX (pX (mrg X X' 1) 176 (upd ((mrg X X' 1) 176) M its)) 177 (upd ((pX (mrg X X' 1) 176 (upd ((mrg X X' 1) 176) M its)) 177) M (nI f))) 177 = upd (X 177) M (nI f) := (pX_self _ _ _).trans (by rw [pX_ne _ _ (by omega), mrg_hi3 (by omega)])
    have h178 : (pX (pX (mrg X X' 1) 176 (upd ((mrg X X' 1) 176) M its)) 177 (upd ((pX (mrg X X' 1) 176 (upd ((mrg X X' 1) 176) M its)) 177) M (nI f))) 178 = X 178 := (pX_ne _ _ (by omega)).trans ((pX_ne _ _ (by omega)).trans (mrg_hi3 (by omega)))
    have h179 : (pX (pX (mrg X X' 1) 176 (upd ((mrg X X' 1) 176) M its)) 177 (upd ((pX (mrg X X' 1) 176 (upd ((mrg X X' 1) 176) M its)) 177) M (nI f))) 179 = (mrg X X' 1) 179 := (pX_ne _ _ (by omega)).trans (pX_ne _ _ (by omega))
    generalize (pX (pX (mrg X X' 1) 176 (upd ((mrg X X' 1) 176) M its)) 177 (upd ((pX (mrg X X' 1) 176 (upd ((mrg X X' 1) 176) M its)) 177) M (nI f))) = Z at hlo h176 h177 h178 h179 ⊢
    have hU' : BU (60 * (60 - (t + 1)) + 59) (mrg X X' 1) := (BU.go (b := 60 * (60 - (t + 1)) + 59) hU).2
    refine tail (M := M + 1) ⟨hB'.congr hlo, ?_, (hT.le (by omega)).fr (by rw [hlo 0 (by omega), o0]), (hU'.fr (by rw [h179])).le (by omega)⟩ (fun X' h' => hR (M + 1) X' h')
    obtain ⟨l1, l2, l3, pl, l4, l5, l6⟩ := hL
    have z2 := (hlo 2 (by omega)).trans o2
    have z3 := (hlo 3 (by omega)).trans o3
    have z4 := (hlo 4 (by omega)).trans o4
    have z5 := (hlo 5 (by omega)).trans o5
    have z8 := (hlo 8 (by omega)).trans o8
    have z9 := (hlo 9 (by omega)).trans o9
    unfold LR
    rw [h176, h177, h178, z2, z3, z4, z5, z8, z9]
    obtain ⟨m9, m178⟩ := l3 M (Nat.le_refl _) (by omega)
    have m178 := m178 (by omega)
    refine ⟨fun n hn => ?_, fun n hn n5 => ?_, fun n hn hn6 => l3 n (by omega) hn6, setP pl M (some f), ?_, fun n hn => ?_, fun n m e => ?_⟩
    · rw [u_at, u_at, u_at, u_at]
      by_cases c : n = M
      · rw [if_pos c, if_pos c, if_pos c, if_pos c, c]
        rcases hits with ⟨i1, i2⟩ | ⟨i1, i2⟩
        · exact Or.inr (Or.inl ⟨i1, one0, by rw [i2]; exact one0, m178⟩)
        · exact Or.inr (Or.inr ⟨i1, one0, i2, 0, by omega, m178, m9, by rw [if_pos i2]; rfl⟩)
      · rw [if_neg c, if_neg c, if_neg c, if_neg c]
        exact l1 n (by omega)
    · rw [u_at] at n5
      rw [u_at, u_at, u_at]
      by_cases c : n = M
      · rw [if_pos c, if_pos c, if_pos c, c]
        exact ⟨fun _ => rfl, rfl⟩
      · rw [if_neg c] at n5
        rw [if_neg c, if_neg c, if_neg c]
        exact l2 n (by omega) n5
    · refine setP_Tr l4 (by omega) (fun m em => by cases em; omega) ?_
      rintro ⟨j, ej⟩
      have : ∀ j u a, (∀ n, u = some n → n < M) → it pl j u = some a → a < M := fun j => by
        induction j with
        | zero => intro u a hu e; exact hu a e
        | succ j ih =>
          intro u a hu e
          cases u with
          | none => rw [it_none] at e; cases e
          | some n => exact ih (pl n) a (fun m em => (l6 n m em).2) e
      have := this j (some f) M (fun n en => by cases en; exact hf) ej
      omega
    · rw [u_at]
      unfold setP
      by_cases c : n = M
      · rw [if_pos c, if_pos c]; rfl
      · rw [if_neg c, if_neg c]; exact l5 n (by omega)
    · unfold setP at e
      by_cases c : n = M
      · rw [if_pos c] at e; cases e; omega
      · rw [if_neg c] at e
        have := l6 n m e
        omega
  unfold b_L_law_145
  rcases hx with rfl | rfl
  · rw [if_neg (fun z => z rfl)]
    exact key 1 1 (Or.inl ⟨rfl, rfl⟩)
  · rw [if_pos (show ¬ (2 : Int32) = 1 by decide)]
    exact key 0 2 (Or.inr ⟨rfl, rfl⟩)
theorem t_106 {g : Int32 → Int32} {R9 : JX → Int32 → Int32 → Option Int32} {M t n : Nat} {X : JX} {v8 : Int32} (h : LW M t 60 X) (hR : Rc R9 t) (hn : n < M) : b_L_law_106 g R9 X (nI M) (nI t) v8 (nI n) 1 = some 1 := by
  have hM := h.1.2.2.2.1
  have k120 : ∀ f, f < M → X 176 f = 1 → b_L_law_120 g R9 X (nI M) (nI t) v8 1 (nI f) = some 1 := fun f hf hf1 => by
    unfold b_L_law_120
    by_cases c : 24 ≤ M
    · rw [if_pos (show (24 : Int32) ≤ nI M from nI_le (a := 24) c (by omega))]
      exact h.ends (by omega) hR
    · rw [if_neg (show ¬ (24 : Int32) ≤ nI M from nI_ge (show M < 24 by omega) (by decide))]
      obtain ⟨r, hr, er⟩ := i_low (X := X) (v := v8 >>> ((5) &&& 31)) (n := 3) (by omega) (by decide)
      rw [show (3 : Int32) = nI 3 from rfl, er, bd_some]
      by_cases z : nI r = 0
      · rw [if_neg (fun y => y z)]
        exact t_make h hR (by omega) hf hf1 (Or.inl rfl)
      · rw [if_pos z]
        exact t_make h hR (by omega) hf hf1 (Or.inr rfl)
  unfold b_L_law_106
  rw [if_pos (n_ok (show n < 32 by omega) (by decide)), nI_clamp (by omega)]
  by_cases c : X 176 n = 1
  · rw [if_neg (fun z => z c)]
    exact k120 n hn c
  · rw [if_pos c]
    exact k120 0 hM.1 (h.2.1.top h.1)
theorem t_write {g : Int32 → Int32} {R9 : JX → Int32 → Int32 → Option Int32} {M t n l : Nat} {X : JX} {b : Int32} (h : LW M t 60 X) (hR : Rc R9 t) (hn : n < M) (h2 : X 176 n = 2) (hl : X 178 n = nI l) (hl20 : l < 20) (hm : isM b) : b_L_law_265 g R9 X (nI M) (nI t) (nI n) b (nI n) = some 1 := by
  obtain ⟨hB, hL, hT, hU⟩ := id h
  have hM := hB.2.2.2.1
  obtain ⟨f5, f4, l', hl', e1, e2, e3⟩ := hL.file hn h2
  have : l' = l := (nI_eq (by omega) (by omega)).mp (e1.symm.trans hl)
  subst this
  obtain ⟨X', w1, hB', o0, o8, o9, oo⟩ := e_write hB hn f5 f4 e2 hl20 e3 hm
  unfold b_L_law_265
  rw [w1, bd_some, h.thn, if_neg (show ¬ nI (l' + 2) ≤ 1 from nI_ge (a := 1) (by omega) (by omega))]
  unfold b_L_law_277
  rw [if_pos (n_ok (show n < 32 by omega) (by decide)), if_pos (n_ok (show n < 32 by omega) (by decide)), dX_eq, nI_clamp (by omega), mrg_hi3 (by omega), hl, n_add1]
  have hlo : ∀ q, q < 176 → (pX (mrg X X' 1) 178 (upd (X 178) n (nI (l' + 1)))) q = X' q := fun q hq => (pX_ne _ _ (by omega)).trans (mrg_lo hq)
  have h176 : (pX (mrg X X' 1) 178 (upd (X 178) n (nI (l' + 1)))) 176 = X 176 := (pX_ne _ _ (by omega)).trans (mrg_hi3 (by omega))
  have h177 : (pX (mrg X X' 1) 178 (upd (X 178) n (nI (l' + 1)))) 177 = X 177 := (pX_ne _ _ (by omega)).trans (mrg_hi3 (by omega))
  have h178 : (pX (mrg X X' 1) 178 (upd (X 178) n (nI (l' + 1)))) 178 = upd (X 178) n (nI (l' + 1)) := pX_self _ _ _
  have h179 : (pX (mrg X X' 1) 178 (upd (X 178) n (nI (l' + 1)))) 179 = (mrg X X' 1) 179 := pX_ne _ _ (by omega)
  generalize (pX (mrg X X' 1) 178 (upd (X 178) n (nI (l' + 1)))) = Z at hlo h176 h177 h178 h179 ⊢
  have hU' : BU (60 * (60 - (t + 1)) + 59) (mrg X X' 1) := (BU.go (b := 60 * (60 - (t + 1)) + 59) hU).2
  refine tail (M := M) ⟨hB'.congr hlo, ?_, (hT.le (by omega)).fr (by rw [hlo 0 (by omega), o0]), (hU'.fr (by rw [h179])).le (by omega)⟩ (fun X' h' => hR M X' h')
  obtain ⟨l1, l2, l3, l4⟩ := hL
  unfold LR
  rw [h176, h177, h178, (hlo 2 (by omega)).trans (oo 2 (by omega)), (hlo 3 (by omega)).trans (oo 3 (by omega)), (hlo 4 (by omega)).trans (oo 4 (by omega)), (hlo 5 (by omega)).trans (oo 5 (by omega)), (hlo 8 (by omega)).trans o8, (hlo 9 (by omega)).trans o9]
  refine ⟨fun k hk => ?_, l2, fun k hk hk6 => ?_, l4⟩
  · rw [u_at, u_at, u_at]
    by_cases c : k = n
    · rw [if_pos c, if_pos c, if_pos c, c]
      exact Or.inr (Or.inr ⟨h2, f5, f4, l' + 1, by omega, rfl, rfl, by rw [show 1 + (l' + 1) = l' + 2 by omega]⟩)
    · rw [if_neg c, if_neg c, if_neg c]
      exact l1 k hk
  · have c : k ≠ n := by omega
    rw [u_at, u_at, if_neg c, if_neg c]
    exact l3 k hk hk6

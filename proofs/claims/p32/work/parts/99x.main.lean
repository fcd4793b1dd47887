/-! ===== p32: a turn, the turns, and the law from its rows on ===== -/
theorem t_turn {g : Int32 → Int32} {R9 : JX → Int32 → Int32 → Option Int32} {M t : Nat} {X : JX} (h0 : LI M t X) (ht : t < 60) (hR : Rc R9 t) : lb_L_law_44 g R9 X (nI M) (nI t) = some 1 := by
  have h := h0.lw ht
  have hM := h.1.2.2.2.1
  have e2 : (2 : Int32) * nI t = nI (2 * t) := (Int32.ofNat_mul 2 t).symm
  unfold lb_L_law_44
  rw [if_neg (nl60 ht), e2, if_neg (nI_pos (by omega)), dV_eq, show nI (2 * t) + 1 = nI (2 * t + 1) from nI_add (2 * t) 1, if_neg (nI_pos (by omega)), dV_eq]
  obtain ⟨w, hw, ew⟩ := i_low (X := X) (v := g (nI (2 * t))) (n := 14) (by omega) (by decide)
  have ew : f_L_low X (g (nI (2 * t))) 14 = some (nI w) := ew
  obtain ⟨n, hn, en⟩ := i_low (X := X) (v := g (nI (2 * t + 1))) (n := M) (by omega) (by omega)
  rw [ew, bd_some, en, bd_some]
  generalize g (nI (2 * t + 1)) = t7
  have okn := n_ok (show n < 32 by omega) (by decide)
  have cln := nI_clamp (show n < 2 ^ 31 by omega)
  have weq : ∀ k, k < 14 → (nI w = nI k ↔ w = k) := fun k hk => nI_eq (by omega) (by omega)
  by_cases c3 : w < 3
  · rw [if_pos (show nI w < 3 from nI_lt (b := 3) c3 (by decide))]
    exact t_106 h hR hn
  rw [if_neg (show ¬ nI w < 3 from fun z => c3 ((nI_ltI (a := w) (b := 3) (by omega) (by decide)).mp z))]
  by_cases c4 : 4 ≤ M
  · rw [if_pos (show (4 : Int32) ≤ nI M from nI_le (a := 4) c4 (by omega))]
    by_cases c6 : 6 ≤ w
    · rw [if_pos (show (6 : Int32) ≤ nI w from nI_le (a := 6) c6 (by omega))]
      by_cases w6 : w = 6
      · rw [if_neg (show ¬ ¬ nI w = 6 from fun z => z ((weq 6 (by omega)).mpr w6))]
        obtain ⟨f, hf, ef⟩ := i_low (X := X) (v := t7 >>> ((5) &&& 31)) (n := M) (by omega) (by omega)
        rw [ef, bd_some]
        have mv := fun (s : Bool) hs => t_move (g := g) (s := s) h hR hn hf hs
        have mv1 : b_L_law_341 g R9 X (nI M) (nI t) (nI n) 1 (nI f) 1 = some 1 := mv true (fun z => by cases z)
        by_cases d1 : nI f = nI n
        · rw [if_pos d1]; exact mv1
        rw [if_neg d1]
        by_cases d2 : nI n = 0
        · rw [if_pos d2]; exact mv1
        rw [if_neg d2, if_pos (n_ok (show f < 32 by omega) (by decide)), nI_clamp (show f < 2 ^ 31 by omega)]
        by_cases d3 : X 176 f = 1
        · rw [if_neg (fun z => z d3), if_pos okn, cln]
          by_cases d4 : X 176 n = 0
          · rw [if_neg (fun z => z d4)]; exact mv1
          · rw [if_pos d4]
            exact mv false (fun _ => ⟨fun z => d1 (by rw [z]), fun z => d2 (by rw [z]; rfl), d3, d4⟩)
        · rw [if_pos d3]; exact mv1
      rw [if_pos (show ¬ nI w = 6 from fun z => w6 ((weq 6 (by omega)).mp z))]
      by_cases w7 : w = 7
      · rw [if_neg (show ¬ ¬ nI w = 7 from fun z => z ((weq 7 (by omega)).mpr w7))]
        by_cases d1 : n ≤ 3
        · rw [if_pos (show nI n ≤ 3 from nI_le (b := 3) d1 (by decide))]
          exact h.ends (by omega) hR
        rw [if_neg (show ¬ nI n ≤ 3 from fun z => d1 ((nI_leI (a := n) (b := 3) (by omega) (by decide)).mp z)), if_pos okn, cln]
        by_cases d2 : X 176 n ≤ 0
        · rw [if_pos d2]
          exact h.ends (by omega) hR
        · rw [if_neg d2, n_sub1 (by omega), dV_eq]
          exact t_remove h hR hn (by omega) (fun z => d2 (by rw [z]; exact Int32.le_refl _))
      rw [if_pos (show ¬ nI w = 7 from fun z => w7 ((weq 7 (by omega)).mp z))]
      by_cases w8 : w = 8
      · rw [if_neg (show ¬ ¬ nI w = 8 from fun z => z ((weq 8 (by omega)).mpr w8))]
        exact t_notices h hR
      rw [if_pos (show ¬ nI w = 8 from fun z => w8 ((weq 8 (by omega)).mp z))]
      by_cases w9 : w = 9
      · rw [if_neg (show ¬ ¬ nI w = 9 from fun z => z ((weq 9 (by omega)).mpr w9)), if_pos okn, cln]
        by_cases d1 : X 176 n = 2
        · rw [if_neg (fun z => z d1)]
          obtain ⟨r, hr, er⟩ := i_low (X := X) (v := t7 >>> ((5) &&& 31)) (n := 2) (by omega) (by decide)
          have er : f_L_low X (t7 >>> ((5) &&& 31)) 2 = some (nI r) := er
          rw [er, bd_some]
          by_cases z : nI r = 0
          · rw [if_neg (fun y => y z)]
            exact t_731 (x := 1) h hR hn d1
          · rw [if_pos z]
            exact t_731 (x := 0) h hR hn d1
        · rw [if_pos d1]
          exact t_743 (b := 59) h (by omega) hR hn
      rw [if_pos (show ¬ nI w = 9 from fun z => w9 ((weq 9 (by omega)).mp z))]
      by_cases w12 : 12 ≤ w
      · rw [if_pos (show (12 : Int32) ≤ nI w from nI_le (a := 12) w12 (by omega))]
        by_cases e12 : w = 12
        · rw [if_neg (show ¬ ¬ nI w = 12 from fun z => z ((weq 12 (by omega)).mpr e12))]
          exact t_batt h ht hR
        · rw [if_pos (show ¬ nI w = 12 from fun z => e12 ((weq 12 (by omega)).mp z))]
          exact t_crawl h c4 hR
      · rw [if_neg (show ¬ (12 : Int32) ≤ nI w from fun z => w12 ((nI_leI (a := 12) (b := w) (by decide) (by omega)).mp z))]
        exact t_work h hR
    · rw [if_neg (show ¬ (6 : Int32) ≤ nI w from fun z => c6 ((nI_leI (a := 6) (b := w) (by decide) (by omega)).mp z)), if_pos okn, cln]
      by_cases d1 : X 176 n = 2
      · rw [if_neg (fun z => z d1), if_pos okn]
        obtain ⟨f5, f4, l, hl, e1, e2', e3⟩ := h.2.1.file hn d1
        by_cases d2 : l < 20
        · rw [e1, if_neg (show ¬ (20 : Int32) ≤ nI l from nI_ge (show l < 20 from d2) (by decide))]
          obtain ⟨r, hr, er⟩ := i_low (X := X) (v := t7 >>> ((5) &&& 31)) (n := 9) (by omega) (by decide)
          have er : f_L_low X (t7 >>> ((5) &&& 31)) 9 = some (nI r) := er
          rw [er, bd_some]
          by_cases r7 : nI r = 7
          · rw [if_neg (fun y => y r7)]
            exact t_write h hR hn d1 e1 d2 (Or.inr (Or.inl rfl))
          · rw [if_pos r7]
            by_cases r8 : nI r = 8
            · rw [if_neg (fun y => y r8)]
              exact t_write h hR hn d1 e1 d2 (Or.inr (Or.inr rfl))
            · rw [if_pos r8]
              exact t_write h hR hn d1 e1 d2 (Or.inl ⟨r, by omega, rfl⟩)
        · rw [e1, if_pos (show (20 : Int32) ≤ nI l from nI_le (a := 20) (by omega) (by omega))]
          exact h.ends (by omega) hR
      · rw [if_pos d1]
        exact h.ends (by omega) hR
  · rw [if_neg (show ¬ (4 : Int32) ≤ nI M from fun z => c4 ((nI_leI (a := 4) (b := M) (by decide) (by omega)).mp z))]
    exact t_106 h hR hn
theorem turns {g : Int32 → Int32} : ∀ k t F M X, t + k = 60 → k + 1 ≤ F → LI M t X → loop3 (lb_L_law_44 g) F X (nI M) (nI t) = some 1 := by
  intro k
  induction k with
  | zero =>
    intro t F M X ht hF h
    obtain ⟨F', rfl⟩ := Nat.exists_eq_add_of_le' hF
    have : t = 60 := by omega
    subst this
    rw [zl3]
    generalize loop3 (lb_L_law_44 g) F' = R9
    unfold lb_L_law_44
    rw [if_pos g60]
  | succ k ih =>
    intro t F M X ht hF h
    obtain ⟨F', rfl⟩ := Nat.exists_eq_add_of_le' (show 1 ≤ F by omega)
    rw [zl3]
    exact t_turn h (by omega) (fun M' X' h' => ih (t + 1) F' M' X' (by omega) (by omega) h')
/-- the first watch -/
theorem e_watch {X : JX} (h : ∀ q, q < 176 → X q = X0 q) : ∃ v Xw, f_X10_watch X 0 = some (none, v, Xw) ∧ LB 1 Xw ∧ (∀ q, q < 176 → q < 11 ∨ 33 < q → Xw q = X0 q) := by
  have hrel : Rel 0 X Y0 := Rel0.congr h
  obtain ⟨e, v, X', w, Y', h1, -, -, -, hr⟩ := op_9 hrel 0
  obtain ⟨M, R, A, P, S, ⟨t1, t2, t3⟩, ⟨r4, r5, r6⟩, -⟩ := id hrel
  have x11 : X 11 2 = 0 := by rw [h 11 (by omega)]; rfl
  have x12 : X 12 0 = 13 := by rw [h 12 (by omega)]; rfl
  have x5 : X 5 0 ≠ 0 := by rw [h 5 (by omega)]; exact (by decide : (1 : Int32) ≠ 0)
  have x4 : X 4 0 ≠ 0 := by rw [h 4 (by omega)]; exact (by decide : (1 : Int32) ≠ 0)
  have eR : R = 0 := by
    have := r5.2.1.symm.trans x11
    exact (nI_eq (a := R) (b := 0) (by have := r4.1.1; omega) (by decide)).mp this
  subst eR
  have h1' := h1
  have hfind : ∀ v, f_X8_find X v = some none := fun v => by rw [x_find r5 r4]; rfl
  have hfull : f_X8_isFull X = some 0 := by
    unfold f_X8_isFull
    rw [x11, if_pos (by decide)]
  have hhold : f_X8_holding X 0 = some none := by
    have e9 := x_holding r5 r4 (pr := prY Y0) (fun n hn => (t2.2 n hn).1) t1.lt (u := some 0) (fun n e => by cases e; omega)
    have : hol (fun n => ro Y0 0 (nI n)) (prY Y0) 60 (some 0) = none := by
      cases e : hol (fun n => ro Y0 0 (nI n)) (prY Y0) 60 (some 0) with
      | none => rfl
      | some q =>
        obtain ⟨k, -, hk⟩ := hol_some 60 (some 0) e
        exact absurd (ro_lt hk).1 (Nat.not_lt_zero q)
    rw [this] at e9
    exact e9
  have hhr : f_X8_hasAtOrBelow X 0 = some 0 := by
    have := x_hr r5 r4 t1 t2 (n := 0) (by omega)
    exact this
  have hif : f_X9_isFolder X 0 = some 1 := (x_isFolder (n := 0) (by omega)).trans (by rw [bo_t ⟨x5, x4⟩])
  unfold f_X10_watch at h1
  rw [hif, bd_some, if_pos one0, hfind, bd_some, oC_none, hfull, bd_some, if_neg (fun z => z rfl), hhold, bd_some, oC_none, hhr, bd_some, if_pos rfl] at h1
  obtain ⟨X8, g1, g2⟩ := bd_inv h1
  have hc : f_X8_count X8 = some (X8 11 2) := rfl
  rw [hc, bd_some] at g2
  have g3 := Option.some.inj g2
  have e1 : none = e := congrArg Prod.fst g3
  have e3 : X8 = X' := congrArg (fun z => z.2.2) g3
  subst e1 e3
  have e13 : (X 12 (X 11 2).toNatClampNeg).toNatClampNeg = 13 := by
    rw [x11]
    show (X 12 0).toNatClampNeg = 13
    rw [x12]; rfl
  unfold f_X8_add at g1
  rw [e13, x11, if_neg (by decide), if_pos (by decide), if_pos (show okI 0 3 = true from rfl), dN_eq, if_pos (show isRt 13 = true from rfl), x_startAt] at g1
  obtain ⟨Xa, g4, g5⟩ := bd_inv g1
  obtain ⟨Xb, g6, g7⟩ := bd_inv g4
  cases g7
  rw [dX_eq] at g5
  obtain ⟨Xc, z1, z2, z3, z4, z5, z6, z7⟩ := x_begin (X := pX X 13 (upd (upd (upd (X 13) 3 0) 4 0) 5 0)) (q := 13) (f := 0) (by omega) (by rw [pX_self, u_at, if_neg (by omega), u_at, if_neg (by omega), u_at, if_pos rfl]; rfl)
  have e6 : some Xa = some Xc := g6.symm.trans z1
  have e6 : Xa = Xc := Option.some.inj e6
  rw [e6] at g5
  have e7 := Option.some.inj g5
  have oth : ∀ q, q ≠ 11 → q ≠ 13 → q ≠ 16 → q ≠ 17 → q ≠ 18 → q ≠ 19 → X8 q = X q := fun q a b c d e f => by
    rw [← e7, pX_ne _ _ a, z2 q c d e f, pX_ne _ _ b]
  have o13 : X8 13 3 = 0 := by
    rw [← e7, pX_ne _ _ (by omega), z2 13 (by omega) (by omega) (by omega) (by omega), pX_self, u_at, if_neg (by omega), u_at, if_neg (by omega), u_at, if_pos rfl]
  have o11 : X8 11 2 = 1 := by
    rw [← e7, pX_self, u_at, if_pos rfl, z2 11 (by omega) (by omega) (by omega) (by omega), pX_ne _ _ (by omega), x11]
    rfl
  have ox : ∀ q, q < 176 → q < 11 ∨ 33 < q → X8 q = X0 q := fun q hq h9 => (oth q (by omega) (by omega) (by omega) (by omega) (by omega) (by omega)).trans (h q hq)
  have n5 : ∀ n, X0 5 n ≠ 0 → n = 0 := fun n hz => by
    have e : X0 5 n = if n = 0 then 1 else 0 := rfl
    by_cases q : n = 0
    · exact q
    · rw [e, if_neg q] at hz; exact absurd rfl hz
  have hCI : CI 1 X8 := by
    refine ⟨⟨o11, by rw [oth 12 (by omega) (by omega) (by omega) (by omega) (by omega) (by omega)]; exact x12, o13⟩, ⟨fun n _ => by rw [ox 6 (by omega) (by omega)]; rfl, fun n _ => by rw [ox 48 (by omega) (by omega)]; rfl⟩, fun k _ hk => ?_, fun n hn n5' n4 => ?_⟩
    · rw [ox 36 (by omega) (by omega)] at hk
      exact absurd rfl hk
    · rw [ox 5 (by omega) (by omega)] at n5'
      rw [ox 4 (by omega) (by omega), n5 n n5'] at n4
      exact absurd n4 (by decide)
  refine ⟨v, X8, h1', LB.of hr hCI (by rw [ox 1 (by omega) (by omega)]; rfl) ⟨by omega, by omega⟩ (by rw [ox 0 (by omega) (by omega)]; rfl) (fun n hn _ => ⟨0, by omega, by rw [ox 8 (by omega) (by omega)]; rfl⟩), ox⟩
theorem the_law (g : Int32 → Int32) : f_L_law g X1 = some 1 := by
  unfold f_L_law
  rw [if_pos (show okI 0 32 = true from rfl), dX_eq, if_pos (show okI 0 32 = true from rfl), dX_eq]
  have c0 : (0 : Int32).toNatClampNeg = 0 := rfl
  rw [c0]
  have lo : ∀ q, q < 176 → (pX (pX X1 176 (upd (X1 176) 0 1)) 177 (upd ((pX X1 176 (upd (X1 176) 0 1)) 177) 0 (-1))) q = X0 q := fun q hq => (pX_ne _ _ (by omega)).trans ((pX_ne _ _ (by omega)).trans (sbu_ne (by omega)))
  have x0 : ∀ q, 175 < q → X0 q = fun _ => 0 := fun q hq => by unfold X0; rw [if_neg (by omega)]
  have h176 : (pX (pX X1 176 (upd (X1 176) 0 1)) 177 (upd ((pX X1 176 (upd (X1 176) 0 1)) 177) 0 (-1))) 176 = upd (fun _ => 0) 0 1 := (pX_ne _ _ (by omega)).trans ((pX_self _ _ _).trans (by rw [show X1 176 = X0 176 from sbu_ne (by omega), x0 176 (by omega)]))
  have h177 : (pX (pX X1 176 (upd (X1 176) 0 1)) 177 (upd ((pX X1 176 (upd (X1 176) 0 1)) 177) 0 (-1))) 177 = upd (fun _ => 0) 0 (-1) := (pX_self _ _ _).trans (by rw [pX_ne _ _ (by omega), show X1 177 = X0 177 from sbu_ne (by omega), x0 177 (by omega)])
  have h178 : (pX (pX X1 176 (upd (X1 176) 0 1)) 177 (upd ((pX X1 176 (upd (X1 176) 0 1)) 177) 0 (-1))) 178 = fun _ => 0 := (pX_ne _ _ (by omega)).trans ((pX_ne _ _ (by omega)).trans (by rw [show X1 178 = X0 178 from sbu_ne (by omega), x0 178 (by omega)]))
  have h179 : (pX (pX X1 176 (upd (X1 176) 0 1)) 177 (upd ((pX X1 176 (upd (X1 176) 0 1)) 177) 0 (-1))) 179 0 = nI 10000 := by
    rw [pX_ne _ _ (by omega), pX_ne _ _ (by omega)]
    show sbu X0 10000 179 0 = _
    rw [sbu_179]
    rfl
  generalize (pX (pX X1 176 (upd (X1 176) 0 1)) 177 (upd ((pX X1 176 (upd (X1 176) 0 1)) 177) 0 (-1))) = Z at lo h176 h177 h178 h179 ⊢
  obtain ⟨v, Xw, w1, w2, w3⟩ := e_watch lo
  have hU : BU (9999 + 1) Z := ⟨10000, by omega, by omega, h179⟩
  rw [w1, bd_some, thn_go hU]
  unfold l_L_law_44
  refine turns 60 0 1000 1 _ (by omega) (by omega) ⟨w2.mrg, ?_, ⟨0, by omega, by rw [mrg_lo (by omega), w3 0 (by omega) (by omega)]; rfl⟩, (BU.go (b := 9999) hU).2.le (by omega)⟩
  unfold LR
  rw [mrg_hi3 (q := 176) (by omega), mrg_hi3 (q := 177) (by omega), mrg_hi3 (q := 178) (by omega), mrg_lo (q := 2) (by omega), mrg_lo (q := 3) (by omega), mrg_lo (q := 4) (by omega), mrg_lo (q := 5) (by omega), mrg_lo (q := 8) (by omega), mrg_lo (q := 9) (by omega), h176, h177, h178, w3 2 (by omega) (by omega), w3 3 (by omega) (by omega), w3 4 (by omega) (by omega), w3 5 (by omega) (by omega), w3 8 (by omega) (by omega), w3 9 (by omega) (by omega)]
  refine ⟨fun n hn => ?_, fun n hn _ => ?_, fun n _ _ => ⟨rfl, fun _ => rfl⟩, fun _ => none, ⟨fun a b e => (by cases e), fun u => ?_⟩, fun n hn => ?_, fun n m e => (by cases e)⟩
  · have : n = 0 := by omega
    subst this
    exact Or.inr (Or.inl ⟨rfl, (by decide : (1 : Int32) ≠ 0), (by decide : (1 : Int32) ≠ 0), rfl⟩)
  · have : n = 0 := by omega
    subst this
    exact ⟨fun z => absurd z (by omega), rfl⟩
  · cases u with
    | none => exact ⟨0, rfl⟩
    | some n => exact ⟨1, rfl⟩
  · have : n = 0 := by omega
    subst this
    rfl

/-! ===== p32: what comes next is one of these ===== -/
theorem i_act {i M P A t n c left : Nat} {Xs Ys X Y X1 : JX} (h : RelW i Xs Ys X Y M 1 P A) (h10 : Y 10 0 = 0) (hlk : ∀ n, n < 60 → X 6 n = 0) (hi : i ≤ 2560) (ht : t < A) (hn : n < 60) (en : Y 25 t = nI n) (hl2 : left ≤ 500) (hc : c ≤ 500) (hN : f_X4_act X (nI n) (nI left) = some (nI c, X1)) : (X 47 n = 1 ∨ X 47 n = 2) ∧ ((c = 1 ∧ Ngone (prY Y) X X1 n) ∨ (c = 1 ∧ Ndrop (prY Y) X X1 n) ∨ Nfile (prY Y) X X1 n c ∨ (c = 1 ∧ Nfold (prY Y) X X1 n) ∨ (c = 0 ∧ X1 = X ∧ left ≤ 20)) := by
  obtain ⟨⟨h1, h2, h3⟩, ⟨h4, h5, h6⟩, ⟨h7, h8, h9⟩, ⟨hK, hKX⟩, hL, ⟨h34, hS⟩, -⟩ := h
  obtain ⟨b1, b2, b3⟩ := hKX.2.1 t ht
  rw [en, nI_clamp (sm hn)] at b2 b3
  have hkd : X 47 n = 1 ∨ X 47 n = 2 := by rw [b2]; exact (hK.2.1 t ht).2.1
  refine ⟨hkd, ?_⟩
  have one_c : ∀ {c : Nat}, c ≤ 500 → (1 : Int32) = nI c → c = 1 := fun h e => ((nI_eq (a := 1) (by decide) (by omega)).mp e).symm
  have xk : f_X0_kindOf X (nI n) = some (X 47 n) := by
    unfold f_X0_kindOf
    rw [if_neg (nI_pos (sm hn)), if_neg (nl60 hn), if_pos (n_ok60 hn), nI_clamp (sm hn)]
  have xab := x_above h5 h4 h1 h2 hn
  -- where the act is taken first
  have fx : ∀ {X2 : JX}, frX X2 X → RX X2 Y 1 ∧ EX X2 Y := fun fr => ⟨h5.fr h4.1.1 (fun q _ _ => fr q (by omega) (by omega) (by omega)) rfl, h7.fr (fun q _ _ => fr q (by omega) (by omega) (by omega)) (fun q _ _ => fr q (by omega) (by omega) (by omega)) eqC.rf rfl⟩
  have gone63 : ∀ s : Int32, prY Y n = none → b_X4_act_63 X (nI n) s 0 = some (nI c, X1) → c = 1 ∧ Ngone (prY Y) X X1 n := fun s hp hh => by
    unfold b_X4_act_63 at hh
    obtain ⟨X2, g1, g2⟩ := bd_inv hh
    rw [if_neg (fun z => z rfl)] at g2
    obtain ⟨X3, g3, g4⟩ := bd_inv g2
    have g5 := Option.some.inj g4
    have c1 := one_c hc (congrArg Prod.fst g5)
    have e3 : X3 = X1 := congrArg Prod.snd g5
    subst e3
    obtain ⟨a1, a2⟩ := i_takeAct hn g1
    obtain ⟨r5, r7⟩ := fx a2
    obtain ⟨d1, d2, d3⟩ := i_forget h4 r5 h10 r7 h8 hn g3
    have ep : ∀ k, pe X2 k = pe X k := fun k => by
      unfold pe
      rw [a2 36 (by omega) (by omega) (by omega), a2 37 (by omega) (by omega) (by omega)]
    have ep2 : pe X2 = pe X := funext ep
    refine ⟨c1, hp, by rw [d1 47 (by omega) (by omega) (by omega)]; exact a1, fun q q1 q2 q3 q4 q5 q6 => (d1 q q1 q2 q3).trans (a2 q q4 q5 q6), d2, fun k hk => ?_⟩
    have := d3 k hk
    rw [a2 36 (by omega) (by omega) (by omega), ep2] at this
    exact this
  unfold f_X4_act b_X4_act_17 at hN
  rw [xk, bd_some, xab, bd_some, bd_some] at hN
  cases e : ov Y 1 n with
  | none =>
    have hp := (ov_top h1 h4 h10).mp e
    rw [e, Option.map_none, oC_none, oC_none] at hN
    unfold b_X4_act_34 at hN
    refine Or.inl ?_
    by_cases c1 : X 47 n = 1
    · rw [if_neg (fun z => z c1), if_neg one0, if_pos rfl] at hN
      exact gone63 _ hp hN
    · rw [if_pos c1, if_pos rfl] at hN
      exact gone63 _ hp hN
  | some r =>
    have hr := hX_rt h5 h4 (ov_lt e)
    have hp : prY Y n ≠ none := fun z => by rw [(ov_top h1 h4 h10).mpr z] at e; cases e
    obtain ⟨-, n0, nt, -⟩ := pr_some h1 hp
    obtain ⟨a2, a3, a4, a5, a6, a7, a9, a8, at', ac⟩ := h2.2 n hn
    have h5' : X 5 n ≠ 0 := by rw [a5]; exact nt
    rw [e, Option.map_some, oC_some, oC_some, if_pos hr, if_pos hr] at hN
    unfold b_X4_act_34 at hN
    rcases hkd with kd | kd
    · rw [if_neg (fun z => z kd), if_neg one0, if_neg one0, x_isFile hn, bd_some] at hN
      by_cases ff : X 4 n = 0
      · rw [bo_t ⟨h5', ff⟩, if_neg one0] at hN
        obtain ⟨⟨v, X2⟩, g1, g2⟩ := bd_inv hN
        have g2 : some (v, X2) = some (nI c, X1) := g2
        cases g2
        rcases i_file h1 h2 h3 hi h34 hS hn hp ff (hlk n hn) hc hl2 g1 with z | z
        · exact Or.inr (Or.inr (Or.inl z))
        · exact Or.inr (Or.inr (Or.inr (Or.inr z)))
      · rw [bo_f (fun z => ff z.2), if_pos rfl] at hN
        unfold b_X4_act_63 at hN
        obtain ⟨X2, g1, g2⟩ := bd_inv hN
        rw [if_pos one0, if_neg one0] at g2
        obtain ⟨X3, g3, g4⟩ := bd_inv g2
        have g5 := Option.some.inj g4
        have c1 := one_c hc (congrArg Prod.fst g5)
        have e3 : X3 = X1 := congrArg Prod.snd g5
        subst e3
        obtain ⟨d1, d2⟩ := i_takeAct hn g1
        unfold f_X4_lookAtFolder at g3
        rw [x_keepPlace hn (by rw [d2 3 (by omega) (by omega) (by omega), a3]; exact ac), bd_some] at g3
        obtain ⟨k1, k2⟩ := i_kids_loop 1000 0 _ _ (by omega) g3
        have p36 : (plX X2 n) 36 = upd (X2 36) n 1 := rfl
        have p37 : (plX X2 n) 37 = upd (X2 37) n (X2 2 n) := rfl
        have p38 : (plX X2 n) 38 = upd (X2 38) n (X2 3 n) := rfl
        have p47 : (plX X2 n) 47 = X2 47 := rfl
        have p2 : (plX X2 n) 2 = X2 2 := rfl
        have oth : ∀ q, (q < 36 ∨ 38 < q) → q ≠ 45 → q ≠ 46 → q ≠ 47 → X3 q = X q := fun q q1 q2 q3 q4 => (k1 q q2 q3 q4).trans ((pX_ne _ _ (by omega)).trans ((pX_ne _ _ (by omega)).trans ((pX_ne _ _ (by omega)).trans (d2 q q2 q3 q4))))
        have o36 : X3 36 = upd (X 36) n 1 := by rw [k1 36 (by omega) (by omega) (by omega), p36, d2 36 (by omega) (by omega) (by omega)]
        have o37 : X3 37 = upd (X 37) n (X 2 n) := by rw [k1 37 (by omega) (by omega) (by omega), p37, d2 37 (by omega) (by omega) (by omega), d2 2 (by omega) (by omega) (by omega)]
        have o38 : X3 38 = upd (X 38) n (X 3 n) := by rw [k1 38 (by omega) (by omega) (by omega), p38, d2 38 (by omega) (by omega) (by omega), d2 3 (by omega) (by omega) (by omega)]
        refine Or.inr (Or.inr (Or.inr (Or.inl ⟨c1, hp, h5', ff, fun j => ?_, ⟨?_, ?_, ?_, fun z => absurd z.2 (by rw [oth 4 (by omega) (by omega) (by omega) (by omega)]; exact ff)⟩, ?_, fun k hk => ⟨?_, ?_, ?_⟩, oth⟩)))
        · rw [k2 j, p2, p47, d2 2 (by omega) (by omega) (by omega), d1, u_at]
          by_cases q : j < 60 ∧ X 2 j = nI n
          · rw [if_pos ⟨Nat.zero_le _, q⟩, if_pos q]
          · rw [if_neg (fun z => q z.2), if_neg q]
        · rw [o36, u_at, if_pos rfl]; exact one0
        · rw [o37, u_at, if_pos rfl, oth 2 (by omega) (by omega) (by omega) (by omega)]
        · rw [o38, u_at, if_pos rfl, oth 3 (by omega) (by omega) (by omega) (by omega)]
        · rw [o37, u_at, if_pos rfl]
        · rw [o36, u_at, if_neg hk]
        · rw [o37, u_at, if_neg hk]
        · rw [o38, u_at, if_neg hk]
    · rw [if_pos (show ¬ X 47 n = 1 by rw [kd]; decide), if_pos rfl] at hN
      unfold b_X4_act_63 at hN
      obtain ⟨X2, g1, g2⟩ := bd_inv hN
      rw [if_pos one0, if_pos rfl] at g2
      obtain ⟨X3, g3, g4⟩ := bd_inv g2
      have g5 := Option.some.inj g4
      have c1 := one_c hc (congrArg Prod.fst g5)
      have e3 : X3 = X1 := congrArg Prod.snd g5
      subst e3
      obtain ⟨d1, d2⟩ := i_takeAct hn g1
      obtain ⟨d3, d4⟩ := i_add hn g3
      refine Or.inr (Or.inl ⟨c1, hp, kd, ?_, d4.tr d2⟩)
      rw [d3, d1]
      funext j
      rw [u_at, u_at, u_at]
      by_cases q : j = n
      · rw [if_pos q, if_pos q]
      · rw [if_neg q, if_neg q, if_neg q]
theorem i_next {i M P A c left : Nat} {Xs Ys X Y X1 : JX} (h : RelW i Xs Ys X Y M 1 P A) (h12 : X 12 0 = 13) (h13 : X 13 3 = 0) (hlk : ∀ n, n < 60 → X 6 n = 0) (h48 : ∀ n, n < 60 → X 48 n = 0) (hi : i ≤ 2560) (hl2 : left ≤ 500) (hc : c ≤ 500) (hN : f_X4_doNext X (nI left) = some (nI c, X1)) : Nx (prY Y) X X1 c left := by
  have hW := h
  obtain ⟨⟨h1, h2, h3⟩, ⟨h4, h5, h6⟩, ⟨h7, h8, h9⟩, ⟨hK, hKX⟩, hL, ⟨h34, hS⟩, -⟩ := h
  have hpl : pl X 0 = 13 := by unfold pl; rw [h12]; rfl
  have h10 : Y 10 0 = 0 := by
    have := h5.2.2 0 (by omega)
    rw [hpl, h13] at this
    exact this.symm
  have one_c : (1 : Int32) = nI c → c = 1 := fun e => ((nI_eq (a := 1) (b := c) (by decide) (by omega)).mp e).symm
  obtain ⟨hNQ, hCQ⟩ := ((QX_is X Y 1) ▸ h6) 0 (by omega)
  rw [hpl] at hNQ hCQ
  obtain ⟨a4, a5, k, k8, ek, ef, eg⟩ := hNQ
  have xn := x_noisy h4 h5 h6
  unfold f_X4_doNext at hN
  rw [xn, bd_some, fst_s] at hN
  by_cases c1 : noisy Y 0 = true
  · rw [if_pos c1, Option.map_some, oC_some, hpl, if_pos (show isRt 13 = true from rfl)] at hN
    obtain ⟨X2, hh, g0⟩ := bd_inv hN
    have g5 := Option.some.inj g0
    have cc := one_c (congrArg Prod.fst g5)
    have e3 : X2 = X1 := congrArg Prod.snd g5
    subst e3
    unfold f_X4_hear at hh
    by_cases f5 : X 13 5 = 0
    · rw [if_pos f5, if_pos (show okI 0 8 = true from rfl), if_pos (show okI 0 8 = true from rfl)] at hh
      have hk : 1 ≤ k := by
        rcases of_decide_eq_true c1 with z | z
        · exact absurd (a5.symm.trans f5) z
        · rw [ek] at z
          rcases Nat.eq_zero_or_pos k with w | w
          · rw [w] at z; exact absurd (show nI 0 ≤ 0 by decide) z
          · exact w
      obtain ⟨g1, g2, g3, n, hn, g4⟩ := eg 0 (by omega)
      have x15 : X (13 + 2) (0 : Int32).toNatClampNeg = nI n := g2.trans g4
      have key : ∀ v, (v = 1 ∨ v = 2) → b_X4_hear_42 X 13 v (X (13 + 2) (0 : Int32).toNatClampNeg) = some X2 → Nx (prY Y) X X2 c left := fun v hv hh => by
        rw [x15] at hh
        unfold b_X4_hear_42 at hh
        obtain ⟨X3, u1, u2⟩ := bd_inv hh
        obtain ⟨X4, u3, u4⟩ := bd_inv u2
        cases u4
        obtain ⟨b1, b2⟩ := i_add hn u1
        obtain ⟨X', v1, v2, v3, v4, v5⟩ := x_first_loop (q := 13) k8 (k - 1) 1 1000 X3 (by omega) (by omega) (by omega) (by rw [b2 13 (by omega) (by omega) (by omega), a4]; exact ek)
        have e9 : some X2 = some X' := u3.symm.trans v1
        cases e9
        refine Or.inr (Or.inl ⟨cc, f5, k, n, v, hk, k8, hn, a4.trans ek, ?_, hv, ?_, fun q q1 q2 q3 q4 => (v2 q (by omega) (by omega) (by omega)).trans (b2 q q2 q3 q4)⟩)
        · rw [v3, b2 13 (by omega) (by omega) (by omega)]
        · rw [v2 47 (by omega) (by omega) (by omega)]; exact b1
      by_cases q3 : X (13 + 1) (0 : Int32).toNatClampNeg = 3
      · rw [if_neg (fun z => z q3)] at hh
        exact key 2 (Or.inr rfl) hh
      · rw [if_pos q3] at hh
        exact key 1 (Or.inl rfl) hh
    · rw [if_neg f5, if_pos (show okB 0 = true from rfl), dX_eq] at hh
      obtain ⟨X3, u1, u2⟩ := bd_inv hh
      cases u2
      obtain ⟨X', v1, v2, v3, v4, v5, v6, v7⟩ := x_begin (X := pX X 13 (upd (X 13) 5 0)) (q := 13) (f := 0) (by omega) (by rw [pX_self, u_at, if_neg (by omega), h13]; rfl)
      have e9 : some X2 = some X' := u1.symm.trans v1
      cases e9
      refine Or.inl ⟨cc, f5, ?_, fun q q1 q2 => (v2 q (by omega) (by omega) (by omega) (by omega)).trans (pX_ne _ _ q2), v4, v6, v7⟩
      rw [v2 13 (by omega) (by omega) (by omega) (by omega), pX_self]
  · have nz := fun z => c1 (decide_eq_true z)
    have e14 : Y 14 0 = 0 := by
      rcases ef with z | z
      · exact z
      · exact absurd (Or.inl (by rw [z.1]; exact one0)) nz
    have k0 : k = 0 := by
      rcases Nat.eq_zero_or_pos k with w | w
      · exact w
      · exact absurd (Or.inr (by rw [ek]; exact nI_nle w (by omega))) nz
    have f5 : X 13 5 = 0 := a5.trans e14
    have f4 : X 13 4 = 0 := by rw [a4, ek, k0]; rfl
    rw [if_neg c1, show fst (noisy Y) 0 (0 + 1) = none from rfl, Option.map_none, oC_none, x_ready hK hKX, bd_some] at hN
    cases ea : fst (rdy Y) A 0 with
    | some t =>
      obtain ⟨-, ht, -, -⟩ := fst_some A 0 ea
      obtain ⟨⟨n, hn, e25⟩, -⟩ := hK.2.1 t (by omega)
      rw [ea] at hN
      have hN : (if Y 25 t = -1 then (f_X8_firstCrawled X).bind fun o4 => oC o4 (some (0, X)) (fun q5 => if isRt q5 = true then (f_X4_crawlOn X q5).bind fun X6 => some (1, X6) else none) else (f_X4_act X (Y 25 t) (nI left)).bind fun t7 => some (t7.1, t7.2)) = some (nI c, X1) := hN
      rw [e25, if_neg (nm1 (sm hn))] at hN
      obtain ⟨⟨v, X2⟩, g1, g2⟩ := bd_inv hN
      have g2 : some (v, X2) = some (nI c, X1) := g2
      cases g2
      obtain ⟨z1, z2⟩ := i_act hW h10 hlk hi (show t < A by omega) hn e25 hl2 hc g1
      exact Or.inr (Or.inr (Or.inl ⟨f5, f4, n, hn, z1, z2⟩))
    | none =>
      have hA0 : A = 0 := by
        rcases Nat.eq_zero_or_pos A with w | w
        · exact w
        · have r0 := fst_none A 0 ea 0 (Nat.le_refl _) (by omega)
          obtain ⟨⟨n, hn, e25⟩, -⟩ := hK.2.1 0 w
          have := (hKX.2.1 0 w).2.2
          rw [e25, nI_clamp (sm hn), h48 n hn] at this
          exact absurd (show Y 27 0 = 0 from this.symm) (of_decide_eq_false r0)
      have f47 : ∀ n, n < 60 → X 47 n = 0 := fun n hn => (hKX.2.2 n hn (fun j hj => absurd hj (by omega))).1
      rw [ea] at hN
      have hN : (if (-1 : Int32) = -1 then (f_X8_firstCrawled X).bind fun o4 => oC o4 (some (0, X)) (fun q5 => if isRt q5 = true then (f_X4_crawlOn X q5).bind fun X6 => some (1, X6) else none) else (f_X4_act X (-1) (nI left)).bind fun t7 => some (t7.1, t7.2)) = some (nI c, X1) := hN
      rw [if_pos rfl, x_crawled h4 h5 h6, bd_some, fst_s] at hN
      obtain ⟨q4, q3, ⟨w, w60, ew, egd, ewl, ewd, ewf⟩, ewm⟩ := hCQ
      by_cases c2 : crawled Y 0 = true
      · rw [if_pos c2, Option.map_some, oC_some, hpl, if_pos (show isRt 13 = true from rfl)] at hN
        obtain ⟨X2, hh, g0⟩ := bd_inv hN
        have g5 := Option.some.inj g0
        have cc := one_c (congrArg Prod.fst g5)
        have e3 : X2 = X1 := congrArg Prod.snd g5
        subst e3
        have y15 : Y 15 0 ≠ 0 := of_decide_eq_true c2
        have hw1 : 1 ≤ w := by
          rcases egd with z | z
          · exact absurd z y15
          · exact z.2
        have hWF : WF X 16 w := ⟨⟨w60, q3.trans ew⟩, fun j hj => by
            obtain ⟨z1, z2, z3, z4⟩ := ewl j hj
            exact ⟨z2, z3, z1.trans z4⟩, fun j k9 hj hk9 e => ewd j k9 hj hk9 (by rw [← (ewl j hj).1, ← (ewl k9 hk9).1]; exact e), fun n hn => by
            rw [ewf n hn]
            constructor
            · rintro ⟨j, hj, e⟩; exact ⟨j, hj, (ewl j hj).1.trans e⟩
            · rintro ⟨j, hj, e⟩; exact ⟨j, hj, (ewl j hj).1.symm.trans e⟩⟩
        obtain ⟨f, hf, e0⟩ := hWF.2.1 0 (by omega)
        have hwf : X 18 f ≠ 0 := (hWF.2.2.2 f hf).mpr ⟨0, by omega, e0⟩
        have hpr : ∀ n, n < 60 → X 2 n = enc (prY Y n) := fun n hn => (h2.2 n hn).1
        have hcr := i_crawl hWF hw1 hf e0 h13 (fun k9 hk9 => by
            obtain ⟨-, z3, -, -, -, -, -, -, -, zc⟩ := h2.2 k9 hk9
            rw [z3]; exact zc) (fun X' e2 f0 hex t ht => by
            obtain ⟨j, hj, ej⟩ := hex
            have hpj : prY Y j = some f := by
              have := hpr j hj
              rw [ej] at this
              cases ep : prY Y j with
              | none => rw [ep] at this; exact absurd this (nm1 (sm hf))
              | some m =>
                rw [ep] at this
                have hm := (h1.2.2.2.2.1 j m ep).2
                rw [(nI_eq (sm hf) (sm hm)).mp this]
            obtain ⟨-, -, -, m, -, em, -, m1, -⟩ := pr_some h1 (n := j) (by rw [hpj]; exact fun z => by cases z)
            rw [hpj] at em
            cases em
            have hb : belo (prY Y) f 0 = true := by
              rw [belo_On h1.2.2.2.2]
              exact (On.up.mp (toTop' h1 hf m1)).resolve_left f0
            have hx := x_isBelow (X := X') (pr := prY Y) (f := 0) (n := f) (by omega) hf (fun n hn => by rw [e2]; exact hpr n hn) h1.lt
            rw [hb] at hx
            have : f_X9_isBelow X' (nI f) 0 = some 1 := hx
            rw [this] at ht
            cases ht
            exact one0) hh
        exact Or.inr (Or.inr (Or.inr (Or.inl ⟨cc, f5, f4, f47, by rw [q4]; exact y15, f, hf, hwf, hcr.1, hcr.2.2⟩)))
      · rw [if_neg c2, show fst (crawled Y) 0 (0 + 1) = none from rfl, Option.map_none, oC_none] at hN
        have g5 := Option.some.inj hN
        have cc : c = 0 := ((nI_eq (a := 0) (b := c) (by decide) (by omega)).mp (congrArg Prod.fst g5)).symm
        have e3 : X = X1 := congrArg Prod.snd g5
        refine Or.inr (Or.inr (Or.inr (Or.inr ⟨cc, e3.symm, f5, f4, f47, ?_⟩)))
        rw [q4]
        by_cases z : Y 15 0 = 0
        · exact z
        · exact absurd (decide_eq_true z) c2

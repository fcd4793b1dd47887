/-! ===== p32: works, and works until all is quiet ===== -/
theorem Rel.congr {i : Nat} {X X' Y : JX} (h : Rel i X Y) (f : ∀ q, q < 176 → X' q = X q) : Rel i X' Y := by
  obtain ⟨M, R, A, P, S, ⟨h1, h2, h3⟩, ⟨h4, h5, h6⟩, ⟨h7, h8⟩, ⟨h9, h10⟩, ⟨h11, h12, h13⟩, h14, h15⟩ := h
  refine ⟨M, R, A, P, S, ⟨h1, h2.fr (by rw [f 1 (by omega)]) (fun q _ _ => f q (by omega)) (fun q _ _ => f q (by omega)) rfl eqC.rf, h3⟩, ⟨h4, h5.fr h4.1.1 (fun q _ _ => f q (by omega)) rfl, h6.fr h4.1.1 h5.1 (fun q _ _ => f q (by omega)) eqC.rf⟩, ⟨h7.fr (fun q _ _ => f q (by omega)) (fun q _ _ => f q (by omega)) eqC.rf rfl, h8⟩, ⟨h9, ?_⟩, ⟨h11, ?_, h13⟩, ?_, h15⟩
  · unfold KX
    rw [f 45 (by omega), f 46 (by omega), f 47 (by omega), f 48 (by omega)]
    exact h10
  · unfold IX
    rw [f 49 (by omega), f 50 (by omega), f 51 (by omega), f 52 (by omega)]
    exact h12
  · unfold SX
    rw [f 34 (by omega), f 0 (by omega)]
    exact h14
/-- a second system stands beside the class -/
def Gh (X : JX) : Prop := ∃ Y, Rel 20 X Y
theorem Gh.congr {X X' : JX} (h : Gh X) (f : ∀ q, q < 176 → X' q = X q) : Gh X' := by
  obtain ⟨Y, hY⟩ := h
  exact ⟨Y, hY.congr f⟩
def E8 (X : JX) : Prop := ∀ n, n < 60 → X 4 n = 0 → ∃ e, e ≤ 21 ∧ X 8 n = nI e
theorem E8.fr {X X' : JX} (h : E8 X) (h4 : X' 4 = X 4) (h8 : X' 8 = X 8) : E8 X' := by
  unfold E8
  rw [h4, h8]
  exact h
/-- editions of folders are nobody's: those of files bound them all -/
theorem Rel.low {i : Nat} {X Y : JX} (h : Rel i X Y) (h8 : E8 X) : Gh X := by
  obtain ⟨M, R, A, P, S, ⟨h1, h2, h3⟩, ⟨h4, h5, h6⟩, ⟨h7, h8'⟩, ⟨h9, h10⟩, ⟨h11, h12, h13⟩, h14, h15⟩ := h
  let Y' : JX := pX Y 5 (fun n => if Y 2 n = 0 then Y 5 n else 0)
  have yo : ∀ q, q ≠ 5 → Y' q = Y q := fun q hq => pX_ne _ _ hq
  have y5 : ∀ n, Y' 5 n = if Y 2 n = 0 then Y 5 n else 0 := fun n => rfl
  refine ⟨Y', M, R, A, P, S, ⟨h1, ⟨h2.1, fun n hn => ?_⟩, fun n hn => ?_⟩, ⟨h4, h5, h6⟩, ⟨h7, h8'⟩, ⟨h9, h10⟩, ⟨h11, h12, h13⟩, h14, h15⟩
  · obtain ⟨a2, a3, a4, a5, a6, a7, a9, a8, at', ac⟩ := h2.2 n hn
    exact ⟨a2, a3, a4, a5, a6, a7, a9, fun q => (a8 q).trans (show Y 5 n = Y' 5 n by rw [y5 n, if_pos (show Y 2 n = 0 from q)]), at', ac⟩
  · obtain ⟨-, d3, d4⟩ := h3 n hn
    refine ⟨?_, d3, d4⟩
    obtain ⟨a2, a3, a4, a5, a6, a7, a9, a8, at', ac⟩ := h2.2 n hn
    rw [y5 n]
    by_cases q : Y 2 n = 0
    · rw [if_pos q, ← a8 q]
      exact h8 n hn (a4.trans q)
    · rw [if_neg q]
      exact ⟨0, by omega, rfl⟩
theorem Rel.one {i : Nat} {X Y : JX} (h : Rel i X Y) (h11 : X 11 2 = 1) {M : Nat} (h9 : X 1 9 = nI M) (hM : M ≤ 60) : ∃ A P S, (TY Y M ∧ TX X Y ∧ TV Y i) ∧ (RY Y 1 ∧ RX X Y 1 ∧ QX X Y 1) ∧ (EX X Y ∧ EY Y M) ∧ (KY Y A ∧ KX X Y A) ∧ (IY Y P S ∧ IX X Y P S ∧ IQ Y P S) ∧ SX X Y ∧ SY Y := by
  obtain ⟨M', R, A, P, S, ⟨h1, h2, h3⟩, ⟨h4, h5, h6⟩, hE, hK, hI, hS, hSY⟩ := h
  have eM : M' = M := by
    have := h2.1.symm.trans h9
    rw [h1.1.2.2] at this
    exact (nI_eq (by have := h1.1.2.1; omega) (by omega)).mp this
  subst eM
  have eR : R = 1 := by
    have := h5.2.1.symm.trans h11
    exact (nI_eq (b := 1) (by have := h4.1.1; omega) (by decide)).mp this
  subst eR
  exact ⟨A, P, S, ⟨h1, h2, h3⟩, ⟨h4, h5, h6⟩, hE, hK, hI, hS, hSY⟩
def qt (X : JX) : Prop := X 13 5 = 0 ∧ X 13 4 = 0 ∧ X 45 3 = 0 ∧ X 16 4 = 0
theorem x_quiet {X : JX} {M : Nat} (g : Gh X) (h1 : One X) (h9 : X 1 9 = nI M) (hM : M ≤ 60) : ∃ b : Int32, f_X10_isQuiet X = some b ∧ (b = 0 ∨ b = 1) ∧ (¬ b = 0 ↔ qt X) ∧ (X 45 3 = 0 ↔ ∀ n, n < 60 → X 47 n = 0) := by
  obtain ⟨Y, h⟩ := g
  obtain ⟨A, P, S, ⟨t1, t2, t3⟩, ⟨h4, h5, h6⟩, -, ⟨hK, hKX⟩, -⟩ := h.one h1.1 h9 hM
  have hpl : pl X 0 = 13 := by unfold pl; rw [h1.2.1]; rfl
  obtain ⟨⟨a4, a5, k, k8, ek, ef, eg⟩, q4, -⟩ := ((QX_is X Y 1) ▸ h6) 0 (by omega)
  rw [hpl] at a4 a5 q4
  have hA := hK.1.1
  have eA : X 45 3 = nI A := hKX.1
  have acts : X 45 3 = 0 ↔ ∀ n, n < 60 → X 47 n = 0 := by
    rw [eA]
    constructor
    · intro z n hn
      have : A = 0 := (nI_eq (a := A) (b := 0) (by omega) (by decide)).mp z
      exact (hKX.2.2 n hn (fun j hj => by omega)).1
    · intro z
      rcases Nat.eq_zero_or_pos A with w | w
      · rw [w]; rfl
      · obtain ⟨⟨n, hn, en⟩, kd, -⟩ := hK.2.1 0 w
        have := (hKX.2.1 0 w).2.1
        rw [en, nI_clamp (sm hn), z n hn] at this
        rcases kd with y | y
        · rw [y] at this; exact absurd this.symm one0
        · rw [y] at this; exact absurd this.symm (by decide)
  have xa : f_X4_countActs X = some (X 45 3) := rfl
  have e : f_X10_isQuiet X = oC ((fst (noisy Y) 1 0).map (pl X)) (if ¬ X 45 3 = 0 then some 0 else if ¬ nI (cnt (crawled Y) 1 0) = 0 then some 0 else some (1 : Int32)) (fun q2 => if isRt q2 = true then some 0 else none) := by
    unfold f_X10_isQuiet
    rw [x_noisy h4 h5 h6, bd_some, xa, bd_some, x_cc h4 h5 h6, bd_some]
  rw [fst_s] at e
  have hb0 : ∀ (P : Prop), (¬ (0 : Int32) = 0 ↔ P) ↔ ¬ P := fun P => ⟨fun z y => (z.mpr y) rfl, fun z => ⟨fun y => absurd rfl y, fun y => absurd y z⟩⟩
  by_cases c1 : noisy Y 0 = true
  · rw [if_pos c1, Option.map_some, oC_some, hpl, if_pos (show isRt 13 = true from rfl)] at e
    refine ⟨0, e, Or.inl rfl, (hb0 _).mpr (fun z => ?_), acts⟩
    rcases of_decide_eq_true c1 with y | y
    · exact y (a5.symm.trans z.1)
    · exact y (by rw [← a4, z.2.1]; exact Int32.le_refl _)
  · have nz := fun z => c1 (decide_eq_true z)
    have e14 : Y 14 0 = 0 := by
      by_cases z : Y 14 0 = 0
      · exact z
      · exact absurd (Or.inl z) nz
    have k0 : k = 0 := by
      rcases Nat.eq_zero_or_pos k with w | w
      · exact w
      · exact absurd (Or.inr (by rw [ek]; exact nI_nle w (by omega))) nz
    have f5 : X 13 5 = 0 := a5.trans e14
    have f4 : X 13 4 = 0 := by rw [a4, ek, k0]; rfl
    rw [if_neg c1, show fst (noisy Y) 0 (0 + 1) = none from rfl, Option.map_none, oC_none] at e
    by_cases c2 : X 45 3 = 0
    · rw [if_neg (fun z => z c2), cnt_s] at e
      by_cases c3 : crawled Y 0 = true
      · rw [if_pos c3, show cnt (crawled Y) 0 (0 + 1) = 0 from rfl, if_pos (show ¬ nI (1 + 0) = 0 by decide)] at e
        refine ⟨0, e, Or.inl rfl, (hb0 _).mpr (fun z => ?_), acts⟩
        have z4 := z.2.2.2
        rw [show X 16 4 = Y 15 0 from q4] at z4
        exact of_decide_eq_true c3 z4
      · rw [if_neg c3, show cnt (crawled Y) 0 (0 + 1) = 0 from rfl, if_neg (show ¬ ¬ nI (0 + 0) = 0 by decide)] at e
        refine ⟨1, e, Or.inr rfl, ⟨fun _ => ⟨f5, f4, c2, ?_⟩, fun _ => one0⟩, acts⟩
        rw [show X 16 4 = Y 15 0 from q4]
        by_cases z : Y 15 0 = 0
        · exact z
        · exact absurd (decide_eq_true z) c3
    · rw [if_pos c2] at e
      exact ⟨0, e, Or.inl rfl, (hb0 _).mpr (fun z => c2 z.2.2.1), acts⟩
/-- the parents, as the class has them -/
def prX (X : JX) : Nat → Option Nat := fun n => if n < 60 then dec (X 2 n) else none
theorem prX_eq {X Y : JX} {M : Nat} (hT : TY Y M) (hx : TX X Y) : prY Y = prX X := by
  funext n
  unfold prX
  by_cases hn : n < 60
  · rw [if_pos hn, (hx.2 n hn).1]
    cases p : prY Y n with
    | none => exact dec_m1.symm
    | some m => exact (dec_nI (sm (hT.lt n m p))).symm
  · rw [if_neg hn]
    unfold prY
    rw [if_neg (fun z => hn z.1)]
theorem prX_fr {X X' : JX} (h : X' 2 = X 2) : prX X' = prX X := by
  unfold prX
  rw [h]
/-- a work, the battery off: what holds in it, and its steps -/
theorem i_work0 {X : JX} {M m : Nat} (g : Gh X) (e8 : E8 X) (hM : M ≤ 24) (h9 : X 1 9 = nI M) (hC : CI M X) (h07 : X 0 7 = 0) (m1 : 1 ≤ m) (m2 : m ≤ 500) (PI : Nat → JX → Prop) (h0 : PI 0 X) (hPI : ∀ d Xa X1 c, PC (prX X) M Xa → CI M Xa → PI d Xa → Nx (prX X) Xa X1 c (m - d) → 1 ≤ c → d + c ≤ m → PI (d + c) X1) : ∃ d X' X1, f_X10_work X (nI m) = some (none, nI d, X') ∧ d ≤ m ∧ Gh X' ∧ WI M X X' ∧ PI d X1 ∧ WI M X X1 ∧ PC (prX X) M X1 ∧ (d = m ∨ ∃ c, c = 0 ∧ Nx (prX X) X1 X1 c (m - d)) ∧ (∀ q, q < 49 ∨ 52 < q → q ≠ 42 → q ≠ 48 → X' q = X1 q) := by
  obtain ⟨Y, hY⟩ := g
  obtain ⟨e, v, X', w, Y', h1, -, -, -, hr⟩ := op_16 hY (by omega) (nI m)
  obtain ⟨-, -, -, ⟨t1, t2, -⟩, -⟩ := hY.one hC.1.1 h9 (by omega)
  have hx : f_X10_work X (nI m) = (f_X4_doSteps X (nI m)).bind fun t3 => some (none, t3.1, t3.2) := by
    unfold f_X10_work
    rw [if_neg (show ¬ nI m < 1 from fun z => by have := (nI_ltI (a := m) (b := 1) (by omega) (by decide)).mp z; omega), if_pos (show nI m ≤ 500 from nI_le (b := 500) m2 (by decide)), if_neg (fun z => z h07)]
  rw [hx] at h1
  obtain ⟨⟨tv, tX⟩, g1, g2⟩ := bd_inv h1
  have g3 := Option.some.inj g2
  have e1 : none = e := congrArg Prod.fst g3
  have e2 : (tv, tX) = (v, X') := congrArg Prod.snd g3
  have e3 : tv = v := congrArg Prod.fst e2
  have e4 : tX = X' := congrArg Prod.snd e2
  subst e1 e3 e4
  have prs : ∀ {Xa Ya : JX} {P A : Nat}, RelW 20 X Y Xa Ya M 1 P A → WI M X Xa → prY Ya = prX X := fun hW hw => (prX_eq hW.1.1 hW.1.2.1).trans (prX_fr (hw.2 2 (by omega)))
  obtain ⟨d, X1, Y1, P, A1, b1, b2, b3, ⟨b4, b4'⟩, b5, b6, b7⟩ := i_steps hY (by omega) hC.1.1 h9 (by omega) m2 (fun d X' => PI d X' ∧ WI M X X') ⟨h0, hC, fun _ _ => rfl⟩ (fun d Xa Ya P A c X1 c1 c2 c3 c4 c5 c6 => by
    obtain ⟨z1, z2⟩ := WI_step c2 hM (by omega) (by omega) (by omega) c5 c3.2
    rw [prs c2 c3.2] at z2
    have hP := PC.of c2 hM c3.2.1
    rw [prs c2 c3.2] at hP
    exact ⟨hPI d Xa X1 c hP c3.2.1 c3.1 z2 c6 (by omega), z1⟩) g1
  subst b1
  have hw' := WI_ends b4' b6 b7
  have hP := PC.of b3 hM b4'.1
  rw [prs b3 b4'] at hP
  refine ⟨d, tX, X1, ?_, b2, hr.low (e8.fr (hw'.2 4 (by omega)) (hw'.2 8 (by omega))), hw', b4, b4', hP, ?_, b6⟩
  · rw [hx, g1]
    rfl
  · rcases b5 with z | z
    · exact Or.inl z
    · refine Or.inr ⟨0, rfl, ?_⟩
      have := (WI_step b3 hM (by omega) (by omega) (by omega) z b4').2
      rw [prs b3 b4'] at this
      exact this
theorem JJ.fr {pr : Nat → Option Nat} {X X' : JX} (f : ∀ q, q < 49 ∨ 52 < q → q ≠ 42 → q ≠ 48 → X' q = X q) (h : JJ pr X) : JJ pr X' := by
  have g := fun q (hq : q < 42) => f q (by omega) (by omega) (by omega)
  unfold JJ J1 J0 Bb clo pend wa rgt
  rw [g 13 (by omega), g 16 (by omega), g 18 (by omega), g 19 (by omega), g 2 (by omega), g 3 (by omega), g 4 (by omega), g 5 (by omega), g 8 (by omega), g 36 (by omega), g 37 (by omega), g 38 (by omega), g 39 (by omega), f 47 (by omega) (by omega) (by omega)]
  exact h
theorem Psi.fr {pr : Nat → Option Nat} {M : Nat} {X X' : JX} (f : ∀ q, q < 49 ∨ 52 < q → q ≠ 42 → q ≠ 48 → X' q = X q) : Psi pr M X' = Psi pr M X := by
  have g := fun q (hq : q < 42) => f q (by omega) (by omega) (by omega)
  have g47 := f 47 (by omega) (by omega) (by omega)
  have e1 : aX X' = aX X := by funext q; unfold aX; rw [g47]
  have e2 : bX X' = bX X := by funext q; unfold bX; rw [g 13 (by omega), g 18 (by omega)]
  have e3 : drX X' = drX X := by funext q; unfold drX; rw [g47]
  have e4 : flX X' = flX X := flX_fr (g 4 (by omega)) (g 5 (by omega))
  have e5 : unX X' = unX X := by funext q; unfold unX; rw [e4, g 36 (by omega), g 39 (by omega), g 8 (by omega)]
  have e6 : dgX M X' = dgX M X := by funext q; unfold dgX; rw [g 5 (by omega), g 13 (by omega), g47, g 36 (by omega)]
  unfold Psi twX hdX
  rw [e1, e2, e3, e4, e5, e6, g 13 (by omega), g 16 (by omega)]

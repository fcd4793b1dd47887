/-! ===== p32: works until all is quiet ===== -/
def q4 (X : JX) : Prop := X 13 5 = 0 ∧ X 13 4 = 0 ∧ (∀ n, n < 60 → X 47 n = 0) ∧ X 16 4 = 0
theorem wk0 {X : JX} {M m : Nat} (g : Gh X) (e8 : E8 X) (hM : M ≤ 24) (h9 : X 1 9 = nI M) (hC : CI M X) (h07 : X 0 7 = 0) (m1 : 1 ≤ m) (m2 : m ≤ 500) : ∃ d X', f_X10_work X (nI m) = some (none, nI d, X') ∧ d ≤ m ∧ Gh X' ∧ WI M X X' := by
  obtain ⟨d, X', -, h1, h2, h3, h4, -⟩ := i_work0 g e8 hM h9 hC h07 m1 m2 (fun _ _ => True) trivial (fun _ _ _ _ _ _ _ _ _ _ => trivial)
  exact ⟨d, X', h1, h2, h3, h4⟩
theorem ar1 {a b c t : Nat} (h : a + 480 ≤ b) (h2 : b + 480 * t ≤ c) : a + 480 * (t + 1) ≤ c := by
  rw [Nat.mul_succ]
  have h3 : a + 480 + 480 * t ≤ b + 480 * t := Nat.add_le_add_right h _
  rw [Nat.add_comm (480 * t) 480, ← Nat.add_assoc]
  exact Nat.le_trans h3 h2
theorem ar2 {a b c d e : Nat} (h1 : a + c ≤ b) (h2 : b + d ≤ e) : a + (d + c) ≤ e := by omega
theorem wkJ {X : JX} {M : Nat} (g : Gh X) (e8 : E8 X) (hM : M ≤ 24) (h9 : X 1 9 = nI M) (hC : CI M X) (h07 : X 0 7 = 0) (hJ : JJ (prX X) X) : ∃ d X', f_X10_work X 500 = some (none, nI d, X') ∧ Gh X' ∧ WI M X X' ∧ JJ (prX X) X' ∧ (q4 X' ∨ Psi (prX X) M X' + 480 ≤ Psi (prX X) M X) := by
  obtain ⟨m, hm⟩ : ∃ m, m = 500 := ⟨500, rfl⟩
  have e500 : (500 : Int32) = nI m := by rw [hm]; rfl
  rw [e500]
  obtain ⟨d, X', X1, h1, h2, h3, h4, ⟨h5, h6⟩, h7, h8, h10, f⟩ := i_work0 (m := m) g e8 hM h9 hC h07 (by omega) (by omega) (fun d Xa => JJ (prX X) Xa ∧ Psi (prX X) M Xa + d ≤ Psi (prX X) M X) ⟨hJ, Nat.le_of_eq (Nat.add_zero _)⟩ (fun d Xa X1 c a1 a2 a3 a4 a5 a6 => by
    refine ⟨JJ_step a1.1 a4 a3.1, ?_⟩
    exact ar2 (Psi_step a1 a4 a5) a3.2)
  refine ⟨d, X', h1, h3, h4, h5.fr f, ?_⟩
  rw [Psi.fr f]
  generalize Psi (prX X) M X1 = pa at h6 ⊢
  generalize Psi (prX X) M X = pb at h6 ⊢
  have g13 := f 13 (by omega) (by omega) (by omega)
  rcases h10 with z | ⟨c, c0, z⟩
  · right; omega
  · rcases z with ⟨z, -⟩ | ⟨z, -⟩ | z | ⟨z, -⟩ | ⟨-, z⟩
    · omega
    · omega
    · obtain ⟨-, -, n, hn, hk, z⟩ := z
      rcases z with ⟨z, -⟩ | ⟨z, -⟩ | z | ⟨z, -⟩ | ⟨-, -, z⟩
      · omega
      · omega
      · obtain ⟨-, -, -, -, -, -, -, -, z⟩ := z
        rcases z with ⟨z, -⟩ | ⟨-, -, z, -⟩ <;> omega
      · omega
      · right; omega
    · omega
    · refine Or.inl ⟨by rw [g13]; exact z.2.1, by rw [g13]; exact z.2.2.1, fun n hn => by rw [f 47 (by omega) (by omega) (by omega)]; exact z.2.2.2.1 n hn, by rw [f 16 (by omega) (by omega) (by omega)]; exact z.2.2.2.2⟩
theorem q4_qt {X : JX} {M : Nat} (g : Gh X) (h1 : One X) (h9 : X 1 9 = nI M) (hM : M ≤ 60) : q4 X ↔ qt X := by
  obtain ⟨b, -, -, -, e⟩ := x_quiet g h1 h9 hM
  unfold q4 qt
  rw [e]
/-- what the law's rows and the files of now are -/
def FR (X' X : JX) : Prop := ∀ q, q < 13 ∨ q = 34 ∨ (52 < q ∧ q < 116) ∨ (175 < q ∧ q < 179) → X' q = X q
theorem FR.rf (X : JX) : FR X X := fun _ _ => rfl
theorem FR.tr {X X' X'' : JX} (h : FR X'' X') (h2 : FR X' X) : FR X'' X := fun q a => (h q a).trans (h2 q a)
theorem FR.mrg {M : Nat} {X X' : JX} {k : Int32} (h : WI M X X') : FR (mrg X X' k) X := fun q hq => by
  by_cases c : q < 176
  · rw [mrg_lo c]; exact h.2 q (by omega)
  · rw [mrg_hi (by omega) (by omega)]
theorem CI.congr {M : Nat} {X X' : JX} (h : CI M X) (f : ∀ q, q < 176 → X' q = X q) : CI M X' := by
  obtain ⟨⟨a1, a2, a3⟩, ⟨b1, b2⟩, hE, hW⟩ := h
  refine ⟨⟨by rw [f 11 (by omega)]; exact a1, by rw [f 12 (by omega)]; exact a2, by rw [f 13 (by omega)]; exact a3⟩, ⟨by rw [f 6 (by omega)]; exact b1, by rw [f 48 (by omega)]; exact b2⟩, ?_, hW.same (fun q hq => f q (by omega))⟩
  unfold EP
  rw [f 36 (by omega), f 37 (by omega)]
  exact hE
theorem JJ.congr {pr : Nat → Option Nat} {X X' : JX} (h : JJ pr X) (g : ∀ q, q < 176 → X' q = X q) : JJ pr X' := by
  unfold JJ J1 J0 Bb clo pend wa rgt
  rw [g 13 (by omega), g 16 (by omega), g 18 (by omega), g 19 (by omega), g 2 (by omega), g 3 (by omega), g 4 (by omega), g 5 (by omega), g 8 (by omega), g 36 (by omega), g 37 (by omega), g 38 (by omega), g 39 (by omega), g 47 (by omega)]
  exact h
theorem Psi.congr {pr : Nat → Option Nat} {M : Nat} {X X' : JX} (g : ∀ q, q < 176 → X' q = X q) : Psi pr M X' = Psi pr M X := by
  have g47 := g 47 (by omega)
  have e1 : aX X' = aX X := by funext q; unfold aX; rw [g47]
  have e2 : bX X' = bX X := by funext q; unfold bX; rw [g 13 (by omega), g 18 (by omega)]
  have e3 : drX X' = drX X := by funext q; unfold drX; rw [g47]
  have e4 : flX X' = flX X := flX_fr (g 4 (by omega)) (g 5 (by omega))
  have e5 : unX X' = unX X := by funext q; unfold unX; rw [e4, g 36 (by omega), g 39 (by omega), g 8 (by omega)]
  have e6 : dgX M X' = dgX M X := by funext q; unfold dgX; rw [g 5 (by omega), g 13 (by omega), g47, g 36 (by omega)]
  unfold Psi twX hdX
  rw [e1, e2, e3, e4, e5, e6, g 13 (by omega), g 16 (by omega)]
theorem q4.congr {X X' : JX} (h : q4 X) (g : ∀ q, q < 176 → X' q = X q) : q4 X' := by
  unfold q4
  rw [g 13 (by omega), g 16 (by omega), g 47 (by omega)]
  exact h
theorem b_quiet {X : JX} {M : Nat} (g : Gh X) (h1 : One X) (h9 : X 1 9 = nI M) (hM : M ≤ 60) (hq : q4 X) : b_L_rests_29 X = some (1, X) := by
  obtain ⟨b, e1, e2, e3, -⟩ := x_quiet g h1 h9 hM
  have hb : ¬ b = 0 := e3.mpr ((q4_qt g h1 h9 hM).mp hq)
  have b1 : b = 1 := e2.resolve_left hb
  unfold b_L_rests_29
  rw [e1, bd_some, b1]
  rfl
theorem rests_loop {M : Nat} (hM : M ≤ 24) (Xs : JX) : ∀ k t F X, t + k = 12 → k + 1 ≤ F → Gh X → E8 X → CI M X → X 1 9 = nI M → X 0 7 = 0 → JJ (prX X) X → (q4 X ∨ Psi (prX X) M X + 480 * t ≤ 5272) → X 179 0 = nI k → FR X Xs → ∃ X', loop2 lb_L_rests_2 F X (nI t) = some (1, X') ∧ Gh X' ∧ CI M X' ∧ JJ (prX Xs) X' ∧ q4 X' ∧ FR X' Xs := by
  intro k
  induction k with
  | zero =>
    intro t F X ht hF g e8 hC h9 h07 hJ hP hb hfr
    obtain ⟨F', rfl⟩ := Nat.exists_eq_add_of_le' (show 1 ≤ F by omega)
    have : t = 12 := by omega
    subst this
    have hq : q4 X := hP.resolve_right (by omega)
    refine ⟨X, ?_, g, hC, by rw [← prX_fr (hfr 2 (by omega))]; exact hJ, hq, hfr⟩
    rw [zl2]
    generalize loop2 lb_L_rests_2 F' = R9
    unfold lb_L_rests_2
    rw [if_pos (show (12 : Int32) ≤ nI 12 from Int32.le_refl _)]
    exact b_quiet g hC.1 h9 (by omega) hq
  | succ k ih =>
    intro t F X ht hF g e8 hC h9 h07 hJ hP hb hfr
    obtain ⟨F', rfl⟩ := Nat.exists_eq_add_of_le' (show 1 ≤ F by omega)
    rw [zl2]
    have h9' := fun X4 => ih (t + 1) F' X4 (by omega) (by omega)
    generalize loop2 lb_L_rests_2 F' = R9 at h9'
    unfold lb_L_rests_2
    rw [if_neg (show ¬ (12 : Int32) ≤ nI t from nI_ge (show t < 12 by omega) (by decide))]
    obtain ⟨b, e1, e2, e3, -⟩ := x_quiet g hC.1 h9 (by omega)
    rw [e1, bd_some]
    by_cases hq : q4 X
    · have hb1 : ¬ b = 0 := e3.mpr ((q4_qt g hC.1 h9 (by omega)).mp hq)
      refine ⟨X, ?_, g, hC, by rw [← prX_fr (hfr 2 (by omega))]; exact hJ, hq, hfr⟩
      rw [if_pos hb1]
      exact b_quiet g hC.1 h9 (by omega) hq
    · have hb0 : b = 0 := by
        by_cases z : b = 0
        · exact z
        · exact absurd ((q4_qt g hC.1 h9 (by omega)).mpr (e3.mp z)) hq
      rw [if_neg (fun z => z hb0)]
      obtain ⟨d, X', w1, w2, w3, w4, w5⟩ := wkJ g e8 hM h9 hC h07 hJ
      have lo : ∀ q, q < 176 → mrg X X' 1 q = X' q := fun q hq => mrg_lo hq
      have hfm : FR (mrg X X' 1) X := FR.mrg w3
      have pr2 : prX (mrg X X' 1) = prX X := prX_fr (hfm 2 (by omega))
      obtain ⟨Xe, r1, r2⟩ := h9' (mrg X X' 1) (w2.congr lo) (e8.fr (hfm 4 (by omega)) (hfm 8 (by omega))) (w3.1.congr lo) (by rw [hfm 1 (by omega)]; exact h9) (by rw [hfm 0 (by omega)]; exact h07) (by rw [pr2]; exact w4.congr lo) (by
        rw [pr2, Psi.congr lo]
        rcases w5 with z | z
        · exact Or.inl (z.congr lo)
        · rcases hP with y | y
          · exact absurd y hq
          · exact Or.inr (ar1 z y)) (by rw [mrg_179, hb, n_sub1 (Nat.succ_pos k)]; rfl) (hfm.tr hfr)
      refine ⟨Xe, ?_, r2⟩
      rw [w1, bd_some]
      unfold thn
      rw [if_pos rfl, hb, if_pos (show (0 : Int32) < nI (k + 1) from nI_lt (a := 0) (by omega) (by omega))]
      show (nV (nI t + 1) fun t5 => R9 (mrg X X' 1) t5) = _
      rw [dV_eq, n_add1]
      exact r1
theorem rests {M : Nat} {X : JX} (hM : M ≤ 24) (g : Gh X) (e8 : E8 X) (hC : CI M X) (h9 : X 1 9 = nI M) (h07 : X 0 7 = 0) (hJ : JJ (prX X) X) (hP : Psi (prX X) M X ≤ 5272) : ∃ X', f_L_rests (sbu X 12) = some (1, X') ∧ Gh X' ∧ CI M X' ∧ JJ (prX X) X' ∧ q4 X' ∧ FR X' X := by
  have lo : ∀ q, q < 176 → sbu X 12 q = X q := fun q hq => sbu_ne (by omega)
  have fr : FR (sbu X 12) X := fun q hq => sbu_ne (by omega)
  have pr2 : prX (sbu X 12) = prX X := prX_fr (lo 2 (by omega))
  obtain ⟨X', r1, r2, r3, r4, r5, r6⟩ := rests_loop hM (sbu X 12) 12 0 1000 (sbu X 12) (Nat.zero_add _) (by omega) (g.congr lo) (e8.fr (lo 4 (by omega)) (lo 8 (by omega))) (hC.congr lo) (by rw [lo 1 (by omega)]; exact h9) (by rw [lo 0 (by omega)]; exact h07) (by rw [pr2]; exact hJ.congr lo) (Or.inr (by rw [pr2, Psi.congr lo, Nat.mul_zero, Nat.add_zero]; exact hP)) sbu_179 (FR.rf _)
  rw [pr2] at r4
  exact ⟨X', r1, r2, r3, r4, r5, r6.tr fr⟩

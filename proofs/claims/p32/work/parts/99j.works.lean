/-! ===== p32: what holds through a work ===== -/
def EP (M : Nat) (X : JX) : Prop := ∀ k, k < 60 → X 36 k ≠ 0 → ∃ m, m < M ∧ X 37 k = nI m
def WD (X : JX) : Prop := ∀ n, n < 60 → X 5 n ≠ 0 → X 4 n = 0 → (X 36 n ≠ 0 → X 39 n = X 8 n → wds X n) ∧ ∃ e e', e ≤ e' ∧ e' ≤ 2600 ∧ X 39 n = nI e ∧ X 8 n = nI e'
def One (X : JX) : Prop := X 11 2 = 1 ∧ X 12 0 = 13 ∧ X 13 3 = 0
def CI (M : Nat) (X : JX) : Prop := One X ∧ ((∀ n, n < 60 → X 6 n = 0) ∧ ∀ n, n < 60 → X 48 n = 0) ∧ EP M X ∧ WD X
theorem Nx_frz {pr : Nat → Option Nat} {X X1 : JX} {c left : Nat} (h : Nx pr X X1 c left) : (∀ q, q < 13 ∨ q = 34 ∨ (47 < q ∧ q < 116) → X1 q = X q) ∧ X1 13 3 = X 13 3 := by
  rcases h with ⟨-, -, x13, oth, -⟩ | ⟨-, -, k, n, v, -, -, -, -, x13, -, -, oth⟩ | h | ⟨-, -, -, -, -, f, -, -, fr, -⟩ | ⟨-, rfl, -⟩
  · exact ⟨fun q hq => oth q (by omega) (by omega), by rw [x13, u_at, if_neg (by omega)]⟩
  · exact ⟨fun q hq => oth q (by omega) (by omega) (by omega) (by omega), by rw [x13, u_at, if_neg (by omega)]⟩
  · have fr := act_fr h
    refine ⟨fun q hq => ?_, by rw [fr 13 (by omega)]⟩
    obtain ⟨-, -, n, hn, hk, h⟩ := h
    rcases h with ⟨-, hp, x47, oth, x36, going⟩ | ⟨-, hp, k2, x47, oth⟩ | ⟨hp, h5, h4, x47, hr, x37, x36, oth, -⟩ | ⟨-, hp, h5, h4, x47, hr, x37, x36, oth⟩ | ⟨-, rfl, -⟩
    · exact oth q (by omega) (by omega) (by omega) (by omega) (by omega) (by omega)
    · exact oth q (by omega) (by omega) (by omega)
    · exact oth q (by omega) (by omega) (by omega) (by omega) (by omega) (by omega)
    · exact oth q (by omega) (by omega) (by omega) (by omega)
    · rfl
  · exact ⟨fun q hq => fr q (by omega) (by omega) (by omega) (by omega), by rw [fr 13 (by omega) (by omega) (by omega) (by omega)]⟩
  · exact ⟨fun _ _ => rfl, rfl⟩
theorem EP_step {pr : Nat → Option Nat} {M : Nat} {X X1 : JX} {c left : Nat} (hF : TF pr X) (hM : ∀ n m, pr n = some m → m < M) (h : Nx pr X X1 c left) (hE : EP M X) : EP M X1 := by
  have par : ∀ n, pr n ≠ none → ∃ m, m < M ∧ X 2 n = nI m := fun n hn => by
    obtain ⟨n6, -, -, m, em, -⟩ := hF.2.2.1 n hn
    exact ⟨m, hM n m em, by rw [hF.2.1 n n6, em]; rfl⟩
  have same : X1 36 = X 36 → X1 37 = X 37 → EP M X1 := fun a b => by unfold EP; rw [a, b]; exact hE
  rcases h with ⟨-, -, x13, oth, -⟩ | ⟨-, -, k, n, v, -, -, -, -, x13, -, -, oth⟩ | h | ⟨-, -, -, -, -, f, -, -, fr, -⟩ | ⟨-, rfl, -⟩
  · exact same (oth 36 (by omega) (by omega)) (oth 37 (by omega) (by omega))
  · exact same (oth 36 (by omega) (by omega) (by omega) (by omega)) (oth 37 (by omega) (by omega) (by omega) (by omega))
  · obtain ⟨-, -, n, hn, hk, h⟩ := h
    rcases h with ⟨-, hp, x47, oth, x36, going⟩ | ⟨-, hp, k2, x47, oth⟩ | ⟨hp, h5, h4, x47, hr, x37, x36, oth, -⟩ | ⟨-, hp, h5, h4, x47, hr, x37, x36, oth⟩ | ⟨-, rfl, -⟩
    · intro k k6 hk36
      rw [oth 37 (by omega) (by omega) (by omega) (by omega) (by omega) (by omega)]
      refine hE k k6 ?_
      rcases going k k6 with y | ⟨y, -⟩
      · rw [← y]; exact hk36
      · exact absurd y hk36
    · exact same (oth 36 (by omega) (by omega) (by omega)) (oth 37 (by omega) (by omega) (by omega))
    · intro k k6 hk36
      by_cases kn : k = n
      · rw [kn, x37]; exact par n hp
      · rw [(x36 k kn).2.1]
        rw [(x36 k kn).1] at hk36
        exact hE k k6 hk36
    · intro k k6 hk36
      by_cases kn : k = n
      · rw [kn, x37]; exact par n hp
      · rw [(x36 k kn).2.1]
        rw [(x36 k kn).1] at hk36
        exact hE k k6 hk36
    · exact hE
  · exact same (fr 36 (by omega) (by omega) (by omega) (by omega)) (fr 37 (by omega) (by omega) (by omega) (by omega))
  · exact hE
theorem wds.fr {X X1 : JX} {n : Nat} (h : wds X n) (h34 : X1 34 = X 34) (h9 : X1 9 = X 9) (ht : X1 (56 + n) = X (56 + n)) (h40 : X1 40 n = X 40 n) (hw : X1 (116 + n) = X (116 + n)) : wds X1 n := by
  unfold wds
  rw [tkX_fr h34 h9 ht, h40, hw]
  exact h
theorem WD.same {X X1 : JX} (h : WD X) (f : ∀ q, q = 4 ∨ q = 5 ∨ q = 8 ∨ q = 9 ∨ q = 34 ∨ q = 36 ∨ q = 39 ∨ q = 40 ∨ (56 ≤ q ∧ q < 176) → X1 q = X q) : WD X1 := by
  intro n hn
  rw [f 5 (by omega), f 4 (by omega), f 36 (by omega), f 39 (by omega), f 8 (by omega)]
  intro a b
  obtain ⟨h1, h2⟩ := h n hn a b
  exact ⟨fun c d => (h1 c d).fr (f 34 (by omega)) (f 9 (by omega)) (f (56 + n) (by omega)) (by rw [f 40 (by omega)]) (f (116 + n) (by omega)), h2⟩
theorem WD_step {pr : Nat → Option Nat} {X X1 : JX} {c left : Nat} (h : Nx pr X X1 c left) (hW : WD X) : WD X1 := by
  rcases h with ⟨-, -, x13, oth, -⟩ | ⟨-, -, k, n, v, -, -, -, -, x13, -, -, oth⟩ | h | ⟨-, -, -, -, -, f, -, -, fr, -⟩ | ⟨-, rfl, -⟩
  · exact hW.same (fun q hq => oth q (by omega) (by omega))
  · exact hW.same (fun q hq => oth q (by omega) (by omega) (by omega) (by omega))
  · obtain ⟨-, -, n, hn, hk, h⟩ := h
    rcases h with ⟨-, hp, x47, oth, x36, going⟩ | ⟨-, hp, k2, x47, oth⟩ | ⟨hp, h5, h4, x47, hr, x37, x36, oth, hcase⟩ | ⟨-, hp, h5, h4, x47, hr, x37, x36, oth⟩ | ⟨-, rfl, -⟩
    · intro k k6 a5 a4
      have o := fun q (hq : q ≠ 36 ∧ (q < 42 ∨ 47 < q)) => oth q hq.1 (by omega) (by omega) (by omega) (by omega) (by omega)
      rw [o 5 (by omega)] at a5
      rw [o 4 (by omega)] at a4
      rw [o 39 (by omega), o 8 (by omega)]
      obtain ⟨h1, h2⟩ := hW k k6 a5 a4
      refine ⟨fun c d => (h1 ?_ d).fr (o 34 (by omega)) (o 9 (by omega)) (o (56 + k) (by omega)) (by rw [o 40 (by omega)]) (o (116 + k) (by omega)), h2⟩
      rcases going k k6 with y | ⟨y, -⟩
      · rw [← y]; exact c
      · exact absurd y c
    · exact hW.same (fun q hq => oth q (by omega) (by omega) (by omega))
    · intro k k6 a5 a4
      have o := fun q (hq : (q < 36 ∨ 47 < q) ∧ q ≠ 116 + n) => oth q (by omega) (by omega) (by omega) (by omega) (by omega) hq.2
      rw [o 5 (by omega)] at a5
      rw [o 4 (by omega)] at a4
      obtain ⟨h1, e, e', h2, h3, h6, h7⟩ := hW k k6 a5 a4
      by_cases kn : k = n
      · subst kn
        refine ⟨fun _ _ => ?_, e', e', Nat.le_refl _, h3, ?_, by rw [o 8 (by omega)]; exact h7⟩
        · rcases hcase with ⟨-, c1, c2, c3, c4⟩ | ⟨-, -, -, w⟩
          · exact (h1 c1 c2).fr (o 34 (by omega)) (o 9 (by omega)) (o (56 + k) (by omega)) c3 c4
          · exact w
        · rw [hr.2.2.2 ⟨by rw [o 5 (by omega)]; exact a5, by rw [o 4 (by omega)]; exact a4⟩, o 8 (by omega)]
          exact h7
      · obtain ⟨y1, -, -, y4, y5⟩ := x36 k kn
        rw [y1, y4, o 8 (by omega)]
        exact ⟨fun c d => (h1 c d).fr (o 34 (by omega)) (o 9 (by omega)) (o (56 + k) (by omega)) y5 (o (116 + k) (by omega)), e, e', h2, h3, h6, h7⟩
    · intro k k6 a5 a4
      have o := fun q (hq : (q < 36 ∨ 38 < q) ∧ (q < 45 ∨ 47 < q)) => oth q (by omega) (by omega) (by omega) (by omega)
      rw [o 5 (by omega)] at a5
      rw [o 4 (by omega)] at a4
      have kn : k ≠ n := fun z => h4 (by rw [← z]; exact a4)
      obtain ⟨h1, h2⟩ := hW k k6 a5 a4
      rw [(x36 k kn).1, o 39 (by omega), o 8 (by omega)]
      exact ⟨fun c d => (h1 c d).fr (o 34 (by omega)) (o 9 (by omega)) (o (56 + k) (by omega)) (by rw [o 40 (by omega)]) (o (116 + k) (by omega)), h2⟩
    · exact hW
  · exact hW.same (fun q hq => fr q (by omega) (by omega) (by omega) (by omega))
  · exact hW
theorem CI_step {pr : Nat → Option Nat} {M : Nat} {X X1 : JX} {c left : Nat} (hF : TF pr X) (hM : ∀ n m, pr n = some m → m < M) (h : Nx pr X X1 c left) (hC : CI M X) : CI M X1 := by
  obtain ⟨⟨a1, a2, a3⟩, ⟨b1, b2⟩, hE, hW⟩ := hC
  obtain ⟨fr, f3⟩ := Nx_frz h
  refine ⟨⟨by rw [fr 11 (by omega)]; exact a1, by rw [fr 12 (by omega)]; exact a2, by rw [f3]; exact a3⟩, ⟨by rw [fr 6 (by omega)]; exact b1, by rw [fr 48 (by omega)]; exact b2⟩, EP_step hF hM h hE, WD_step h hW⟩
theorem prY_eq {X Y X' Y' : JX} {M M' : Nat} (hT : TY Y M) (hx : TX X Y) (hT' : TY Y' M') (hx' : TX X' Y') (h2 : X' 2 = X 2) : prY Y' = prY Y := by
  funext n
  by_cases hn : n < 60
  · have e1 := (hx.2 n hn).1
    have e2 := (hx'.2 n hn).1
    rw [h2, e1] at e2
    cases p : prY Y n with
    | none =>
      cases p' : prY Y' n with
      | none => rfl
      | some m' =>
        rw [p, p'] at e2
        exact absurd e2.symm (nm1 (sm (hT'.lt n m' p')))
    | some m =>
      cases p' : prY Y' n with
      | none =>
        rw [p, p'] at e2
        exact absurd e2 (nm1 (sm (hT.lt n m p)))
      | some m' =>
        rw [p, p'] at e2
        rw [(nI_eq (sm (hT.lt n m p)) (sm (hT'.lt n m' p'))).mp e2]
  · unfold prY
    rw [if_neg (fun z => hn z.1), if_neg (fun z => hn z.1)]
/-- a work's first state -/
theorem relw0 {i M R A P S : Nat} {Xs Ys : JX} (hT : TY Ys M ∧ TX Xs Ys ∧ TV Ys i) (hR : RY Ys R ∧ RX Xs Ys R ∧ QX Xs Ys R) (hE : EX Xs Ys ∧ EY Ys M) (hK : KY Ys A ∧ KX Xs Ys A) (hI : IY Ys P S ∧ IX Xs Ys P S ∧ IQ Ys P S) (s1 : Xs 34 0 = Ys 0 28) (s2 : Xs 34 1 = Ys 0 29) (hSY : SY Ys) : PL Ys M P ∧ Ys 0 37 = nI P ∧ RelW i Xs Ys Xs Ys M R P A := by
  obtain ⟨hIY, hIX, hS3, hIQ2, hIQ3⟩ := hI
  have hM60 := hT.1.1.2.1
  have h02 : Ys 0 2 = nI M := hT.1.1.2.2
  let ok : Nat → Prop := fun n => nI n < Ys 0 2 ∧ Ys 2 n = 0
  have hpl : ∀ k n, k < P → n < 60 → Ys 29 k = nI n → ok n := fun k n hk hn en => by
    obtain ⟨-, ⟨n', hn', en', z1, z2⟩, -⟩ := hIY.2.1 k hk
    have : n' = n := (nI_eq (sm hn') (sm hn)).mp (en'.symm.trans en)
    rw [← this]
    exact ⟨z1, z2⟩
  have hID : ID ok (fun _ => True) Xs (Ys 28) (Ys 29) (Ys 30) P S := ID.of (by omega) hIY hIX hpl (fun _ _ _ => trivial)
  have hP : P ≤ 60 * S := hID.P (by omega)
  have hnd : ∀ k, k < P → ∃ n, n < 60 ∧ Ys 29 k = nI n ∧ nd Ys k = n := fun k hk => by
    obtain ⟨-, ⟨n, hn, en, -⟩, -⟩ := hID.1 k hk
    exact ⟨n, hn, en, by unfold nd; rw [en, nI_clamp (sm hn)]⟩
  have hPL : PL Ys M P := ⟨by omega, fun k hk => by
    obtain ⟨n, hn, en, e⟩ := hnd k hk
    obtain ⟨z1, z2⟩ := hpl k n hk hn en
    rw [e]
    rw [h02] at z1
    exact ⟨en, (nI_ltI (sm hn) (by omega)).mp z1, z2⟩⟩
  have hLV : LV Ys Ys P := fun k hk => by
    obtain ⟨n, hn, en, e⟩ := hnd k hk
    refine ⟨hID.b k hk, fun z => ⟨z, ?_, ?_⟩, fun z => z.1⟩
    · rw [e]; exact hIQ2 k n hk hn en z
    · rw [e]; exact hIQ3 n hn
  exact ⟨hPL, hIY.1.1, ⟨hT, hR, ⟨hE.1, hE.2, fun n hn => ⟨Or.inl (hIQ3 n hn), fun z => absurd (hIQ3 n hn) z⟩⟩, hK, hLV, ⟨⟨s1, s2⟩, hSY⟩, rfl, fun _ _ _ => rfl, rfl, rfl, rfl, fun _ _ _ => rfl⟩⟩
theorem c_stepsP {i M P m : Nat} {Xs Ys : JX} (hPL : PL Ys M P) (h37 : Ys 0 37 = nI P) (hi : i ≤ 2560) (hm : m ≤ 500) (PI : Nat → JX → Prop) (hPI : ∀ d X Y A c X1, d < m → RelW i Xs Ys X Y M 1 P A → PI d X → c ≤ m - d → f_X4_doNext X (nI (m - d)) = some (nI c, X1) → 1 ≤ c → PI (d + c) X1) : ∀ k d t F X Y A, d + k = m → t ≤ d → k + 1 ≤ F → RelW i Xs Ys X Y M 1 P A → PI d X → ∃ X' Y' A' d', loop3 (lb_X4_doSteps_4 (nI m)) F X (nI d) (nI t) = b_X4_doSteps_42 X' (nI d') ∧ RelW i Xs Ys X' Y' M 1 P A' ∧ PI d' X' ∧ d' ≤ m ∧ (d' = m ∨ f_X4_doNext X' (nI (m - d')) = some (nI 0, X')) := by
  intro k
  induction k using Nat.strongRecOn with
  | _ k ih =>
    intro d t F X Y A hd ht hF h hp
    obtain ⟨F', rfl⟩ := Nat.exists_eq_add_of_le' (show 1 ≤ F by omega)
    by_cases hk : k = 0
    · subst hk
      have e : m = d := by omega
      subst e
      refine ⟨X, Y, A, m, ?_, h, hp, Nat.le_refl _, Or.inl rfl⟩
      rw [zl3]
      generalize loop3 (lb_X4_doSteps_4 (nI m)) F' = R9
      unfold lb_X4_doSteps_4
      rw [if_pos (show nI m ≤ nI m from Int32.le_refl _)]
      split <;> rfl
    · obtain ⟨c, X1, Y1, A1, hc, x1, -, h1, h0⟩ := c_does h hPL h37 hi (left := m - d) (by omega) (by omega)
      have xhead : loop3 (lb_X4_doSteps_4 (nI m)) (F' + 1) X (nI d) (nI t) = if ¬ nI c = 0 then loop3 (lb_X4_doSteps_4 (nI m)) F' X1 (nI d + nI c) (nI (t + 1)) else b_X4_doSteps_42 X1 (nI d) := by
        rw [zl3]
        generalize loop3 (lb_X4_doSteps_4 (nI m)) F' = R9
        unfold lb_X4_doSteps_4
        rw [if_neg (show ¬ nI m ≤ nI t from nI_ge (by omega) (by omega)), if_neg (show ¬ nI m ≤ nI d from nI_ge (by omega) (by omega)), n_sub (show d ≤ m by omega), x1, bd_some, dV_eq, dV_eq, n_add1]
      by_cases c0 : c = 0
      · subst c0
        obtain ⟨-, e2⟩ := h0 rfl
        rw [e2] at h1 x1 xhead
        refine ⟨X, Y1, A1, d, ?_, h1, hp, by omega, Or.inr x1⟩
        rw [xhead, if_neg (fun z => z rfl)]
      · obtain ⟨X', Y', A', d', a1, a3, a4, a5, a6⟩ := ih (k - c) (by omega) (d + c) (t + 1) F' X1 Y1 A1 (by omega) (by omega) (by omega) h1 (hPI d X Y A c X1 (by omega) h hp hc x1 (by omega))
        refine ⟨X', Y', A', d', ?_, a3, a4, a5, a6⟩
        rw [xhead, if_pos (nI_ne0 (by omega) (by omega)), nI_add]
        exact a1
/-- all of a work but the hour -/
theorem i_steps {i m M : Nat} {X Y X' : JX} {v : Int32} (h : Rel i X Y) (hi : i ≤ 2560) (h11 : X 11 2 = 1) (h9 : X 1 9 = nI M) (hM : M ≤ 60) (hm : m ≤ 500) (PI : Nat → JX → Prop) (h0 : PI 0 X) (hPI : ∀ d Xa Ya P A c X1, d < m → RelW i X Y Xa Ya M 1 P A → PI d Xa → c ≤ m - d → f_X4_doNext Xa (nI (m - d)) = some (nI c, X1) → 1 ≤ c → PI (d + c) X1) (hN : f_X4_doSteps X (nI m) = some (v, X')) : ∃ d X1 Y1 P A1, v = nI d ∧ d ≤ m ∧ RelW i X Y X1 Y1 M 1 P A1 ∧ PI d X1 ∧ (d = m ∨ f_X4_doNext X1 (nI (m - d)) = some (nI 0, X1)) ∧ (∀ q, q < 49 ∨ 52 < q → q ≠ 42 → q ≠ 48 → X' q = X1 q) ∧ ∀ n, n < 60 → X' 48 n = 0 := by
  obtain ⟨M', R, A, P, S, ⟨h1, h2, h3⟩, ⟨h4, h5, h6⟩, hE, hK, hI, ⟨s1, s2, -⟩, hSY⟩ := h
  have eM : M' = M := by
    have := h2.1.symm.trans h9
    rw [h1.1.2.2] at this
    exact (nI_eq (by have := h1.1.2.1; omega) (by omega)).mp this
  subst eM
  have eR : R = 1 := by
    have := h5.2.1.symm.trans h11
    exact (nI_eq (b := 1) (by have := h4.1.1; omega) (by decide)).mp this
  subst eR
  obtain ⟨hPL, h37, hW⟩ := relw0 ⟨h1, h2, h3⟩ ⟨h4, h5, h6⟩ hE hK hI s1 s2 hSY
  obtain ⟨X1, Y1, A1, d, a1, a2, a3, a4, a5⟩ := c_stepsP hPL h37 hi hm PI (fun d Xa Ya A c X1 b1 b2 b3 b4 b5 b6 => hPI d Xa Ya P A c X1 b1 b2 b3 b4 b5 b6) m 0 0 1000 X Y A (Nat.zero_add _) (Nat.le_refl _) (by omega) hW h0
  have e : f_X4_doSteps X (nI m) = b_X4_doSteps_42 X1 (nI d) := a1
  rw [e] at hN
  obtain ⟨b1, b2, b3, -⟩ := i_ends hN
  exact ⟨d, X1, Y1, P, A1, b1, a4, a2, a3, a5, b2, b3⟩
theorem PC.of {i M P A : Nat} {Xs Ys X Y : JX} (h : RelW i Xs Ys X Y M 1 P A) (hM : M ≤ 24) (hC : CI M X) : PC (prY Y) M X := by
  obtain ⟨⟨h1, h2, h3⟩, ⟨h4, h5, h6⟩, -⟩ := h
  have hpl : pl X 0 = 13 := by unfold pl; rw [hC.1.2.1]; rfl
  obtain ⟨hNQ, -⟩ := ((QX_is X Y 1) ▸ h6) 0 (by omega)
  rw [hpl] at hNQ
  obtain ⟨a4, a5, k, k8, ek, ef, -⟩ := hNQ
  refine ⟨TF.of h1 h2, ⟨hM, fun n hn h5 => h1.2.2.1 n hn (by rw [← (h2.2 n hn).2.2.2.1]; exact h5)⟩, hC.2.2.1, ⟨k, k8, a4.trans ek, fun z => ?_⟩, by rw [(h2.2 0 (by omega)).2.2.1]; exact h1.2.1.2.1⟩
  rcases ef with y | y
  · exact absurd (a5.trans y) z
  · exact y.2
/-- what stays in a work: the class's invariants, and the files -/
def WI (M : Nat) (Xs X : JX) : Prop := CI M X ∧ ∀ q, q < 13 ∨ q = 34 ∨ (52 < q ∧ q < 116) → X q = Xs q
theorem WI_step {i M P A c left : Nat} {Xs X0 Y0' X Y X1 : JX} (h : RelW i X0 Y0' X Y M 1 P A) (hM : M ≤ 24) (hi : i ≤ 2560) (hl : left ≤ 500) (hc : c ≤ 500) (hN : f_X4_doNext X (nI left) = some (nI c, X1)) (hW : WI M Xs X) : WI M Xs X1 ∧ Nx (prY Y) X X1 c left := by
  obtain ⟨hC, hfr⟩ := hW
  have hx := i_next h hC.1.2.1 hC.1.2.2 hC.2.1.1 hC.2.1.2 hi hl hc hN
  have hP := PC.of h hM hC
  refine ⟨⟨CI_step hP.1 (fun n m e => (hP.lt e).2) hx hC, fun q hq => ?_⟩, hx⟩
  rw [(Nx_frz hx).1 q (by omega)]
  exact hfr q hq
theorem WI_ends {M : Nat} {Xs X1 X' : JX} (h : WI M Xs X1) (f : ∀ q, q < 49 ∨ 52 < q → q ≠ 42 → q ≠ 48 → X' q = X1 q) (f48 : ∀ n, n < 60 → X' 48 n = 0) : WI M Xs X' := by
  obtain ⟨⟨⟨a1, a2, a3⟩, ⟨b1, b2⟩, hE, hW⟩, hfr⟩ := h
  have g := fun q (hq : (q < 49 ∨ 52 < q) ∧ q ≠ 42 ∧ q ≠ 48) => f q hq.1 hq.2.1 hq.2.2
  refine ⟨⟨⟨by rw [g 11 (by omega)]; exact a1, by rw [g 12 (by omega)]; exact a2, by rw [g 13 (by omega)]; exact a3⟩, ⟨by rw [g 6 (by omega)]; exact b1, f48⟩, ?_, hW.same (fun q hq => g q (by omega))⟩, fun q hq => (g q (by omega)).trans (hfr q hq)⟩
  unfold EP
  rw [g 36 (by omega), g 37 (by omega)]
  exact hE

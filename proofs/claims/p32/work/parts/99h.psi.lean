/-! ===== p32: each step makes what is still to do less by its cost (2) ===== -/
theorem flX_fr {X X1 : JX} (h4 : X1 4 = X 4) (h5 : X1 5 = X 5) : flX X1 = flX X := by
  funext q
  unfold flX
  rw [h4, h5]
theorem hdX_fr {X X1 : JX} (h13 : X1 13 = X 13) (h16 : X1 16 4 = X 16 4) : hdX X1 = hdX X := by
  unfold hdX
  rw [h13, h16]
theorem Psi_sum {pr : Nat → Option Nat} {M c : Nat} {X X1 : JX} (h1 : hdX X1 ≤ hdX X) (h2 : twX pr X1 + 1 ≤ twX pr X) (h3 : cnt (drX X1) 60 0 ≤ cnt (drX X) 60 0) (h4 : c + 20 * (cnt (unX X1) 60 0 + cnt (flX X1) 60 0 * cnt (dgX M X1) 60 0) ≤ 1 + 20 * (cnt (unX X) 60 0 + cnt (flX X) 60 0 * cnt (dgX M X) 60 0)) : Psi pr M X1 + c ≤ Psi pr M X := by
  unfold Psi
  omega
theorem un_le {X X1 : JX} {M : Nat} (hf : flX X1 = flX X) (h1 : cnt (unX X1) 60 0 ≤ cnt (unX X) 60 0) (h2 : cnt (dgX M X1) 60 0 ≤ cnt (dgX M X) 60 0) : cnt (unX X1) 60 0 + cnt (flX X1) 60 0 * cnt (dgX M X1) 60 0 ≤ cnt (unX X) 60 0 + cnt (flX X) 60 0 * cnt (dgX M X) 60 0 := by
  have h3 : cnt (flX X) 60 0 * cnt (dgX M X1) 60 0 ≤ cnt (flX X) 60 0 * cnt (dgX M X) 60 0 := Nat.mul_le_mul_left _ h2
  rw [hf]
  omega
theorem Psi_flood {pr : Nat → Option Nat} {M : Nat} {X X1 : JX} (hP : PC pr M X) (h : Nflood X X1) : Psi pr M X1 + 1 ≤ Psi pr M X := by
  obtain ⟨f5, x13, oth, x164, x18, x19⟩ := h
  obtain ⟨k, k8, ek, e0⟩ := hP.2.2.2.1
  have k0 := e0 f5
  have e4 : X1 13 4 = X 13 4 := by rw [x13, u_at, if_neg (by omega)]
  have e5 : X1 13 5 = 0 := by rw [x13, u_at, if_pos rfl]
  have o47 := oth 47 (by omega) (by omega)
  have hh : hdX X1 + 613 ≤ hdX X := by
    unfold hdX
    rw [if_neg (fun z => z e5), if_pos f5, e4, ek, k0, nI_clamp (by omega), if_neg (show ¬ X1 16 4 = 0 by rw [x164]; exact one0)]
    omega
  have ht : twX pr X1 ≤ twX pr X + 612 := by
    have hb : ∀ q, q ≠ 0 → bX X1 q = 0 := fun q q0 => by
      unfold bX
      by_cases c : X1 13 5 ≠ 0 ∨ 60 ≤ q ∨ X1 18 q = 0
      · rw [if_pos c]
      · have q6 : q < 60 := by
          rcases Nat.lt_or_ge q 60 with w | w
          · exact w
          · exact absurd (Or.inr (Or.inl w)) c
        exact absurd (Or.inr (Or.inr (by rw [x18 q q6, if_neg q0]))) c
    have h1 := twX_b1 hP (a := aX X1) hb (bX_1 X1 0)
    have h2 : su (fun m => tw (aX X1) (fun _ => 0) pr 60 0 (some m)) 60 0 ≤ twX pr X := su_le 60 0 (fun j _ _ => tw_le 60 0 (some j) (fun q _ => ⟨aX_le (fun _ => by rw [o47]; exact id), Nat.zero_le _⟩))
    unfold twX at h2 ⊢
    omega
  have hd : drX X1 = drX X := by funext q; unfold drX; rw [o47]
  have hf : flX X1 = flX X := flX_fr (oth 4 (by omega) (by omega)) (oth 5 (by omega) (by omega))
  have hu : unX X1 = unX X := by funext q; unfold unX; rw [hf, oth 36 (by omega) (by omega), oth 39 (by omega) (by omega), oth 8 (by omega) (by omega)]
  have hg : dgX M X1 = dgX M X := by funext q; unfold dgX; rw [e4, o47, oth 36 (by omega) (by omega), oth 5 (by omega) (by omega)]
  unfold Psi
  rw [hd, hu, hf, hg]
  omega
theorem Psi_note {pr : Nat → Option Nat} {M : Nat} {X X1 : JX} (hP : PC pr M X) (h : Nnote X X1) : Psi pr M X1 + 1 ≤ Psi pr M X := by
  obtain ⟨f5, k, n, v, k1, k8, hn, x4, x13, hv, x47, oth⟩ := h
  have e4 : X1 13 4 = nI (k - 1) := by rw [x13, u_at, if_pos rfl]
  have e5 : X1 13 5 = 0 := by rw [x13, u_at, if_neg (by omega)]; exact f5
  have o := fun q (hq : q < 13 ∨ 15 < q) (h : q < 45 ∨ 47 < q) => oth q hq (by omega) (by omega) (by omega)
  have hh : hdX X1 + 62 ≤ hdX X := by
    unfold hdX
    rw [if_neg (show ¬ (X1 13 5 ≠ 0) from fun z => z e5), if_neg (show ¬ (X 13 5 ≠ 0) from fun z => z f5), e4, x4, nI_clamp (by omega), nI_clamp (by omega), o 16 (by omega) (by omega)]
    split <;> omega
  have ht : twX pr X1 ≤ twX pr X + 1 * 60 := su_le1 60 0 (fun j _ _ => by
    refine Nat.le_trans (m := tw (aX X1) (bX X) pr 60 0 (some j)) (tw_le 60 0 (some j) (fun q _ => ⟨Nat.le_refl _, bX_le (fun _ => f5) (fun _ => by rw [o 18 (by omega) (by omega)]; exact id)⟩)) ?_
    refine tw_add hP.1.1 (n := n) (fun q qn => aX_le (fun _ => by rw [x47, u_at, if_neg qn]; exact id)) ?_ 60 0 (some j)
    have := aX_1 X1 n
    omega)
  have hd : cnt (drX X1) 60 0 ≤ cnt (drX X) 60 0 + 1 := cnt_up1 (r := n) 60 0 (fun j _ _ jn hj => by
    unfold drX at hj ⊢
    rw [x47, u_at, if_neg jn] at hj
    exact hj)
  have hf : flX X1 = flX X := flX_fr (o 4 (by omega) (by omega)) (o 5 (by omega) (by omega))
  have hu : unX X1 = unX X := by funext q; unfold unX; rw [hf, o 36 (by omega) (by omega), o 39 (by omega) (by omega), o 8 (by omega) (by omega)]
  have hg : cnt (dgX M X1) 60 0 ≤ cnt (dgX M X) 60 0 := cnt_mono2 60 0 (fun j _ _ hj => by
    have z := of_decide_eq_true hj
    refine decide_eq_true ⟨z.1, ?_, Or.inl ?_⟩
    · rw [← o 5 (by omega) (by omega)]; exact z.2.1
    · rw [x4]; exact nI_ne0 (by omega) (by omega))
  have h9 := un_le (M := M) hf (by rw [hu]; exact Nat.le_refl _) hg
  unfold Psi
  omega
theorem Psi_act {pr : Nat → Option Nat} {M c left : Nat} {X X1 : JX} (hP : PC pr M X) (h : Nact pr X X1 c left) (hc : 1 ≤ c) : Psi pr M X1 + c ≤ Psi pr M X := by
  have fr := act_fr h
  have hF := hP.1
  have hh : hdX X1 ≤ hdX X := by rw [hdX_fr (fr 13 (by omega)) (by rw [fr 16 (by omega)])]; exact Nat.le_refl _
  have hf : flX X1 = flX X := flX_fr (fr 4 (by omega)) (fr 5 (by omega))
  have hb : ∀ q, bX X1 q ≤ bX X q := fun q => bX_le (fun z => by rw [fr 13 (by omega)] at z; exact z) (fun _ => by rw [fr 18 (by omega)]; exact id)
  obtain ⟨f5, f4, n, hn, hk, h⟩ := h
  have an : aX X n = 1 := by
    unfold aX
    rw [if_neg]
    rintro (z | z)
    · omega
    · rcases hk with y | y
      · rw [y] at z; exact one0 z
      · rw [y] at z; exact absurd z (by decide)
  -- acts that go, and come on those next below
  have ht : X1 47 n = 0 → (∀ q, q < 60 → q ≠ n → pr q ≠ some n → X1 47 q ≠ 0 → X 47 q ≠ 0) → twX pr X1 + 1 ≤ twX pr X := fun x0 hq => by
    have key := fun j (hj : j < 60) => tw_fold (a := aX X) (b := bX X) (a' := aX X1) hF.1 (n := n) (fun q qn qp => aX_le (fun q6 => hq q q6 qn qp)) (fun q _ => aX_1 X1 q) (by
      rw [an]
      have : aX X1 n = 0 := by unfold aX; rw [if_pos (Or.inr x0)]
      omega) 60 0 (some j) (it60 hF hj)
    have mono := fun j => tw_le (a := aX X1) (b := bX X) (a' := aX X1) (b' := bX X1) (pr := pr) 60 0 (some j) (fun q _ => ⟨Nat.le_refl _, hb q⟩)
    refine su_lt (r := n) 60 0 (fun j _ hj => Nat.le_trans (mono j) (key j (by omega)).1) (Nat.zero_le _) (by omega) ?_
    have := mono n
    have := (key n hn).2 rfl
    omega
  rcases h with ⟨rfl, hp, x47, oth, x36, going⟩ | ⟨rfl, hp, k2, x47, oth⟩ | ⟨hp, h5, h4, x47, hr, x37, x36, oth, hcase⟩ | ⟨rfl, hp, h5, h4, x47, hr, x37, x36, oth⟩ | ⟨rfl, rfl, -⟩
  · have ht := ht (by rw [x47, u_at, if_pos rfl]) (fun q _ qn _ => by rw [x47, u_at, if_neg qn]; exact id)
    have hd : cnt (drX X1) 60 0 ≤ cnt (drX X) 60 0 := cnt_mono2 60 0 (fun j _ _ hj => by
      have z := of_decide_eq_true hj
      rw [x47, u_at] at z
      by_cases jn : j = n
      · rw [if_pos jn] at z; exact absurd z (by decide)
      · rw [if_neg jn] at z; exact decide_eq_true z)
    have e36 : ∀ j, j < 60 → X1 36 j ≠ 0 → X 36 j ≠ 0 := fun j hj z => by
      rcases going j hj with y | ⟨y, -⟩
      · rw [← y]; exact z
      · exact absurd y z
    have hg1 : ∀ j, j < 60 → dgX M X1 j = true → dgX M X j = true := fun j hj z => by
      have z := of_decide_eq_true z
      rw [fr 5 (by omega), fr 13 (by omega)] at z
      refine decide_eq_true ⟨z.1, z.2.1, z.2.2.imp id (fun y => y.imp (fun w => ?_) (e36 j hj))⟩
      rw [x47, u_at] at w
      by_cases jn : j = n
      · rw [if_pos jn] at w; exact absurd rfl w
      · rw [if_neg jn] at w; exact w
    refine Psi_sum hh ht hd ?_
    by_cases c9 : n ≠ 0 ∧ n < M
    · have h5 : X 5 n = 0 := by
        by_cases z : X 5 n = 0
        · exact z
        · exact absurd hp (hF.2.2.2.1 n hn c9.1 z)
      have hg : cnt (dgX M X1) 60 0 + 1 ≤ cnt (dgX M X) 60 0 := cnt_lt (r := n) 60 0 (fun j _ hj => hg1 j (by omega)) (Nat.zero_le _) (by omega) (decide_eq_false (fun z => by
        rcases z.2.2 with y | y | y
        · rw [fr 13 (by omega)] at y; exact y f4
        · rw [x47, u_at, if_pos rfl] at y; exact y rfl
        · exact y x36)) (decide_eq_true ⟨c9.2, h5, Or.inr (Or.inl (by
          rcases hk with y | y
          · rw [y]; exact one0
          · rw [y]; decide))⟩)
      have hu : cnt (unX X1) 60 0 ≤ cnt (flX X1) 60 0 := cnt_mono2 60 0 (fun j _ _ hj => by
        unfold unX at hj
        rw [Bool.and_eq_true] at hj
        exact hj.1)
      rw [hf] at hu ⊢
      have h3 : cnt (flX X) 60 0 * (cnt (dgX M X1) 60 0 + 1) ≤ cnt (flX X) 60 0 * cnt (dgX M X) 60 0 := Nat.mul_le_mul_left _ hg
      rw [Nat.mul_succ] at h3
      omega
    · have hu : cnt (unX X1) 60 0 ≤ cnt (unX X) 60 0 := cnt_mono2 60 0 (fun j _ hj z => by
        have j6 : j < 60 := by omega
        unfold unX at z ⊢
        rw [Bool.and_eq_true, decide_eq_true_eq] at z ⊢
        rw [hf] at z
        refine ⟨z.1, fun y => z.2 ⟨?_, ?_⟩⟩
        · have zf := of_decide_eq_true z.1
          have j0 : j ≠ 0 := fun w => by rw [w] at zf; exact hP.2.2.2.2 zf.2
          rcases going j j6 with w | ⟨-, w⟩
          · rw [w]; exact y.1
          · exfalso
            rcases w with w | ⟨n0, w⟩
            · rw [← w] at c9
              exact c9 ⟨j0, hP.2.1.2 j j6 zf.1⟩
            · have pe1 : ∀ c, pe X c = some n → n < M := fun c ec => by
                unfold pe at ec
                by_cases q : c < 60 ∧ X 36 c ≠ 0 ∧ c ≠ 0
                · rw [if_pos q] at ec
                  obtain ⟨m, hm, em⟩ := hP.2.2.1 c q.1 q.2.1
                  rw [em, dec_nI (by have := hP.2.1.1; omega)] at ec
                  cases ec
                  exact hm
                · rw [if_neg q] at ec; cases ec
              obtain ⟨i, ei⟩ := w j0
              have : n < M := by
                cases i with
                | zero => exact pe1 j ei
                | succ i =>
                  rw [it_succ] at ei
                  obtain ⟨c, -, ec⟩ := Option.bind_eq_some_iff.mp ei
                  exact pe1 c ec
              exact c9 ⟨n0, this⟩
        · rw [oth 39 (by omega) (by omega) (by omega) (by omega) (by omega) (by omega), oth 8 (by omega) (by omega) (by omega) (by omega) (by omega) (by omega)]
          exact y.2)
      have hg : cnt (dgX M X1) 60 0 ≤ cnt (dgX M X) 60 0 := cnt_mono2 60 0 (fun j _ hj => hg1 j (by omega))
      have := un_le (M := M) hf hu hg
      omega
  · have hu : unX X1 = unX X := by funext q; unfold unX; rw [hf, oth 36 (by omega) (by omega) (by omega), oth 39 (by omega) (by omega) (by omega), oth 8 (by omega) (by omega) (by omega)]
    have ha : aX X1 = aX X := by
      funext q
      unfold aX
      rw [x47, u_at]
      by_cases qn : q = n
      · rw [if_pos qn, qn, k2, if_neg (by rintro (z | z); omega; exact one0 z), if_neg (by rintro (z | z); omega; exact absurd z (by decide))]
      · rw [if_neg qn]
    have ht : twX pr X1 ≤ twX pr X := su_le 60 0 (fun j _ _ => tw_le 60 0 (some j) (fun q _ => ⟨by rw [ha]; exact Nat.le_refl _, hb q⟩))
    have hd : cnt (drX X1) 60 0 + 1 ≤ cnt (drX X) 60 0 := cnt_lt (r := n) 60 0 (fun j _ _ hj => by
      have z := of_decide_eq_true hj
      rw [x47, u_at] at z
      by_cases jn : j = n
      · rw [if_pos jn] at z; exact absurd z (by decide)
      · rw [if_neg jn] at z; exact decide_eq_true z) (Nat.zero_le _) (by omega) (decide_eq_false (by rw [x47, u_at, if_pos rfl]; decide)) (decide_eq_true k2)
    have hg : cnt (dgX M X1) 60 0 ≤ cnt (dgX M X) 60 0 := cnt_mono2 60 0 (fun j _ _ z => by
      have z := of_decide_eq_true z
      rw [fr 5 (by omega), fr 13 (by omega), oth 36 (by omega) (by omega) (by omega)] at z
      refine decide_eq_true ⟨z.1, z.2.1, z.2.2.imp id (fun y => y.imp (fun w => ?_) id)⟩
      rw [x47, u_at] at w
      by_cases jn : j = n
      · rw [jn, k2]; decide
      · rw [if_neg jn] at w; exact w)
    have := un_le (M := M) hf (by rw [hu]; exact Nat.le_refl _) hg
    unfold Psi
    omega
  · have ht := ht (by rw [x47, u_at, if_pos rfl]) (fun q _ qn _ => by rw [x47, u_at, if_neg qn]; exact id)
    have hd : cnt (drX X1) 60 0 ≤ cnt (drX X) 60 0 := cnt_mono2 60 0 (fun j _ _ hj => by
      have z := of_decide_eq_true hj
      rw [x47, u_at] at z
      by_cases jn : j = n
      · rw [if_pos jn] at z; exact absurd z (by decide)
      · rw [if_neg jn] at z; exact decide_eq_true z)
    have hg : cnt (dgX M X1) 60 0 ≤ cnt (dgX M X) 60 0 := cnt_mono2 60 0 (fun j _ _ z => by
      have z := of_decide_eq_true z
      rw [fr 5 (by omega), fr 13 (by omega)] at z
      have jn : j ≠ n := fun w => h5 (by rw [← w]; exact z.2.1)
      rw [x47, u_at, if_neg jn, (x36 j jn).1] at z
      exact decide_eq_true z)
    have o8 : X1 8 = X 8 := oth 8 (by omega) (by omega) (by omega) (by omega) (by omega) (by omega)
    have n1 : unX X1 n = false := by
      unfold unX
      rw [decide_eq_false (fun z => z ⟨hr.1, hr.2.2.2 ⟨by rw [fr 5 (by omega)]; exact h5, by rw [fr 4 (by omega)]; exact h4⟩⟩), Bool.and_false]
    have hu1 : ∀ j, unX X1 j = true → unX X j = true := fun j z => by
      have jn : j ≠ n := fun w => by rw [w, n1] at z; cases z
      unfold unX at z ⊢
      rw [hf, (x36 j jn).1, (x36 j jn).2.2.2.1, o8] at z
      exact z
    have hu : cnt (unX X1) 60 0 ≤ cnt (unX X) 60 0 := cnt_mono2 60 0 (fun j _ _ => hu1 j)
    have h9 := un_le (M := M) hf hu hg
    refine Psi_sum hh ht hd ?_
    rcases hcase with ⟨rfl, -⟩ | ⟨hk9, c21, -, -⟩
    · omega
    · have hu2 : cnt (unX X1) 60 0 + 1 ≤ cnt (unX X) 60 0 := cnt_lt (r := n) 60 0 (fun j _ _ => hu1 j) (Nat.zero_le _) (by omega) n1 (by
        unfold unX flX
        rw [decide_eq_true (⟨h5, h4⟩ : X 5 n ≠ 0 ∧ X 4 n = 0), decide_eq_true hk9]
        rfl)
      have h3 : cnt (flX X) 60 0 * cnt (dgX M X1) 60 0 ≤ cnt (flX X) 60 0 * cnt (dgX M X) 60 0 := Nat.mul_le_mul_left _ hg
      rw [hf]
      omega
  · have nk : ∀ j, j < 60 → X 5 j = 0 → ¬ X 2 j = nI n := fun j hj z w => by
      have ek := (hF.kid hj hn).mp w
      exact (hF.2.2.1 j (by rw [ek]; exact fun y => by cases y)).2.2.1 z
    have ht := ht (by rw [x47 n, if_neg (fun z => by
      have ek := (hF.kid hn hn).mp z.2
      exact On.irr hF.1 (n := n) (by rw [ek]; exact On.self n)), if_pos rfl]) (fun q q6 qn qp z => by
      rw [x47 q, if_neg (fun y => qp ((hF.kid q6 hn).mp y.2)), if_neg qn] at z
      exact z)
    have hd : cnt (drX X1) 60 0 ≤ cnt (drX X) 60 0 := cnt_mono2 60 0 (fun j _ _ hj => by
      have z := of_decide_eq_true hj
      rw [x47 j] at z
      by_cases j1 : j < 60 ∧ X 2 j = nI n
      · rw [if_pos j1] at z; exact absurd z (by decide)
      · rw [if_neg j1] at z
        by_cases jn : j = n
        · rw [if_pos jn] at z; exact absurd z (by decide)
        · rw [if_neg jn] at z; exact decide_eq_true z)
    have hg : cnt (dgX M X1) 60 0 ≤ cnt (dgX M X) 60 0 := cnt_mono2 60 0 (fun j _ hj z => by
      have z := of_decide_eq_true z
      rw [fr 5 (by omega), fr 13 (by omega)] at z
      have jn : j ≠ n := fun w => h5 (by rw [← w]; exact z.2.1)
      rw [x47 j, if_neg (fun y => nk j (by omega) z.2.1 y.2), if_neg jn, (x36 j jn).1] at z
      exact decide_eq_true z)
    have hu : cnt (unX X1) 60 0 ≤ cnt (unX X) 60 0 := cnt_mono2 60 0 (fun j _ _ z => by
      unfold unX at z ⊢
      rw [Bool.and_eq_true] at z
      have jn : j ≠ n := fun w => by
        have := of_decide_eq_true z.1
        rw [fr 4 (by omega), w] at this
        exact h4 this.2
      rw [hf, (x36 j jn).1, oth 39 (by omega) (by omega) (by omega) (by omega), oth 8 (by omega) (by omega) (by omega) (by omega), ← Bool.and_eq_true] at z
      exact z)
    have := un_le (M := M) hf hu hg
    exact Psi_sum hh ht hd (by omega)
  · omega
theorem Psi_crawl {pr : Nat → Option Nat} {M : Nat} {X X1 : JX} (hP : PC pr M X) (h : Ncrawl X X1) : Psi pr M X1 + 1 ≤ Psi pr M X := by
  obtain ⟨f5, f4, f47, x164, f, hf6, wf, fr, x19, x18, hcase⟩ := h
  have hF := hP.1
  have o := fun q (hq : q < 16 ∨ 19 < q) (h : q < 45 ∨ 47 < q) => fr q hq (by omega) (by omega) (by omega)
  have hf : flX X1 = flX X := flX_fr (o 4 (by omega) (by omega)) (o 5 (by omega) (by omega))
  have hu : unX X1 = unX X := by funext q; unfold unX; rw [hf, o 36 (by omega) (by omega), o 39 (by omega) (by omega), o 8 (by omega) (by omega)]
  have o13 : X1 13 = X 13 := o 13 (by omega) (by omega)
  have hd9 : (∀ j, j < 60 → X1 47 j = 1 ∨ X1 47 j = X 47 j) → cnt (drX X1) 60 0 ≤ cnt (drX X) 60 0 := fun hx => cnt_mono2 60 0 (fun j _ hj z => by
    have z := of_decide_eq_true z
    rcases hx j (by omega) with y | y
    · rw [y] at z; exact absurd z (by decide)
    · rw [y] at z; exact decide_eq_true z)
  have hg9 : (∀ j, j < 60 → X1 47 j ≠ 0 → pr j = none → X 36 j ≠ 0 ∨ X 47 j ≠ 0) → cnt (dgX M X1) 60 0 ≤ cnt (dgX M X) 60 0 := fun hx => cnt_mono2 60 0 (fun j _ hj z => by
    have z := of_decide_eq_true z
    rw [o 5 (by omega) (by omega), o13, o 36 (by omega) (by omega)] at z
    have hpj : pr j = none := by
      cases e : pr j with
      | none => rfl
      | some m => exact absurd z.2.1 (hF.2.2.1 j (by rw [e]; exact fun y => by cases y)).2.2.1
    refine decide_eq_true ⟨z.1, z.2.1, ?_⟩
    rcases z.2.2 with y | y | y
    · exact Or.inl y
    · rcases hx j (by omega) y hpj with w | w
      · exact Or.inr (Or.inr w)
      · exact Or.inr (Or.inl w)
    · exact Or.inr (Or.inr y))
  have bf : bX X f = 1 := by
    unfold bX
    rw [if_neg]
    rintro (z | z | z)
    · exact z f5
    · omega
    · exact wf z
  rcases hcase with ⟨e4, hac⟩ | ⟨e4, no18, hac⟩
  · have hh : hdX X1 ≤ hdX X := by rw [hdX_fr o13 e4]; exact Nat.le_refl _
    have key := fun j (hj : j < 60) => tw_crawl (a := aX X) (b := bX X) (a' := aX X1) (b' := bX X1) hF.1 (f := f) (fun q qp => ⟨aX_le (fun q6 z => ((hac q q6).1.mp z).resolve_left (fun y => qp ((hF.kid q6 hf6).mp y.1))), fun qf => bX_le (fun _ => f5) (fun q6 z => by
      rcases (x18 q q6).mp z with y | y
      · exact y.1
      · exact absurd ((hF.kid q6 hf6).mp y.1) qp)⟩) (fun q _ => ⟨by have := aX_1 X1 q; omega, bX_1 X1 q⟩) (by
      have : bX X1 f = 0 := by
        unfold bX
        rw [if_pos]
        refine Or.inr (Or.inr ?_)
        by_cases z : X1 18 f = 0
        · exact z
        · rcases (x18 f hf6).mp z with y | y
          · exact absurd rfl y.2
          · have ek := (hF.kid hf6 hf6).mp y.1
            exact absurd (by rw [ek]; exact On.self f) (On.irr hF.1 (n := f))
      omega) 60 0 (some j) (it60 hF hj)
    have ht : twX pr X1 + 1 ≤ twX pr X := su_lt (r := f) 60 0 (fun j _ hj => (key j (by omega)).1) (Nat.zero_le _) (by omega) (by have := (key f hf6).2 rfl; omega)
    have hd := hd9 (fun j hj => (hac j hj).2)
    have hg := hg9 (fun j hj z hp => by
      rcases (hac j hj).1.mp z with y | y
      · rw [(hF.kid hj hf6).mp y.1] at hp; cases hp
      · exact Or.inr y)
    have := un_le (M := M) hf (by rw [hu]; exact Nat.le_refl _) hg
    exact Psi_sum hh ht hd (by omega)
  · have hh : hdX X1 + 612 ≤ hdX X := by
      unfold hdX
      rw [o13, if_neg (show ¬ (X 13 5 ≠ 0) from fun z => z f5), if_neg (show ¬ (X 13 5 ≠ 0) from fun z => z f5), if_pos e4, if_neg x164]
      omega
    have ht : twX pr X1 ≤ 612 := twX_b0 hP (aX_1 X1) (fun q => by
      unfold bX
      rw [if_pos]
      rcases Nat.lt_or_ge q 60 with w | w
      · exact Or.inr (Or.inr (no18 q w))
      · exact Or.inr (Or.inl w))
    have ht2 : 1 ≤ twX pr X := by
      have h0 : su (fun _ => 0) 60 0 + 1 ≤ twX pr X := su_lt (r := f) 60 0 (fun _ _ _ => Nat.zero_le _) (Nat.zero_le _) (by omega) (by
        show 0 + 1 ≤ tw (aX X) (bX X) pr 60 0 (some f)
        rw [show (60 : Nat) = 59 + 1 from rfl, tw_s, bf]
        omega)
      omega
    have hd := hd9 (fun j hj => (hac j hj).2)
    have hg := hg9 (fun j hj z hp => by
      rcases (hac j hj).1.mp z with y | y | y
      · exact Or.inl y.1
      · rw [(hF.kid hj hf6).mp y.1] at hp; cases hp
      · exact Or.inr y)
    have := un_le (M := M) hf (by rw [hu]; exact Nat.le_refl _) hg
    unfold Psi
    omega
theorem Psi_step {pr : Nat → Option Nat} {M c left : Nat} {X X1 : JX} (hP : PC pr M X) (h : Nx pr X X1 c left) (hc : 1 ≤ c) : Psi pr M X1 + c ≤ Psi pr M X := by
  rcases h with ⟨rfl, h⟩ | ⟨rfl, h⟩ | h | ⟨rfl, h⟩ | ⟨rfl, h⟩
  · exact Psi_flood hP h
  · exact Psi_note hP h
  · exact Psi_act hP h hc
  · exact Psi_crawl hP h
  · omega

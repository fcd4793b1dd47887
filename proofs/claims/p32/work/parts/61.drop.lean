/-! ===== the rows of roots behind the one that goes ===== -/
theorem d_turn {Y : JX} {k : Nat} (hk : k < 3) {rec : JX → Int32 → Option JX} (hR : ¬ Y 0 12 ≤ nI k) (b14 : Y 14 (k + 1) = 0 ∨ Y 14 (k + 1) = 1) (b15 : Y 15 (k + 1) = 0 ∨ Y 15 (k + 1) = 1) (b18 : ∀ n, n < 60 → Y 18 (60 * (k + 1) + n) = 0 ∨ Y 18 (60 * (k + 1) + n) = 1) : ∃ Y', lb_X11_drops_12 rec Y (nI k) = rec Y' (nI (k + 1)) ∧ (∀ c, c < 10 ∨ 18 < c → Y' c = Y c) ∧ Y' 10 = sh 1 k (k + 1) (Y 10) ∧ Y' 11 = sh 1 k (k + 1) (Y 11) ∧ Y' 14 = sh 1 k (k + 1) (Y 14) ∧ Y' 15 = sh 1 k (k + 1) (Y 15) ∧ Y' 16 = sh 1 k (k + 1) (Y 16) ∧ Y' 12 = sh 8 k (k + 1) (Y 12) ∧ Y' 13 = sh 8 k (k + 1) (Y 13) ∧ Y' 17 = sh 60 k (k + 1) (Y 17) ∧ Y' 18 = sh 60 k (k + 1) (Y 18) := by
  have s1 : ∀ f : Nat → Int32, upd f k (f (k + 1)) = sh 1 k (k + 1) f := by
    intro f
    funext q
    unfold sh
    rw [u_at]
    by_cases c : q = k
    · rw [if_pos c, if_pos (by omega), c]
    · rw [if_neg c, if_neg (by omega)]
  let Y1 : JX := pX (pX (pX (pX (pX Y 10 (upd (Y 10) k (Y 10 (k + 1)))) 11 (upd (Y 11) k (Y 11 (k + 1)))) 14 (upd (Y 14) k (Y 14 (k + 1)))) 15 (upd (Y 15) k (Y 15 (k + 1)))) 16 (upd (Y 16) k (Y 16 (k + 1)))
  obtain ⟨Y2, e2, f2, g2, g3⟩ := d92 hk (rec := rec) 8 0 1000 Y1 rfl (by decide)
  obtain ⟨Y3, e3, f3, g4⟩ := d154 hk (rec := rec) 60 0 1000 Y2 rfl (by decide)
  have y18 : Y3 18 = Y 18 := by rw [f3 18 (by omega), f2 18 (by omega) (by omega)]; rfl
  obtain ⟨Y4, e4, f4, g5⟩ := d192 hk (rec := rec) 60 0 1000 Y3 rfl (by decide) (fun n hn => by rw [y18]; exact b18 n hn)
  have o : ∀ c, c ≠ 12 → c ≠ 13 → c ≠ 17 → c ≠ 18 → Y4 c = Y1 c := fun c h1 h2 h3 h4 => (f4 c h4).trans ((f3 c h3).trans (f2 c h1 h2))
  refine ⟨Y4, ?_, fun c hc => ?_, ?_, ?_, ?_, ?_, ?_, ?_, ?_, ?_, ?_⟩
  · have c := n_ok4 (show k < 4 by omega)
    have c1 := n_ok4 (show k + 1 < 4 by omega)
    have l := nI_clamp (show k < 2 ^ 31 by omega)
    have l1 := nI_clamp (show k + 1 < 2 ^ 31 by omega)
    unfold lb_X11_drops_12
    rw [if_neg hR, n_add1, if_pos c1, if_pos c, dX_eq, if_pos c1, if_pos c, dX_eq, if_pos c1, if_pos c, dX_eq, if_pos c1, if_pos c, dX_eq, if_pos c1, if_pos c, dX_eq, l, l1]
    show l_X11_drops_92 rec (nI k) (pX (pX (pX (pX (pX Y 10 (upd (Y 10) k (Y 10 (k + 1)))) 11 (upd (Y 11) k (Y 11 (k + 1)))) 14 (upd (Y 14) k (vp_nar .boolean (Y 14 (k + 1))))) 15 (upd (Y 15) k (vp_nar .boolean (Y 15 (k + 1))))) 16 (upd (Y 16) k (Y 16 (k + 1)))) (nI 0) = _
    rw [nar01 b14, nar01 b15]
    exact e2.trans (e3.trans e4)
  · rw [o c (by omega) (by omega) (by omega) (by omega)]
    show (pX (pX (pX (pX (pX Y 10 _) 11 _) 14 _) 15 _) 16 _) c = Y c
    rw [p_at, if_neg (by omega), p_at, if_neg (by omega), p_at, if_neg (by omega), p_at, if_neg (by omega), p_at, if_neg (by omega)]
  · rw [o 10 (by omega) (by omega) (by omega) (by omega)]; exact s1 (Y 10)
  · rw [o 11 (by omega) (by omega) (by omega) (by omega)]; exact s1 (Y 11)
  · rw [o 14 (by omega) (by omega) (by omega) (by omega)]; exact s1 (Y 14)
  · rw [o 15 (by omega) (by omega) (by omega) (by omega)]; exact s1 (Y 15)
  · rw [o 16 (by omega) (by omega) (by omega) (by omega)]; exact s1 (Y 16)
  · funext q
    rw [f4 12 (by omega), f3 12 (by omega), g2 q]
    rfl
  · funext q
    rw [f4 13 (by omega), f3 13 (by omega), g3 q]
    rfl
  · funext q
    rw [f4 17 (by omega), g4 q, f2 17 (by omega) (by omega)]
    rfl
  · funext q
    rw [g5 q, y18]
    rfl
theorem y_drops_loop {R : Nat} (hR : R ≤ 3) : ∀ m i F (Y : JX), i + m = R - 1 → m + 1 ≤ F → Y 0 12 = nI (R - 1) → (∀ s, i < s → s < R → (Y 14 s = 0 ∨ Y 14 s = 1) ∧ (Y 15 s = 0 ∨ Y 15 s = 1) ∧ ∀ n, n < 60 → Y 18 (60 * s + n) = 0 ∨ Y 18 (60 * s + n) = 1) → ∃ Y', loop2 lb_X11_drops_12 F Y (nI i) = some Y' ∧ (∀ c, c < 10 ∨ 18 < c → Y' c = Y c) ∧ Y' 10 = sh 1 i (R - 1) (Y 10) ∧ Y' 11 = sh 1 i (R - 1) (Y 11) ∧ Y' 14 = sh 1 i (R - 1) (Y 14) ∧ Y' 15 = sh 1 i (R - 1) (Y 15) ∧ Y' 16 = sh 1 i (R - 1) (Y 16) ∧ Y' 12 = sh 8 i (R - 1) (Y 12) ∧ Y' 13 = sh 8 i (R - 1) (Y 13) ∧ Y' 17 = sh 60 i (R - 1) (Y 17) ∧ Y' 18 = sh 60 i (R - 1) (Y 18) := by
  intro m
  induction m with
  | zero =>
    intro i F Y hi hF h12 hb
    obtain ⟨F', rfl⟩ := Nat.exists_eq_add_of_le' hF
    have : i = R - 1 := by omega
    subst this
    refine ⟨Y, ?_, fun _ _ => rfl, ?_, ?_, ?_, ?_, ?_, ?_, ?_, ?_, ?_⟩
    · rw [zl2]
      generalize hR9 : loop2 _ F' = R9
      unfold lb_X11_drops_12
      rw [h12, if_pos (Int32.le_refl _)]
    all_goals rw [sh_nil _ _ _ _ (Nat.le_refl _)]
  | succ m ih =>
    intro i F Y hi hF h12 hb
    obtain ⟨F', rfl⟩ := Nat.exists_eq_add_of_le' (show 1 ≤ F by omega)
    obtain ⟨b14, b15, b18⟩ := hb (i + 1) (by omega) (by omega)
    obtain ⟨Y1, e1, f1, a10, a11, a14, a15, a16, a12, a13, a17, a18⟩ := d_turn (Y := Y) (k := i) (by omega) (rec := loop2 lb_X11_drops_12 F') (by rw [h12]; exact nI_ge (by omega) (by omega)) b14 b15 b18
    obtain ⟨Y', e, f, c10, c11, c14, c15, c16, c12, c13, c17, c18⟩ := ih (i + 1) F' Y1 (by omega) (by omega) (by rw [f1 0 (by omega)]; exact h12) (fun s h1 h2 => by
      obtain ⟨d14, d15, d18⟩ := hb s (by omega) h2
      have e14 : Y1 14 s = Y 14 s := by rw [a14]; unfold sh; rw [if_neg (by omega)]
      have e15 : Y1 15 s = Y 15 s := by rw [a15]; unfold sh; rw [if_neg (by omega)]
      refine ⟨by rw [e14]; exact d14, by rw [e15]; exact d15, fun n hn => ?_⟩
      have e18 : Y1 18 (60 * s + n) = Y 18 (60 * s + n) := by rw [a18]; unfold sh; rw [if_neg (by omega)]
      rw [e18]; exact d18 n hn)
    have hlt : i < R - 1 := by omega
    refine ⟨Y', ?_, fun c hc => (f c hc).trans (f1 c hc), ?_, ?_, ?_, ?_, ?_, ?_, ?_, ?_, ?_⟩
    · rw [zl2, e1]; exact e
    · rw [c10, a10, sh_cons _ _ _ _ hlt]
    · rw [c11, a11, sh_cons _ _ _ _ hlt]
    · rw [c14, a14, sh_cons _ _ _ _ hlt]
    · rw [c15, a15, sh_cons _ _ _ _ hlt]
    · rw [c16, a16, sh_cons _ _ _ _ hlt]
    · rw [c12, a12, sh_cons _ _ _ _ hlt]
    · rw [c13, a13, sh_cons _ _ _ _ hlt]
    · rw [c17, a17, sh_cons _ _ _ _ hlt]
    · rw [c18, a18, sh_cons _ _ _ _ hlt]
theorem NQ.mv {X X' Y Y' : JX} {p t s : Nat} (h : NQ X Y p t) (x0 : X' p = X p) (x1 : X' (p + 1) = X (p + 1)) (x2 : X' (p + 2) = X (p + 2)) (y1 : Y' 11 s = Y 11 t) (y2 : Y' 14 s = Y 14 t) (y3 : ∀ j, j < 8 → Y' 12 (8 * s + j) = Y 12 (8 * t + j)) (y4 : ∀ j, j < 8 → Y' 13 (8 * s + j) = Y 13 (8 * t + j)) : NQ X' Y' p s := by
  obtain ⟨a, b, k, k8, e, f, g⟩ := h
  refine ⟨by rw [x0, y1]; exact a, by rw [x0, y2]; exact b, k, k8, by rw [y1]; exact e, by rw [y2]; exact f, fun j hj => ?_⟩
  rw [x1, x2, y3 j (by omega), y4 j (by omega)]
  exact g j hj
theorem CQ.mv {X X' Y Y' : JX} {p t s : Nat} (h : CQ X Y p t) (x3 : X' (p + 3) = X (p + 3)) (x4 : X' (p + 4) = X (p + 4)) (x5 : X' (p + 5) = X (p + 5)) (x6 : X' (p + 6) = X (p + 6)) (y1 : Y' 15 s = Y 15 t) (y2 : Y' 16 s = Y 16 t) (y3 : ∀ j, j < 60 → Y' 17 (60 * s + j) = Y 17 (60 * t + j)) (y4 : ∀ j, j < 60 → Y' 18 (60 * s + j) = Y 18 (60 * t + j)) : CQ X' Y' p s := by
  obtain ⟨a, b, ⟨w, w60, e, f, g, d, k⟩, m⟩ := h
  refine ⟨by rw [x3, y1]; exact a, by rw [x3, y2]; exact b, ⟨w, w60, by rw [y2]; exact e, by rw [y1]; exact f, fun j hj => ?_, fun j k hj hk => ?_, fun n hn => ?_⟩, fun n hn => ?_⟩
  · rw [x4, y3 j (by omega)]; exact g j hj
  · rw [y3 j (by omega), y3 k (by omega)]; exact d j k hj hk
  · rw [x5, k n hn]
    exact ⟨fun ⟨j, h1, h2⟩ => ⟨j, h1, by rw [y3 j (by omega)]; exact h2⟩, fun ⟨j, h1, h2⟩ => ⟨j, h1, by rw [← y3 j (by omega)]; exact h2⟩⟩
  · rw [x6, y4 n hn]; exact m n hn
/-! the class's side: the row of the ended root goes behind the others -/
theorem clamp_pos {v : Int32} {p : Nat} (h : v.toNatClampNeg = p) (hp : 0 < p) (hp2 : p < 2 ^ 31) : v = nI p := by
  by_cases h0 : v < 0
  · exfalso
    have h1 : v.toNatClampNeg = 0 := by
      rw [Int32.lt_iff_toInt_lt] at h0
      rw [show (0 : Int32).toInt = 0 from rfl] at h0
      show v.toInt.toNat = 0
      omega
    omega
  · obtain ⟨j, hj, rfl⟩ := nI_of h0
    rw [nI_clamp hj] at h
    rw [h]
theorem x_end_loop {X : JX} {R r : Nat} (hP : PX X) (hR : R ≤ 3) (hr : r < R) (h11 : X 11 2 = nI R) : ∀ m i c F (X1 : JX), i + m = R → m + 1 ≤ F → (c = if i ≤ r then i else i - 1) → (∀ k, k ≠ 12 → X1 k = X k) → (∀ j, j < 3 → pl X1 j = if j < c then pl X (tu r j) else pl X j) → ∃ X', loop3 (lb_X8_end_16 (pl X r)) F X1 (nI c) (nI i) = some X' ∧ (∀ k, k ≠ 11 → k ≠ 12 → X' k = X k) ∧ X' 11 2 = nI (R - 1) ∧ ∀ j, j < 3 → pl X' j = if j < R - 1 then pl X (tu r j) else if j = R - 1 then pl X r else pl X j := by
  intro m
  induction m with
  | zero =>
    intro i c F X1 hi hF hc hX hj
    obtain ⟨F', rfl⟩ := Nat.exists_eq_add_of_le' hF
    have : i = R := by omega
    subst this
    have hcR : c = i - 1 := by rw [hc, if_neg (by omega)]
    have hc3 : c < 3 := by omega
    rw [zl3]
    generalize hR9 : loop3 _ F' = R9
    refine ⟨pX (pX X1 12 (upd (X1 12) c (nI (pl X r)))) 11 (upd (X1 11) 2 (nI c)), ?_, fun k h1 h2 => (if_neg h1).trans ((if_neg h2).trans (hX k h2)), ?_, fun j hj3 => ?_⟩
    · unfold lb_X8_end_16 b_X8_end_68
      rw [hX 11 (by omega), h11, if_pos (Int32.le_refl _), if_neg (nl3 hc3), if_pos (n_ok (show c < 3 from hc3) (by decide)), nI_clamp (show c < 2 ^ 31 by omega), dX_eq, dX_eq, show (pX X1 12 (upd (X1 12) c (nI (pl X r)))) 11 = X1 11 from rfl, hX 11 (by omega)]
    · show upd (X1 11) 2 (nI c) 2 = nI (i - 1)
      rw [u_at, if_pos rfl, hcR]
    · have hp := rt_in hP (show r < 3 by omega)
      show (upd (X1 12) c (nI (pl X r)) j).toNatClampNeg = _
      rw [u_at]
      by_cases q : j = c
      · rw [if_pos q, nI_clamp (by omega), if_neg (by omega), if_pos (by omega)]
      · rw [if_neg q, show (X1 12 j).toNatClampNeg = pl X1 j from rfl, hj j hj3]
        by_cases q2 : j < c
        · rw [if_pos q2, if_pos (by omega)]
        · rw [if_neg q2, if_neg (by omega), if_neg (by omega)]
  | succ m ih =>
    intro i c F X1 hi hF hc hX hj
    obtain ⟨F', rfl⟩ := Nat.exists_eq_add_of_le' (show 1 ≤ F by omega)
    have hci : c ≤ i := by rw [hc]; split <;> omega
    have hp1 : pl X1 i = pl X i := by rw [hj i (by omega), if_neg (by omega)]
    have hi3 := hP.1 i (by omega)
    have hb := rt_in hP (show i < 3 by omega)
    rw [zl3]
    by_cases e : i = r
    · have hc' : c = if i + 1 ≤ r then i + 1 else i + 1 - 1 := by rw [hc, if_pos (by omega), if_neg (by omega)]; omega
      have h9 := ih (i + 1) c F' X1 (by omega) (by omega) hc' hX hj
      generalize hR9 : loop3 _ F' = R9 at h9
      unfold lb_X8_end_16 b_X8_end_62
      rw [hX 11 (by omega), h11, if_neg (nI_ge (by omega) (by omega)), if_neg (nl3 (by omega)), if_pos (n_ok (show i < 3 by omega) (by decide)), nI_clamp (show i < 2 ^ 31 by omega), dN_eq, show (X1 12 i).toNatClampNeg = pl X1 i from rfl, hp1, if_pos hi3, if_pos (by rw [e]), dV_eq, n_add1]
      exact h9
    · have hne : ¬ pl X i = pl X r := fun z => e (hP.2 i r (by omega) (by omega) z)
      let X2 : JX := pX X1 12 (upd (X1 12) c (nI (pl X i)))
      have hc' : c + 1 = if i + 1 ≤ r then i + 1 else i + 1 - 1 := by
        rw [hc]
        by_cases q : i ≤ r
        · rw [if_pos q, if_pos (by omega)]
        · rw [if_neg q, if_neg (by omega)]; omega
      have h9 := ih (i + 1) (c + 1) F' X2 (by omega) (by omega) hc' (fun k hk => (if_neg hk).trans (hX k hk)) (fun j hj3 => by
        show (upd (X1 12) c (nI (pl X i)) j).toNatClampNeg = _
        rw [u_at]
        by_cases q : j = c
        · have et : tu r j = i := by
            unfold tu
            by_cases q3 : i ≤ r
            · rw [if_pos q3] at hc; rw [if_pos (by omega)]; omega
            · rw [if_neg q3] at hc; rw [if_neg (by omega)]; omega
          rw [if_pos q, nI_clamp (by omega), if_pos (by omega), et]
        · rw [if_neg q, show (X1 12 j).toNatClampNeg = pl X1 j from rfl, hj j hj3]
          by_cases q2 : j < c
          · rw [if_pos q2, if_pos (by omega)]
          · rw [if_neg q2, if_neg (by omega)])
      generalize hR9 : loop3 _ F' = R9 at h9
      unfold lb_X8_end_16 b_X8_end_62
      rw [hX 11 (by omega), h11, if_neg (nI_ge (by omega) (by omega)), if_neg (nl3 (by omega)), if_pos (n_ok (show i < 3 by omega) (by decide)), nI_clamp (show i < 2 ^ 31 by omega), dN_eq, show (X1 12 i).toNatClampNeg = pl X1 i from rfl, hp1, if_pos hi3, if_neg hne, if_neg (nl3 (by omega)), if_pos (n_ok (show c < 3 by omega) (by decide)), nI_clamp (show c < 2 ^ 31 by omega), dX_eq, dV_eq, dV_eq, n_add1, n_add1]
      exact h9

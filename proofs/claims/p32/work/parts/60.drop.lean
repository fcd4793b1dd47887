/-! ===== a root goes ===== -/
theorem nar01 {v : Int32} (h : v = 0 ∨ v = 1) : vp_nar .boolean v = v := by
  rcases h with rfl | rfl <;> rfl
def sh (w a b : Nat) (f : Nat → Int32) : Nat → Int32 := fun q => if w * a ≤ q ∧ q < w * b then f (q + w) else f q
theorem sh_nil (w a b : Nat) (f : Nat → Int32) (h : b ≤ a) : sh w a b f = f := by
  funext q
  unfold sh
  have : w * b ≤ w * a := Nat.mul_le_mul_left w h
  rw [if_neg (by omega)]
theorem sh_cons (w a b : Nat) (f : Nat → Int32) (h : a < b) : sh w (a + 1) b (sh w a (a + 1) f) = sh w a b f := by
  funext q
  unfold sh
  have e : w * (a + 1) = w * a + w := Nat.mul_succ w a
  have h2 : w * (a + 1) ≤ w * b := Nat.mul_le_mul_left w h
  rw [e] at h2 ⊢
  by_cases c1 : w * a + w ≤ q ∧ q < w * b
  · rw [if_pos c1, if_neg (by omega), if_pos (by omega)]
  · rw [if_neg c1]
    by_cases c2 : w * a ≤ q ∧ q < w * a + w
    · rw [if_pos c2, if_pos (by omega)]
    · rw [if_neg c2, if_neg (by omega)]
def tu (r s : Nat) : Nat := if s < r then s else s + 1
theorem sh_1 {r b s : Nat} {f : Nat → Int32} (hs : s < b) : sh 1 r b f s = f (tu r s) := by
  unfold sh tu
  by_cases c : s < r
  · rw [if_neg (by omega), if_pos c]
  · rw [if_pos (by omega), if_neg c]
theorem sh_w {w r b s j : Nat} {f : Nat → Int32} (hs : s < b) (hj : j < w) : sh w r b f (w * s + j) = f (w * tu r s + j) := by
  unfold sh tu
  have e : w * (s + 1) = w * s + w := Nat.mul_succ w s
  by_cases c : s < r
  · have : w * (s + 1) ≤ w * r := Nat.mul_le_mul_left w c
    rw [if_neg (by omega), if_pos c]
  · have h1 : w * r ≤ w * s := Nat.mul_le_mul_left w (by omega)
    have h2 : w * (s + 1) ≤ w * b := Nat.mul_le_mul_left w hs
    rw [if_pos (by omega), if_neg c, e]
    congr 1
    omega
theorem d192 {k : Nat} (hk : k < 3) {rec : JX → Int32 → Option JX} : ∀ m i F (Y : JX), i + m = 60 → m + 1 ≤ F → (∀ n, n < 60 → Y 18 (60 * (k + 1) + n) = 0 ∨ Y 18 (60 * (k + 1) + n) = 1) → ∃ Y', loop2 (lb_X11_drops_192 rec (nI k)) F Y (nI i) = rec Y' (nI (k + 1)) ∧ (∀ c, c ≠ 18 → Y' c = Y c) ∧ ∀ q, Y' 18 q = if 60 * k + i ≤ q ∧ q < 60 * k + 60 then Y 18 (q + 60) else Y 18 q := by
  intro m
  induction m with
  | zero =>
    intro i F Y hi hF hb
    obtain ⟨F', rfl⟩ := Nat.exists_eq_add_of_le' hF
    have : i = 60 := by omega
    subst this
    refine ⟨Y, ?_, fun _ _ => rfl, fun q => by rw [if_neg (by omega)]⟩
    rw [zl2]
    generalize hR9 : loop2 _ F' = R9
    unfold lb_X11_drops_192
    rw [if_pos g60, dV_eq, n_add1]
  | succ m ih =>
    intro i F Y hi hF hb
    obtain ⟨F', rfl⟩ := Nat.exists_eq_add_of_le' (show 1 ≤ F by omega)
    have hs : ∀ q, q ≠ 60 * k + i → (pX Y 18 (upd (Y 18) (60 * k + i) (Y 18 (60 * (k + 1) + i)))) 18 q = Y 18 q := fun q hq => by rw [p_at, if_pos rfl, u_at, if_neg hq]
    obtain ⟨Y', e, f, g⟩ := ih (i + 1) F' (pX Y 18 (upd (Y 18) (60 * k + i) (Y 18 (60 * (k + 1) + i)))) (by omega) (by omega) (fun n hn => by rw [hs _ (by omega)]; exact hb n hn)
    refine ⟨Y', ?_, fun c hc => (f c hc).trans (if_neg hc), fun q => ?_⟩
    · rw [zl2]
      generalize hR9 : loop2 _ F' = R9 at e
      unfold lb_X11_drops_192
      rw [if_neg (nl60 (show i < 60 by omega)), n_add1, n_60, n_60, if_pos (n_ok (show 60 * (k + 1) + i < 240 by omega) (by decide)), if_pos (n_ok (show 60 * k + i < 240 by omega) (by decide)), nI_clamp (show 60 * (k + 1) + i < 2 ^ 31 by omega), nI_clamp (show 60 * k + i < 2 ^ 31 by omega), nar01 (hb i (by omega)), dX_eq, dV_eq, n_add1]
      exact e
    · rw [g q]
      by_cases c : q = 60 * k + i
      · rw [if_neg (by omega), if_pos (by omega), p_at, if_pos rfl, u_at, if_pos c, c]
        congr 1
        omega
      · rw [hs q c]
        by_cases c2 : 60 * k + (i + 1) ≤ q ∧ q < 60 * k + 60
        · rw [if_pos c2, if_pos (by omega), hs (q + 60) (by omega)]
        · rw [if_neg c2, if_neg (by omega)]
theorem d154 {k : Nat} (hk : k < 3) {rec : JX → Int32 → Option JX} : ∀ m i F (Y : JX), i + m = 60 → m + 1 ≤ F → ∃ Y', loop2 (lb_X11_drops_154 rec (nI k)) F Y (nI i) = l_X11_drops_192 rec (nI k) Y' 0 ∧ (∀ c, c ≠ 17 → Y' c = Y c) ∧ ∀ q, Y' 17 q = if 60 * k + i ≤ q ∧ q < 60 * k + 60 then Y 17 (q + 60) else Y 17 q := by
  intro m
  induction m with
  | zero =>
    intro i F Y hi hF
    obtain ⟨F', rfl⟩ := Nat.exists_eq_add_of_le' hF
    have : i = 60 := by omega
    subst this
    refine ⟨Y, ?_, fun _ _ => rfl, fun q => by rw [if_neg (by omega)]⟩
    rw [zl2]
    generalize hR9 : loop2 _ F' = R9
    unfold lb_X11_drops_154
    rw [if_pos g60]
  | succ m ih =>
    intro i F Y hi hF
    obtain ⟨F', rfl⟩ := Nat.exists_eq_add_of_le' (show 1 ≤ F by omega)
    have hs : ∀ q, q ≠ 60 * k + i → (pX Y 17 (upd (Y 17) (60 * k + i) (Y 17 (60 * (k + 1) + i)))) 17 q = Y 17 q := fun q hq => by rw [p_at, if_pos rfl, u_at, if_neg hq]
    obtain ⟨Y', e, f, g⟩ := ih (i + 1) F' (pX Y 17 (upd (Y 17) (60 * k + i) (Y 17 (60 * (k + 1) + i)))) (by omega) (by omega)
    refine ⟨Y', ?_, fun c hc => (f c hc).trans (if_neg hc), fun q => ?_⟩
    · rw [zl2]
      generalize hR9 : loop2 _ F' = R9 at e
      unfold lb_X11_drops_154
      rw [if_neg (nl60 (show i < 60 by omega)), n_add1, n_60, n_60, if_pos (n_ok (show 60 * (k + 1) + i < 240 by omega) (by decide)), if_pos (n_ok (show 60 * k + i < 240 by omega) (by decide)), nI_clamp (show 60 * (k + 1) + i < 2 ^ 31 by omega), nI_clamp (show 60 * k + i < 2 ^ 31 by omega), dX_eq, dV_eq, n_add1]
      exact e
    · rw [g q]
      by_cases c : q = 60 * k + i
      · rw [if_neg (by omega), if_pos (by omega), p_at, if_pos rfl, u_at, if_pos c, c]
        congr 1
        omega
      · rw [hs q c]
        by_cases c2 : 60 * k + (i + 1) ≤ q ∧ q < 60 * k + 60
        · rw [if_pos c2, if_pos (by omega), hs (q + 60) (by omega)]
        · rw [if_neg c2, if_neg (by omega)]
theorem d92 {k : Nat} (hk : k < 3) {rec : JX → Int32 → Option JX} : ∀ m i F (Y : JX), i + m = 8 → m + 1 ≤ F → ∃ Y', loop2 (lb_X11_drops_92 rec (nI k)) F Y (nI i) = l_X11_drops_154 rec (nI k) Y' 0 ∧ (∀ c, c ≠ 12 → c ≠ 13 → Y' c = Y c) ∧ (∀ q, Y' 12 q = if 8 * k + i ≤ q ∧ q < 8 * k + 8 then Y 12 (q + 8) else Y 12 q) ∧ ∀ q, Y' 13 q = if 8 * k + i ≤ q ∧ q < 8 * k + 8 then Y 13 (q + 8) else Y 13 q := by
  intro m
  induction m with
  | zero =>
    intro i F Y hi hF
    obtain ⟨F', rfl⟩ := Nat.exists_eq_add_of_le' hF
    have : i = 8 := by omega
    subst this
    refine ⟨Y, ?_, fun _ _ _ => rfl, fun q => by rw [if_neg (by omega)], fun q => by rw [if_neg (by omega)]⟩
    rw [zl2]
    generalize hR9 : loop2 _ F' = R9
    unfold lb_X11_drops_92
    rw [if_pos (show (8 : Int32) ≤ nI 8 by decide)]
  | succ m ih =>
    intro i F Y hi hF
    obtain ⟨F', rfl⟩ := Nat.exists_eq_add_of_le' (show 1 ≤ F by omega)
    let Y1 : JX := pX (pX Y 12 (upd (Y 12) (8 * k + i) (Y 12 (8 * (k + 1) + i)))) 13 (upd (Y 13) (8 * k + i) (Y 13 (8 * (k + 1) + i)))
    have h12 : ∀ q, Y1 12 q = if q = 8 * k + i then Y 12 (8 * (k + 1) + i) else Y 12 q := fun q => rfl
    have h13 : ∀ q, Y1 13 q = if q = 8 * k + i then Y 13 (8 * (k + 1) + i) else Y 13 q := fun q => rfl
    obtain ⟨Y', e, f, g, g2⟩ := ih (i + 1) F' Y1 (by omega) (by omega)
    refine ⟨Y', ?_, fun c hc hc2 => (f c hc hc2).trans ((if_neg hc2).trans (if_neg hc)), fun q => ?_, fun q => ?_⟩
    · rw [zl2]
      generalize hR9 : loop2 _ F' = R9 at e
      have ok1 := n_ok (show 8 * (k + 1) + i < 32 by omega) (by decide)
      have ok2 := n_ok (show 8 * k + i < 32 by omega) (by decide)
      have e8 : (8 : Int32) * nI (k + 1) + nI i = nI (8 * (k + 1) + i) := by
        rw [show (8 : Int32) * nI (k + 1) = nI (8 * (k + 1)) from (Int32.ofNat_mul 8 (k + 1)).symm, nI_add]
      unfold lb_X11_drops_92
      rw [if_neg (show ¬ (8 : Int32) ≤ nI i from nI_ge (b := 8) (by omega) (by decide)), n_add1, e8, n_8 hk (by omega), if_pos ok1, if_pos ok2, dX_eq, if_pos ok1, if_pos ok2, dX_eq, dV_eq, n_add1, nI_clamp (show 8 * (k + 1) + i < 2 ^ 31 by omega), nI_clamp (show 8 * k + i < 2 ^ 31 by omega)]
      exact e
    · rw [g q, h12, h12]
      by_cases c : q = 8 * k + i
      · rw [if_neg (by omega), if_pos c, if_pos (by omega), c]
        congr 1
        omega
      · rw [if_neg c]
        by_cases c2 : 8 * k + (i + 1) ≤ q ∧ q < 8 * k + 8
        · rw [if_pos c2, if_neg (by omega), if_pos (by omega)]
        · rw [if_neg c2, if_neg (by omega)]
    · rw [g2 q, h13, h13]
      by_cases c : q = 8 * k + i
      · rw [if_neg (by omega), if_pos c, if_pos (by omega), c]
        congr 1
        omega
      · rw [if_neg c]
        by_cases c2 : 8 * k + (i + 1) ≤ q ∧ q < 8 * k + 8
        · rw [if_pos c2, if_neg (by omega), if_pos (by omega)]
        · rw [if_neg c2, if_neg (by omega)]

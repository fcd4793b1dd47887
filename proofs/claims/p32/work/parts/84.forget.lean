/-! ===== a work: entries go, both sides ===== -/
theorem y_gon1 {Y : JX} {M R n : Nat} (hT : TY Y M) (hY : RY Y R) (hEY : EY Y M) (hn : n < 60) : ∀ m i F (Y1 : JX), i + m = M → m + 1 ≤ F → (∀ q, q ≠ 32 → Y1 q = Y q) → (∀ j, j < i → Y1 32 j = bB (gon Y R n j)) → ∃ Y', loop2 (lb_X11_forgets_2 (nI n)) F Y1 (nI i) = l_X11_forgets_52 Y' 0 ∧ (∀ q, q ≠ 32 → Y' q = Y q) ∧ ∀ j, j < M → Y' 32 j = bB (gon Y R n j) := by
  have hM := hT.1.2.1
  intro m
  induction m with
  | zero =>
    intro i F Y1 hi hF ho h
    obtain ⟨F', rfl⟩ := Nat.exists_eq_add_of_le' hF
    refine ⟨Y1, ?_, ho, fun j hj => h j (by omega)⟩
    rw [zl2]
    generalize hR9 : loop2 _ F' = R9
    unfold lb_X11_forgets_2
    rw [if_pos (show Y1 0 2 ≤ nI i by rw [ho 0 (by omega), hT.1.2.2]; exact nI_le (by omega) (by omega))]
  | succ m ih =>
    intro i F Y1 hi hF ho h
    obtain ⟨F', rfl⟩ := Nat.exists_eq_add_of_le' (show 1 ≤ F by omega)
    have hi6 : i < 60 := by omega
    have hY1 : RY Y1 R := hY.fr (by rw [ho 0 (by omega)]) (ho 1 (by omega)) (ho 2 (by omega)) (ho 3 (by omega)) (ho 10 (by omega))
    have hE1 : EY Y1 M := by
      unfold EY
      rw [ho 2 (by omega), ho 22 (by omega), ho 19 (by omega), ho 20 (by omega), ho 23 (by omega), ho 24 (by omega)]
      exact hEY
    have hro : ∀ v, ro Y1 R v = ro Y R v := fun v => by unfold ro; rw [ho 10 (by omega)]
    have hkp : ∀ k, kp Y1 k = kp Y k := fun k => by unfold kp; rw [ho 19 (by omega), ho 20 (by omega)]
    have hlb : ∀ v m u, lbl Y1 R v m u = lbl Y R v m u := fun v m => by
      induction m with
      | zero => intro u; rfl
      | succ m ihm =>
        intro u
        cases u with
        | none => rfl
        | some u => rw [lbl_s, lbl_s, hro, hkp, ihm]
    obtain ⟨Y', a, b⟩ := ih (i + 1) F' (pX Y1 32 (upd (Y1 32) i (bB (gon Y R n i)))) (by omega) (by omega) (fun q hq => (if_neg hq).trans (ho q hq)) (fun j hj => by
      show upd (Y1 32) i (bB (gon Y R n i)) j = _
      rw [u_at]
      by_cases q : j = i
      · rw [if_pos q, q]
      · rw [if_neg q]; exact h j (by omega))
    refine ⟨Y', ?_, b⟩
    rw [zl2]
    generalize hR9 : loop2 _ F' = R9 at a
    have go : ∀ s : Int32, s = bB (gon Y R n i) → b_X11_forgets_43 R9 Y1 (nI n) (nI i) s (nI i) = l_X11_forgets_52 Y' 0 := fun s hs => by
      subst hs
      unfold b_X11_forgets_43
      rw [if_pos (n_ok60 hi6), nI_clamp (sm hi6), nar01 (show bB (gon Y R n i) = 0 ∨ bB (gon Y R n i) = 1 by cases gon Y R n i <;> simp [bB]), dX_eq, dV_eq, n_add1]
      exact a
    unfold lb_X11_forgets_2
    rw [if_neg (show ¬ Y1 0 2 ≤ nI i by rw [ho 0 (by omega), hT.1.2.2]; exact nI_ge (by omega) (by omega))]
    by_cases q : i = n
    · rw [if_pos (by rw [q])]
      exact go 1 (by simp [gon, q, bB])
    · rw [if_neg (nne hi6 hn q), y_rootAt hY1, bd_some, hro]
      cases e : ro Y R (nI n) with
      | none =>
        rw [if_neg (show ¬ ¬ enc none = -1 from fun z => z rfl), y_lies hY1 hE1 hi6, bd_some, hlb, hkp]
        cases hl : lbl Y R (nI n) 60 (kp Y i) with
        | true =>
          rw [if_neg (show ¬ bB true = 0 by decide)]
          exact go 1 (by simp [gon, e, hl, bB])
        | false =>
          rw [if_pos (show bB false = 0 by decide)]
          exact go 0 (by simp [gon, q, hl, bB])
      | some r =>
        have := (ro_lt e).1
        rw [show enc (some r) = nI r from rfl, if_pos (nm1 (show r < 2 ^ 31 by have := hY.1.1; omega))]
        exact go 0 (by simp [gon, q, e, bB])
theorem y_gon2 {M P : Nat} (hM : M ≤ 60) (hP : P ≤ 240) : ∀ m i F (Y : JX), i + m = M → m + 1 ≤ F → Y 0 2 = nI M → Y 0 37 = nI P → (∀ q, q < P → Y 30 q = 0 ∨ Y 30 q = 1) → (∀ q, q < P → Y 29 q = nI (nd Y q) ∧ nd Y q < M) → ∃ Y', loop2 lb_X11_forgets_52 F Y (nI i) = some Y' ∧ (∀ q, q ≠ 19 → q ≠ 30 → q ≠ 31 → Y' q = Y q) ∧ (∀ j, Y' 19 j = if i ≤ j ∧ j < M ∧ Y 32 j ≠ 0 then 0 else Y 19 j) ∧ (∀ j, Y' 31 j = if i ≤ j ∧ j < M ∧ Y 32 j ≠ 0 then 0 else Y 31 j) ∧ ∀ q, q < P → Y' 30 q = if i ≤ nd Y q ∧ Y 32 (nd Y q) ≠ 0 then 1 else Y 30 q := by
  intro m
  induction m with
  | zero =>
    intro i F Y hi hF h2 h37 hb hn
    obtain ⟨F', rfl⟩ := Nat.exists_eq_add_of_le' hF
    refine ⟨Y, ?_, fun _ _ _ _ => rfl, fun j => by rw [if_neg (by omega)], fun j => by rw [if_neg (by omega)], fun q hq => ?_⟩
    · rw [zl2]
      generalize hR9 : loop2 _ F' = R9
      unfold lb_X11_forgets_52
      rw [if_pos (show Y 0 2 ≤ nI i by rw [h2]; exact nI_le (by omega) (by omega))]
    · have := (hn q hq).2
      rw [if_neg (by omega)]
  | succ m ih =>
    intro i F Y hi hF h2 h37 hb hn
    obtain ⟨F', rfl⟩ := Nat.exists_eq_add_of_le' (show 1 ≤ F by omega)
    have hi6 : i < 60 := by omega
    have ok := n_ok60 hi6
    rw [zl2]
    by_cases e : Y 32 i = 0
    · obtain ⟨Y', a, b, c, d, f⟩ := ih (i + 1) F' Y (by omega) (by omega) h2 h37 hb hn
      generalize hR9 : loop2 _ F' = R9 at a
      have key : ∀ (u v : Int32) (j : Nat), (if i + 1 ≤ j ∧ j < M ∧ Y 32 j ≠ 0 then u else v) = if i ≤ j ∧ j < M ∧ Y 32 j ≠ 0 then u else v := fun u v j => by
        by_cases q : j = i
        · rw [if_neg (show ¬ (i + 1 ≤ j ∧ j < M ∧ Y 32 j ≠ 0) by omega), if_neg (fun z => z.2.2 (by rw [q]; exact e))]
        · by_cases q2 : i + 1 ≤ j ∧ j < M ∧ Y 32 j ≠ 0
          · rw [if_pos q2, if_pos ⟨by omega, q2.2⟩]
          · rw [if_neg q2, if_neg (fun z => q2 ⟨by omega, z.2⟩)]
      refine ⟨Y', ?_, b, fun j => by rw [c j, key], fun j => by rw [d j, key], fun q hq => ?_⟩
      · unfold lb_X11_forgets_52 b_X11_forgets_88
        rw [if_neg (show ¬ Y 0 2 ≤ nI i by rw [h2]; exact nI_ge (by omega) (by omega)), if_pos ok, nI_clamp (sm hi6), if_pos e, dV_eq, n_add1]
        exact a
      · rw [f q hq]
        by_cases z : nd Y q = i
        · rw [if_neg (show ¬ (i + 1 ≤ nd Y q ∧ Y 32 (nd Y q) ≠ 0) by omega), if_neg (fun w => w.2 (by rw [z]; exact e))]
        · by_cases z2 : i + 1 ≤ nd Y q ∧ Y 32 (nd Y q) ≠ 0
          · rw [if_pos z2, if_pos ⟨by omega, z2.2⟩]
          · rw [if_neg z2, if_neg (fun w => z2 ⟨by omega, w.2⟩)]
    · let Y1 : JX := pX (pX Y 19 (upd (Y 19) i 0)) 31 (upd (Y 31) i 0)
      obtain ⟨Y2, k1, k2, k3⟩ := y_kills (Y := Y1) hP hi6 h37 hb
      have e29 : Y2 29 = Y 29 := k2 29 (by omega)
      have hnd : ∀ q, nd Y2 q = nd Y q := fun q => by unfold nd; rw [e29]
      have e32 : Y2 32 = Y 32 := k2 32 (by omega)
      have e19 : Y2 19 = upd (Y 19) i 0 := k2 19 (by omega)
      have e31 : Y2 31 = upd (Y 31) i 0 := k2 31 (by omega)
      have e30 : ∀ q, q < P → Y2 30 q = if nd Y q = i then 1 else Y 30 q := fun q hq => by
        rw [k3 q]
        show (if q < P ∧ Y 29 q = nI i then 1 else Y 30 q) = _
        obtain ⟨n1, n2⟩ := hn q hq
        by_cases z : nd Y q = i
        · rw [if_pos ⟨hq, by rw [n1, z]⟩, if_pos z]
        · rw [if_neg (fun w => z (by have := w.2; rw [n1] at this; exact (nI_eq (by omega) (by omega)).mp this)), if_neg z]
      obtain ⟨Y', a, b, c, d, f⟩ := ih (i + 1) F' Y2 (by omega) (by omega) (by rw [k2 0 (by omega)]; exact h2) (by rw [k2 0 (by omega)]; exact h37) (fun q hq => by
        rw [e30 q hq]
        split
        · exact Or.inr rfl
        · exact hb q hq) (fun q hq => by rw [hnd, e29]; exact hn q hq)
      generalize hR9 : loop2 _ F' = R9 at a
      have key : ∀ (g : Nat → Int32) (j : Nat), (if i + 1 ≤ j ∧ j < M ∧ Y 32 j ≠ 0 then 0 else upd g i 0 j) = if i ≤ j ∧ j < M ∧ Y 32 j ≠ 0 then 0 else g j := fun g j => by
        rw [u_at]
        by_cases q : j = i
        · rw [if_neg (show ¬ (i + 1 ≤ j ∧ j < M ∧ Y 32 j ≠ 0) by omega), if_pos q, if_pos ⟨by omega, by omega, by rw [q]; exact e⟩]
        · rw [if_neg q]
          by_cases q2 : i + 1 ≤ j ∧ j < M ∧ Y 32 j ≠ 0
          · rw [if_pos q2, if_pos ⟨by omega, q2.2⟩]
          · rw [if_neg q2, if_neg (fun z => q2 ⟨by omega, z.2⟩)]
      refine ⟨Y', ?_, fun q h1 h2 h3 => (b q h1 h2 h3).trans ((k2 q h2).trans ((if_neg h3).trans (if_neg h1))), fun j => ?_, fun j => ?_, fun q hq => ?_⟩
      · unfold lb_X11_forgets_52 b_X11_forgets_88
        rw [if_neg (show ¬ Y 0 2 ≤ nI i by rw [h2]; exact nI_ge (by omega) (by omega)), if_pos ok, nI_clamp (sm hi6), if_neg e, if_pos ok, dX_eq, if_pos ok, dX_eq]
        rw [show f_X11_kills (pX (pX Y 19 (upd (Y 19) i (vp_nar .boolean 0))) 31 (upd ((pX Y 19 (upd (Y 19) i (vp_nar .boolean 0))) 31) i (vp_nar .boolean 0))) (nI i) = some Y2 from k1, bd_some, dV_eq, n_add1]
        exact a
      · rw [c j, e19, e32]; exact key (Y 19) j
      · rw [d j, e31, e32]; exact key (Y 31) j
      · rw [f q hq, hnd, e32, e30 q hq]
        by_cases z : nd Y q = i
        · rw [if_neg (show ¬ (i + 1 ≤ nd Y q ∧ Y 32 (nd Y q) ≠ 0) by omega), if_pos z, if_pos ⟨by omega, by rw [z]; exact e⟩]
        · rw [if_neg z]
          by_cases z2 : i + 1 ≤ nd Y q ∧ Y 32 (nd Y q) ≠ 0
          · rw [if_pos z2, if_pos ⟨by omega, z2.2⟩]
          · rw [if_neg z2, if_neg (fun w => z2 ⟨by omega, w.2⟩)]
theorem c_forget {Ys X Y : JX} {M R P n : Nat} (hT : TY Y M) (hY : RY Y R) (hX : RX X Y R) (hE : EX X Y) (hEY : EY Y M) (hER : ER Y) (hL : LV Ys Y P) (hPL : PL Ys M P) (h37 : Y 0 37 = nI P) (h29 : Y 29 = Ys 29) (hn : n < 60) : ∃ X' Y', f_X2_takeAway X (nI n) = some X' ∧ f_X11_forgets Y (nI n) = some Y' ∧ EX X' Y' ∧ EY Y' M ∧ ER Y' ∧ LV Ys Y' P ∧ (∀ q, q ≠ 36 → q ≠ 42 → q ≠ 43 → X' q = X q) ∧ ∀ q, q ≠ 19 → q ≠ 30 → q ≠ 31 → q ≠ 32 → Y' q = Y q := by
  have hM := hT.1.2.1
  obtain ⟨X1, a1, a2, a3⟩ := x_gon1 (n := n) (v2 := if ro Y R (nI n) = none then 0 else 1) hX hY hE hEY hn rfl 60 0 1000 X rfl (by decide) (fun _ _ => rfl) (fun j hj => absurd hj (Nat.not_lt_zero j))
  obtain ⟨X2, b1, b2, b3, b4⟩ := x_gon2 60 0 1000 X1 rfl (by decide)
  obtain ⟨Y1, c1, c2, c3⟩ := y_gon1 (n := n) hT hY hEY hn M 0 1000 Y (Nat.zero_add _) (by omega) (fun _ _ => rfl) (fun j hj => absurd hj (Nat.not_lt_zero j))
  have hnd : ∀ q, nd Y1 q = nd Ys q := fun q => by unfold nd; rw [c2 29 (by omega), h29]
  obtain ⟨Y2, d1, d2, d3, d4, d5⟩ := y_gon2 hM hPL.1 M 0 1000 Y1 (Nat.zero_add _) (by omega) (by rw [c2 0 (by omega)]; exact hT.1.2.2) (by rw [c2 0 (by omega)]; exact h37) (fun q hq => by rw [c2 30 (by omega)]; exact (hL q hq).1) (fun q hq => by rw [hnd, c2 29 (by omega), h29]; exact ⟨(hPL.2 q hq).1, (hPL.2 q hq).2.1⟩)
  have hg0 : ∀ g : Bool, (bB g ≠ 0) ↔ g = true := fun g => by cases g <;> simp [bB]
  have hz : ∀ k, M ≤ k → k < 60 → Y 19 k = 0 := fun k hk hk6 => by
    by_cases e : Y 19 k = 0
    · exact e
    · exact absurd ((hEY k hk6).1 e).1 (by omega)
  have hz31 : ∀ k, M ≤ k → k < 60 → Y 31 k = 0 := fun k hk hk6 => by
    by_cases e : Y 31 k = 0
    · exact e
    · exact absurd (hz k hk hk6) ((hER k hk6).2 e).1
  have y19 : ∀ k, k < 60 → Y2 19 k = if gon Y R n k = true then 0 else Y 19 k := fun k hk => by
    rw [d3, c2 19 (by omega)]
    by_cases q : k < M
    · rw [c3 k q]
      by_cases e : gon Y R n k = true
      · rw [if_pos ⟨Nat.zero_le _, q, (hg0 _).mpr e⟩, if_pos e]
      · rw [if_neg (fun z => e ((hg0 _).mp z.2.2)), if_neg e]
    · rw [if_neg (fun z => q z.2.1), hz k (by omega) hk]
      split <;> rfl
  have y31 : ∀ k, k < 60 → Y2 31 k = if gon Y R n k = true then 0 else Y 31 k := fun k hk => by
    rw [d4, c2 31 (by omega)]
    by_cases q : k < M
    · rw [c3 k q]
      by_cases e : gon Y R n k = true
      · rw [if_pos ⟨Nat.zero_le _, q, (hg0 _).mpr e⟩, if_pos e]
      · rw [if_neg (fun z => e ((hg0 _).mp z.2.2)), if_neg e]
    · rw [if_neg (fun z => q z.2.1), hz31 k (by omega) hk]
      split <;> rfl
  have x36 : ∀ k, k < 60 → X2 36 k = if gon Y R n k = true then 0 else X 36 k := fun k hk => by
    rw [b3, a2 36 (by omega), a3 k hk]
    by_cases e : gon Y R n k = true
    · rw [if_pos ⟨Nat.zero_le _, hk, (hg0 _).mpr e⟩, if_pos e]
    · rw [if_neg (fun z => e ((hg0 _).mp z.2.2)), if_neg e]
  have x42 : ∀ k, k < 60 → X2 42 k = if gon Y R n k = true then 0 else X 42 k := fun k hk => by
    rw [b4, a2 42 (by omega), a3 k hk]
    by_cases e : gon Y R n k = true
    · rw [if_pos ⟨Nat.zero_le _, hk, (hg0 _).mpr e⟩, if_pos e]
    · rw [if_neg (fun z => e ((hg0 _).mp z.2.2)), if_neg e]
  have fx : ∀ q, q ≠ 36 → q ≠ 42 → q ≠ 43 → X2 q = X q := fun q h1 h2 h3 => (b2 q h1 h2).trans (a2 q h3)
  have fy : ∀ q, q ≠ 19 → q ≠ 30 → q ≠ 31 → q ≠ 32 → Y2 q = Y q := fun q h1 h2 h3 h4 => (d2 q h1 h2 h3).trans (c2 q h4)
  refine ⟨X2, Y2, ?_, ?_, fun k hk => ?_, fun k hk => ?_, fun k hk => ?_, fun k hk => ?_, fx, fy⟩
  · unfold f_X2_takeAway
    rw [x_find hX hY, bd_some]
    cases e : ro Y R (nI n) with
    | none =>
      rw [e, if_pos rfl] at a1
      rw [Option.map_none, oC_none]
      exact a1.trans b1
    | some r =>
      rw [e, if_neg (fun z => by cases z)] at a1
      rw [Option.map_some, oC_some, if_pos (hX.1.1 r (by have := (ro_lt e).1; have := hY.1.1; omega))]
      exact a1.trans b1
  · exact c1.trans d1
  · obtain ⟨e36, e37, e38, e39, e40, e42, e116⟩ := hE k hk
    rw [x36 k hk, x42 k hk, y19 k hk, y31 k hk, e36, e42, fx 37 (by omega) (by omega) (by omega), fx 38 (by omega) (by omega) (by omega), fx 39 (by omega) (by omega) (by omega), fx 40 (by omega) (by omega) (by omega), fx (116 + k) (by omega) (by omega) (by omega), fy 20 (by omega) (by omega) (by omega) (by omega), fy 21 (by omega) (by omega) (by omega) (by omega), fy 22 (by omega) (by omega) (by omega) (by omega), fy 23 (by omega) (by omega) (by omega) (by omega), fy 24 (by omega) (by omega) (by omega) (by omega)]
    exact ⟨rfl, e37, e38, e39, e40, rfl, e116⟩
  · obtain ⟨f1, f2, f3⟩ := hEY k hk
    rw [y19 k hk, fy 20 (by omega) (by omega) (by omega) (by omega), fy 23 (by omega) (by omega) (by omega) (by omega), fy 24 (by omega) (by omega) (by omega) (by omega), fy 2 (by omega) (by omega) (by omega) (by omega), fy 22 (by omega) (by omega) (by omega) (by omega)]
    refine ⟨fun z => f1 (fun w => z ?_), f2, f3⟩
    rw [w]
    split <;> rfl
  · obtain ⟨f1, f2⟩ := hER k hk
    rw [y19 k hk, y31 k hk, fy 2 (by omega) (by omega) (by omega) (by omega)]
    by_cases e : gon Y R n k = true
    · rw [if_pos e, if_pos e]
      exact ⟨Or.inl rfl, fun z => absurd rfl z⟩
    · rw [if_neg e, if_neg e]
      exact ⟨f1, f2⟩
  · obtain ⟨f1, f2⟩ := hL k hk
    obtain ⟨p1, p2, p3⟩ := hPL.2 k hk
    have hn6 : nd Ys k < 60 := by omega
    rw [d5 k hk, hnd, c2 30 (by omega), c3 _ p2, y19 _ hn6, y31 _ hn6]
    by_cases e : gon Y R n (nd Ys k) = true
    · rw [if_pos ⟨Nat.zero_le _, (hg0 _).mpr e⟩, if_pos e, if_pos e]
      exact ⟨Or.inr rfl, fun z => absurd z one0, fun z => absurd rfl z.2.1⟩
    · rw [if_neg (fun z => e ((hg0 _).mp z.2)), if_neg e, if_neg e]
      exact ⟨f1, f2⟩

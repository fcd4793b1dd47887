/-! ===== call: closest ===== -/
def dst (j k : Nat) : Nat := if k ≤ j then j - k else k - j
def mn (j k : Nat) : Nat := if k ≤ j then k else j
theorem n_dst : ∀ j, j < 20 → ∀ k, k < 20 → (if 0 ≤ nI j - nI k then nI j - nI k else 0 - (nI j - nI k)) = nI (dst j k) := by decide
theorem n_ds1 : ∀ j, j < 20 → ∀ k, k < 20 → k ≤ j → nI j - nI k = nI (j - k) := by decide
theorem n_best : ∀ c, c < 20 → ∀ d, d < 20 → nI (100 * c + d) / 100 = nI c ∧ nI (100 * c + d) - nI (100 * c + d) / 100 * 100 = nI d := by decide
theorem dst_lt {j k : Nat} (hj : j < 20) (hk : k < 20) : dst j k < 20 := by unfold dst; split <;> omega
theorem mn_lt {j k : Nat} (hj : j < 20) : mn j k < 20 := by unfold mn; split <;> omega
def nea (j k c d : Nat) : Bool := decide (dst j k < dst c d) || (decide (dst j k = dst c d) && decide (mn j k < mn c d))
def gd (g : Nat → Int32) (a b : Int32) (j k : Nat) : Bool := decide (j ≠ k) && (decide (g j = a) && decide (g k = b))
def stp (g : Nat → Int32) (a b : Int32) (o : Option (Nat × Nat)) (j k : Nat) : Option (Nat × Nat) := if gd g a b j k = true then (match o with | none => some (j, k) | some (c, d) => if nea j k c d = true then some (j, k) else some (c, d)) else o
def inn (g : Nat → Int32) (a b : Int32) (j : Nat) : Nat → Nat → Option (Nat × Nat) → Option (Nat × Nat)
  | 0, _, o => o
  | m + 1, k, o => inn g a b j m (k + 1) (stp g a b o j k)
def oun (g : Nat → Int32) (a b : Int32) (l : Nat) : Nat → Nat → Option (Nat × Nat) → Option (Nat × Nat)
  | 0, _, o => o
  | m + 1, j, o => oun g a b l m (j + 1) (inn g a b j l 0 o)
def enp (o : Option (Nat × Nat)) : Int32 := match o with
  | none => -1
  | some (c, d) => nI (100 * c + d)
/-- what is best lies in the row, and not behind j -/
def okp (j : Nat) (o : Option (Nat × Nat)) : Prop := ∀ c d, o = some (c, d) → c ≤ j ∧ c < 20 ∧ d < 20
theorem okp_stp {g : Nat → Int32} {a b : Int32} {j k : Nat} {o : Option (Nat × Nat)} (hj : j < 20) (hk : k < 20) (h : okp j o) : okp j (stp g a b o j k) := by
  unfold stp
  by_cases q : gd g a b j k = true
  · rw [if_pos q]
    cases o with
    | none => intro c d e; cases e; exact ⟨Nat.le_refl _, hj, hk⟩
    | some cd =>
      obtain ⟨c0, d0⟩ := cd
      show okp j (if nea j k c0 d0 = true then some (j, k) else some (c0, d0))
      by_cases q2 : nea j k c0 d0 = true
      · rw [if_pos q2]; intro c d e; cases e; exact ⟨Nat.le_refl _, hj, hk⟩
      · rw [if_neg q2]; exact h
  · rw [if_neg q]; exact h
theorem okp_inn {g : Nat → Int32} {a b : Int32} {j l : Nat} (hj : j < 20) (hl : l ≤ 20) : ∀ m k o, k + m = l → okp j o → okp j (inn g a b j m k o) := by
  intro m
  induction m with
  | zero => intro k o _ h; exact h
  | succ m ih => intro k o hk h; exact ih (k + 1) _ (by omega) (okp_stp hj (by omega) h)
def XS (o : Option (Nat × Nat)) (v6 v7 v8 : Int32) : Prop := v6 = enp o ∧ ∀ c d, o = some (c, d) → v7 = nI (dst c d) ∧ v8 = nI (mn c d)
theorem enp_ne {o : Option (Nat × Nat)} {j : Nat} (h : okp j o) {cd : Nat × Nat} (e : o = some cd) : ¬ enp o = -1 := by
  subst e
  obtain ⟨c, d⟩ := cd
  obtain ⟨-, h1, h2⟩ := h c d rfl
  exact nm1 (show 100 * c + d < 2 ^ 31 by omega)
theorem n_100 (j k : Nat) : (100 : Int32) * nI j + nI k = nI (100 * j + k) := by
  rw [show (100 : Int32) * nI j = nI (100 * j) from (Int32.ofNat_mul 100 j).symm, nI_add]
theorem x_inn_loop {X : JX} {q l j : Nat} {a b : Int32} {rec : Int32 → Int32 → Int32 → Int32 → Option Int32} (hl : l ≤ 20) (hj : j < l) : ∀ m k F o v6 v7 v8, k + m = l → m + 1 ≤ F → okp j o → XS o v6 v7 v8 → ∃ w6 w7 w8, loop4 (lb_X5_closestPlaces_48 rec X a b q (nI l) (nI j)) F v6 v7 v8 (nI k) = rec w6 w7 w8 (nI (j + 1)) ∧ XS (inn (X q) a b j m k o) w6 w7 w8 := by
  intro m
  induction m with
  | zero =>
    intro k F o v6 v7 v8 hk hF ho hs
    obtain ⟨F', rfl⟩ := Nat.exists_eq_add_of_le' hF
    refine ⟨v6, v7, v8, ?_, hs⟩
    rw [zl4]
    generalize hR9 : loop4 _ F' = R9
    unfold lb_X5_closestPlaces_48
    rw [if_pos (show nI l ≤ nI k from nI_le (by omega) (by omega)), dV_eq, n_add1]
  | succ m ih =>
    intro k F o v6 v7 v8 hk hF ho hs
    obtain ⟨F', rfl⟩ := Nat.exists_eq_add_of_le' (show 1 ≤ F by omega)
    rw [zl4]
    have hk20 : k < 20 := by omega
    have hj20 : j < 20 := by omega
    have okj := n_ok (show j < 20 from hj20) (by decide)
    have okk := n_ok (show k < 20 from hk20) (by decide)
    have clj := nI_clamp (show j < 2 ^ 31 by omega)
    have clk := nI_clamp (show k < 2 ^ 31 by omega)
    have h9 := fun o v6 v7 v8 ho hs => ih (k + 1) F' o v6 v7 v8 (by omega) (by omega) ho hs
    generalize hR9 : loop4 _ F' = R9 at h9
    have keep : stp (X q) a b o j k = o → ∃ w6 w7 w8, b_X5_closestPlaces_159 rec R9 X a b q (nI l) v6 v7 v8 (nI j) (nI k) = rec w6 w7 w8 (nI (j + 1)) ∧ XS (inn (X q) a b j (m + 1) k o) w6 w7 w8 := by
      intro e
      obtain ⟨w6, w7, w8, e1, e2⟩ := h9 o v6 v7 v8 ho hs
      refine ⟨w6, w7, w8, ?_, ?_⟩
      · unfold b_X5_closestPlaces_159
        rw [dV_eq, n_add1]
        exact e1
      · show XS (inn (X q) a b j m (k + 1) (stp (X q) a b o j k)) w6 w7 w8
        rw [e]; exact e2
    have set : stp (X q) a b o j k = some (j, k) → ∃ w6 w7 w8, b_X5_closestPlaces_141 rec R9 X a b q (nI l) (nI j) (nI k) (nI (dst j k)) (nI (mn j k)) = rec w6 w7 w8 (nI (j + 1)) ∧ XS (inn (X q) a b j (m + 1) k o) w6 w7 w8 := by
      intro e
      obtain ⟨w6, w7, w8, e1, e2⟩ := h9 (some (j, k)) (nI (100 * j + k)) (nI (dst j k)) (nI (mn j k)) (fun c d z => by cases z; exact ⟨Nat.le_refl _, hj20, hk20⟩) ⟨rfl, fun c d z => by cases z; exact ⟨rfl, rfl⟩⟩
      refine ⟨w6, w7, w8, ?_, ?_⟩
      · unfold b_X5_closestPlaces_141 b_X5_closestPlaces_159
        rw [n_100, dV_eq, dV_eq, n_add1]
        exact e1
      · show XS (inn (X q) a b j m (k + 1) (stp (X q) a b o j k)) w6 w7 w8
        rw [e]; exact e2
    unfold lb_X5_closestPlaces_48
    rw [if_neg (show ¬ nI l ≤ nI k from nI_ge (by omega) (by omega))]
    by_cases c0 : j = k
    · rw [if_pos (by rw [c0])]
      exact keep (by unfold stp; rw [if_neg (by unfold gd; simp [c0])])
    · rw [if_neg (show ¬ nI j = nI k from fun z => c0 ((nI_eq (by omega) (by omega)).mp z)), if_pos okj, clj]
      by_cases c1 : X q j = a
      · rw [if_neg (fun z => z c1), if_pos okk, clk]
        by_cases c2 : X q k = b
        · have hgd : gd (X q) a b j k = true := by unfold gd; simp [c0, c1, c2]
          have hmn : (if nI k < nI j then nI k else nI j) = nI (mn j k) := by
            unfold mn
            by_cases z : k < j
            · rw [if_pos (show nI k < nI j from nI_lt z (by omega)), if_pos (by omega)]
            · rw [if_neg (show ¬ nI k < nI j from fun y => z ((nI_ltI (by omega) (by omega)).mp y)), if_neg (by omega)]
          rw [if_pos c2, n_dst j hj20 k hk20, hmn, dV_eq, dV_eq]
          unfold b_X5_closestPlaces_128
          cases o with
          | none =>
            have hv6 : v6 = -1 := hs.1
            have e : stp (X q) a b none j k = some (j, k) := by unfold stp; rw [if_pos hgd]
            rw [if_pos hv6, if_pos hv6]
            obtain ⟨w6, w7, w8, e1, e2⟩ := set e
            refine ⟨w6, w7, w8, ?_, e2⟩
            split
            · exact e1
            · split
              · exact e1
              · split
                · exact e1
                · exact e1
          | some cd =>
            obtain ⟨c, d⟩ := cd
            obtain ⟨h7, h8⟩ := hs.2 c d rfl
            obtain ⟨-, hc, hd⟩ := ho c d rfl
            have hv6 : ¬ v6 = -1 := by rw [hs.1]; exact enp_ne ho rfl
            have d1 := dst_lt hj20 hk20
            have d2 := dst_lt hc hd
            have m1 := mn_lt (k := k) hj20
            have m2 := mn_lt (k := d) hc
            have yes : nea j k c d = true → stp (X q) a b (some (c, d)) j k = some (j, k) := fun z => by
              unfold stp
              rw [if_pos hgd]
              show (if nea j k c d = true then some (j, k) else some (c, d)) = _
              rw [if_pos z]
            have no : ¬ nea j k c d = true → stp (X q) a b (some (c, d)) j k = some (c, d) := fun z => by
              unfold stp
              rw [if_pos hgd]
              show (if nea j k c d = true then some (j, k) else some (c, d)) = _
              rw [if_neg z]
            rw [if_neg hv6, if_neg hv6, if_neg one0, if_pos (show (0 : Int32) = 0 from rfl), h7, h8]
            by_cases c3 : dst j k < dst c d
            · rw [if_pos (show nI (dst j k) < nI (dst c d) from nI_lt c3 (by omega))]
              exact set (yes (by unfold nea; rw [decide_eq_true c3]; rfl))
            · rw [if_neg (show ¬ nI (dst j k) < nI (dst c d) from fun z => c3 ((nI_ltI (by omega) (by omega)).mp z))]
              by_cases c4 : dst j k = dst c d
              · rw [if_neg (fun z => z (by rw [c4]))]
                by_cases c5 : mn j k < mn c d
                · rw [if_neg (show ¬ nI (mn c d) ≤ nI (mn j k) from nI_ge c5 (by omega))]
                  exact set (yes (by unfold nea; rw [decide_eq_true c4, decide_eq_true c5]; simp))
                · rw [if_pos (show nI (mn c d) ≤ nI (mn j k) from nI_le (by omega) (by omega))]
                  have := keep (no (by unfold nea; rw [decide_eq_false c3, decide_eq_false c5]; simp))
                  rw [h7, h8] at this
                  exact this
              · rw [if_pos (fun z => c4 ((nI_eq (by omega) (by omega)).mp z))]
                have := keep (no (by unfold nea; rw [decide_eq_false c3, decide_eq_false c4]; simp))
                rw [h7, h8] at this
                exact this
        · rw [if_neg c2]
          exact keep (by unfold stp; rw [if_neg (by unfold gd; simp [c2])])
      · rw [if_pos c1]
        exact keep (by unfold stp; rw [if_neg (by unfold gd; simp [c1])])
theorem x_oun_loop {X : JX} {q l : Nat} {a b : Int32} (hl : l ≤ 20) : ∀ m j F o v6 v7 v8, j + m = l → m + 1 ≤ F → okp j o → XS o v6 v7 v8 → loop4 (lb_X5_closestPlaces_38 X a b q (nI l)) F v6 v7 v8 (nI j) = some (enp (oun (X q) a b l m j o)) := by
  intro m
  induction m with
  | zero =>
    intro j F o v6 v7 v8 hj hF ho hs
    obtain ⟨F', rfl⟩ := Nat.exists_eq_add_of_le' hF
    rw [zl4]
    generalize hR9 : loop4 _ F' = R9
    unfold lb_X5_closestPlaces_38
    rw [if_pos (show nI l ≤ nI j from nI_le (by omega) (by omega)), hs.1]
    rfl
  | succ m ih =>
    intro j F o v6 v7 v8 hj hF ho hs
    obtain ⟨F', rfl⟩ := Nat.exists_eq_add_of_le' (show 1 ≤ F by omega)
    obtain ⟨w6, w7, w8, e1, e2⟩ := x_inn_loop (X := X) (q := q) (a := a) (b := b) (rec := loop4 (lb_X5_closestPlaces_38 X a b q (nI l)) F') hl (show j < l by omega) l 0 1000 o v6 v7 v8 (Nat.zero_add _) (by omega) ho hs
    have h9 := ih (j + 1) F' (inn (X q) a b j l 0 o) w6 w7 w8 (by omega) (by omega) (fun c d z => by
      obtain ⟨z1, z2⟩ := okp_inn (by omega) hl l 0 o (Nat.zero_add _) ho c d z
      exact ⟨by omega, z2⟩) e2
    rw [zl4]
    generalize hR9 : loop4 (lb_X5_closestPlaces_38 X a b q (nI l)) F' = R9 at e1 h9
    unfold lb_X5_closestPlaces_38
    rw [if_neg (show ¬ nI l ≤ nI j from nI_ge (by omega) (by omega))]
    exact e1.trans h9
/-! the reference's -/
theorem y_closer {Y : JX} {j k c d : Nat} (hj : j < 20) (hk : k < 20) (hc : c < 20) (hd : d < 20) (hcj : c ≤ j) : f_X11_isCloser Y (nI j) (nI k) (nI c) (nI d) = some (bB (nea j k c d)) := by
  have d1 := dst_lt hj hk
  have d2 := dst_lt hc hd
  have m1 := mn_lt (k := k) hj
  have m2 := mn_lt (k := d) hc
  have fin : b_X11_isCloser_54 Y (nI j) (nI c) (nI (dst j k)) (nI (dst c d)) (nI (mn j k)) (nI (mn c d)) = some (bB (nea j k c d)) := by
    unfold b_X11_isCloser_54 nea
    by_cases c1 : dst j k = dst c d
    · rw [if_pos (by rw [c1]), decide_eq_false (show ¬ dst j k < dst c d by omega), decide_eq_true c1, Bool.false_or, Bool.true_and]
      by_cases c2 : mn j k = mn c d
      · rw [if_pos (by rw [c2]), if_pos (show nI c ≤ nI j from nI_le hcj (by omega)), decide_eq_false (show ¬ mn j k < mn c d by omega)]; rfl
      · rw [if_neg (fun z => c2 ((nI_eq (by omega) (by omega)).mp z))]
        by_cases c3 : mn j k < mn c d
        · rw [if_neg (show ¬ nI (mn c d) ≤ nI (mn j k) from nI_ge c3 (by omega)), decide_eq_true c3]; rfl
        · rw [if_pos (show nI (mn c d) ≤ nI (mn j k) from nI_le (by omega) (by omega)), decide_eq_false c3]; rfl
    · rw [if_neg (fun z => c1 ((nI_eq (by omega) (by omega)).mp z)), decide_eq_false c1, Bool.false_and, Bool.or_false]
      by_cases c3 : dst j k < dst c d
      · rw [if_neg (show ¬ nI (dst c d) ≤ nI (dst j k) from nI_ge c3 (by omega)), decide_eq_true c3]; rfl
      · rw [if_pos (show nI (dst c d) ≤ nI (dst j k) from nI_le (by omega) (by omega)), decide_eq_false c3]; rfl
  have f42 : b_X11_isCloser_42 Y (nI j) (nI c) (nI d) (nI (dst j k)) (nI (dst c d)) (nI (mn j k)) = some (bB (nea j k c d)) := by
    unfold b_X11_isCloser_42
    by_cases z : d ≤ c
    · rw [if_pos (show nI d ≤ nI c from nI_le z (by omega)), show nI d = nI (mn c d) by unfold mn; rw [if_pos z]]; exact fin
    · rw [if_neg (show ¬ nI d ≤ nI c from nI_ge (by omega) (by omega))]
      have e : nI (mn c d) = nI c := by unfold mn; rw [if_neg z]
      have := fin
      rw [e] at this
      exact this
  have f30 : b_X11_isCloser_30 Y (nI j) (nI k) (nI c) (nI d) (nI (dst j k)) (nI (dst c d)) = some (bB (nea j k c d)) := by
    unfold b_X11_isCloser_30
    by_cases z : k ≤ j
    · rw [if_pos (show nI k ≤ nI j from nI_le z (by omega))]
      have e : nI (mn j k) = nI k := by unfold mn; rw [if_pos z]
      have := f42
      rw [e] at this
      exact this
    · rw [if_neg (show ¬ nI k ≤ nI j from nI_ge (by omega) (by omega))]
      have e : nI (mn j k) = nI j := by unfold mn; rw [if_neg z]
      have := f42
      rw [e] at this
      exact this
  have f14 : b_X11_isCloser_14 Y (nI j) (nI k) (nI c) (nI d) (nI (dst j k)) = some (bB (nea j k c d)) := by
    unfold b_X11_isCloser_14
    by_cases z : d ≤ c
    · rw [if_pos (show nI d ≤ nI c from nI_le z (by omega)), n_ds1 c hc d hd z]
      have e : nI (dst c d) = nI (c - d) := by unfold dst; rw [if_pos z]
      have := f30
      rw [e] at this
      exact this
    · rw [if_neg (show ¬ nI d ≤ nI c from nI_ge (by omega) (by omega)), n_ds1 d hd c hc (by omega)]
      have e : nI (dst c d) = nI (d - c) := by unfold dst; rw [if_neg z]
      have := f30
      rw [e] at this
      exact this
  unfold f_X11_isCloser
  by_cases z : k ≤ j
  · rw [if_pos (show nI k ≤ nI j from nI_le z (by omega)), n_ds1 j hj k hk z]
    have e : nI (dst j k) = nI (j - k) := by unfold dst; rw [if_pos z]
    have := f14
    rw [e] at this
    exact this
  · rw [if_neg (show ¬ nI k ≤ nI j from nI_ge (by omega) (by omega)), n_ds1 k hk j hj (by omega)]
    have e : nI (dst j k) = nI (k - j) := by unfold dst; rw [if_neg z]
    have := f14
    rw [e] at this
    exact this
theorem y_inn_loop {Y : JX} {n l j : Nat} {a b : Int32} {rec : Int32 → Int32 → Option (Int32 × JX)} (hn : n < 60) (hl : l ≤ 20) (hj : j < l) : ∀ m k F o, k + m = l → m + 1 ≤ F → okp j o → loop2 (lb_X11_closest_108 rec Y (nI n) a b (nI l) (nI j)) F (enp o) (nI k) = rec (enp (inn (wd Y n) a b j m k o)) (nI (j + 1)) := by
  intro m
  induction m with
  | zero =>
    intro k F o hk hF ho
    obtain ⟨F', rfl⟩ := Nat.exists_eq_add_of_le' hF
    rw [zl2]
    generalize hR9 : loop2 _ F' = R9
    unfold lb_X11_closest_108
    rw [if_pos (show nI l ≤ nI k from nI_le (by omega) (by omega)), dV_eq, n_add1]
    rfl
  | succ m ih =>
    intro k F o hk hF ho
    obtain ⟨F', rfl⟩ := Nat.exists_eq_add_of_le' (show 1 ≤ F by omega)
    have hk20 : k < 20 := by omega
    have hj20 : j < 20 := by omega
    rw [zl2]
    have h9 := fun o ho => ih (k + 1) F' o (by omega) (by omega) ho
    generalize hR9 : loop2 _ F' = R9 at h9
    have keep : stp (wd Y n) a b o j k = o → b_X11_closest_203 rec R9 Y (nI n) a b (enp o) (nI l) (nI j) (nI k) = rec (enp (inn (wd Y n) a b j (m + 1) k o)) (nI (j + 1)) := by
      intro e
      unfold b_X11_closest_203
      rw [dV_eq, n_add1, h9 o ho]
      show _ = rec (enp (inn (wd Y n) a b j m (k + 1) (stp (wd Y n) a b o j k))) (nI (j + 1))
      rw [e]
    have set : stp (wd Y n) a b o j k = some (j, k) → b_X11_closest_193 rec R9 Y (nI n) a b (nI l) (nI j) (nI k) = rec (enp (inn (wd Y n) a b j (m + 1) k o)) (nI (j + 1)) := by
      intro e
      have := h9 (some (j, k)) (fun c d z => by cases z; exact ⟨Nat.le_refl _, hj20, hk20⟩)
      unfold b_X11_closest_193 b_X11_closest_203
      rw [n_100, dV_eq, dV_eq, n_add1]
      show R9 (enp (some (j, k))) (nI (k + 1)) = rec (enp (inn (wd Y n) a b j m (k + 1) (stp (wd Y n) a b o j k))) (nI (j + 1))
      rw [this, e]
    have zero : stp (wd Y n) a b o j k = o → b_X11_closest_160 rec R9 Y (nI n) a b (enp o) (nI l) (nI j) (nI k) 0 = rec (enp (inn (wd Y n) a b j (m + 1) k o)) (nI (j + 1)) := by
      intro e
      unfold b_X11_closest_160
      rw [if_pos rfl]
      exact keep e
    unfold lb_X11_closest_108
    rw [if_neg (show ¬ nI l ≤ nI k from nI_ge (by omega) (by omega))]
    by_cases c0 : j = k
    · rw [if_pos (by rw [c0])]
      exact zero (by unfold stp; rw [if_neg (by unfold gd; simp [c0])])
    · rw [if_neg (show ¬ nI j = nI k from fun z => c0 ((nI_eq (by omega) (by omega)).mp z)), n_20 hn (by omega), if_pos (n_ok (show 20 * n + j < 1200 by omega) (by decide)), nI_clamp (show 20 * n + j < 2 ^ 31 by omega)]
      by_cases c1 : Y 24 (20 * n + j) = a
      · rw [if_neg (fun z => z c1), n_20 hn (by omega), if_pos (n_ok (show 20 * n + k < 1200 by omega) (by decide)), nI_clamp (show 20 * n + k < 2 ^ 31 by omega)]
        by_cases c2 : Y 24 (20 * n + k) = b
        · have w1 : wd Y n j = a := c1
          have w2 : wd Y n k = b := c2
          have hgd : gd (wd Y n) a b j k = true := by unfold gd; simp [c0, w1, w2]
          rw [if_neg (fun z => z c2)]
          unfold b_X11_closest_160
          rw [if_neg one0]
          cases o with
          | none =>
            rw [if_pos (show enp none = -1 from rfl)]
            exact set (by unfold stp; rw [if_pos hgd])
          | some cd =>
            have hne := enp_ne ho rfl
            obtain ⟨c, d⟩ := cd
            obtain ⟨hcj, hc, hd⟩ := ho c d rfl
            obtain ⟨b1, b2⟩ := n_best c hc d hd
            rw [if_neg hne, show enp (some (c, d)) = nI (100 * c + d) from rfl, b2, b1, y_closer hj20 hk20 hc hd hcj, bd_some]
            cases hnea : nea j k c d with
            | true =>
              rw [if_neg (show ¬ bB true = 0 by decide)]
              refine set ?_
              unfold stp
              rw [if_pos hgd]
              show (if nea j k c d = true then some (j, k) else some (c, d)) = _
              rw [if_pos hnea]
            | false =>
              rw [if_pos (show bB false = 0 by decide)]
              refine keep ?_
              unfold stp
              rw [if_pos hgd]
              show (if nea j k c d = true then some (j, k) else some (c, d)) = _
              rw [if_neg (by rw [hnea]; decide)]
        · rw [if_pos c2]
          have w2 : ¬ wd Y n k = b := c2
          exact zero (by unfold stp; rw [if_neg (by unfold gd; simp [w2])])
      · rw [if_pos c1]
        have w1 : ¬ wd Y n j = a := c1
        exact zero (by unfold stp; rw [if_neg (by unfold gd; simp [w1])])
theorem y_oun_loop {Y : JX} {n l : Nat} {a b : Int32} (hn : n < 60) (hl : l ≤ 20) : ∀ m j F o, j + m = l → m + 1 ≤ F → okp j o → loop2 (lb_X11_closest_98 Y (nI n) a b (nI l)) F (enp o) (nI j) = some (enp (oun (wd Y n) a b l m j o), Y) := by
  intro m
  induction m with
  | zero =>
    intro j F o hj hF ho
    obtain ⟨F', rfl⟩ := Nat.exists_eq_add_of_le' hF
    rw [zl2]
    generalize hR9 : loop2 _ F' = R9
    unfold lb_X11_closest_98
    rw [if_pos (show nI l ≤ nI j from nI_le (by omega) (by omega))]
    rfl
  | succ m ih =>
    intro j F o hj hF ho
    obtain ⟨F', rfl⟩ := Nat.exists_eq_add_of_le' (show 1 ≤ F by omega)
    have e1 := y_inn_loop (Y := Y) (a := a) (b := b) (rec := loop2 (lb_X11_closest_98 Y (nI n) a b (nI l)) F') hn hl (show j < l by omega) l 0 1000 o (Nat.zero_add _) (by omega) ho
    have h9 := ih (j + 1) F' (inn (wd Y n) a b j l 0 o) (by omega) (by omega) (fun c d z => by
      obtain ⟨z1, z2⟩ := okp_inn (by omega) hl l 0 o (Nat.zero_add _) ho c d z
      exact ⟨by omega, z2⟩)
    rw [zl2]
    generalize hR9 : loop2 (lb_X11_closest_98 Y (nI n) a b (nI l)) F' = R9 at e1 h9
    unfold lb_X11_closest_98
    rw [if_neg (show ¬ nI l ≤ nI j from nI_ge (by omega) (by omega))]
    exact e1.trans h9
theorem inn_congr {g g' : Nat → Int32} {a b : Int32} {j l : Nat} (hj : j < l) (h : ∀ i, i < l → g i = g' i) : ∀ m k o, k + m = l → inn g a b j m k o = inn g' a b j m k o := by
  intro m
  induction m with
  | zero => intro k o _; rfl
  | succ m ih =>
    intro k o hk
    show inn g a b j m (k + 1) (stp g a b o j k) = inn g' a b j m (k + 1) (stp g' a b o j k)
    rw [ih (k + 1) _ (by omega), show stp g a b o j k = stp g' a b o j k by unfold stp gd; rw [h j hj, h k (by omega)]]
theorem oun_congr {g g' : Nat → Int32} {a b : Int32} {l : Nat} (h : ∀ i, i < l → g i = g' i) : ∀ m j o, j + m = l → oun g a b l m j o = oun g' a b l m j o := by
  intro m
  induction m with
  | zero => intro j o _; rfl
  | succ m ih =>
    intro j o hj
    show oun g a b l m (j + 1) (inn g a b j l 0 o) = oun g' a b l m (j + 1) (inn g' a b j l 0 o)
    rw [ih (j + 1) _ (by omega), inn_congr (by omega) h l 0 o (Nat.zero_add _)]
theorem op_28 {i : Nat} {X Y : JX} (h : Rel i X Y) : OpSim (Rel (i + 5)) X Y 28 := by
  intro p v a b
  have h0 := fun s => (h.mono (show i ≤ i + 5 by omega)).thr (s := s)
  obtain ⟨M, R, A, P, S, ⟨h1, h2, h3⟩, ⟨h4, h5, h6⟩, ⟨h7, h8⟩, -⟩ := h
  have y26 : b_X11_closest_26 Y = some (0, thr Y 1) := rfl
  have one : SimT (Rel (i + 5)) [1, 2] (some (some 1, 0, X)) (some (0, thr Y 1)) := ⟨some 1, 0, X, 0, thr Y 1, rfl, rfl, rfl, (fun q => by cases q), h0 1⟩
  by_cases c1 : ¬ p < 0 ∧ ¬ 3 < p
  rotate_left
  · have xe : f_X10_closest X p v a b = some (some 1, 0, X) := by
      unfold f_X10_closest b_X10_closest_30
      rw [x_isPerson, bo_f c1, bd_some, if_pos rfl]
    have ye : f_X11_closest Y p v a b = some (0, thr Y 1) := by
      unfold f_X11_closest
      rw [y_in, bo_f c1, bd_some, if_pos rfl, y26]
    rw [xe, ye]
    exact one
  rcases c_file h1 h2 v with ⟨n, hn, hM, rfl, ht, hf, e1, e2⟩ | ⟨e1, e2⟩
  rotate_left
  · have xe : f_X10_closest X p v a b = some (some 1, 0, X) := by
      unfold f_X10_closest b_X10_closest_30
      rw [x_isPerson, bo_t c1, bd_some, if_neg one0, e1, bd_some, if_pos rfl]
    have ye : f_X11_closest Y p v a b = some (0, thr Y 1) := by
      unfold f_X11_closest
      rw [y_in, bo_t c1, bd_some, if_neg one0, e2, bd_some, if_pos rfl, y26]
    rw [xe, ye]
    exact one
  have xo := x_opB (p := p) h1 h2 hn
  have yo : f_X11_mayReadAt Y p (nI n) = some (bB (opB Y p n)) := y_open h1 hn ht
  cases ho : opB Y p n with
  | false =>
    rw [ho] at xo yo
    have xe : f_X10_closest X p (nI n) a b = some (some 1, 0, X) := by
      unfold f_X10_closest b_X10_closest_30
      rw [x_isPerson, bo_t c1, bd_some, if_neg one0, e1, bd_some, if_neg one0, xo, bd_some, if_neg (show ¬ ¬ bB false = 0 by decide)]
    have ye : f_X11_closest Y p (nI n) a b = some (0, thr Y 1) := by
      unfold f_X11_closest
      rw [y_in, bo_t c1, bd_some, if_neg one0, e2, bd_some, if_neg one0, yo, bd_some, if_neg (show ¬ ¬ bB false = 0 by decide), y26]
    rw [xe, ye]
    exact one
  | true =>
    rw [ho] at xo yo
    have xh : f_X10_closest X p (nI n) a b = (f_X10_isWord X a).bind fun t4 => if t4 = 0 then some (some 2, 0, X) else (f_X10_isWord X b).bind fun t5 => if ¬ t5 = 0 then (f_X5_closestPlaces X (nI n) a b).bind fun t6 => some (none, t6, X) else some (some 2, 0, X) := by
      unfold f_X10_closest b_X10_closest_56
      rw [x_isPerson, bo_t c1, bd_some, if_neg one0, e1, bd_some, if_neg one0, xo, bd_some, if_pos (show ¬ bB true = 0 by decide)]
    have yh : f_X11_closest Y p (nI n) a b = (f_X11_in Y a 0 99).bind fun t4 => if t4 = 0 then b_X11_closest_59 Y (nI n) a b 2 else (f_X11_in Y b 0 99).bind fun t5 => if t5 = 0 then b_X11_closest_59 Y (nI n) a b 2 else b_X11_closest_59 Y (nI n) a b 0 := by
      unfold f_X11_closest
      rw [y_in, bo_t c1, bd_some, if_neg one0, e2, bd_some, if_neg one0, yo, bd_some, if_pos (show ¬ bB true = 0 by decide)]
    have y2 : b_X11_closest_59 Y (nI n) a b 2 = some (0, thr Y 2) := by
      unfold b_X11_closest_59
      rw [dX_eq, if_neg (show ¬ (thr Y 2) 0 0 ≤ 0 from (by decide : ¬ (2 : Int32) ≤ 0))]
    have two : SimT (Rel (i + 5)) [1, 2] (some (some 2, 0, X)) (some (0, thr Y 2)) := ⟨some 2, 0, X, 0, thr Y 2, rfl, rfl, rfl, (fun q => by cases q), h0 2⟩
    rw [x_isWord, bd_some, x_isWord, bd_some] at xh
    rw [y_in, bd_some, y_in, bd_some, y2] at yh
    by_cases c2 : ¬ a < 0 ∧ ¬ 99 < a
    rotate_left
    · rw [bo_f c2, if_pos rfl] at xh yh
      rw [xh, yh]
      exact two
    by_cases c3 : ¬ b < 0 ∧ ¬ 99 < b
    rotate_left
    · rw [bo_t c2, if_neg one0, bo_f c3] at xh yh
      rw [if_neg (fun z => z rfl)] at xh
      rw [if_pos rfl] at yh
      rw [xh, yh]
      exact two
    rw [bo_t c2, if_neg one0, bo_t c3] at xh yh
    rw [if_pos one0] at xh
    rw [if_neg one0] at yh
    obtain ⟨l20, l23, -⟩ := h8.len hn
    obtain ⟨e36, -, -, -, e40, -, e116⟩ := h7 n hn
    let l := if Y 19 n = 0 then 0 else eln Y n
    have hl : l ≤ 20 := by show (if Y 19 n = 0 then 0 else eln Y n) ≤ 20; split <;> omega
    have okn : okp 0 none := fun c d z => by cases z
    have xs : XS none (-1) 0 0 := ⟨rfl, fun c d z => by cases z⟩
    have xl := x_oun_loop (X := X) (q := 116 + n) (a := a) (b := b) hl l 0 1000 none (-1) 0 0 (Nat.zero_add _) (by omega) okn xs
    have yl := y_oun_loop (Y := thr Y 0) (n := n) (a := a) (b := b) hn hl l 0 1000 none (Nat.zero_add _) (by omega) okn
    have hg : oun (X (116 + n)) a b l l 0 none = oun (wd (thr Y 0) n) a b l l 0 none := oun_congr (fun j hj => e116 j (by omega)) l 0 none (Nat.zero_add _)
    have xc : f_X5_closestPlaces X (nI n) a b = some (enp (oun (wd (thr Y 0) n) a b l l 0 none)) := by
      have hlen : f_X2_lengthOf X (nI n) = some (nI l) := by
        unfold f_X2_lengthOf
        rw [x_has hn, bd_some, e36, if_pos (n_ok60 hn), nI_clamp (sm hn), e40, l23]
        show _ = some (nI (if Y 19 n = 0 then 0 else eln Y n))
        by_cases z : Y 19 n = 0
        · rw [bo_f (fun w => w z), if_pos rfl, if_pos z]; rfl
        · rw [bo_t z, if_neg one0, if_neg z]
      have h20 : (if (20 : Int32) < nI l then (20 : Int32) else nI l) = nI l := if_neg (fun z => by have := (nI_ltI (a := 20) (b := l) (by decide) (by omega)).mp z; omega)
      unfold f_X5_closestPlaces
      rw [x_wordsOf hn, bd_some, if_pos (show isI20 (116 + n) = true by simp [isI20]; omega), hlen, bd_some, h20, dV_eq, dV_eq, ← hg]
      exact xl
    have yc : b_X11_closest_59 Y (nI n) a b 0 = some (enp (oun (wd (thr Y 0) n) a b l l 0 none), thr Y 0) := by
      have key : ∀ s, s = nI l → b_X11_closest_93 (thr Y 0) (nI n) a b (-1) s = some (enp (oun (wd (thr Y 0) n) a b l l 0 none), thr Y 0) := fun s hs => by
        subst hs
        exact yl
      unfold b_X11_closest_59
      rw [dX_eq, if_pos (show (thr Y 0) 0 0 ≤ 0 from Int32.le_refl 0), dV_eq, if_pos (n_ok60 hn), if_pos (n_ok60 hn), nI_clamp (sm hn), show (pX Y 0 (upd (Y 0) 0 0)) 19 n = Y 19 n from rfl, show (pX Y 0 (upd (Y 0) 0 0)) 23 n = nI (eln Y n) from l23]
      by_cases z : Y 19 n = 0
      · rw [if_pos z]
        exact key 0 (by show (0 : Int32) = nI (if Y 19 n = 0 then 0 else eln Y n); rw [if_pos z]; rfl)
      · rw [if_neg z]
        exact key (nI (eln Y n)) (by show nI (eln Y n) = nI (if Y 19 n = 0 then 0 else eln Y n); rw [if_neg z])
    rw [xc, bd_some] at xh
    rw [yc] at yh
    exact ⟨none, _, X, _, thr Y 0, xh, yh, rfl, fun _ => rfl, h0 0⟩

/-! ===== a work: what is known of a node ===== -/
def nd (Y : JX) (k : Nat) : Nat := (Y 29 k).toNatClampNeg
def ER (Y : JX) : Prop := ∀ n, n < 60 → (Y 31 n = 0 ∨ Y 31 n = 1) ∧ (Y 31 n ≠ 0 → Y 19 n ≠ 0 ∧ Y 2 n = 0)
def LV (Ys Y : JX) (P : Nat) : Prop := ∀ k, k < P → (Y 30 k = 0 ∨ Y 30 k = 1) ∧ (Y 30 k = 0 ↔ Ys 30 k = 0 ∧ Y 19 (nd Ys k) ≠ 0 ∧ Y 31 (nd Ys k) = 0)
def PL (Ys : JX) (M P : Nat) : Prop := P ≤ 240 ∧ ∀ k, k < P → Ys 29 k = nI (nd Ys k) ∧ nd Ys k < M ∧ Ys 2 (nd Ys k) = 0
abbrev plX (X : JX) (n : Nat) : JX := pX (pX (pX X 36 (upd (X 36) n 1)) 37 (upd (X 37) n (X 2 n))) 38 (upd (X 38) n (X 3 n))
abbrev plY (Y : JX) (n : Nat) : JX := pX (pX (pX Y 19 (upd (Y 19) n 1)) 20 (upd (Y 20) n (Y 3 n))) 21 (upd (Y 21) n (Y 4 n))
theorem x_keepPlace {X : JX} {n : Nat} (hn : n < 60) (hc : vp_nar .char (X 3 n) = X 3 n) : f_X2_keepPlace X (nI n) = some (plX X n) := by
  have ok := n_ok60 hn
  unfold f_X2_keepPlace
  rw [if_neg (nI_pos (sm hn)), if_neg (nl60 hn), if_pos ok, nI_clamp (sm hn), dX_eq, x_parentOf hn, bd_some, if_pos ok, dX_eq, x_nameOf hn (show vp_nar .char ((pX (pX X 36 (upd (X 36) n (vp_nar .boolean 1))) 37 _) 3 n) = _ from hc), bd_some, if_pos ok, dX_eq]
  show some (pX (pX (pX X 36 (upd (X 36) n 1)) 37 (upd (X 37) n (X 2 n))) 38 (upd (X 38) n (vp_nar .char (X 3 n)))) = _
  rw [hc]
theorem y_places {Y : JX} {n : Nat} (hn : n < 60) (hc : vp_nar .char (Y 4 n) = Y 4 n) : f_X11_places Y (nI n) = some (plY Y n) := by
  have ok := n_ok60 hn
  unfold f_X11_places
  rw [if_pos ok, nI_clamp (sm hn), dX_eq, if_pos ok, if_pos ok, dX_eq, if_pos ok, if_pos ok, dX_eq]
  show some (pX (pX (pX Y 19 (upd (Y 19) n 1)) 20 (upd (Y 20) n (Y 3 n))) 21 (upd (Y 21) n (vp_nar .char (Y 4 n)))) = _
  rw [hc]
theorem pl_E {X Y : JX} {M n : Nat} (hT : TY Y M) (hx : TX X Y) (hE : EX X Y) (hEY : EY Y M) (hR : ER Y) (hn : n < 60) (ht : Y 1 n ≠ 0) (h0 : n ≠ 0) : EX (plX X n) (plY Y n) ∧ EY (plY Y n) M ∧ ER (plY Y n) := by
  obtain ⟨a2, a3, -⟩ := hx.2 n hn
  obtain ⟨m, hm, em, -⟩ := hT.2.2.2.1 n (by omega) hn ht
  have ep : X 2 n = Y 3 n := by rw [a2]; exact (hT.st n ⟨hn, ht⟩).2.1.symm
  refine ⟨fun k hk => ?_, fun k hk => ?_, fun k hk => ?_⟩
  · obtain ⟨e36, e37, e38, e39, e40, e42, e116⟩ := hE k hk
    refine ⟨?_, ?_, ?_, e39, e40, e42, fun j hj => ?_⟩
    · show upd (X 36) n 1 k = upd (Y 19) n 1 k
      rw [u_at, u_at, e36]
    · show upd (X 37) n (X 2 n) k = upd (Y 20) n (Y 3 n) k
      rw [u_at, u_at, e37, ep]
    · show upd (X 38) n (X 3 n) k = upd (Y 21) n (Y 4 n) k
      rw [u_at, u_at, e38, a3]
    · show (pX (pX (pX X 36 _) 37 _) 38 _) (116 + k) j = Y 24 (20 * k + j)
      rw [p_at, if_neg (by omega), p_at, if_neg (by omega), p_at, if_neg (by omega)]
      exact e116 j hj
  · obtain ⟨b1, b2, b3⟩ := hEY k hk
    refine ⟨fun z => ?_, b2, b3⟩
    have z : upd (Y 19) n 1 k ≠ 0 := z
    show k < M ∧ ∃ m, m < 60 ∧ upd (Y 20) n (Y 3 n) k = nI m
    rw [u_at]
    by_cases q : k = n
    · rw [if_pos q, q]; exact ⟨hT.2.2.1 n hn ht, m, hm, em⟩
    · rw [u_at, if_neg q] at z
      rw [if_neg q]; exact b1 z
  · obtain ⟨b1, b2⟩ := hR k hk
    refine ⟨b1, fun z => ⟨?_, (b2 z).2⟩⟩
    show upd (Y 19) n 1 k ≠ 0
    rw [u_at]
    by_cases q : k = n
    · rw [if_pos q]; exact one0
    · rw [if_neg q]; exact (b2 z).1
theorem pl_LV {Ys Y : JX} {P n : Nat} (h : LV Ys Y P) (hP : ∀ k, k < P → nd Ys k = n → Y 19 n ≠ 0) : LV Ys (plY Y n) P := by
  intro k hk
  obtain ⟨a, b⟩ := h k hk
  refine ⟨a, ?_⟩
  show Y 30 k = 0 ↔ Ys 30 k = 0 ∧ upd (Y 19) n 1 (nd Ys k) ≠ 0 ∧ Y 31 (nd Ys k) = 0
  rw [u_at, b]
  by_cases q : nd Ys k = n
  · rw [if_pos q]
    have := hP k hk q
    rw [q]
    exact ⟨fun z => ⟨z.1, one0, z.2.2⟩, fun z => ⟨z.1, this, z.2.2⟩⟩
  · rw [if_neg q]
/-! places die -/
theorem y_kills_loop {Y : JX} {P n : Nat} (hP : P ≤ 240) (hn : n < 60) (h37 : Y 0 37 = nI P) : ∀ m i F (Y1 : JX), i + m = P → m + 1 ≤ F → (∀ c, c ≠ 30 → Y1 c = Y c) → (∀ q, q < P → Y1 30 q = 0 ∨ Y1 30 q = 1) → ∃ Y', loop2 (lb_X11_kills_2 (nI n)) F Y1 (nI i) = some Y' ∧ (∀ c, c ≠ 30 → Y' c = Y c) ∧ ∀ q, Y' 30 q = if i ≤ q ∧ q < P ∧ Y 29 q = nI n then 1 else Y1 30 q := by
  intro m
  induction m with
  | zero =>
    intro i F Y1 hi hF ho hb
    obtain ⟨F', rfl⟩ := Nat.exists_eq_add_of_le' hF
    refine ⟨Y1, ?_, ho, fun q => by rw [if_neg (by omega)]⟩
    rw [zl2]
    generalize hR9 : loop2 _ F' = R9
    unfold lb_X11_kills_2
    rw [ho 0 (by omega), h37, if_pos (show nI P ≤ nI i from nI_le (by omega) (by omega))]
  | succ m ih =>
    intro i F Y1 hi hF ho hb
    obtain ⟨F', rfl⟩ := Nat.exists_eq_add_of_le' (show 1 ≤ F by omega)
    have ok := n_ok (show i < 600 by omega) (show 600 < 2 ^ 31 by decide)
    have cl := nI_clamp (show i < 2 ^ 31 by omega)
    obtain ⟨Y', a, b, c⟩ := ih (i + 1) F' (pX Y1 30 (upd (Y1 30) i (if Y 29 i = nI n then 1 else Y1 30 i))) (by omega) (by omega) (fun c hc => (if_neg hc).trans (ho c hc)) (fun q hq => by
      show upd (Y1 30) i (if Y 29 i = nI n then 1 else Y1 30 i) q = 0 ∨ upd (Y1 30) i (if Y 29 i = nI n then 1 else Y1 30 i) q = 1
      rw [u_at]
      by_cases z : q = i
      · rw [if_pos z]
        split
        · exact Or.inr rfl
        · exact hb i (by omega)
      · rw [if_neg z]; exact hb q hq)
    refine ⟨Y', ?_, b, fun q => ?_⟩
    · rw [zl2]
      generalize hR9 : loop2 _ F' = R9 at a
      have go : ∀ s : Int32, vp_nar .boolean s = (if Y 29 i = nI n then 1 else Y1 30 i) → b_X11_kills_39 R9 Y1 (nI n) (nI i) s (nI i) = some Y' := fun s hs => by
        unfold b_X11_kills_39
        rw [if_pos ok, cl, hs, dX_eq, dV_eq, n_add1]
        exact a
      unfold lb_X11_kills_2
      rw [ho 0 (by omega), h37, if_neg (show ¬ nI P ≤ nI i from nI_ge (by omega) (by omega)), if_pos ok, if_pos ok, cl, ho 29 (by omega)]
      rcases hb i (by omega) with z | z
      · rw [if_neg (fun w => w z)]
        by_cases z2 : Y 29 i = nI n
        · rw [if_neg (fun w => w z2)]
          exact go 1 (by rw [if_pos z2]; rfl)
        · rw [if_pos z2]
          exact go 0 (by rw [if_neg z2, z]; rfl)
      · rw [if_pos (by rw [z]; exact one0)]
        exact go 1 (by rw [z]; split <;> rfl)
    · rw [c q]
      show (if i + 1 ≤ q ∧ q < P ∧ Y 29 q = nI n then 1 else upd (Y1 30) i (if Y 29 i = nI n then 1 else Y1 30 i) q) = _
      rw [u_at]
      by_cases z : q = i
      · rw [if_neg (show ¬ (i + 1 ≤ q ∧ q < P ∧ Y 29 q = nI n) by omega), if_pos z, z]
        by_cases z2 : Y 29 i = nI n
        · rw [if_pos z2, if_pos ⟨Nat.le_refl _, by omega, z2⟩]
        · rw [if_neg z2, if_neg (fun w => z2 w.2.2)]
      · rw [if_neg z]
        by_cases z2 : i + 1 ≤ q ∧ q < P ∧ Y 29 q = nI n
        · rw [if_pos z2, if_pos ⟨by omega, z2.2⟩]
        · rw [if_neg z2, if_neg (fun w => z2 ⟨by omega, w.2⟩)]
theorem y_kills {Y : JX} {P n : Nat} (hP : P ≤ 240) (hn : n < 60) (h37 : Y 0 37 = nI P) (hb : ∀ q, q < P → Y 30 q = 0 ∨ Y 30 q = 1) : ∃ Y', f_X11_kills Y (nI n) = some Y' ∧ (∀ c, c ≠ 30 → Y' c = Y c) ∧ ∀ q, Y' 30 q = if q < P ∧ Y 29 q = nI n then 1 else Y 30 q := by
  obtain ⟨Y', a, b, c⟩ := y_kills_loop (Y := Y) hP hn h37 P 0 1000 Y (Nat.zero_add _) (by omega) (fun _ _ => rfl) hb
  refine ⟨Y', a, b, fun q => ?_⟩
  rw [c q]
  by_cases z : q < P ∧ Y 29 q = nI n
  · rw [if_pos z, if_pos ⟨Nat.zero_le _, z⟩]
  · rw [if_neg z, if_neg (fun w => z w.2)]
theorem y_words_loop {n t : Nat} (hn : n < 60) (ht : t ≤ 20) : ∀ m i F (Y : JX), i + m = t → m + 1 ≤ F → Y 0 44 = nI t → ∃ Y', loop2 (lb_X11_reads_29 (nI n)) F Y (nI i) = ((f_X11_kills Y' (nI n)).bind fun X4 => if okI (nI n) 60 = true then nX (pX X4 31 (upd (X4 31) (nI n).toNatClampNeg (vp_nar .boolean 1))) fun X5 => some X5 else none) ∧ (∀ c, c ≠ 24 → Y' c = Y c) ∧ ∀ q, Y' 24 q = if 20 * n + i ≤ q ∧ q < 20 * n + t then Y 33 (q - 20 * n) else Y 24 q := by
  intro m
  induction m with
  | zero =>
    intro i F Y hi hF h44
    obtain ⟨F', rfl⟩ := Nat.exists_eq_add_of_le' hF
    refine ⟨Y, ?_, fun _ _ => rfl, fun q => by rw [if_neg (by omega)]⟩
    rw [zl2]
    generalize hR9 : loop2 _ F' = R9
    unfold lb_X11_reads_29
    rw [h44, if_pos (show nI t ≤ nI i from nI_le (by omega) (by omega))]
  | succ m ih =>
    intro i F Y hi hF h44
    obtain ⟨F', rfl⟩ := Nat.exists_eq_add_of_le' (show 1 ≤ F by omega)
    obtain ⟨Y', a, b, c⟩ := ih (i + 1) F' (pX Y 24 (upd (Y 24) (20 * n + i) (Y 33 i))) (by omega) (by omega) h44
    refine ⟨Y', ?_, fun c9 hc => (b c9 hc).trans (if_neg hc), fun q => ?_⟩
    · rw [zl2]
      generalize hR9 : loop2 _ F' = R9 at a
      unfold lb_X11_reads_29
      rw [h44, if_neg (show ¬ nI t ≤ nI i from nI_ge (by omega) (by omega)), if_pos (n_ok (show i < 20 by omega) (by decide)), n_20 hn (by omega), if_pos (n_ok (show 20 * n + i < 1200 by omega) (by decide)), nI_clamp (show i < 2 ^ 31 by omega), nI_clamp (show 20 * n + i < 2 ^ 31 by omega), dX_eq, dV_eq, n_add1]
      exact a
    · rw [c q]
      show (if 20 * n + (i + 1) ≤ q ∧ q < 20 * n + t then Y 33 (q - 20 * n) else upd (Y 24) (20 * n + i) (Y 33 i) q) = _
      rw [u_at]
      by_cases z : q = 20 * n + i
      · rw [if_neg (show ¬ (20 * n + (i + 1) ≤ q ∧ q < 20 * n + t) by omega), if_pos z, if_pos (show 20 * n + i ≤ q ∧ q < 20 * n + t by omega), z]
        congr 1
        omega
      · rw [if_neg z]
        by_cases z2 : 20 * n + (i + 1) ≤ q ∧ q < 20 * n + t
        · rw [if_pos z2, if_pos (show 20 * n + i ≤ q ∧ q < 20 * n + t by omega)]
        · rw [if_neg z2, if_neg (show ¬ (20 * n + i ≤ q ∧ q < 20 * n + t) by omega)]

/-! ===== p32: a folder of the crawl, read off the class ===== -/
/-- the entry of a node is that of now -/
def rgt (X : JX) (k : Nat) : Prop := X 36 k ≠ 0 ∧ X 37 k = X 2 k ∧ X 38 k = X 3 k ∧ (X 5 k ≠ 0 ∧ X 4 k = 0 → X 39 k = X 8 k)
theorem rgt.fr {X X' : JX} (h : ∀ q, q = 2 ∨ q = 3 ∨ q = 4 ∨ q = 5 ∨ q = 8 ∨ q = 36 ∨ q = 37 ∨ q = 38 ∨ q = 39 → X' q = X q) (k : Nat) : rgt X' k ↔ rgt X k := by
  unfold rgt
  rw [h 36 (by omega), h 37 (by omega), h 38 (by omega), h 39 (by omega), h 2 (by omega), h 3 (by omega), h 4 (by omega), h 5 (by omega), h 8 (by omega)]
theorem i_behind {X : JX} {k : Nat} {t : Int32} (hk : k < 60) (hc : vp_nar .char (X 3 k) = X 3 k) (h : f_X2_isBehind X (nI k) = some t) : t = 0 ↔ rgt X k := by
  unfold f_X2_isBehind at h
  rw [x_has hk, bd_some] at h
  by_cases e36 : X 36 k = 0
  · rw [bo_f (fun z => z e36), if_neg (fun z => z rfl)] at h
    cases h
    exact ⟨fun z => absurd z one0, fun z => absurd e36 z.1⟩
  · rw [bo_t e36, if_pos one0, if_pos (n_ok60 hk), x_parentOf hk, bd_some, nI_clamp (sm hk)] at h
    by_cases e37 : X 37 k = X 2 k
    · rw [if_neg (fun z => z e37), if_pos (n_ok60 hk), x_nameOf hk hc, bd_some] at h
      by_cases e38 : X 38 k = X 3 k
      · rw [if_pos e38, x_isFile hk, bd_some] at h
        by_cases ef : X 5 k ≠ 0 ∧ X 4 k = 0
        · rw [bo_t ef, if_neg one0, if_pos (n_ok60 hk), x_editionOf hk, bd_some] at h
          by_cases e39 : X 39 k = X 8 k
          · rw [if_pos e39] at h
            cases h
            exact ⟨fun _ => ⟨e36, e37, e38, fun _ => e39⟩, fun _ => rfl⟩
          · rw [if_neg e39] at h
            cases h
            exact ⟨fun z => absurd z one0, fun z => absurd (z.2.2.2 ef) e39⟩
        · rw [bo_f ef, if_pos rfl] at h
          cases h
          exact ⟨fun _ => ⟨e36, e37, e38, fun z => absurd z ef⟩, fun _ => rfl⟩
      · rw [if_neg e38] at h
        cases h
        exact ⟨fun z => absurd z one0, fun z => absurd z.2.2.1 e38⟩
    · rw [if_pos e37] at h
      cases h
      exact ⟨fun z => absurd z one0, fun z => absurd z.2.1 e37⟩
theorem x_meet {X : JX} {q k : Nat} (hk : k < 60) : f_X1_meet X q (nI k) = some (pX X (q + 3) (upd (X (q + 3)) k 1)) := by
  unfold f_X1_meet
  rw [if_neg (nI_pos (sm hk)), if_neg (nl60 hk), if_pos (n_ok60 hk), nI_clamp (sm hk), dX_eq]
  rfl
def frC (X' X : JX) : Prop := ∀ q, q < 16 ∨ 19 < q → q ≠ 45 → q ≠ 46 → q ≠ 47 → X' q = X q
theorem frC.rgt {X X' : JX} (h : frC X' X) (k : Nat) : rgt X' k ↔ rgt X k := rgt.fr (fun q hq => h q (by omega) (by omega) (by omega) (by omega)) k
theorem i_meet_loop {f : Nat} {Xb : JX} (hf : f < 60) (hc : ∀ k, k < 60 → vp_nar .char (Xb 3 k) = Xb 3 k) : ∀ F i (X X1 : JX) w, i ≤ 60 → WF X 16 w → frC X Xb → loop2 (lb_X4_meetAllIn_2 (nI f) 16) F X (nI i) = some X1 →
    frC X1 Xb ∧ (∀ j, j ≠ 3 → X1 16 j = X 16 j) ∧ (∃ w1, WF X1 16 w1) ∧ (∀ j, j < 60 → X1 19 j = if i ≤ j ∧ Xb 2 j = nI f then 1 else X 19 j) ∧ (∀ j, j < 60 → (X1 47 j ≠ 0 ↔ (i ≤ j ∧ Xb 2 j = nI f ∧ ¬ rgt Xb j) ∨ X 47 j ≠ 0) ∧ (X1 47 j = 1 ∨ X1 47 j = X 47 j)) ∧ ∀ j, j < 60 → (X1 18 j ≠ 0 ↔ X 18 j ≠ 0 ∨ (i ≤ j ∧ Xb 2 j = nI f ∧ Xb 5 j ≠ 0 ∧ Xb 4 j ≠ 0)) := by
  intro F
  induction F with
  | zero => intro i X X1 w _ _ _ h; cases h
  | succ F ih =>
    intro i X X1 w hi hw hfr h
    rw [zl2] at h
    generalize loop2 (lb_X4_meetAllIn_2 (nI f) 16) F = R9 at h ih
    unfold lb_X4_meetAllIn_2 at h
    by_cases hi6 : i < 60
    · rw [if_neg (nl60 hi6), if_neg (nm1 (sm hf)), x_parentOf hi6, bd_some, hfr 2 (by omega) (by omega) (by omega) (by omega)] at h
      by_cases e : Xb 2 i = nI f
      · rw [if_neg (fun z => z e), x_meet hi6, bd_some] at h
        obtain ⟨t3, hb, h⟩ := bd_inv h
        have fr2 : frC (pX X (16 + 3) (upd (X (16 + 3)) i 1)) Xb := fun q a b c d => (pX_ne _ _ (by omega)).trans (hfr q a b c d)
        have ht := i_behind hi6 (by rw [fr2 3 (by omega) (by omega) (by omega) (by omega)]; exact hc i hi6) hb
        rw [fr2.rgt] at ht
        have hw2 : WF (pX X (16 + 3) (upd (X (16 + 3)) i 1)) 16 w := hw.fr rfl rfl rfl
        have s1 : ∃ X4, b_X4_meetAllIn_50 R9 X4 (nI f) 16 (nI i) = some X1 ∧ frX X4 (pX X (16 + 3) (upd (X (16 + 3)) i 1)) ∧ ∀ j, (j = i ∧ ¬ rgt Xb i → X4 47 j = 1) ∧ (¬ (j = i ∧ ¬ rgt Xb i) → X4 47 j = X 47 j) := by
          by_cases t0 : t3 = 0
          · rw [if_pos t0] at h
            exact ⟨_, h, frX.rf _, fun j => ⟨fun z => absurd (ht.mp t0) z.2, fun _ => rfl⟩⟩
          · rw [if_neg t0] at h
            obtain ⟨X4, h1, h2⟩ := bd_inv h
            obtain ⟨a, b⟩ := i_add hi6 h1
            refine ⟨X4, h2, b, fun j => ?_⟩
            rw [a, u_at]
            refine ⟨fun z => by rw [if_pos z.1], fun z => ?_⟩
            rw [if_neg (fun c => z ⟨c, fun y => t0 (ht.mpr y)⟩)]
            rfl
        obtain ⟨X4, h4, g4, a4⟩ := s1
        have fr4 : frC X4 Xb := fun q a b c d => (g4 q b c d).trans (fr2 q a b c d)
        have hw4 : WF X4 16 w := hw2.fr (by rw [g4 16 (by omega) (by omega) (by omega)]) (g4 17 (by omega) (by omega) (by omega)) (g4 18 (by omega) (by omega) (by omega))
        have s2 : ∃ X7 w7, R9 X7 (nI (i + 1)) = some X1 ∧ WF X7 16 w7 ∧ (∀ k, k ≠ 16 → k ≠ 17 → k ≠ 18 → X7 k = X4 k) ∧ (∀ j, j ≠ 3 → X7 16 j = X4 16 j) ∧ ∀ j, X7 18 j ≠ 0 ↔ X4 18 j ≠ 0 ∨ (j = i ∧ Xb 5 i ≠ 0 ∧ Xb 4 i ≠ 0) := by
          unfold b_X4_meetAllIn_50 b_X4_meetAllIn_66 at h4
          rw [x_isFolder hi6, bd_some, fr4 5 (by omega) (by omega) (by omega) (by omega), fr4 4 (by omega) (by omega) (by omega) (by omega)] at h4
          by_cases ff : Xb 5 i ≠ 0 ∧ Xb 4 i ≠ 0
          · rw [bo_t ff, if_neg one0] at h4
            obtain ⟨X7, h7, h8⟩ := bd_inv h4
            rw [dV_eq, n_add1] at h8
            obtain ⟨a, b, c, w7, d⟩ := i_wait hw4 hi6 h7
            exact ⟨X7, w7, h8, d, a, b, fun j => by rw [c j]; exact ⟨fun z => z.imp id (fun y => ⟨y, ff⟩), fun z => z.imp id (fun y => y.1)⟩⟩
          · rw [bo_f ff, if_pos rfl, dV_eq, n_add1] at h4
            exact ⟨X4, w, h4, hw4, fun _ _ _ _ => rfl, fun _ _ => rfl, fun j => ⟨Or.inl, fun z => z.resolve_right (fun y => ff y.2)⟩⟩
        obtain ⟨X7, w7, h7, hw7, g7, g16, g18⟩ := s2
        have fr7 : frC X7 Xb := fun q a b c d => (g7 q (by omega) (by omega) (by omega)).trans (fr4 q a b c d)
        obtain ⟨r1, r2, r3, r4, r5, r6⟩ := ih (i + 1) X7 X1 w7 (by omega) hw7 fr7 h7
        have x16 : ∀ j, j ≠ 3 → X7 16 j = X 16 j := fun j hj => by rw [g16 j hj, g4 16 (by omega) (by omega) (by omega)]; rfl
        have x19 : ∀ j, X7 19 j = if j = i then 1 else X 19 j := fun j => by rw [g7 19 (by omega) (by omega) (by omega), g4 19 (by omega) (by omega) (by omega)]; exact u_at _ _ _ _
        have x47 : ∀ j, (j = i ∧ ¬ rgt Xb i → X7 47 j = 1) ∧ (¬ (j = i ∧ ¬ rgt Xb i) → X7 47 j = X 47 j) := fun j => by rw [g7 47 (by omega) (by omega) (by omega)]; exact a4 j
        have x18 : ∀ j, X7 18 j ≠ 0 ↔ X 18 j ≠ 0 ∨ (j = i ∧ Xb 5 i ≠ 0 ∧ Xb 4 i ≠ 0) := fun j => by rw [g18 j, g4 18 (by omega) (by omega) (by omega)]; exact Iff.rfl
        refine ⟨r1, fun j hj => (r2 j hj).trans (x16 j hj), r3, fun j hj => ?_, fun j hj => ⟨?_, ?_⟩, fun j hj => ?_⟩
        · rw [r4 j hj, x19 j]
          by_cases c : j = i
          · subst c
            rw [if_pos rfl, if_pos (show j ≤ j ∧ Xb 2 j = nI f from ⟨Nat.le_refl _, e⟩)]
            split <;> rfl
          · rw [if_neg c]
            by_cases q : i + 1 ≤ j ∧ Xb 2 j = nI f
            · rw [if_pos q, if_pos ⟨by omega, q.2⟩]
            · rw [if_neg q, if_neg (fun z => q ⟨by omega, z.2⟩)]
        · rw [(r5 j hj).1]
          by_cases c : j = i
          · subst c
            by_cases rr : rgt Xb j
            · rw [(x47 j).2 (fun z => z.2 rr)]
              exact ⟨fun z => z.elim (fun y => absurd y.1 (by omega)) Or.inr, fun z => z.elim (fun y => absurd rr y.2.2) Or.inr⟩
            · rw [(x47 j).1 ⟨rfl, rr⟩]
              exact ⟨fun _ => Or.inl ⟨Nat.le_refl _, e, rr⟩, fun _ => Or.inr one0⟩
          · rw [(x47 j).2 (fun z => c z.1)]
            exact ⟨fun z => z.imp (fun y => ⟨by omega, y.2⟩) id, fun z => z.imp (fun y => ⟨by omega, y.2⟩) id⟩
        · rcases (r5 j hj).2 with z | z
          · exact Or.inl z
          · rw [z]
            by_cases c : j = i ∧ ¬ rgt Xb i
            · exact Or.inl ((x47 j).1 c)
            · exact Or.inr ((x47 j).2 c)
        · rw [r6 j hj, x18 j]
          by_cases c : j = i
          · subst c
            constructor
            · rintro ((z | z) | z)
              · exact Or.inl z
              · exact Or.inr ⟨Nat.le_refl _, e, z.2⟩
              · exact absurd z.1 (by omega)
            · rintro (z | z)
              · exact Or.inl (Or.inl z)
              · exact Or.inl (Or.inr ⟨rfl, z.2.2⟩)
          · constructor
            · rintro ((z | z) | z)
              · exact Or.inl z
              · exact absurd z.1 c
              · exact Or.inr ⟨by omega, z.2⟩
            · rintro (z | z)
              · exact Or.inl (Or.inl z)
              · exact Or.inr ⟨by omega, z.2⟩
      · unfold b_X4_meetAllIn_66 at h
        rw [if_pos e, dV_eq, n_add1] at h
        obtain ⟨r1, r2, r3, r4, r5, r6⟩ := ih (i + 1) X X1 w (by omega) hw hfr h
        have st : ∀ j, Xb 2 j = nI f → (i + 1 ≤ j ↔ i ≤ j) := fun j ej => ⟨fun z => by omega, fun z => by
          rcases Nat.lt_or_ge i j with y | y
          · exact y
          · exact absurd (by rw [show i = j by omega]; exact ej) e⟩
        refine ⟨r1, r2, r3, fun j hj => ?_, fun j hj => ⟨?_, (r5 j hj).2⟩, fun j hj => ?_⟩
        · rw [r4 j hj]
          by_cases q : i + 1 ≤ j ∧ Xb 2 j = nI f
          · rw [if_pos q, if_pos ⟨by omega, q.2⟩]
          · rw [if_neg q, if_neg (fun z => q ⟨(st j z.2).mpr z.1, z.2⟩)]
        · rw [(r5 j hj).1]
          exact ⟨fun z => z.imp (fun y => ⟨by omega, y.2⟩) id, fun z => z.imp (fun y => ⟨(st j y.2.1).mpr y.1, y.2⟩) id⟩
        · rw [r6 j hj]
          exact ⟨fun z => z.imp id (fun y => ⟨by omega, y.2⟩), fun z => z.imp id (fun y => ⟨(st j y.2.1).mpr y.1, y.2⟩)⟩
    · have : i = 60 := by omega
      subst this
      rw [if_pos g60] at h
      cases h
      exact ⟨hfr, fun _ _ => rfl, ⟨w, hw⟩, fun j hj => by rw [if_neg (by omega)], fun j hj => ⟨⟨Or.inr, fun z => z.elim (fun y => absurd y.1 (by omega)) id⟩, Or.inr rfl⟩, fun j hj => ⟨Or.inl, fun z => z.elim id (fun y => absurd y.1 (by omega))⟩⟩
theorem WF.take {X X' : JX} {q w f : Nat} (h : WF X q w) (hw : 1 ≤ w) (hf : f < 60) (e0 : X (q + 1) 0 = nI f) (x3 : X' q = upd (X q) 3 (nI (w - 1))) (x4 : ∀ j, j + 1 < w → X' (q + 1) j = X (q + 1) (j + 1)) (x5 : X' (q + 2) = upd (X (q + 2)) f 0) : WF X' q (w - 1) := by
  obtain ⟨⟨h0, h0'⟩, h1, h2, h3⟩ := h
  refine ⟨⟨by omega, by rw [x3, u_at, if_pos rfl]⟩, fun j hj => by rw [x4 j (by omega)]; exact h1 (j + 1) (by omega), fun j k hj hk e => ?_, fun n hn => ?_⟩
  · rw [x4 j (by omega), x4 k (by omega)] at e
    have := h2 (j + 1) (k + 1) (by omega) (by omega) e
    omega
  · rw [x5, u_at]
    by_cases c : n = f
    · rw [if_pos c]
      refine ⟨fun z => absurd rfl z, ?_⟩
      rintro ⟨j, hj, e⟩
      rw [x4 j (by omega), c, ← e0] at e
      have := h2 (j + 1) 0 (by omega) (by omega) e
      omega
    · rw [if_neg c, h3 n hn]
      constructor
      · rintro ⟨j, hj, e⟩
        cases j with
        | zero => rw [e0] at e; exact absurd ((nI_eq (sm hf) (sm hn)).mp e).symm c
        | succ j => exact ⟨j, by omega, by rw [x4 j (by omega)]; exact e⟩
      · rintro ⟨j, hj, e⟩
        rw [x4 j (by omega)] at e
        exact ⟨j + 1, by omega, e⟩
/-- a folder of the crawl, and what is met in it -/
theorem i_crawl {X X1 : JX} {w f : Nat} (hw : WF X 16 w) (hw1 : 1 ≤ w) (hf : f < 60) (e0 : X 17 0 = nI f) (hr : X 13 3 = 0) (hc : ∀ k, k < 60 → vp_nar .char (X 3 k) = X 3 k) (hb : ∀ X', X' 2 = X 2 → f ≠ 0 → (∃ j, j < 60 ∧ X 2 j = nI f) → ∀ t, f_X9_isBelow X' (nI f) 0 = some t → t ≠ 0) (h : f_X4_crawlOn X 13 = some X1) :
    frC X1 X ∧ (∃ w1, WF X1 16 w1) ∧ (∀ j, j < 60 → X1 19 j = if X 2 j = nI f then 1 else X 19 j) ∧ (∀ j, j < 60 → (X1 18 j ≠ 0 ↔ (X 18 j ≠ 0 ∧ j ≠ f) ∨ (X 2 j = nI f ∧ X 5 j ≠ 0 ∧ X 4 j ≠ 0))) ∧
    ((X1 16 4 = X 16 4 ∧ ∀ j, j < 60 → (X1 47 j ≠ 0 ↔ (X 2 j = nI f ∧ ¬ rgt X j) ∨ X 47 j ≠ 0) ∧ (X1 47 j = 1 ∨ X1 47 j = X 47 j)) ∨
     (X1 16 4 = 0 ∧ (∀ j, j < 60 → X1 18 j = 0) ∧ ∀ j, j < 60 → (X1 47 j ≠ 0 ↔ (X 36 j ≠ 0 ∧ X1 19 j = 0) ∨ (X 2 j = nI f ∧ ¬ rgt X j) ∨ X 47 j ≠ 0) ∧ (X1 47 j = 1 ∨ X1 47 j = X 47 j))) := by
  obtain ⟨X', t1, t2, t3, t4, t5⟩ := x_wtake hw1 hw.1.1 hw.1.2 e0 hf
  have fr1 : frC X' X := fun q a _ _ _ => t5 q (by omega) (by omega) (by omega)
  have hw' : WF X' 16 (w - 1) := hw.take hw1 hf e0 t2 t3 t4
  have x19 : X' 19 = X 19 := t5 19 (by omega) (by omega) (by omega)
  have x47 : X' 47 = X 47 := t5 47 (by omega) (by omega) (by omega)
  have x164 : X' 16 4 = X 16 4 := by rw [t2, u_at, if_neg (by omega)]
  have x18 : ∀ j, X' 18 j ≠ 0 ↔ X 18 j ≠ 0 ∧ j ≠ f := fun j => by
    rw [t4, u_at]
    by_cases c : j = f
    · rw [if_pos c]; exact ⟨fun z => absurd rfl z, fun z => absurd c z.2⟩
    · rw [if_neg c]; exact ⟨fun z => ⟨z, c⟩, fun z => z.1⟩
  have x3 : X' 13 3 = 0 := by rw [t5 13 (by omega) (by omega) (by omega)]; exact hr
  -- the end of a folder
  have fin : ∀ X3 w3, WF X3 16 w3 → frC X3 X → X3 16 4 = X 16 4 → (∀ j, j < 60 → X3 19 j = if X 2 j = nI f then 1 else X 19 j) → (∀ j, j < 60 → (X3 18 j ≠ 0 ↔ (X 18 j ≠ 0 ∧ j ≠ f) ∨ (X 2 j = nI f ∧ X 5 j ≠ 0 ∧ X 4 j ≠ 0))) → (∀ j, j < 60 → (X3 47 j ≠ 0 ↔ (X 2 j = nI f ∧ ¬ rgt X j) ∨ X 47 j ≠ 0) ∧ (X3 47 j = 1 ∨ X3 47 j = X 47 j)) → b_X4_crawlOn_39 X3 16 = some X1 → frC X1 X ∧ (∃ w1, WF X1 16 w1) ∧ (∀ j, j < 60 → X1 19 j = if X 2 j = nI f then 1 else X 19 j) ∧ (∀ j, j < 60 → (X1 18 j ≠ 0 ↔ (X 18 j ≠ 0 ∧ j ≠ f) ∨ (X 2 j = nI f ∧ X 5 j ≠ 0 ∧ X 4 j ≠ 0))) ∧ ((X1 16 4 = X 16 4 ∧ ∀ j, j < 60 → (X1 47 j ≠ 0 ↔ (X 2 j = nI f ∧ ¬ rgt X j) ∨ X 47 j ≠ 0) ∧ (X1 47 j = 1 ∨ X1 47 j = X 47 j)) ∨ (X1 16 4 = 0 ∧ (∀ j, j < 60 → X1 18 j = 0) ∧ ∀ j, j < 60 → (X1 47 j ≠ 0 ↔ (X 36 j ≠ 0 ∧ X1 19 j = 0) ∨ (X 2 j = nI f ∧ ¬ rgt X j) ∨ X 47 j ≠ 0) ∧ (X1 47 j = 1 ∨ X1 47 j = X 47 j))) := by
    intro X3 w3 h3 f3 e4 e19 e18 e47 hh
    unfold b_X4_crawlOn_39 at hh
    by_cases c : X3 16 3 = 0
    · rw [if_neg (fun z => z c), if_pos (show okB 0 = true from rfl), dX_eq] at hh
      obtain ⟨X5, h5, h6⟩ := bd_inv hh
      cases h6
      unfold f_X4_lookAtUnmet l_X4_lookAtUnmet_2 at h5
      obtain ⟨g1, g2⟩ := i_unmet_loop (q0 := 16) (by decide) 1000 0 _ _ (by omega) h5
      have w0 : w3 = 0 := by
        rw [h3.1.2] at c
        exact (nI_eq (by have := h3.1.1; omega) (by decide)).mp c
      subst w0
      have y18 : X1 18 = X3 18 := (g1 18 (by omega) (by omega) (by omega)).trans rfl
      have y19 : X1 19 = X3 19 := (g1 19 (by omega) (by omega) (by omega)).trans rfl
      have y16 : X1 16 = upd (X3 16) 4 0 := (g1 16 (by omega) (by omega) (by omega)).trans rfl
      have y17 : X1 17 = X3 17 := (g1 17 (by omega) (by omega) (by omega)).trans rfl
      refine ⟨fun q a b c d => (g1 q b c d).trans ((pX_ne _ _ (by omega)).trans (f3 q a b c d)), ⟨0, h3.fr (by rw [y16, u_at, if_neg (by omega)]) y17 y18⟩, fun j hj => by rw [y19]; exact e19 j hj, fun j hj => by rw [y18]; exact e18 j hj, Or.inr ⟨by rw [y16, u_at, if_pos rfl], fun j hj => ?_, fun j hj => ?_⟩⟩
      · rw [y18]
        have := (h3.2.2.2 j hj).mp
        by_cases z : X3 18 j = 0
        · exact z
        · obtain ⟨i, hi, -⟩ := this z
          omega
      · have g := g2 j
        have q1 : (pX X3 16 (upd (X3 16) 4 0)) 36 = X 36 := (pX_ne _ _ (by omega)).trans (f3 36 (by omega) (by omega) (by omega) (by omega))
        have q2 : (pX X3 16 (upd (X3 16) 4 0)) (16 + 3) = X1 19 := (pX_ne _ _ (by omega)).trans y19.symm
        have q3 : (pX X3 16 (upd (X3 16) 4 0)) 47 = X3 47 := pX_ne _ _ (by omega)
        rw [q1, q2, q3] at g
        by_cases u : X 36 j ≠ 0 ∧ X1 19 j = 0
        · rw [if_pos ⟨Nat.zero_le _, hj, u⟩] at g
          rw [g]
          exact ⟨⟨fun _ => Or.inl u, fun _ => one0⟩, Or.inl rfl⟩
        · rw [if_neg (fun z => u z.2.2)] at g
          rw [g]
          exact ⟨⟨fun z => Or.inr ((e47 j hj).1.mp z), fun z => (e47 j hj).1.mpr (z.resolve_left u)⟩, (e47 j hj).2⟩
    · rw [if_pos c] at hh
      cases hh
      exact ⟨f3, ⟨w3, h3⟩, e19, e18, Or.inl ⟨e4, e47⟩⟩
  have meets : b_X4_crawlOn_33 X' 16 (nI f) = some X1 → frC X1 X ∧ (∃ w1, WF X1 16 w1) ∧ (∀ j, j < 60 → X1 19 j = if X 2 j = nI f then 1 else X 19 j) ∧ (∀ j, j < 60 → (X1 18 j ≠ 0 ↔ (X 18 j ≠ 0 ∧ j ≠ f) ∨ (X 2 j = nI f ∧ X 5 j ≠ 0 ∧ X 4 j ≠ 0))) ∧ ((X1 16 4 = X 16 4 ∧ ∀ j, j < 60 → (X1 47 j ≠ 0 ↔ (X 2 j = nI f ∧ ¬ rgt X j) ∨ X 47 j ≠ 0) ∧ (X1 47 j = 1 ∨ X1 47 j = X 47 j)) ∨ (X1 16 4 = 0 ∧ (∀ j, j < 60 → X1 18 j = 0) ∧ ∀ j, j < 60 → (X1 47 j ≠ 0 ↔ (X 36 j ≠ 0 ∧ X1 19 j = 0) ∨ (X 2 j = nI f ∧ ¬ rgt X j) ∨ X 47 j ≠ 0) ∧ (X1 47 j = 1 ∨ X1 47 j = X 47 j))) := fun hh => by
    unfold b_X4_crawlOn_33 f_X4_meetAllIn l_X4_meetAllIn_2 at hh
    obtain ⟨X3, h3, h4⟩ := bd_inv hh
    obtain ⟨r1, r2, ⟨w3, r3⟩, r4, r5, r6⟩ := i_meet_loop (Xb := X) hf hc 1000 0 X' X3 (w - 1) (by omega) hw' fr1 h3
    refine fin X3 w3 r3 r1 ((r2 4 (by omega)).trans x164) (fun j hj => ?_) (fun j hj => ?_) (fun j hj => ?_) h4
    · rw [r4 j hj, x19]
      by_cases c : X 2 j = nI f
      · rw [if_pos ⟨Nat.zero_le _, c⟩, if_pos c]
      · rw [if_neg (fun z => c z.2), if_neg c]
    · rw [r6 j hj, x18 j]
      exact ⟨fun z => z.imp id (fun y => y.2), fun z => z.imp id (fun y => ⟨Nat.zero_le _, y⟩)⟩
    · rw [(r5 j hj).1, x47]
      refine ⟨⟨fun z => z.imp (fun y => y.2) id, fun z => z.imp (fun y => ⟨Nat.zero_le _, y⟩) id⟩, ?_⟩
      have := (r5 j hj).2
      rw [x47] at this
      exact this
  have none' : (¬ ∃ j, j < 60 ∧ X 2 j = nI f) → b_X4_crawlOn_39 X' 16 = some X1 → frC X1 X ∧ (∃ w1, WF X1 16 w1) ∧ (∀ j, j < 60 → X1 19 j = if X 2 j = nI f then 1 else X 19 j) ∧ (∀ j, j < 60 → (X1 18 j ≠ 0 ↔ (X 18 j ≠ 0 ∧ j ≠ f) ∨ (X 2 j = nI f ∧ X 5 j ≠ 0 ∧ X 4 j ≠ 0))) ∧ ((X1 16 4 = X 16 4 ∧ ∀ j, j < 60 → (X1 47 j ≠ 0 ↔ (X 2 j = nI f ∧ ¬ rgt X j) ∨ X 47 j ≠ 0) ∧ (X1 47 j = 1 ∨ X1 47 j = X 47 j)) ∨ (X1 16 4 = 0 ∧ (∀ j, j < 60 → X1 18 j = 0) ∧ ∀ j, j < 60 → (X1 47 j ≠ 0 ↔ (X 36 j ≠ 0 ∧ X1 19 j = 0) ∨ (X 2 j = nI f ∧ ¬ rgt X j) ∨ X 47 j ≠ 0) ∧ (X1 47 j = 1 ∨ X1 47 j = X 47 j))) := fun no hh => by
    have no2 : ∀ j, j < 60 → ¬ X 2 j = nI f := fun j hj e => no ⟨j, hj, e⟩
    refine fin X' (w - 1) hw' fr1 x164 (fun j hj => by rw [if_neg (no2 j hj), x19]) (fun j hj => ?_) (fun j hj => ?_) hh
    · rw [x18 j]
      exact ⟨Or.inl, fun z => z.resolve_right (fun y => no2 j hj y.1)⟩
    · rw [x47]
      exact ⟨⟨Or.inr, fun z => z.resolve_left (fun y => no2 j hj y.1)⟩, Or.inr rfl⟩
  unfold f_X4_crawlOn at h
  rw [show (13 : Nat) + 3 = 16 from rfl, t1, bd_some] at h
  have h : (if nI f = X' 13 3 then b_X4_crawlOn_33 X' 16 (nI f) else (f_X9_isBelow X' (nI f) (X' 13 3)).bind fun t2 => (if t2 = 0 then b_X4_crawlOn_39 X' 16 else b_X4_crawlOn_33 X' 16 (nI f))) = some X1 := h
  rw [x3] at h
  by_cases c0 : nI f = 0
  · rw [if_pos c0] at h
    exact meets h
  · rw [if_neg c0] at h
    obtain ⟨t, ht, h⟩ := bd_inv h
    by_cases t0 : t = 0
    · rw [if_pos t0] at h
      refine none' (fun z => ?_) h
      exact hb X' (t5 2 (by omega) (by omega) (by omega)) (fun q => c0 (by rw [q]; rfl)) z t ht t0
    · rw [if_neg t0] at h
      exact meets h

/-! ===== a work's end: what was read makes a segment ===== -/
def kpt (X : JX) (n : Nat) : Bool := decide (X 36 n ≠ 0 ∧ X 42 n = 0)
def vD (X : JX) (h D : Nat → Int32) (i : Nat) : Nat → Int32 := fun k => if (h k).toNatClampNeg < i ∧ kpt X (h k).toNatClampNeg = false then 1 else D k
theorem x_hasGot {X : JX} {n : Nat} (h : n < 60) : f_X2_hasGotEdition X (nI n) = some (bo (X 42 n ≠ 0)) := by
  by_cases h5 : X 42 n = 0 <;> simp [f_X2_hasGotEdition, n_neg (sm h), lt60 h, n_ok h, nI_clamp (sm h), h5, bo]
theorem c_buries {ok : Nat → Prop} {lv : Int32 → Prop} {Xb : JX} {g h D : Nat → Int32} {P S : Nat} (hS : S ≤ 4) : ∀ m i F (X : JX), i + m = 60 → m + 1 ≤ F → (∀ q, q ≠ 50 → q ≠ 51 → q ≠ 52 → X q = Xb q) → ID ok lv X g h (vD Xb h D i) P S → ∃ X', loop2 lb_X3_endWork_2 F X (nI i) = ((f_X3_addSegment X').bind fun X1 => l_X3_endWork_42 X1 3) ∧ ID ok lv X' g h (vD Xb h D 60) P S ∧ ∀ q, q ≠ 50 → q ≠ 51 → q ≠ 52 → X' q = Xb q := by
  intro m
  induction m with
  | zero =>
    intro i F X hi hF ho H
    obtain ⟨F', rfl⟩ := Nat.exists_eq_add_of_le' hF
    have : i = 60 := by omega
    subst this
    refine ⟨X, ?_, H, ho⟩
    rw [zl2]
    generalize loop2 _ F' = R9
    unfold lb_X3_endWork_2
    rw [if_pos g60]
  | succ m ih =>
    intro i F X hi hF ho H
    obtain ⟨F', rfl⟩ := Nat.exists_eq_add_of_le' (show 1 ≤ F by omega)
    have hi6 : i < 60 := by omega
    have x36 : X 36 = Xb 36 := ho 36 (by omega) (by omega) (by omega)
    have x42 : X 42 = Xb 42 := ho 42 (by omega) (by omega) (by omega)
    by_cases e : kpt Xb i = true
    · have ev : vD Xb h D (i + 1) = vD Xb h D i := by
        funext k
        unfold vD
        by_cases q : (h k).toNatClampNeg = i
        · rw [if_neg (fun z => by rw [q, e] at z; cases z.2), if_neg (fun z => by omega)]
        · by_cases q2 : (h k).toNatClampNeg < i ∧ kpt Xb (h k).toNatClampNeg = false
          · rw [if_pos q2, if_pos ⟨by omega, q2.2⟩]
          · rw [if_neg q2, if_neg (fun z => q2 ⟨by omega, z.2⟩)]
      obtain ⟨X', a, b⟩ := ih (i + 1) F' X (by omega) (by omega) ho (by rw [ev]; exact H)
      refine ⟨X', ?_, b⟩
      obtain ⟨e1, e2⟩ := of_decide_eq_true e
      rw [zl2]
      generalize loop2 _ F' = R9 at a
      unfold lb_X3_endWork_2 b_X3_endWork_29
      rw [if_neg (nl60 hi6), x_hasGot hi6, bd_some, x42, bo_f (fun z => z e2), if_neg (fun z => z rfl), x_has hi6, bd_some, x36, bo_t e1, if_pos one0, dV_eq, n_add1]
      exact a
    · obtain ⟨X1, b1, b2, b3, -, -⟩ := c_bury H hS hi6
      have H1 : ID ok lv X1 g h (vD Xb h D (i + 1)) P S := b2.congr (fun k hk => ⟨rfl, rfl, by
        obtain ⟨-, ⟨n, hn, en, -⟩, -⟩ := H.1 k hk
        have ecl : (h k).toNatClampNeg = n := by rw [en, nI_clamp (sm hn)]
        unfold kil vD
        rw [ecl, en]
        by_cases q : n = i
        · rw [if_pos (by rw [q]), if_pos ⟨by omega, by rw [q]; exact Bool.eq_false_iff.mpr e⟩]
        · rw [if_neg (nne hn hi6 q)]
          by_cases q2 : n < i ∧ kpt Xb n = false
          · rw [if_pos q2, if_pos ⟨by omega, q2.2⟩]
          · rw [if_neg q2, if_neg (fun z => q2 ⟨by omega, z.2⟩)]⟩)
      obtain ⟨X', a, b⟩ := ih (i + 1) F' X1 (by omega) (by omega) (fun q h1 h2 h3 => (b3 q h1 h2 h3).trans (ho q h1 h2 h3)) H1
      refine ⟨X', ?_, b⟩
      rw [zl2]
      generalize loop2 _ F' = R9 at a
      unfold lb_X3_endWork_2 b_X3_endWork_24 b_X3_endWork_29
      rw [if_neg (nl60 hi6), x_hasGot hi6, bd_some, b1, bd_some, x_has hi6, bd_some, x42, x36, dV_eq, dV_eq, n_add1, a]
      by_cases e1 : Xb 42 i = 0
      · have e2 : Xb 36 i = 0 := by
          by_cases z : Xb 36 i = 0
          · exact z
          · exact absurd (decide_eq_true ⟨z, e1⟩) e
        rw [bo_f (fun z => z e1), if_neg (fun z => z rfl), bo_f (fun z => z e2), if_neg (fun z => z rfl)]
      · rw [bo_t e1, if_pos one0]
theorem pc_snoc {g h D : Nat → Int32} {P : Nat} {a b c : Int32} (q : Int32 → Int32 → Int32 → Bool) : pc (upd g P a) (upd h P b) (upd D P c) (P + 1) q = pc g h D P q + if q a b c = true then 1 else 0 := by
  unfold pc
  rw [cnt_add, Nat.zero_add]
  have e1 : cnt (fun k => q (upd g P a k) (upd h P b k) (upd D P c k)) P 0 = cnt (fun k => q (g k) (h k) (D k)) P 0 := cnt_congr P 0 (fun k _ hk => by
    rw [u_at, u_at, u_at, if_neg (by omega), if_neg (by omega), if_neg (by omega)])
  rw [e1]
  congr 1
  show (if q (upd g P a P) (upd h P b P) (upd D P c P) = true then 1 else 0) + 0 = _
  rw [u_at, u_at, u_at, if_pos rfl, if_pos rfl, if_pos rfl]
  exact Nat.add_zero _
theorem ID.add {ok : Nat → Prop} {lv : Int32 → Prop} {X : JX} {g h D : Nat → Int32} {P S n : Nat} (H : ID ok lv X g h D P (S + 1)) (hS : S ≤ 3) (hn : n < 60) (ho : ok n) (hl : lv (nI n)) (h0 : pc g h D P (nL n) = 0) (hN : pc g h D P (sN S n) = 0) : ID ok lv (pX (pX X 50 (upd (X 50) n (nI S))) 51 (upd (X 51) S (X 51 S + 1))) (upd g P (nI S)) (upd h P (nI n)) (upd D P 0) (P + 1) (S + 1) := by
  obtain ⟨a, b, c, d, e⟩ := H
  have ht : ∀ t, t < S + 1 → (nI S = nI t ↔ t = S) := fun t ht => ⟨fun z => ((nI_eq (by omega) (by omega)).mp z).symm, fun z => by rw [z]⟩
  have hm : ∀ m, m < 60 → (nI n = nI m ↔ m = n) := fun m hm => ⟨fun z => ((nI_eq (sm hn) (sm hm)).mp z).symm, fun z => by rw [z]⟩
  refine ⟨fun k hk => ?_, fun t m ht9 hm9 => ?_, fun m hm9 => ?_, fun t ht9 => ?_, fun m hm9 => ?_⟩
  · rw [u_at, u_at, u_at]
    by_cases q : k = P
    · rw [if_pos q, if_pos q, if_pos q]
      exact ⟨⟨S, by omega, rfl⟩, ⟨n, hn, rfl, ho⟩, Or.inl ⟨rfl, hl⟩⟩
    · rw [if_neg q, if_neg q, if_neg q]
      exact a k (by omega)
  · rw [pc_snoc]
    unfold sN
    by_cases q1 : t = S
    · by_cases q2 : m = n
      · have : pc g h D P (fun a b _ => decide (a = nI t) && decide (b = nI m)) = 0 := by rw [q1, q2]; exact hN
        rw [this]
        split <;> omega
      · rw [decide_eq_false (fun z => q2 ((hm m hm9).mp z)), Bool.and_false, if_neg (by decide)]
        exact b t m ht9 hm9
    · rw [decide_eq_false (fun z => q1 ((ht t ht9).mp z)), Bool.false_and, if_neg (by decide)]
      exact b t m ht9 hm9
  · rw [pc_snoc]
    unfold nL
    by_cases q2 : m = n
    · have : pc g h D P (fun _ b c => decide (b = nI m) && decide (c = 0)) = 0 := by rw [q2]; exact h0
      rw [this]
      split <;> omega
    · rw [decide_eq_false (fun z => q2 ((hm m hm9).mp z)), Bool.false_and, if_neg (by decide)]
      exact c m hm9
  · obtain ⟨d1, d2⟩ := d t ht9
    rw [pc_snoc, pc_snoc]
    show upd (X 51) S (X 51 S + 1) t = _ ∧ X 52 t = _
    rw [u_at]
    by_cases q1 : t = S
    · have e1 : sL t (nI S) (nI n) 0 = true := by unfold sL; rw [q1]; simp
      have e2 : sD t (nI S) (nI n) 0 = false := by unfold sD; simp
      rw [e1, e2, if_pos q1, if_pos rfl, if_neg (by decide), ← q1, d1, n_add1]
      exact ⟨rfl, d2⟩
    · have e1 : sL t (nI S) (nI n) 0 = false := by unfold sL; rw [decide_eq_false (fun z => q1 ((ht t ht9).mp z))]; rfl
      have e2 : sD t (nI S) (nI n) 0 = false := by unfold sD; rw [decide_eq_false (fun z => q1 ((ht t ht9).mp z))]; rfl
      rw [e1, e2, if_neg q1, if_neg (by decide)]
      exact ⟨d1, d2⟩
  · show (upd (X 50) n (nI S) m = -1 ∧ _) ∨ ∃ s, s < S + 1 ∧ upd (X 50) n (nI S) m = nI s ∧ _
    rw [u_at, pc_snoc]
    by_cases q2 : m = n
    · refine Or.inr ⟨S, by omega, if_pos q2, ?_⟩
      rw [pc_snoc, if_pos (show sNL S m (nI S) (nI n) 0 = true by unfold sNL; rw [q2]; simp)]
      omega
    · have e1 : nL m (nI S) (nI n) 0 = false := by unfold nL; rw [decide_eq_false (fun z => q2 ((hm m hm9).mp z))]; rfl
      rw [if_neg q2, e1, if_neg (by decide)]
      rcases e m hm9 with w | ⟨t, w1, w2, w3⟩
      · exact Or.inl w
      · exact Or.inr ⟨t, w1, w2, by rw [pc_snoc]; omega⟩
/-- a node that comes later is in no place of the new segment, nor alive -/
def fre (g h D : Nat → Int32) (P S n : Nat) : Prop := pc g h D P (nL n) = 0 ∧ pc g h D P (sN S n) = 0
theorem fre.add {g h D : Nat → Int32} {P S n m : Nat} (H : fre g h D P S m) (hn : n < 60) (hm : m < 60) (q : m ≠ n) : fre (upd g P (nI S)) (upd h P (nI n)) (upd D P 0) (P + 1) S m := by
  have hne : ¬ nI n = nI m := fun z => q ((nI_eq (sm hn) (sm hm)).mp z).symm
  refine ⟨?_, ?_⟩
  · rw [pc_snoc, H.1]
    unfold nL
    rw [decide_eq_false hne]
    rfl
  · rw [pc_snoc, H.2]
    unfold sN
    rw [decide_eq_false hne, Bool.and_false]
    rfl
theorem c_newseg {ok : Nat → Prop} {lv : Int32 → Prop} {Xb Yb : JX} {M S : Nat} (hM : M ≤ 60) (hS : S ≤ 3) (h2 : Yb 0 2 = nI M) (h41 : Yb 0 41 = nI S) (hxb : Xb 49 3 = nI S) (hrd : ∀ n, n < 60 → Xb 42 n = Yb 31 n) (hgo : ∀ n, M ≤ n → n < 60 → Yb 31 n = 0) (hok : ∀ n, n < M → Yb 31 n ≠ 0 → ok n ∧ lv (nI n)) : ∀ m i F F2 (X Y : JX) (P : Nat) (b : Bool), i + m = 60 → m + 1 ≤ F → 61 ≤ i + F2 → ID ok lv X (Y 28) (Y 29) (Y 30) P (S + 1) → Y 0 37 = nI P → (∀ q, q ≠ 50 → q ≠ 51 → X q = Xb q) → (∀ q, q ≠ 0 → q ≠ 28 → q ≠ 29 → q ≠ 30 → q ≠ 31 → Y q = Yb q) → (∀ j, j ≠ 37 → Y 0 j = Yb 0 j) → (∀ n, n < 60 → Y 31 n = if n < i then 0 else Yb 31 n) → (∀ n, i ≤ n → n < M → Yb 31 n ≠ 0 → fre (Y 28) (Y 29) (Y 30) P S n) → (b = false → pc (Y 28) (Y 29) (Y 30) P (sA S) = 0) → ∃ X' Y' P' b', loop2 lb_X3_addSegment_38 F X (nI i) = some (pX X' 49 (upd (X' 49) 3 (nI (S + 1)))) ∧ (i ≤ M → loop3 lb_X11_indexes_4 F2 Y (bB b) (nI i) = if bB b' = 0 then b_X11_indexes_93 Y' 0 (Y' 0 41) else b_X11_indexes_93 Y' 1 (Y' 0 41)) ∧ (M < i → Y' = Y ∧ b' = b) ∧ ID ok lv X' (Y' 28) (Y' 29) (Y' 30) P' (S + 1) ∧ Y' 0 37 = nI P' ∧ (∀ q, q ≠ 50 → q ≠ 51 → X' q = Xb q) ∧ (∀ q, q ≠ 0 → q ≠ 28 → q ≠ 29 → q ≠ 30 → q ≠ 31 → Y' q = Yb q) ∧ (∀ j, j ≠ 37 → Y' 0 j = Yb 0 j) ∧ (∀ n, n < 60 → Y' 31 n = 0) ∧ (b' = false → pc (Y' 28) (Y' 29) (Y' 30) P' (sA S) = 0) := by
  have hy0 : ∀ F (Y : JX) (b : Bool), Y 0 2 = nI M → loop3 lb_X11_indexes_4 (F + 1) Y (bB b) (nI M) = if bB b = 0 then b_X11_indexes_93 Y 0 (Y 0 41) else b_X11_indexes_93 Y 1 (Y 0 41) := fun F Y b h => by
    rw [zl3]
    generalize loop3 lb_X11_indexes_4 F = R9
    unfold lb_X11_indexes_4
    rw [h, if_pos (Int32.le_refl _)]
  intro m
  induction m with
  | zero =>
    intro i F F2 X Y P b hi hF hF2 H h37 fx fy fy0 f31 hfre hb
    obtain ⟨F', rfl⟩ := Nat.exists_eq_add_of_le' hF
    have : i = 60 := by omega
    subst this
    refine ⟨X, Y, P, b, ?_, fun h9 => ?_, fun _ => ⟨rfl, rfl⟩, H, h37, fx, fy, fy0, fun n hn => by rw [f31 n hn, if_pos hn], hb⟩
    · rw [zl2]
      generalize loop2 _ F' = R9
      unfold lb_X3_addSegment_38
      rw [if_pos g60, fx 49 (by omega) (by omega), hxb, n_add1, dX_eq]
    · have e : M = 60 := by omega
      obtain ⟨F3, rfl⟩ := Nat.exists_eq_add_of_le' (show 1 ≤ F2 by omega)
      rw [← e]
      exact hy0 F3 Y b ((fy0 2 (by omega)).trans h2)
  | succ m ih =>
    intro i F F2 X Y P b hi hF hF2 H h37 fx fy fy0 f31 hfre hb
    obtain ⟨F', rfl⟩ := Nat.exists_eq_add_of_le' (show 1 ≤ F by omega)
    have hi6 : i < 60 := by omega
    have ok6 := n_ok60 hi6
    have cl6 := nI_clamp (sm hi6)
    have x42 : X 42 i = Yb 31 i := by rw [fx 42 (by omega) (by omega)]; exact hrd i hi6
    have x49 : X 49 3 = nI S := by rw [fx 49 (by omega) (by omega)]; exact hxb
    have hP := H.P (by omega)
    by_cases hc : Yb 31 i = 0
    · have xs : loop2 lb_X3_addSegment_38 (F' + 1) X (nI i) = loop2 lb_X3_addSegment_38 F' X (nI (i + 1)) := by
        rw [zl2]
        generalize loop2 lb_X3_addSegment_38 F' = R9
        unfold lb_X3_addSegment_38 b_X3_addSegment_75
        rw [if_neg (nl60 hi6), x_hasGot hi6, bd_some, x42, bo_f (fun z => z hc), if_pos rfl, dV_eq, n_add1]
      have f31' : ∀ n, n < 60 → Y 31 n = if n < i + 1 then 0 else Yb 31 n := fun n hn => by
        rw [f31 n hn]
        by_cases q : n = i
        · rw [if_neg (by omega), if_pos (by omega), q, hc]
        · by_cases q2 : n < i
          · rw [if_pos q2, if_pos (by omega)]
          · rw [if_neg q2, if_neg (by omega)]
      rw [xs]
      by_cases hiM : i < M
      · obtain ⟨F3, rfl⟩ := Nat.exists_eq_add_of_le' (show 1 ≤ F2 by omega)
        obtain ⟨X', Y', P', b', a1, a2, -, a4⟩ := ih (i + 1) F' F3 X Y P b (by omega) (by omega) (by omega) H h37 fx fy fy0 f31' (fun n h1 h3 h4 => hfre n (by omega) h3 h4) hb
        refine ⟨X', Y', P', b', a1, fun _ => ?_, fun z => absurd z (by omega), a4⟩
        have b9 := a2 (by omega)
        rw [zl3]
        generalize loop3 lb_X11_indexes_4 F3 = R9 at b9
        unfold lb_X11_indexes_4 b_X11_indexes_73
        rw [fy0 2 (by omega), h2, if_neg (nI_ge hiM (by omega)), if_pos ok6, cl6, f31 i hi6, if_neg (Nat.lt_irrefl i), if_pos hc, dV_eq, n_add1]
        exact b9
      · obtain ⟨X', Y', P', b', a1, -, a3, a4⟩ := ih (i + 1) F' F2 X Y P b (by omega) (by omega) (by omega) H h37 fx fy fy0 f31' (fun n h1 h3 h4 => hfre n (by omega) h3 h4) hb
        obtain ⟨eY, eb⟩ := a3 (by omega)
        subst eY
        subst eb
        refine ⟨X', Y', P', b', a1, fun h9 => ?_, fun _ => ⟨rfl, rfl⟩, a4⟩
        obtain ⟨F3, rfl⟩ := Nat.exists_eq_add_of_le' (show 1 ≤ F2 by omega)
        rw [show i = M by omega]
        exact hy0 F3 _ _ ((fy0 2 (by omega)).trans h2)
    · have hiM : i < M := by
        by_cases q : i < M
        · exact q
        · exact absurd (hgo i (by omega) hi6) hc
      obtain ⟨F3, rfl⟩ := Nat.exists_eq_add_of_le' (show 1 ≤ F2 by omega)
      let X1 : JX := pX (pX X 50 (upd (X 50) i (nI S))) 51 (upd (X 51) S (X 51 S + 1))
      let Y1 : JX := pX (pX (pX (pX (pX Y 28 (upd (Y 28) P (nI S))) 29 (upd (Y 29) P (nI i))) 30 (upd (Y 30) P 0)) 0 (upd (Y 0) 37 (nI (P + 1)))) 31 (upd (Y 31) i 0)
      have hf := hfre i (Nat.le_refl _) hiM hc
      have H1 : ID ok lv X1 (Y1 28) (Y1 29) (Y1 30) (P + 1) (S + 1) := H.add hS hi6 (hok i hiM hc).1 (hok i hiM hc).2 hf.1 hf.2
      obtain ⟨X', Y', P', b', a1, a2, a3, a4⟩ := ih (i + 1) F' F3 X1 Y1 (P + 1) true (by omega) (by omega) (by omega) H1 rfl (fun q h50 h51 => (if_neg h51).trans ((if_neg h50).trans (fx q h50 h51))) (fun q h0 h28 h29 h30 h31 => (if_neg h31).trans ((if_neg h0).trans ((if_neg h30).trans ((if_neg h29).trans ((if_neg h28).trans (fy q h0 h28 h29 h30 h31)))))) (fun j hj => (show upd (Y 0) 37 (nI (P + 1)) j = Y 0 j from (u_at _ _ _ _).trans (if_neg hj)).trans (fy0 j hj)) (fun n hn => by
        show upd (Y 31) i 0 n = _
        rw [u_at, f31 n hn]
        by_cases q : n = i
        · rw [if_pos q, if_pos (by omega)]
        · rw [if_neg q]
          by_cases q2 : n < i
          · rw [if_pos q2, if_pos (by omega)]
          · rw [if_neg q2, if_neg (by omega)]) (fun n h1 h3 h4 => (hfre n (by omega) h3 h4).add hi6 (by omega) (by omega)) (fun z => by cases z)
      refine ⟨X', Y', P', b', ?_, fun _ => ?_, fun z => absurd z (by omega), a4⟩
      · rw [zl2]
        generalize loop2 lb_X3_addSegment_38 F' = R9 at a1
        have ok4 := n_ok4 (show S < 4 by omega)
        have hX5 : ∀ F, (pX X 50 F) 49 3 = nI S := fun F => x49
        unfold lb_X3_addSegment_38 b_X3_addSegment_75
        rw [if_neg (nl60 hi6), x_hasGot hi6, bd_some, x42, bo_t hc, if_neg one0, if_pos ok6, cl6, x49, dX_eq, hX5, if_pos ok4, if_pos ok4, nI_clamp (show S < 2 ^ 31 by omega), dX_eq, dV_eq, n_add1]
        exact a1
      · have b9 := a2 (by omega)
        rw [zl3]
        generalize loop3 lb_X11_indexes_4 F3 = R9 at b9
        have okP := n_ok (show P < 600 by omega) (show 600 < 2 ^ 31 by decide)
        have clP := nI_clamp (show P < 2 ^ 31 by omega)
        have g1 : ∀ F, (pX Y 28 F) 0 37 = nI P := fun F => h37
        have g2 : ∀ F G, (pX (pX Y 28 F) 29 G) 0 37 = nI P := fun F G => h37
        have g3 : ∀ F G K, (pX (pX (pX Y 28 F) 29 G) 30 K) 0 37 = nI P := fun F G K => h37
        unfold lb_X11_indexes_4 b_X11_indexes_73
        rw [fy0 2 (by omega), h2, if_neg (nI_ge hiM (by omega)), if_pos ok6, cl6, f31 i hi6, if_neg (Nat.lt_irrefl i), if_neg hc, h37, if_pos okP, clP, dX_eq, g1, if_pos okP, clP, dX_eq, g2, if_pos okP, clP, dX_eq, g3, n_add1, dX_eq, if_pos ok6, dX_eq, dV_eq, n_add1, fy0 41 (by omega), h41]
        exact b9

/-! ===== p32: the law's turns: what holds between them, and a turn's end ===== -/
def BU (b : Nat) (X : JX) : Prop := ∃ b', b ≤ b' ∧ b' ≤ 10000 ∧ X 179 0 = nI b'
theorem BU.go {b : Nat} {X X' : JX} (h : BU (b + 1) X) : 0 < X 179 0 ∧ BU b (mrg X X' 1) := by
  obtain ⟨b', h1, h2, h3⟩ := h
  refine ⟨by rw [h3]; exact nI_lt (a := 0) (by omega) (by omega), b' - 1, by omega, by omega, ?_⟩
  rw [mrg_179, h3, n_sub1 (by omega)]
theorem BU.fr {b : Nat} {X X' : JX} (h : BU b X) (e : X' 179 0 = X 179 0) : BU b X' := by
  unfold BU
  rw [e]
  exact h
theorem BU.le {a b : Nat} {X : JX} (h : BU b X) (hab : a ≤ b) : BU a X := by
  obtain ⟨b', h1, h2⟩ := h
  exact ⟨b', by omega, h2⟩
theorem thn_go {β : Type} {b : Nat} {X X' : JX} {v : Int32} {G : Int32 → JX → Option β} (h : BU (b + 1) X) : thn X (none, v, X') G = G v (mrg X X' 1) := by
  unfold thn
  rw [if_pos rfl, if_pos (h.go (X' := X')).1]
def LB (M : Nat) (X : JX) : Prop := Gh X ∧ CI M X ∧ X 1 9 = nI M ∧ (1 ≤ M ∧ M ≤ 24) ∧ X 0 7 = 0 ∧ E8 X
def LR (M : Nat) (X : JX) : Prop := (∀ n, n < M → (X 176 n = 0 ∧ X 5 n = 0 ∧ X 178 n = 40) ∨ (X 176 n = 1 ∧ X 5 n ≠ 0 ∧ X 4 n ≠ 0 ∧ X 178 n = 0) ∨ (X 176 n = 2 ∧ X 5 n ≠ 0 ∧ X 4 n = 0 ∧ ∃ l, l ≤ 20 ∧ X 178 n = nI l ∧ X 9 n = nI l ∧ X 8 n = nI (1 + l))) ∧ (∀ n, n < M → X 5 n ≠ 0 → (0 < n → X 3 n = nI (97 + n)) ∧ X 177 n = X 2 n) ∧ (∀ n, M ≤ n → n < 60 → X 9 n = 0 ∧ (n < 32 → X 178 n = 0)) ∧ ∃ pl, Tr pl ∧ (∀ n, n < M → X 177 n = enc (pl n)) ∧ ∀ n m, pl n = some m → n < M ∧ m < M
def LT (t : Nat) (X : JX) : Prop := ∃ mm, mm ≤ 60 * t ∧ X 0 6 = nI mm
def LI (M t : Nat) (X : JX) : Prop := LB M X ∧ LR M X ∧ LT t X ∧ BU (60 * (60 - t)) X
def LM (M t : Nat) (X : JX) : Prop := LB M X ∧ LR M X ∧ LT (t + 1) X ∧ BU (60 * (60 - (t + 1)) + 1) X
theorem LB.congr {M : Nat} {X X' : JX} (h : LB M X) (f : ∀ q, q < 176 → X' q = X q) : LB M X' := by
  obtain ⟨a, b, c, d, e, g⟩ := h
  exact ⟨a.congr f, b.congr f, by rw [f 1 (by omega)]; exact c, d, by rw [f 0 (by omega)]; exact e, g.fr (f 4 (by omega)) (f 8 (by omega))⟩
theorem LR.same {M : Nat} {X X' : JX} (h : LR M X) (f : ∀ q, q = 2 ∨ q = 3 ∨ q = 4 ∨ q = 5 ∨ q = 8 ∨ q = 9 ∨ (175 < q ∧ q < 179) → X' q = X q) : LR M X' := by
  unfold LR
  rw [f 2 (by omega), f 3 (by omega), f 4 (by omega), f 5 (by omega), f 8 (by omega), f 9 (by omega), f 176 (by omega), f 177 (by omega), f 178 (by omega)]
  exact h
theorem LT.fr {t : Nat} {X X' : JX} (h : LT t X) (e : X' 0 6 = X 0 6) : LT t X' := by
  unfold LT
  rw [e]
  exact h
theorem LT.le {t t' : Nat} {X : JX} (h : LT t X) (ht : t ≤ t') : LT t' X := by
  obtain ⟨mm, h1, h2⟩ := h
  exact ⟨mm, by omega, h2⟩
theorem mrg_hi3 {X X' : JX} {k : Int32} {q : Nat} (h : 175 < q ∧ q < 179) : mrg X X' k q = X q := mrg_hi (by omega) (by omega)
theorem LB.mrg {M : Nat} {X X' : JX} {k : Int32} (h : LB M X') : LB M (mrg X X' k) := h.congr (fun _ hq => mrg_lo hq)
theorem x_root {M : Nat} {X : JX} (g : Gh X) (h1 : One X) (h9 : X 1 9 = nI M) (hM : M ≤ 60) : f_X8_find X 0 = some (some 13) := by
  obtain ⟨Y, h⟩ := g
  obtain ⟨A, P, S, -, ⟨h4, h5, h6⟩, -⟩ := h.one h1.1 h9 hM
  have hpl : pl X 0 = 13 := by unfold pl; rw [h1.2.1]; rfl
  have h10 : Y 10 0 = 0 := by
    have := h5.2.2 0 (by omega)
    rw [hpl, h1.2.2] at this
    exact this.symm
  rw [x_find h5 h4, ro_of h4 (show 0 < 1 by omega) h10, Option.map_some, hpl]
theorem x_notices {M : Nat} {X : JX} (g : Gh X) (h1 : One X) (h9 : X 1 9 = nI M) (hM : M ≤ 60) : f_X10_notices X 0 = some (none, (if X 13 5 = 0 then X 13 4 else -1), X) := by
  unfold f_X10_notices f_X7_countOrFlood
  rw [x_root g h1 h9 hM, bd_some, oC_some, if_pos (show isRt 13 = true from rfl)]
  by_cases c : X 13 5 = 0
  · rw [if_pos c, if_pos c]; rfl
  · rw [if_neg c, if_neg c]; rfl
theorem i_low {X : JX} {v : Int32} {n : Nat} (hn : 0 < n) (hn2 : n < 2 ^ 31) : ∃ r, r < n ∧ f_L_low X v (nI n) = some (nI r) := by
  unfold f_L_low
  rw [if_neg (nI_ne0 hn hn2)]
  obtain ⟨j, hj, ej⟩ := pk_andE v (m := 2147483647) 31 (by decide)
  have e : nI j / nI n = nI (j / n) := pk_div hj hn hn2
  rw [ej, e]
  refine ⟨j % n, Nat.mod_lt _ hn, ?_⟩
  have e2 : nI (j / n) * nI n = nI (j / n * n) := (Int32.ofNat_mul _ _).symm
  rw [e2, n_sub (Nat.div_mul_le_self j n)]
  congr 2
  have := Nat.div_add_mod j n
  rw [Nat.mul_comm] at this
  omega
/-- a turn's end: the nodes are counted, and quiet is looked at -/
theorem tail {g : Int32 → Int32} {R9 : JX → Int32 → Int32 → Option Int32} {M t : Nat} {X : JX} (h : LM M t X) (hrec : ∀ X', LI M (t + 1) X' → R9 X' (nI M) (nI (t + 1)) = some 1) : b_L_law_1132 g R9 X (nI M) (nI t) 1 = some 1 := by
  obtain ⟨hB, hR, hT, hU⟩ := h
  have hB' := hB
  obtain ⟨hg, hC, h9, ⟨hM1, hM⟩, h07, e8⟩ := hB
  have hone := hC.1
  have done : ∀ X', (∀ q, q < 179 → X' q = X q) → BU (60 * (60 - (t + 1))) X' → R9 X' (nI M) (nI (t + 1)) = some 1 := fun X' f hb => hrec X' ⟨hB'.congr (fun q hq => f q (by omega)), hR.same (fun q hq => f q (by omega)), hT.fr (by rw [f 0 (by omega)]), hb⟩
  have d27 : ∀ X', (∀ q, q < 179 → X' q = X q) → BU (60 * (60 - (t + 1))) X' → b_L_law_1227 g R9 X' (nI M) (nI t) = some 1 := fun X' f hb => by
    unfold b_L_law_1227
    rw [dV_eq, n_add1]
    exact done X' f hb
  have d96 : b_L_law_1196 g R9 X (nI M) (nI t) 1 = some 1 := by
    unfold b_L_law_1196
    rw [if_neg one0]
    obtain ⟨b, e1, e2, e3, -⟩ := x_quiet hg hone h9 (by omega)
    rw [e1, bd_some]
    by_cases c : b = 0
    · rw [if_pos c]
      exact d27 X (fun _ _ => rfl) (hU.le (by omega))
    · rw [if_neg c]
      obtain ⟨f5, f4, f45, -⟩ := e3.mp c
      have ea : f_X10_acts X = some (X 45 3) := rfl
      rw [ea, bd_some, if_neg (fun z => z f45), x_notices hg hone h9 (by omega), bd_some, thn_go hU, if_pos f5, if_pos f4]
      refine d27 _ (fun q hq => ?_) (hU.go).2
      by_cases c2 : q < 176
      · exact mrg_lo c2
      · exact mrg_hi3 (by omega)
  have hnodes : f_X10_nodes X = some (nI (cnt (fun n => decide (X 5 n ≠ 0)) 60 0)) := by
    unfold f_X10_nodes f_X9_countThere l_X9_countThere_4
    rw [show (0 : Int32) = nI 0 from rfl, x_countThere_loop 60 0 1000 0 (Nat.zero_add _) (by omega) (Nat.le_refl _), Nat.zero_add]
    rfl
  have hent : f_X10_entries X = some (nI (cnt (fun n => decide (X 36 n ≠ 0)) 60 0)) := by
    unfold f_X10_entries f_X2_count l_X2_count_4
    rw [show (0 : Int32) = nI 0 from rfl, x_entries_loop 60 0 1000 0 (Nat.zero_add _) (by omega), Nat.zero_add]
    rfl
  obtain ⟨Y, hY⟩ := hg
  obtain ⟨A, P, S, ⟨t1, t2, t3⟩, -, ⟨e1, e2⟩, -⟩ := hY.one hone.1 h9 (by omega)
  have c5 : cnt (fun n => decide (X 5 n ≠ 0)) 60 0 = cnt (fun n => decide (¬ X 176 n ≤ 0)) M 0 := by
    rw [cnt_60 (M := M) (by omega) (fun n n1 n2 => decide_eq_false (fun z => absurd (t1.2.2.1 n n2 (by rw [← (t2.2 n n2).2.2.2.1]; exact z)) (by omega)))]
    refine cnt_congr M 0 (fun n _ hn => ?_)
    rcases hR.1 n (by omega) with ⟨z1, z2, -⟩ | ⟨z1, z2, -⟩ | ⟨z1, z2, -⟩
    · rw [z1, z2]; rfl
    · rw [z1, decide_eq_true z2]; rfl
    · rw [z1, decide_eq_true z2]; rfl
  have c36 : cnt (fun n => decide (X 36 n ≠ 0)) 60 0 ≤ M := by
    rw [cnt_60 (M := M) (by omega) (fun n n1 n2 => decide_eq_false (fun z => by
      rw [(e1 n n2).1] at z
      exact absurd ((e2 n n2).1 z).1 (by omega)))]
    exact cnt_le _ M 0
  have loop : ∀ m i F c, i + m = M → m + 1 ≤ F → c + cnt (fun n => decide (¬ X 176 n ≤ 0)) m i = cnt (fun n => decide (¬ X 176 n ≤ 0)) M 0 → loop2 (lb_L_law_1138 g R9 X (nI M) (nI t) 1) F (nI c) (nI i) = some 1 := by
    intro m
    induction m with
    | zero =>
      intro i F c hi hF hc
      obtain ⟨F', rfl⟩ := Nat.exists_eq_add_of_le' hF
      have : i = M := by omega
      subst this
      have hc : c = cnt (fun n => decide (¬ X 176 n ≤ 0)) i 0 := hc
      rw [zl2]
      generalize loop2 _ F' = R8
      unfold lb_L_law_1138
      rw [if_pos (Int32.le_refl _), if_neg one0, hnodes, bd_some, if_neg (fun z => z (by rw [hc, c5])), hent, bd_some, if_neg (show ¬ nI i < nI (cnt (fun n => decide (X 36 n ≠ 0)) 60 0) from nI_nlt c36 (by omega))]
      exact d96
    | succ m ih =>
      intro i F c hi hF hc
      obtain ⟨F', rfl⟩ := Nat.exists_eq_add_of_le' (show 1 ≤ F by omega)
      rw [zl2]
      have h9' := fun c => ih (i + 1) F' c (by omega) (by omega)
      generalize loop2 _ F' = R8 at h9'
      unfold lb_L_law_1138 b_L_law_1159
      rw [if_neg (show ¬ nI M ≤ nI i from nI_ge (by omega) (by omega)), if_pos (n_ok (show i < 32 by omega) (by decide)), nI_clamp (by omega)]
      rw [cnt_s] at hc
      by_cases z : X 176 i ≤ 0
      · rw [if_pos z, dV_eq, dV_eq, Int32.add_zero, n_add1]
        rw [if_neg (by rw [decide_eq_true_eq]; exact fun y => y z)] at hc
        exact h9' c (by omega)
      · rw [if_neg z, dV_eq, dV_eq, n_add1, n_add1]
        rw [if_pos (decide_eq_true z)] at hc
        exact h9' (c + 1) (by omega)
  unfold b_L_law_1132 l_L_law_1138
  exact loop M 0 1000 0 (Nat.zero_add _) (by omega) (Nat.zero_add _)

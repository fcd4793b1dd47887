/-! ===== p32: what comes next, with one root, the top ===== -/
/-- what the class would take out of a text -/
def tkX (X : JX) (n : Nat) : Nat × (Nat → Int32) := fw (X (56 + n)) (X 34 0).toNatClampNeg (X 34 1).toNatClampNeg (bk (X (56 + n)) (X 9 n).toNatClampNeg (X 9 n).toNatClampNeg 0) 0 0 0 (fun _ => 0)
theorem tkX_eq {X Y : JX} {i n : Nat} (hx : TX X Y) (hV : TV Y i) (h34 : X 34 0 = Y 0 28 ∧ X 34 1 = Y 0 29) (hn : n < 60) : tkX X n = tkn Y n := by
  obtain ⟨-, -, -, -, -, -, a9, -, at', -⟩ := hx.2 n hn
  obtain ⟨-, -, l, hl, el, hm⟩ := hV n hn
  have hgx : ∀ j, j < l → X (56 + n) j = tx Y n j := fun j hj => at' j (by omega)
  have hle : bk (tx Y n) l l 0 ≤ l := bk_le l l 0 (Nat.le_refl _) (Nat.le_refl _)
  unfold tkX tkn
  rw [h34.1, h34.2, a9, el, nI_clamp (show l < 2 ^ 31 by omega), bk_congr l l 0 (fun j hj => hgx j hj)]
  exact fw_congr (e := bk (tx Y n) l l 0) (fun p hp => hgx p (by omega)) _ _ _ _ _ (Nat.zero_add _)
theorem tkX_fr {X X' : JX} (h34 : X' 34 = X 34) (h9 : X' 9 = X 9) {n : Nat} (ht : X' (56 + n) = X (56 + n)) : tkX X' n = tkX X n := by
  unfold tkX
  rw [h34, h9, ht]
/-- an entry's words are those of the text -/
def wds (X : JX) (n : Nat) : Prop := X 40 n = nI (tkX X n).1 ∧ ∀ j, j < (tkX X n).1 → X (116 + n) j = (tkX X n).2 j
/-- the way over entries, to the top at most -/
def pe (X : JX) (k : Nat) : Option Nat := if k < 60 ∧ X 36 k ≠ 0 ∧ k ≠ 0 then dec (X 37 k) else none
def Nflood (X X1 : JX) : Prop := X 13 5 ≠ 0 ∧ X1 13 = upd (X 13) 5 0 ∧ (∀ q, q < 16 ∨ 19 < q → q ≠ 13 → X1 q = X q) ∧ X1 16 4 = 1 ∧ (∀ n, n < 60 → X1 18 n = if n = 0 then 1 else 0) ∧ ∀ n, n < 60 → X1 19 n = 0
def Nnote (X X1 : JX) : Prop := X 13 5 = 0 ∧ ∃ k n v, 1 ≤ k ∧ k ≤ 8 ∧ n < 60 ∧ X 13 4 = nI k ∧ X1 13 = upd (X 13) 4 (nI (k - 1)) ∧ (v = 1 ∨ v = 2) ∧ X1 47 = upd (X 47) n v ∧ ∀ q, q < 13 ∨ 15 < q → q ≠ 45 → q ≠ 46 → q ≠ 47 → X1 q = X q
def Ngone (pr : Nat → Option Nat) (X X1 : JX) (n : Nat) : Prop := pr n = none ∧ X1 47 = upd (X 47) n 0 ∧ (∀ q, q ≠ 36 → q ≠ 42 → q ≠ 43 → q ≠ 45 → q ≠ 46 → q ≠ 47 → X1 q = X q) ∧ X1 36 n = 0 ∧ ∀ k, k < 60 → X1 36 k = X 36 k ∨ (X1 36 k = 0 ∧ (k = n ∨ (n ≠ 0 ∧ (k ≠ 0 → On (pe X) (pe X k) n))))
def Ndrop (pr : Nat → Option Nat) (X X1 : JX) (n : Nat) : Prop := pr n ≠ none ∧ X 47 n = 2 ∧ X1 47 = upd (X 47) n 1 ∧ frX X1 X
def Nfile (pr : Nat → Option Nat) (X X1 : JX) (n c : Nat) : Prop := pr n ≠ none ∧ X 5 n ≠ 0 ∧ X 4 n = 0 ∧ X1 47 = upd (X 47) n 0 ∧ rgt X1 n ∧ X1 37 n = X 2 n ∧ (∀ k, k ≠ n → X1 36 k = X 36 k ∧ X1 37 k = X 37 k ∧ X1 38 k = X 38 k ∧ X1 39 k = X 39 k ∧ X1 40 k = X 40 k) ∧ (∀ q, (q < 36 ∨ 40 < q) → q ≠ 42 → q ≠ 45 → q ≠ 46 → q ≠ 47 → q ≠ 116 + n → X1 q = X q) ∧ ((c = 1 ∧ X 36 n ≠ 0 ∧ X 39 n = X 8 n ∧ X1 40 n = X 40 n ∧ X1 (116 + n) = X (116 + n)) ∨ (¬ (X 36 n ≠ 0 ∧ X 39 n = X 8 n) ∧ c ≤ 21 ∧ 1 ≤ c ∧ wds X1 n))
def Nfold (pr : Nat → Option Nat) (X X1 : JX) (n : Nat) : Prop := pr n ≠ none ∧ X 5 n ≠ 0 ∧ X 4 n ≠ 0 ∧ (∀ j, X1 47 j = if j < 60 ∧ X 2 j = nI n then 1 else if j = n then 0 else X 47 j) ∧ rgt X1 n ∧ X1 37 n = X 2 n ∧ (∀ k, k ≠ n → X1 36 k = X 36 k ∧ X1 37 k = X 37 k ∧ X1 38 k = X 38 k) ∧ ∀ q, (q < 36 ∨ 38 < q) → q ≠ 45 → q ≠ 46 → q ≠ 47 → X1 q = X q
def Nact (pr : Nat → Option Nat) (X X1 : JX) (c left : Nat) : Prop := X 13 5 = 0 ∧ X 13 4 = 0 ∧ ∃ n, n < 60 ∧ (X 47 n = 1 ∨ X 47 n = 2) ∧ ((c = 1 ∧ Ngone pr X X1 n) ∨ (c = 1 ∧ Ndrop pr X X1 n) ∨ Nfile pr X X1 n c ∨ (c = 1 ∧ Nfold pr X X1 n) ∨ (c = 0 ∧ X1 = X ∧ left ≤ 20))
def Ncrawl (X X1 : JX) : Prop := X 13 5 = 0 ∧ X 13 4 = 0 ∧ (∀ n, n < 60 → X 47 n = 0) ∧ X 16 4 ≠ 0 ∧ ∃ f, f < 60 ∧ X 18 f ≠ 0 ∧ frC X1 X ∧ (∀ j, j < 60 → X1 19 j = if X 2 j = nI f then 1 else X 19 j) ∧ (∀ j, j < 60 → (X1 18 j ≠ 0 ↔ (X 18 j ≠ 0 ∧ j ≠ f) ∨ (X 2 j = nI f ∧ X 5 j ≠ 0 ∧ X 4 j ≠ 0))) ∧
    ((X1 16 4 = X 16 4 ∧ ∀ j, j < 60 → (X1 47 j ≠ 0 ↔ (X 2 j = nI f ∧ ¬ rgt X j) ∨ X 47 j ≠ 0) ∧ (X1 47 j = 1 ∨ X1 47 j = X 47 j)) ∨
     (X1 16 4 = 0 ∧ (∀ j, j < 60 → X1 18 j = 0) ∧ ∀ j, j < 60 → (X1 47 j ≠ 0 ↔ (X 36 j ≠ 0 ∧ X1 19 j = 0) ∨ (X 2 j = nI f ∧ ¬ rgt X j) ∨ X 47 j ≠ 0) ∧ (X1 47 j = 1 ∨ X1 47 j = X 47 j)))
def Nrest (X X1 : JX) : Prop := X1 = X ∧ X 13 5 = 0 ∧ X 13 4 = 0 ∧ (∀ n, n < 60 → X 47 n = 0) ∧ X 16 4 = 0
def Nx (pr : Nat → Option Nat) (X X1 : JX) (c left : Nat) : Prop := (c = 1 ∧ Nflood X X1) ∨ (c = 1 ∧ Nnote X X1) ∨ Nact pr X X1 c left ∨ (c = 1 ∧ Ncrawl X X1) ∨ (c = 0 ∧ Nrest X X1)
/-- each node's way leads to the top -/
theorem toTop {Y : JX} {M : Nat} (hT : TY Y M) : ∀ k n, n < 60 → Y 1 n ≠ 0 → it (prY Y) k (some n) = none → On (prY Y) (some n) 0 := by
  intro k
  induction k with
  | zero => intro n _ _ h; cases h
  | succ k ih =>
    intro n hn ht h
    by_cases n0 : n = 0
    · rw [n0]; exact On.self 0
    · obtain ⟨m, hm, em, m1, -⟩ := hT.2.2.2.1 n (by omega) hn ht
      have ep : prY Y n = some m := by
        unfold prY
        rw [if_pos ⟨hn, ht⟩, em, dec_nI (sm hm)]
      have h : it (prY Y) k (prY Y n) = none := h
      rw [ep] at h
      exact On.up.mpr (Or.inr (by rw [ep]; exact ih m hm m1 h))
theorem toTop' {Y : JX} {M n : Nat} (hT : TY Y M) (hn : n < 60) (ht : Y 1 n ≠ 0) : On (prY Y) (some n) 0 := by
  obtain ⟨k, hk⟩ := hT.2.2.2.2.2 (some n)
  exact toTop hT k n hn ht hk
theorem pr_some {Y : JX} {M n : Nat} (hT : TY Y M) (h : prY Y n ≠ none) : n < 60 ∧ n ≠ 0 ∧ Y 1 n ≠ 0 ∧ ∃ m, m < 60 ∧ prY Y n = some m ∧ Y 3 n = nI m ∧ Y 1 m ≠ 0 ∧ Y 2 m ≠ 0 := by
  by_cases c : n < 60 ∧ Y 1 n ≠ 0
  · have n0 : n ≠ 0 := fun z => h (by
      unfold prY
      rw [if_pos c, z, hT.2.1.2.2, dec_m1])
    obtain ⟨m, hm, em, m1, m2⟩ := hT.2.2.2.1 n (by omega) c.1 c.2
    refine ⟨c.1, n0, c.2, m, hm, ?_, em, m1, m2⟩
    unfold prY
    rw [if_pos c, em, dec_nI (sm hm)]
  · exact absurd (by unfold prY; rw [if_neg c]) h
theorem pr_of {Y : JX} {M n : Nat} (hT : TY Y M) (hn : n < 60) (n0 : n ≠ 0) (ht : Y 1 n ≠ 0) : prY Y n ≠ none := by
  obtain ⟨m, hm, em, m1, -⟩ := hT.2.2.2.1 n (by omega) hn ht
  unfold prY
  rw [if_pos ⟨hn, ht⟩, em, dec_nI (sm hm)]
  exact fun z => by cases z
/-- with one root, the top, below it is what has a parent -/
theorem ov_top {Y : JX} {M n : Nat} (hT : TY Y M) (hY : RY Y 1) (h0 : Y 10 0 = 0) : ov Y 1 n = none ↔ prY Y n = none := by
  have r0 : rf Y 0 = 0 := by unfold rf; rw [h0]; rfl
  constructor
  · intro e
    by_cases c : prY Y n = none
    · exact c
    · obtain ⟨hn, n0, ht, m, hm, ep, -, m1, -⟩ := pr_some hT c
      have : belo (prY Y) n (rf Y 0) = true := by
        rw [belo_On hT.2.2.2.2, ep, r0]
        exact toTop' hT hm m1
      rw [(ov_belo hY hT (show 0 < 1 by omega)).mp this] at e
      cases e
  · intro e
    cases h : ov Y 1 n with
    | none => rfl
    | some r =>
      have hr := ov_lt h
      have := (ov_belo hY hT hr).mpr h
      rw [belo_On hT.2.2.2.2, e] at this
      exact absurd this On.none
theorem lbl_pe {X Y : JX} {M n : Nat} (hY : RY Y 1) (h0 : Y 10 0 = 0) (hE : EX X Y) (hEY : EY Y M) (hn : n < 60) : ∀ m u, (∀ k, u = some k → k < 60) → lbl Y 1 (nI n) m u = true → On (pe X) u n := by
  intro m
  induction m with
  | zero => intro u _ h; cases h
  | succ m ih =>
    intro u hu h
    cases u with
    | none => rw [lbl_n] at h; cases h
    | some k =>
      have hk := hu k rfl
      rw [lbl_s, Bool.or_eq_true, decide_eq_true_eq] at h
      rcases h with h | h
      · exact ⟨0, by rw [(nI_eq (sm hk) (sm hn)).mp h]; rfl⟩
      · by_cases c : ro Y 1 (nI k) = none
        · rw [if_pos c] at h
          have k0 : k ≠ 0 := fun z => by
            have := ro_no c 0 (by omega)
            rw [h0, z] at this
            exact this rfl
          have hkp : ∀ z, kp Y k = some z → z < 60 := fun z hz => (kp_lt hEY hk hz).1
          have e : pe X k = kp Y k := by
            unfold pe kp
            rw [(hE k hk).1, (hE k hk).2.1]
            by_cases q : Y 19 k ≠ 0
            · rw [if_pos ⟨hk, q, k0⟩, if_pos q]
              obtain ⟨z, hz, ez⟩ := ((hEY k hk).1 q).2
              rw [ez, dec_nI (sm hz), nI_clamp (sm hz)]
            · rw [if_neg (fun z => q z.2.1), if_neg q]
          refine On.up.mpr (Or.inr ?_)
          rw [e]
          exact ih (kp Y k) hkp h
        · rw [if_neg c] at h
          cases h
theorem gon_pe {X Y : JX} {M n k : Nat} (hY : RY Y 1) (h0 : Y 10 0 = 0) (hE : EX X Y) (hEY : EY Y M) (hn : n < 60) (hk : k < 60) (h : gon Y 1 n k = true) : k = n ∨ (n ≠ 0 ∧ (k ≠ 0 → On (pe X) (pe X k) n)) := by
  unfold gon at h
  rw [Bool.or_eq_true, decide_eq_true_eq, Bool.and_eq_true, decide_eq_true_eq] at h
  rcases h with h | ⟨h1, h2⟩
  · exact Or.inl h
  · refine Or.inr ⟨fun z => ?_, fun k0 => ?_⟩
    · have := ro_no h1 0 (by omega)
      rw [h0, z] at this
      exact this rfl
    · have hkp : ∀ z, kp Y k = some z → z < 60 := fun z hz => (kp_lt hEY hk hz).1
      have e : pe X k = kp Y k := by
        unfold pe kp
        rw [(hE k hk).1, (hE k hk).2.1]
        by_cases q : Y 19 k ≠ 0
        · rw [if_pos ⟨hk, q, k0⟩, if_pos q]
          obtain ⟨z, hz, ez⟩ := ((hEY k hk).1 q).2
          rw [ez, dec_nI (sm hz), nI_clamp (sm hz)]
        · rw [if_neg (fun z => q z.2.1), if_neg q]
      rw [e]
      exact lbl_pe hY h0 hE hEY hn 60 _ hkp h2
/-- an entry and what is known below it are taken away -/
theorem i_forget {X Y X1 : JX} {M n : Nat} (hY : RY Y 1) (hX : RX X Y 1) (h0 : Y 10 0 = 0) (hE : EX X Y) (hEY : EY Y M) (hn : n < 60) (h : f_X2_takeAway X (nI n) = some X1) : (∀ q, q ≠ 36 → q ≠ 42 → q ≠ 43 → X1 q = X q) ∧ X1 36 n = 0 ∧ ∀ k, k < 60 → X1 36 k = X 36 k ∨ (X1 36 k = 0 ∧ (k = n ∨ (n ≠ 0 ∧ (k ≠ 0 → On (pe X) (pe X k) n)))) := by
  obtain ⟨Xa, a1, a2, a3⟩ := x_gon1 (n := n) (v2 := if ro Y 1 (nI n) = none then 0 else 1) hX hY hE hEY hn rfl 60 0 1000 X rfl (by decide) (fun _ _ => rfl) (fun j hj => absurd hj (Nat.not_lt_zero j))
  obtain ⟨Xb, b1, b2, b3, b4⟩ := x_gon2 60 0 1000 Xa rfl (by decide)
  have e : f_X2_takeAway X (nI n) = some Xb := by
    unfold f_X2_takeAway
    rw [x_find hX hY, bd_some]
    cases er : ro Y 1 (nI n) with
    | none =>
      rw [er, if_pos rfl] at a1
      rw [Option.map_none, oC_none]
      exact a1.trans b1
    | some r =>
      rw [er, if_neg (fun z => by cases z)] at a1
      rw [Option.map_some, oC_some, if_pos (hX.1.1 r (by have := (ro_lt er).1; omega))]
      exact a1.trans b1
  rw [e] at h
  have h9 : Xb = X1 := Option.some.inj h
  subst h9
  have hg0 : ∀ g : Bool, (bB g ≠ 0) ↔ g = true := fun g => by cases g <;> simp [bB]
  have key : ∀ k, k < 60 → Xb 36 k = if gon Y 1 n k = true then 0 else X 36 k := fun k hk => by
    rw [b3 k, a3 k hk, a2 36 (by omega)]
    by_cases g : gon Y 1 n k = true
    · rw [if_pos ⟨Nat.zero_le _, hk, (hg0 _).mpr g⟩, if_pos g]
    · rw [if_neg (fun z => g ((hg0 _).mp z.2.2)), if_neg g]
  refine ⟨fun q q1 q2 q3 => (b2 q q1 q2).trans (a2 q q3), ?_, fun k hk => ?_⟩
  · rw [key n hn, if_pos]
    unfold gon
    rw [decide_eq_true rfl, Bool.true_or]
  · rw [key k hk]
    by_cases g : gon Y 1 n k = true
    · rw [if_pos g]; exact Or.inr ⟨rfl, gon_pe hY h0 hE hEY hn hk g⟩
    · rw [if_neg g]; exact Or.inl rfl
theorem i_file {i M n c left : Nat} {X Y X1 : JX} (h1 : TY Y M) (h2 : TX X Y) (h3 : TV Y i) (hi : i ≤ 2560) (h34 : X 34 0 = Y 0 28 ∧ X 34 1 = Y 0 29) (hS : SY Y) (hn : n < 60) (hp : prY Y n ≠ none) (hf : X 4 n = 0) (hlk : X 6 n = 0) (hc : c ≤ 500) (hl2 : left ≤ 500) (h : f_X4_lookAtFile X (nI n) (nI left) = some (nI c, X1)) : Nfile (prY Y) X X1 n c ∨ (c = 0 ∧ X1 = X ∧ left ≤ 20) := by
  obtain ⟨-, n0, nt, -⟩ := pr_some h1 hp
  obtain ⟨a2, a3, a4, a5, a6, a7, a9, a8, at', ac⟩ := h2.2 n hn
  obtain ⟨⟨ed, hed, eed⟩, -, l, hl20, el, -⟩ := h3 n hn
  have ok := n_ok60 hn
  have cl := nI_clamp (sm hn)
  have h5 : X 5 n ≠ 0 := by rw [a5]; exact nt
  have xed : f_X2_editionOf X (nI n) = some (if X 36 n = 0 then -1 else X 39 n) := by
    unfold f_X2_editionOf
    rw [x_has hn, bd_some, if_pos ok, cl]
    by_cases z : X 36 n = 0
    · rw [bo_f (fun w => w z), if_pos rfl, if_pos z]
    · rw [bo_t z, if_neg one0, if_neg z]
  have e8 : X 8 n = nI ed := by rw [a8 (by rw [← a4]; exact hf)]; exact eed
  have hne1 : ¬ (-1 : Int32) = X 8 n := fun z => by rw [e8] at z; exact nm1 (by omega) z.symm
  have hcx : vp_nar .char (X 3 n) = X 3 n := by rw [a3]; exact ac
  -- the end: place kept, act taken
  have fin : ∀ (Xk : JX) (v : Int32), Xk 2 = X 2 → Xk 3 = X 3 → b_X4_lookAtFile_101 Xk (nI n) v = some (nI c, X1) → v = nI c ∧ X1 47 = upd (Xk 47) n 0 ∧ X1 36 n = 1 ∧ X1 37 n = X 2 n ∧ X1 38 n = X 3 n ∧ (∀ k, k ≠ n → X1 36 k = Xk 36 k ∧ X1 37 k = Xk 37 k ∧ X1 38 k = Xk 38 k) ∧ ∀ q, (q < 36 ∨ 38 < q) → q ≠ 45 → q ≠ 46 → q ≠ 47 → X1 q = Xk q := fun Xk v e2 e3 hh => by
    unfold b_X4_lookAtFile_101 at hh
    rw [x_keepPlace hn (by rw [e3]; exact hcx), bd_some] at hh
    obtain ⟨X3, g1, g2⟩ := bd_inv hh
    cases g2
    obtain ⟨b1, b2⟩ := i_takeAct hn g1
    have p36 : (plX Xk n) 36 = upd (Xk 36) n 1 := rfl
    have p37 : (plX Xk n) 37 = upd (Xk 37) n (Xk 2 n) := rfl
    have p38 : (plX Xk n) 38 = upd (Xk 38) n (Xk 3 n) := rfl
    refine ⟨rfl, b1, ?_, ?_, ?_, fun k hk => ⟨?_, ?_, ?_⟩, fun q q1 q2 q3 q4 => (b2 q q2 q3 q4).trans ((pX_ne _ _ (by omega)).trans ((pX_ne _ _ (by omega)).trans (pX_ne _ _ (by omega))))⟩
    · rw [b2 36 (by omega) (by omega) (by omega), p36, u_at, if_pos rfl]
    · rw [b2 37 (by omega) (by omega) (by omega), p37, u_at, if_pos rfl, e2]
    · rw [b2 38 (by omega) (by omega) (by omega), p38, u_at, if_pos rfl, e3]
    · rw [b2 36 (by omega) (by omega) (by omega), p36, u_at, if_neg hk]
    · rw [b2 37 (by omega) (by omega) (by omega), p37, u_at, if_neg hk]
    · rw [b2 38 (by omega) (by omega) (by omega), p38, u_at, if_neg hk]
  unfold f_X4_lookAtFile at h
  rw [x_isLocked hn, bo_f (fun z => z hlk), bd_some, if_pos rfl, xed, bd_some, x_editionOf hn, bd_some] at h
  by_cases fr : X 36 n ≠ 0 ∧ X 39 n = X 8 n
  · rw [if_neg fr.1, if_pos fr.2] at h
    obtain ⟨v, b1, b2, b3, b4, b5, b6⟩ := fin X 1 rfl rfl h
    have c1 : c = 1 := ((nI_eq (a := 1) (b := c) (by decide) (by omega)).mp v).symm
    refine Or.inl ⟨hp, h5, hf, b1, ⟨by rw [b2]; exact one0, by rw [b3, b6 2 (by omega) (by omega) (by omega) (by omega)], by rw [b4, b6 3 (by omega) (by omega) (by omega) (by omega)], fun _ => by rw [b6 39 (by omega) (by omega) (by omega) (by omega), b6 8 (by omega) (by omega) (by omega) (by omega)]; exact fr.2⟩, b3, fun k hk => ⟨(b5 k hk).1, (b5 k hk).2.1, (b5 k hk).2.2, by rw [b6 39 (by omega) (by omega) (by omega) (by omega)], by rw [b6 40 (by omega) (by omega) (by omega) (by omega)]⟩, fun q q1 _ q2 q3 q4 _ => b6 q (by omega) q2 q3 q4, Or.inl ⟨c1, fr.1, fr.2, by rw [b6 40 (by omega) (by omega) (by omega) (by omega)], b6 (116 + n) (by omega) (by omega) (by omega) (by omega)⟩⟩
  · have hne2 : ¬ (if X 36 n = 0 then -1 else X 39 n) = X 8 n := by
      by_cases z : X 36 n = 0
      · rw [if_pos z]; exact hne1
      · rw [if_neg z]; exact fun w => fr ⟨z, w⟩
    rw [if_neg hne2, x_lengthOf hn, bd_some, a9, el, show (1 : Int32) + nI l = nI (1 + l) from nI_add 1 l, dV_eq] at h
    by_cases cl2 : left < 1 + l
    · rw [if_neg (show ¬ nI (1 + l) ≤ nI left from nI_ge cl2 (by omega))] at h
      have h9 := Option.some.inj h
      have e1 : (0 : Int32) = nI c := congrArg Prod.fst h9
      have e2 : X = X1 := congrArg Prod.snd h9
      exact Or.inr ⟨((nI_eq (a := 0) (b := c) (by decide) (by omega)).mp e1).symm, e2.symm, by omega⟩
    · rw [if_pos (show nI (1 + l) ≤ nI left from nI_le (by omega) (by omega)), x_textOf hn, bd_some] at h
      have i1 : isI20 (56 + n) = true := by
        unfold isI20
        simp
        omega
      have i2 : isI20 (116 + n) = true := by
        unfold isI20
        simp
        omega
      rw [if_pos i1, x_wordsOf hn, bd_some, if_pos i2, ← el, ← a9] at h
      obtain ⟨t20, tw, ⟨Xt, x1, x2, x3, x4⟩, -⟩ := c_take (q3 := 116 + n) h2 h3 h34 hS hn (Or.inr (by omega))
      rw [x1, bd_some] at h
      have h : (f_X2_keepEdition Xt (nI n) (nI (tkn Y n).1)).bind (fun X9 => b_X4_lookAtFile_101 X9 (nI n) (nI (1 + l))) = some (nI c, X1) := h
      obtain ⟨Xk, g1, g2⟩ := bd_inv h
      unfold f_X2_keepEdition at g1
      rw [if_neg (nI_pos (sm hn)), if_neg (nl60 hn), x_editionOf hn, bd_some, if_pos ok, cl, dX_eq, if_pos ok, dX_eq, if_pos ok, dX_eq] at g1
      have g1' := Option.some.inj g1
      have e39 : Xk 39 = upd (Xt 39) n (Xt 8 n) := by rw [← g1']; rfl
      have e40 : Xk 40 = upd (Xt 40) n (nI (tkn Y n).1) := by rw [← g1']; rfl
      have eo : ∀ q, q ≠ 39 → q ≠ 40 → q ≠ 42 → Xk q = Xt q := fun q a b c => by rw [← g1']; exact (pX_ne _ _ c).trans ((pX_ne _ _ b).trans (pX_ne _ _ a))
      obtain ⟨v, b1, b2, b3, b4, b5, b6⟩ := fin Xk _ ((eo 2 (by omega) (by omega) (by omega)).trans (x3 2 (by omega))) ((eo 3 (by omega) (by omega) (by omega)).trans (x3 3 (by omega))) g2
      have c1 : c = 1 + l := ((nI_eq (a := 1 + l) (b := c) (by omega) (by omega)).mp v).symm
      have o39 : X1 39 = upd (Xt 39) n (Xt 8 n) := (b6 39 (by omega) (by omega) (by omega) (by omega)).trans e39
      have o40 : X1 40 = upd (Xt 40) n (nI (tkn Y n).1) := (b6 40 (by omega) (by omega) (by omega) (by omega)).trans e40
      have oth : ∀ q, (q < 36 ∨ 40 < q) → q ≠ 42 → q ≠ 45 → q ≠ 46 → q ≠ 47 → X1 q = Xt q := fun q q1 q2 q3 q4 q5 => (b6 q (by omega) q3 q4 q5).trans (eo q (by omega) (by omega) q2)
      have f36 : ∀ q, q = 36 ∨ q = 37 ∨ q = 38 → Xk q = X q := fun q hq => (eo q (by omega) (by omega) (by omega)).trans (x3 q (by omega))
      have x8 : Xt 8 = X 8 := x3 8 (by omega)
      refine Or.inl ⟨hp, h5, hf, ?_, ⟨by rw [b2]; exact one0, ?_, ?_, fun _ => ?_⟩, b3, fun k hk => ⟨?_, ?_, ?_, ?_, ?_⟩, fun q q1 q2 q3 q4 q5 q6 => (oth q q1 q2 q3 q4 q5).trans (x3 q q6), Or.inr ⟨fr, by omega, by omega, ?_, fun j hj => ?_⟩⟩
      · rw [b1, eo 47 (by omega) (by omega) (by omega), x3 47 (by omega)]
      · rw [b3, oth 2 (by omega) (by omega) (by omega) (by omega) (by omega), x3 2 (by omega)]
      · rw [b4, oth 3 (by omega) (by omega) (by omega) (by omega) (by omega), x3 3 (by omega)]
      · rw [o39, u_at, if_pos rfl, oth 8 (by omega) (by omega) (by omega) (by omega) (by omega)]
      · rw [(b5 k hk).1, f36 36 (Or.inl rfl)]
      · rw [(b5 k hk).2.1, f36 37 (Or.inr (Or.inl rfl))]
      · rw [(b5 k hk).2.2, f36 38 (Or.inr (Or.inr rfl))]
      · rw [o39, u_at, if_neg hk, x3 39 (by omega)]
      · rw [o40, u_at, if_neg hk, x3 40 (by omega)]
      · have et : tkX X1 n = tkn Y n := (tkX_fr (by rw [oth 34 (by omega) (by omega) (by omega) (by omega) (by omega), x3 34 (by omega)]) (by rw [oth 9 (by omega) (by omega) (by omega) (by omega) (by omega), x3 9 (by omega)]) (by rw [oth (56 + n) (by omega) (by omega) (by omega) (by omega) (by omega), x3 (56 + n) (by omega)])).trans (tkX_eq h2 h3 h34 hn)
        rw [et, o40, u_at, if_pos rfl]
      · have et : tkX X1 n = tkn Y n := (tkX_fr (by rw [oth 34 (by omega) (by omega) (by omega) (by omega) (by omega), x3 34 (by omega)]) (by rw [oth 9 (by omega) (by omega) (by omega) (by omega) (by omega), x3 9 (by omega)]) (by rw [oth (56 + n) (by omega) (by omega) (by omega) (by omega) (by omega), x3 (56 + n) (by omega)])).trans (tkX_eq h2 h3 h34 hn)
        rw [et] at hj ⊢
        rw [oth (116 + n) (by omega) (by omega) (by omega) (by omega) (by omega)]
        exact x2 j hj

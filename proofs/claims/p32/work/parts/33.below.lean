/-! ===== there, folder, file: both sides; below, open to a person ===== -/
def bB (b : Bool) : Int32 := if b = true then 1 else 0
theorem bo_t {p : Prop} [Decidable p] (h : p) : bo p = 1 := if_pos h
theorem bo_f {p : Prop} [Decidable p] (h : ¬ p) : bo p = 0 := if_neg h
theorem one0 : ¬ (1 : Int32) = 0 := by decide
theorem nl60 {n : Nat} (h : n < 60) : ¬ (60 : Int32) ≤ nI n := nI_ge h (by decide)
theorem g60 : (60 : Int32) ≤ nI 60 := nI_le (Nat.le_refl 60) (by decide)
theorem nm1 {n : Nat} (h : n < 2 ^ 31) : ¬ nI n = -1 := fun e => by rw [n_ne1 h] at e; exact e
theorem nne {a b : Nat} (ha : a < 60) (hb : b < 60) (h : ¬ a = b) : ¬ nI a = nI b := fun e => h ((nI_eq (sm ha) (sm hb)).mp e)
theorem zl1 {A1 B : Type} (f : (A1 → Option B) → A1 → Option B) (n : Nat) (a : A1) : loop1 f (n + 1) a = f (loop1 f n) a := rfl
theorem zl2 {A1 A2 B : Type} (f : (A1 → A2 → Option B) → A1 → A2 → Option B) (n : Nat) (a : A1) (b : A2) : loop2 f (n + 1) a b = f (loop2 f n) a b := rfl
theorem zl3 {A1 A2 A3 B : Type} (f : (A1 → A2 → A3 → Option B) → A1 → A2 → A3 → Option B) (n : Nat) (a : A1) (b : A2) (c : A3) : loop3 f (n + 1) a b c = f (loop3 f n) a b c := rfl
theorem zl4 {A1 A2 A3 A4 B : Type} (f : (A1 → A2 → A3 → A4 → Option B) → A1 → A2 → A3 → A4 → Option B) (n : Nat) (a : A1) (b : A2) (c : A3) (d : A4) : loop4 f (n + 1) a b c d = f (loop4 f n) a b c d := rfl
theorem zl5 {A1 A2 A3 A4 A5 B : Type} (f : (A1 → A2 → A3 → A4 → A5 → Option B) → A1 → A2 → A3 → A4 → A5 → Option B) (n : Nat) (a : A1) (b : A2) (c : A3) (d : A4) (e : A5) : loop5 f (n + 1) a b c d e = f (loop5 f n) a b c d e := rfl
theorem bB_0 {b : Bool} : (bB b = 0) = (b = false) := by cases b <;> simp [bB]
theorem bB_ok (b : Bool) : okB (bB b) = true := by cases b <;> rfl
theorem y_isNode {Y : JX} {M n : Nat} (h : TY Y M) (hn : n < 60) : f_X11_isNode Y (nI n) = some (bo (Y 1 n ≠ 0)) := by
  unfold f_X11_isNode
  rw [y_inM h, bd_some]
  by_cases hp : ∃ k, k < M ∧ nI n = nI k
  · rw [bo_t hp, if_neg one0, if_pos (n_ok hn (by decide)), nI_clamp (sm hn)]
    by_cases h1 : Y 1 n = 0
    · rw [if_pos h1, bo_f (fun q => q h1)]
    · rw [if_neg h1, bo_t h1]
  · rw [bo_f hp, if_pos rfl, bo_f (fun q => hp ⟨n, h.2.2.1 n hn q, rfl⟩)]
theorem y_isNode_no {Y : JX} {M : Nat} {v : Int32} (h : TY Y M) (hv : ∀ n, n < 60 → v ≠ nI n) : f_X11_isNode Y v = some 0 := by
  unfold f_X11_isNode
  rw [y_inM h, bd_some, bo_f (by
    rintro ⟨k, h1, h2⟩
    exact hv k (Nat.lt_of_lt_of_le h1 h.1.2.1) h2), if_pos rfl]
theorem v_no {v : Int32} (h : v < 0 ∨ (60 : Int32) ≤ v) : ∀ n, n < 60 → v ≠ nI n := by
  rintro n hn rfl
  rcases h with h | h
  · exact nI_pos (sm hn) h
  · rw [lt60 hn] at h; exact h
theorem c_there {X Y : JX} {M : Nat} (hY : TY Y M) (hX : TX X Y) (v : Int32) : (∃ n, n < 60 ∧ n < M ∧ v = nI n ∧ Y 1 n ≠ 0 ∧ f_X9_isThere X v = some 1 ∧ f_X11_isNode Y v = some 1) ∨ ((∀ n, n < 60 → v = nI n → Y 1 n = 0) ∧ f_X9_isThere X v = some 0 ∧ f_X11_isNode Y v = some 0) := by
  rcases v_cases v with h | ⟨n, hn, rfl⟩ | h
  · exact Or.inr ⟨fun n hn e => absurd e (v_no (Or.inl h) n hn), x_isThere_no (Or.inl h), y_isNode_no hY (v_no (Or.inl h))⟩
  · rw [x_isThere hn, y_isNode hY hn, (hX.2 n hn).2.2.2.1]
    by_cases h1 : Y 1 n = 0
    · exact Or.inr ⟨fun k hk e => by rw [n_eq (sm hn) (sm hk)] at e; rw [← e]; exact h1, by simp [bo, h1], by simp [bo, h1]⟩
    · exact Or.inl ⟨n, hn, hY.2.2.1 n hn h1, rfl, h1, by simp [bo, h1], by simp [bo, h1]⟩
  · exact Or.inr ⟨fun n hn e => absurd e (v_no (Or.inr h) n hn), x_isThere_no (Or.inr h), y_isNode_no hY (v_no (Or.inr h))⟩
theorem c_folder {X Y : JX} {M : Nat} (hY : TY Y M) (hX : TX X Y) (v : Int32) : (∃ n, n < 60 ∧ n < M ∧ v = nI n ∧ Y 1 n ≠ 0 ∧ Y 2 n ≠ 0 ∧ f_X9_isFolder X v = some 1 ∧ f_X11_isFolderAt Y v = some 1) ∨ (f_X9_isFolder X v = some 0 ∧ f_X11_isFolderAt Y v = some 0) := by
  unfold f_X11_isFolderAt
  rcases v_cases v with h | ⟨n, hn, rfl⟩ | h
  · exact Or.inr ⟨x_isFolder_no (Or.inl h), by rw [y_isNode_no hY (v_no (Or.inl h))]; rfl⟩
  · rw [x_isFolder hn, y_isNode hY hn, (hX.2 n hn).2.2.2.1, (hX.2 n hn).2.2.1, bd_some]
    have ok := n_ok hn (show 60 < 2 ^ 31 by decide)
    have cl := nI_clamp (sm hn)
    by_cases h1 : Y 1 n = 0
    · exact Or.inr ⟨by simp [bo, h1], by simp [bo, h1]⟩
    · by_cases h2 : Y 2 n = 0
      · exact Or.inr ⟨by simp [bo, h2], by simp [bo, h1, h2, ok, cl]⟩
      · exact Or.inl ⟨n, hn, hY.2.2.1 n hn h1, rfl, h1, h2, by simp [bo, h1, h2], by simp [bo, h1, h2, ok, cl]⟩
  · exact Or.inr ⟨x_isFolder_no (Or.inr h), by rw [y_isNode_no hY (v_no (Or.inr h))]; rfl⟩
theorem c_file {X Y : JX} {M : Nat} (hY : TY Y M) (hX : TX X Y) (v : Int32) : (∃ n, n < 60 ∧ n < M ∧ v = nI n ∧ Y 1 n ≠ 0 ∧ Y 2 n = 0 ∧ f_X9_isFile X v = some 1 ∧ f_X11_isFileAt Y v = some 1) ∨ (f_X9_isFile X v = some 0 ∧ f_X11_isFileAt Y v = some 0) := by
  unfold f_X11_isFileAt
  rcases v_cases v with h | ⟨n, hn, rfl⟩ | h
  · exact Or.inr ⟨x_isFile_no (Or.inl h), by rw [y_isNode_no hY (v_no (Or.inl h))]; rfl⟩
  · rw [x_isFile hn, y_isNode hY hn, (hX.2 n hn).2.2.2.1, (hX.2 n hn).2.2.1, bd_some]
    have ok := n_ok hn (show 60 < 2 ^ 31 by decide)
    have cl := nI_clamp (sm hn)
    by_cases h1 : Y 1 n = 0
    · exact Or.inr ⟨by simp [bo, h1], by simp [bo, h1]⟩
    · by_cases h2 : Y 2 n = 0
      · exact Or.inl ⟨n, hn, hY.2.2.1 n hn h1, rfl, h1, h2, by simp [bo, h1, h2], by simp [bo, h1, h2, ok, cl]⟩
      · exact Or.inr ⟨by simp [bo, h2], by simp [bo, h1, h2, ok, cl]⟩
  · exact Or.inr ⟨x_isFile_no (Or.inr h), by rw [y_isNode_no hY (v_no (Or.inr h))]; rfl⟩
/-! below -/
theorem bel_go {pr : Nat → Option Nat} {f n m : Nat} (h : ¬ n = f) : bel pr f (m + 1) (some n) = bel pr f m (pr n) := by
  show (n == f || bel pr f m (pr n)) = _
  rw [beq_eq_false_iff_ne.mpr h, Bool.false_or]
def belo (pr : Nat → Option Nat) (n f : Nat) : Bool := bel pr f 60 (pr n)
theorem x_bel_loop {X : JX} {pr : Nat → Option Nat} {f : Nat} (hf : f < 60) (hX : ∀ n, n < 60 → X 2 n = enc (pr n)) (hp : ∀ n m, pr n = some m → m < 60) : ∀ m i F u, i + m = 60 → m + 1 ≤ F → (∀ n, u = some n → n < 60) → loop2 (lb_X9_isBelow_9 X (nI f)) F (enc u) (nI i) = some (bB (bel pr f m u)) := by
  intro m
  induction m with
  | zero =>
    intro i F u hi hF hu
    obtain ⟨F', rfl⟩ := Nat.exists_eq_add_of_le' hF
    have : i = 60 := by omega
    subst this
    rw [zl2]
    generalize hR : loop2 _ F' = R
    unfold lb_X9_isBelow_9
    rw [if_pos g60]
    rfl
  | succ m ih =>
    intro i F u hi hF hu
    obtain ⟨F', rfl⟩ := Nat.exists_eq_add_of_le' (show 1 ≤ F by omega)
    rw [zl2]
    generalize hR : loop2 _ F' = R
    unfold lb_X9_isBelow_9
    rw [if_neg (nl60 (show i < 60 by omega))]
    cases u with
    | none => rw [if_pos (show enc none = -1 from rfl)]; rfl
    | some n =>
      have hn := hu n rfl
      rw [show enc (some n) = nI n from rfl, if_neg (nm1 (sm hn))]
      by_cases e : n = f
      · rw [if_neg (fun q => q (by rw [e]))]
        simp [bel, e, bB]
      · rw [if_pos (nne hn hf e), x_parentOf hn, bd_some, hX n hn, dV_eq, n_add1]
        have h2 := ih (i + 1) F' (pr n) (by omega) (by omega) (fun k hk => hp n k hk)
        rw [hR] at h2
        rw [h2, bel_go e]
theorem x_isBelow {X : JX} {pr : Nat → Option Nat} {f n : Nat} (hf : f < 60) (hn : n < 60) (hX : ∀ n, n < 60 → X 2 n = enc (pr n)) (hp : ∀ n m, pr n = some m → m < 60) : f_X9_isBelow X (nI n) (nI f) = some (bB (belo pr n f)) := by
  unfold f_X9_isBelow
  rw [x_parentOf hn, bd_some, hX n hn]
  exact x_bel_loop hf hX hp 60 0 1000 (pr n) rfl (by decide) (fun k hk => hp n k hk)
theorem x_isBelow_m1 {X : JX} {v : Int32} : f_X9_isBelow X (-1) v = some 0 := by
  unfold f_X9_isBelow
  rw [x_parentOf_m1, bd_some]
  unfold l_X9_isBelow_9
  rw [show (1000 : Nat) = 999 + 1 from rfl, zl2]
  generalize loop2 _ 999 = R
  simp [lb_X9_isBelow_9]
theorem y_bel_loop {Y : JX} {pr : Nat → Option Nat} {f : Nat} {st : Nat → Prop} (hf : f < 60) (hs : ∀ n, st n → n < 60 ∧ Y 3 n = enc (pr n) ∧ ∀ m, pr n = some m → st m) : ∀ K F u (acc : Bool), it pr K u = none → K + 1 ≤ F → (∀ n, u = some n → st n) → loop2 (lb_X11_isBelow_10 Y (nI f)) F (bB acc) (enc u) = some (bB (acc || bel pr f K u)) := by
  intro K
  induction K with
  | zero =>
    intro F u acc hK hF hu
    obtain ⟨F', rfl⟩ := Nat.exists_eq_add_of_le' hF
    have : u = none := hK
    subst this
    rw [zl2]
    generalize hR : loop2 _ F' = R
    unfold lb_X11_isBelow_10
    rw [if_pos (show enc none = -1 from rfl), if_pos (bB_ok acc)]
    simp [bel]
  | succ K ih =>
    intro F u acc hK hF hu
    obtain ⟨F', rfl⟩ := Nat.exists_eq_add_of_le' (show 1 ≤ F by omega)
    rw [zl2]
    generalize hR : loop2 _ F' = R
    unfold lb_X11_isBelow_10
    cases u with
    | none => rw [if_pos (show enc none = -1 from rfl), if_pos (bB_ok acc)]; simp [bel]
    | some n =>
      obtain ⟨hn, h3, hm⟩ := hs n (hu n rfl)
      have go : ∀ a : Bool, b_X11_isBelow_31 R Y (nI f) (nI n) (bB a) = some (bB (a || bel pr f K (pr n))) := by
        intro a
        unfold b_X11_isBelow_31
        rw [if_pos (n_ok hn (by decide)), nI_clamp (sm hn), h3, dV_eq, ← hR]
        exact ih F' (pr n) a hK (by omega) hm
      rw [show enc (some n) = nI n from rfl, if_neg (nm1 (sm hn))]
      cases acc with
      | true => rw [if_pos (show ¬ bB true = 0 by decide)]; exact go true
      | false =>
        rw [if_neg (show ¬ ¬ bB false = 0 by decide)]
        by_cases e : n = f
        · rw [if_neg (fun q => q (by rw [e]))]
          have g := go true
          rw [show bB true = 1 from rfl] at g
          rw [g]
          simp [bel, e]
        · rw [if_pos (nne hn hf e)]
          have g := go false
          rw [show bB false = 0 from rfl] at g
          rw [g, bel_go e]
theorem TY.st {Y : JX} {M : Nat} (h : TY Y M) : ∀ n, (n < 60 ∧ Y 1 n ≠ 0) → n < 60 ∧ Y 3 n = enc (prY Y n) ∧ ∀ m, prY Y n = some m → (m < 60 ∧ Y 1 m ≠ 0) := by
  rintro n ⟨hn, h1⟩
  obtain ⟨-, ⟨t0, -, p0⟩, -, hp, -⟩ := h
  refine ⟨hn, ?_⟩
  unfold prY
  rw [if_pos ⟨hn, h1⟩]
  by_cases h0 : n = 0
  · subst h0
    rw [p0, dec_m1]
    exact ⟨rfl, fun m e => by cases e⟩
  · obtain ⟨m, hm, e, e1, -⟩ := hp n (by omega) hn h1
    rw [e, dec_nI (sm hm)]
    exact ⟨rfl, fun k hk => by cases hk; exact ⟨hm, e1⟩⟩
theorem TY.lt {Y : JX} {M : Nat} (h : TY Y M) : ∀ n m, prY Y n = some m → m < 60 := fun n m e => (h.2.2.2.2.1 n m e).2
theorem y_isBelow {Y : JX} {M n f : Nat} (h : TY Y M) (hn : n < 60) (h1 : Y 1 n ≠ 0) (hf : f < 60) : f_X11_isBelow Y (nI n) (nI f) = some (bB (belo (prY Y) n f)) := by
  unfold f_X11_isBelow
  obtain ⟨-, h3, hm⟩ := h.st n ⟨hn, h1⟩
  rw [if_pos (n_ok hn (by decide)), nI_clamp (sm hn), h3, dV_eq]
  have h2 := y_bel_loop (st := fun n => n < 60 ∧ Y 1 n ≠ 0) hf h.st 60 1000 (prY Y n) false (it_60 h.2.2.2.2 (fun k hk => h.lt n k hk)) (by decide) hm
  rw [Bool.false_or] at h2
  exact h2
theorem belo_On {pr : Nat → Option Nat} (h : Tr pr) (n f : Nat) : belo pr n f = true ↔ On pr (pr n) f := bel_On h (fun k hk => (h.1 n k hk).2) f

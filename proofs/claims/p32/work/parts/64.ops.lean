/-! ===== call: make ===== -/
theorem nar_nm : ∀ w, w < 123 → vp_nar .char (nI w) = nI w := by decide
theorem nm_ok {c : Int32} (h : ¬ c < 97 ∧ ¬ 122 < c) : vp_nar .char c = c := by
  obtain ⟨w, hw, rfl⟩ := nI_of2 (x := c) (n := 122) rfl (fun q => h.1 (Int32.lt_trans q (by decide))) (Int32.not_lt.mp h.2)
  exact nar_nm w (by omega)
theorem x_isName {X : JX} {c : Int32} : f_X10_isName X c = some (bo (¬ c < 97 ∧ ¬ 122 < c)) := by
  unfold f_X10_isName
  by_cases h1 : c < 97 <;> by_cases h2 : 122 < c <;> simp [h1, h2, bo]
/-- what is on the way up from what is there is there -/
theorem TY.on {Y : JX} {M : Nat} (hT : TY Y M) {g : Nat} : ∀ j u, (∀ n, u = some n → n < 60 ∧ Y 1 n ≠ 0) → it (prY Y) j u = some g → g < 60 ∧ Y 1 g ≠ 0 := by
  intro j
  induction j with
  | zero => intro u hu e; exact hu g e
  | succ j ih =>
    intro u hu e
    cases u with
    | none => rw [it_none] at e; cases e
    | some n => exact ih (prY Y n) (fun m hm => (hT.st n (hu n rfl)).2.2 m hm) e
theorem TY.On {Y : JX} {M : Nat} (hT : TY Y M) {u : Option Nat} {g : Nat} (hu : ∀ n, u = some n → n < 60 ∧ Y 1 n ≠ 0) (h : On (prY Y) u g) : g < 60 ∧ Y 1 g ≠ 0 := by
  obtain ⟨j, e⟩ := h
  exact hT.on j u hu e
theorem fst_anyl {p q : Nat → Bool} {M : Nat} (hM : M ≤ 60) (hp : ∀ n, n < 60 → p n = true → n < M) (hq : ∀ n, n < M → q n = p n) : fst p 60 0 = none ↔ anyl q M 0 = false := by
  constructor
  · intro h
    cases e : anyl q M 0 with
    | false => rfl
    | true =>
      obtain ⟨r, -, h2, h3⟩ := (anyl_iff q M 0).mp e
      have := fst_none 60 0 h r (Nat.zero_le _) (by omega)
      rw [hq r (by omega), this] at h3
      cases h3
  · intro h
    cases e : fst p 60 0 with
    | none => rfl
    | some r =>
      obtain ⟨-, h2, h3, -⟩ := fst_some 60 0 e
      have hr := hp r (by omega) h3
      have : anyl q M 0 = true := (anyl_iff q M 0).mpr ⟨r, Nat.zero_le _, by omega, by rw [hq r hr]; exact h3⟩
      rw [h] at this
      cases this
abbrev mkX (X : JX) (M f : Nat) (c b : Int32) : JX := pX (pX (pX (pX (pX (pX (pX X 2 (upd (X 2) M (nI f))) 3 (upd (X 3) M c)) 4 (upd (X 4) M b)) 5 (upd (X 5) M 1)) 7 (upd (X 7) M 15)) 8 (upd (X 8) M (if b = 0 then 1 else 0))) 1 (upd (X 1) 9 (nI (M + 1)))
abbrev mkY (Y : JX) (M f : Nat) (c b : Int32) : JX := pX (pX (pX (pX (pX (pX (pX (thr Y 0) 1 (upd (Y 1) M 1)) 2 (upd (Y 2) M b)) 3 (upd (Y 3) M (nI f))) 4 (upd (Y 4) M c)) 5 (upd (Y 5) M 1)) 9 (upd (Y 9) M 15)) 0 (upd ((thr Y 0) 0) 2 (nI (M + 1)))
theorem x_mk {X : JX} {M f : Nat} {c b : Int32} (h9 : X 1 9 = nI M) (hM : M < 60) (hc : vp_nar .char c = c) (hb : vp_nar .boolean b = b) : f_X9_add X (nI f) c b = some (nI M, mkX X M f c b) := by
  have ok := n_ok60 hM
  have cl := nI_clamp (sm hM)
  unfold f_X9_add b_X9_add_80
  rw [h9, if_neg (nI_pos (sm hM)), if_pos (l60 hM), dV_eq, if_pos ok, cl, dX_eq, if_pos ok, dX_eq, if_pos ok, dX_eq, if_pos ok, dX_eq, if_pos ok, dX_eq, if_pos ok, if_pos ok, hc, hb]
  by_cases q : b = 0
  · rw [if_pos q, dX_eq, dX_eq]
    show some (nI M, pX (pX (pX (pX (pX (pX (pX X 2 (upd (X 2) M (nI f))) 3 (upd (X 3) M c)) 4 (upd (X 4) M b)) 5 (upd (X 5) M 1)) 7 (upd (X 7) M 15)) 8 (upd (X 8) M 1)) 1 (upd (X 1) 9 (X 1 9 + 1))) = _
    rw [h9, n_add1]
    show _ = some (nI M, pX (pX (pX (pX (pX (pX (pX X 2 (upd (X 2) M (nI f))) 3 (upd (X 3) M c)) 4 (upd (X 4) M b)) 5 (upd (X 5) M 1)) 7 (upd (X 7) M 15)) 8 (upd (X 8) M (if b = 0 then 1 else 0))) 1 (upd (X 1) 9 (nI (M + 1))))
    rw [if_pos q]
  · rw [if_neg q, dX_eq, dX_eq]
    show some (nI M, pX (pX (pX (pX (pX (pX (pX X 2 (upd (X 2) M (nI f))) 3 (upd (X 3) M c)) 4 (upd (X 4) M b)) 5 (upd (X 5) M 1)) 7 (upd (X 7) M 15)) 8 (upd (X 8) M 0)) 1 (upd (X 1) 9 (X 1 9 + 1))) = _
    rw [h9, n_add1]
    show _ = some (nI M, pX (pX (pX (pX (pX (pX (pX X 2 (upd (X 2) M (nI f))) 3 (upd (X 3) M c)) 4 (upd (X 4) M b)) 5 (upd (X 5) M 1)) 7 (upd (X 7) M 15)) 8 (upd (X 8) M (if b = 0 then 1 else 0))) 1 (upd (X 1) 9 (nI (M + 1))))
    rw [if_neg q]
theorem mk_pr {Y : JX} {M f : Nat} {c b : Int32} (hM : M < 60) (hf : f < 60) : prY (mkY Y M f c b) = setP (prY Y) M (some f) := by
  funext n
  show (if n < 60 ∧ upd (Y 1) M 1 n ≠ 0 then dec (upd (Y 3) M (nI f) n) else none) = if n = M then some f else prY Y n
  rw [u_at, u_at]
  by_cases q : n = M
  · rw [if_pos q, if_pos q, if_pos q, if_pos ⟨by omega, by decide⟩, dec_nI (sm hf)]
  · rw [if_neg q, if_neg q, if_neg q]
    rfl
theorem mk_rel {i M R f : Nat} {X Y : JX} {c b : Int32} (h1 : TY Y M) (h2 : TX X Y) (h3 : TV Y i) (h4 : RY Y R) (hM : M < 60) (hf : f < 60) (ft : Y 1 f ≠ 0) (ff : Y 2 f ≠ 0) (hc : vp_nar .char c = c) (hu : ∀ n, n < 60 → isIn Y (nI f) c n = false) : TY (mkY Y M f c b) (M + 1) ∧ TX (mkX X M f c b) (mkY Y M f c b) ∧ TV (mkY Y M f c b) i ∧ RY (mkY Y M f c b) R := by
  have hpr := mk_pr (Y := Y) (c := c) (b := b) hM hf
  have hMn : Y 1 M = 0 := by
    by_cases q : Y 1 M = 0
    · exact q
    · exact absurd (h1.2.2.1 M hM q) (by omega)
  have hno : ∀ u, (∀ n, u = some n → n < 60 ∧ Y 1 n ≠ 0) → ¬ On (prY Y) u M := fun u hu z => (h1.On hu z).2 hMn
  have hM0 : 0 ≠ M := by have := h1.1.1; omega
  have y1 : ∀ n, (mkY Y M f c b) 1 n = if n = M then 1 else Y 1 n := fun n => rfl
  have y2 : ∀ n, (mkY Y M f c b) 2 n = if n = M then b else Y 2 n := fun n => rfl
  have y3 : ∀ n, (mkY Y M f c b) 3 n = if n = M then nI f else Y 3 n := fun n => rfl
  refine ⟨⟨⟨by omega, by omega, rfl⟩, ⟨?_, ?_, ?_⟩, fun n hn hn1 => ?_, fun n h0 hn hn1 => ?_, ?_⟩, ⟨rfl, fun n hn => ?_⟩, fun n hn => ?_, ⟨h4.1, fun r hr => ?_, fun r s hr hs hrs => ?_⟩⟩
  · rw [y1, if_neg hM0]; exact h1.2.1.1
  · rw [y2, if_neg hM0]; exact h1.2.1.2.1
  · rw [y3, if_neg hM0]; exact h1.2.1.2.2
  · rw [y1] at hn1
    by_cases q : n = M
    · omega
    · rw [if_neg q] at hn1
      have := h1.2.2.1 n hn hn1
      omega
  · rw [y1] at hn1
    by_cases q : n = M
    · refine ⟨f, hf, by rw [y3, if_pos q], ?_, ?_⟩
      · rw [y1, if_neg (fun z => ft (by rw [z]; exact hMn))]; exact ft
      · rw [y2, if_neg (fun z => ft (by rw [z]; exact hMn))]; exact ff
    · rw [if_neg q] at hn1
      obtain ⟨m, hm, e, e1, e2⟩ := h1.2.2.2.1 n h0 hn hn1
      have hmM : m ≠ M := fun z => e1 (by rw [z]; exact hMn)
      exact ⟨m, hm, by rw [y3, if_neg q]; exact e, by rw [y1, if_neg hmM]; exact e1, by rw [y2, if_neg hmM]; exact e2⟩
  · rw [hpr]
    exact setP_Tr h1.2.2.2.2 hM (fun m e => by cases e; exact hf) (hno _ (fun n e => by cases e; exact ⟨hf, ft⟩))
  · obtain ⟨a2, a3, a4, a5, a6, a7, a9, a8, at', ac⟩ := h2.2 n hn
    rw [hpr]
    have tx : ∀ j, j < 20 → (mkX X M f c b) (56 + n) j = Y 7 (20 * n + j) := fun j hj => by
      show (pX (pX (pX (pX (pX (pX (pX X 2 _) 3 _) 4 _) 5 _) 7 _) 8 _) 1 _) (56 + n) j = _
      rw [p_at, if_neg (by omega), p_at, if_neg (by omega), p_at, if_neg (by omega), p_at, if_neg (by omega), p_at, if_neg (by omega), p_at, if_neg (by omega), p_at, if_neg (by omega)]
      exact at' j hj
    refine ⟨?_, ?_, ?_, ?_, a6, ?_, a9, fun z => ?_, tx, ?_⟩
    · show (if n = M then nI f else X 2 n) = enc (if n = M then some f else prY Y n)
      by_cases q : n = M
      · rw [if_pos q, if_pos q]; rfl
      · rw [if_neg q, if_neg q]; exact a2
    · show (if n = M then c else X 3 n) = if n = M then c else Y 4 n
      rw [a3]
    · show (if n = M then b else X 4 n) = if n = M then b else Y 2 n
      rw [a4]
    · show (if n = M then 1 else X 5 n) = if n = M then 1 else Y 1 n
      rw [a5]
    · show (if n = M then 15 else X 7 n) = if n = M then 15 else Y 9 n
      rw [a7]
    · rw [y2] at z
      show (if n = M then (if b = 0 then 1 else 0) else X 8 n) = if n = M then 1 else Y 5 n
      by_cases q : n = M
      · rw [if_pos q] at z
        rw [if_pos q, if_pos q, if_pos z]
      · rw [if_neg q] at z
        rw [if_neg q, if_neg q, a8 z]
    · show vp_nar .char (if n = M then c else Y 4 n) = if n = M then c else Y 4 n
      by_cases q : n = M
      · rw [if_pos q]; exact hc
      · rw [if_neg q]; exact ac
  · obtain ⟨⟨e, b1, b2⟩, b3, b4⟩ := h3 n hn
    refine ⟨?_, ⟨b3.1, ?_, fun m hm z1 z2 z3 z4 => ?_⟩, b4⟩
    · show ∃ e, e ≤ 1 + i ∧ (if n = M then 1 else Y 5 n) = nI e
      by_cases q : n = M
      · rw [if_pos q]; exact ⟨1, by omega, rfl⟩
      · rw [if_neg q]; exact ⟨e, b1, b2⟩
    · show (if n = M then 1 else Y 1 n) = 0 ∨ (if n = M then 1 else Y 1 n) = 1
      by_cases q : n = M
      · rw [if_pos q]; exact Or.inr rfl
      · rw [if_neg q]; exact b3.2.1
    · have w1 : (if n = M then 1 else Y 1 n) ≠ 0 := z1
      have w2 : (if m = M then 1 else Y 1 m) ≠ 0 := z2
      have w3 : (if n = M then nI f else Y 3 n) = if m = M then nI f else Y 3 m := z3
      have w4 : (if n = M then c else Y 4 n) = if m = M then c else Y 4 m := z4
      by_cases q : n = M
      · by_cases q2 : m = M
        · rw [q, q2]
        · rw [if_pos q, if_neg q2] at w3 w4
          rw [if_neg q2] at w2
          have := hu m hm
          rw [show isIn Y (nI f) c m = true from decide_eq_true ⟨w2, w3.symm, w4.symm⟩] at this
          cases this
      · rw [if_neg q] at w1 w3 w4
        by_cases q2 : m = M
        · rw [if_pos q2] at w3 w4
          have := hu n hn
          rw [show isIn Y (nI f) c n = true from decide_eq_true ⟨w1, w3, w4⟩] at this
          cases this
        · rw [if_neg q2] at w2 w3 w4
          exact b3.2.2 m hm w1 w2 w3 w4
  · obtain ⟨a, b9, c9, d⟩ := h4.2.1 r hr
    have hrM : rf Y r ≠ M := fun z => c9 (by rw [z]; exact hMn)
    refine ⟨a, b9, ?_, ?_⟩
    · show (if rf Y r = M then 1 else Y 1 (rf Y r)) ≠ 0
      rw [if_neg hrM]; exact c9
    · show (if rf Y r = M then b else Y 2 (rf Y r)) ≠ 0
      rw [if_neg hrM]; exact d
  · obtain ⟨-, -, c9, -⟩ := h4.2.1 r hr
    have hrM : rf Y r ≠ M := fun z => c9 (by rw [z]; exact hMn)
    refine ⟨(h4.2.2 r s hr hs hrs).1, ?_⟩
    rw [hpr]
    show ¬ On (setP (prY Y) M (some f)) (setP (prY Y) M (some f) (rf Y r)) (rf Y s)
    rw [show setP (prY Y) M (some f) (rf Y r) = prY Y (rf Y r) from if_neg hrM]
    rw [setP_On_off (hno _ (fun n e => (h1.st (rf Y r) ⟨(h4.2.1 r hr).1, c9⟩).2.2 n e))]
    exact (h4.2.2 r s hr hs hrs).2
theorem op_0 {i : Nat} {X Y : JX} (h : Rel i X Y) : OpSim (Rel (i + 5)) X Y 0 := by
  intro v x2 x3
  generalize hc0 : c16 x2 = c
  have hb : vp_nar .boolean (bZ x3) = bZ x3 := nar_bZ x3
  generalize bZ x3 = b at hb
  have h0 := fun s => (h.mono (show i ≤ i + 5 by omega)).thr (s := s)
  have hm := h.mono (show i ≤ i + 5 by omega)
  obtain ⟨M, R, A, P, S, ⟨h1, h2, h3⟩, ⟨h4, h5, h6⟩, ⟨h7, h8⟩, h910, hI, h14, h15⟩ := hm
  have hR := h4.1.1
  have hM6 := h1.1.2.1
  have bad : ∀ k : Int32, ¬ k ≤ 0 → b_X11_make_54 Y v c b k = some (0, thr Y k) := by
    intro k hk
    unfold b_X11_make_54
    rw [dX_eq, if_neg (show ¬ (thr Y k) 0 0 ≤ 0 from hk)]
  rcases c_folder h1 h2 v with ⟨f, hf, -, rfl, ft, ff, e1, e2⟩ | ⟨e1, e2⟩
  · by_cases hn : ¬ c < 97 ∧ ¬ 122 < c
    · have hp : ∀ n, n < 60 → isIn Y (nI f) c n = true → n < M := fun n hn6 z => by
        have : Y 1 n ≠ 0 := (of_decide_eq_true z).1
        exact h1.2.2.1 n hn6 this
      have hq : ∀ n, n < M → (fun n => decide (nI n ≠ -1) && isIn Y (nI f) c n) n = isIn Y (nI f) c n := fun n hn => by
        show (decide (nI n ≠ -1) && isIn Y (nI f) c n) = _
        rw [decide_eq_true (nm1 (show n < 2 ^ 31 by omega)), Bool.true_and]
      have hfa := fst_anyl hM6 hp hq
      have xf := x_findIn (c := c) h1 h2 hf
      have yt := y_taken (Y := Y) (f := nI f) (c := c) (b := -1) h1
      have xn : f_X10_isName X c = some 1 := by rw [x_isName, bo_t hn]
      have yn : f_X11_in Y c 97 122 = some 1 := by rw [y_in, bo_t hn]
      cases ef : fst (isIn Y (nI f) c) 60 0 with
      | some m =>
        obtain ⟨-, hm6, -⟩ := fst_some 60 0 ef
        have ea : anyl (fun n => decide (nI n ≠ -1) && isIn Y (nI f) c n) M 0 = true := by
          cases z : anyl (fun n => decide (nI n ≠ -1) && isIn Y (nI f) c n) M 0 with
          | true => rfl
          | false => rw [hfa.mpr z] at ef; cases ef
        refine ⟨some 3, 0, X, 0, thr Y 3, ?_, ?_, rfl, (fun q => by cases q), h0 3⟩
        · unfold f_X10_make b_X10_make_61
          rw [e1, bd_some, if_pos one0, xn, bd_some, if_pos one0, xf, bd_some, ef, show enc (some m) = nI m from rfl, if_pos (nm1 (show m < 2 ^ 31 by omega))]
        · unfold f_X11_make
          rw [e2, bd_some, if_pos one0, yn, bd_some, if_pos one0, yt, bd_some, ea, if_pos (show ¬ bB true = 0 by decide), bad 3 (by decide)]
      | none =>
        have ea := hfa.mp ef
        by_cases hM : M < 60
        · have hcc := nm_ok hn
          let X1 := mkX X M f c b
          let Y1 := mkY Y M f c b
          obtain ⟨t1, t2, t3, t4⟩ := mk_rel (c := c) (b := b) h1 h2 h3 h4 hM hf ft ff hcc (fun n hn6 => fst_none 60 0 ef n (Nat.zero_le _) (by omega))
          have fx : ∀ q, q ≠ 1 → q ≠ 2 → q ≠ 3 → q ≠ 4 → q ≠ 5 → q ≠ 7 → q ≠ 8 → X1 q = X q := fun q a1 a2 a3 a4 a5 a7 a8 => (if_neg a1).trans ((if_neg a8).trans ((if_neg a7).trans ((if_neg a5).trans ((if_neg a4).trans ((if_neg a3).trans (if_neg a2))))))
          have fy : ∀ q, q ≠ 0 → q ≠ 1 → q ≠ 2 → q ≠ 3 → q ≠ 4 → q ≠ 5 → q ≠ 9 → Y1 q = Y q := fun q a0 a1 a2 a3 a4 a5 a9 => (if_neg a0).trans ((if_neg a9).trans ((if_neg a5).trans ((if_neg a4).trans ((if_neg a3).trans ((if_neg a2).trans ((if_neg a1).trans (if_neg a0)))))))
          have r1 : RX X1 Y1 R := h5.fr hR (fun q _ _ => fx q (by omega) (by omega) (by omega) (by omega) (by omega) (by omega) (by omega)) (fy 10 (by omega) (by omega) (by omega) (by omega) (by omega) (by omega) (by omega))
          have q1 : QX X1 Y1 R := h6.fr hR h5.1 (fun q _ _ => fx q (by omega) (by omega) (by omega) (by omega) (by omega) (by omega) (by omega)) (fun q _ _ => fy q (by omega) (by omega) (by omega) (by omega) (by omega) (by omega) (by omega))
          have e1' : EX X1 Y1 := h7.fr (fun q _ _ => fx q (by omega) (by omega) (by omega) (by omega) (by omega) (by omega) (by omega)) (fun q _ _ => fx q (by omega) (by omega) (by omega) (by omega) (by omega) (by omega) (by omega)) (fun q _ _ => fy q (by omega) (by omega) (by omega) (by omega) (by omega) (by omega) (by omega)) rfl
          have ey1 : EY Y1 (M + 1) := by
            intro n hn6
            obtain ⟨a9, b9, c9⟩ := h8 n hn6
            refine ⟨fun z => ⟨by have := (a9 z).1; omega, (a9 z).2⟩, b9, fun z => ?_⟩
            show Y 22 n = 0
            by_cases q : n = M
            · exact c9 (Or.inl (by omega))
            · refine c9 (z.imp (fun w => by omega) (fun w => ?_))
              have : (if n = M then b else Y 2 n) ≠ 0 := w
              rw [if_neg q] at this
              exact this
          have iy1 : IY Y1 P S := by
            refine ⟨hI.1.1, fun k hk => ⟨(hI.1.2.1 k hk).1, ?_, (hI.1.2.1 k hk).2.2⟩, hI.1.2.2⟩
            obtain ⟨n, hn6, en, nM, n2⟩ := (hI.1.2.1 k hk).2.1
            rw [h1.1.2.2] at nM
            have hnM := (nI_ltI (sm hn6) (by omega)).mp nM
            refine ⟨n, hn6, en, nI_lt (by omega) (by omega), ?_⟩
            show (if n = M then b else Y 2 n) = 0
            rw [if_neg (by omega)]
            exact n2
          have rr : RelR (i + 5) X1 Y1 R := ⟨M + 1, A, P, S, ⟨t1, t2, t3⟩, t4, ⟨e1', ey1⟩, h910, ⟨iy1, hI.2⟩, h14, h15⟩
          obtain ⟨X2, Y2, xx, yy, q2, r2, ex1, ex2, ey⟩ := c_above (v := 0) t1 t2 t4 r1 q1 (Or.inl rfl) hM
          have ho := y_over t4 t1 hM
          have hcm := yy _ ho
          have ok := n_ok60 hM
          have cl := nI_clamp (sm hM)
          refine ⟨none, nI M, X2, nI M, Y2, ?_, ?_, ?_, fun _ => rfl, rr.queue r2 q2 (ex1.sub (by omega) (by omega)) ex2 ey⟩
          · unfold f_X10_make f_X9_isFull
            rw [e1, bd_some, if_pos one0, xn, bd_some, if_pos one0, xf, bd_some, ef, if_neg (fun q => q rfl), h2.1, h1.1.2.2, if_pos (l60 hM), bd_some, if_pos rfl, x_mk (h2.1.trans h1.1.2.2) hM hcc hb, bd_some]
            show ((f_X8_tellAbove X1 (nI M) (0 + 1)).bind fun X6 => some (none, nI M, X6)) = _
            rw [xx, bd_some]
          · unfold f_X11_make b_X11_make_54
            rw [e2, bd_some, if_pos one0, yn, bd_some, if_pos one0, yt, bd_some, ea, if_neg (show ¬ ¬ bB false = 0 by decide), h1.1.2.2, if_pos (show ¬ nI M = 60 from fun z => by have := (nI_eq (a := M) (b := 60) (by omega) (by decide)).mp z; omega), dX_eq, if_pos (show (thr Y 0) 0 0 ≤ 0 from Int32.le_refl 0), dV_eq, show (pX Y 0 (upd (Y 0) 0 0)) 0 2 = nI M from h1.1.2.2, if_pos ok, cl, dX_eq, if_pos ok, dX_eq, if_pos ok, dX_eq, if_pos ok, dX_eq, if_pos ok, dX_eq, if_pos ok, dX_eq, hb, hcc]
            show nX (pX (pX (pX (pX (pX (pX (pX (thr Y 0) 1 (upd (Y 1) M 1)) 2 (upd (Y 2) M b)) 3 (upd (Y 3) M (nI f))) 4 (upd (Y 4) M c)) 5 (upd (Y 5) M 1)) 9 (upd (Y 9) M 15)) 0 (upd ((thr Y 0) 0) 2 (Y 0 2 + 1))) _ = _
            rw [h1.1.2.2, n_add1, dX_eq]
            show ((f_X11_over Y1 (nI M)).bind fun t14 => (f_X11_comes Y1 t14 0 (nI M)).bind fun X15 => some (nI M, X15)) = _
            rw [ho, bd_some, hcm, bd_some]
          · rw [ey 0 (by omega) (by omega) (by omega) (by omega)]
            rfl
        · have hM' : M = 60 := by omega
          refine ⟨some 3, 0, X, 0, thr Y 3, ?_, ?_, rfl, (fun q => by cases q), h0 3⟩
          · unfold f_X10_make b_X10_make_61 f_X9_isFull
            rw [e1, bd_some, if_pos one0, xn, bd_some, if_pos one0, xf, bd_some, ef, if_neg (fun q => q rfl), h2.1, h1.1.2.2, hM', if_neg (by decide), bd_some, if_neg one0]
          · unfold f_X11_make
            rw [e2, bd_some, if_pos one0, yn, bd_some, if_pos one0, yt, bd_some, ea, if_neg (show ¬ ¬ bB false = 0 by decide), h1.1.2.2, hM', if_neg (by decide), bad 3 (by decide)]
    · refine ⟨some 2, 0, X, 0, thr Y 2, ?_, ?_, rfl, (fun q => by cases q), h0 2⟩
      · unfold f_X10_make
        rw [e1, bd_some, if_pos one0, x_isName, bo_f hn, bd_some, if_neg (fun q => q rfl)]
      · unfold f_X11_make
        rw [e2, bd_some, if_pos one0, y_in, bo_f hn, bd_some, if_neg (fun q => q rfl), bad 2 (by decide)]
  · refine ⟨some 1, 0, X, 0, thr Y 1, ?_, ?_, rfl, (fun q => by cases q), h0 1⟩
    · unfold f_X10_make
      rw [e1, bd_some, if_neg (fun q => q rfl)]
    · unfold f_X11_make f_X11_fails
      rw [e2, bd_some, if_neg (fun q => q rfl), dX_eq]
      rfl

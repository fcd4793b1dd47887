/-! ===== call: move ===== -/
abbrev mvX (X : JX) (n f : Nat) (c : Int32) : JX := pX (pX X 2 (upd (X 2) n (nI f))) 3 (upd (X 3) n c)
abbrev mvY (Y : JX) (n f : Nat) (c : Int32) : JX := pX (pX (thr Y 0) 3 (upd (Y 3) n (nI f))) 4 (upd (Y 4) n c)
theorem x_put {X : JX} {n f : Nat} {c : Int32} (hn : n < 60) (h5 : ¬ X 5 n = 0) (hc : vp_nar .char c = c) : f_X9_put X (nI n) (nI f) c = some (mvX X n f c) := by
  unfold f_X9_put
  rw [x_isThere hn, bo_t h5, bd_some, if_neg one0, if_pos (n_ok60 hn), nI_clamp (sm hn), dX_eq, if_pos (n_ok60 hn), dX_eq, hc]
  rfl
theorem mv_pr {Y : JX} {n f : Nat} {c : Int32} (hn : n < 60) (h1 : Y 1 n ≠ 0) (hf : f < 60) : prY (mvY Y n f c) = setP (prY Y) n (some f) := by
  funext k
  show (if k < 60 ∧ Y 1 k ≠ 0 then dec (upd (Y 3) n (nI f) k) else none) = if k = n then some f else prY Y k
  rw [u_at]
  by_cases q : k = n
  · rw [if_pos q, if_pos q, if_pos ⟨by omega, by rw [q]; exact h1⟩, dec_nI (sm hf)]
  · rw [if_neg q, if_neg q]
    rfl
theorem mv_rel {i M R n f : Nat} {X Y : JX} {c : Int32} (h1 : TY Y M) (h2 : TX X Y) (h3 : TV Y i) (h4 : RY Y R) (hn : n < 60) (n0 : n ≠ 0) (nt : Y 1 n ≠ 0) (hf : f < 60) (ft : Y 1 f ≠ 0) (ff : Y 2 f ≠ 0) (hin : ¬ On (prY Y) (some f) n) (hnest : hr Y R n = true → ∀ r, r < R → ¬ On (prY Y) (some f) (rf Y r)) (hc : vp_nar .char c = c) (hu : ∀ m, m < 60 → isIn Y (nI f) c m = true → m = n) : TY (mvY Y n f c) M ∧ TX (mvX X n f c) (mvY Y n f c) ∧ TV (mvY Y n f c) i ∧ RY (mvY Y n f c) R := by
  have hpr := mv_pr (c := c) hn nt hf
  have y3 : ∀ k, (mvY Y n f c) 3 k = if k = n then nI f else Y 3 k := fun k => rfl
  refine ⟨⟨h1.1, ⟨h1.2.1.1, h1.2.1.2.1, ?_⟩, h1.2.2.1, fun k h0 hk hk1 => ?_, ?_⟩, ⟨h2.1, fun k hk => ?_⟩, fun k hk => ?_, ⟨h4.1, h4.2.1, fun r s hr9 hs hrs => ?_⟩⟩
  · rw [y3, if_neg (fun z => n0 z.symm)]; exact h1.2.1.2.2
  · show ∃ m, m < 60 ∧ (mvY Y n f c) 3 k = nI m ∧ Y 1 m ≠ 0 ∧ Y 2 m ≠ 0
    rw [y3]
    by_cases q : k = n
    · rw [if_pos q]; exact ⟨f, hf, rfl, ft, ff⟩
    · rw [if_neg q]; exact h1.2.2.2.1 k h0 hk hk1
  · rw [hpr]
    exact setP_Tr h1.2.2.2.2 hn (fun m e => by cases e; exact hf) hin
  · obtain ⟨a2, a3, a4, a5, a6, a7, a9, a8, at', ac⟩ := h2.2 k hk
    rw [hpr]
    refine ⟨?_, ?_, a4, a5, a6, a7, a9, a8, fun j hj => ?_, ?_⟩
    · show (if k = n then nI f else X 2 k) = enc (if k = n then some f else prY Y k)
      by_cases q : k = n
      · rw [if_pos q, if_pos q]; rfl
      · rw [if_neg q, if_neg q]; exact a2
    · show (if k = n then c else X 3 k) = if k = n then c else Y 4 k
      rw [a3]
    · show (pX (pX X 2 _) 3 _) (56 + k) j = _
      rw [p_at, if_neg (by omega), p_at, if_neg (by omega)]
      exact at' j hj
    · show vp_nar .char (if k = n then c else Y 4 k) = if k = n then c else Y 4 k
      by_cases q : k = n
      · rw [if_pos q]; exact hc
      · rw [if_neg q]; exact ac
  · obtain ⟨b1, b3, b4⟩ := h3 k hk
    refine ⟨b1, ⟨b3.1, b3.2.1, fun m hm z1 z2 z3 z4 => ?_⟩, b4⟩
    have z1 : Y 1 k ≠ 0 := z1
    have z2 : Y 1 m ≠ 0 := z2
    have w3 : (if k = n then nI f else Y 3 k) = if m = n then nI f else Y 3 m := z3
    have w4 : (if k = n then c else Y 4 k) = if m = n then c else Y 4 m := z4
    by_cases q : k = n
    · by_cases q2 : m = n
      · rw [q, q2]
      · rw [if_pos q, if_neg q2] at w3 w4
        exact absurd (hu m hm (decide_eq_true ⟨z2, w3.symm, w4.symm⟩)) q2
    · by_cases q2 : m = n
      · rw [if_neg q, if_pos q2] at w3 w4
        exact absurd (hu k hk (decide_eq_true ⟨z1, w3, w4⟩)) q
      · rw [if_neg q, if_neg q2] at w3 w4
        exact b3.2.2 m hm z1 z2 w3 w4
  · refine ⟨(h4.2.2 r s hr9 hs hrs).1, ?_⟩
    rw [hpr]
    show ¬ On (setP (prY Y) n (some f)) (setP (prY Y) n (some f) (rf Y r)) (rf Y s)
    by_cases q : rf Y r = n
    · rw [show setP (prY Y) n (some f) (rf Y r) = some f from if_pos q, setP_On_off hin]
      exact hnest ((anyl_iff _ R 0).mpr ⟨r, Nat.zero_le _, by omega, by simp [q]⟩) s hs
    · rw [show setP (prY Y) n (some f) (rf Y r) = prY Y (rf Y r) from if_neg q]
      intro z
      by_cases q2 : On (prY Y) (prY Y (rf Y r)) n
      · obtain ⟨j, e⟩ := z
        rcases setP_split hin j _ e with w | w
        · exact (h4.2.2 r s hr9 hs hrs).2 w
        · refine hnest ((anyl_iff _ R 0).mpr ⟨r, Nat.zero_le _, by omega, ?_⟩) s hs w
          rw [(belo_On h1.2.2.2.2 (rf Y r) n).mpr q2]
          simp
      · rw [setP_On_off q2] at z
        exact (h4.2.2 r s hr9 hs hrs).2 z
theorem op_3 {i : Nat} {X Y : JX} (h : Rel i X Y) : OpSim (Rel (i + 5)) X Y 3 := by
  intro v w x3
  generalize c16 x3 = c
  have h0 := fun s => (h.mono (show i ≤ i + 5 by omega)).thr (s := s)
  have hm := h.mono (show i ≤ i + 5 by omega)
  obtain ⟨M, R, A, P, S, ⟨h1, h2, h3⟩, ⟨h4, h5, h6⟩, ⟨h7, h8⟩, h910, hI, h14, h15⟩ := hm
  have hR := h4.1.1
  have hM6 := h1.1.2.1
  have one : SimT (Rel (i + 5)) [1, 2, 3] (some (some 1, 0, X)) (some (0, thr Y 1)) := ⟨some 1, 0, X, 0, thr Y 1, rfl, rfl, rfl, (fun q => by cases q), h0 1⟩
  have two : SimT (Rel (i + 5)) [1, 2, 3] (some (some 2, 0, X)) (some (0, thr Y 2)) := ⟨some 2, 0, X, 0, thr Y 2, rfl, rfl, rfl, (fun q => by cases q), h0 2⟩
  have three : SimT (Rel (i + 5)) [1, 2, 3] (some (some 3, 0, X)) (some (0, thr Y 3)) := ⟨some 3, 0, X, 0, thr Y 3, rfl, rfl, rfl, (fun q => by cases q), h0 3⟩
  have y20 : b_X11_move_20 Y = some (0, thr Y 1) := rfl
  have bad : ∀ k : Int32, ¬ k ≤ 0 → b_X11_move_121 Y v w c k = some (0, thr Y k) := by
    intro k hk
    unfold b_X11_move_121
    rw [dX_eq, if_neg (show ¬ (thr Y k) 0 0 ≤ 0 from hk)]
  rcases c_there h1 h2 v with ⟨n, hn, hnM, rfl, nt, e1, e2⟩ | ⟨-, e1, e2⟩
  rotate_left
  · have xe : f_X10_move X v w c = some (some 1, 0, X) := by
      unfold f_X10_move b_X10_move_26
      by_cases q : v = 0
      · rw [if_pos q]
      · rw [if_neg q, e1, bd_some, if_pos rfl]
    have ye : f_X11_move Y v w c = some (0, thr Y 1) := by
      unfold f_X11_move
      rw [e2, bd_some, if_pos rfl, y20]
    rw [xe, ye]
    exact one
  by_cases n0 : n = 0
  · have xe : f_X10_move X (nI n) w c = some (some 1, 0, X) := by
      unfold f_X10_move b_X10_move_26
      rw [if_pos (by rw [n0]; rfl)]
    have ye : f_X11_move Y (nI n) w c = some (0, thr Y 1) := by
      unfold f_X11_move
      rw [e2, bd_some, if_neg one0, if_pos (by rw [n0]; rfl), y20]
    rw [xe, ye]
    exact one
  have nn0 : ¬ nI n = 0 := fun z => n0 ((n_0 (sm hn)).mp z)
  rcases c_folder h1 h2 w with ⟨f, hf, -, rfl, ft, ff, f1, f2⟩ | ⟨f1, f2⟩
  rotate_left
  · have xe : f_X10_move X (nI n) w c = some (some 1, 0, X) := by
      unfold f_X10_move b_X10_move_26
      rw [if_neg nn0, e1, bd_some, if_neg one0, f1, bd_some, if_neg (fun q => q rfl)]
    have ye : f_X11_move Y (nI n) w c = some (0, thr Y 1) := by
      unfold f_X11_move
      rw [e2, bd_some, if_neg one0, if_neg nn0, f2, bd_some, if_neg (fun q => q rfl), y20]
    rw [xe, ye]
    exact one
  -- where the node would be inside itself
  let ins : Prop := f = n ∨ belo (prY Y) f n = true
  have hb := y_isBelow h1 hf ft hn
  have xb := x_isBelow (X := X) hn hf (pr := prY Y) (fun n hn => (h2.2 n hn).1) h1.lt
  -- what the reference finds, up to the name
  have hh := y_hr h4 h1 hn
  have yro := y_rootAt h4 (nI f)
  have yov := y_over h4 h1 hf
  let hf9 := hol (fun n => ro Y R (nI n)) (prY Y) 60 (some f)
  have xh : f_X8_holding X (nI f) = some (hf9.map (pl X)) := x_holding h5 h4 (pr := prY Y) (u := some f) (fun n hn => (h2.2 n hn).1) h1.lt (fun k hk => by cases hk; exact hf)
  have hf9n : hf9 = none ↔ ro Y R (nI f) = none ∧ ov Y R f = none := by
    cases e : ro Y R (nI f) with
    | some q =>
      constructor
      · intro z
        have := hol_none 60 (some f) (it_60 h1.2.2.2.2 (fun k hk => by cases hk; exact hf)) z f (On.self f)
        have this : ro Y R (nI f) = none := this
        rw [e] at this
        cases this
      · rintro ⟨z, -⟩; cases z
    | none =>
      rw [show hf9 = ov Y R f from hol_ov h1 hf e]
      exact ⟨fun z => ⟨rfl, z⟩, fun z => z.2⟩
  let wn : Int32 := if hr Y R n = true ∧ hf9 ≠ none then 1 else 0
  have y45 : ∀ s : Int32, b_X11_move_45 Y (nI n) (nI f) c s = b_X11_move_78 Y (nI n) (nI f) c s wn := by
    intro s
    unfold b_X11_move_45
    rw [hh, bd_some]
    cases e : hr Y R n with
    | false =>
      rw [if_pos (show bB false = 0 by decide)]
      show _ = b_X11_move_78 Y (nI n) (nI f) c s (if hr Y R n = true ∧ hf9 ≠ none then 1 else 0)
      rw [if_neg (fun z => by rw [e] at z; cases z.1)]
    | true =>
      rw [if_neg (show ¬ bB true = 0 by decide), yro, bd_some]
      show _ = b_X11_move_78 Y (nI n) (nI f) c s (if hr Y R n = true ∧ hf9 ≠ none then 1 else 0)
      cases e3 : ro Y R (nI f) with
      | some q =>
        have := (ro_lt e3).1
        rw [show enc (some q) = nI q from rfl, if_pos (nm1 (show q < 2 ^ 31 by omega)), if_pos ⟨e, fun z => by have := (hf9n.mp z).1; rw [e3] at this; cases this⟩]
      | none =>
        rw [if_neg (show ¬ ¬ enc none = -1 from fun q => q rfl), yov, bd_some]
        cases e4 : ov Y R f with
        | none =>
          rw [if_pos (show enc none = -1 from rfl), if_neg (fun z => z.2 (hf9n.mpr ⟨e3, e4⟩))]
        | some q =>
          have := ov_lt e4
          rw [show enc (some q) = nI q from rfl, if_neg (nm1 (show q < 2 ^ 31 by omega)), if_pos ⟨e, fun z => by have := (hf9n.mp z).2; rw [e4] at this; cases this⟩]
  let s9 : Int32 := if f = n ∨ belo (prY Y) f n = true then 1 else 0
  have ym : f_X11_move Y (nI n) (nI f) c = b_X11_move_78 Y (nI n) (nI f) c s9 wn := by
    unfold f_X11_move
    rw [e2, bd_some, if_neg one0, if_neg nn0, f2, bd_some, if_pos one0]
    show _ = b_X11_move_78 Y (nI n) (nI f) c (if f = n ∨ belo (prY Y) f n = true then 1 else 0) wn
    by_cases q : f = n
    · rw [if_pos (by rw [q]), y45, if_pos (Or.inl q)]
    · rw [if_neg (nne hf hn q), hb, bd_some]
      cases e : belo (prY Y) f n with
      | true => rw [if_neg (show ¬ bB true = 0 by decide), y45, if_pos (Or.inr rfl)]
      | false => rw [if_pos (show bB false = 0 by decide), y45, if_neg (fun z => z.elim q (fun w => by cases w))]
  by_cases hnm : ¬ c < 97 ∧ ¬ 122 < c
  rotate_left
  · have xe : f_X10_move X (nI n) (nI f) c = some (some 2, 0, X) := by
      unfold f_X10_move
      rw [if_neg nn0, e1, bd_some, if_neg one0, f1, bd_some, if_pos one0, x_isName, bo_f hnm, bd_some, if_neg (fun q => q rfl)]
    have ye : f_X11_move Y (nI n) (nI f) c = some (0, thr Y 2) := by
      rw [ym]
      unfold b_X11_move_78
      rw [y_in, bo_f hnm, bd_some, if_neg (fun q => q rfl), bad 2 (by decide)]
    rw [xe, ye]
    exact two
  have xn : f_X10_isName X c = some 1 := by rw [x_isName, bo_t hnm]
  have yn : f_X11_in Y c 97 122 = some 1 := by rw [y_in, bo_t hnm]
  have xf := x_findIn (c := c) h1 h2 hf
  have yt := y_taken (Y := Y) (f := nI f) (c := c) (b := nI n) h1
  by_cases hins : f = n ∨ belo (prY Y) f n = true
  · have xe : f_X10_move X (nI n) (nI f) c = some (some 3, 0, X) := by
      unfold f_X10_move b_X10_move_93
      rw [if_neg nn0, e1, bd_some, if_neg one0, f1, bd_some, if_pos one0, xn, bd_some, if_pos one0, xf, bd_some]
      by_cases q : f = n
      · rw [if_pos (by rw [q])]
      · rw [if_neg (nne hf hn q), xb, bd_some, hins.resolve_left q, if_pos (show ¬ bB true = 0 by decide)]
    have ye : f_X11_move Y (nI n) (nI f) c = some (0, thr Y 3) := by
      rw [ym]
      unfold b_X11_move_78
      rw [yn, bd_some, if_pos one0, show s9 = 1 from if_pos hins, if_pos one0, bad 3 (by decide)]
    rw [xe, ye]
    exact three
  have hfn : f ≠ n := fun z => hins (Or.inl z)
  have hbf : belo (prY Y) f n = false := by
    cases e : belo (prY Y) f n with
    | false => rfl
    | true => exact absurd (Or.inr e) hins
  have hin : ¬ On (prY Y) (some f) n := fun z => by
    rcases On.up.mp z with q | q
    · exact hfn q
    · rw [(belo_On h1.2.2.2.2 f n).mpr q] at hbf
      cases hbf
  have xg : f_X10_move X (nI n) (nI f) c = if enc (fst (isIn Y (nI f) c) 60 0) = -1 then b_X10_move_103 X (nI n) (nI f) c else if enc (fst (isIn Y (nI f) c) 60 0) = nI n then b_X10_move_103 X (nI n) (nI f) c else some (some 3, 0, X) := by
    unfold f_X10_move b_X10_move_93
    rw [if_neg nn0, e1, bd_some, if_neg one0, f1, bd_some, if_pos one0, xn, bd_some, if_pos one0, xf, bd_some, if_neg (nne hf hn hfn), xb, bd_some, hbf, if_neg (show ¬ ¬ bB false = 0 by decide)]
  have yg : f_X11_move Y (nI n) (nI f) c = if ¬ bB (anyl (fun m => decide (nI m ≠ nI n) && isIn Y (nI f) c m) M 0) = 0 then some (0, thr Y 3) else if wn = 0 then b_X11_move_121 Y (nI n) (nI f) c 0 else some (0, thr Y 3) := by
    rw [ym]
    unfold b_X11_move_78
    rw [yn, bd_some, if_pos one0, show s9 = 0 from if_neg hins, if_neg (fun q => q rfl), yt, bd_some, bad 3 (by decide)]
  by_cases tk : ∃ m, m < 60 ∧ m ≠ n ∧ isIn Y (nI f) c m = true
  · obtain ⟨m, hm6, hmn, hm1⟩ := tk
    have hm1' := of_decide_eq_true hm1
    have xe : f_X10_move X (nI n) (nI f) c = some (some 3, 0, X) := by
      rw [xg]
      cases ef : fst (isIn Y (nI f) c) 60 0 with
      | none => rw [fst_none 60 0 ef m (Nat.zero_le _) (by omega)] at hm1; cases hm1
      | some k =>
        obtain ⟨-, hk6, hk1, -⟩ := fst_some 60 0 ef
        have hk1' := of_decide_eq_true hk1
        have : k = m := ((h3 k (by omega)).2.1).2.2 m hm6 hk1'.1 hm1'.1 (hk1'.2.1.trans hm1'.2.1.symm) (hk1'.2.2.trans hm1'.2.2.symm)
        rw [show enc (some k) = nI k from rfl, if_neg (nm1 (show k < 2 ^ 31 by omega)), if_neg (nne (by omega) hn (by omega))]
    have ye : f_X11_move Y (nI n) (nI f) c = some (0, thr Y 3) := by
      rw [yg, (anyl_iff _ M 0).mpr ⟨m, Nat.zero_le _, by have := h1.2.2.1 m hm6 hm1'.1; omega, by rw [hm1, decide_eq_true (nne hm6 hn hmn)]; rfl⟩, if_pos (by decide)]
    rw [xe, ye]
    exact three
  have hu : ∀ m, m < 60 → isIn Y (nI f) c m = true → m = n := fun m hm6 z => by
    by_cases q : m = n
    · exact q
    · exact absurd ⟨m, hm6, q, z⟩ tk
  have xg2 : f_X10_move X (nI n) (nI f) c = b_X10_move_103 X (nI n) (nI f) c := by
    rw [xg]
    cases ef : fst (isIn Y (nI f) c) 60 0 with
    | none => rw [if_pos (show enc none = -1 from rfl)]
    | some k =>
      obtain ⟨-, hk6, hk1, -⟩ := fst_some 60 0 ef
      rw [show enc (some k) = nI k from rfl, if_neg (nm1 (show k < 2 ^ 31 by omega)), if_pos (by rw [hu k (by omega) hk1])]
  have yg2 : f_X11_move Y (nI n) (nI f) c = if wn = 0 then b_X11_move_121 Y (nI n) (nI f) c 0 else some (0, thr Y 3) := by
    rw [yg]
    cases ea : anyl (fun m => decide (nI m ≠ nI n) && isIn Y (nI f) c m) M 0 with
    | false => rw [if_neg (show ¬ ¬ bB false = 0 by decide)]
    | true =>
      obtain ⟨m, -, hm6, hm1⟩ := (anyl_iff _ M 0).mp ea
      rw [Bool.and_eq_true] at hm1
      exact absurd (by rw [hu m (by omega) hm1.2]) (of_decide_eq_true hm1.1)
  by_cases hw : hr Y R n = true ∧ hf9 ≠ none
  · have xe : f_X10_move X (nI n) (nI f) c = some (some 3, 0, X) := by
      rw [xg2]
      unfold b_X10_move_103
      rw [xh, bd_some]
      cases e : hf9 with
      | none => exact absurd e hw.2
      | some q =>
        obtain ⟨k, -, h9⟩ := hol_some 60 _ e
        rw [Option.map_some, oC_some, if_pos (h5.1.1 q (Nat.lt_of_lt_of_le (ro_lt h9).1 hR)), x_hr h5 h4 h1 h2 hn, bd_some, hw.1, if_neg (show ¬ bB true = 0 by decide)]
    have ye : f_X11_move Y (nI n) (nI f) c = some (0, thr Y 3) := by
      rw [yg2, show wn = 1 from if_pos hw, if_neg (by decide)]
    rw [xe, ye]
    exact three
  have hnest : hr Y R n = true → ∀ r, r < R → ¬ On (prY Y) (some f) (rf Y r) := fun z r hr9 z2 => by
    have hn9 : hf9 = none := by
      cases e : hf9 with
      | none => rfl
      | some q => exact absurd ⟨z, fun w => by rw [e] at w; cases w⟩ hw
    have := hol_none 60 (some f) (it_60 h1.2.2.2.2 (fun k hk => by cases hk; exact hf)) hn9 (rf Y r) z2
    exact ro_no this r hr9 (rf_eq h4 hr9)
  have hc := nm_ok hnm
  obtain ⟨t1, t2, t3, t4⟩ := mv_rel h1 h2 h3 h4 hn n0 nt hf ft ff hin hnest hc hu
  let X1 : JX := mvX X n f c
  let Y1 : JX := mvY Y n f c
  have fx : ∀ q, q ≠ 2 → q ≠ 3 → X1 q = X q := fun q a2 a3 => (if_neg a3).trans (if_neg a2)
  have fy : ∀ q, q ≠ 0 → q ≠ 3 → q ≠ 4 → Y1 q = Y q := fun q a0 a3 a4 => (if_neg a4).trans ((if_neg a3).trans (if_neg a0))
  have r1 : RX X1 Y1 R := h5.fr hR (fun q _ _ => fx q (by omega) (by omega)) (fy 10 (by omega) (by omega) (by omega))
  have q1 : QX X1 Y1 R := h6.fr hR h5.1 (fun q _ _ => fx q (by omega) (by omega)) (fun q _ _ => fy q (by omega) (by omega) (by omega))
  have e1' : EX X1 Y1 := h7.fr (fun q _ _ => fx q (by omega) (by omega)) (fun q _ _ => fx q (by omega) (by omega)) (fun q _ _ => fy q (by omega) (by omega) (by omega)) rfl
  have rr : RelR (i + 5) X1 Y1 R := ⟨M, A, P, S, ⟨t1, t2, t3⟩, t4, ⟨e1', h8⟩, h910, hI, h14, h15⟩
  have hov : ov Y1 R n = hf9 := by
    show hol (fun n => ro Y R (nI n)) (prY Y1) 60 (prY Y1 n) = hol (fun n => ro Y R (nI n)) (prY Y) 60 (some f)
    rw [show prY Y1 = setP (prY Y) n (some f) from mv_pr hn nt hf]
    show hol (fun n => ro Y R (nI n)) (setP (prY Y) n (some f)) 60 (setP (prY Y) n (some f) n) = _
    rw [show setP (prY Y) n (some f) n = some f from if_pos rfl, hol_off 60 _ hin]
  have hb9 : ∀ s, hf9 = some s → s < R := fun s z => by
    rw [← hov] at z
    exact ov_lt z
  let a9 := ov Y R n
  have ha9 : ∀ s, a9 = some s → s < R := fun s z => ov_lt z
  let o1 : Option Nat := if a9 = hf9 then none else a9
  obtain ⟨X2, Y2, x2, x2n, y2, q2, r2, fx2, fy2⟩ := c_tello (v := 2) (o := o1) t4 r1 q1 (fun s z => by
    by_cases q : a9 = hf9
    · rw [show o1 = none from if_pos q] at z; cases z
    · rw [show o1 = a9 from if_neg q] at z; exact ha9 s z) (Or.inr (Or.inr rfl)) hn
  have t4' : RY Y2 R := t4.fr (by rw [fy2 0 (by omega) (by omega) (by omega) (by omega)]) (fy2 1 (by omega) (by omega) (by omega) (by omega)) (fy2 2 (by omega) (by omega) (by omega) (by omega)) (fy2 3 (by omega) (by omega) (by omega) (by omega)) (fy2 10 (by omega) (by omega) (by omega) (by omega))
  obtain ⟨X3, Y3, x3, x3n, y3, q3, r3, fx3, fy3⟩ := c_tello (v := 0) (o := hf9) t4' r2 q2 hb9 (Or.inl rfl) hn
  have hpl1 : ∀ s, pl X1 s = pl X s := fun s => rfl
  have hpl2 : ∀ s, pl X2 s = pl X s := fun s => by unfold pl; rw [fx2 12 (by omega)]; rfl
  have x5 : ¬ X 5 n = 0 := by rw [(h2.2 n hn).2.2.2.1]; exact nt
  have xput := x_put (X := X) (f := f) hn x5 hc
  have xpar : f_X9_parentOf X (nI n) = some (Y 3 n) := by
    rw [x_parentOf hn, (h2.2 n hn).1, ← (h1.st n ⟨hn, nt⟩).2.1]
  have xab : f_X8_above X (nI n) = some (a9.map (pl X)) := x_above h5 h4 h1 h2 hn
  have xe : f_X10_move X (nI n) (nI f) c = some (none, Y 3 n, X3) := by
    rw [xg2]
    unfold b_X10_move_103
    rw [xh, bd_some]
    cases e : hf9 with
    | none =>
      have x32 := (x3n e).1
      rw [Option.map_none, oC_none]
      unfold b_X10_move_139n5 b_X10_move_188n5
      rw [xab, bd_some]
      cases ea : a9 with
      | none =>
        have x21 := (x2n (show o1 = none from if_pos (by rw [ea, e]))).1
        rw [Option.map_none, oC_none, xpar, bd_some, xput, bd_some, x32, x21]
      | some r =>
        have hr9 := ha9 r ea
        have x21 := x2 r (by
          show (if a9 = hf9 then none else a9) = some r
          rw [if_neg (by rw [ea, e]; exact fun z => by cases z), ea])
        rw [Option.map_some, oC_some, if_pos (h5.1.1 r (by omega)), xpar, bd_some, xput, bd_some]
        rw [show f_X7_tell (mvX X n f c) (pl X r) 3 (nI n) = some X2 from x21, bd_some, x32]
    | some s =>
      have hs9 := hb9 s e
      have hrf : hr Y R n = false := by
        cases z : hr Y R n with
        | false => rfl
        | true => exact absurd ⟨z, fun w => by rw [e] at w; cases w⟩ hw
      have x32 := x3 s e
      rw [hpl2] at x32
      rw [Option.map_some, oC_some, if_pos (h5.1.1 s (by omega)), x_hr h5 h4 h1 h2 hn, bd_some, hrf, if_pos (show bB false = 0 by decide)]
      unfold b_X10_move_139 b_X10_move_188
      rw [xab, bd_some]
      cases ea : a9 with
      | none =>
        have x21 : X2 = X1 := by
          cases z : o1 with
          | none => exact (x2n z).1
          | some r =>
            have : (if a9 = hf9 then none else a9) = some r := z
            rw [ea] at this
            split at this <;> cases this
        rw [x21] at x32
        rw [Option.map_none, oC_none, xpar, bd_some, xput, bd_some, show f_X7_tell (mvX X n f c) (pl X s) 1 (nI n) = some X3 from x32, bd_some]
      | some r =>
        have hr9 := ha9 r ea
        rw [Option.map_some, oC_some, if_pos (h5.1.1 r (by omega)), xpar, bd_some, xput, bd_some]
        by_cases q : r = s
        · have x21 := (x2n (show o1 = none from if_pos (by rw [ea, e, q]))).1
          rw [x21] at x32
          rw [if_pos (by rw [q]), show f_X7_tell (mvX X n f c) (pl X s) 1 (nI n) = some X3 from x32, bd_some]
        · have x21 := x2 r (by
            show (if a9 = hf9 then none else a9) = some r
            rw [if_neg (by rw [ea, e]; exact fun z => q (Option.some.inj z)), ea])
          rw [if_neg (fun z => q (h5.1.2 r s (by omega) (by omega) z)), show f_X7_tell (mvX X n f c) (pl X r) 3 (nI n) = some X2 from x21, bd_some, show f_X7_tell X2 (pl X s) 1 (nI n) = some X3 from x32, bd_some]
  have ye : f_X11_move Y (nI n) (nI f) c = some (Y 3 n, Y3) := by
    rw [yg2, show wn = 0 from if_neg hw, if_pos rfl]
    have ho1 : f_X11_over (thr Y 0) (nI n) = some (enc a9) := y_over (Y := thr Y 0) h4 h1 hn
    have ho2 : f_X11_over Y1 (nI n) = some (enc hf9) := by rw [← hov]; exact y_over t4 t1 hn
    have ok := n_ok60 hn
    unfold b_X11_move_121 b_X11_move_184
    rw [dX_eq, if_pos (show (thr Y 0) 0 0 ≤ 0 from Int32.le_refl 0), if_pos ok, nI_clamp (sm hn), dV_eq, ho1, bd_some, if_pos ok, dX_eq, if_pos ok, dX_eq, hc]
    show ((f_X11_over Y1 (nI n)).bind fun t15 => if enc a9 = t15 then (f_X11_comes Y1 t15 0 (nI n)).bind fun X17 => some (Y 3 n, X17) else (f_X11_comes Y1 (enc a9) 2 (nI n)).bind fun X16 => (f_X11_comes X16 t15 0 (nI n)).bind fun X17 => some (Y 3 n, X17)) = _
    rw [ho2, bd_some]
    by_cases q : a9 = hf9
    · have y21 := (x2n (show o1 = none from if_pos q)).2
      rw [y21] at y3
      rw [if_pos (by rw [q]), show f_X11_comes Y1 (enc hf9) 0 (nI n) = some Y3 from y3, bd_some]
    · rw [show o1 = a9 from if_neg q] at y2
      rw [if_neg (fun z => q (enc_inj (fun r w => by have := ha9 r w; omega) (fun r w => by have := hb9 r w; omega) z)), show f_X11_comes Y1 (enc a9) 2 (nI n) = some Y2 from y2, bd_some, y3, bd_some]
  refine ⟨none, Y 3 n, X3, Y 3 n, Y3, xe, ye, ?_, fun _ => rfl, rr.queue r3 q3 (fun q _ _ => (fx3 q (by omega)).trans (fx2 q (by omega))) (fun q _ _ => (fx3 q (by omega)).trans (fx2 q (by omega))) (fun q a b c d => (fy3 q a b c d).trans (fy2 q a b c d))⟩
  rw [fy3 0 (by omega) (by omega) (by omega) (by omega), fy2 0 (by omega) (by omega) (by omega) (by omega)]
  rfl

/-! ===== p32: questions, where all is right ===== -/
def RT (X Y : JX) : Prop := (∀ n, prY Y n ≠ none → rgt X n) ∧ ∀ n, n < 60 → prY Y n = none → X 36 n = 0
theorem Rel.q {i : Nat} {X X' Y : JX} (h : Rel i X Y) (f : ∀ q, q < 176 → q ≠ 54 → q ≠ 55 → X' q = X q) : Rel i X' Y := by
  have h1 := h.x54 (X' := fun q => if q = 54 ∨ q = 55 then X' q else X q) (fun q q1 q2 => if_neg (fun z => z.elim q1 q2))
  refine h1.congr (fun q hq => ?_)
  show X' q = if q = 54 ∨ q = 55 then X' q else X q
  by_cases c : q = 54 ∨ q = 55
  · rw [if_pos c]
  · rw [if_neg c]
    exact f q hq (fun z => c (Or.inl z)) (fun z => c (Or.inr z))
theorem CI.q {M : Nat} {X X' : JX} (h : CI M X) (f : ∀ q, q < 176 → q ≠ 54 → q ≠ 55 → X' q = X q) : CI M X' := by
  obtain ⟨⟨a1, a2, a3⟩, ⟨c1, c2⟩, hE, hW⟩ := h
  refine ⟨⟨by rw [f 11 (by omega) (by omega) (by omega)]; exact a1, by rw [f 12 (by omega) (by omega) (by omega)]; exact a2, by rw [f 13 (by omega) (by omega) (by omega)]; exact a3⟩, ⟨by rw [f 6 (by omega) (by omega) (by omega)]; exact c1, by rw [f 48 (by omega) (by omega) (by omega)]; exact c2⟩, ?_, hW.same (fun q hq => f q (by omega) (by omega) (by omega))⟩
  unfold EP
  rw [f 36 (by omega) (by omega) (by omega), f 37 (by omega) (by omega) (by omega)]
  exact hE
theorem RT.q {X X' Y : JX} (h : RT X Y) (f : ∀ q, q < 176 → q ≠ 54 → q ≠ 55 → X' q = X q) : RT X' Y := by
  unfold RT rgt
  rw [f 36 (by omega) (by omega) (by omega), f 37 (by omega) (by omega) (by omega), f 38 (by omega) (by omega) (by omega), f 39 (by omega) (by omega) (by omega), f 2 (by omega) (by omega) (by omega), f 3 (by omega) (by omega) (by omega), f 4 (by omega) (by omega) (by omega), f 5 (by omega) (by omega) (by omega), f 8 (by omega) (by omega) (by omega)]
  exact h
/-- the way over entries that are right -/
theorem lbl_bel {X Y : JX} {M f : Nat} (hT : TY Y M) (hY : RY Y 1) (h0 : Y 10 0 = 0) (hE : EX X Y) (hx : TX X Y) (hr : RT X Y) (hf : f < 60) (f0 : f ≠ 0) : ∀ m u, (∀ n, u = some n → n < 60 ∧ Y 1 n ≠ 0) → lbl Y 1 (nI f) m u = bel (prY Y) f m u := by
  intro m
  induction m with
  | zero => intro u _; rfl
  | succ m ih =>
    intro u hu
    cases u with
    | none => rfl
    | some q =>
      obtain ⟨q6, q1⟩ := hu q rfl
      rw [lbl_s]
      show _ = (q == f || bel (prY Y) f m (prY Y q))
      have e1 : decide (nI q = nI f) = (q == f) := by
        by_cases z : q = f
        · rw [z]; simp
        · rw [decide_eq_false (nne q6 hf z)]
          exact (beq_eq_false_iff_ne.mpr z).symm
      rw [e1]
      congr 1
      by_cases q0 : q = 0
      · subst q0
        rw [show ro Y 1 (nI 0) = some 0 from ro_of hY (show 0 < 1 by omega) h0, if_neg (fun z => by cases z)]
        have p0 : prY Y 0 = none := by
          unfold prY
          rw [if_pos ⟨by omega, hT.2.1.1⟩, hT.2.1.2.2, dec_m1]
        rw [p0]
        cases m <;> rfl
      · have hn : ro Y 1 (nI q) = none := by
          cases e : ro Y 1 (nI q) with
          | none => rfl
          | some r =>
            obtain ⟨r1, r2⟩ := ro_lt e
            have : r = 0 := by omega
            rw [this, h0] at r2
            exact absurd ((nI_eq (a := 0) (b := q) (by decide) (sm q6)).mp r2) (fun z => q0 z.symm)
        rw [if_pos hn]
        have hp := pr_of hT q6 q0 q1
        obtain ⟨-, -, -, p, p6, ep, e3, p1, -⟩ := pr_some hT hp
        obtain ⟨r36, r37, -⟩ := hr.1 q hp
        have ek : kp Y q = prY Y q := by
          unfold kp
          rw [if_pos (by rw [← (hE q q6).1]; exact r36), ← (hE q q6).2.1, r37, (hx.2 q q6).1, ep]
          exact congrArg some (nI_clamp (sm p6))
        rw [ek]
        exact ih (prY Y q) (fun n en => by rw [ep] at en; cases en; exact ⟨p6, p1⟩)
theorem ask_eq {i M k : Nat} {X Y : JX} {p a b f : Int32} (h : Rel i X Y) (hC : CI M X) (h9 : X 1 9 = nI M) (hM : M ≤ 60) (hr : RT X Y) (hk : k < 60) (hf : f = -1 ∨ f = nI 1) : ans Y 1 p a b f k = anw Y 1 p a b f k := by
  obtain ⟨A, P, S, ⟨t1, t2, t3⟩, ⟨r4, r5, r6⟩, ⟨hE, hEY⟩, -, -, ⟨s1, s2, -⟩, -⟩ := h.one hC.1.1 h9 hM
  have hpl : pl X 0 = 13 := by unfold pl; rw [hC.1.2.1]; rfl
  have h10 : Y 10 0 = 0 := by
    have := r5.2.2 0 (by omega)
    rw [hpl, hC.1.2.2] at this
    exact this.symm
  have r0 : rf Y 0 = 0 := by unfold rf; rw [h10]; rfl
  have fls : ∀ x y : Bool, x = false → y = false → x = y := fun x y a b => a.trans b.symm
  by_cases hp : prY Y k = none
  · refine fls _ _ ?_ ?_
    · unfold ans
      have : scr Y p a b k = 0 := by
        unfold scr
        rw [if_neg]
        rintro ⟨z1, z2, -⟩
        by_cases k0 : k = 0
        · rw [k0] at z2; exact t1.2.1.2.1 z2
        · exact pr_of t1 hk k0 z1 hp
      rw [this]
      rfl
    · unfold anw
      rw [wit_none ((ov_top t1 r4 h10).mpr hp), Bool.and_false, Bool.false_and]
  · obtain ⟨-, k0, k1, m, m6, em, -, m1, -⟩ := pr_some t1 hp
    by_cases k2 : Y 2 k = 0
    · have hrg := hr.1 k hp
      have x5 : X 5 k ≠ 0 := by rw [(t2.2 k hk).2.2.2.1]; exact k1
      have x4 : X 4 k = 0 := by rw [(t2.2 k hk).2.2.1]; exact k2
      have hw := (hC.2.2.2 k hk x5 x4).1 hrg.1 (hrg.2.2.2 ⟨x5, x4⟩)
      have etk := tkX_eq t2 t3 ⟨s1, s2⟩ hk
      obtain ⟨w1, w2⟩ := hw
      rw [etk] at w1 w2
      obtain ⟨l20, l23, -⟩ := hEY.len hk
      have elen : eln Y k = (tkn Y k).1 := by
        have e1 : nI (eln Y k) = nI (tkn Y k).1 := by rw [← l23, ← (hE k hk).2.2.2.2.1, w1]
        have h2 : (tkn Y k).1 ≤ 20 := by
          have : (tkn Y k).1 = eln Y k ∨ True := Or.inr trivial
          obtain ⟨-, -, l, hl, el, hm⟩ := t3 k hk
          unfold tkn
          obtain ⟨-, ⟨W, hW1, hW, eW⟩, -⟩ := (h.one hC.1.1 h9 hM).choose_spec.choose_spec.choose_spec.2.2.2.2.2.2
          rw [eW, nI_clamp (show W < 2 ^ 31 by omega)]
          exact Nat.le_trans (fw_le _ _ _ _ _ (Nat.zero_le _)) hW
        exact (nI_eq (by omega) (by omega)).mp e1
      have esc : sc (wd Y k) (eln Y k) a b = sc (tkn Y k).2 (tkn Y k).1 a b := by
        rw [elen]
        refine sc_congr (fun j hj => ?_)
        unfold wd
        rw [← (hE k hk).2.2.2.2.2.2 j (by omega), w2 j hj]
      have e19 : Y 19 k ≠ 0 := by rw [← (hE k hk).1]; exact hrg.1
      have eov : ov Y 1 k = some 0 := by
        cases e : ov Y 1 k with
        | none => exact absurd ((ov_top t1 r4 h10).mp e) hp
        | some r =>
          have := ov_lt e
          rw [show r = 0 by omega]
      have ewit : (decide (f = -1) || lbl Y 1 f 60 (kp Y k)) = wit Y 1 f k := by
        rw [wit_some eov, r0]
        rcases hf with hf | hf
        · rw [hf]; rfl
        · have fm : ¬ f = -1 := by rw [hf]; decide
          rw [decide_eq_false fm, Bool.false_or, Bool.false_or]
          have f0 : ¬ f = nI 0 := by rw [hf]; decide
          rw [decide_eq_false f0, Bool.false_or, hf, nI_clamp (by decide)]
          have ek : kp Y k = prY Y k := by
            unfold kp
            rw [if_pos e19, ← (hE k hk).2.1, hrg.2.1, (t2.2 k hk).1, em]
            exact congrArg some (nI_clamp (sm m6))
          rw [ek, lbl_bel t1 r4 h10 hE t2 hr (by omega) (by omega) 60 (prY Y k) (fun n en => by rw [em] at en; cases en; exact ⟨m6, m1⟩)]
          show belo (prY Y) k 1 = (belo (prY Y) 1 0 && belo (prY Y) k 1)
          cases e : belo (prY Y) k 1 with
          | false => rw [Bool.and_false]
          | true =>
            rw [belo_On t1.2.2.2.2] at e
            have h1 := TY.On t1 (fun n en => by rw [em] at en; cases en; exact ⟨m6, m1⟩) e
            have : belo (prY Y) 1 0 = true := by
              rw [belo_On t1.2.2.2.2]
              exact (On.up.mp (toTop' t1 h1.1 h1.2)).resolve_left (by omega)
            rw [this]
            rfl
      unfold ans anw
      rw [ewit, decide_eq_true k2, Bool.true_and]
      have e9 : decide (0 < scr Y p a b k) = (opB Y p k && decide (0 < sc (tkn Y k).2 (tkn Y k).1 a b)) := by
        unfold scr
        cases e : opB Y p k with
        | true => rw [if_pos ⟨k1, k2, e19, rfl⟩, esc]; rfl
        | false => rw [if_neg (fun z => by cases z.2.2.2)]; rfl
      rw [e9, Bool.and_comm]
    · refine fls _ _ ?_ ?_
      · unfold ans
        have : scr Y p a b k = 0 := by
          unfold scr
          rw [if_neg (fun z => k2 z.2.1)]
        rw [this]
        rfl
      · unfold anw
        rw [decide_eq_false k2]
        rfl

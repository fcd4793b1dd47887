theorem y_write_go {Y : JX} {n l : Nat} {v : Int32} (hn : n < 60) (h6 : Y 6 n = nI l) (hl : l < 20) {Y2 : JX} (hc : ∀ t, f_X11_over (pX (pX (pX (thr Y 0) 7 (upd (Y 7) (20 * n + l) v)) 6 (upd (Y 6) n (nI (l + 1)))) 5 (upd (Y 5) n (Y 5 n + 1))) (nI n) = some t → f_X11_comes (pX (pX (pX (thr Y 0) 7 (upd (Y 7) (20 * n + l) v)) 6 (upd (Y 6) n (nI (l + 1)))) 5 (upd (Y 5) n (Y 5 n + 1))) t 1 (nI n) = some Y2) {t : Int32} (ho : f_X11_over (pX (pX (pX (thr Y 0) 7 (upd (Y 7) (20 * n + l) v)) 6 (upd (Y 6) n (nI (l + 1)))) 5 (upd (Y 5) n (Y 5 n + 1))) (nI n) = some t) : b_X11_write_58 Y (nI n) v 0 = some (Y2 5 n, Y2) := by
  have ok := n_ok60 hn
  have c2 : okI (20 * nI n + nI l) 1200 = true := by rw [n_20 hn (by omega)]; exact n_ok (by omega) (by decide)
  have c3 : (20 * nI n + nI l).toNatClampNeg = 20 * n + l := by rw [n_20 hn (by omega), nI_clamp (by omega)]
  unfold b_X11_write_58
  rw [dX_eq, if_pos (show (thr Y 0) 0 0 ≤ 0 from Int32.le_refl 0), if_pos ok, nI_clamp (sm hn), show (pX Y 0 (upd (Y 0) 0 0)) 6 n = nI l from h6, if_pos c2, c3, dX_eq, if_pos ok, if_pos ok, dX_eq, if_pos ok, if_pos ok, dX_eq]
  rw [show (pX (pX Y 0 (upd (Y 0) 0 0)) 7 (upd ((pX Y 0 (upd (Y 0) 0 0)) 7) (20 * n + l) v)) 6 n = nI l from h6, n_add1]
  have hc2 := hc t ho
  show ((f_X11_over (pX (pX (pX (thr Y 0) 7 (upd (Y 7) (20 * n + l) v)) 6 (upd (Y 6) n (nI (l + 1)))) 5 (upd (Y 5) n (Y 5 n + 1))) (nI n)).bind fun t7 => (f_X11_comes (pX (pX (pX (thr Y 0) 7 (upd (Y 7) (20 * n + l) v)) 6 (upd (Y 6) n (nI (l + 1)))) 5 (upd (Y 5) n (Y 5 n + 1))) t7 1 (nI n)).bind fun X8 => if okI (nI n) 60 = true then some (X8 5 n, X8) else none) = _
  rw [ho, bd_some, hc2, bd_some, if_pos ok]
theorem op_1 {i : Nat} {X Y : JX} (h : Rel i X Y) : OpSim (Rel (i + 5)) X Y 1 := by
  intro v b
  have h0 := fun s => (h.mono (show i ≤ i + 5 by omega)).thr (s := s)
  obtain ⟨M, R, A, P, S, ⟨h1, h2, h3⟩, ⟨h4, h5, h6⟩, ⟨h7, h8⟩, ⟨h9, h10⟩, ⟨h11, h12, h13⟩, h14, h15⟩ := h
  have bad : ∀ k : Int32, ¬ k ≤ 0 → b_X11_write_58 Y v b k = some (0, thr Y k) := by
    intro k hk
    unfold b_X11_write_58
    rw [dX_eq, if_neg (show ¬ (thr Y k) 0 0 ≤ 0 from hk)]
  rcases c_file h1 h2 v with ⟨n, hn, hM, rfl, ht, hf, e1, e2⟩ | ⟨e1, e2⟩
  · obtain ⟨a2, a3, a4, a5, a6, a7, a9, a8, at', ac⟩ := h2.2 n hn
    have xl : f_X9_isLocked X (nI n) = some (bo (Y 8 n ≠ 0)) := by rw [x_isLocked hn, a6]
    by_cases hm : isM b
    · obtain ⟨⟨m1, m2⟩, m3⟩ := mark_in hm
      have xw : f_X10_write X (nI n) b = b_X10_write_50 X (nI n) b := by
        unfold f_X10_write f_X10_isWord
        rw [e1, bd_some, if_pos one0]
        rcases hm with ⟨w, hw, rfl⟩ | rfl | rfl
        · rw [if_neg (nI_pos (show w < 2 ^ 31 by omega)), if_neg m2, bd_some, if_pos one0]
        · rfl
        · rfl
      have yw : ∀ z, (if ¬ Y 8 n = 0 then b_X11_write_58 Y (nI n) b 3 else if ¬ Y 6 n = 20 then b_X11_write_58 Y (nI n) b 0 else b_X11_write_58 Y (nI n) b 3) = z → f_X11_write Y (nI n) b = z := by
        intro z hz
        unfold f_X11_write
        rw [e2, bd_some, if_pos one0, y_in, bo_t ⟨m1, m2⟩, bd_some, if_neg one0, if_pos m3, if_pos (n_ok60 hn), if_pos (n_ok60 hn), nI_clamp (sm hn)]
        exact hz
      obtain ⟨⟨e, b1, b2⟩, b3, l, b4, b5, b6⟩ := h3 n hn
      by_cases hl : Y 8 n = 0
      · by_cases hl20 : l < 20
        · let X1 : JX := pX (pX (pX X (56 + n) (upd (X (56 + n)) l b)) 9 (upd (X 9) n (nI (l + 1)))) 8 (upd (X 8) n (X 8 n + 1))
          let Y1 : JX := pX (pX (pX (thr Y 0) 7 (upd (Y 7) (20 * n + l) b)) 6 (upd (Y 6) n (nI (l + 1)))) 5 (upd (Y 5) n (Y 5 n + 1))
          have hx1 : f_X9_append X (nI n) b = some X1 := x_append hn (by rw [a5]; exact ht) (by rw [a4]; exact hf) (by rw [a9]; exact b5) hl20
          have xo : ∀ q, q ≠ 56 + n → q ≠ 9 → q ≠ 8 → X1 q = X q := fun q q1 q2 q3 => (if_neg q3).trans ((if_neg q2).trans (if_neg q1))
          have t1 : TX X1 Y1 := by
            refine ⟨by rw [xo 1 (by omega) (by omega) (by omega)]; exact h2.1, fun m hm => ?_⟩
            obtain ⟨c2, c3, c4, c5, c6, c7, c9, c8, ct, cc⟩ := h2.2 m hm
            refine ⟨by rw [xo 2 (by omega) (by omega) (by omega)]; exact c2, by rw [xo 3 (by omega) (by omega) (by omega)]; exact c3, by rw [xo 4 (by omega) (by omega) (by omega)]; exact c4, by rw [xo 5 (by omega) (by omega) (by omega)]; exact c5, by rw [xo 6 (by omega) (by omega) (by omega)]; exact c6, by rw [xo 7 (by omega) (by omega) (by omega)]; exact c7, ?_, fun q => ?_, fun j hj => ?_, cc⟩
            · show upd (X 9) n (nI (l + 1)) m = upd (Y 6) n (nI (l + 1)) m
              rw [u_at, u_at, c9]
            · show upd (X 8) n (X 8 n + 1) m = upd (Y 5) n (Y 5 n + 1) m
              rw [u_at, u_at, c8 q, a8 hf]
            · show X1 (56 + m) j = upd (Y 7) (20 * n + l) b (20 * m + j)
              by_cases q : m = n
              · subst q
                have ex : X1 (56 + m) = upd (X (56 + m)) l b := (if_neg (by omega)).trans ((if_neg (by omega)).trans (if_pos rfl))
                rw [ex, u_at, u_at]
                by_cases q2 : j = l
                · rw [if_pos q2, if_pos (by omega)]
                · rw [if_neg q2, if_neg (by omega)]; exact ct j hj
              · rw [xo (56 + m) (by omega) (by omega) (by omega), u_at, if_neg (by omega)]
                exact ct j hj
          have v1 : TV Y1 (i + 5) := by
            intro m hm9
            obtain ⟨⟨e', d1, d2⟩, d3, l', d4, d5, d6⟩ := h3 m hm9
            refine ⟨?_, d3, ?_⟩
            · show ∃ e, e ≤ 1 + (i + 5) ∧ upd (Y 5) n (Y 5 n + 1) m = nI e
              rw [u_at]
              by_cases q : m = n
              · rw [if_pos q, b2, n_add1]; exact ⟨e + 1, by omega, rfl⟩
              · rw [if_neg q]; exact ⟨e', by omega, d2⟩
            · show ∃ l', l' ≤ 20 ∧ upd (Y 6) n (nI (l + 1)) m = nI l' ∧ ∀ j, j < l' → (∃ w, w ≤ 99 ∧ upd (Y 7) (20 * n + l) b (20 * m + j) = nI w) ∨ upd (Y 7) (20 * n + l) b (20 * m + j) = -2 ∨ upd (Y 7) (20 * n + l) b (20 * m + j) = -3
              rw [u_at]
              by_cases q : m = n
              · subst q
                rw [if_pos rfl]
                refine ⟨l + 1, by omega, rfl, fun j hj => ?_⟩
                rw [u_at]
                by_cases q2 : j = l
                · rw [if_pos (by omega)]; exact hm
                · rw [if_neg (by omega)]; exact b6 j (by omega)
              · rw [if_neg q]
                refine ⟨l', d4, d5, fun j hj => ?_⟩
                rw [u_at, if_neg (by omega)]
                exact d6 j hj
          have cx : ∀ a c, (c ≤ 56 + n → 56 + n < a ∨ c ≤ 56 + n) → True := fun _ _ _ => trivial
          have r1 : RX X1 Y1 R := h5.fr h4.1.1 (fun q q1 q2 => xo q (by omega) (by omega) (by omega)) rfl
          have yo : ∀ q, q ≠ 0 → q ≠ 5 → q ≠ 6 → q ≠ 7 → Y1 q = Y q := fun q q0 q5 q6 q7 => (if_neg q5).trans ((if_neg q6).trans ((if_neg q7).trans (if_neg q0)))
          have q1 : QX X1 Y1 R := h6.fr h4.1.1 h5.1 (fun q q1 q2 => xo q (by omega) (by omega) (by omega)) (fun q q1 q2 => yo q (by omega) (by omega) (by omega) (by omega))
          have rr : RelR (i + 5) X1 Y1 R := by
            refine ⟨M, A, P, S, ⟨h1, t1, v1⟩, h4, ⟨h7.fr (fun q q1 q2 => xo q (by omega) (by omega) (by omega)) (fun q q1 q2 => xo q (by omega) (by omega) (by omega)) (fun q q1 q2 => yo q (by omega) (by omega) (by omega) (by omega)) rfl, h8⟩, ⟨h9, ?_⟩, ⟨h11, ?_, h13⟩, ?_, h15⟩
            · unfold KX
              rw [xo 45 (by omega) (by omega) (by omega), xo 46 (by omega) (by omega) (by omega), xo 47 (by omega) (by omega) (by omega), xo 48 (by omega) (by omega) (by omega)]
              exact h10
            · unfold IX
              rw [xo 49 (by omega) (by omega) (by omega), xo 50 (by omega) (by omega) (by omega), xo 51 (by omega) (by omega) (by omega), xo 52 (by omega) (by omega) (by omega)]
              exact h12
            · unfold SX
              rw [xo 34 (by omega) (by omega) (by omega), xo 0 (by omega) (by omega) (by omega)]
              exact h14
          have hT1 : TY Y1 M := h1
          have hR1 : RY Y1 R := h4
          obtain ⟨X2, Y2, x2, y2, q2, r2, ex1, ex2, ey⟩ := c_above (v := 1) hT1 t1 hR1 r1 q1 (Or.inr (Or.inl rfl)) hn
          have ho := y_over hR1 hT1 hn
          refine ⟨none, Y2 5 n, X2, Y2 5 n, Y2, ?_, ?_, ?_, fun _ => rfl, rr.queue r2 q2 (ex1.sub (by omega) (by omega)) ex2 ey⟩
          · have e8 : X2 8 n = Y2 5 n := by
              rw [ex1 8 (by omega) (by omega), ey 5 (by omega) (by omega) (by omega) (by omega)]
              show upd (X 8) n (X 8 n + 1) n = upd (Y 5) n (Y 5 n + 1) n
              rw [u_at, u_at, if_pos rfl, if_pos rfl, a8 hf]
            rw [xw]
            unfold b_X10_write_50
            rw [xl, bo_f (fun q => q hl), bd_some, if_neg (fun q => q rfl), x_lengthOf hn, bd_some, a9, b5, if_pos (show nI l < 20 from nI_lt (b := 20) hl20 (by decide)), hx1, bd_some, show (2 : Int32) = 1 + 1 from rfl, x2, bd_some, x_editionOf hn, bd_some, e8]
          · apply yw
            rw [if_neg (fun q => q hl), if_pos (show ¬ Y 6 n = 20 by rw [b5]; exact fun q => by have := (nI_eq (a := l) (b := 20) (by omega) (by decide)).mp q; omega)]
            exact y_write_go hn b5 hl20 y2 ho
          · rw [ey 0 (by omega) (by omega) (by omega) (by omega)]
            rfl
        · have l20 : l = 20 := by omega
          refine ⟨some 3, 0, X, 0, thr Y 3, ?_, ?_, rfl, (fun q => by cases q), h0 3⟩
          · rw [xw]
            unfold b_X10_write_50 b_X10_write_74
            rw [xl, bo_f (fun q => q hl), bd_some, if_neg (fun q => q rfl), x_lengthOf hn, bd_some, a9, b5, l20, if_neg (by decide)]
          · apply yw
            rw [if_neg (fun q => q hl), if_neg (show ¬ ¬ Y 6 n = 20 by rw [b5, l20]; exact fun q => q rfl), bad 3 (by decide)]
      · refine ⟨some 3, 0, X, 0, thr Y 3, ?_, ?_, rfl, (fun q => by cases q), h0 3⟩
        · rw [xw]
          unfold b_X10_write_50 b_X10_write_74
          rw [xl, bo_t hl, bd_some, if_pos one0]
        · apply yw
          rw [if_pos hl, bad 3 (by decide)]
    · refine ⟨some 2, 0, X, 0, thr Y 2, ?_, ?_, rfl, (fun q => by cases q), h0 2⟩
      · unfold f_X10_write f_X10_isWord
        rw [e1, bd_some, if_pos one0]
        have hw : (if b < 0 then some (0 : Int32) else if 99 < b then some 0 else some 1) = some 0 := by
          by_cases c1 : b < 0
          · rw [if_pos c1]
          · by_cases c2 : 99 < b
            · rw [if_neg c1, if_pos c2]
            · exact absurd (mark_of (fun q => c1 (Int32.lt_trans q (by decide))) c2 (fun q => c1 (by rw [q]; decide))) hm
        rw [hw, bd_some, if_neg (fun q => q rfl), if_neg (fun q => hm (Or.inr (Or.inl q))), if_neg (fun q => hm (Or.inr (Or.inr q)))]
      · unfold f_X11_write
        rw [e2, bd_some, if_pos one0, y_in, bd_some]
        by_cases c1 : ¬ b < -3 ∧ ¬ 99 < b
        · rw [bo_t c1, if_neg one0, if_neg (fun q => hm (mark_of c1.1 c1.2 q)), bad 2 (by decide)]
        · rw [bo_f c1, if_pos rfl, bad 2 (by decide)]
  · refine ⟨some 1, 0, X, 0, thr Y 1, ?_, ?_, rfl, (fun q => by cases q), h0 1⟩
    · unfold f_X10_write
      rw [e1, bd_some, if_neg (fun q => q rfl)]
    · unfold f_X11_write
      rw [e2, bd_some, if_neg (fun q => q rfl), bad 1 (by decide)]

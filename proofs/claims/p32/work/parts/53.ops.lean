/-! ===== call: twice ===== -/
theorem RelR.of {i : Nat} {X Y : JX} {M R A P S : Nat} (h1 : TY Y M ∧ TX X Y ∧ TV Y i) (h2 : RY Y R) (h3 : EX X Y ∧ EY Y M) (h4 : KY Y A ∧ KX X Y A) (h5 : IY Y P S ∧ IX X Y P S ∧ IQ Y P S) (h6 : SX X Y) (h7 : SY Y) : RelR i X Y R := ⟨M, A, P, S, h1, h2, h3, h4, h5, h6, h7⟩
theorem op_11 {i : Nat} {X Y : JX} (h : Rel i X Y) : OpSim (Rel (i + 5)) X Y 11 := by
  intro v
  have h0 := fun s => (h.mono (show i ≤ i + 5 by omega)).thr (s := s)
  have hh := h0 0
  obtain ⟨M, R, A, P, S, h123, ⟨h4, h5, h6⟩, h78, h910, hI, h14, h15⟩ := hh
  have hR := h4.1.1
  have hY : RY Y R := h4
  have bad : ∀ (t k : Int32), ¬ k ≤ 0 → b_X11_twice_30 Y t k = some (0, thr Y k) := by
    intro t k hk
    unfold b_X11_twice_30
    rw [dX_eq, if_neg (show ¬ (thr Y k) 0 0 ≤ 0 from hk)]
  have h5' : RX X Y R := h5
  cases e : ro Y R v with
  | none =>
    refine ⟨some 1, 0, X, 0, thr Y 1, ?_, ?_, rfl, (fun q => by cases q), h0 1⟩
    · unfold f_X10_twice
      rw [x_find h5' hY, bd_some, e]
      rfl
    · unfold f_X11_twice
      rw [y_rootAt hY, bd_some, e, if_neg (fun q => q rfl), bad _ 1 (by decide)]
  | some r =>
    obtain ⟨hr, er⟩ := ro_lt e
    have hr3 : r < 3 := by omega
    have hp := rt_in h5.1 hr3
    have ok := n_ok4 (show r < 4 by omega)
    have cl := nI_clamp (show r < 2 ^ 31 by omega)
    obtain ⟨a4, a5, k, k8, ek, f, g⟩ := ((QX_is X (thr Y 0) R) ▸ h6) r hr |>.1
    have ek : Y 11 r = nI k := ek
    have a4 : X (pl X r) 4 = Y 11 r := a4
    have a5 : X (pl X r) 5 = Y 14 r := a5
    by_cases hk : k = 0
    · subst hk
      refine ⟨some 3, 0, X, 0, thr Y 2, ?_, ?_, rfl, (fun q => by cases q), h0 2⟩
      · unfold f_X10_twice f_X7_hasNotices
        rw [x_find h5' hY, bd_some, e, Option.map_some, oC_some, if_pos (h5.1.1 r hr3), a4, ek, if_pos (by decide), bd_some, if_neg (fun q => q rfl)]
      · unfold f_X11_twice
        rw [y_rootAt hY, bd_some, e, show enc (some r) = nI r from rfl, if_pos (nm1 (show r < 2 ^ 31 by omega)), if_pos ok, cl, ek, if_neg (fun q => q rfl), bad _ 2 (by decide)]
    · obtain ⟨g1, g2, g3, n, hn, g4⟩ := g (k - 1) (by omega)
      have g1 : X (pl X r + 1) (k - 1) = Y 12 (8 * r + (k - 1)) + 1 := g1
      have g2 : X (pl X r + 2) (k - 1) = Y 13 (8 * r + (k - 1)) := g2
      have g3 : Y 12 (8 * r + (k - 1)) = 0 ∨ Y 12 (8 * r + (k - 1)) = 1 ∨ Y 12 (8 * r + (k - 1)) = 2 := g3
      have g4 : Y 13 (8 * r + (k - 1)) = nI n := g4
      obtain ⟨X', Y', x1, y1, q1, q2, q3, q4⟩ := c_tell h4 h5 h6 hr g3 hn
      have rr : RelR (i + 5) X (thr Y 0) R := RelR.of h123 h4 h78 h910 hI h14 h15
      have hpl : pl X' r = pl X r := by unfold pl; rw [q3 12 (by omega) (by omega) (by omega)]
      obtain ⟨b4, b5, -⟩ := ((QX_is X' Y' R) ▸ q1) r hr |>.1
      rw [hpl] at b4 b5
      refine ⟨none, (if Y' 14 r = 0 then Y' 11 r else -1), X', (if Y' 14 r = 0 then Y' 11 r else -1), Y', ?_, ?_, ?_, fun _ => rfl, rr.queue q2 q1 (fun q a b => q3 q (by omega) (by omega) (by omega)) (fun q a b => q3 q (by omega) (by omega) (by omega)) q4⟩
      · have hk1 : nI k - 1 = nI (k - 1) := n_sub1 (by omega)
        have xl : f_X7_tellLastAgain X (pl X r) = some X' := by
          unfold f_X7_tellLastAgain
          rw [dV_eq, a4, ek, hk1, if_neg (nI_pos (show k - 1 < 2 ^ 31 by omega)), if_neg (show ¬ (8 : Int32) ≤ nI (k - 1) from nI_ge (b := 8) (by omega) (by decide)), if_pos (n_ok (show k - 1 < 8 by omega) (by decide)), if_pos (n_ok (show k - 1 < 8 by omega) (by decide)), nI_clamp (show k - 1 < 2 ^ 31 by omega), g1, g2, g4, x1, bd_some]
        unfold f_X10_twice f_X7_hasNotices f_X7_countOrFlood
        rw [x_find h5' hY, bd_some, e, Option.map_some, oC_some, if_pos (h5.1.1 r hr3), a4, ek, if_neg (show ¬ nI k ≤ 0 from nI_nle (by omega) (by omega)), bd_some, if_pos one0, xl, bd_some, b4, b5]
        by_cases e5 : Y' 14 r = 0
        · rw [if_pos e5, if_pos e5, bd_some]
        · rw [if_neg e5, if_neg e5, bd_some]
      · have i1 : ((8 : Int32) * nI r + nI k) - 1 = nI (8 * r + (k - 1)) := by
          rw [n_8 hr3 k8, n_sub1 (by omega), show 8 * r + k - 1 = 8 * r + (k - 1) by omega]
        have c2 : okI (((8 : Int32) * nI r + nI k) - 1) 32 = true := by rw [i1]; exact n_ok (by omega) (by decide)
        have c3 : (((8 : Int32) * nI r + nI k) - 1).toNatClampNeg = 8 * r + (k - 1) := by rw [i1, nI_clamp (by omega)]
        unfold f_X11_twice b_X11_twice_30
        rw [y_rootAt hY, bd_some, e, show enc (some r) = nI r from rfl, if_pos (nm1 (show r < 2 ^ 31 by omega)), if_pos ok, cl, if_pos (show ¬ Y 11 r = 0 by rw [ek]; exact nI_ne0 (by omega) (by omega)), dX_eq, if_pos (show (thr Y 0) 0 0 ≤ 0 from Int32.le_refl 0), if_pos ok, show (pX Y 0 (upd (Y 0) 0 0)) 11 r = nI k from ek, if_pos c2, if_pos ok, if_pos c2, c3, show (pX Y 0 (upd (Y 0) 0 0)) 13 (8 * r + (k - 1)) = nI n from g4]
        rw [show (pX Y 0 (upd (Y 0) 0 0)) 12 (8 * r + (k - 1)) = Y 12 (8 * r + (k - 1)) from rfl, y1, bd_some, if_pos ok, if_pos ok]
        by_cases e5 : Y' 14 r = 0
        · rw [if_pos e5, if_pos e5]
        · rw [if_neg e5, if_neg e5]
      · rw [q4 0 (by omega) (by omega) (by omega) (by omega)]
        rfl

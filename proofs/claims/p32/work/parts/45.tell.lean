theorem x_tell_full {X : JX} {p : Nat} {a b : Int32} (h5 : X p 5 = 0) (h4 : X p 4 = nI 8) : f_X7_tell X p a b = some (pX (pX X p (upd (X p) 5 1)) p (upd ((pX X p (upd (X p) 5 1)) p) 4 0)) := by
  unfold f_X7_tell b_X7_tell_24
  rw [if_pos h5, h4, if_neg (show ¬ nI 8 < 0 by decide), if_neg (show ¬ nI 8 < 8 by decide), if_pos (show okB 1 = true from rfl)]
  rfl
theorem x_tell_add {X : JX} {p k : Nat} {a b : Int32} (h5 : X p 5 = 0) (h4 : X p 4 = nI k) (hk : k < 8) : f_X7_tell X p a b = some (pX (pX (pX X (p + 1) (upd (X (p + 1)) k a)) (p + 2) (upd (X (p + 2)) k b)) p (upd (X p) 4 (nI (k + 1)))) := by
  have s1 : ∀ F, (pX X (p + 1) F) p = X p := fun F => if_neg (by omega)
  have s2 : ∀ F, (pX X (p + 1) F) (p + 2) = X (p + 2) := fun F => if_neg (by omega)
  have s3 : ∀ F G, (pX (pX X (p + 1) F) (p + 2) G) p = X p := fun F G => (if_neg (by omega)).trans (s1 F)
  unfold f_X7_tell
  rw [if_pos h5, h4, if_neg (nI_pos (show k < 2 ^ 31 by omega)), if_pos (show nI k < 8 from nI_lt (b := 8) hk (by decide)), if_pos (n_ok (show k < 8 from hk) (by decide)), nI_clamp (show k < 2 ^ 31 by omega), dX_eq, s1, h4, if_pos (n_ok (show k < 8 from hk) (by decide)), nI_clamp (show k < 2 ^ 31 by omega), dX_eq, dX_eq, s2, s3, h4, n_add1]
theorem y_comes_full {Y : JX} {r : Nat} {a b : Int32} (hr : r < 3) (h5 : Y 14 r = 0) (h4 : Y 11 r = nI 8) : f_X11_comes Y (nI r) a b = some (pX (pX Y 11 (upd (Y 11) r 0)) 14 (upd (Y 14) r 1)) := by
  unfold f_X11_comes
  rw [if_neg (nm1 (show r < 2 ^ 31 by omega)), if_pos (n_ok4 (by omega)), if_pos (n_ok4 (by omega)), if_pos (n_ok4 (by omega)), nI_clamp (show r < 2 ^ 31 by omega), if_pos h5, h4, if_neg (show ¬ ¬ nI 8 = 8 from fun q => q rfl), if_pos (n_ok4 (show r < 4 by omega)), dX_eq, if_pos (n_ok4 (show r < 4 by omega))]
  rfl
theorem y_comes_add {Y : JX} {r k : Nat} {a b : Int32} (hr : r < 3) (h5 : Y 14 r = 0) (h4 : Y 11 r = nI k) (hk : k < 8) : f_X11_comes Y (nI r) a b = some (pX (pX (pX Y 12 (upd (Y 12) (8 * r + k) a)) 13 (upd (Y 13) (8 * r + k) b)) 11 (upd (Y 11) r (nI (k + 1)))) := by
  have c1 := n_ok4 (show r < 4 by omega)
  have c2 : okI (8 * nI r + nI k) 32 = true := by rw [n_8 hr (by omega)]; exact n_ok (by omega) (by decide)
  have c3 : (8 * nI r + nI k).toNatClampNeg = 8 * r + k := by rw [n_8 hr (by omega), nI_clamp (by omega)]
  unfold f_X11_comes
  rw [if_neg (nm1 (show r < 2 ^ 31 by omega)), if_pos c1, if_pos c1, if_pos c1, nI_clamp (show r < 2 ^ 31 by omega), if_pos h5, h4, if_pos (show ¬ nI k = 8 from fun q => by have := (nI_eq (a := k) (b := 8) (by omega) (by decide)).mp q; omega), if_pos c2, c3, dX_eq]
  rw [if_pos c1, show (pX Y 12 (upd (Y 12) (8 * r + k) a)) 11 r = nI k from h4, if_pos c2, c3, dX_eq, if_pos c1, if_pos c1, show (pX (pX Y 12 (upd (Y 12) (8 * r + k) a)) 13 (upd ((pX Y 12 (upd (Y 12) (8 * r + k) a)) 13) (8 * r + k) b)) 11 r = nI k from h4, n_add1]
  rfl
theorem c_tell {X Y : JX} {R r n : Nat} {v : Int32} (hY : RY Y R) (hX : RX X Y R) (hQ : QX X Y R) (hr : r < R) (hv : v = 0 ∨ v = 1 ∨ v = 2) (hn : n < 60) : ∃ X' Y', f_X7_tell X (pl X r) (v + 1) (nI n) = some X' ∧ f_X11_comes Y (nI r) v (nI n) = some Y' ∧ QX X' Y' R ∧ RX X' Y' R ∧ (∀ q, q ≠ pl X r → q ≠ pl X r + 1 → q ≠ pl X r + 2 → X' q = X q) ∧ (∀ q, q ≠ 11 → q ≠ 12 → q ≠ 13 → q ≠ 14 → Y' q = Y q) := by
  have hR := hY.1.1
  have hr3 : r < 3 := by omega
  have hp := rt_in hX.1 hr3
  obtain ⟨a4, a5, k, k8, e, f, g⟩ := ((QX_is X Y R) ▸ hQ) r hr |>.1
  by_cases e14 : Y 14 r = 0
  · by_cases e8 : k = 8
    · subst e8
      refine ⟨_, _, x_tell_full (a5.trans e14) (a4.trans e), y_comes_full hr3 e14 e, ?_, ?_, ?_, ?_⟩
      · refine QX_set hR hX.1 hQ hr ((if_neg (by omega)).trans (if_neg (by omega))) (fun q h1 _ _ => (if_neg h1).trans (if_neg h1)) (fun q h1 h2 => (if_neg (by omega)).trans (if_neg (by omega))) ?_ (fun s hs hsr => ⟨?_, ?_, fun j hj => ⟨rfl, rfl⟩⟩)
        · refine ⟨?_, ?_, 0, by omega, ?_, Or.inr ⟨?_, rfl⟩, fun j hj => absurd hj (Nat.not_lt_zero j)⟩
          · simp [p_at, u_at]
          · simp [p_at, u_at]
          · simp [p_at, u_at, nI_0]
          · simp [p_at, u_at]
        · simp [p_at, u_at, hsr]
        · simp [p_at, u_at, hsr]
      · exact RX_set hR hX hr ((if_neg (by omega)).trans (if_neg (by omega))) ((if_neg (by omega)).trans (if_neg (by omega))) (fun q h1 _ _ => (if_neg h1).trans (if_neg h1)) (by simp [p_at, u_at]) rfl
      · exact fun q h1 _ _ => (if_neg h1).trans (if_neg h1)
      · exact fun q h1 _ _ h4 => (if_neg h4).trans (if_neg h1)
    · have hk : k < 8 := by omega
      refine ⟨_, _, x_tell_add (a5.trans e14) (a4.trans e) hk, y_comes_add hr3 e14 e hk, ?_, ?_, ?_, ?_⟩
      · refine QX_set hR hX.1 hQ hr ((if_neg (by omega)).trans ((if_neg (by omega)).trans (if_neg (by omega)))) (fun q h1 h2 h3 => (if_neg h1).trans ((if_neg h3).trans (if_neg h2))) (fun q h1 h2 => (if_neg (by omega)).trans ((if_neg (by omega)).trans (if_neg (by omega)))) ?_ (fun s hs hsr => ⟨?_, rfl, fun j hj => ⟨?_, ?_⟩⟩)
        · refine ⟨?_, ?_, k + 1, by omega, ?_, Or.inl e14, fun j hj => ?_⟩
          · simp [p_at, u_at]
          · simp [p_at, u_at]
            exact a5
          · simp [p_at, u_at]
          · by_cases q : j = k
            · subst q
              refine ⟨?_, ?_, ?_, n, hn, ?_⟩
              · simp [p_at, u_at]
              · simp [p_at, u_at]
              · simp [p_at, u_at]
                exact hv
              · simp [p_at, u_at]
            · obtain ⟨g1, g2, g3, g4⟩ := g j (by omega)
              have qj : ¬ 8 * r + j = 8 * r + k := by omega
              refine ⟨?_, ?_, ?_, ?_⟩
              · simp [p_at, u_at, q]; exact g1
              · simp [p_at, u_at, q]; exact g2
              · simp [p_at, u_at, q]; exact g3
              · simp [p_at, u_at, q]; exact g4
        · simp [p_at, u_at, hsr]
        · have : ¬ 8 * s + j = 8 * r + k := by omega
          simp [p_at, u_at, this]
        · have : ¬ 8 * s + j = 8 * r + k := by omega
          simp [p_at, u_at, this]
      · exact RX_set hR hX hr ((if_neg (by omega)).trans ((if_neg (by omega)).trans (if_neg (by omega)))) ((if_neg (by omega)).trans ((if_neg (by omega)).trans (if_neg (by omega)))) (fun q h1 h2 h3 => (if_neg h1).trans ((if_neg h3).trans (if_neg h2))) (by simp [p_at, u_at]) rfl
      · exact fun q h1 h2 h3 => (if_neg h1).trans ((if_neg h3).trans (if_neg h2))
      · exact fun q h1 h2 h3 _ => (if_neg h1).trans ((if_neg h3).trans (if_neg h2))
  · have x1 : f_X7_tell X (pl X r) (v + 1) (nI n) = some X := by
      unfold f_X7_tell
      rw [if_neg (fun q => e14 (a5.symm.trans q))]
    have y1 : f_X11_comes Y (nI r) v (nI n) = some Y := by
      unfold f_X11_comes
      rw [if_neg (nm1 (show r < 2 ^ 31 by omega)), if_pos (n_ok4 (show r < 4 by omega)), nI_clamp (show r < 2 ^ 31 by omega), if_neg e14]
    exact ⟨X, Y, x1, y1, hQ, hX, fun _ _ _ _ => rfl, fun _ _ _ _ _ => rfl⟩

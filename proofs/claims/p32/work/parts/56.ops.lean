/-! ===== call: isQuiet ===== -/
theorem cnt_pos {p : Nat → Bool} : ∀ m i, fst p m i = none ↔ cnt p m i = 0 := by
  intro m
  induction m with
  | zero => intro i; exact ⟨fun _ => rfl, fun _ => rfl⟩
  | succ m ih =>
    intro i
    rw [fst_s, cnt_s]
    by_cases e : p i = true
    · rw [if_pos e, if_pos e]
      exact ⟨(fun q => absurd q (by simp)), (fun q => absurd q (by omega))⟩
    · rw [if_neg e, if_neg e, Nat.zero_add]
      exact ih (i + 1)
theorem op_19 {i : Nat} {X Y : JX} (h : Rel i X Y) : OpSim (Rel (i + 5)) X Y 19 := by
  have h' := (h.mono (show i ≤ i + 5 by omega)).thr (s := 0)
  obtain ⟨M, R, A, P, S, -, ⟨h4, h5, h6⟩, -, ⟨h9, h10⟩, -⟩ := h
  have hR := h4.1.1
  have hA := h9.1.1
  have ya : Y 0 30 = nI A := h9.1.2
  have xa : f_X4_countActs X = some (nI A) := by
    show some (X 45 3) = some (nI A)
    rw [h10.1]
  have yn : f_X11_firstNoticed (thr Y 0) = some (enc (fst (noisy Y) R 0)) := y_noticed (Y := thr Y 0) h4
  have yc : f_X11_firstCrawl (thr Y 0) = some (enc (fst (crawled Y) R 0)) := y_crawl (Y := thr Y 0) h4
  have key : ∀ v, f_X10_isQuiet X = some v → f_X11_isQuiet Y = some (v, thr Y 0) → OpSim (Rel (i + 5)) X Y 19 := fun v a b => ⟨v, thr Y 0, a, b, h'⟩
  have lt : ∀ r, r < 3 → ¬ enc (some r) = -1 := fun r hr => nm1 (by omega)
  have xq : ∀ z, oC ((fst (noisy Y) R 0).map (pl X)) (if ¬ nI A = 0 then some 0 else if ¬ nI (cnt (crawled Y) R 0) = 0 then some 0 else some (1 : Int32)) (fun q2 => if isRt q2 = true then some 0 else none) = z → f_X10_isQuiet X = z := by
    intro z hz
    unfold f_X10_isQuiet
    rw [x_noisy h4 h5 h6, bd_some, xa, bd_some, x_cc h4 h5 h6, bd_some]
    exact hz
  have yq : ∀ z, (if ¬ nI A = 0 then some ((0 : Int32), thr Y 0) else if ¬ enc (fst (noisy Y) R 0) = -1 then some (0, thr Y 0) else if ¬ enc (fst (crawled Y) R 0) = -1 then some (0, thr Y 0) else some (1, thr Y 0)) = z → f_X11_isQuiet Y = z := by
    intro z hz
    unfold f_X11_isQuiet
    rw [dX_eq, show (pX Y 0 (upd (Y 0) 0 0)) 0 30 = nI A from ya, yn, bd_some, yc, bd_some]
    exact hz
  by_cases ca : A = 0
  · have cA : ¬ ¬ nI A = 0 := fun q => q (by rw [ca]; rfl)
    cases en : fst (noisy Y) R 0 with
    | some r =>
      obtain ⟨-, hr, -⟩ := fst_some R 0 en
      refine key 0 (xq _ ?_) (yq _ ?_)
      · rw [en, Option.map_some, oC_some, if_pos (h5.1.1 r (by omega))]
      · rw [if_neg cA, en, if_pos (lt r (by omega))]
    | none =>
      by_cases ec : cnt (crawled Y) R 0 = 0
      · refine key 1 (xq _ ?_) (yq _ ?_)
        · rw [en, Option.map_none, oC_none, if_neg cA, ec, if_neg (fun q => q rfl)]
        · rw [if_neg cA, en, if_neg (fun q => q rfl), (cnt_pos R 0).mpr ec, if_neg (fun q => q rfl)]
      · refine key 0 (xq _ ?_) (yq _ ?_)
        · rw [en, Option.map_none, oC_none, if_neg cA, if_pos (nI_ne0 (by omega) (by have := cnt_le (crawled Y) R 0; omega))]
        · cases e3 : fst (crawled Y) R 0 with
          | none => exact absurd ((cnt_pos R 0).mp e3) ec
          | some r =>
            obtain ⟨-, hr, -⟩ := fst_some R 0 e3
            rw [if_neg cA, en, if_neg (fun q => q rfl), if_pos (lt r (by omega))]
  · have cA : ¬ nI A = 0 := nI_ne0 (by omega) (by omega)
    refine key 0 (xq _ ?_) (yq _ ?_)
    · cases en : fst (noisy Y) R 0 with
      | some r =>
        obtain ⟨-, hr, -⟩ := fst_some R 0 en
        rw [Option.map_some, oC_some, if_pos (h5.1.1 r (by omega))]
      | none => rw [Option.map_none, oC_none, if_pos cA]
    · rw [if_pos cA]

/-! ===== a work: what comes next is done ===== -/
theorem c_does {i M R P A left : Nat} {Xs Ys X Y : JX} (h : RelW i Xs Ys X Y M R P A) (hPL : PL Ys M P) (h37 : Ys 0 37 = nI P) (hi : i ≤ 2560) (hl : 1 ≤ left) (hl2 : left ≤ 500) : ∃ (c : Nat) (X' Y' : JX) (A' : Nat), c ≤ left ∧ f_X4_doNext X (nI left) = some (nI c, X') ∧ f_X11_does Y (nI left) = some (nI c, Y') ∧ RelW i Xs Ys X' Y' M R P A' ∧ (c = 0 → Y' = Y ∧ X' = X) := by
  have hW := h
  obtain ⟨⟨h1, h2, h3⟩, ⟨h4, h5, h6⟩, ⟨h7, h8, h9⟩, ⟨hK, hKX⟩, hL, -⟩ := h
  have hR := h4.1.1
  have hA := hK.1.1
  have yn := y_noticed h4
  have ya := y_act hK
  have yc := y_crawl h4
  have xn := x_noisy h4 h5 h6
  have xr := x_ready hK hKX
  have xc := x_crawled h4 h5 h6
  have l1 : ¬ nI left < 1 := fun z => by have := (nI_ltI (a := left) (b := 1) (by omega) (by decide)).mp z; omega
  have yhead : ∀ Z, (if ¬ enc (fst (noisy Y) R 0) = -1 then b_X11_does_35 Y (nI left) (enc (fst (noisy Y) R 0)) (enc (fst (rdy Y) A 0)) (enc (fst (crawled Y) R 0)) 1 else if enc (fst (rdy Y) A 0) = -1 then b_X11_does_35 Y (nI left) (enc (fst (noisy Y) R 0)) (enc (fst (rdy Y) A 0)) (enc (fst (crawled Y) R 0)) 1 else (f_X11_cost Y (enc (fst (rdy Y) A 0))).bind fun t4 => b_X11_does_35 Y (nI left) (enc (fst (noisy Y) R 0)) (enc (fst (rdy Y) A 0)) (enc (fst (crawled Y) R 0)) t4) = Z → f_X11_does Y (nI left) = Z := fun Z hZ => by
    unfold f_X11_does
    rw [yn, bd_some, ya, bd_some, yc, bd_some]
    exact hZ
  cases en : fst (noisy Y) R 0 with
  | some r =>
    obtain ⟨-, hr, hrn, -⟩ := fst_some R 0 en
    rw [en] at xn yhead
    have nr1 : ¬ nI r = -1 := nm1 (show r < 2 ^ 31 by omega)
    obtain ⟨X', Y', A', a1, a2, a3, a4, a5, a6, a7, a8, a9⟩ := c_hear h4 h5 h6 hK hKX (show r < R by omega) hrn
    refine ⟨1, X', Y', A', hl, ?_, ?_, ?_, fun z => absurd z (by omega)⟩
    · unfold f_X4_doNext
      rw [xn, bd_some, Option.map_some, oC_some, if_pos (h5.1.1 r (by omega)), a1, bd_some]
      rfl
    · refine yhead _ ?_
      rw [show enc (some r) = nI r from rfl, if_pos nr1]
      unfold b_X11_does_35 b_X11_does_61
      rw [if_neg l1, if_pos nr1, if_neg nr1, a2, bd_some]
      rfl
    · refine hW.go a4 a3 (h7.fr (fun q _ _ => a7 q (by omega) (by omega) (by omega) (by omega)) (fun q _ _ => a7 q (by omega) (by omega) (by omega) (by omega)) (fun q _ _ => a8 q (by omega) (by omega) (by omega) (by omega) (by omega)) (a8 31 (by omega) (by omega) (by omega) (by omega) (by omega))) (h8.cells (a8 2 (by omega) (by omega) (by omega) (by omega) (by omega)) (fun q _ _ => a8 q (by omega) (by omega) (by omega) (by omega) (by omega))) (h9.cells (a8 2 (by omega) (by omega) (by omega) (by omega) (by omega)) (a8 19 (by omega) (by omega) (by omega) (by omega) (by omega)) (a8 31 (by omega) (by omega) (by omega) (by omega) (by omega))) a5 a6 (hL.cells (a8 19 (by omega) (by omega) (by omega) (by omega) (by omega)) (a8 30 (by omega) (by omega) (by omega) (by omega) (by omega)) (a8 31 (by omega) (by omega) (by omega) (by omega) (by omega))) (fun q hq => a7 q (by omega) (by omega) (by omega) (by omega)) (fun q b1 b2 => a8 q (by omega) (by omega) (by omega) (by omega) (by omega)) (fun j b1 _ => a9 j b1)
  | none =>
    rw [en] at xn yhead
    have xh : ∀ Z, ((f_X0_firstReady X).bind fun t3 => (if t3 = -1 then (f_X8_firstCrawled X).bind fun o4 => oC o4 (some (0, X)) (fun q5 => if isRt q5 = true then (f_X4_crawlOn X q5).bind fun X6 => some (1, X6) else none) else (f_X4_act X t3 (nI left)).bind fun t7 => some (t7.1, t7.2))) = Z → f_X4_doNext X (nI left) = Z := fun Z hZ => by
      unfold f_X4_doNext
      rw [xn, bd_some, Option.map_none, oC_none]
      exact hZ
    rw [xr, bd_some] at xh
    cases ea : fst (rdy Y) A 0 with
    | some t =>
      obtain ⟨-, ht, hrd, -⟩ := fst_some A 0 ea
      have ht : t < A := by omega
      have h27 : Y 27 t = 0 := of_decide_eq_true hrd
      obtain ⟨⟨n, hn, e25⟩, -⟩ := hK.2.1 t ht
      rw [ea] at xh yhead
      have xh : ∀ Z, (if Y 25 t = -1 then (f_X8_firstCrawled X).bind fun o4 => oC o4 (some (0, X)) (fun q5 => if isRt q5 = true then (f_X4_crawlOn X q5).bind fun X6 => some (1, X6) else none) else (f_X4_act X (Y 25 t) (nI left)).bind fun t7 => some (t7.1, t7.2)) = Z → f_X4_doNext X (nI left) = Z := xh
      rw [e25, if_neg (nm1 (sm hn))] at xh
      have nt1 : ¬ nI t = -1 := nm1 (show t < 2 ^ 31 by omega)
      obtain ⟨c, hc1, hc21, ycost, hcase⟩ := c_act hW hPL h37 hi ht h27 hn e25 hl hl2
      rcases hcase with ⟨hlt, xa⟩ | ⟨hle, X', Y', A', xa, yact, hW'⟩
      · refine ⟨0, X, Y, A, Nat.zero_le _, ?_, ?_, hW, fun _ => ⟨rfl, rfl⟩⟩
        · refine xh _ ?_
          rw [xa]
          rfl
        · refine yhead _ ?_
          rw [show enc none = -1 from rfl, if_neg (fun z => z rfl), show enc (some t) = nI t from rfl, if_neg nt1, ycost, bd_some]
          unfold b_X11_does_35
          rw [if_pos (show nI left < nI c from nI_lt hlt (by omega))]
          rfl
      · refine ⟨c, X', Y', A', hle, ?_, ?_, hW', fun z => absurd z (by omega)⟩
        · refine xh _ ?_
          rw [xa]
          rfl
        · refine yhead _ ?_
          rw [show enc none = -1 from rfl, if_neg (fun z => z rfl), show enc (some t) = nI t from rfl, if_neg nt1, ycost, bd_some]
          unfold b_X11_does_35 b_X11_does_61
          rw [if_neg (show ¬ nI left < nI c from fun z => by have := (nI_ltI (by omega) (by omega)).mp z; omega), if_neg (fun z => z rfl), if_pos nt1, if_pos rfl, if_neg nt1, yact, bd_some]
    | none =>
      rw [ea] at xh yhead
      have xh : ∀ Z, ((f_X8_firstCrawled X).bind fun o4 => oC o4 (some (0, X)) (fun q5 => if isRt q5 = true then (f_X4_crawlOn X q5).bind fun X6 => some (1, X6) else none)) = Z → f_X4_doNext X (nI left) = Z := fun Z hZ => xh Z (by
        show (if (-1 : Int32) = -1 then _ else _) = Z
        rw [if_pos rfl]
        exact hZ)
      rw [xc, bd_some] at xh
      cases ec : fst (crawled Y) R 0 with
      | some r =>
        obtain ⟨-, hr, hrc, -⟩ := fst_some R 0 ec
        have nr1 : ¬ nI r = -1 := nm1 (show r < 2 ^ 31 by omega)
        rw [ec] at xh yhead
        obtain ⟨X', Y', A', a1, a2, a3⟩ := c_crawl hW (show r < R by omega) hrc
        refine ⟨1, X', Y', A', hl, ?_, ?_, a3, fun z => absurd z (by omega)⟩
        · refine xh _ ?_
          rw [Option.map_some, oC_some, if_pos (h5.1.1 r (by omega)), a1, bd_some]
          rfl
        · refine yhead _ ?_
          rw [show enc none = -1 from rfl, if_neg (fun z => z rfl), if_pos rfl, show enc (some r) = nI r from rfl]
          unfold b_X11_does_35 b_X11_does_61
          rw [if_neg l1, if_neg (fun z => z rfl), if_neg (fun z => z rfl), if_pos nr1, if_pos rfl, if_pos rfl, a2, bd_some]
          rfl
      | none =>
        rw [ec] at xh yhead
        refine ⟨0, X, Y, A, Nat.zero_le _, ?_, ?_, hW, fun _ => ⟨rfl, rfl⟩⟩
        · refine xh _ ?_
          rfl
        · refine yhead _ ?_
          rw [show enc none = -1 from rfl, if_neg (fun z => z rfl), if_pos rfl]
          unfold b_X11_does_35
          rw [if_neg l1, if_neg (fun z => z rfl), if_neg (fun z => z rfl), if_neg (fun z => z rfl)]
          rfl
/-- no step is done of none -/
theorem y_does0 {i M R P A : Nat} {Xs Ys X Y : JX} {v : Int32} (h : RelW i Xs Ys X Y M R P A) (hv : v ≤ 0) : f_X11_does Y v = some (0, Y) := by
  obtain ⟨⟨h1, h2, h3⟩, ⟨h4, h5, h6⟩, -, ⟨hK, hKX⟩, -⟩ := h
  have hA := hK.1.1
  have l1 : ∀ c : Nat, 1 ≤ c → c < 2 ^ 31 → v < nI c := fun c hc hc2 => by
    rw [Int32.le_iff_toInt_le, show (0 : Int32).toInt = 0 from rfl] at hv
    rw [Int32.lt_iff_toInt_lt, nI_toInt hc2]
    omega
  have b35 : ∀ (a b c : Int32) (s : Nat), 1 ≤ s → s < 2 ^ 31 → b_X11_does_35 Y v a b c (nI s) = some (0, Y) := fun a b c s hs hs2 => by
    unfold b_X11_does_35
    rw [if_pos (l1 s hs hs2)]
  unfold f_X11_does
  rw [y_noticed h4, bd_some, y_act hK, bd_some, y_crawl h4, bd_some]
  have o1 := b35 (enc (fst (noisy Y) R 0)) (enc (fst (rdy Y) A 0)) (enc (fst (crawled Y) R 0)) 1 (by omega) (by omega)
  have o1 : b_X11_does_35 Y v (enc (fst (noisy Y) R 0)) (enc (fst (rdy Y) A 0)) (enc (fst (crawled Y) R 0)) 1 = some (0, Y) := o1
  by_cases c1 : enc (fst (noisy Y) R 0) = -1
  · rw [if_neg (fun z => z c1)]
    by_cases c2 : enc (fst (rdy Y) A 0) = -1
    · rw [if_pos c2, o1]
    · rw [if_neg c2]
      cases ea : fst (rdy Y) A 0 with
      | none => rw [ea] at c2; exact absurd rfl c2
      | some t =>
        obtain ⟨-, ht, -⟩ := fst_some A 0 ea
        obtain ⟨⟨n, hn, e25⟩, -⟩ := hK.2.1 t (by omega)
        obtain ⟨-, -, l, hl, el, -⟩ := h3 n hn
        rw [show enc (some t) = nI t from rfl, y_cost h1 h4 hA (show t < A by omega) hn e25]
        split
        · rw [bd_some, el, show (1 : Int32) + nI l = nI (1 + l) from nI_add 1 l]
          exact b35 _ _ _ _ (by omega) (by omega)
        · rw [bd_some]
          exact b35 _ _ _ 1 (by omega) (by omega)
  · rw [if_pos c1, o1]

/-! ===== a root goes, both sides ===== -/
def RG (Y : JX) (R i : Nat) : Prop := (R ≤ 3 ∧ Y 0 12 = nI R) ∧ (∀ r, r < R → rf Y r < 60 ∧ Y 10 r = nI (rf Y r) ∧ (i ≤ r → Y 1 (rf Y r) ≠ 0) ∧ Y 2 (rf Y r) ≠ 0) ∧ ∀ r s, r < R → s < R → r ≠ s → rf Y r ≠ rf Y s ∧ ¬ On (prY Y) (prY Y (rf Y r)) (rf Y s)
theorem RG.ry {Y : JX} {R : Nat} (h : RG Y R 0) : RY Y R := ⟨h.1, fun r hr => ⟨(h.2.1 r hr).1, (h.2.1 r hr).2.1, (h.2.1 r hr).2.2.1 (Nat.zero_le r), (h.2.1 r hr).2.2.2⟩, h.2.2⟩
theorem RY.rg {Y : JX} {R : Nat} (h : RY Y R) : RG Y R 0 := ⟨h.1, fun r hr => ⟨(h.2.1 r hr).1, (h.2.1 r hr).2.1, fun _ => (h.2.1 r hr).2.2.1, (h.2.1 r hr).2.2.2⟩, h.2.2⟩
theorem x_findG {X Y : JX} {R i r : Nat} (hX : RX X Y R) (hY : RG Y R i) (hr : r < R) : f_X8_find X (Y 10 r) = some (some (pl X r)) := by
  have hR := hY.1.1
  unfold f_X8_find l_X8_find_2
  have h := x_find_loop (v := Y 10 r) hX.1 hY.1.1 hX.2.1 R 0 1000 (Nat.zero_add _) (by omega)
  rw [show (0 : Int32) = nI 0 from rfl, h, fri_congr R 0 (g' := Y 10) (fun r _ hr => hX.2.2 r (by omega)), fri_at (r := r) (Nat.zero_le _) (by omega) rfl (fun s _ hs es => by
    by_cases q : s = r
    · exact q
    · exact absurd (show rf Y s = rf Y r by unfold rf; rw [es]) (hY.2.2 s r (by omega) hr q).1)]
  rfl
theorem tu_lt {R r s : Nat} (hr : r < R) (hs : s < R - 1) : tu r s < R := by unfold tu; split <;> omega
theorem tu_ne {r s : Nat} : tu r s ≠ r := by unfold tu; split <;> omega
theorem tu_inj {r s t : Nat} (h : tu r s = tu r t) : s = t := by
  unfold tu at h
  split at h <;> split at h <;> omega
theorem c_drop {X Y : JX} {R r i i' : Nat} (hY : RG Y R i) (hX : RX X Y R) (hQ : QX X Y R) (hr : r < R) (hi : ∀ s, i' ≤ s → s < R - 1 → i ≤ tu r s) : ∃ X' Y', f_X8_end X (Y 10 r) = some X' ∧ f_X11_drops Y (nI r) = some Y' ∧ RG Y' (R - 1) i' ∧ RX X' Y' (R - 1) ∧ QX X' Y' (R - 1) ∧ (∀ k, k ≠ 11 → k ≠ 12 → X' k = X k) ∧ (∀ c, c ≠ 0 → (c < 10 ∨ 18 < c) → Y' c = Y c) ∧ ∀ j, j ≠ 12 → Y' 0 j = Y 0 j := by
  have hR := hY.1.1
  rw [QX_is] at hQ
  obtain ⟨X', ex, fx, x11, xpl⟩ := x_end_loop hX.1 hR hr hX.2.1 R 0 0 1000 X (Nat.zero_add _) (by omega) (by rw [if_pos (by omega)]) (fun _ _ => rfl) (fun j _ => by rw [if_neg (by omega)])
  let Y1 : JX := pX Y 0 (upd (Y 0) 12 (nI (R - 1)))
  obtain ⟨Y', ey, fy, c10, c11, c14, c15, c16, c12, c13, c17, c18⟩ := y_drops_loop hR (R - 1 - r) r 1000 Y1 (by omega) (by omega) rfl (fun s h1 h2 => by
    obtain ⟨⟨-, -, k, -, -, e14, -⟩, -, -, ⟨w, -, -, e15, -⟩, e18⟩ := hQ s h2
    exact ⟨e14.imp id (fun z => z.1), e15.imp id (fun z => z.1), fun n hn => (e18 n hn).2⟩)
  have hpl : ∀ s, s < R - 1 → pl X' s = pl X (tu r s) := fun s hs => by rw [xpl s (by omega), if_pos hs]
  have y0 : Y' 0 = upd (Y 0) 12 (nI (R - 1)) := (fy 0 (by omega)).trans rfl
  have y10 : ∀ s, s < R - 1 → Y' 10 s = Y 10 (tu r s) := fun s hs => by rw [c10]; exact sh_1 hs
  have yc : ∀ c, c ≠ 0 → (c < 10 ∨ 18 < c) → Y' c = Y c := fun c h0 hc => (fy c hc).trans (if_neg h0)
  have hrf : ∀ s, s < R - 1 → rf Y' s = rf Y (tu r s) := fun s hs => by unfold rf; rw [y10 s hs]
  have hpr : prY Y' = prY Y := prY_fr (yc 1 (by omega) (by omega)) (yc 3 (by omega) (by omega))
  refine ⟨X', Y', ?_, ?_, ⟨⟨by omega, by rw [y0, u_at, if_pos rfl]⟩, fun s hs => ?_, fun s t hs ht hst => ?_⟩, ⟨⟨fun s hs => ?_, fun s t hs ht e => ?_⟩, x11, fun s hs => ?_⟩, ?_, fx, yc, fun j hj => by rw [y0, u_at, if_neg hj]⟩
  · unfold f_X8_end
    rw [x_findG hX hY hr, bd_some, oC_some, if_pos (hX.1.1 r (by omega))]
    exact ex
  · unfold f_X11_drops
    rw [hY.1.2, n_sub1 (by omega), dX_eq]
    exact ey
  · rw [hrf s hs, y10 s hs, yc 1 (by omega) (by omega), yc 2 (by omega) (by omega)]
    obtain ⟨a, b, c, d⟩ := hY.2.1 (tu r s) (tu_lt hr hs)
    exact ⟨a, b, fun z => c (hi s z hs), d⟩
  · rw [hrf s hs, hrf t ht, hpr]
    exact hY.2.2 (tu r s) (tu r t) (tu_lt hr hs) (tu_lt hr ht) (fun z => hst (tu_inj z))
  · rw [xpl s hs]
    by_cases q : s < R - 1
    · rw [if_pos q]; exact hX.1.1 _ (by have := tu_lt hr q; omega)
    · rw [if_neg q]
      by_cases q2 : s = R - 1
      · rw [if_pos q2]; exact hX.1.1 r (by omega)
      · rw [if_neg q2]; exact hX.1.1 s hs
  · have key : ∀ s, s < 3 → ∃ t, t < 3 ∧ pl X' s = pl X t ∧ t = if s < R - 1 then tu r s else if s = R - 1 then r else s := by
      intro s hs
      refine ⟨_, ?_, ?_, rfl⟩
      · by_cases q : s < R - 1
        · rw [if_pos q]; have := tu_lt hr q; omega
        · rw [if_neg q]; split <;> omega
      · rw [xpl s hs]
        by_cases q : s < R - 1
        · rw [if_pos q, if_pos q]
        · rw [if_neg q, if_neg q]
          by_cases q2 : s = R - 1
          · rw [if_pos q2, if_pos q2]
          · rw [if_neg q2, if_neg q2]
    obtain ⟨s', hs', es, vs⟩ := key s hs
    obtain ⟨t', ht', et, vt⟩ := key t ht
    have := hX.1.2 s' t' hs' ht' (by rw [← es, ← et, e])
    rw [vs, vt] at this
    unfold tu at this
    revert this
    split <;> split <;> split <;> split <;> omega
  · rw [hpl s hs, y10 s hs, fx _ (by have := rt_in hX.1 (show tu r s < 3 by have := tu_lt hr hs; omega); omega) (by have := rt_in hX.1 (show tu r s < 3 by have := tu_lt hr hs; omega); omega)]
    exact hX.2.2 _ (tu_lt hr hs)
  · rw [QX_is]
    intro s hs
    obtain ⟨a, b⟩ := hQ (tu r s) (tu_lt hr hs)
    have hp := rt_in hX.1 (show tu r s < 3 by have := tu_lt hr hs; omega)
    rw [hpl s hs]
    refine ⟨a.mv (fx _ (by omega) (by omega)) (fx _ (by omega) (by omega)) (fx _ (by omega) (by omega)) ?_ ?_ (fun j hj => ?_) (fun j hj => ?_), b.mv (fx _ (by omega) (by omega)) (fx _ (by omega) (by omega)) (fx _ (by omega) (by omega)) (fx _ (by omega) (by omega)) ?_ ?_ (fun j hj => ?_) (fun j hj => ?_)⟩
    · rw [c11]; exact sh_1 hs
    · rw [c14]; exact sh_1 hs
    · rw [c12]; exact sh_w hs hj
    · rw [c13]; exact sh_w hs hj
    · rw [c15]; exact sh_1 hs
    · rw [c16]; exact sh_1 hs
    · rw [c17]; exact sh_w hs hj
    · rw [c18]; exact sh_w hs hj
/-! where only roots and acts change -/
def RelO (i : Nat) (X Y : JX) (M P S : Nat) : Prop := (TY Y M ∧ TX X Y ∧ TV Y i) ∧ (EX X Y ∧ EY Y M) ∧ (IY Y P S ∧ IX X Y P S ∧ IQ Y P S) ∧ SX X Y ∧ SY Y
theorem RelO.close {i R A M P S : Nat} {X Y X' Y' : JX} (h : RelO i X Y M P S) (h4 : RY Y' R) (hr : RX X' Y' R) (hq : QX X' Y' R) (hK : KY Y' A) (hK2 : KX X' Y' A) (x : ∀ q, q < 11 ∨ 33 < q → q ≠ 45 → q ≠ 46 → q ≠ 47 → q ≠ 48 → X' q = X q) (y : ∀ q, q ≠ 0 → q < 10 ∨ 18 < q → q ≠ 25 → q ≠ 26 → q ≠ 27 → Y' q = Y q) (y0 : ∀ j, j ≠ 12 → j ≠ 30 → Y' 0 j = Y 0 j) : Rel i X' Y' := by
  obtain ⟨⟨h1, h2, h3⟩, ⟨h7, h8⟩, ⟨h11, h12, h13⟩, h14, h15⟩ := h
  have z : ∀ q, 27 < q → Y' q = Y q := fun q hq => y q (by omega) (by omega) (by omega) (by omega) (by omega)
  have w : ∀ q, 18 < q → q < 25 → Y' q = Y q := fun q hq hq2 => y q (by omega) (by omega) (by omega) (by omega) (by omega)
  have x2 : ∀ q, 48 < q → X' q = X q := fun q hq => x q (by omega) (by omega) (by omega) (by omega) (by omega)
  have y10 : ∀ q, 0 < q → q < 10 → Y' q = Y q := fun q hq hq2 => y q (by omega) (by omega) (by omega) (by omega) (by omega)
  have xs : ∀ q, q < 11 → X' q = X q := fun q hq => x q (by omega) (by omega) (by omega) (by omega) (by omega)
  refine ⟨M, R, A, P, S, ⟨h1.fr (y0 2 (by omega) (by omega)) (fun q _ _ => y10 q (by omega) (by omega)), h2.fr (by rw [xs 1 (by omega)]) (fun q _ _ => xs q (by omega)) (fun q _ _ => x2 q (by omega)) (y0 2 (by omega) (by omega)) (fun q _ _ => y10 q (by omega) (by omega)), ?_⟩, ⟨h4, hr, hq⟩, ⟨h7.fr (fun q _ _ => x q (by omega) (by omega) (by omega) (by omega) (by omega)) (fun q _ _ => x2 q (by omega)) (fun q _ _ => w q (by omega) (by omega)) (z 31 (by omega)), ?_⟩, ⟨hK, hK2⟩, ⟨?_, ?_, ?_⟩, ?_, ?_⟩
  · unfold TV
    rw [y10 1 (by omega) (by omega), y10 3 (by omega) (by omega), y10 4 (by omega) (by omega), y10 5 (by omega) (by omega), y10 6 (by omega) (by omega), y10 7 (by omega) (by omega), y10 8 (by omega) (by omega)]
    exact h3
  · unfold EY
    rw [y10 2 (by omega) (by omega), w 22 (by omega) (by omega), w 19 (by omega) (by omega), w 20 (by omega) (by omega), w 23 (by omega) (by omega), w 24 (by omega) (by omega)]
    exact h8
  · unfold IY
    rw [y0 37 (by omega) (by omega), y0 41 (by omega) (by omega), y0 2 (by omega) (by omega), y10 2 (by omega) (by omega), z 28 (by omega), z 29 (by omega), z 30 (by omega)]
    exact h11
  · unfold IX liveP deadP
    rw [x2 49 (by omega), x2 50 (by omega), x2 51 (by omega), x2 52 (by omega), z 28 (by omega), z 29 (by omega), z 30 (by omega)]
    exact h12
  · unfold IQ
    rw [w 19 (by omega) (by omega), z 29 (by omega), z 30 (by omega), z 31 (by omega)]
    exact h13
  · unfold SX
    rw [x 34 (by omega) (by omega) (by omega) (by omega) (by omega), xs 0 (by omega), y0 1 (by omega) (by omega), y0 28 (by omega) (by omega), y0 29 (by omega) (by omega), y0 34 (by omega) (by omega), y0 35 (by omega) (by omega), y0 36 (by omega) (by omega)]
    exact h14
  · unfold SY
    rw [y0 1 (by omega) (by omega), y0 28 (by omega) (by omega), y0 29 (by omega) (by omega), y0 34 (by omega) (by omega), y0 35 (by omega) (by omega), y0 36 (by omega) (by omega)]
    exact h15
/-! where acts come, the roots stay -/
theorem RY.fa {Y Y' : JX} {R : Nat} (h : RY Y R) (f : frY Y' Y) : RY Y' R := h.fr (f.2 12 (by omega)) (f.1 1 (by omega) (by omega) (by omega) (by omega)) (f.1 2 (by omega) (by omega) (by omega) (by omega)) (f.1 3 (by omega) (by omega) (by omega) (by omega)) (f.1 10 (by omega) (by omega) (by omega) (by omega))
theorem RX.fa {X X' Y Y' : JX} {R : Nat} (hR : R ≤ 3) (h : RX X Y R) (fx : frX X' X) (f : frY Y' Y) : RX X' Y' R := h.fr hR (fun q _ _ => fx q (by omega) (by omega) (by omega)) (f.1 10 (by omega) (by omega) (by omega) (by omega))
theorem QX.fa {X X' Y Y' : JX} {R : Nat} (hR : R ≤ 3) (hP : PX X) (h : QX X Y R) (fx : frX X' X) (f : frY Y' Y) : QX X' Y' R := h.fr hR hP (fun q _ _ => fx q (by omega) (by omega) (by omega)) (fun q _ _ => f.1 q (by omega) (by omega) (by omega) (by omega))

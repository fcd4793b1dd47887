/-! ===== the law's own judgement: over the class's world and the law's three rows; a budget of calls that may throw rides in a cell that is none of the heap ===== -/
def shZ (k : Nat) : Nat × Nat := if k < 176 then shX k else (0, 32)
def LZ : Lay := (179, shZ, obX)
def bud (X : JX) : Nat := (X 179 0).toNatClampNeg
def tail3 (ad : Nat → Nat) (cA : Nat → ClassId) (X : JX) : va_W := [(ad 176, .inl (cA 0, (32, .inl (X 176)))), (ad 177, .inl (cA 0, (32, .inl (X 177)))), (ad 178, .inl (cA 0, (32, .inl (X 178))))]
theorem cZZ {ad : Nat → Nat} {cA : Nat → ClassId} {f : Nat → Int32} {k : Nat} (h : k < 176) : cZ LZ ad cA f k = cZ LX ad cA f k := by
  unfold cZ
  rw [show LZ.2.1 k = LX.2.1 k from if_pos h]
  rfl
theorem wZZ (ad : Nat → Nat) (cA : Nat → ClassId) (X : JX) : wZ LZ ad cA X = wZ LX ad cA X ++ tail3 ad cA X := by
  unfold wZ
  show (List.range (176 + 3)).map _ = _
  rw [List.range_add, List.map_append]
  congr 1
/-- behind a call of the class: its cells from X', the law's from X, the budget less by k -/
def mrg (X X' : JX) (k : Int32) : JX := fun q => if q = 179 then upd (X 179) 0 (X 179 0 - k) else if q < 176 then X' q else X q
theorem mrg_lo {X X' : JX} {k : Int32} {q : Nat} (h : q < 176) : mrg X X' k q = X' q := by
  unfold mrg
  rw [if_neg (by omega), if_pos h]
theorem mrg_hi {X X' : JX} {k : Int32} {q : Nat} (h : 176 ≤ q) (h2 : q ≠ 179) : mrg X X' k q = X q := by
  unfold mrg
  rw [if_neg h2, if_neg (by omega)]
theorem mrg_179 {X X' : JX} {k : Int32} : mrg X X' k 179 0 = X 179 0 - k := by
  unfold mrg
  rw [if_pos rfl]
  exact if_pos rfl
theorem mrg_self (X : JX) : mrg X X 0 = X := by
  funext q
  unfold mrg
  by_cases h : q = 179
  · rw [if_pos h, h]
    funext j
    unfold upd
    by_cases hj : j = 0
    · rw [if_pos hj, hj, Int32.sub_zero]
    · rw [if_neg hj]
  · rw [if_neg h]
    split <;> rfl
theorem wZ_mrg (ad : Nat → Nat) (cA : Nat → ClassId) (X X' : JX) (k : Int32) : wZ LZ ad cA (mrg X X' k) = wZ LX ad cA X' ++ tail3 ad cA X := by
  rw [wZZ]
  have h1 : wZ LX ad cA (mrg X X' k) = wZ LX ad cA X' := by
    unfold wZ
    apply List.map_congr_left
    intro q hq
    rw [mrg_lo (List.mem_range.mp hq)]
  have h2 : tail3 ad cA (mrg X X' k) = tail3 ad cA X := by
    unfold tail3
    rw [mrg_hi (by decide) (by decide), mrg_hi (by decide) (by decide), mrg_hi (by decide) (by decide)]
  rw [h1, h2]
/-- the budget set -/
def sbu (X : JX) (k : Int32) : JX := pX X 179 (upd (X 179) 0 k)
theorem sbu_179 {X : JX} {k : Int32} : sbu X k 179 0 = k := by
  unfold sbu
  rw [pX_self]
  exact if_pos rfl
theorem sbu_ne {X : JX} {k : Int32} {q : Nat} (h : q ≠ 179) : sbu X k q = X q := pX_ne X _ h
theorem wZ_sbu (ad : Nat → Nat) (cA : Nat → ClassId) (X : JX) (k : Int32) : wZ LZ ad cA (sbu X k) = wZ LZ ad cA X := by
  unfold wZ
  apply List.map_congr_left
  intro q hq
  have h : q < 179 := List.mem_range.mp hq
  rw [sbu_ne (by omega)]
theorem bud_sub {x : Int32} (h : 0 < x) : (x - 1).toNatClampNeg + 1 = x.toNatClampNeg := by
  obtain ⟨j, h1, rfl⟩ := nI_of (show ¬ x < 0 from fun z => absurd (Int32.lt_trans h z) Int32.lt_irrefl)
  have hj : 0 < j := (nI_ltI (a := 0) (b := j) (by decide) h1).mp h
  obtain ⟨b, rfl⟩ := Nat.exists_eq_add_of_le' hj
  rw [nI_pred, nI_clamp (by omega), nI_clamp h1]
theorem bud_sub12 {x : Int32} (h : 12 ≤ x) : (x - 12).toNatClampNeg + 12 = x.toNatClampNeg := by
  obtain ⟨j, h1, rfl⟩ := nI_of (show ¬ x < 0 from fun z => absurd (Int32.lt_of_le_of_lt h z) (by decide))
  have hj : 12 ≤ j := (nI_leI (a := 12) (b := j) (by decide) h1).mp h
  obtain ⟨b, rfl⟩ := Nat.exists_eq_add_of_le' hj
  have e : nI (b + 12) - 12 = nI b := by
    rw [show nI (b + 12) = nI b + 12 from (nI_add b 12).symm]
    exact Int32.add_sub_cancel _ _
  rw [e, nI_clamp (by omega), nI_clamp h1]
def JB (L : Lay) (n : Nat) (κ : JK) (X : JX) (pc : Nat) (lv : List (Nat × Value)) (st : List Value) : Prop := match κ with
  | (p, l, e, R, s, m, args, below, meth, c, D, A, ad, cA, rs, Q) => ∀ (kc ks : Nat) (H : Heap) (locs : List Loc) (ls : Array Slot), kc + bud X ≤ R.cells → ks + 6 * bud X ≤ R.slots → va_P D vwCl (wZ L ad cA X ++ rs) H → va_D A (wZ L ad cA X ++ rs) → va_S A s.heap H locs → lv_has ls n lv → W p l e R s m args below meth c H locs kc ks Q (F0 m pc ls st)
def jB (κ : JK) : Prop := match κ with
  | (_, l, _, _, s, _, _, _, _, _, _, A, _, _, _, _) => l.stackTraces = false ∧ jH A s
/-- the law's end: with 1 -/
def jLw (r : Int32) (κ : JK) : Prop := match κ with
  | (p, l, e, R, s, m, args, below, meth, c, _, A, _, _, _, Q) => r = 1 ∧ (∀ (pc : Nat) (H : Heap) (locs : List Loc) (ls : Array Slot), decode cL_law pc = .ok (.ireturn, 1) → va_S A s.heap H locs → W p l e R s m args below meth c H locs 600104 7301314 Q (F0 m pc ls [.int 1])) ∧ R.cells = 600104 ∧ R.slots = 7301314
/-- the end of the law's own method that calls: its room is spent as declared -/
def jFb (nb : Nat) (x : JE) (κ : JK) : Prop := match κ with
  | (_, _, _, R, s, _, args, below, _, _, D, A, ad, cA, rs, Q) => Q = MQ below (jQc LZ D ad cA rs A x) args s nb (6 * nb) A ∧ R.cells = nb ∧ R.slots = 6 * nb
/-- the script's value at a place, as the law reads it -/
def cellV (xs : Nat → Int32) (Ln : Nat) (k : Int32) : Int32 := if k < Int32.ofNat Ln ∧ ¬ k < 0 then xs k.toNatClampNeg else 7919 * (k + 3) * (k + 11)
def jS (sb : Nat) (g : Int32 → Int32) (κ : JK) : Prop := ∃ (Ln : Nat) (xs : Nat → Int32), Ln ≤ 260 ∧ jSc sb Ln xs κ ∧ ∀ k, ¬ k < 0 → g k = cellV xs Ln k
section JBR
variable {L : Lay} {n : Nat} {cc : ByteArray} {own : String} {ret : Option FieldType} {d : Nat} {κ : JK} {X : JX} {pc : Nat} {lv : List (Nat × Value)} {st : List Value} {β : Type} {r : β}
theorem k_iconst (K : jOk n cc own ret d κ) {z : Int} {v : Int32} (dg : decode cc pc = .ok (.iconst z, 1)) (hv : Int32.ofInt z = v) (k : JB L n κ X (pc + 1) lv (.int v :: st)) : JB L n κ X pc lv st := by
  obtain ⟨p, l, e, R, s, m, args, below, meth, c, D, A, ad, cA, rs, Q⟩ := κ
  obtain ⟨hx, hb, hml, hown, hts, hr0, hlk, hK, hA, hfr, hlo, hN⟩ := K
  intro kc ks H locs ls g1 g2 hP hD hS hl
  exact lv_iconst hx hb dg hv (k kc ks H locs ls g1 g2 hP hD hS hl)
theorem k_bipush (K : jOk n cc own ret d κ) {z : Int} {v : Int32} (dg : decode cc pc = .ok (.bipush z, 2)) (hv : (Int8.ofInt z).toInt32 = v) (k : JB L n κ X (pc + 2) lv (.int v :: st)) : JB L n κ X pc lv st := by
  obtain ⟨p, l, e, R, s, m, args, below, meth, c, D, A, ad, cA, rs, Q⟩ := κ
  obtain ⟨hx, hb, hml, hown, hts, hr0, hlk, hK, hA, hfr, hlo, hN⟩ := K
  intro kc ks H locs ls g1 g2 hP hD hS hl
  exact lv_bipush hx hb dg hv (k kc ks H locs ls g1 g2 hP hD hS hl)
theorem k_sipush (K : jOk n cc own ret d κ) {z : Int} {v : Int32} (dg : decode cc pc = .ok (.sipush z, 3)) (hv : (Int16.ofInt z).toInt32 = v) (k : JB L n κ X (pc + 3) lv (.int v :: st)) : JB L n κ X pc lv st := by
  obtain ⟨p, l, e, R, s, m, args, below, meth, c, D, A, ad, cA, rs, Q⟩ := κ
  obtain ⟨hx, hb, hml, hown, hts, hr0, hlk, hK, hA, hfr, hlo, hN⟩ := K
  intro kc ks H locs ls g1 g2 hP hD hS hl
  exact lv_sipush hx hb dg hv (k kc ks H locs ls g1 g2 hP hD hS hl)
theorem k_ldc (K : jOk n cc own ret d κ) {idx : Nat} {v : Int32} (h : Cond.constant own idx v ∈ gTbl) (dg : decode cc pc = .ok (.ldc idx, 2)) (k : JB L n κ X (pc + 2) lv (.int v :: st)) : JB L n κ X pc lv st := by
  obtain ⟨p, l, e, R, s, m, args, below, meth, c, D, A, ad, cA, rs, Q⟩ := κ
  obtain ⟨hx, hb, hml, hown, hts, hr0, hlk, hK, hA, hfr, hlo, hN⟩ := K
  intro kc ks H locs ls g1 g2 hP hD hS hl
  exact lv_ldc hx hb hown (hts _ h) dg (k kc ks H locs ls g1 g2 hP hD hS hl)
theorem k_iload_n (K : jOk n cc own ret d κ) {i : Fin 4} {x : Int32} (dg : decode cc pc = .ok (.iload_n i, 1)) (q : Nat) (h : lv[q]? = some ((i : Nat), .int x)) (k : JB L n κ X (pc + 1) lv (.int x :: st)) : JB L n κ X pc lv st := by
  obtain ⟨p, l, e, R, s, m, args, below, meth, c, D, A, ad, cA, rs, Q⟩ := κ
  obtain ⟨hx, hb, hml, hown, hts, hr0, hlk, hK, hA, hfr, hlo, hN⟩ := K
  intro kc ks H locs ls g1 g2 hP hD hS hl
  exact lv_iload_n hx hb dg rfl (lv_at hl q h) (k kc ks H locs ls g1 g2 hP hD hS hl)
theorem k_iload (K : jOk n cc own ret d κ) {i : Nat} {x : Int32} (dg : decode cc pc = .ok (.iload i, 2)) (q : Nat) (h : lv[q]? = some (i, .int x)) (k : JB L n κ X (pc + 2) lv (.int x :: st)) : JB L n κ X pc lv st := by
  obtain ⟨p, l, e, R, s, m, args, below, meth, c, D, A, ad, cA, rs, Q⟩ := κ
  obtain ⟨hx, hb, hml, hown, hts, hr0, hlk, hK, hA, hfr, hlo, hN⟩ := K
  intro kc ks H locs ls g1 g2 hP hD hS hl
  exact lv_iload hx hb dg (lv_at hl q h) (k kc ks H locs ls g1 g2 hP hD hS hl)
theorem k_aload_n (K : jOk n cc own ret d κ) {i : Fin 4} {x : Nat} (dg : decode cc pc = .ok (.aload_n i, 1)) (q : Nat) (h : lv[q]? = some ((i : Nat), .ref x)) (k : JB L n κ X (pc + 1) lv (.ref x :: st)) : JB L n κ X pc lv st := by
  obtain ⟨p, l, e, R, s, m, args, below, meth, c, D, A, ad, cA, rs, Q⟩ := κ
  obtain ⟨hx, hb, hml, hown, hts, hr0, hlk, hK, hA, hfr, hlo, hN⟩ := K
  intro kc ks H locs ls g1 g2 hP hD hS hl
  exact lv_aload_n hx hb dg rfl (lv_at hl q h) (k kc ks H locs ls g1 g2 hP hD hS hl)
theorem k_aload (K : jOk n cc own ret d κ) {i : Nat} {x : Nat} (dg : decode cc pc = .ok (.aload i, 2)) (q : Nat) (h : lv[q]? = some (i, .ref x)) (k : JB L n κ X (pc + 2) lv (.ref x :: st)) : JB L n κ X pc lv st := by
  obtain ⟨p, l, e, R, s, m, args, below, meth, c, D, A, ad, cA, rs, Q⟩ := κ
  obtain ⟨hx, hb, hml, hown, hts, hr0, hlk, hK, hA, hfr, hlo, hN⟩ := K
  intro kc ks H locs ls g1 g2 hP hD hS hl
  exact lv_aload hx hb dg (lv_at hl q h) (k kc ks H locs ls g1 g2 hP hD hS hl)
theorem k_istore_n (K : jOk n cc own ret d κ) {i : Fin 4} {x : Int32} (dg : decode cc pc = .ok (.istore_n i, 1)) (hn : (i : Nat) < n) (k : JB L n κ X (pc + 1) (jst (i : Nat) (.int x) lv) st) : JB L n κ X pc lv (.int x :: st) := by
  obtain ⟨p, l, e, R, s, m, args, below, meth, c, D, A, ad, cA, rs, Q⟩ := κ
  obtain ⟨hx, hb, hml, hown, hts, hr0, hlk, hK, hA, hfr, hlo, hN⟩ := K
  intro kc ks H locs ls g1 g2 hP hD hS hl
  exact lv_istore_n hx hb dg rfl hl hn rfl (fun ls hl => k kc ks H locs ls g1 g2 hP hD hS hl)
theorem k_istoreV_n (K : jOk n cc own ret d κ) {i : Fin 4} {x : Int32} {a : Int32 → Option β} (dg : decode cc pc = .ok (.istore_n i, 1)) (hn : (i : Nat) < n) (hr : nV x a = some r) (k : ∀ v, a v = some r → JB L n κ X (pc + 1) (jst (i : Nat) (.int v) lv) st) : JB L n κ X pc lv (.int x :: st) := by
  obtain ⟨p, l, e, R, s, m, args, below, meth, c, D, A, ad, cA, rs, Q⟩ := κ
  obtain ⟨hx, hb, hml, hown, hts, hr0, hlk, hK, hA, hfr, hlo, hN⟩ := K
  intro kc ks H locs ls g1 g2 hP hD hS hl
  exact lv_istore_n hx hb dg rfl hl hn rfl (fun ls hl => k x hr kc ks H locs ls g1 g2 hP hD hS hl)
theorem k_istore (K : jOk n cc own ret d κ) {i : Nat} {x : Int32} (dg : decode cc pc = .ok (.istore i, 2)) (hn : i < n) (k : JB L n κ X (pc + 2) (jst i (.int x) lv) st) : JB L n κ X pc lv (.int x :: st) := by
  obtain ⟨p, l, e, R, s, m, args, below, meth, c, D, A, ad, cA, rs, Q⟩ := κ
  obtain ⟨hx, hb, hml, hown, hts, hr0, hlk, hK, hA, hfr, hlo, hN⟩ := K
  intro kc ks H locs ls g1 g2 hP hD hS hl
  exact lv_istore hx hb dg hl hn rfl (fun ls hl => k kc ks H locs ls g1 g2 hP hD hS hl)
theorem k_istoreV (K : jOk n cc own ret d κ) {i : Nat} {x : Int32} {a : Int32 → Option β} (dg : decode cc pc = .ok (.istore i, 2)) (hn : i < n) (hr : nV x a = some r) (k : ∀ v, a v = some r → JB L n κ X (pc + 2) (jst i (.int v) lv) st) : JB L n κ X pc lv (.int x :: st) := by
  obtain ⟨p, l, e, R, s, m, args, below, meth, c, D, A, ad, cA, rs, Q⟩ := κ
  obtain ⟨hx, hb, hml, hown, hts, hr0, hlk, hK, hA, hfr, hlo, hN⟩ := K
  intro kc ks H locs ls g1 g2 hP hD hS hl
  exact lv_istore hx hb dg hl hn rfl (fun ls hl => k x hr kc ks H locs ls g1 g2 hP hD hS hl)
theorem k_iincV (K : jOk n cc own ret d κ) {i : Nat} {z : Int} {x v : Int32} {a : Int32 → Option β} (dg : decode cc pc = .ok (.iinc i z, 3)) (q : Nat) (h : lv[q]? = some (i, .int x)) (hz : Int32.ofInt z = v) (hn : i < n) (hr : nV (x + v) a = some r) (k : ∀ v, a v = some r → JB L n κ X (pc + 3) (jst i (.int v) lv) st) : JB L n κ X pc lv st := by
  obtain ⟨p, l, e, R, s, m, args, below, meth, c, D, A, ad, cA, rs, Q⟩ := κ
  obtain ⟨hx, hb, hml, hown, hts, hr0, hlk, hK, hA, hfr, hlo, hN⟩ := K
  intro kc ks H locs ls g1 g2 hP hD hS hl
  subst hz; exact lv_iinc hx hb dg hl h rfl hn rfl (fun ls hl => k _ hr kc ks H locs ls g1 g2 hP hD hS hl)
theorem k_iadd (K : jOk n cc own ret d κ) {x y : Int32} (dg : decode cc pc = .ok (.iadd, 1)) (k : JB L n κ X (pc + 1) lv (.int (x + y) :: st)) : JB L n κ X pc lv (.int y :: .int x :: st) := by
  obtain ⟨p, l, e, R, s, m, args, below, meth, c, D, A, ad, cA, rs, Q⟩ := κ
  obtain ⟨hx, hb, hml, hown, hts, hr0, hlk, hK, hA, hfr, hlo, hN⟩ := K
  intro kc ks H locs ls g1 g2 hP hD hS hl
  exact lv_iadd hx hb dg (k kc ks H locs ls g1 g2 hP hD hS hl)
theorem k_isub (K : jOk n cc own ret d κ) {x y : Int32} (dg : decode cc pc = .ok (.isub, 1)) (k : JB L n κ X (pc + 1) lv (.int (x - y) :: st)) : JB L n κ X pc lv (.int y :: .int x :: st) := by
  obtain ⟨p, l, e, R, s, m, args, below, meth, c, D, A, ad, cA, rs, Q⟩ := κ
  obtain ⟨hx, hb, hml, hown, hts, hr0, hlk, hK, hA, hfr, hlo, hN⟩ := K
  intro kc ks H locs ls g1 g2 hP hD hS hl
  exact lv_isub hx hb dg (k kc ks H locs ls g1 g2 hP hD hS hl)
theorem k_imul (K : jOk n cc own ret d κ) {x y : Int32} (dg : decode cc pc = .ok (.imul, 1)) (k : JB L n κ X (pc + 1) lv (.int (x * y) :: st)) : JB L n κ X pc lv (.int y :: .int x :: st) := by
  obtain ⟨p, l, e, R, s, m, args, below, meth, c, D, A, ad, cA, rs, Q⟩ := κ
  obtain ⟨hx, hb, hml, hown, hts, hr0, hlk, hK, hA, hfr, hlo, hN⟩ := K
  intro kc ks H locs ls g1 g2 hP hD hS hl
  exact lv_imul hx hb dg (k kc ks H locs ls g1 g2 hP hD hS hl)
theorem k_iand (K : jOk n cc own ret d κ) {x y : Int32} (dg : decode cc pc = .ok (.iand, 1)) (k : JB L n κ X (pc + 1) lv (.int (x &&& y) :: st)) : JB L n κ X pc lv (.int y :: .int x :: st) := by
  obtain ⟨p, l, e, R, s, m, args, below, meth, c, D, A, ad, cA, rs, Q⟩ := κ
  obtain ⟨hx, hb, hml, hown, hts, hr0, hlk, hK, hA, hfr, hlo, hN⟩ := K
  intro kc ks H locs ls g1 g2 hP hD hS hl
  exact lv_iand hx hb dg (k kc ks H locs ls g1 g2 hP hD hS hl)
theorem k_ishr (K : jOk n cc own ret d κ) {x y : Int32} (dg : decode cc pc = .ok (.ishr, 1)) (k : JB L n κ X (pc + 1) lv (.int (x >>> (y &&& 31)) :: st)) : JB L n κ X pc lv (.int y :: .int x :: st) := by
  obtain ⟨p, l, e, R, s, m, args, below, meth, c, D, A, ad, cA, rs, Q⟩ := κ
  obtain ⟨hx, hb, hml, hown, hts, hr0, hlk, hK, hA, hfr, hlo, hN⟩ := K
  intro kc ks H locs ls g1 g2 hP hD hS hl
  exact lv_ishr hx hb dg (k kc ks H locs ls g1 g2 hP hD hS hl)
theorem k_idiv (K : jOk n cc own ret d κ) {x y : Int32} (dg : decode cc pc = .ok (.idiv, 1)) (hy : ¬ y = 0) (k : JB L n κ X (pc + 1) lv (.int (x / y) :: st)) : JB L n κ X pc lv (.int y :: .int x :: st) := by
  obtain ⟨p, l, e, R, s, m, args, below, meth, c, D, A, ad, cA, rs, Q⟩ := κ
  obtain ⟨hx, hb, hml, hown, hts, hr0, hlk, hK, hA, hfr, hlo, hN⟩ := K
  intro kc ks H locs ls g1 g2 hP hD hS hl
  exact lv_idiv hx hb dg hy (k kc ks H locs ls g1 g2 hP hD hS hl)
theorem k_irem (K : jOk n cc own ret d κ) {x y : Int32} (dg : decode cc pc = .ok (.irem, 1)) (hy : ¬ y = 0) (k : JB L n κ X (pc + 1) lv (.int (x - x / y * y) :: st)) : JB L n κ X pc lv (.int y :: .int x :: st) := by
  obtain ⟨p, l, e, R, s, m, args, below, meth, c, D, A, ad, cA, rs, Q⟩ := κ
  obtain ⟨hx, hb, hml, hown, hts, hr0, hlk, hK, hA, hfr, hlo, hN⟩ := K
  intro kc ks H locs ls g1 g2 hP hD hS hl
  exact lv_irem hx hb dg hy (k kc ks H locs ls g1 g2 hP hD hS hl)
theorem k_i2c (K : jOk n cc own ret d κ) {x : Int32} (dg : decode cc pc = .ok (.i2c, 1)) (k : JB L n κ X (pc + 1) lv (.int (c16 x) :: st)) : JB L n κ X pc lv (.int x :: st) := by
  obtain ⟨p, l, e, R, s, m, args, below, meth, c, D, A, ad, cA, rs, Q⟩ := κ
  obtain ⟨hx, hb, hml, hown, hts, hr0, hlk, hK, hA, hfr, hlo, hN⟩ := K
  intro kc ks H locs ls g1 g2 hP hD hS hl
  exact lv_i2c hx hb dg rfl (k kc ks H locs ls g1 g2 hP hD hS hl)
theorem k_pop (K : jOk n cc own ret d κ) {v : Value} (dg : decode cc pc = .ok (.pop, 1)) (hv : v.category = 1) (k : JB L n κ X (pc + 1) lv st) : JB L n κ X pc lv (v :: st) := by
  obtain ⟨p, l, e, R, s, m, args, below, meth, c, D, A, ad, cA, rs, Q⟩ := κ
  obtain ⟨hx, hb, hml, hown, hts, hr0, hlk, hK, hA, hfr, hlo, hN⟩ := K
  intro kc ks H locs ls g1 g2 hP hD hS hl
  exact lv_pop hx hb dg hv (k kc ks H locs ls g1 g2 hP hD hS hl)
theorem k_dup2 (K : jOk n cc own ret d κ) {v u : Value} (dg : decode cc pc = .ok (.dup2, 1)) (hv : v.category = 1) (hu : u.category = 1) (k : JB L n κ X (pc + 1) lv (v :: u :: v :: u :: st)) : JB L n κ X pc lv (v :: u :: st) := by
  obtain ⟨p, l, e, R, s, m, args, below, meth, c, D, A, ad, cA, rs, Q⟩ := κ
  obtain ⟨hx, hb, hml, hown, hts, hr0, hlk, hK, hA, hfr, hlo, hN⟩ := K
  intro kc ks H locs ls g1 g2 hP hD hS hl
  exact lv_dup2_11 hx hb dg hv hu (k kc ks H locs ls g1 g2 hP hD hS hl)
theorem k_if_eq (K : jOk n cc own ret d κ) {x : Int32} {off : Int} {tgt : Nat} {a b : Option β} (dg : decode cc pc = .ok (.ifCond .eq off, 3)) (ht : (pc : Int) + off = (tgt : Int)) (hr : (if x = 0 then a else b) = some r) (kt : a = some r → JB L n κ X tgt lv st) (kf : b = some r → JB L n κ X (pc + 3) lv st) : JB L n κ X pc lv (.int x :: st) := by
  obtain ⟨p, l, e, R, s, m, args, below, meth, c, D, A, ad, cA, rs, Q⟩ := κ
  obtain ⟨hx, hb, hml, hown, hts, hr0, hlk, hK, hA, hfr, hlo, hN⟩ := K
  intro kc ks H locs ls g1 g2 hP hD hS hl
  exact lv_if_eq hx hb dg ht (fun h => kt (by rw [if_pos h] at hr; exact hr) kc ks H locs ls g1 g2 hP hD hS hl) (fun h => kf (by rw [if_neg h] at hr; exact hr) kc ks H locs ls g1 g2 hP hD hS hl)
theorem k_icmp_eq (K : jOk n cc own ret d κ) {x y : Int32} {off : Int} {tgt : Nat} {a b : Option β} (dg : decode cc pc = .ok (.if_icmp .eq off, 3)) (ht : (pc : Int) + off = (tgt : Int)) (hr : (if x = y then a else b) = some r) (kt : a = some r → JB L n κ X tgt lv st) (kf : b = some r → JB L n κ X (pc + 3) lv st) : JB L n κ X pc lv (.int y :: .int x :: st) := by
  obtain ⟨p, l, e, R, s, m, args, below, meth, c, D, A, ad, cA, rs, Q⟩ := κ
  obtain ⟨hx, hb, hml, hown, hts, hr0, hlk, hK, hA, hfr, hlo, hN⟩ := K
  intro kc ks H locs ls g1 g2 hP hD hS hl
  exact lv_icmp_eq hx hb dg ht (fun h => kt (by rw [if_pos h] at hr; exact hr) kc ks H locs ls g1 g2 hP hD hS hl) (fun h => kf (by rw [if_neg h] at hr; exact hr) kc ks H locs ls g1 g2 hP hD hS hl)
theorem k_if_ne (K : jOk n cc own ret d κ) {x : Int32} {off : Int} {tgt : Nat} {a b : Option β} (dg : decode cc pc = .ok (.ifCond .ne off, 3)) (ht : (pc : Int) + off = (tgt : Int)) (hr : (if ¬ x = 0 then a else b) = some r) (kt : a = some r → JB L n κ X tgt lv st) (kf : b = some r → JB L n κ X (pc + 3) lv st) : JB L n κ X pc lv (.int x :: st) := by
  obtain ⟨p, l, e, R, s, m, args, below, meth, c, D, A, ad, cA, rs, Q⟩ := κ
  obtain ⟨hx, hb, hml, hown, hts, hr0, hlk, hK, hA, hfr, hlo, hN⟩ := K
  intro kc ks H locs ls g1 g2 hP hD hS hl
  exact lv_if_ne hx hb dg ht (fun h => kt (by rw [if_pos h] at hr; exact hr) kc ks H locs ls g1 g2 hP hD hS hl) (fun h => kf (by rw [if_neg (fun q => q h)] at hr; exact hr) kc ks H locs ls g1 g2 hP hD hS hl)
theorem k_icmp_ne (K : jOk n cc own ret d κ) {x y : Int32} {off : Int} {tgt : Nat} {a b : Option β} (dg : decode cc pc = .ok (.if_icmp .ne off, 3)) (ht : (pc : Int) + off = (tgt : Int)) (hr : (if ¬ x = y then a else b) = some r) (kt : a = some r → JB L n κ X tgt lv st) (kf : b = some r → JB L n κ X (pc + 3) lv st) : JB L n κ X pc lv (.int y :: .int x :: st) := by
  obtain ⟨p, l, e, R, s, m, args, below, meth, c, D, A, ad, cA, rs, Q⟩ := κ
  obtain ⟨hx, hb, hml, hown, hts, hr0, hlk, hK, hA, hfr, hlo, hN⟩ := K
  intro kc ks H locs ls g1 g2 hP hD hS hl
  exact lv_icmp_ne hx hb dg ht (fun h => kt (by rw [if_pos h] at hr; exact hr) kc ks H locs ls g1 g2 hP hD hS hl) (fun h => kf (by rw [if_neg (fun q => q h)] at hr; exact hr) kc ks H locs ls g1 g2 hP hD hS hl)
theorem k_if_lt (K : jOk n cc own ret d κ) {x : Int32} {off : Int} {tgt : Nat} {a b : Option β} (dg : decode cc pc = .ok (.ifCond .lt off, 3)) (ht : (pc : Int) + off = (tgt : Int)) (hr : (if x < 0 then a else b) = some r) (kt : a = some r → JB L n κ X tgt lv st) (kf : b = some r → JB L n κ X (pc + 3) lv st) : JB L n κ X pc lv (.int x :: st) := by
  obtain ⟨p, l, e, R, s, m, args, below, meth, c, D, A, ad, cA, rs, Q⟩ := κ
  obtain ⟨hx, hb, hml, hown, hts, hr0, hlk, hK, hA, hfr, hlo, hN⟩ := K
  intro kc ks H locs ls g1 g2 hP hD hS hl
  exact lv_if_lt hx hb dg ht (fun h => kt (by rw [if_pos h] at hr; exact hr) kc ks H locs ls g1 g2 hP hD hS hl) (fun h => kf (by rw [if_neg h] at hr; exact hr) kc ks H locs ls g1 g2 hP hD hS hl)
theorem k_icmp_lt (K : jOk n cc own ret d κ) {x y : Int32} {off : Int} {tgt : Nat} {a b : Option β} (dg : decode cc pc = .ok (.if_icmp .lt off, 3)) (ht : (pc : Int) + off = (tgt : Int)) (hr : (if x < y then a else b) = some r) (kt : a = some r → JB L n κ X tgt lv st) (kf : b = some r → JB L n κ X (pc + 3) lv st) : JB L n κ X pc lv (.int y :: .int x :: st) := by
  obtain ⟨p, l, e, R, s, m, args, below, meth, c, D, A, ad, cA, rs, Q⟩ := κ
  obtain ⟨hx, hb, hml, hown, hts, hr0, hlk, hK, hA, hfr, hlo, hN⟩ := K
  intro kc ks H locs ls g1 g2 hP hD hS hl
  exact lv_icmp_lt hx hb dg ht (fun h => kt (by rw [if_pos h] at hr; exact hr) kc ks H locs ls g1 g2 hP hD hS hl) (fun h => kf (by rw [if_neg h] at hr; exact hr) kc ks H locs ls g1 g2 hP hD hS hl)
theorem k_if_ge (K : jOk n cc own ret d κ) {x : Int32} {off : Int} {tgt : Nat} {a b : Option β} (dg : decode cc pc = .ok (.ifCond .ge off, 3)) (ht : (pc : Int) + off = (tgt : Int)) (hr : (if 0 ≤ x then a else b) = some r) (kt : a = some r → JB L n κ X tgt lv st) (kf : b = some r → JB L n κ X (pc + 3) lv st) : JB L n κ X pc lv (.int x :: st) := by
  obtain ⟨p, l, e, R, s, m, args, below, meth, c, D, A, ad, cA, rs, Q⟩ := κ
  obtain ⟨hx, hb, hml, hown, hts, hr0, hlk, hK, hA, hfr, hlo, hN⟩ := K
  intro kc ks H locs ls g1 g2 hP hD hS hl
  exact lv_if_ge hx hb dg ht (fun h => kt (by rw [if_pos h] at hr; exact hr) kc ks H locs ls g1 g2 hP hD hS hl) (fun h => kf (by rw [if_neg h] at hr; exact hr) kc ks H locs ls g1 g2 hP hD hS hl)
theorem k_icmp_ge (K : jOk n cc own ret d κ) {x y : Int32} {off : Int} {tgt : Nat} {a b : Option β} (dg : decode cc pc = .ok (.if_icmp .ge off, 3)) (ht : (pc : Int) + off = (tgt : Int)) (hr : (if y ≤ x then a else b) = some r) (kt : a = some r → JB L n κ X tgt lv st) (kf : b = some r → JB L n κ X (pc + 3) lv st) : JB L n κ X pc lv (.int y :: .int x :: st) := by
  obtain ⟨p, l, e, R, s, m, args, below, meth, c, D, A, ad, cA, rs, Q⟩ := κ
  obtain ⟨hx, hb, hml, hown, hts, hr0, hlk, hK, hA, hfr, hlo, hN⟩ := K
  intro kc ks H locs ls g1 g2 hP hD hS hl
  exact lv_icmp_ge hx hb dg ht (fun h => kt (by rw [if_pos h] at hr; exact hr) kc ks H locs ls g1 g2 hP hD hS hl) (fun h => kf (by rw [if_neg h] at hr; exact hr) kc ks H locs ls g1 g2 hP hD hS hl)
theorem k_if_gt (K : jOk n cc own ret d κ) {x : Int32} {off : Int} {tgt : Nat} {a b : Option β} (dg : decode cc pc = .ok (.ifCond .gt off, 3)) (ht : (pc : Int) + off = (tgt : Int)) (hr : (if 0 < x then a else b) = some r) (kt : a = some r → JB L n κ X tgt lv st) (kf : b = some r → JB L n κ X (pc + 3) lv st) : JB L n κ X pc lv (.int x :: st) := by
  obtain ⟨p, l, e, R, s, m, args, below, meth, c, D, A, ad, cA, rs, Q⟩ := κ
  obtain ⟨hx, hb, hml, hown, hts, hr0, hlk, hK, hA, hfr, hlo, hN⟩ := K
  intro kc ks H locs ls g1 g2 hP hD hS hl
  exact lv_if_gt hx hb dg ht (fun h => kt (by rw [if_pos h] at hr; exact hr) kc ks H locs ls g1 g2 hP hD hS hl) (fun h => kf (by rw [if_neg h] at hr; exact hr) kc ks H locs ls g1 g2 hP hD hS hl)
theorem k_icmp_gt (K : jOk n cc own ret d κ) {x y : Int32} {off : Int} {tgt : Nat} {a b : Option β} (dg : decode cc pc = .ok (.if_icmp .gt off, 3)) (ht : (pc : Int) + off = (tgt : Int)) (hr : (if y < x then a else b) = some r) (kt : a = some r → JB L n κ X tgt lv st) (kf : b = some r → JB L n κ X (pc + 3) lv st) : JB L n κ X pc lv (.int y :: .int x :: st) := by
  obtain ⟨p, l, e, R, s, m, args, below, meth, c, D, A, ad, cA, rs, Q⟩ := κ
  obtain ⟨hx, hb, hml, hown, hts, hr0, hlk, hK, hA, hfr, hlo, hN⟩ := K
  intro kc ks H locs ls g1 g2 hP hD hS hl
  exact lv_icmp_gt hx hb dg ht (fun h => kt (by rw [if_pos h] at hr; exact hr) kc ks H locs ls g1 g2 hP hD hS hl) (fun h => kf (by rw [if_neg h] at hr; exact hr) kc ks H locs ls g1 g2 hP hD hS hl)
theorem k_if_le (K : jOk n cc own ret d κ) {x : Int32} {off : Int} {tgt : Nat} {a b : Option β} (dg : decode cc pc = .ok (.ifCond .le off, 3)) (ht : (pc : Int) + off = (tgt : Int)) (hr : (if x ≤ 0 then a else b) = some r) (kt : a = some r → JB L n κ X tgt lv st) (kf : b = some r → JB L n κ X (pc + 3) lv st) : JB L n κ X pc lv (.int x :: st) := by
  obtain ⟨p, l, e, R, s, m, args, below, meth, c, D, A, ad, cA, rs, Q⟩ := κ
  obtain ⟨hx, hb, hml, hown, hts, hr0, hlk, hK, hA, hfr, hlo, hN⟩ := K
  intro kc ks H locs ls g1 g2 hP hD hS hl
  exact lv_if_le hx hb dg ht (fun h => kt (by rw [if_pos h] at hr; exact hr) kc ks H locs ls g1 g2 hP hD hS hl) (fun h => kf (by rw [if_neg h] at hr; exact hr) kc ks H locs ls g1 g2 hP hD hS hl)
theorem k_icmp_le (K : jOk n cc own ret d κ) {x y : Int32} {off : Int} {tgt : Nat} {a b : Option β} (dg : decode cc pc = .ok (.if_icmp .le off, 3)) (ht : (pc : Int) + off = (tgt : Int)) (hr : (if x ≤ y then a else b) = some r) (kt : a = some r → JB L n κ X tgt lv st) (kf : b = some r → JB L n κ X (pc + 3) lv st) : JB L n κ X pc lv (.int y :: .int x :: st) := by
  obtain ⟨p, l, e, R, s, m, args, below, meth, c, D, A, ad, cA, rs, Q⟩ := κ
  obtain ⟨hx, hb, hml, hown, hts, hr0, hlk, hK, hA, hfr, hlo, hN⟩ := K
  intro kc ks H locs ls g1 g2 hP hD hS hl
  exact lv_icmp_le hx hb dg ht (fun h => kt (by rw [if_pos h] at hr; exact hr) kc ks H locs ls g1 g2 hP hD hS hl) (fun h => kf (by rw [if_neg h] at hr; exact hr) kc ks H locs ls g1 g2 hP hD hS hl)
theorem k_goto (K : jOk n cc own ret d κ) {off : Int} {tgt : Nat} (dg : decode cc pc = .ok (.goto off, 3)) (ht : (pc : Int) + off = (tgt : Int)) (k : JB L n κ X tgt lv st) : JB L n κ X pc lv st := by
  obtain ⟨p, l, e, R, s, m, args, below, meth, c, D, A, ad, cA, rs, Q⟩ := κ
  obtain ⟨hx, hb, hml, hown, hts, hr0, hlk, hK, hA, hfr, hlo, hN⟩ := K
  intro kc ks H locs ls g1 g2 hP hD hS hl
  exact lv_goto hx hb dg ht (k kc ks H locs ls g1 g2 hP hD hS hl)
theorem k_guard {c : Prop} [Decidable c] {a : Option β} (hr : (if c then a else none) = some r) (k : c → a = some r → JB L n κ X pc lv st) : JB L n κ X pc lv st := k (g_if hr).1 (g_if hr).2
theorem k_guardN {c : Prop} [Decidable c] {a : Option β} (hr : (if c then none else a) = some r) (k : ¬ c → a = some r → JB L n κ X pc lv st) : JB L n κ X pc lv st := by
  by_cases h : c
  · rw [if_pos h] at hr; cases hr
  · rw [if_neg h] at hr; exact k h hr
theorem k_sub {lv' : List (Nat × Value)} (ks : List Nat) (h : lv_pick lv ks = lv') (k : JB L n κ X pc lv' st) : JB L n κ X pc lv st := by
  obtain ⟨p, l, e, R, s, m, args, below, meth, c, D, A, ad, cA, rs, Q⟩ := κ
  intro kc ks9 H locs ls g1 g2 hP hD hS hl
  exact k kc ks9 H locs ls g1 g2 hP hD hS (lv_sub hl ks h)
theorem k_iaload (K : jOk n cc own ret d κ) {k z : Nat} {i : Int32} {a : Option β} (hs : L.2.1 k = (0, z)) (hk : k < L.1) (dg : decode cc pc = .ok (.iaload, 1)) (hr : (if okI i z = true then a else none) = some r) (kk : a = some r → JB L n κ X (pc + 1) lv (.int (X k i.toNatClampNeg) :: st)) : JB L n κ X pc lv (.int i :: .ref (jad κ k) :: st) := by
  obtain ⟨p, l, e, R, s, m, args, below, meth, c, D, A, ad, cA, rs, Q⟩ := κ
  obtain ⟨hx, hb, hml, hown, hts, hr0, hlk, hK, hA, hfr, hlo, hN⟩ := K
  intro kc ks H locs ls g1 g2 hP hD hS hl
  obtain ⟨h1, h2⟩ := g_if hr
  exact va_iald hx hb hK hP k 0 (by rw [wZ_get hk, cZ_0 hs]; rfl) rfl (okI_in h1) dg (kk h2 kc ks H locs ls g1 g2 hP hD hS hl)
theorem k_iastoreV (K : jOk n cc own ret d κ) {k z : Nat} {i v : Int32} {a : JX → Option β} (hs : L.2.1 k = (0, z)) (hk : k < L.1) (h179 : 179 ≠ k) (dg : decode cc pc = .ok (.iastore, 1)) (hr : (if okI i z = true then nX (pX X k (upd (X k) i.toNatClampNeg v)) a else none) = some r) (kk : ∀ X, a X = some r → JB L n κ X (pc + 1) lv st) : JB L n κ X pc lv (.int v :: .int i :: .ref (jad κ k) :: st) := by
  obtain ⟨p, l, e, R, s, m, args, below, meth, c, D, A, ad, cA, rs, Q⟩ := κ
  obtain ⟨hx, hb, hml, hown, hts, hr0, hlk, hK, hA, hfr, hlo, hN⟩ := K
  intro kc ks H locs ls g1 g2 hP hD hS hl
  obtain ⟨h1, h2⟩ := g_if hr
  have g3 : bud (pX X k (upd (X k) i.toNatClampNeg v)) = bud X := by
    unfold bud
    rw [pX_ne X _ h179]
  refine va_iast hx hb hK hP hD hS k 0 (by rw [wZ_get hk, cZ_0 hs]; rfl) rfl (okI_in h1) dg (fun H locs hP hD hS => ?_)
  have e : (jad (p, l, e, R, s, m, args, below, meth, c, D, A, ad, cA, rs, Q) k, (Sum.inl (cA 0, z, Sum.inl (upd (X k) i.toNatClampNeg v)) : va_E)) = (ad k, cZ L ad cA (pX X k (upd (X k) i.toNatClampNeg v) k) k) := by
    rw [pX_self, cZ_0 hs]; rfl
  rw [e, wZ_set hk (fun q h => pX_ne X _ h)] at hP hD
  exact kk _ h2 kc ks H locs ls (by rw [g3]; exact g1) (by rw [g3]; exact g2) hP hD hS hl
theorem k_lret (K : jOk n cc own ret d κ) {v r : Int32} (F : jLw r κ) (hr : some v = some r) (hc : cc = cL_law) (dg : decode cc pc = .ok (.ireturn, 1)) : JB L n κ X pc lv [.int v] := by
  obtain ⟨p, l, e, R, s, m, args, below, meth, c, D, A, ad, cA, rs, Q⟩ := κ
  obtain ⟨hx, hb, hml, hown, hts, hr0, hlk, hK, hA, hfr, hlo, hN⟩ := K
  intro kc ks H locs ls g1 g2 hP hD hS hl
  cases hr
  obtain ⟨rfl, F2, h1, h2⟩ := F
  subst hc
  exact W.widen (k := 600104) (n := 7301314) (by omega) (by omega) (F2 pc H locs ls dg hS)
theorem k_zret (K : jOk n cc own ret d κ) {nb : Nat} {v : Int32} {out : β → JE} {ρ : β} (dg : decode cc pc = .ok (.ireturn, 1)) (hi : ret = some .boolean) (hz : okB v = true) (F : jFb nb (out r) κ) (hr : some ρ = some r) (ho : out ρ = (none, some (.int v), X)) : JB LZ n κ X pc lv [.int v] := by
  obtain ⟨p, l, e, R, s, m, args, below, meth, c, D, A, ad, cA, rs, Q⟩ := κ
  obtain ⟨hx, hb, hml, hown, hts, hr0, hlk, hK, hA, hfr, hlo, hN⟩ := K
  intro kc ks H locs ls g1 g2 hP hD hS hl
  cases hr
  rw [ho] at F
  obtain ⟨hQ, h1, h2⟩ := F
  rw [hQ]
  refine W.widen (k := nb) (n := 6 * nb) (by omega) (by omega) ?_
  exact W.zret hx hb (hr0.trans hi) (okB_n hz) (fun t ht hW => ⟨⟨rfl, rfl, by rw [ht]; exact hP⟩, hS.F ht⟩) hS.2.2 dg hlk
variable {y : MethodName} {cy : ByteArray} {ny : Nat} {ry : Option FieldType} {dy idx na : Nat}
theorem k_callV (K : jOk n cc own ret d κ) {av : (Nat → Nat) → List Value} {x : (Nat → Nat) → JE} {As : List Value} {rv : Option Value} {X' : JX} {ci z : Nat} (hc : Cal LX y cy ny ry dy av X x) (ml : MLk own idx y cy ny ry na) (hcl : ∃ q : vw_C, vwCl[ci]? = some q ∧ q.1 = y.cls) (hs : LX.2.1 0 = (10 + ci, z)) (hci : ci < 90) (hav : av (jad κ) = .ref (jad κ 0) :: As) (hn : As.length = na) (hd : dy + 1 ≤ d) (hny : ny ≤ 20) (hst : (st.map fun v => v.category).sum ≤ 8) (hxx : x (jad κ) = (none, rv, X')) (dg : decode cc pc = .ok (.invokevirtual idx, 3)) (kk : JB LZ n κ (mrg X X' 0) (pc + 3) lv (rv.toList ++ st)) : JB LZ n κ X pc lv (As.reverse ++ .ref (jad κ 0) :: st) := by
  obtain ⟨p, l, e, R, s, m, args, below, meth, c, D, A, ad, cA, rs, Q⟩ := κ
  obtain ⟨hx, hb, hml, hown, hts, hr0, hlk, hK, hA, hfr, hlo, hN⟩ := K
  intro kc ks H locs ls g1 g2 hP hD hS hl
  obtain ⟨⟨C, T, N⟩, q1, q2⟩ := hcl
  have e1 : wZ LZ ad cA X ++ rs = wZ LX ad cA X ++ (tail3 ad cA X ++ rs) := by rw [wZZ, List.append_assoc]
  have e2 : ∀ k : Int32, wZ LZ ad cA (mrg X X' k) ++ rs = wZ LX ad cA X' ++ (tail3 ad cA X ++ rs) := fun k => by rw [wZ_mrg, List.append_assoc]
  rw [e1] at hP hD
  have hM := hc l D ad cA (tail3 ad cA X ++ rs) H.size
  have hav' : av ad = .ref (ad 0) :: As := hav
  have hxx' : x ad = (none, rv, X') := hxx
  rw [hav', hxx'] at hM
  have cw := cwV (R := R) (s := s) (args := args) (own := own) (C := y.cls) (index := idx) (y := y) (bytes := cy) (maxL := ny) (ret := ry) (Ts := gTbl) (ws := .code y cy ny ry :: gTbl) (ws' := gTbl) (rm := jRm dy 0 0) (mc := 0) (ms := 0) na hts ml.1 rfl rfl rfl ⟨rfl, ml.2⟩ ⟨by show dy + 1 ≤ _; omega, by show 8 + (ny + 11) + 39 * dy ≤ _; omega⟩
  have g3 : bud (mrg X X' 0) = bud X := by
    unfold bud
    rw [mrg_179, Int32.sub_zero]
  refine w_call (rv := rv) (P := fun H => va_P D vwCl (wZ LX ad cA X' ++ (tail3 ad cA X ++ rs)) H) (va_runV (As := As) (rest := st) ⟨hx, hb, hml, hown, hts⟩ hM cw ⟨jPc_blind, ?_, fun U hU hW => ⟨rfl, by rw [hU], by rw [hU]; exact hP, va_K.moved hW.alike hK, hD.weaken (fun _ _ _ _ => trivial), hN.warm hW⟩⟩ rfl hn (hl.1) rfl (lv_room hst) dg ⟨by omega, by omega⟩) (fun st v t h => ⟨?_, h.1.2.2, h.2⟩) hS (jA_lt hD) (jA_all hD hS hA) (fun H locs hP hS => kk (kc + 0) (ks + 0) H locs ls (by rw [g3]; omega) (by rw [g3]; omega) (by rw [e2]; exact hP) (by rw [e2]; exact wZ_D hD) hS hl)
  · rw [← show (C, T, N).1 = y.cls from q2]
    exact va_recv hK hP (ci := ci) (q0 := 0) q1 (by rw [wZ_get (by decide), cZ_ob hs hci])
  · exact Outcome.returned.inj h.1.2.1
theorem k_callX (K : jOk n cc own ret d κ) (G : jB κ) {av : (Nat → Nat) → List Value} {x : (Nat → Nat) → JE} {As : List Value} {rv : Option Value} {X' : JX} {ci z : Nat} (hc : CalX LX y cy ny ry dy av X x) (ml : MLk own idx y cy ny ry na) (hcl : ∃ q : vw_C, vwCl[ci]? = some q ∧ q.1 = y.cls) (hs : LX.2.1 0 = (10 + ci, z)) (hci : ci < 90) (hav : av (jad κ) = .ref (jad κ 0) :: As) (hn : As.length = na) (hd : dy + 1 ≤ d) (hny : ny ≤ 20) (hst : (st.map fun v => v.category).sum ≤ 8) (hxx : x (jad κ) = (none, rv, X')) (hbu : 0 < X 179 0) (dg : decode cc pc = .ok (.invokevirtual idx, 3)) (kk : JB LZ n κ (mrg X X' 1) (pc + 3) lv (rv.toList ++ st)) : JB LZ n κ X pc lv (As.reverse ++ .ref (jad κ 0) :: st) := by
  obtain ⟨p, l, e, R, s, m, args, below, meth, c, D, A, ad, cA, rs, Q⟩ := κ
  obtain ⟨hx, hb, hml, hown, hts, hr0, hlk, hK, hA, hfr, hlo, hN⟩ := K
  intro kc ks H locs ls g1 g2 hP hD hS hl
  obtain ⟨⟨C, T, N⟩, q1, q2⟩ := hcl
  have e1 : wZ LZ ad cA X ++ rs = wZ LX ad cA X ++ (tail3 ad cA X ++ rs) := by rw [wZZ, List.append_assoc]
  have e2 : ∀ k : Int32, wZ LZ ad cA (mrg X X' k) ++ rs = wZ LX ad cA X' ++ (tail3 ad cA X ++ rs) := fun k => by rw [wZ_mrg, List.append_assoc]
  rw [e1] at hP hD
  obtain ⟨hfl, hH⟩ := (show l.stackTraces = false ∧ jH A s from G)
  have hM := hc l hfl D ad cA (tail3 ad cA X ++ rs) H.size
  have hav' : av ad = .ref (ad 0) :: As := hav
  have hxx' : x ad = (none, rv, X') := hxx
  rw [hav', hxx'] at hM
  have cw := cwV (R := R) (s := s) (args := args) (own := own) (C := y.cls) (index := idx) (y := y) (bytes := cy) (maxL := ny) (ret := ry) (Ts := gTbl) (ws := .code y cy ny ry :: gTbl) (ws' := gTbl) (rm := jRm dy 1 6) (mc := 1) (ms := 6) na hts ml.1 rfl rfl rfl ⟨rfl, ml.2⟩ ⟨by show dy + 1 ≤ _; omega, by show 8 + (ny + 11) + 39 * dy ≤ _; omega⟩
  have g3 : bud (mrg X X' 1) + 1 = bud X := by
    unfold bud
    rw [mrg_179]
    exact bud_sub hbu
  refine w_callX (rv := rv) (P := fun H => va_P D vwCl (wZ LX ad cA X' ++ (tail3 ad cA X ++ rs)) H) (PX := fun _ _ => False) (A1 := va_A (wZ LX ad cA X ++ (tail3 ad cA X ++ rs)) H.size) (vx_runV (As := As) (rest := st) ⟨hx, hb, hml, hown, hts⟩ hM cw ⟨jPcX_blind, ?_, fun U hU hW => ⟨rfl, by rw [hU], by rw [hU]; exact hP, va_K.moved hW.alike hK, hD.weaken (fun _ _ _ _ => trivial), hN.warm hW, jH_at hH hS (jA_all hD hS hA) hW.alike hU⟩⟩ rfl hn (hl.1) rfl (lv_room hst) dg ⟨by omega, by omega⟩) (fun st v t h => ⟨?_, h.1.2.2, h.2⟩) (fun E st t h => ?_) hS (jA_lt hD) (jA_all hD hS hA) (fun E ce q9 H1 locs1 h => h.elim) (fun H locs hP hS => kk (kc + 1) (ks + 6) H locs ls (by omega) (by omega) (by rw [e2]; exact hP) (by rw [e2]; exact wZ_D hD) hS hl)
  · rw [← show (C, T, N).1 = y.cls from q2]
    exact va_recv hK hP (ci := ci) (q0 := 0) q1 (by rw [wZ_get (by decide), cZ_ob hs hci])
  · exact Outcome.returned.inj h.1.2.1
  · obtain ⟨⟨k9, h9, -⟩, -⟩ := h
    cases h9
theorem k_callS (K : jOk n cc own ret d κ) {av : (Nat → Nat) → List Value} {x : (Nat → Nat) → JE} {As : List Value} {rv : Option Value} (hc : Cal L y cy ny ry dy av X x) (ml : MSk own idx y cy ny ry na) (hav : av (jad κ) = As) (hn : As.length = na) (hd : dy + 1 ≤ d) (hny : ny ≤ 20) (hst : (st.map fun v => v.category).sum ≤ 8) (hxx : x (jad κ) = (none, rv, X)) (dg : decode cc pc = .ok (.invokestatic idx, 3)) (kk : JB L n κ X (pc + 3) lv (rv.toList ++ st)) : JB L n κ X pc lv (As.reverse ++ st) := by
  obtain ⟨p, l, e, R, s, m, args, below, meth, c, D, A, ad, cA, rs, Q⟩ := κ
  obtain ⟨hx, hb, hml, hown, hts, hr0, hlk, hK, hA, hfr, hlo, hN⟩ := K
  intro kc ks H locs ls g1 g2 hP hD hS hl
  have hM := hc l D ad cA rs H.size
  have hav' : av ad = As := hav
  have hxx' : x ad = (none, rv, X) := hxx
  rw [hav', hxx'] at hM
  have cw := va_cwS (R := R) (s := s) (args := args) (own := own) (index := idx) (y := y) (bytes := cy) (maxL := ny) (ret := ry) (Ts := gTbl) (ws := .code y cy ny ry :: gTbl) (ws' := gTbl) (rm := jRm dy 0 0) (mc := 0) (ms := 0) na hts ml.1 rfl rfl rfl ml.2 ⟨by show dy + 1 ≤ _; omega, by show 8 + (ny + 11) + 39 * dy ≤ _; omega⟩
  refine w_call (rv := rv) (P := fun H => va_P D vwCl (wZ L ad cA X ++ rs) H) (va_runS (As := As) (rest := st) ⟨hx, hb, hml, hown, hts⟩ hM cw ⟨jPc_blind, fun U hU hW => ⟨rfl, by rw [hU], by rw [hU]; exact hP, va_K.moved hW.alike hK, hD.weaken (fun _ _ _ _ => trivial), hN.warm hW⟩⟩ rfl hn (hl.1) rfl (lv_room hst) dg ⟨by omega, by omega⟩) (fun st v t h => ⟨?_, h.1.2.2, h.2⟩) hS (jA_lt hD) (jA_all hD hS hA) (fun H locs hP hS => kk (kc + 0) (ks + 0) H locs ls (by omega) (by omega) hP (wZ_D hD) hS hl)
  exact Outcome.returned.inj h.1.2.1
end JBR
/-- a call that did not throw goes on -/
def thm {β : Type} (X : JX) (t : Int32 × JX) (g : Int32 → JX → Option β) : Option β := g t.1 (mrg X t.2 0)
def thb {β : Type} (X : JX) (t : Int32 × JX) (g : Int32 → JX → Option β) : Option β := g t.1 (sbu t.2 (X 179 0 - 12))
theorem lz176 : LZ.2.1 176 = (0, 32) := rfl
theorem lz177 : LZ.2.1 177 = (0, 32) := rfl
theorem lz178 : LZ.2.1 178 = (0, 32) := rfl
theorem lt176 : 176 < LZ.1 := Nat.le_of_ble_eq_true rfl
theorem lt177 : 177 < LZ.1 := Nat.le_of_ble_eq_true rfl
theorem lt178 : 178 < LZ.1 := Nat.le_of_ble_eq_true rfl
def thn {β : Type} (X : JX) (t : Option Nat × Int32 × JX) (g : Int32 → JX → Option β) : Option β := if t.1 = none then (if 0 < X 179 0 then g t.2.1 (mrg X t.2.2 1) else none) else none
section JBV
variable {n : Nat} {cc : ByteArray} {own : String} {ret : Option FieldType} {d : Nat} {κ : JK} {X : JX} {pc : Nat} {lv : List (Nat × Value)} {st : List Value} {β : Type} {r : β}
variable {y : MethodName} {cy : ByteArray} {ny : Nat} {ry : Option FieldType} {dy idx na : Nat}
theorem k_vT0 (K : jOk n cc own ret d κ) (G : jB κ) {ex : Option (Option Nat × Int32 × JX)} {g : Int32 → JX → Option β} {av : (Nat → Nat) → List Value} (hr : ex.bind (fun t => thn X t g) = some r) (hc : ∀ v, ex = some v → CalX LX y cy ny ry dy av X (fun _ => oT v)) (ml : MLk own idx y cy ny ry 0) (hcl : ∃ q : vw_C, vwCl[10]? = some q ∧ q.1 = y.cls) (hav : av (jad κ) = [.ref (jad κ 0)]) (hd : dy + 1 ≤ d) (hny : ny ≤ 20) (hst : (st.map fun v => v.category).sum ≤ 8) (dg : decode cc pc = .ok (.invokevirtual idx, 3)) (kk : ∀ v X', g v X' = some r → JB LZ n κ X' (pc + 3) lv (.int v :: st)) : JB LZ n κ X pc lv (.ref (jad κ 0) :: st) := by
  obtain ⟨v, h1, h2⟩ := g_bd hr
  obtain ⟨h3, h4⟩ := g_if h2
  obtain ⟨h5, h6⟩ := g_if h4
  obtain ⟨e9, v9, X9⟩ := v
  have h3 : e9 = none := h3
  subst h3
  exact k_callX K G (As := []) (rv := some (.int v9)) (ci := 10) (hc _ h1) ml hcl rfl (by decide) hav rfl hd hny hst rfl h5 dg (kk _ _ h6)
theorem k_vI0 (K : jOk n cc own ret d κ) {ex : Option Int32} {g : Int32 → Option β} {av : (Nat → Nat) → List Value} (hr : ex.bind g = some r) (hc : ∀ v, ex = some v → Cal LX y cy ny ry dy av X (fun _ => oI X v)) (ml : MLk own idx y cy ny ry 0) (hcl : ∃ q : vw_C, vwCl[10]? = some q ∧ q.1 = y.cls) (hav : av (jad κ) = [.ref (jad κ 0)]) (hd : dy + 1 ≤ d) (hny : ny ≤ 20) (hst : (st.map fun v => v.category).sum ≤ 8) (dg : decode cc pc = .ok (.invokevirtual idx, 3)) (kk : ∀ v, g v = some r → JB LZ n κ X (pc + 3) lv (.int v :: st)) : JB LZ n κ X pc lv (.ref (jad κ 0) :: st) := by
  obtain ⟨v, h1, h2⟩ := g_bd hr
  exact k_callV K (As := []) (rv := some (.int v)) (X' := X) (ci := 10) (hc _ h1) ml hcl rfl (by decide) hav rfl hd hny hst rfl dg (by rw [mrg_self]; exact kk v h2)
theorem k_vM0 (K : jOk n cc own ret d κ) {ex : Option (Int32 × JX)} {g : Int32 → JX → Option β} {av : (Nat → Nat) → List Value} (hr : ex.bind (fun t => thm X t g) = some r) (hc : ∀ v, ex = some v → Cal LX y cy ny ry dy av X (fun _ => oM v)) (ml : MLk own idx y cy ny ry 0) (hcl : ∃ q : vw_C, vwCl[10]? = some q ∧ q.1 = y.cls) (hav : av (jad κ) = [.ref (jad κ 0)]) (hd : dy + 1 ≤ d) (hny : ny ≤ 20) (hst : (st.map fun v => v.category).sum ≤ 8) (dg : decode cc pc = .ok (.invokevirtual idx, 3)) (kk : ∀ v X', g v X' = some r → JB LZ n κ X' (pc + 3) lv (.int v :: st)) : JB LZ n κ X pc lv (.ref (jad κ 0) :: st) := by
  obtain ⟨v, h1, h2⟩ := g_bd hr
  exact k_callV K (As := []) (rv := some (.int v.1)) (X' := v.2) (ci := 10) (hc _ h1) ml hcl rfl (by decide) hav rfl hd hny hst rfl dg (kk _ _ h2)
theorem k_vT1 (K : jOk n cc own ret d κ) (G : jB κ) {ex : Option (Option Nat × Int32 × JX)} {g : Int32 → JX → Option β} {av : (Nat → Nat) → List Value} {a1 : Value} (hr : ex.bind (fun t => thn X t g) = some r) (hc : ∀ v, ex = some v → CalX LX y cy ny ry dy av X (fun _ => oT v)) (ml : MLk own idx y cy ny ry 1) (hcl : ∃ q : vw_C, vwCl[10]? = some q ∧ q.1 = y.cls) (hav : av (jad κ) = [.ref (jad κ 0), a1]) (hd : dy + 1 ≤ d) (hny : ny ≤ 20) (hst : (st.map fun v => v.category).sum ≤ 8) (dg : decode cc pc = .ok (.invokevirtual idx, 3)) (kk : ∀ v X', g v X' = some r → JB LZ n κ X' (pc + 3) lv (.int v :: st)) : JB LZ n κ X pc lv (a1 :: .ref (jad κ 0) :: st) := by
  obtain ⟨v, h1, h2⟩ := g_bd hr
  obtain ⟨h3, h4⟩ := g_if h2
  obtain ⟨h5, h6⟩ := g_if h4
  obtain ⟨e9, v9, X9⟩ := v
  have h3 : e9 = none := h3
  subst h3
  exact k_callX K G (As := [a1]) (rv := some (.int v9)) (ci := 10) (hc _ h1) ml hcl rfl (by decide) hav rfl hd hny hst rfl h5 dg (kk _ _ h6)
theorem k_vI1 (K : jOk n cc own ret d κ) {ex : Option Int32} {g : Int32 → Option β} {av : (Nat → Nat) → List Value} {a1 : Value} (hr : ex.bind g = some r) (hc : ∀ v, ex = some v → Cal LX y cy ny ry dy av X (fun _ => oI X v)) (ml : MLk own idx y cy ny ry 1) (hcl : ∃ q : vw_C, vwCl[10]? = some q ∧ q.1 = y.cls) (hav : av (jad κ) = [.ref (jad κ 0), a1]) (hd : dy + 1 ≤ d) (hny : ny ≤ 20) (hst : (st.map fun v => v.category).sum ≤ 8) (dg : decode cc pc = .ok (.invokevirtual idx, 3)) (kk : ∀ v, g v = some r → JB LZ n κ X (pc + 3) lv (.int v :: st)) : JB LZ n κ X pc lv (a1 :: .ref (jad κ 0) :: st) := by
  obtain ⟨v, h1, h2⟩ := g_bd hr
  exact k_callV K (As := [a1]) (rv := some (.int v)) (X' := X) (ci := 10) (hc _ h1) ml hcl rfl (by decide) hav rfl hd hny hst rfl dg (by rw [mrg_self]; exact kk v h2)
theorem k_vM1 (K : jOk n cc own ret d κ) {ex : Option (Int32 × JX)} {g : Int32 → JX → Option β} {av : (Nat → Nat) → List Value} {a1 : Value} (hr : ex.bind (fun t => thm X t g) = some r) (hc : ∀ v, ex = some v → Cal LX y cy ny ry dy av X (fun _ => oM v)) (ml : MLk own idx y cy ny ry 1) (hcl : ∃ q : vw_C, vwCl[10]? = some q ∧ q.1 = y.cls) (hav : av (jad κ) = [.ref (jad κ 0), a1]) (hd : dy + 1 ≤ d) (hny : ny ≤ 20) (hst : (st.map fun v => v.category).sum ≤ 8) (dg : decode cc pc = .ok (.invokevirtual idx, 3)) (kk : ∀ v X', g v X' = some r → JB LZ n κ X' (pc + 3) lv (.int v :: st)) : JB LZ n κ X pc lv (a1 :: .ref (jad κ 0) :: st) := by
  obtain ⟨v, h1, h2⟩ := g_bd hr
  exact k_callV K (As := [a1]) (rv := some (.int v.1)) (X' := v.2) (ci := 10) (hc _ h1) ml hcl rfl (by decide) hav rfl hd hny hst rfl dg (kk _ _ h2)
theorem k_vT2 (K : jOk n cc own ret d κ) (G : jB κ) {ex : Option (Option Nat × Int32 × JX)} {g : Int32 → JX → Option β} {av : (Nat → Nat) → List Value} {a1 a2 : Value} (hr : ex.bind (fun t => thn X t g) = some r) (hc : ∀ v, ex = some v → CalX LX y cy ny ry dy av X (fun _ => oT v)) (ml : MLk own idx y cy ny ry 2) (hcl : ∃ q : vw_C, vwCl[10]? = some q ∧ q.1 = y.cls) (hav : av (jad κ) = [.ref (jad κ 0), a1, a2]) (hd : dy + 1 ≤ d) (hny : ny ≤ 20) (hst : (st.map fun v => v.category).sum ≤ 8) (dg : decode cc pc = .ok (.invokevirtual idx, 3)) (kk : ∀ v X', g v X' = some r → JB LZ n κ X' (pc + 3) lv (.int v :: st)) : JB LZ n κ X pc lv (a2 :: a1 :: .ref (jad κ 0) :: st) := by
  obtain ⟨v, h1, h2⟩ := g_bd hr
  obtain ⟨h3, h4⟩ := g_if h2
  obtain ⟨h5, h6⟩ := g_if h4
  obtain ⟨e9, v9, X9⟩ := v
  have h3 : e9 = none := h3
  subst h3
  exact k_callX K G (As := [a1, a2]) (rv := some (.int v9)) (ci := 10) (hc _ h1) ml hcl rfl (by decide) hav rfl hd hny hst rfl h5 dg (kk _ _ h6)
theorem k_vT3 (K : jOk n cc own ret d κ) (G : jB κ) {ex : Option (Option Nat × Int32 × JX)} {g : Int32 → JX → Option β} {av : (Nat → Nat) → List Value} {a1 a2 a3 : Value} (hr : ex.bind (fun t => thn X t g) = some r) (hc : ∀ v, ex = some v → CalX LX y cy ny ry dy av X (fun _ => oT v)) (ml : MLk own idx y cy ny ry 3) (hcl : ∃ q : vw_C, vwCl[10]? = some q ∧ q.1 = y.cls) (hav : av (jad κ) = [.ref (jad κ 0), a1, a2, a3]) (hd : dy + 1 ≤ d) (hny : ny ≤ 20) (hst : (st.map fun v => v.category).sum ≤ 8) (dg : decode cc pc = .ok (.invokevirtual idx, 3)) (kk : ∀ v X', g v X' = some r → JB LZ n κ X' (pc + 3) lv (.int v :: st)) : JB LZ n κ X pc lv (a3 :: a2 :: a1 :: .ref (jad κ 0) :: st) := by
  obtain ⟨v, h1, h2⟩ := g_bd hr
  obtain ⟨h3, h4⟩ := g_if h2
  obtain ⟨h5, h6⟩ := g_if h4
  obtain ⟨e9, v9, X9⟩ := v
  have h3 : e9 = none := h3
  subst h3
  exact k_callX K G (As := [a1, a2, a3]) (rv := some (.int v9)) (ci := 10) (hc _ h1) ml hcl rfl (by decide) hav rfl hd hny hst rfl h5 dg (kk _ _ h6)
theorem k_vT4 (K : jOk n cc own ret d κ) (G : jB κ) {ex : Option (Option Nat × Int32 × JX)} {g : Int32 → JX → Option β} {av : (Nat → Nat) → List Value} {a1 a2 a3 a4 : Value} (hr : ex.bind (fun t => thn X t g) = some r) (hc : ∀ v, ex = some v → CalX LX y cy ny ry dy av X (fun _ => oT v)) (ml : MLk own idx y cy ny ry 4) (hcl : ∃ q : vw_C, vwCl[10]? = some q ∧ q.1 = y.cls) (hav : av (jad κ) = [.ref (jad κ 0), a1, a2, a3, a4]) (hd : dy + 1 ≤ d) (hny : ny ≤ 20) (hst : (st.map fun v => v.category).sum ≤ 8) (dg : decode cc pc = .ok (.invokevirtual idx, 3)) (kk : ∀ v X', g v X' = some r → JB LZ n κ X' (pc + 3) lv (.int v :: st)) : JB LZ n κ X pc lv (a4 :: a3 :: a2 :: a1 :: .ref (jad κ 0) :: st) := by
  obtain ⟨v, h1, h2⟩ := g_bd hr
  obtain ⟨h3, h4⟩ := g_if h2
  obtain ⟨h5, h6⟩ := g_if h4
  obtain ⟨e9, v9, X9⟩ := v
  have h3 : e9 = none := h3
  subst h3
  exact k_callX K G (As := [a1, a2, a3, a4]) (rv := some (.int v9)) (ci := 10) (hc _ h1) ml hcl rfl (by decide) hav rfl hd hny hst rfl h5 dg (kk _ _ h6)
theorem k_sI2 (K : jOk n cc own ret d κ) {ex : Option Int32} {g : Int32 → Option β} {av : (Nat → Nat) → List Value} {a1 a2 : Value} (hr : ex.bind g = some r) (hc : ∀ v, ex = some v → Cal LZ y cy ny ry dy av X (fun _ => oI X v)) (ml : MSk own idx y cy ny ry 2) (hav : av (jad κ) = [a1, a2]) (hd : dy + 1 ≤ d) (hny : ny ≤ 20) (hst : (st.map fun v => v.category).sum ≤ 8) (dg : decode cc pc = .ok (.invokestatic idx, 3)) (kk : ∀ v, g v = some r → JB LZ n κ X (pc + 3) lv (.int v :: st)) : JB LZ n κ X pc lv (a2 :: a1 :: st) := by
  obtain ⟨v, h1, h2⟩ := g_bd hr
  exact k_callS K (As := [a1, a2]) (rv := some (.int v)) (hc _ h1) ml hav rfl hd hny hst rfl dg (kk v h2)
/-- the contract of the law's method that calls: nb calls at most -/
def CalB (nb : Nat) (y : MethodName) (cy : ByteArray) (ny : Nat) (ry : Option FieldType) (dy : Nat) (av : (Nat → Nat) → List Value) (X : JX) (x : (Nat → Nat) → JE) : Prop :=
  ∀ (l : Launch), l.stackTraces = false → ∀ (D : va_G) (ad : Nat → Nat) (cA : Nat → ClassId) (rs : va_W) (sz : Nat), Met l y (.code y cy ny ry :: gTbl) (jRm dy nb (6 * nb)) (jPcX LZ D ad cA rs X sz (av ad)) (jQc LZ D ad cA rs (va_A (wZ LZ ad cA X ++ rs) sz) (x ad)) nb (6 * nb) (va_A (wZ LZ ad cA X ++ rs) sz)
theorem CalB.of {nb : Nat} {av : (Nat → Nat) → List Value} {x : (Nat → Nat) → JE} {own : String} (lv : (Nat → Nat) → List (Nat × Value)) (hy : plainName y.cls = true) (ho : y.cls = own) (hlen : ∀ ad, (lg_sl (av ad)).length ≤ ny) (hlv : ∀ ad, lv_args 0 (av ad) = lv ad) (hbu : bud X ≤ nb)
    (k : ∀ κ : JK, jOk ny cy own ry dy κ → jB κ → jFb nb (x (jad κ)) κ → JB LZ ny κ X 0 (lv (jad κ)) []) : CalB nb y cy ny ry dy av X x := by
  intro l hfl D ad cA rs sz
  refine Met.ofW (cc := cy) (maxL := ny) (ret := ry) hy rfl ?_
  intro p e s m args below meth c s₁ B hml hv
  obtain ⟨rfl, hsz, hP, hK, hD0, hN, hH⟩ := hv
  have hx := B.exec
  have hb := B.bytes
  have hr := B.returns
  have hts := atoms_spec (ws := Cond.code y cy ny ry :: gTbl) B.pre
  have hown : s.vm.findClass own = some m.cls := by rw [← ho]; exact findClass_of_methodNamed B.named
  have hlocks := B.notSynchronized
  subst hsz
  have hA : ∀ q : Nat, s.heap.size ≤ q → (va_A (wZ LZ ad cA X ++ rs) s.heap.size) q := fun q h => Or.inr h
  have hl := lv_entry (av ad) (n := ny) (hlen ad)
  rw [lg_entry_eq]
  have h := k (p, l, e, (headSpec (Cond.code y cy ny ry :: gTbl) (jRm dy nb (6 * nb))).room, s, m, (av ad).toArray, below, meth, c, D, va_A (wZ LZ ad cA X ++ rs) s.heap.size, ad, cA, rs, MQ below (jQc LZ D ad cA rs (va_A (wZ LZ ad cA X ++ rs) s.heap.size) (x ad)) (av ad).toArray s nb (6 * nb) (va_A (wZ LZ ad cA X ++ rs) s.heap.size))
    ⟨hx, hb, hml, hown, fun w hw => hts w (List.mem_cons_of_mem _ hw), hr, hlocks, hK, hA, Nat.le_refl _, Nat.le_refl _, hN⟩ ⟨hfl, hH⟩ ⟨rfl, rfl, rfl⟩
  rw [hlv ad] at hl
  exact h 0 0 s.heap [] _ (by show 0 + bud X ≤ nb; omega) (by show 0 + 6 * bud X ≤ 6 * nb; omega) hP hD0.self va_S.rf hl
/-- the law's call of it: 12 of the budget -/
theorem k_callB (K : jOk n cc own ret d κ) (G : jB κ) {ex : Option (Int32 × JX)} {g : Int32 → JX → Option β} {av : (Nat → Nat) → List Value} (hr : (if 12 ≤ X 179 0 then ex.bind (fun t => thb X t g) else none) = some r) (hc : ∀ v, ex = some v → CalB 12 y cy ny ry dy av (sbu X 12) (fun _ => oM v)) (ml : MSk own idx y cy ny ry 1) (hav : av (jad κ) = [.ref (jad κ 0)]) (hd : dy + 1 ≤ d) (hny : ny ≤ 20) (hst : (st.map fun v => v.category).sum ≤ 8) (dg : decode cc pc = .ok (.invokestatic idx, 3)) (kk : ∀ v X', g v X' = some r → JB LZ n κ X' (pc + 3) lv (.int v :: st)) : JB LZ n κ X pc lv (.ref (jad κ 0) :: st) := by
  obtain ⟨hb12, hr⟩ := g_if hr
  obtain ⟨v, h1, h2⟩ := g_bd hr
  have k2 := kk _ _ h2
  have hc := hc v h1
  obtain ⟨p, l, e, R, s, m, args, below, meth, c, D, A, ad, cA, rs, Q⟩ := κ
  obtain ⟨hx, hb, hml, hown, hts, hr0, hlk, hK, hA, hfr, hlo, hN⟩ := K
  obtain ⟨hfl, hH⟩ := (show l.stackTraces = false ∧ jH A s from G)
  intro kc ks H locs ls g1 g2 hP hD hS hl
  have g0 : bud (sbu v.2 (X 179 0 - 12)) + 12 = bud X := by
    unfold bud
    rw [sbu_179]
    exact bud_sub12 hb12
  have hM := hc l hfl D ad cA rs H.size
  have hav' : av ad = [.ref (ad 0)] := hav
  have hxx' : (fun (_ : Nat → Nat) => oM v) ad = (none, some (.int v.1), v.2) := rfl
  rw [hav', hxx', wZ_sbu] at hM
  have cw := va_cwS (R := R) (s := s) (args := args) (own := own) (index := idx) (y := y) (bytes := cy) (maxL := ny) (ret := ry) (Ts := gTbl) (ws := .code y cy ny ry :: gTbl) (ws' := gTbl) (rm := jRm dy 12 72) (mc := 12) (ms := 72) 1 hts ml.1 rfl rfl rfl ml.2 ⟨by show dy + 1 ≤ _; omega, by show 8 + (ny + 11) + 39 * dy ≤ _; omega⟩
  have e2 : wZ LZ ad cA (sbu v.2 (X 179 0 - 12)) = wZ LZ ad cA v.2 := wZ_sbu ad cA _ _
  refine w_call (rv := some (.int v.1)) (P := fun H => va_P D vwCl (wZ LZ ad cA v.2 ++ rs) H) (mc := 12) (ms := 72) (va_runS (As := [.ref (ad 0)]) (rest := st) ⟨hx, hb, hml, hown, hts⟩ hM cw ⟨jPcX_blind, fun U hU hW => ⟨rfl, by rw [hU], by rw [hU, wZ_sbu]; exact hP, va_K.moved hW.alike hK, by rw [wZ_sbu]; exact hD.weaken (fun _ _ _ _ => trivial), hN.warm hW, by rw [wZ_sbu]; exact jH_at hH hS (jA_all hD hS hA) hW.alike hU⟩⟩ rfl rfl (hl.1) rfl (lv_room hst) dg ⟨by omega, by omega⟩) (fun st v9 t h => ⟨?_, h.1.2.2, h.2⟩) hS (jA_lt hD) (jA_all hD hS hA) (fun H locs hP hS => k2 (kc + 12) (ks + 72) H locs ls (by omega) (by omega) (by rw [e2]; exact hP) (by rw [e2]; exact wZ_D hD) hS hl)
  exact Outcome.returned.inj h.1.2.1
end JBV

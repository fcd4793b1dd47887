/-! ===== a world laid out by numbers: a cell a number; what the cells hold is one function of number and place ===== -/
abbrev JX : Type := Nat → Nat → Int32
/-- how many cells; the kind of each: (0, n) ints, (1, n) booleans, (2, n) chars, (3, n) roots by their numbers, (10 + class, _) an object, (100 + b, n) a row of the rows b, b + 1 ..; an object's fields -/
abbrev Lay : Type := Nat × (Nat → Nat × Nat) × ((Nat → Nat) → (Nat → Int32) → Nat → Nat → List Value)
def cZ (L : Lay) (ad : Nat → Nat) (cA : Nat → ClassId) (f : Nat → Int32) (k : Nat) : va_E := match L.2.1 k with
  | (0, n) => .inl (cA 0, (n, .inl f))
  | (1, n) => .inl (cA 1, (n, .inl f))
  | (2, n) => .inl (cA 2, (n, .inl f))
  | (3, n) => .inl (cA 3, (n, .inr (.inr (.inr (.inr (fun j => some (ad (f j).toNatClampNeg)))))))
  | (c, n) => if c < 100 then .inr (c - 10, L.2.2 ad f k (c - 10)) else .inl (cA 4, (n, .inr (.inr (.inr (.inr (fun j => if j < n then some (ad (c - 100 + j)) else none))))))
def wZ (L : Lay) (ad : Nat → Nat) (cA : Nat → ClassId) (X : JX) : va_W := (List.range L.1).map fun k => (ad k, cZ L ad cA (X k) k)
def pX (X : JX) (k : Nat) (f : Nat → Int32) : JX := fun q => if q = k then f else X q
theorem pX_self (X : JX) (k : Nat) (f : Nat → Int32) : pX X k f k = f := if_pos rfl
theorem pX_ne (X : JX) {k q : Nat} (f : Nat → Int32) (h : q ≠ k) : pX X k f q = X q := if_neg h
theorem wZ_len (L : Lay) (ad : Nat → Nat) (cA : Nat → ClassId) (X : JX) : (wZ L ad cA X).length = L.1 := by simp [wZ]
theorem wZ_get {L : Lay} {ad : Nat → Nat} {cA : Nat → ClassId} {X : JX} {rs : va_W} {k : Nat} (h : k < L.1) : (wZ L ad cA X ++ rs)[k]? = some (ad k, cZ L ad cA (X k) k) := by
  rw [List.getElem?_append_left (by rw [wZ_len]; exact h), wZ, List.getElem?_map, List.getElem?_range h]
  rfl
theorem wZ_set {L : Lay} {ad : Nat → Nat} {cA : Nat → ClassId} {X X' : JX} {rs : va_W} {k : Nat} (h : k < L.1) (hX : ∀ j, j ≠ k → X' j = X j) : (wZ L ad cA X ++ rs).set k (ad k, cZ L ad cA (X' k) k) = wZ L ad cA X' ++ rs := by
  have hl : (wZ L ad cA X).length = L.1 := wZ_len L ad cA X
  rw [List.set_append_left _ _ (by rw [hl]; exact h)]
  congr 1
  apply List.ext_getElem?
  intro j
  by_cases hj : j = k
  · subst hj
    rw [List.getElem?_set_self (by rw [hl]; exact h), wZ, List.getElem?_map, List.getElem?_range h]
    rfl
  · rw [List.getElem?_set_ne (fun e => hj e.symm)]
    by_cases hlt : j < L.1
    · rw [wZ, wZ, List.getElem?_map, List.getElem?_map, List.getElem?_range hlt]
      simp only [Option.map_some]
      rw [hX j hj]
    · rw [List.getElem?_eq_none (by rw [wZ_len]; omega), List.getElem?_eq_none (by rw [wZ_len]; omega)]
/-- addresses do not move -/
theorem wZ_adr {L : Lay} {ad : Nat → Nat} {cA : Nat → ClassId} {X X' : JX} {rs : va_W} {k : Nat} {q : Nat × va_E} (h : (wZ L ad cA X' ++ rs)[k]? = some q) : ∃ q0, (wZ L ad cA X ++ rs)[k]? = some q0 ∧ q0.1 = q.1 := by
  by_cases hk : k < L.1
  · rw [wZ_get hk] at h
    cases h
    exact ⟨_, wZ_get hk, rfl⟩
  · rw [List.getElem?_append_right (by rw [wZ_len]; omega), wZ_len] at h
    exact ⟨q, by rw [List.getElem?_append_right (by rw [wZ_len]; omega), wZ_len]; exact h, rfl⟩
theorem wZ_D {L : Lay} {ad : Nat → Nat} {cA : Nat → ClassId} {X X' : JX} {rs : va_W} {A : Nat → Prop} (h : va_D A (wZ L ad cA X ++ rs)) : va_D A (wZ L ad cA X' ++ rs) := by
  refine ⟨fun i j x y hi hj hxy => ?_, fun k q hk => ?_⟩
  · obtain ⟨x0, h1, e1⟩ := wZ_adr (X := X) hi
    obtain ⟨y0, h2, e2⟩ := wZ_adr (X := X) hj
    exact h.1 i j x0 y0 h1 h2 (e1.trans (hxy.trans e2.symm))
  · obtain ⟨q0, h1, e1⟩ := wZ_adr (X := X) hk
    rw [← e1]
    exact h.2 k q0 h1
/-- the classes of arrays -/
def jTy (cA : Nat → ClassId) : List (ClassId × FieldType) := [(cA 0, .int), (cA 1, .boolean), (cA 2, .char), (cA 3, .object "SearchKeeper$Root"), (cA 4, .array .int), (cA 5, .byte)]
def jRm (d kc ks : Nat) : Room := { frames := d, cells := kc, slots := ks, locals := 39 * d }
/-- what stays through a method's body -/
abbrev JK : Type := Program × Launch × Env × Room × State × MethodId × Array Value × List Frame × Method × Code × va_G × (Nat → Prop) × (Nat → Nat) × (Nat → ClassId) × va_W × (State → Prop)
def jad (κ : JK) : Nat → Nat := κ.2.2.2.2.2.2.2.2.2.2.2.2.1
def J (L : Lay) (n : Nat) (κ : JK) (X : JX) (pc : Nat) (lv : List (Nat × Value)) (st : List Value) : Prop := match κ with
  | (p, l, e, R, s, m, args, below, meth, c, D, A, ad, cA, rs, Q) => ∀ (H : Heap) (locs : List Loc) (ls : Array Slot), va_P D vwCl (wZ L ad cA X ++ rs) H → va_D A (wZ L ad cA X ++ rs) → va_S A s.heap H locs → lv_has ls n lv → W p l e R s m args below meth c H locs 0 0 Q (F0 m pc ls st)
def jOk (n : Nat) (cc : ByteArray) (own : String) (ret : Option FieldType) (d : Nat) (κ : JK) : Prop := match κ with
  | (p, l, e, R, s, m, args, below, meth, c, D, A, ad, cA, rs, Q) => p.tables.exec = Jvm.exec ∧ c.code = cc ∧ c.maxLocals = n ∧ s.vm.findClass own = some m.cls ∧ (∀ w ∈ gTbl, w.before args s = true) ∧ meth.sig.returnType = ret ∧ meth.locks = false ∧ va_K D vwCl (jTy cA) s ∧ (∀ q, s.heap.size ≤ q → A q) ∧ d ≤ R.frames ∧ 39 * d ≤ R.locals ∧ jN s
/-- how a method ends: with the exception of that number, or with that answer; with that world -/
abbrev JE : Type := Option Nat × Option Value × JX
def jQc (L : Lay) (D : va_G) (ad : Nat → Nat) (cA : Nat → ClassId) (rs : va_W) (A : Nat → Prop) (x : JE) : Array Value → State → Outcome → State → Prop := fun _ st oc t => (x.1 = none ∧ oc = .returned x.2.1 ∧ va_P D vwCl (wZ L ad cA x.2.2 ++ rs) t.heap) ∧ va_F A st t
def jXc (L : Lay) (D : va_G) (ad : Nat → Nat) (cA : Nat → ClassId) (rs : va_W) (A : Nat → Prop) (x : JE) : String → State → State → Prop := fun E st t => (∃ k, x.1 = some k ∧ E = excN k) ∧ va_P D vwCl (wZ L ad cA x.2.2 ++ rs) t.heap ∧ va_F A st t
/-- what a method that throws needs of the heap -/
def jH (A : Nat → Prop) (U : State) : Prop := vx_Zq Bundle.tN "UNASSIGNED_STACK" Bundle.steD A U U.heap ∧ vx_Zq Bundle.tN "SUPPRESSED_SENTINEL" Bundle.listD A U U.heap
def jFin (L : Lay) (thr : Bool) (x : JE) (κ : JK) : Prop := match κ with
  | (_, l, _, R, s, _, args, below, _, c, D, A, ad, cA, rs, Q) => if thr = true then Q = vx_MQ below (jQc L D ad cA rs A x) (jXc L D ad cA rs A x) args s 1 6 A ∧ 1 ≤ R.cells ∧ 6 ≤ R.slots ∧ l.stackTraces = false ∧ jH A s ∧ (∀ x ∈ c.exceptionTable.toList, False) else Q = MQ below (jQc L D ad cA rs A x) args s 0 0 A
/-! ===== rows ===== -/
def jst (i : Nat) (v : Value) (lv : List (Nat × Value)) : List (Nat × Value) := (i, v) :: lv.filter (fun q => !(q.1 == i) && !(q.1 + 1 == i && q.2.category == 2))
def okI (i : Int32) (n : Nat) : Bool := decide (¬ i < 0) && decide (i.toNatClampNeg < n)
theorem okI_in {i : Int32} {n : Nat} (h : okI i n = true) : vp_in i n := by
  simp only [okI, Bool.and_eq_true, decide_eq_true_eq] at h
  exact fun q => q.elim h.1 (fun z => absurd h.2 (Nat.not_lt.mpr z))
theorem okI_lt {i : Int32} {n : Nat} (h : okI i n = true) : i.toNatClampNeg < n := by
  simp only [okI, Bool.and_eq_true, decide_eq_true_eq] at h
  exact h.2
def okB (v : Int32) : Bool := decide (v = 0) || decide (v = 1)
theorem okB_or {v : Int32} (h : okB v = true) : v = 0 ∨ v = 1 := by
  simpa [okB] using h
theorem okB_n {v : Int32} (h : okB v = true) : narrow .boolean (.int v) = .int v := by
  rcases okB_or h with rfl | rfl <;> rfl
theorem okB_f {v : Int32} (h : okB v = true) : fits .boolean (.int v) = true := by
  rcases okB_or h with rfl | rfl <;> rfl
theorem g_if {α : Type} {c : Prop} [Decidable c] {a : Option α} {r : α} (hr : (if c then a else none) = some r) : c ∧ a = some r := by
  by_cases h : c
  · rw [if_pos h] at hr; exact ⟨h, hr⟩
  · rw [if_neg h] at hr; cases hr
theorem g_bd {α β : Type} {a : Option α} {g : α → Option β} {r : β} (hr : a.bind g = some r) : ∃ v, a = some v ∧ g v = some r := by
  cases a with
  | none => cases hr
  | some v => exact ⟨v, rfl, hr⟩
/-- a loop: what is left for the body, at most n times -/
def loopF {A B : Type} (f : (A → Option B) → A → Option B) : Nat → A → Option B
  | 0 => fun _ => none
  | n + 1 => f (loopF f n)
section JR
variable {L : Lay} {n : Nat} {cc : ByteArray} {own : String} {ret : Option FieldType} {d : Nat} {κ : JK} {X : JX} {pc : Nat} {lv : List (Nat × Value)} {st : List Value} {β : Type} {r : β}

theorem j_iconst (K : jOk n cc own ret d κ) {z : Int} {v : Int32} (dg : decode cc pc = .ok (.iconst z, 1)) (hv : Int32.ofInt z = v) (k : J L n κ X (pc + 1) lv (.int v :: st)) : J L n κ X pc lv st := by
  obtain ⟨p, l, e, R, s, m, args, below, meth, c, D, A, ad, cA, rs, Q⟩ := κ
  obtain ⟨hx, hb, hml, hown, hts, hr0, hlk, hK, hA, hfr, hlo, hN⟩ := K
  intro H locs ls hP hD hS hl
  exact lv_iconst hx hb dg hv (k H locs ls hP hD hS hl)
theorem j_bipush (K : jOk n cc own ret d κ) {z : Int} {v : Int32} (dg : decode cc pc = .ok (.bipush z, 2)) (hv : (Int8.ofInt z).toInt32 = v) (k : J L n κ X (pc + 2) lv (.int v :: st)) : J L n κ X pc lv st := by
  obtain ⟨p, l, e, R, s, m, args, below, meth, c, D, A, ad, cA, rs, Q⟩ := κ
  obtain ⟨hx, hb, hml, hown, hts, hr0, hlk, hK, hA, hfr, hlo, hN⟩ := K
  intro H locs ls hP hD hS hl
  exact lv_bipush hx hb dg hv (k H locs ls hP hD hS hl)
theorem j_sipush (K : jOk n cc own ret d κ) {z : Int} {v : Int32} (dg : decode cc pc = .ok (.sipush z, 3)) (hv : (Int16.ofInt z).toInt32 = v) (k : J L n κ X (pc + 3) lv (.int v :: st)) : J L n κ X pc lv st := by
  obtain ⟨p, l, e, R, s, m, args, below, meth, c, D, A, ad, cA, rs, Q⟩ := κ
  obtain ⟨hx, hb, hml, hown, hts, hr0, hlk, hK, hA, hfr, hlo, hN⟩ := K
  intro H locs ls hP hD hS hl
  exact lv_sipush hx hb dg hv (k H locs ls hP hD hS hl)
theorem j_ldc (K : jOk n cc own ret d κ) {idx : Nat} {v : Int32} (h : Cond.constant own idx v ∈ gTbl) (dg : decode cc pc = .ok (.ldc idx, 2)) (k : J L n κ X (pc + 2) lv (.int v :: st)) : J L n κ X pc lv st := by
  obtain ⟨p, l, e, R, s, m, args, below, meth, c, D, A, ad, cA, rs, Q⟩ := κ
  obtain ⟨hx, hb, hml, hown, hts, hr0, hlk, hK, hA, hfr, hlo, hN⟩ := K
  intro H locs ls hP hD hS hl
  exact lv_ldc hx hb hown (hts _ h) dg (k H locs ls hP hD hS hl)
theorem j_lconst (K : jOk n cc own ret d κ) {z : Fin 2} {v : Int64} (dg : decode cc pc = .ok (.lconst z, 1)) (hv : Int64.ofNat (z : Nat) = v) (k : J L n κ X (pc + 1) lv (.long v :: st)) : J L n κ X pc lv st := by
  obtain ⟨p, l, e, R, s, m, args, below, meth, c, D, A, ad, cA, rs, Q⟩ := κ
  obtain ⟨hx, hb, hml, hown, hts, hr0, hlk, hK, hA, hfr, hlo, hN⟩ := K
  intro H locs ls hP hD hS hl
  exact lv_lconst hx hb dg hv (k H locs ls hP hD hS hl)
theorem j_null (K : jOk n cc own ret d κ) (dg : decode cc pc = .ok (.aconst_null, 1)) (k : J L n κ X (pc + 1) lv (.null :: st)) : J L n κ X pc lv st := by
  obtain ⟨p, l, e, R, s, m, args, below, meth, c, D, A, ad, cA, rs, Q⟩ := κ
  obtain ⟨hx, hb, hml, hown, hts, hr0, hlk, hK, hA, hfr, hlo, hN⟩ := K
  intro H locs ls hP hD hS hl
  exact lv_null hx hb dg (k H locs ls hP hD hS hl)
theorem j_iload_n (K : jOk n cc own ret d κ) {i : Fin 4} {x : Int32} (dg : decode cc pc = .ok (.iload_n i, 1)) (q : Nat) (h : lv[q]? = some ((i : Nat), .int x)) (k : J L n κ X (pc + 1) lv (.int x :: st)) : J L n κ X pc lv st := by
  obtain ⟨p, l, e, R, s, m, args, below, meth, c, D, A, ad, cA, rs, Q⟩ := κ
  obtain ⟨hx, hb, hml, hown, hts, hr0, hlk, hK, hA, hfr, hlo, hN⟩ := K
  intro H locs ls hP hD hS hl
  exact lv_iload_n hx hb dg rfl (lv_at hl q h) (k H locs ls hP hD hS hl)
theorem j_iload (K : jOk n cc own ret d κ) {i : Nat} {x : Int32} (dg : decode cc pc = .ok (.iload i, 2)) (q : Nat) (h : lv[q]? = some (i, .int x)) (k : J L n κ X (pc + 2) lv (.int x :: st)) : J L n κ X pc lv st := by
  obtain ⟨p, l, e, R, s, m, args, below, meth, c, D, A, ad, cA, rs, Q⟩ := κ
  obtain ⟨hx, hb, hml, hown, hts, hr0, hlk, hK, hA, hfr, hlo, hN⟩ := K
  intro H locs ls hP hD hS hl
  exact lv_iload hx hb dg (lv_at hl q h) (k H locs ls hP hD hS hl)
theorem j_aload_n (K : jOk n cc own ret d κ) {i : Fin 4} {x : Nat} (dg : decode cc pc = .ok (.aload_n i, 1)) (q : Nat) (h : lv[q]? = some ((i : Nat), .ref x)) (k : J L n κ X (pc + 1) lv (.ref x :: st)) : J L n κ X pc lv st := by
  obtain ⟨p, l, e, R, s, m, args, below, meth, c, D, A, ad, cA, rs, Q⟩ := κ
  obtain ⟨hx, hb, hml, hown, hts, hr0, hlk, hK, hA, hfr, hlo, hN⟩ := K
  intro H locs ls hP hD hS hl
  exact lv_aload_n hx hb dg rfl (lv_at hl q h) (k H locs ls hP hD hS hl)
theorem j_aload (K : jOk n cc own ret d κ) {i : Nat} {x : Nat} (dg : decode cc pc = .ok (.aload i, 2)) (q : Nat) (h : lv[q]? = some (i, .ref x)) (k : J L n κ X (pc + 2) lv (.ref x :: st)) : J L n κ X pc lv st := by
  obtain ⟨p, l, e, R, s, m, args, below, meth, c, D, A, ad, cA, rs, Q⟩ := κ
  obtain ⟨hx, hb, hml, hown, hts, hr0, hlk, hK, hA, hfr, hlo, hN⟩ := K
  intro H locs ls hP hD hS hl
  exact lv_aload hx hb dg (lv_at hl q h) (k H locs ls hP hD hS hl)
theorem j_aload_nN (K : jOk n cc own ret d κ) {i : Fin 4} (dg : decode cc pc = .ok (.aload_n i, 1)) (q : Nat) (h : lv[q]? = some ((i : Nat), .null)) (k : J L n κ X (pc + 1) lv (.null :: st)) : J L n κ X pc lv st := by
  obtain ⟨p, l, e, R, s, m, args, below, meth, c, D, A, ad, cA, rs, Q⟩ := κ
  obtain ⟨hx, hb, hml, hown, hts, hr0, hlk, hK, hA, hfr, hlo, hN⟩ := K
  intro H locs ls hP hD hS hl
  exact lv_aload_nN hx hb dg rfl (lv_at hl q h) (k H locs ls hP hD hS hl)
theorem j_aloadN (K : jOk n cc own ret d κ) {i : Nat} (dg : decode cc pc = .ok (.aload i, 2)) (q : Nat) (h : lv[q]? = some (i, .null)) (k : J L n κ X (pc + 2) lv (.null :: st)) : J L n κ X pc lv st := by
  obtain ⟨p, l, e, R, s, m, args, below, meth, c, D, A, ad, cA, rs, Q⟩ := κ
  obtain ⟨hx, hb, hml, hown, hts, hr0, hlk, hK, hA, hfr, hlo, hN⟩ := K
  intro H locs ls hP hD hS hl
  exact lv_aloadN hx hb dg (lv_at hl q h) (k H locs ls hP hD hS hl)
theorem j_istore_n (K : jOk n cc own ret d κ) {i : Fin 4} {x : Int32} (dg : decode cc pc = .ok (.istore_n i, 1)) (hn : (i : Nat) < n) (k : J L n κ X (pc + 1) (jst (i : Nat) (.int x) lv) st) : J L n κ X pc lv (.int x :: st) := by
  obtain ⟨p, l, e, R, s, m, args, below, meth, c, D, A, ad, cA, rs, Q⟩ := κ
  obtain ⟨hx, hb, hml, hown, hts, hr0, hlk, hK, hA, hfr, hlo, hN⟩ := K
  intro H locs ls hP hD hS hl
  exact lv_istore_n hx hb dg rfl hl hn rfl (fun ls hl => k H locs ls hP hD hS hl)
theorem j_istore (K : jOk n cc own ret d κ) {i : Nat} {x : Int32} (dg : decode cc pc = .ok (.istore i, 2)) (hn : i < n) (k : J L n κ X (pc + 2) (jst i (.int x) lv) st) : J L n κ X pc lv (.int x :: st) := by
  obtain ⟨p, l, e, R, s, m, args, below, meth, c, D, A, ad, cA, rs, Q⟩ := κ
  obtain ⟨hx, hb, hml, hown, hts, hr0, hlk, hK, hA, hfr, hlo, hN⟩ := K
  intro H locs ls hP hD hS hl
  exact lv_istore hx hb dg hl hn rfl (fun ls hl => k H locs ls hP hD hS hl)
theorem j_astore_n (K : jOk n cc own ret d κ) {i : Fin 4} {x : Nat} (dg : decode cc pc = .ok (.astore_n i, 1)) (hn : (i : Nat) < n) (k : J L n κ X (pc + 1) (jst (i : Nat) (.ref x) lv) st) : J L n κ X pc lv (.ref x :: st) := by
  obtain ⟨p, l, e, R, s, m, args, below, meth, c, D, A, ad, cA, rs, Q⟩ := κ
  obtain ⟨hx, hb, hml, hown, hts, hr0, hlk, hK, hA, hfr, hlo, hN⟩ := K
  intro H locs ls hP hD hS hl
  exact lv_astore_n hx hb dg rfl hl hn rfl (fun ls hl => k H locs ls hP hD hS hl)
theorem j_astore (K : jOk n cc own ret d κ) {i : Nat} {x : Nat} (dg : decode cc pc = .ok (.astore i, 2)) (hn : i < n) (k : J L n κ X (pc + 2) (jst i (.ref x) lv) st) : J L n κ X pc lv (.ref x :: st) := by
  obtain ⟨p, l, e, R, s, m, args, below, meth, c, D, A, ad, cA, rs, Q⟩ := κ
  obtain ⟨hx, hb, hml, hown, hts, hr0, hlk, hK, hA, hfr, hlo, hN⟩ := K
  intro H locs ls hP hD hS hl
  exact lv_astore hx hb dg hl hn rfl (fun ls hl => k H locs ls hP hD hS hl)
theorem j_astore_nN (K : jOk n cc own ret d κ) {i : Fin 4} (dg : decode cc pc = .ok (.astore_n i, 1)) (hn : (i : Nat) < n) (k : J L n κ X (pc + 1) (jst (i : Nat) .null lv) st) : J L n κ X pc lv (.null :: st) := by
  obtain ⟨p, l, e, R, s, m, args, below, meth, c, D, A, ad, cA, rs, Q⟩ := κ
  obtain ⟨hx, hb, hml, hown, hts, hr0, hlk, hK, hA, hfr, hlo, hN⟩ := K
  intro H locs ls hP hD hS hl
  exact lv_astore_nN hx hb dg rfl hl hn rfl (fun ls hl => k H locs ls hP hD hS hl)
theorem j_astoreN (K : jOk n cc own ret d κ) {i : Nat} (dg : decode cc pc = .ok (.astore i, 2)) (hn : i < n) (k : J L n κ X (pc + 2) (jst i .null lv) st) : J L n κ X pc lv (.null :: st) := by
  obtain ⟨p, l, e, R, s, m, args, below, meth, c, D, A, ad, cA, rs, Q⟩ := κ
  obtain ⟨hx, hb, hml, hown, hts, hr0, hlk, hK, hA, hfr, hlo, hN⟩ := K
  intro H locs ls hP hD hS hl
  exact lv_astoreN hx hb dg hl hn rfl (fun ls hl => k H locs ls hP hD hS hl)
theorem j_iinc (K : jOk n cc own ret d κ) {i : Nat} {z : Int} {x v : Int32} (dg : decode cc pc = .ok (.iinc i z, 3)) (q : Nat) (h : lv[q]? = some (i, .int x)) (hz : Int32.ofInt z = v) (hn : i < n) (k : J L n κ X (pc + 3) (jst i (.int (x + v)) lv) st) : J L n κ X pc lv st := by
  obtain ⟨p, l, e, R, s, m, args, below, meth, c, D, A, ad, cA, rs, Q⟩ := κ
  obtain ⟨hx, hb, hml, hown, hts, hr0, hlk, hK, hA, hfr, hlo, hN⟩ := K
  intro H locs ls hP hD hS hl
  subst hz; exact lv_iinc hx hb dg hl h rfl hn rfl (fun ls hl => k H locs ls hP hD hS hl)
theorem j_iadd (K : jOk n cc own ret d κ) {x y : Int32} (dg : decode cc pc = .ok (.iadd, 1)) (k : J L n κ X (pc + 1) lv (.int (x + y) :: st)) : J L n κ X pc lv (.int y :: .int x :: st) := by
  obtain ⟨p, l, e, R, s, m, args, below, meth, c, D, A, ad, cA, rs, Q⟩ := κ
  obtain ⟨hx, hb, hml, hown, hts, hr0, hlk, hK, hA, hfr, hlo, hN⟩ := K
  intro H locs ls hP hD hS hl
  exact lv_iadd hx hb dg (k H locs ls hP hD hS hl)
theorem j_isub (K : jOk n cc own ret d κ) {x y : Int32} (dg : decode cc pc = .ok (.isub, 1)) (k : J L n κ X (pc + 1) lv (.int (x - y) :: st)) : J L n κ X pc lv (.int y :: .int x :: st) := by
  obtain ⟨p, l, e, R, s, m, args, below, meth, c, D, A, ad, cA, rs, Q⟩ := κ
  obtain ⟨hx, hb, hml, hown, hts, hr0, hlk, hK, hA, hfr, hlo, hN⟩ := K
  intro H locs ls hP hD hS hl
  exact lv_isub hx hb dg (k H locs ls hP hD hS hl)
theorem j_imul (K : jOk n cc own ret d κ) {x y : Int32} (dg : decode cc pc = .ok (.imul, 1)) (k : J L n κ X (pc + 1) lv (.int (x * y) :: st)) : J L n κ X pc lv (.int y :: .int x :: st) := by
  obtain ⟨p, l, e, R, s, m, args, below, meth, c, D, A, ad, cA, rs, Q⟩ := κ
  obtain ⟨hx, hb, hml, hown, hts, hr0, hlk, hK, hA, hfr, hlo, hN⟩ := K
  intro H locs ls hP hD hS hl
  exact lv_imul hx hb dg (k H locs ls hP hD hS hl)
theorem j_iand (K : jOk n cc own ret d κ) {x y : Int32} (dg : decode cc pc = .ok (.iand, 1)) (k : J L n κ X (pc + 1) lv (.int (x &&& y) :: st)) : J L n κ X pc lv (.int y :: .int x :: st) := by
  obtain ⟨p, l, e, R, s, m, args, below, meth, c, D, A, ad, cA, rs, Q⟩ := κ
  obtain ⟨hx, hb, hml, hown, hts, hr0, hlk, hK, hA, hfr, hlo, hN⟩ := K
  intro H locs ls hP hD hS hl
  exact lv_iand hx hb dg (k H locs ls hP hD hS hl)
theorem j_ishr (K : jOk n cc own ret d κ) {x y : Int32} (dg : decode cc pc = .ok (.ishr, 1)) (k : J L n κ X (pc + 1) lv (.int (x >>> (y &&& 31)) :: st)) : J L n κ X pc lv (.int y :: .int x :: st) := by
  obtain ⟨p, l, e, R, s, m, args, below, meth, c, D, A, ad, cA, rs, Q⟩ := κ
  obtain ⟨hx, hb, hml, hown, hts, hr0, hlk, hK, hA, hfr, hlo, hN⟩ := K
  intro H locs ls hP hD hS hl
  exact lv_ishr hx hb dg (k H locs ls hP hD hS hl)
theorem j_idiv (K : jOk n cc own ret d κ) {x y : Int32} (dg : decode cc pc = .ok (.idiv, 1)) (hy : ¬ y = 0) (k : J L n κ X (pc + 1) lv (.int (x / y) :: st)) : J L n κ X pc lv (.int y :: .int x :: st) := by
  obtain ⟨p, l, e, R, s, m, args, below, meth, c, D, A, ad, cA, rs, Q⟩ := κ
  obtain ⟨hx, hb, hml, hown, hts, hr0, hlk, hK, hA, hfr, hlo, hN⟩ := K
  intro H locs ls hP hD hS hl
  exact lv_idiv hx hb dg hy (k H locs ls hP hD hS hl)
theorem j_irem (K : jOk n cc own ret d κ) {x y : Int32} (dg : decode cc pc = .ok (.irem, 1)) (hy : ¬ y = 0) (k : J L n κ X (pc + 1) lv (.int (x - x / y * y) :: st)) : J L n κ X pc lv (.int y :: .int x :: st) := by
  obtain ⟨p, l, e, R, s, m, args, below, meth, c, D, A, ad, cA, rs, Q⟩ := κ
  obtain ⟨hx, hb, hml, hown, hts, hr0, hlk, hK, hA, hfr, hlo, hN⟩ := K
  intro H locs ls hP hD hS hl
  exact lv_irem hx hb dg hy (k H locs ls hP hD hS hl)
theorem j_dup (K : jOk n cc own ret d κ) {v : Value} (dg : decode cc pc = .ok (.dup, 1)) (hv : v.category = 1) (k : J L n κ X (pc + 1) lv (v :: v :: st)) : J L n κ X pc lv (v :: st) := by
  obtain ⟨p, l, e, R, s, m, args, below, meth, c, D, A, ad, cA, rs, Q⟩ := κ
  obtain ⟨hx, hb, hml, hown, hts, hr0, hlk, hK, hA, hfr, hlo, hN⟩ := K
  intro H locs ls hP hD hS hl
  exact lv_dup hx hb dg hv (k H locs ls hP hD hS hl)
theorem j_pop (K : jOk n cc own ret d κ) {v : Value} (dg : decode cc pc = .ok (.pop, 1)) (hv : v.category = 1) (k : J L n κ X (pc + 1) lv st) : J L n κ X pc lv (v :: st) := by
  obtain ⟨p, l, e, R, s, m, args, below, meth, c, D, A, ad, cA, rs, Q⟩ := κ
  obtain ⟨hx, hb, hml, hown, hts, hr0, hlk, hK, hA, hfr, hlo, hN⟩ := K
  intro H locs ls hP hD hS hl
  exact lv_pop hx hb dg hv (k H locs ls hP hD hS hl)
theorem j_dup2 (K : jOk n cc own ret d κ) {v u : Value} (dg : decode cc pc = .ok (.dup2, 1)) (hv : v.category = 1) (hu : u.category = 1) (k : J L n κ X (pc + 1) lv (v :: u :: v :: u :: st)) : J L n κ X pc lv (v :: u :: st) := by
  obtain ⟨p, l, e, R, s, m, args, below, meth, c, D, A, ad, cA, rs, Q⟩ := κ
  obtain ⟨hx, hb, hml, hown, hts, hr0, hlk, hK, hA, hfr, hlo, hN⟩ := K
  intro H locs ls hP hD hS hl
  exact lv_dup2_11 hx hb dg hv hu (k H locs ls hP hD hS hl)
theorem j_dup_x1 (K : jOk n cc own ret d κ) {v u : Value} (dg : decode cc pc = .ok (.dup_x1, 1)) (hv : v.category = 1) (hu : u.category = 1) (k : J L n κ X (pc + 1) lv (v :: u :: v :: st)) : J L n κ X pc lv (v :: u :: st) := by
  obtain ⟨p, l, e, R, s, m, args, below, meth, c, D, A, ad, cA, rs, Q⟩ := κ
  obtain ⟨hx, hb, hml, hown, hts, hr0, hlk, hK, hA, hfr, hlo, hN⟩ := K
  intro H locs ls hP hD hS hl
  exact lv_dup_x1 hx hb dg hv hu (k H locs ls hP hD hS hl)
theorem j_if_eq (K : jOk n cc own ret d κ) {x : Int32} {off : Int} {tgt : Nat} {a b : Option β} (dg : decode cc pc = .ok (.ifCond .eq off, 3)) (ht : (pc : Int) + off = (tgt : Int)) (hr : (if x = 0 then a else b) = some r) (kt : a = some r → J L n κ X tgt lv st) (kf : b = some r → J L n κ X (pc + 3) lv st) : J L n κ X pc lv (.int x :: st) := by
  obtain ⟨p, l, e, R, s, m, args, below, meth, c, D, A, ad, cA, rs, Q⟩ := κ
  obtain ⟨hx, hb, hml, hown, hts, hr0, hlk, hK, hA, hfr, hlo, hN⟩ := K
  intro H locs ls hP hD hS hl
  exact lv_if_eq hx hb dg ht (fun h => kt (by rw [if_pos h] at hr; exact hr) H locs ls hP hD hS hl) (fun h => kf (by rw [if_neg h] at hr; exact hr) H locs ls hP hD hS hl)
theorem j_icmp_eq (K : jOk n cc own ret d κ) {x y : Int32} {off : Int} {tgt : Nat} {a b : Option β} (dg : decode cc pc = .ok (.if_icmp .eq off, 3)) (ht : (pc : Int) + off = (tgt : Int)) (hr : (if x = y then a else b) = some r) (kt : a = some r → J L n κ X tgt lv st) (kf : b = some r → J L n κ X (pc + 3) lv st) : J L n κ X pc lv (.int y :: .int x :: st) := by
  obtain ⟨p, l, e, R, s, m, args, below, meth, c, D, A, ad, cA, rs, Q⟩ := κ
  obtain ⟨hx, hb, hml, hown, hts, hr0, hlk, hK, hA, hfr, hlo, hN⟩ := K
  intro H locs ls hP hD hS hl
  exact lv_icmp_eq hx hb dg ht (fun h => kt (by rw [if_pos h] at hr; exact hr) H locs ls hP hD hS hl) (fun h => kf (by rw [if_neg h] at hr; exact hr) H locs ls hP hD hS hl)
theorem j_if_ne (K : jOk n cc own ret d κ) {x : Int32} {off : Int} {tgt : Nat} {a b : Option β} (dg : decode cc pc = .ok (.ifCond .ne off, 3)) (ht : (pc : Int) + off = (tgt : Int)) (hr : (if ¬ x = 0 then a else b) = some r) (kt : a = some r → J L n κ X tgt lv st) (kf : b = some r → J L n κ X (pc + 3) lv st) : J L n κ X pc lv (.int x :: st) := by
  obtain ⟨p, l, e, R, s, m, args, below, meth, c, D, A, ad, cA, rs, Q⟩ := κ
  obtain ⟨hx, hb, hml, hown, hts, hr0, hlk, hK, hA, hfr, hlo, hN⟩ := K
  intro H locs ls hP hD hS hl
  exact lv_if_ne hx hb dg ht (fun h => kt (by rw [if_pos h] at hr; exact hr) H locs ls hP hD hS hl) (fun h => kf (by rw [if_neg (fun q => q h)] at hr; exact hr) H locs ls hP hD hS hl)
theorem j_icmp_ne (K : jOk n cc own ret d κ) {x y : Int32} {off : Int} {tgt : Nat} {a b : Option β} (dg : decode cc pc = .ok (.if_icmp .ne off, 3)) (ht : (pc : Int) + off = (tgt : Int)) (hr : (if ¬ x = y then a else b) = some r) (kt : a = some r → J L n κ X tgt lv st) (kf : b = some r → J L n κ X (pc + 3) lv st) : J L n κ X pc lv (.int y :: .int x :: st) := by
  obtain ⟨p, l, e, R, s, m, args, below, meth, c, D, A, ad, cA, rs, Q⟩ := κ
  obtain ⟨hx, hb, hml, hown, hts, hr0, hlk, hK, hA, hfr, hlo, hN⟩ := K
  intro H locs ls hP hD hS hl
  exact lv_icmp_ne hx hb dg ht (fun h => kt (by rw [if_pos h] at hr; exact hr) H locs ls hP hD hS hl) (fun h => kf (by rw [if_neg (fun q => q h)] at hr; exact hr) H locs ls hP hD hS hl)
theorem j_if_lt (K : jOk n cc own ret d κ) {x : Int32} {off : Int} {tgt : Nat} {a b : Option β} (dg : decode cc pc = .ok (.ifCond .lt off, 3)) (ht : (pc : Int) + off = (tgt : Int)) (hr : (if x < 0 then a else b) = some r) (kt : a = some r → J L n κ X tgt lv st) (kf : b = some r → J L n κ X (pc + 3) lv st) : J L n κ X pc lv (.int x :: st) := by
  obtain ⟨p, l, e, R, s, m, args, below, meth, c, D, A, ad, cA, rs, Q⟩ := κ
  obtain ⟨hx, hb, hml, hown, hts, hr0, hlk, hK, hA, hfr, hlo, hN⟩ := K
  intro H locs ls hP hD hS hl
  exact lv_if_lt hx hb dg ht (fun h => kt (by rw [if_pos h] at hr; exact hr) H locs ls hP hD hS hl) (fun h => kf (by rw [if_neg h] at hr; exact hr) H locs ls hP hD hS hl)
theorem j_icmp_lt (K : jOk n cc own ret d κ) {x y : Int32} {off : Int} {tgt : Nat} {a b : Option β} (dg : decode cc pc = .ok (.if_icmp .lt off, 3)) (ht : (pc : Int) + off = (tgt : Int)) (hr : (if x < y then a else b) = some r) (kt : a = some r → J L n κ X tgt lv st) (kf : b = some r → J L n κ X (pc + 3) lv st) : J L n κ X pc lv (.int y :: .int x :: st) := by
  obtain ⟨p, l, e, R, s, m, args, below, meth, c, D, A, ad, cA, rs, Q⟩ := κ
  obtain ⟨hx, hb, hml, hown, hts, hr0, hlk, hK, hA, hfr, hlo, hN⟩ := K
  intro H locs ls hP hD hS hl
  exact lv_icmp_lt hx hb dg ht (fun h => kt (by rw [if_pos h] at hr; exact hr) H locs ls hP hD hS hl) (fun h => kf (by rw [if_neg h] at hr; exact hr) H locs ls hP hD hS hl)
theorem j_if_ge (K : jOk n cc own ret d κ) {x : Int32} {off : Int} {tgt : Nat} {a b : Option β} (dg : decode cc pc = .ok (.ifCond .ge off, 3)) (ht : (pc : Int) + off = (tgt : Int)) (hr : (if 0 ≤ x then a else b) = some r) (kt : a = some r → J L n κ X tgt lv st) (kf : b = some r → J L n κ X (pc + 3) lv st) : J L n κ X pc lv (.int x :: st) := by
  obtain ⟨p, l, e, R, s, m, args, below, meth, c, D, A, ad, cA, rs, Q⟩ := κ
  obtain ⟨hx, hb, hml, hown, hts, hr0, hlk, hK, hA, hfr, hlo, hN⟩ := K
  intro H locs ls hP hD hS hl
  exact lv_if_ge hx hb dg ht (fun h => kt (by rw [if_pos h] at hr; exact hr) H locs ls hP hD hS hl) (fun h => kf (by rw [if_neg h] at hr; exact hr) H locs ls hP hD hS hl)
theorem j_icmp_ge (K : jOk n cc own ret d κ) {x y : Int32} {off : Int} {tgt : Nat} {a b : Option β} (dg : decode cc pc = .ok (.if_icmp .ge off, 3)) (ht : (pc : Int) + off = (tgt : Int)) (hr : (if y ≤ x then a else b) = some r) (kt : a = some r → J L n κ X tgt lv st) (kf : b = some r → J L n κ X (pc + 3) lv st) : J L n κ X pc lv (.int y :: .int x :: st) := by
  obtain ⟨p, l, e, R, s, m, args, below, meth, c, D, A, ad, cA, rs, Q⟩ := κ
  obtain ⟨hx, hb, hml, hown, hts, hr0, hlk, hK, hA, hfr, hlo, hN⟩ := K
  intro H locs ls hP hD hS hl
  exact lv_icmp_ge hx hb dg ht (fun h => kt (by rw [if_pos h] at hr; exact hr) H locs ls hP hD hS hl) (fun h => kf (by rw [if_neg h] at hr; exact hr) H locs ls hP hD hS hl)
theorem j_if_gt (K : jOk n cc own ret d κ) {x : Int32} {off : Int} {tgt : Nat} {a b : Option β} (dg : decode cc pc = .ok (.ifCond .gt off, 3)) (ht : (pc : Int) + off = (tgt : Int)) (hr : (if 0 < x then a else b) = some r) (kt : a = some r → J L n κ X tgt lv st) (kf : b = some r → J L n κ X (pc + 3) lv st) : J L n κ X pc lv (.int x :: st) := by
  obtain ⟨p, l, e, R, s, m, args, below, meth, c, D, A, ad, cA, rs, Q⟩ := κ
  obtain ⟨hx, hb, hml, hown, hts, hr0, hlk, hK, hA, hfr, hlo, hN⟩ := K
  intro H locs ls hP hD hS hl
  exact lv_if_gt hx hb dg ht (fun h => kt (by rw [if_pos h] at hr; exact hr) H locs ls hP hD hS hl) (fun h => kf (by rw [if_neg h] at hr; exact hr) H locs ls hP hD hS hl)
theorem j_icmp_gt (K : jOk n cc own ret d κ) {x y : Int32} {off : Int} {tgt : Nat} {a b : Option β} (dg : decode cc pc = .ok (.if_icmp .gt off, 3)) (ht : (pc : Int) + off = (tgt : Int)) (hr : (if y < x then a else b) = some r) (kt : a = some r → J L n κ X tgt lv st) (kf : b = some r → J L n κ X (pc + 3) lv st) : J L n κ X pc lv (.int y :: .int x :: st) := by
  obtain ⟨p, l, e, R, s, m, args, below, meth, c, D, A, ad, cA, rs, Q⟩ := κ
  obtain ⟨hx, hb, hml, hown, hts, hr0, hlk, hK, hA, hfr, hlo, hN⟩ := K
  intro H locs ls hP hD hS hl
  exact lv_icmp_gt hx hb dg ht (fun h => kt (by rw [if_pos h] at hr; exact hr) H locs ls hP hD hS hl) (fun h => kf (by rw [if_neg h] at hr; exact hr) H locs ls hP hD hS hl)
theorem j_if_le (K : jOk n cc own ret d κ) {x : Int32} {off : Int} {tgt : Nat} {a b : Option β} (dg : decode cc pc = .ok (.ifCond .le off, 3)) (ht : (pc : Int) + off = (tgt : Int)) (hr : (if x ≤ 0 then a else b) = some r) (kt : a = some r → J L n κ X tgt lv st) (kf : b = some r → J L n κ X (pc + 3) lv st) : J L n κ X pc lv (.int x :: st) := by
  obtain ⟨p, l, e, R, s, m, args, below, meth, c, D, A, ad, cA, rs, Q⟩ := κ
  obtain ⟨hx, hb, hml, hown, hts, hr0, hlk, hK, hA, hfr, hlo, hN⟩ := K
  intro H locs ls hP hD hS hl
  exact lv_if_le hx hb dg ht (fun h => kt (by rw [if_pos h] at hr; exact hr) H locs ls hP hD hS hl) (fun h => kf (by rw [if_neg h] at hr; exact hr) H locs ls hP hD hS hl)
theorem j_icmp_le (K : jOk n cc own ret d κ) {x y : Int32} {off : Int} {tgt : Nat} {a b : Option β} (dg : decode cc pc = .ok (.if_icmp .le off, 3)) (ht : (pc : Int) + off = (tgt : Int)) (hr : (if x ≤ y then a else b) = some r) (kt : a = some r → J L n κ X tgt lv st) (kf : b = some r → J L n κ X (pc + 3) lv st) : J L n κ X pc lv (.int y :: .int x :: st) := by
  obtain ⟨p, l, e, R, s, m, args, below, meth, c, D, A, ad, cA, rs, Q⟩ := κ
  obtain ⟨hx, hb, hml, hown, hts, hr0, hlk, hK, hA, hfr, hlo, hN⟩ := K
  intro H locs ls hP hD hS hl
  exact lv_icmp_le hx hb dg ht (fun h => kt (by rw [if_pos h] at hr; exact hr) H locs ls hP hD hS hl) (fun h => kf (by rw [if_neg h] at hr; exact hr) H locs ls hP hD hS hl)
theorem j_goto (K : jOk n cc own ret d κ) {off : Int} {tgt : Nat} (dg : decode cc pc = .ok (.goto off, 3)) (ht : (pc : Int) + off = (tgt : Int)) (k : J L n κ X tgt lv st) : J L n κ X pc lv st := by
  obtain ⟨p, l, e, R, s, m, args, below, meth, c, D, A, ad, cA, rs, Q⟩ := κ
  obtain ⟨hx, hb, hml, hown, hts, hr0, hlk, hK, hA, hfr, hlo, hN⟩ := K
  intro H locs ls hP hD hS hl
  exact lv_goto hx hb dg ht (k H locs ls hP hD hS hl)
theorem j_ifnull (K : jOk n cc own ret d κ) {a : Nat} {off : Int} (dg : decode cc pc = .ok (.ifnull off, 3)) (k : J L n κ X (pc + 3) lv st) : J L n κ X pc lv (.ref a :: st) := by
  obtain ⟨p, l, e, R, s, m, args, below, meth, c, D, A, ad, cA, rs, Q⟩ := κ
  obtain ⟨hx, hb, hml, hown, hts, hr0, hlk, hK, hA, hfr, hlo, hN⟩ := K
  intro H locs ls hP hD hS hl
  exact lv_ifnull hx hb dg (k H locs ls hP hD hS hl)
theorem j_ifnullN (K : jOk n cc own ret d κ) {off : Int} {tgt : Nat} (dg : decode cc pc = .ok (.ifnull off, 3)) (ht : (pc : Int) + off = (tgt : Int)) (k : J L n κ X tgt lv st) : J L n κ X pc lv (.null :: st) := by
  obtain ⟨p, l, e, R, s, m, args, below, meth, c, D, A, ad, cA, rs, Q⟩ := κ
  obtain ⟨hx, hb, hml, hown, hts, hr0, hlk, hK, hA, hfr, hlo, hN⟩ := K
  intro H locs ls hP hD hS hl
  exact lv_ifnullN hx hb dg ht (k H locs ls hP hD hS hl)
theorem j_ifnonnull (K : jOk n cc own ret d κ) {a : Nat} {off : Int} {tgt : Nat} (dg : decode cc pc = .ok (.ifnonnull off, 3)) (ht : (pc : Int) + off = (tgt : Int)) (k : J L n κ X tgt lv st) : J L n κ X pc lv (.ref a :: st) := by
  obtain ⟨p, l, e, R, s, m, args, below, meth, c, D, A, ad, cA, rs, Q⟩ := κ
  obtain ⟨hx, hb, hml, hown, hts, hr0, hlk, hK, hA, hfr, hlo, hN⟩ := K
  intro H locs ls hP hD hS hl
  exact lv_ifnonnull hx hb dg ht (k H locs ls hP hD hS hl)
theorem j_ifnonnullN (K : jOk n cc own ret d κ) {off : Int} (dg : decode cc pc = .ok (.ifnonnull off, 3)) (k : J L n κ X (pc + 3) lv st) : J L n κ X pc lv (.null :: st) := by
  obtain ⟨p, l, e, R, s, m, args, below, meth, c, D, A, ad, cA, rs, Q⟩ := κ
  obtain ⟨hx, hb, hml, hown, hts, hr0, hlk, hK, hA, hfr, hlo, hN⟩ := K
  intro H locs ls hP hD hS hl
  exact lv_ifnonnullN hx hb dg (k H locs ls hP hD hS hl)
theorem wZ_inj {L : Lay} {ad : Nat → Nat} {cA : Nat → ClassId} {X : JX} {rs : va_W} {A : Nat → Prop} (h : va_D A (wZ L ad cA X ++ rs)) {i j : Nat} (hi : i < L.1) (hj : j < L.1) (e : ad i = ad j) : i = j := h.1 i j _ _ (wZ_get hi) (wZ_get hj) e
theorem j_acmp_eq (K : jOk n cc own ret d κ) {x y : Nat} {off : Int} {tgt : Nat} {a b : Option β} (dg : decode cc pc = .ok (.if_acmp .eq off, 3)) (ht : (pc : Int) + off = (tgt : Int)) (h1 : x < L.1) (h2 : y < L.1) (hr : (if x = y then a else b) = some r) (kt : a = some r → J L n κ X tgt lv st) (kf : b = some r → J L n κ X (pc + 3) lv st) : J L n κ X pc lv (.ref (jad κ y) :: .ref (jad κ x) :: st) := by
  obtain ⟨p, l, e, R, s, m, args, below, meth, c, D, A, ad, cA, rs, Q⟩ := κ
  obtain ⟨hx, hb, hml, hown, hts, hr0, hlk, hK, hA, hfr, hlo, hN⟩ := K
  intro H locs ls hP hD hS hl
  exact lv_acmp_eq (rx := some (ad x)) (ry := some (ad y)) hx hb dg ht (fun h => kt (by rw [if_pos (wZ_inj hD h1 h2 (Option.some.inj h))] at hr; exact hr) H locs ls hP hD hS hl) (fun h => kf (by rw [if_neg (fun q => h (by rw [q]))] at hr; exact hr) H locs ls hP hD hS hl)
theorem j_acmp_eqN (K : jOk n cc own ret d κ) {x : Nat} {off : Int} {tgt : Nat} (dg : decode cc pc = .ok (.if_acmp .eq off, 3)) (ht : (pc : Int) + off = (tgt : Int)) (kf : J L n κ X (pc + 3) lv st) : J L n κ X pc lv (.null :: .ref (jad κ x) :: st) := by
  obtain ⟨p, l, e, R, s, m, args, below, meth, c, D, A, ad, cA, rs, Q⟩ := κ
  obtain ⟨hx, hb, hml, hown, hts, hr0, hlk, hK, hA, hfr, hlo, hN⟩ := K
  intro H locs ls hP hD hS hl
  exact lv_acmp_eq (rx := some (ad x)) (ry := none) hx hb dg ht (fun h => nomatch h) (fun h => kf H locs ls hP hD hS hl)
theorem j_guard {c : Prop} [Decidable c] {a : Option β} (hr : (if c then a else none) = some r) (k : c → a = some r → J L n κ X pc lv st) : J L n κ X pc lv st := k (g_if hr).1 (g_if hr).2
theorem j_sub {lv' : List (Nat × Value)} (ks : List Nat) (h : lv_pick lv ks = lv') (k : J L n κ X pc lv' st) : J L n κ X pc lv st := by
  obtain ⟨p, l, e, R, s, m, args, below, meth, c, D, A, ad, cA, rs, Q⟩ := κ
  intro H locs ls hP hD hS hl
  exact k H locs ls hP hD hS (lv_sub hl ks h)
theorem j_loop {T : Type} {f : (T → Option β) → T → Option β} {P : T → Prop} (h : ∀ rec : T → Option β, (∀ s, rec s = some r → P s) → ∀ s, f rec s = some r → P s) : ∀ (n : Nat) (s : T), loopF f n s = some r → P s
  | 0, _, hr => nomatch hr
  | n + 1, s, hr => h (loopF f n) (j_loop h n) s hr
theorem cZ_ob {L : Lay} {ad : Nat → Nat} {cA : Nat → ClassId} {f : Nat → Int32} {k ci z : Nat} (h : L.2.1 k = (10 + ci, z)) (hc : ci < 90) : cZ L ad cA f k = .inr (ci, L.2.2 ad f k ci) := by
  unfold cZ
  rw [h]
  obtain ⟨c, hc2⟩ : ∃ c, c = 10 + ci := ⟨_, rfl⟩
  rw [← hc2]
  match c, hc2 with
  | 0, e => omega
  | 1, e => omega
  | 2, e => omega
  | 3, e => omega
  | c + 4, e =>
    show (if c + 4 < 100 then _ else _) = _
    rw [if_pos (by omega), e, Nat.add_sub_cancel_left]
theorem cZ_ou {L : Lay} {ad : Nat → Nat} {cA : Nat → ClassId} {f : Nat → Int32} {k b n : Nat} (h : L.2.1 k = (100 + b, n)) : cZ L ad cA f k = .inl (cA 4, (n, .inr (.inr (.inr (.inr (fun j => if j < n then some (ad (b + j)) else none)))))) := by
  unfold cZ
  rw [h]
  obtain ⟨c, hc2⟩ : ∃ c, c = 100 + b := ⟨_, rfl⟩
  rw [← hc2]
  match c, hc2 with
  | 0, e => omega
  | 1, e => omega
  | 2, e => omega
  | 3, e => omega
  | c + 4, e =>
    show (if c + 4 < 100 then _ else _) = _
    rw [if_neg (by omega), e, Nat.add_sub_cancel_left]
theorem cZ_0 {L : Lay} {ad : Nat → Nat} {cA : Nat → ClassId} {f : Nat → Int32} {k n : Nat} (h : L.2.1 k = (0, n)) : cZ L ad cA f k = .inl (cA 0, (n, .inl f)) := by unfold cZ; rw [h]; rfl
theorem cZ_1 {L : Lay} {ad : Nat → Nat} {cA : Nat → ClassId} {f : Nat → Int32} {k n : Nat} (h : L.2.1 k = (1, n)) : cZ L ad cA f k = .inl (cA 1, (n, .inl f)) := by unfold cZ; rw [h]; rfl
theorem cZ_2 {L : Lay} {ad : Nat → Nat} {cA : Nat → ClassId} {f : Nat → Int32} {k n : Nat} (h : L.2.1 k = (2, n)) : cZ L ad cA f k = .inl (cA 2, (n, .inl f)) := by unfold cZ; rw [h]; rfl
theorem cZ_3 {L : Lay} {ad : Nat → Nat} {cA : Nat → ClassId} {f : Nat → Int32} {k n : Nat} (h : L.2.1 k = (3, n)) : cZ L ad cA f k = .inl (cA 3, (n, .inr (.inr (.inr (.inr (fun j => some (ad (f j).toNatClampNeg))))))) := by unfold cZ; rw [h]; rfl
theorem j_get (K : jOk n cc own ret d κ) {idx ci j k z : Nat} {v : Value} (fl : FLk own idx ci j) (hs : L.2.1 k = (10 + ci, z)) (hk : k < L.1) (hc : ci < 90) (hv : (L.2.2 (jad κ) (X k) k ci)[j]? = some v) (dg : decode cc pc = .ok (.getfield idx, 3)) (kk : J L n κ X (pc + 3) lv (v :: st)) : J L n κ X pc lv (.ref (jad κ k) :: st) := by
  obtain ⟨p, l, e, R, s, m, args, below, meth, c, D, A, ad, cA, rs, Q⟩ := κ
  obtain ⟨hx, hb, hml, hown, hts, hr0, hlk, hK, hA, hfr, hlo, hN⟩ := K
  intro H locs ls hP hD hS hl
  obtain ⟨⟨C, T, N⟩, g1, g2, g3, g4, g5⟩ := fl
  have g6 : T j = (C, (T j).2) := Prod.ext g5 rfl
  refine va_get hx hb hts g4 hown hK hP k (by rw [wZ_get hk, cZ_ob hs hc]; rfl) g1 j g2 (hts _ g3) (fun x h => ?_) hv dg (kk H locs ls hP hD hS hl)
  have g7 : (T j).1 = C := g5
  rw [g7] at h; exact h
theorem j_puti (K : jOk n cc own ret d κ) {idx ci j k z : Nat} {v : Int32} (fl : FPk own idx ci j .int) (hs : L.2.1 k = (10 + ci, z)) (hk : k < L.1) (hc : ci < 90) (hl9 : ∀ f, j < (L.2.2 (jad κ) f k ci).length) (hv : ∀ f, (L.2.2 (jad κ) f k ci).set j (.int v) = L.2.2 (jad κ) (upd f j v) k ci) (dg : decode cc pc = .ok (.putfield idx, 3)) (kk : J L n κ (pX X k (upd (X k) j v)) (pc + 3) lv st) : J L n κ X pc lv (.int v :: .ref (jad κ k) :: st) := by
  obtain ⟨p, l, e, R, s, m, args, below, meth, c, D, A, ad, cA, rs, Q⟩ := κ
  obtain ⟨hx, hb, hml, hown, hts, hr0, hlk, hK, hA, hfr, hlo, hN⟩ := K
  intro H locs ls hP hD hS hl
  obtain ⟨⟨C, T, N⟩, ty0, g1, g2, g3, g4, g5, g6, g7, g8, g9⟩ := fl
  refine va_put hx hb hts g4 ty0 g6 g7 hown hK hP hD hS k (by rw [wZ_get hk, cZ_ob hs hc]; rfl) g1 j g2 (hts _ g3) (fun x h => ?_) g8 g9 rfl rfl (hl9 _) dg (fun H locs hP hD hS => ?_)
  · have g7 : (T j).1 = C := g5
    rw [g7] at h; exact h
  · have e : (jad (p, l, e, R, s, m, args, below, meth, c, D, A, ad, cA, rs, Q) k, (Sum.inr (ci, (L.2.2 (jad (p, l, e, R, s, m, args, below, meth, c, D, A, ad, cA, rs, Q)) (X k) k ci).set j (Value.int v)) : va_E)) = (ad k, cZ L ad cA (pX X k (upd (X k) j v) k) k) := by
      rw [hv, pX_self, cZ_ob hs hc]; rfl
    rw [e, wZ_set hk (fun q h => pX_ne X _ h)] at hP hD
    exact kk H locs ls hP hD hS hl
theorem j_putz (K : jOk n cc own ret d κ) {idx ci j k z : Nat} {v : Int32} (fl : FPk own idx ci j .boolean) (hs : L.2.1 k = (10 + ci, z)) (hk : k < L.1) (hc : ci < 90) (hl9 : ∀ f, j < (L.2.2 (jad κ) f k ci).length) (hv : ∀ f, (L.2.2 (jad κ) f k ci).set j (.int v) = L.2.2 (jad κ) (upd f j v) k ci) (hz : okB v = true) (dg : decode cc pc = .ok (.putfield idx, 3)) (kk : J L n κ (pX X k (upd (X k) j v)) (pc + 3) lv st) : J L n κ X pc lv (.int v :: .ref (jad κ k) :: st) := by
  obtain ⟨p, l, e, R, s, m, args, below, meth, c, D, A, ad, cA, rs, Q⟩ := κ
  obtain ⟨hx, hb, hml, hown, hts, hr0, hlk, hK, hA, hfr, hlo, hN⟩ := K
  intro H locs ls hP hD hS hl
  obtain ⟨⟨C, T, N⟩, ty0, g1, g2, g3, g4, g5, g6, g7, g8, g9⟩ := fl
  refine va_put hx hb hts g4 ty0 g6 g7 hown hK hP hD hS k (by rw [wZ_get hk, cZ_ob hs hc]; rfl) g1 j g2 (hts _ g3) (fun x h => ?_) g8 g9 (okB_n hz) (okB_f hz) (hl9 _) dg (fun H locs hP hD hS => ?_)
  · have g7 : (T j).1 = C := g5
    rw [g7] at h; exact h
  · have e : (jad (p, l, e, R, s, m, args, below, meth, c, D, A, ad, cA, rs, Q) k, (Sum.inr (ci, (L.2.2 (jad (p, l, e, R, s, m, args, below, meth, c, D, A, ad, cA, rs, Q)) (X k) k ci).set j (Value.int v)) : va_E)) = (ad k, cZ L ad cA (pX X k (upd (X k) j v) k) k) := by
      rw [hv, pX_self, cZ_ob hs hc]; rfl
    rw [e, wZ_set hk (fun q h => pX_ne X _ h)] at hP hD
    exact kk H locs ls hP hD hS hl
theorem j_getN (K : jOk n cc own ret d κ) {idx ci j k z : Nat} {v : Value} (fl : FLn own idx ci j) (hs : L.2.1 k = (10 + ci, z)) (hk : k < L.1) (hc : ci < 90) (hv : (L.2.2 (jad κ) (X k) k ci)[j]? = some v) (dg : decode cc pc = .ok (.getfield idx, 3)) (kk : J L n κ X (pc + 3) lv (v :: st)) : J L n κ X pc lv (.ref (jad κ k) :: st) := by
  obtain ⟨p, l, e, R, s, m, args, below, meth, c, D, A, ad, cA, rs, Q⟩ := κ
  obtain ⟨hx, hb, hml, hown, hts, hr0, hlk, hK, hA, hfr, hlo, hN⟩ := K
  intro H locs ls hP hD hS hl
  obtain ⟨⟨C, T, N⟩, g1, g2, g3, g4, g5⟩ := fl
  have h8 := hN.1 _ g3
  refine va_getN hx hb hts g4 hown hK hP k (by rw [wZ_get hk, cZ_ob hs hc]; rfl) g1 j g2 (va_Nw.use rfl h8) (fun x h => ?_) hv dg (kk H locs ls hP hD hS hl)
  have g7 : (T j).1 = C := g5
  rw [g7] at h; exact h
theorem j_putiN (K : jOk n cc own ret d κ) {idx ci j k z : Nat} {v : Int32} (fl : FPn own idx ci j .int) (hs : L.2.1 k = (10 + ci, z)) (hk : k < L.1) (hc : ci < 90) (hl9 : ∀ f, j < (L.2.2 (jad κ) f k ci).length) (hv : ∀ f, (L.2.2 (jad κ) f k ci).set j (.int v) = L.2.2 (jad κ) (upd f j v) k ci) (dg : decode cc pc = .ok (.putfield idx, 3)) (kk : J L n κ (pX X k (upd (X k) j v)) (pc + 3) lv st) : J L n κ X pc lv (.int v :: .ref (jad κ k) :: st) := by
  obtain ⟨p, l, e, R, s, m, args, below, meth, c, D, A, ad, cA, rs, Q⟩ := κ
  obtain ⟨hx, hb, hml, hown, hts, hr0, hlk, hK, hA, hfr, hlo, hN⟩ := K
  intro H locs ls hP hD hS hl
  obtain ⟨⟨C, T, N⟩, ty0, g1, g2, g3, g4, g5, g6, g7, g8, g9⟩ := fl
  have h8 := hN.1 _ g3
  refine va_putN hx hb hts g4 ty0 g6 g7 hown hK hP hD hS k (by rw [wZ_get hk, cZ_ob hs hc]; rfl) g1 j g2 (va_Nw.use rfl h8) (fun x h => ?_) g8 g9 rfl rfl (hl9 _) dg (fun H locs hP hD hS => ?_)
  · have g7 : (T j).1 = C := g5
    rw [g7] at h; exact h
  · have e : (jad (p, l, e, R, s, m, args, below, meth, c, D, A, ad, cA, rs, Q) k, (Sum.inr (ci, (L.2.2 (jad (p, l, e, R, s, m, args, below, meth, c, D, A, ad, cA, rs, Q)) (X k) k ci).set j (Value.int v)) : va_E)) = (ad k, cZ L ad cA (pX X k (upd (X k) j v) k) k) := by
      rw [hv, pX_self, cZ_ob hs hc]; rfl
    rw [e, wZ_set hk (fun q h => pX_ne X _ h)] at hP hD
    exact kk H locs ls hP hD hS hl
theorem j_putzN (K : jOk n cc own ret d κ) {idx ci j k z : Nat} {v : Int32} (fl : FPn own idx ci j .boolean) (hs : L.2.1 k = (10 + ci, z)) (hk : k < L.1) (hc : ci < 90) (hl9 : ∀ f, j < (L.2.2 (jad κ) f k ci).length) (hv : ∀ f, (L.2.2 (jad κ) f k ci).set j (.int v) = L.2.2 (jad κ) (upd f j v) k ci) (hz : okB v = true) (dg : decode cc pc = .ok (.putfield idx, 3)) (kk : J L n κ (pX X k (upd (X k) j v)) (pc + 3) lv st) : J L n κ X pc lv (.int v :: .ref (jad κ k) :: st) := by
  obtain ⟨p, l, e, R, s, m, args, below, meth, c, D, A, ad, cA, rs, Q⟩ := κ
  obtain ⟨hx, hb, hml, hown, hts, hr0, hlk, hK, hA, hfr, hlo, hN⟩ := K
  intro H locs ls hP hD hS hl
  obtain ⟨⟨C, T, N⟩, ty0, g1, g2, g3, g4, g5, g6, g7, g8, g9⟩ := fl
  have h8 := hN.1 _ g3
  refine va_putN hx hb hts g4 ty0 g6 g7 hown hK hP hD hS k (by rw [wZ_get hk, cZ_ob hs hc]; rfl) g1 j g2 (va_Nw.use rfl h8) (fun x h => ?_) g8 g9 (okB_n hz) (okB_f hz) (hl9 _) dg (fun H locs hP hD hS => ?_)
  · have g7 : (T j).1 = C := g5
    rw [g7] at h; exact h
  · have e : (jad (p, l, e, R, s, m, args, below, meth, c, D, A, ad, cA, rs, Q) k, (Sum.inr (ci, (L.2.2 (jad (p, l, e, R, s, m, args, below, meth, c, D, A, ad, cA, rs, Q)) (X k) k ci).set j (Value.int v)) : va_E)) = (ad k, cZ L ad cA (pX X k (upd (X k) j v) k) k) := by
      rw [hv, pX_self, cZ_ob hs hc]; rfl
    rw [e, wZ_set hk (fun q h => pX_ne X _ h)] at hP hD
    exact kk H locs ls hP hD hS hl
theorem j_iaload (K : jOk n cc own ret d κ) {k z : Nat} {i : Int32} {a : Option β} (hs : L.2.1 k = (0, z)) (hk : k < L.1) (dg : decode cc pc = .ok (.iaload, 1)) (hr : (if okI i z = true then a else none) = some r) (kk : a = some r → J L n κ X (pc + 1) lv (.int (X k i.toNatClampNeg) :: st)) : J L n κ X pc lv (.int i :: .ref (jad κ k) :: st) := by
  obtain ⟨p, l, e, R, s, m, args, below, meth, c, D, A, ad, cA, rs, Q⟩ := κ
  obtain ⟨hx, hb, hml, hown, hts, hr0, hlk, hK, hA, hfr, hlo, hN⟩ := K
  intro H locs ls hP hD hS hl
  obtain ⟨h1, h2⟩ := g_if hr
  exact va_iald hx hb hK hP k 0 (by rw [wZ_get hk, cZ_0 hs]; rfl) rfl (okI_in h1) dg (kk h2 H locs ls hP hD hS hl)
theorem j_baload (K : jOk n cc own ret d κ) {k z : Nat} {i : Int32} {a : Option β} (hs : L.2.1 k = (1, z)) (hk : k < L.1) (dg : decode cc pc = .ok (.baload, 1)) (hr : (if okI i z = true then a else none) = some r) (kk : a = some r → J L n κ X (pc + 1) lv (.int (X k i.toNatClampNeg) :: st)) : J L n κ X pc lv (.int i :: .ref (jad κ k) :: st) := by
  obtain ⟨p, l, e, R, s, m, args, below, meth, c, D, A, ad, cA, rs, Q⟩ := κ
  obtain ⟨hx, hb, hml, hown, hts, hr0, hlk, hK, hA, hfr, hlo, hN⟩ := K
  intro H locs ls hP hD hS hl
  obtain ⟨h1, h2⟩ := g_if hr
  exact va_zald hx hb hK hP k 1 (by rw [wZ_get hk, cZ_1 hs]; rfl) rfl (okI_in h1) dg (kk h2 H locs ls hP hD hS hl)
theorem j_caload (K : jOk n cc own ret d κ) {k z : Nat} {i : Int32} {a : Option β} (hs : L.2.1 k = (2, z)) (hk : k < L.1) (dg : decode cc pc = .ok (.caload, 1)) (hr : (if okI i z = true then a else none) = some r) (kk : a = some r → J L n κ X (pc + 1) lv (.int (X k i.toNatClampNeg) :: st)) : J L n κ X pc lv (.int i :: .ref (jad κ k) :: st) := by
  obtain ⟨p, l, e, R, s, m, args, below, meth, c, D, A, ad, cA, rs, Q⟩ := κ
  obtain ⟨hx, hb, hml, hown, hts, hr0, hlk, hK, hA, hfr, hlo, hN⟩ := K
  intro H locs ls hP hD hS hl
  obtain ⟨h1, h2⟩ := g_if hr
  exact va_cald hx hb hK hP k 2 (by rw [wZ_get hk, cZ_2 hs]; rfl) rfl (okI_in h1) dg (kk h2 H locs ls hP hD hS hl)
theorem j_iastore (K : jOk n cc own ret d κ) {k z : Nat} {i v : Int32} {a : Option β} (hs : L.2.1 k = (0, z)) (hk : k < L.1) (dg : decode cc pc = .ok (.iastore, 1)) (hr : (if okI i z = true then a else none) = some r) (kk : a = some r → J L n κ (pX X k (upd (X k) i.toNatClampNeg v)) (pc + 1) lv st) : J L n κ X pc lv (.int v :: .int i :: .ref (jad κ k) :: st) := by
  obtain ⟨p, l, e, R, s, m, args, below, meth, c, D, A, ad, cA, rs, Q⟩ := κ
  obtain ⟨hx, hb, hml, hown, hts, hr0, hlk, hK, hA, hfr, hlo, hN⟩ := K
  intro H locs ls hP hD hS hl
  obtain ⟨h1, h2⟩ := g_if hr
  refine va_iast hx hb hK hP hD hS k 0 (by rw [wZ_get hk, cZ_0 hs]; rfl) rfl (okI_in h1) dg (fun H locs hP hD hS => ?_)
  have e : (jad (p, l, e, R, s, m, args, below, meth, c, D, A, ad, cA, rs, Q) k, (Sum.inl (cA 0, z, Sum.inl (upd (X k) i.toNatClampNeg v)) : va_E)) = (ad k, cZ L ad cA (pX X k (upd (X k) i.toNatClampNeg v) k) k) := by
    rw [pX_self, cZ_0 hs]; rfl
  rw [e, wZ_set hk (fun q h => pX_ne X _ h)] at hP hD
  exact kk h2 H locs ls hP hD hS hl
theorem j_bastore (K : jOk n cc own ret d κ) {k z : Nat} {i v : Int32} {a : Option β} (hs : L.2.1 k = (1, z)) (hk : k < L.1) (dg : decode cc pc = .ok (.bastore, 1)) (hr : (if okI i z = true then a else none) = some r) (kk : a = some r → J L n κ (pX X k (upd (X k) i.toNatClampNeg (vp_nar .boolean v))) (pc + 1) lv st) : J L n κ X pc lv (.int v :: .int i :: .ref (jad κ k) :: st) := by
  obtain ⟨p, l, e, R, s, m, args, below, meth, c, D, A, ad, cA, rs, Q⟩ := κ
  obtain ⟨hx, hb, hml, hown, hts, hr0, hlk, hK, hA, hfr, hlo, hN⟩ := K
  intro H locs ls hP hD hS hl
  obtain ⟨h1, h2⟩ := g_if hr
  refine va_zast hx hb hK hP hD hS k 1 (by rw [wZ_get hk, cZ_1 hs]; rfl) rfl (okI_in h1) dg (fun H locs hP hD hS => ?_)
  have e : (jad (p, l, e, R, s, m, args, below, meth, c, D, A, ad, cA, rs, Q) k, (Sum.inl (cA 1, z, Sum.inl (upd (X k) i.toNatClampNeg (vp_nar .boolean v))) : va_E)) = (ad k, cZ L ad cA (pX X k (upd (X k) i.toNatClampNeg (vp_nar .boolean v)) k) k) := by
    rw [pX_self, cZ_1 hs]; rfl
  rw [e, wZ_set hk (fun q h => pX_ne X _ h)] at hP hD
  exact kk h2 H locs ls hP hD hS hl
theorem j_castore (K : jOk n cc own ret d κ) {k z : Nat} {i v : Int32} {a : Option β} (hs : L.2.1 k = (2, z)) (hk : k < L.1) (dg : decode cc pc = .ok (.castore, 1)) (hr : (if okI i z = true then a else none) = some r) (kk : a = some r → J L n κ (pX X k (upd (X k) i.toNatClampNeg (vp_nar .char v))) (pc + 1) lv st) : J L n κ X pc lv (.int v :: .int i :: .ref (jad κ k) :: st) := by
  obtain ⟨p, l, e, R, s, m, args, below, meth, c, D, A, ad, cA, rs, Q⟩ := κ
  obtain ⟨hx, hb, hml, hown, hts, hr0, hlk, hK, hA, hfr, hlo, hN⟩ := K
  intro H locs ls hP hD hS hl
  obtain ⟨h1, h2⟩ := g_if hr
  refine va_cast hx hb hK hP hD hS k 2 (by rw [wZ_get hk, cZ_2 hs]; rfl) rfl (okI_in h1) dg (fun H locs hP hD hS => ?_)
  have e : (jad (p, l, e, R, s, m, args, below, meth, c, D, A, ad, cA, rs, Q) k, (Sum.inl (cA 2, z, Sum.inl (upd (X k) i.toNatClampNeg (vp_nar .char v))) : va_E)) = (ad k, cZ L ad cA (pX X k (upd (X k) i.toNatClampNeg (vp_nar .char v)) k) k) := by
    rw [pX_self, cZ_2 hs]; rfl
  rw [e, wZ_set hk (fun q h => pX_ne X _ h)] at hP hD
  exact kk h2 H locs ls hP hD hS hl
theorem j_aaload3 (K : jOk n cc own ret d κ) {k z : Nat} {i : Int32} {a : Option β} (hs : L.2.1 k = (3, z)) (hk : k < L.1) (dg : decode cc pc = .ok (.aaload, 1)) (hr : (if okI i z = true then a else none) = some r) (kk : a = some r → J L n κ X (pc + 1) lv (.ref (jad κ (X k i.toNatClampNeg).toNatClampNeg) :: st)) : J L n κ X pc lv (.int i :: .ref (jad κ k) :: st) := by
  obtain ⟨p, l, e, R, s, m, args, below, meth, c, D, A, ad, cA, rs, Q⟩ := κ
  obtain ⟨hx, hb, hml, hown, hts, hr0, hlk, hK, hA, hfr, hlo, hN⟩ := K
  intro H locs ls hP hD hS hl
  obtain ⟨h1, h2⟩ := g_if hr
  exact va_aldq (f := fun j => some (ad (X k j).toNatClampNeg)) hx hb hK hP k 3 (by rw [wZ_get hk, cZ_3 hs]; rfl) rfl (okI_in h1) dg (kk h2 H locs ls hP hD hS hl)
theorem j_aastore3 (K : jOk n cc own ret d κ) {k z u ci y : Nat} {i : Int32} {a : Option β} (hs : L.2.1 k = (3, z)) (hk : k < L.1) (hu : L.2.1 u = (10 + ci, y)) (hku : u < L.1) (hc : ci < 90) (hcl : ∃ q : vw_C, vwCl[ci]? = some q ∧ q.1 = "SearchKeeper$Root") (h31 : u < 2 ^ 31) (dg : decode cc pc = .ok (.aastore, 1)) (hr : (if okI i z = true then a else none) = some r) (kk : a = some r → J L n κ (pX X k (upd (X k) i.toNatClampNeg (nI u))) (pc + 1) lv st) : J L n κ X pc lv (.ref (jad κ u) :: .int i :: .ref (jad κ k) :: st) := by
  obtain ⟨p, l, e, R, s, m, args, below, meth, c, D, A, ad, cA, rs, Q⟩ := κ
  obtain ⟨hx, hb, hml, hown, hts, hr0, hlk, hK, hA, hfr, hlo, hN⟩ := K
  intro H locs ls hP hD hS hl
  obtain ⟨h1, h2⟩ := g_if hr
  obtain ⟨⟨C, T, N⟩, g1, g2⟩ := hcl
  refine va_astq hx hb hK hP hD hS k 3 u ci (by rw [wZ_get hk, cZ_3 hs]; rfl) (by rw [show (C, T, N).1 = "SearchKeeper$Root" from g2]; rfl) (by rw [wZ_get hku, cZ_ob hu hc]; rfl) g1 (okI_in h1) dg (fun H locs hP hD hS => ?_)
  have e : (jad (p, l, e, R, s, m, args, below, meth, c, D, A, ad, cA, rs, Q) k, (Sum.inl (cA 3, z, Sum.inr (Sum.inr (Sum.inr (Sum.inr (va_up (fun j => some (ad (X k j).toNatClampNeg)) i.toNatClampNeg (some (jad (p, l, e, R, s, m, args, below, meth, c, D, A, ad, cA, rs, Q) u))))))) : va_E)) = (ad k, cZ L ad cA (pX X k (upd (X k) i.toNatClampNeg (nI u)) k) k) := by
    rw [pX_self, cZ_3 hs]
    refine congrArg (fun f => (ad k, (Sum.inl (cA 3, z, Sum.inr (Sum.inr (Sum.inr (Sum.inr f)))) : va_E))) (funext fun j => ?_)
    by_cases hj : j = i.toNatClampNeg
    · rw [hj, va_up_self, pk_us, nI_clamp h31]; rfl
    · rw [va_up_ne _ _ hj, pk_un hj]
  rw [e, wZ_set hk (fun q h => pX_ne X _ h)] at hP hD
  exact kk h2 H locs ls hP hD hS hl
theorem j_aaload4 (K : jOk n cc own ret d κ) {k z b : Nat} {i : Int32} {a : Option β} (hs : L.2.1 k = (100 + b, z)) (hk : k < L.1) (dg : decode cc pc = .ok (.aaload, 1)) (hr : (if okI i z = true then a else none) = some r) (kk : a = some r → J L n κ X (pc + 1) lv (.ref (jad κ (b + i.toNatClampNeg)) :: st)) : J L n κ X pc lv (.int i :: .ref (jad κ k) :: st) := by
  obtain ⟨p, l, e, R, s, m, args, below, meth, c, D, A, ad, cA, rs, Q⟩ := κ
  obtain ⟨hx, hb, hml, hown, hts, hr0, hlk, hK, hA, hfr, hlo, hN⟩ := K
  intro H locs ls hP hD hS hl
  obtain ⟨h1, h2⟩ := g_if hr
  have h8 := hP k _ (show (wZ L ad cA X ++ rs)[k]? = some (ad k, .inl (cA 4, (z, .inr (.inr (.inr (.inr (fun j => if j < z then some (ad (b + j)) else none))))))) by rw [wZ_get hk, cZ_ou hs])
  have h9 := W.aald (p := p) (l := l) (e := e) (R := R) (s := s) (m := m) (args := args) (below := below) (meth := meth) (c := c) (locs := locs) (cells := 0) (slots := 0) (Q := Q) (v := .ref (ad (b + i.toNatClampNeg))) (ty := .array .int) hx hb h8 ((hK.2 4 _ rfl).1 z (fun j => va_rf (if j < z then some (ad (b + j)) else none))) rfl (fun q => by cases q) (j := i) (by show ¬ (i < 0 ∨ (arrV _ _ _).slots.size ≤ _); rw [arrV_size]; exact okI_in h1) (by show (arrV _ _ _).slots[_]? = _; rw [arrV_read _ _ (okI_lt h1)]; simp only [if_pos (okI_lt h1)]; rfl) (g := F0 m pc ls (.int i :: .ref (ad k) :: st)) rfl rfl dg (kk h2 H locs ls hP hD hS hl)
  exact h9
theorem j_alen0 (K : jOk n cc own ret d κ) {k z : Nat} {v : Int32} (hs : L.2.1 k = (0, z)) (hk : k < L.1) (hv : Int32.ofNat z = v) (dg : decode cc pc = .ok (.arraylength, 1)) (kk : J L n κ X (pc + 1) lv (.int v :: st)) : J L n κ X pc lv (.ref (jad κ k) :: st) := by
  obtain ⟨p, l, e, R, s, m, args, below, meth, c, D, A, ad, cA, rs, Q⟩ := κ
  obtain ⟨hx, hb, hml, hown, hts, hr0, hlk, hK, hA, hfr, hlo, hN⟩ := K
  intro H locs ls hP hD hS hl
  exact va_alen hx hb hK hP k 0 (by rw [wZ_get hk, cZ_0 hs]; rfl) rfl (by exact hv) dg (kk H locs ls hP hD hS hl)
theorem jFin_ret {x : JE} {thr : Bool} {p : Program} {l : Launch} {e : Env} {R : Room} {s : State} {m : MethodId} {args : Array Value} {below : List Frame} {meth : Method} {c : Code} {D : va_G} {A : Nat → Prop} {ad : Nat → Nat} {cA : Nat → ClassId} {rs : va_W} {Q : State → Prop} {H : Heap} {locs : List Loc} {g : JFrame}
    (F : jFin L thr x (p, l, e, R, s, m, args, below, meth, c, D, A, ad, cA, rs, Q)) (k : ∀ kc ks, W p l e R s m args below meth c H locs kc ks (MQ below (jQc L D ad cA rs A x) args s kc ks A) g) : W p l e R s m args below meth c H locs 0 0 Q g := by
  unfold jFin at F
  cases thr with
  | false =>
    have F : Q = _ := F
    rw [F]; exact k 0 0
  | true =>
    have F : Q = _ ∧ _ := F
    rw [F.1]
    exact W.widen (k := 1) (n := 6) (Nat.zero_le _) (Nat.zero_le _) (vx_ret (k 1 6))
theorem j_ireturn (K : jOk n cc own ret d κ) {thr : Bool} {out : β → JE} {ρ : β} {v : Int32} (dg : decode cc pc = .ok (.ireturn, 1)) (hi : ret = some .int) (F : jFin L thr (out r) κ) (hr : some ρ = some r) (ho : out ρ = (none, some (.int v), X)) : J L n κ X pc lv [.int v] := by
  obtain ⟨p, l, e, R, s, m, args, below, meth, c, D, A, ad, cA, rs, Q⟩ := κ
  obtain ⟨hx, hb, hml, hown, hts, hr0, hlk, hK, hA, hfr, hlo, hN⟩ := K
  intro H locs ls hP hD hS hl
  cases hr
  rw [ho] at F
  exact jFin_ret F (fun kc ks => W.iret hx hb (hr0.trans hi) (fun t ht hW => ⟨⟨rfl, rfl, by rw [ht]; exact hP⟩, hS.F ht⟩) hS.2.2 dg hlk)
theorem j_zreturn (K : jOk n cc own ret d κ) {thr : Bool} {out : β → JE} {ρ : β} {v : Int32} (dg : decode cc pc = .ok (.ireturn, 1)) (hi : ret = some .boolean) (hz : okB v = true) (F : jFin L thr (out r) κ) (hr : some ρ = some r) (ho : out ρ = (none, some (.int v), X)) : J L n κ X pc lv [.int v] := by
  obtain ⟨p, l, e, R, s, m, args, below, meth, c, D, A, ad, cA, rs, Q⟩ := κ
  obtain ⟨hx, hb, hml, hown, hts, hr0, hlk, hK, hA, hfr, hlo, hN⟩ := K
  intro H locs ls hP hD hS hl
  cases hr
  rw [ho] at F
  exact jFin_ret F (fun kc ks => W.zret hx hb (hr0.trans hi) (okB_n hz) (fun t ht hW => ⟨⟨rfl, rfl, by rw [ht]; exact hP⟩, hS.F ht⟩) hS.2.2 dg hlk)
theorem j_creturn (K : jOk n cc own ret d κ) {thr : Bool} {out : β → JE} {ρ : β} {v : Int32} (dg : decode cc pc = .ok (.ireturn, 1)) (hi : ret = some .char) (hz : vp_nar .char v = v) (F : jFin L thr (out r) κ) (hr : some ρ = some r) (ho : out ρ = (none, some (.int v), X)) : J L n κ X pc lv [.int v] := by
  obtain ⟨p, l, e, R, s, m, args, below, meth, c, D, A, ad, cA, rs, Q⟩ := κ
  obtain ⟨hx, hb, hml, hown, hts, hr0, hlk, hK, hA, hfr, hlo, hN⟩ := K
  intro H locs ls hP hD hS hl
  cases hr
  rw [ho] at F
  exact jFin_ret F (fun kc ks => W.zret hx hb (hr0.trans hi) (by have h9 : narrow .char (.int v) = .int (vp_nar .char v) := rfl; rw [h9, hz]) (fun t ht hW => ⟨⟨rfl, rfl, by rw [ht]; exact hP⟩, hS.F ht⟩) hS.2.2 dg hlk)
theorem j_return (K : jOk n cc own ret d κ) {thr : Bool} {out : β → JE} {ρ : β} (dg : decode cc pc = .ok (.return_, 1)) (hi : ret = none) (F : jFin L thr (out r) κ) (hr : some ρ = some r) (ho : out ρ = (none, none, X)) : J L n κ X pc lv [] := by
  obtain ⟨p, l, e, R, s, m, args, below, meth, c, D, A, ad, cA, rs, Q⟩ := κ
  obtain ⟨hx, hb, hml, hown, hts, hr0, hlk, hK, hA, hfr, hlo, hN⟩ := K
  intro H locs ls hP hD hS hl
  cases hr
  rw [ho] at F
  exact jFin_ret F (fun kc ks => W.vret hx hb (hr0.trans hi) (fun t ht hW => ⟨⟨rfl, rfl, by rw [ht]; exact hP⟩, hS.F ht⟩) hS.2.2 dg hlk)
theorem j_areturn (K : jOk n cc own ret d κ) {thr : Bool} {out : β → JE} {ρ : β} {q : Nat} {rt : FieldType} (dg : decode cc pc = .ok (.areturn, 1)) (hi : ret = some rt) (hrt : (∃ n, rt = .object n) ∨ ∃ t, rt = .array t) (F : jFin L thr (out r) κ) (hr : some ρ = some r) (ho : out ρ = (none, some (.ref (jad κ q)), X)) : J L n κ X pc lv [.ref (jad κ q)] := by
  obtain ⟨p, l, e, R, s, m, args, below, meth, c, D, A, ad, cA, rs, Q⟩ := κ
  obtain ⟨hx, hb, hml, hown, hts, hr0, hlk, hK, hA, hfr, hlo, hN⟩ := K
  intro H locs ls hP hD hS hl
  cases hr
  rw [ho] at F
  exact jFin_ret F (fun kc ks => W.aret hx hb (hr0.trans hi) hrt (Or.inr ⟨_, rfl⟩) (fun t ht hW => ⟨⟨rfl, rfl, by rw [ht]; exact hP⟩, hS.F ht⟩) hS.2.2 dg hlk)
theorem j_areturnN (K : jOk n cc own ret d κ) {thr : Bool} {out : β → JE} {ρ : β} {rt : FieldType} (dg : decode cc pc = .ok (.areturn, 1)) (hi : ret = some rt) (hrt : (∃ n, rt = .object n) ∨ ∃ t, rt = .array t) (F : jFin L thr (out r) κ) (hr : some ρ = some r) (ho : out ρ = (none, some .null, X)) : J L n κ X pc lv [.null] := by
  obtain ⟨p, l, e, R, s, m, args, below, meth, c, D, A, ad, cA, rs, Q⟩ := κ
  obtain ⟨hx, hb, hml, hown, hts, hr0, hlk, hK, hA, hfr, hlo, hN⟩ := K
  intro H locs ls hP hD hS hl
  cases hr
  rw [ho] at F
  exact jFin_ret F (fun kc ks => W.aret hx hb (hr0.trans hi) hrt (Or.inl rfl) (fun t ht hW => ⟨⟨rfl, rfl, by rw [ht]; exact hP⟩, hS.F ht⟩) hS.2.2 dg hlk)
theorem j_max (K : jOk n cc own ret d κ) {x y : Int32} {idx : Nat} (ml : Cond.methodLink own idx Lib.Math.max.name ∈ gTbl ∧ Cond.static Lib.Math.max.name ∈ gTbl ∧ Cond.initialized "java/lang/Math" ∈ gTbl ∧ Cond.code Lib.Math.max.name Lib.Math.max.code 2 (some .int) ∈ gTbl) (hd : 1 ≤ d) (hst : (st.map fun v => v.category).sum ≤ 8) (dg : decode cc pc = .ok (.invokestatic idx, 3)) (kk : J L n κ X (pc + 3) lv (.int (if x < y then y else x) :: st)) : J L n κ X pc lv (.int y :: .int x :: st) := by
  obtain ⟨p, l, e, R, s, m, args, below, meth, c, D, A, ad, cA, rs, Q⟩ := κ
  obtain ⟨hx, hb, hml, hown, hts, hr0, hlk, hK, hA, hfr, hlo, hN⟩ := K
  intro H locs ls hP hD hS hl
  exact va_mmax hx hb (hml.trans hl.1.symm) hown (hts _ ml.1) (hts _ ml.2.1) (hts _ ml.2.2.1) (hts _ ml.2.2.2) (by omega) (by omega) (Nat.zero_le _) (Nat.zero_le _) dg (kk H locs ls hP hD hS hl)
theorem j_min (K : jOk n cc own ret d κ) {x y : Int32} {idx : Nat} (ml : Cond.methodLink own idx Lib.Math.min.name ∈ gTbl ∧ Cond.static Lib.Math.min.name ∈ gTbl ∧ Cond.initialized "java/lang/Math" ∈ gTbl ∧ Cond.code Lib.Math.min.name Lib.Math.min.code 2 (some .int) ∈ gTbl) (hd : 1 ≤ d) (hst : (st.map fun v => v.category).sum ≤ 8) (dg : decode cc pc = .ok (.invokestatic idx, 3)) (kk : J L n κ X (pc + 3) lv (.int (if y < x then y else x) :: st)) : J L n κ X pc lv (.int y :: .int x :: st) := by
  obtain ⟨p, l, e, R, s, m, args, below, meth, c, D, A, ad, cA, rs, Q⟩ := κ
  obtain ⟨hx, hb, hml, hown, hts, hr0, hlk, hK, hA, hfr, hlo, hN⟩ := K
  intro H locs ls hP hD hS hl
  exact va_mmin hx hb (hml.trans hl.1.symm) hown (hts _ ml.1) (hts _ ml.2.1) (hts _ ml.2.2.1) (hts _ ml.2.2.2) (by omega) (by omega) (Nat.zero_le _) (Nat.zero_le _) dg (kk H locs ls hP hD hS hl)
theorem j_abs (K : jOk n cc own ret d κ) {x : Int32} {idx : Nat} (ml : Cond.methodLink own idx Lib.Math.abs.name ∈ gTbl ∧ Cond.static Lib.Math.abs.name ∈ gTbl ∧ Cond.initialized "java/lang/Math" ∈ gTbl ∧ Cond.code Lib.Math.abs.name Lib.Math.abs.code 1 (some .int) ∈ gTbl) (hd : 1 ≤ d) (hst : (st.map fun v => v.category).sum ≤ 8) (dg : decode cc pc = .ok (.invokestatic idx, 3)) (kk : J L n κ X (pc + 3) lv (.int (if 0 ≤ x then x else 0 - x) :: st)) : J L n κ X pc lv (.int x :: st) := by
  obtain ⟨p, l, e, R, s, m, args, below, meth, c, D, A, ad, cA, rs, Q⟩ := κ
  obtain ⟨hx, hb, hml, hown, hts, hr0, hlk, hK, hA, hfr, hlo, hN⟩ := K
  intro H locs ls hP hD hS hl
  exact va_mabs hx hb (hml.trans hl.1.symm) hown (hts _ ml.1) (hts _ ml.2.1) (hts _ ml.2.2.1) (hts _ ml.2.2.2) (by omega) (by omega) (Nat.zero_le _) (Nat.zero_le _) dg (kk H locs ls hP hD hS hl)
def nX {α : Type} (X : JX) (f : JX → α) : α := f X
def nV {α : Type} (v : Int32) (f : Int32 → α) : α := f v
def nN {α : Type} (q : Nat) (f : Nat → α) : α := f q
theorem j_istoreV_n (K : jOk n cc own ret d κ) {i : Fin 4} {x : Int32} {a : Int32 → Option β} (dg : decode cc pc = .ok (.istore_n i, 1)) (hn : (i : Nat) < n) (hr : nV x a = some r) (k : ∀ v, a v = some r → J L n κ X (pc + 1) (jst (i : Nat) (.int v) lv) st) : J L n κ X pc lv (.int x :: st) := by
  obtain ⟨p, l, e, R, s, m, args, below, meth, c, D, A, ad, cA, rs, Q⟩ := κ
  obtain ⟨hx, hb, hml, hown, hts, hr0, hlk, hK, hA, hfr, hlo, hN⟩ := K
  intro H locs ls hP hD hS hl
  exact lv_istore_n hx hb dg rfl hl hn rfl (fun ls hl => k x hr H locs ls hP hD hS hl)
theorem j_istoreV (K : jOk n cc own ret d κ) {i : Nat} {x : Int32} {a : Int32 → Option β} (dg : decode cc pc = .ok (.istore i, 2)) (hn : i < n) (hr : nV x a = some r) (k : ∀ v, a v = some r → J L n κ X (pc + 2) (jst i (.int v) lv) st) : J L n κ X pc lv (.int x :: st) := by
  obtain ⟨p, l, e, R, s, m, args, below, meth, c, D, A, ad, cA, rs, Q⟩ := κ
  obtain ⟨hx, hb, hml, hown, hts, hr0, hlk, hK, hA, hfr, hlo, hN⟩ := K
  intro H locs ls hP hD hS hl
  exact lv_istore hx hb dg hl hn rfl (fun ls hl => k x hr H locs ls hP hD hS hl)
theorem j_iincV (K : jOk n cc own ret d κ) {i : Nat} {z : Int} {x v : Int32} {a : Int32 → Option β} (dg : decode cc pc = .ok (.iinc i z, 3)) (q : Nat) (h : lv[q]? = some (i, .int x)) (hz : Int32.ofInt z = v) (hn : i < n) (hr : nV (x + v) a = some r) (k : ∀ v, a v = some r → J L n κ X (pc + 3) (jst i (.int v) lv) st) : J L n κ X pc lv st := by
  obtain ⟨p, l, e, R, s, m, args, below, meth, c, D, A, ad, cA, rs, Q⟩ := κ
  obtain ⟨hx, hb, hml, hown, hts, hr0, hlk, hK, hA, hfr, hlo, hN⟩ := K
  intro H locs ls hP hD hS hl
  subst hz; exact lv_iinc hx hb dg hl h rfl hn rfl (fun ls hl => k _ hr H locs ls hP hD hS hl)
theorem j_iastoreV (K : jOk n cc own ret d κ) {k z : Nat} {i v : Int32} {a : JX → Option β} (hs : L.2.1 k = (0, z)) (hk : k < L.1) (dg : decode cc pc = .ok (.iastore, 1)) (hr : (if okI i z = true then nX (pX X k (upd (X k) i.toNatClampNeg v)) a else none) = some r) (kk : ∀ X, a X = some r → J L n κ X (pc + 1) lv st) : J L n κ X pc lv (.int v :: .int i :: .ref (jad κ k) :: st) := j_iastore K hs hk dg hr (fun h => kk _ h)
theorem j_bastoreV (K : jOk n cc own ret d κ) {k z : Nat} {i v : Int32} {a : JX → Option β} (hs : L.2.1 k = (1, z)) (hk : k < L.1) (dg : decode cc pc = .ok (.bastore, 1)) (hr : (if okI i z = true then nX (pX X k (upd (X k) i.toNatClampNeg (vp_nar .boolean v))) a else none) = some r) (kk : ∀ X, a X = some r → J L n κ X (pc + 1) lv st) : J L n κ X pc lv (.int v :: .int i :: .ref (jad κ k) :: st) := j_bastore K hs hk dg hr (fun h => kk _ h)
theorem j_castoreV (K : jOk n cc own ret d κ) {k z : Nat} {i v : Int32} {a : JX → Option β} (hs : L.2.1 k = (2, z)) (hk : k < L.1) (dg : decode cc pc = .ok (.castore, 1)) (hr : (if okI i z = true then nX (pX X k (upd (X k) i.toNatClampNeg (vp_nar .char v))) a else none) = some r) (kk : ∀ X, a X = some r → J L n κ X (pc + 1) lv st) : J L n κ X pc lv (.int v :: .int i :: .ref (jad κ k) :: st) := j_castore K hs hk dg hr (fun h => kk _ h)
theorem j_aastore3V (K : jOk n cc own ret d κ) {k z u ci y : Nat} {i : Int32} {a : JX → Option β} (hs : L.2.1 k = (3, z)) (hk : k < L.1) (hu : L.2.1 u = (10 + ci, y)) (hku : u < L.1) (hc : ci < 90) (hcl : ∃ q : vw_C, vwCl[ci]? = some q ∧ q.1 = "SearchKeeper$Root") (h31 : u < 2 ^ 31) (dg : decode cc pc = .ok (.aastore, 1)) (hr : (if okI i z = true then nX (pX X k (upd (X k) i.toNatClampNeg (nI u))) a else none) = some r) (kk : ∀ X, a X = some r → J L n κ X (pc + 1) lv st) : J L n κ X pc lv (.ref (jad κ u) :: .int i :: .ref (jad κ k) :: st) := j_aastore3 K hs hk hu hku hc hcl h31 dg hr (fun h => kk _ h)
theorem j_aaload3V (K : jOk n cc own ret d κ) {k z : Nat} {i : Int32} {g : Nat → Bool} {a : Nat → Option β} (hs : L.2.1 k = (3, z)) (hk : k < L.1) (dg : decode cc pc = .ok (.aaload, 1)) (hr : (if okI i z = true then nN (X k i.toNatClampNeg).toNatClampNeg (fun q => if g q = true then a q else none) else none) = some r) (kk : ∀ q, g q = true → a q = some r → J L n κ X (pc + 1) lv (.ref (jad κ q) :: st)) : J L n κ X pc lv (.int i :: .ref (jad κ k) :: st) := j_aaload3 K hs hk dg hr (fun h => kk _ (g_if h).1 (g_if h).2)
theorem j_aaload4V (K : jOk n cc own ret d κ) {k z b : Nat} {i : Int32} {g : Nat → Bool} {a : Nat → Option β} (hs : L.2.1 k = (100 + b, z)) (hk : k < L.1) (dg : decode cc pc = .ok (.aaload, 1)) (hr : (if okI i z = true then nN (b + i.toNatClampNeg) (fun q => if g q = true then a q else none) else none) = some r) (kk : ∀ q, g q = true → a q = some r → J L n κ X (pc + 1) lv (.ref (jad κ q) :: st)) : J L n κ X pc lv (.int i :: .ref (jad κ k) :: st) := j_aaload4 K hs hk dg hr (fun h => kk _ (g_if h).1 (g_if h).2)
theorem j_putiV (K : jOk n cc own ret d κ) {idx ci j k z : Nat} {v : Int32} {a : JX → Option β} (fl : FPk own idx ci j .int) (hs : L.2.1 k = (10 + ci, z)) (hk : k < L.1) (hc : ci < 90) (hl9 : ∀ f, j < (L.2.2 (jad κ) f k ci).length) (hv : ∀ f, (L.2.2 (jad κ) f k ci).set j (.int v) = L.2.2 (jad κ) (upd f j v) k ci) (dg : decode cc pc = .ok (.putfield idx, 3)) (hr : nX (pX X k (upd (X k) j v)) a = some r) (kk : ∀ X, a X = some r → J L n κ X (pc + 3) lv st) : J L n κ X pc lv (.int v :: .ref (jad κ k) :: st) := j_puti K fl hs hk hc hl9 hv dg (kk _ hr)
theorem j_putzV (K : jOk n cc own ret d κ) {idx ci j k z : Nat} {v : Int32} {a : JX → Option β} (fl : FPk own idx ci j .boolean) (hs : L.2.1 k = (10 + ci, z)) (hk : k < L.1) (hc : ci < 90) (hl9 : ∀ f, j < (L.2.2 (jad κ) f k ci).length) (hv : ∀ f, (L.2.2 (jad κ) f k ci).set j (.int v) = L.2.2 (jad κ) (upd f j v) k ci) (dg : decode cc pc = .ok (.putfield idx, 3)) (hr : (if okB v = true then nX (pX X k (upd (X k) j v)) a else none) = some r) (kk : ∀ X, a X = some r → J L n κ X (pc + 3) lv st) : J L n κ X pc lv (.int v :: .ref (jad κ k) :: st) := j_putz K fl hs hk hc hl9 hv (g_if hr).1 dg (kk _ (g_if hr).2)
theorem j_putiNV (K : jOk n cc own ret d κ) {idx ci j k z : Nat} {v : Int32} {a : JX → Option β} (fl : FPn own idx ci j .int) (hs : L.2.1 k = (10 + ci, z)) (hk : k < L.1) (hc : ci < 90) (hl9 : ∀ f, j < (L.2.2 (jad κ) f k ci).length) (hv : ∀ f, (L.2.2 (jad κ) f k ci).set j (.int v) = L.2.2 (jad κ) (upd f j v) k ci) (dg : decode cc pc = .ok (.putfield idx, 3)) (hr : nX (pX X k (upd (X k) j v)) a = some r) (kk : ∀ X, a X = some r → J L n κ X (pc + 3) lv st) : J L n κ X pc lv (.int v :: .ref (jad κ k) :: st) := j_putiN K fl hs hk hc hl9 hv dg (kk _ hr)
theorem j_putzNV (K : jOk n cc own ret d κ) {idx ci j k z : Nat} {v : Int32} {a : JX → Option β} (fl : FPn own idx ci j .boolean) (hs : L.2.1 k = (10 + ci, z)) (hk : k < L.1) (hc : ci < 90) (hl9 : ∀ f, j < (L.2.2 (jad κ) f k ci).length) (hv : ∀ f, (L.2.2 (jad κ) f k ci).set j (.int v) = L.2.2 (jad κ) (upd f j v) k ci) (dg : decode cc pc = .ok (.putfield idx, 3)) (hr : (if okB v = true then nX (pX X k (upd (X k) j v)) a else none) = some r) (kk : ∀ X, a X = some r → J L n κ X (pc + 3) lv st) : J L n κ X pc lv (.int v :: .ref (jad κ k) :: st) := j_putzN K fl hs hk hc hl9 hv (g_if hr).1 dg (kk _ (g_if hr).2)
end JR
def loop1 {A1 B : Type} (f : (A1 → Option B) → A1 → Option B) : Nat → A1 → Option B
  | 0 => fun _ => none
  | n + 1 => f (loop1 f n)
theorem j_loop1 {A1 B : Type} {r : B} {f : (A1 → Option B) → A1 → Option B} {P : A1 → Prop} (h : ∀ rec : A1 → Option B, (∀ (a1 : A1), rec a1 = some r → P a1) → ∀ (a1 : A1), f rec a1 = some r → P a1) : ∀ (n : Nat) (a1 : A1), loop1 f n a1 = some r → P a1
  | 0, _, hr => nomatch hr
  | n + 1, a1, hr => h (loop1 f n) (j_loop1 h n) a1 hr
def loop2 {A1 A2 B : Type} (f : (A1 → A2 → Option B) → A1 → A2 → Option B) : Nat → A1 → A2 → Option B
  | 0 => fun _ _ => none
  | n + 1 => f (loop2 f n)
theorem j_loop2 {A1 A2 B : Type} {r : B} {f : (A1 → A2 → Option B) → A1 → A2 → Option B} {P : A1 → A2 → Prop} (h : ∀ rec : A1 → A2 → Option B, (∀ (a1 : A1) (a2 : A2), rec a1 a2 = some r → P a1 a2) → ∀ (a1 : A1) (a2 : A2), f rec a1 a2 = some r → P a1 a2) : ∀ (n : Nat) (a1 : A1) (a2 : A2), loop2 f n a1 a2 = some r → P a1 a2
  | 0, _, _, hr => nomatch hr
  | n + 1, a1, a2, hr => h (loop2 f n) (j_loop2 h n) a1 a2 hr
def loop3 {A1 A2 A3 B : Type} (f : (A1 → A2 → A3 → Option B) → A1 → A2 → A3 → Option B) : Nat → A1 → A2 → A3 → Option B
  | 0 => fun _ _ _ => none
  | n + 1 => f (loop3 f n)
theorem j_loop3 {A1 A2 A3 B : Type} {r : B} {f : (A1 → A2 → A3 → Option B) → A1 → A2 → A3 → Option B} {P : A1 → A2 → A3 → Prop} (h : ∀ rec : A1 → A2 → A3 → Option B, (∀ (a1 : A1) (a2 : A2) (a3 : A3), rec a1 a2 a3 = some r → P a1 a2 a3) → ∀ (a1 : A1) (a2 : A2) (a3 : A3), f rec a1 a2 a3 = some r → P a1 a2 a3) : ∀ (n : Nat) (a1 : A1) (a2 : A2) (a3 : A3), loop3 f n a1 a2 a3 = some r → P a1 a2 a3
  | 0, _, _, _, hr => nomatch hr
  | n + 1, a1, a2, a3, hr => h (loop3 f n) (j_loop3 h n) a1 a2 a3 hr
def loop4 {A1 A2 A3 A4 B : Type} (f : (A1 → A2 → A3 → A4 → Option B) → A1 → A2 → A3 → A4 → Option B) : Nat → A1 → A2 → A3 → A4 → Option B
  | 0 => fun _ _ _ _ => none
  | n + 1 => f (loop4 f n)
theorem j_loop4 {A1 A2 A3 A4 B : Type} {r : B} {f : (A1 → A2 → A3 → A4 → Option B) → A1 → A2 → A3 → A4 → Option B} {P : A1 → A2 → A3 → A4 → Prop} (h : ∀ rec : A1 → A2 → A3 → A4 → Option B, (∀ (a1 : A1) (a2 : A2) (a3 : A3) (a4 : A4), rec a1 a2 a3 a4 = some r → P a1 a2 a3 a4) → ∀ (a1 : A1) (a2 : A2) (a3 : A3) (a4 : A4), f rec a1 a2 a3 a4 = some r → P a1 a2 a3 a4) : ∀ (n : Nat) (a1 : A1) (a2 : A2) (a3 : A3) (a4 : A4), loop4 f n a1 a2 a3 a4 = some r → P a1 a2 a3 a4
  | 0, _, _, _, _, hr => nomatch hr
  | n + 1, a1, a2, a3, a4, hr => h (loop4 f n) (j_loop4 h n) a1 a2 a3 a4 hr
def loop5 {A1 A2 A3 A4 A5 B : Type} (f : (A1 → A2 → A3 → A4 → A5 → Option B) → A1 → A2 → A3 → A4 → A5 → Option B) : Nat → A1 → A2 → A3 → A4 → A5 → Option B
  | 0 => fun _ _ _ _ _ => none
  | n + 1 => f (loop5 f n)
theorem j_loop5 {A1 A2 A3 A4 A5 B : Type} {r : B} {f : (A1 → A2 → A3 → A4 → A5 → Option B) → A1 → A2 → A3 → A4 → A5 → Option B} {P : A1 → A2 → A3 → A4 → A5 → Prop} (h : ∀ rec : A1 → A2 → A3 → A4 → A5 → Option B, (∀ (a1 : A1) (a2 : A2) (a3 : A3) (a4 : A4) (a5 : A5), rec a1 a2 a3 a4 a5 = some r → P a1 a2 a3 a4 a5) → ∀ (a1 : A1) (a2 : A2) (a3 : A3) (a4 : A4) (a5 : A5), f rec a1 a2 a3 a4 a5 = some r → P a1 a2 a3 a4 a5) : ∀ (n : Nat) (a1 : A1) (a2 : A2) (a3 : A3) (a4 : A4) (a5 : A5), loop5 f n a1 a2 a3 a4 a5 = some r → P a1 a2 a3 a4 a5
  | 0, _, _, _, _, _, hr => nomatch hr
  | n + 1, a1, a2, a3, a4, a5, hr => h (loop5 f n) (j_loop5 h n) a1 a2 a3 a4 a5 hr
def loop6 {A1 A2 A3 A4 A5 A6 B : Type} (f : (A1 → A2 → A3 → A4 → A5 → A6 → Option B) → A1 → A2 → A3 → A4 → A5 → A6 → Option B) : Nat → A1 → A2 → A3 → A4 → A5 → A6 → Option B
  | 0 => fun _ _ _ _ _ _ => none
  | n + 1 => f (loop6 f n)
theorem j_loop6 {A1 A2 A3 A4 A5 A6 B : Type} {r : B} {f : (A1 → A2 → A3 → A4 → A5 → A6 → Option B) → A1 → A2 → A3 → A4 → A5 → A6 → Option B} {P : A1 → A2 → A3 → A4 → A5 → A6 → Prop} (h : ∀ rec : A1 → A2 → A3 → A4 → A5 → A6 → Option B, (∀ (a1 : A1) (a2 : A2) (a3 : A3) (a4 : A4) (a5 : A5) (a6 : A6), rec a1 a2 a3 a4 a5 a6 = some r → P a1 a2 a3 a4 a5 a6) → ∀ (a1 : A1) (a2 : A2) (a3 : A3) (a4 : A4) (a5 : A5) (a6 : A6), f rec a1 a2 a3 a4 a5 a6 = some r → P a1 a2 a3 a4 a5 a6) : ∀ (n : Nat) (a1 : A1) (a2 : A2) (a3 : A3) (a4 : A4) (a5 : A5) (a6 : A6), loop6 f n a1 a2 a3 a4 a5 a6 = some r → P a1 a2 a3 a4 a5 a6
  | 0, _, _, _, _, _, _, hr => nomatch hr
  | n + 1, a1, a2, a3, a4, a5, a6, hr => h (loop6 f n) (j_loop6 h n) a1 a2 a3 a4 a5 a6 hr
def loop7 {A1 A2 A3 A4 A5 A6 A7 B : Type} (f : (A1 → A2 → A3 → A4 → A5 → A6 → A7 → Option B) → A1 → A2 → A3 → A4 → A5 → A6 → A7 → Option B) : Nat → A1 → A2 → A3 → A4 → A5 → A6 → A7 → Option B
  | 0 => fun _ _ _ _ _ _ _ => none
  | n + 1 => f (loop7 f n)
theorem j_loop7 {A1 A2 A3 A4 A5 A6 A7 B : Type} {r : B} {f : (A1 → A2 → A3 → A4 → A5 → A6 → A7 → Option B) → A1 → A2 → A3 → A4 → A5 → A6 → A7 → Option B} {P : A1 → A2 → A3 → A4 → A5 → A6 → A7 → Prop} (h : ∀ rec : A1 → A2 → A3 → A4 → A5 → A6 → A7 → Option B, (∀ (a1 : A1) (a2 : A2) (a3 : A3) (a4 : A4) (a5 : A5) (a6 : A6) (a7 : A7), rec a1 a2 a3 a4 a5 a6 a7 = some r → P a1 a2 a3 a4 a5 a6 a7) → ∀ (a1 : A1) (a2 : A2) (a3 : A3) (a4 : A4) (a5 : A5) (a6 : A6) (a7 : A7), f rec a1 a2 a3 a4 a5 a6 a7 = some r → P a1 a2 a3 a4 a5 a6 a7) : ∀ (n : Nat) (a1 : A1) (a2 : A2) (a3 : A3) (a4 : A4) (a5 : A5) (a6 : A6) (a7 : A7), loop7 f n a1 a2 a3 a4 a5 a6 a7 = some r → P a1 a2 a3 a4 a5 a6 a7
  | 0, _, _, _, _, _, _, _, hr => nomatch hr
  | n + 1, a1, a2, a3, a4, a5, a6, a7, hr => h (loop7 f n) (j_loop7 h n) a1 a2 a3 a4 a5 a6 a7 hr
def loop8 {A1 A2 A3 A4 A5 A6 A7 A8 B : Type} (f : (A1 → A2 → A3 → A4 → A5 → A6 → A7 → A8 → Option B) → A1 → A2 → A3 → A4 → A5 → A6 → A7 → A8 → Option B) : Nat → A1 → A2 → A3 → A4 → A5 → A6 → A7 → A8 → Option B
  | 0 => fun _ _ _ _ _ _ _ _ => none
  | n + 1 => f (loop8 f n)
theorem j_loop8 {A1 A2 A3 A4 A5 A6 A7 A8 B : Type} {r : B} {f : (A1 → A2 → A3 → A4 → A5 → A6 → A7 → A8 → Option B) → A1 → A2 → A3 → A4 → A5 → A6 → A7 → A8 → Option B} {P : A1 → A2 → A3 → A4 → A5 → A6 → A7 → A8 → Prop} (h : ∀ rec : A1 → A2 → A3 → A4 → A5 → A6 → A7 → A8 → Option B, (∀ (a1 : A1) (a2 : A2) (a3 : A3) (a4 : A4) (a5 : A5) (a6 : A6) (a7 : A7) (a8 : A8), rec a1 a2 a3 a4 a5 a6 a7 a8 = some r → P a1 a2 a3 a4 a5 a6 a7 a8) → ∀ (a1 : A1) (a2 : A2) (a3 : A3) (a4 : A4) (a5 : A5) (a6 : A6) (a7 : A7) (a8 : A8), f rec a1 a2 a3 a4 a5 a6 a7 a8 = some r → P a1 a2 a3 a4 a5 a6 a7 a8) : ∀ (n : Nat) (a1 : A1) (a2 : A2) (a3 : A3) (a4 : A4) (a5 : A5) (a6 : A6) (a7 : A7) (a8 : A8), loop8 f n a1 a2 a3 a4 a5 a6 a7 a8 = some r → P a1 a2 a3 a4 a5 a6 a7 a8
  | 0, _, _, _, _, _, _, _, _, hr => nomatch hr
  | n + 1, a1, a2, a3, a4, a5, a6, a7, a8, hr => h (loop8 f n) (j_loop8 h n) a1 a2 a3 a4 a5 a6 a7 a8 hr
/-! ===== contracts ===== -/
def jPc (L : Lay) (D : va_G) (ad : Nat → Nat) (cA : Nat → ClassId) (rs : va_W) (X : JX) (sz : Nat) (av : List Value) : Array Value → State → Prop := va_Pc av (fun U => U.heap.size = sz ∧ va_P D vwCl (wZ L ad cA X ++ rs) U.heap ∧ va_K D vwCl (jTy cA) U ∧ va_D (fun _ => True) (wZ L ad cA X ++ rs) ∧ jN U)
/-- the contract of a method that throws nothing and makes nothing: called with av in the world X it ends as x says -/
def Cal (L : Lay) (y : MethodName) (cy : ByteArray) (ny : Nat) (ry : Option FieldType) (dy : Nat) (av : (Nat → Nat) → List Value) (X : JX) (x : (Nat → Nat) → JE) : Prop :=
  ∀ (l : Launch) (D : va_G) (ad : Nat → Nat) (cA : Nat → ClassId) (rs : va_W) (sz : Nat), Met l y (.code y cy ny ry :: gTbl) (jRm dy 0 0) (jPc L D ad cA rs X sz (av ad)) (jQc L D ad cA rs (va_A (wZ L ad cA X ++ rs) sz) (x ad)) 0 0 (va_A (wZ L ad cA X ++ rs) sz)
theorem Cal.of {L : Lay} {y : MethodName} {cy : ByteArray} {ny : Nat} {ry : Option FieldType} {dy : Nat} {av : (Nat → Nat) → List Value} {X : JX} {x : (Nat → Nat) → JE} {own : String} (lv : (Nat → Nat) → List (Nat × Value)) (hy : plainName y.cls = true) (ho : y.cls = own) (hlen : ∀ ad, (lg_sl (av ad)).length ≤ ny) (hlv : ∀ ad, lv_args 0 (av ad) = lv ad)
    (k : ∀ κ : JK, jOk ny cy own ry dy κ → jFin L false (x (jad κ)) κ → J L ny κ X 0 (lv (jad κ)) []) : Cal L y cy ny ry dy av X x := by
  intro l D ad cA rs sz
  refine Met.ofW (cc := cy) (maxL := ny) (ret := ry) hy rfl ?_
  intro p e s m args below meth c s₁ B hml hv
  obtain ⟨rfl, hsz, hP, hK, hD0, hN⟩ := hv
  have hx := B.exec
  have hb := B.bytes
  have hr := B.returns
  have hts := atoms_spec (ws := Cond.code y cy ny ry :: gTbl) B.pre
  have hown : s.vm.findClass own = some m.cls := by rw [← ho]; exact findClass_of_methodNamed B.named
  have hlocks := B.notSynchronized
  subst hsz
  have hA : ∀ q : Nat, s.heap.size ≤ q → (va_A (wZ L ad cA X ++ rs) s.heap.size) q := fun q h => Or.inr h
  have hl := lv_entry (av ad) (n := ny) (hlen ad)
  rw [lg_entry_eq]
  have h := k (p, l, e, (headSpec (Cond.code y cy ny ry :: gTbl) (jRm dy 0 0)).room, s, m, (av ad).toArray, below, meth, c, D, va_A (wZ L ad cA X ++ rs) s.heap.size, ad, cA, rs, MQ below (jQc L D ad cA rs (va_A (wZ L ad cA X ++ rs) s.heap.size) (x ad)) (av ad).toArray s 0 0 (va_A (wZ L ad cA X ++ rs) s.heap.size))
    ⟨hx, hb, hml, hown, fun w hw => hts w (List.mem_cons_of_mem _ hw), hr, hlocks, hK, hA, Nat.le_refl _, Nat.le_refl _, hN⟩ rfl
  rw [hlv ad] at hl
  exact h s.heap [] _ hP hD0.self va_S.rf hl
/-- the contract of a method that may throw -/
def jPcX (L : Lay) (D : va_G) (ad : Nat → Nat) (cA : Nat → ClassId) (rs : va_W) (X : JX) (sz : Nat) (av : List Value) : Array Value → State → Prop := va_Pc av (fun U => U.heap.size = sz ∧ va_P D vwCl (wZ L ad cA X ++ rs) U.heap ∧ va_K D vwCl (jTy cA) U ∧ va_D (fun _ => True) (wZ L ad cA X ++ rs) ∧ jN U ∧ jH (va_A (wZ L ad cA X ++ rs) sz) U)
def CalX (L : Lay) (y : MethodName) (cy : ByteArray) (ny : Nat) (ry : Option FieldType) (dy : Nat) (av : (Nat → Nat) → List Value) (X : JX) (x : (Nat → Nat) → JE) : Prop :=
  ∀ (l : Launch), l.stackTraces = false → ∀ (D : va_G) (ad : Nat → Nat) (cA : Nat → ClassId) (rs : va_W) (sz : Nat), vx_Met l y (.code y cy ny ry :: gTbl) (jRm dy 1 6) (jPcX L D ad cA rs X sz (av ad)) (jQc L D ad cA rs (va_A (wZ L ad cA X ++ rs) sz) (x ad)) (jXc L D ad cA rs (va_A (wZ L ad cA X ++ rs) sz) (x ad)) 1 6 (va_A (wZ L ad cA X ++ rs) sz)
theorem CalX.of {L : Lay} {y : MethodName} {cy : ByteArray} {ny : Nat} {ry : Option FieldType} {dy : Nat} {av : (Nat → Nat) → List Value} {X : JX} {x : (Nat → Nat) → JE} {own : String} (lv : (Nat → Nat) → List (Nat × Value)) (hy : plainName y.cls = true) (ho : y.cls = own) (hlen : ∀ ad, (lg_sl (av ad)).length ≤ ny) (hlv : ∀ ad, lv_args 0 (av ad) = lv ad)
    (k : ∀ κ : JK, jOk ny cy own ry dy κ → jFin L true (x (jad κ)) κ → J L ny κ X 0 (lv (jad κ)) []) : CalX L y cy ny ry dy av X x := by
  intro l hfl D ad cA rs sz
  refine vx_ofW (cc := cy) (maxL := ny) (ret := ry) hy rfl ?_
  intro p e s m args below meth c s₁ B hml htab hv
  obtain ⟨rfl, hsz, hP, hK, hD0, hN, hH⟩ := hv
  have hx := B.exec
  have hb := B.bytes
  have hr := B.returns
  have hts := atoms_spec (ws := Cond.code y cy ny ry :: gTbl) B.pre
  have hown : s.vm.findClass own = some m.cls := by rw [← ho]; exact findClass_of_methodNamed B.named
  have hlocks := B.notSynchronized
  subst hsz
  have hA : ∀ q : Nat, s.heap.size ≤ q → (va_A (wZ L ad cA X ++ rs) s.heap.size) q := fun q h => Or.inr h
  have hl := lv_entry (av ad) (n := ny) (hlen ad)
  rw [lg_entry_eq]
  have h := k (p, l, e, (headSpec (Cond.code y cy ny ry :: gTbl) (jRm dy 1 6)).room, s, m, (av ad).toArray, below, meth, c, D, va_A (wZ L ad cA X ++ rs) s.heap.size, ad, cA, rs, vx_MQ below (jQc L D ad cA rs (va_A (wZ L ad cA X ++ rs) s.heap.size) (x ad)) (jXc L D ad cA rs (va_A (wZ L ad cA X ++ rs) s.heap.size) (x ad)) (av ad).toArray s 1 6 (va_A (wZ L ad cA X ++ rs) s.heap.size))
    ⟨hx, hb, hml, hown, fun w hw => hts w (List.mem_cons_of_mem _ hw), hr, hlocks, hK, hA, Nat.le_refl _, Nat.le_refl _, hN⟩ ⟨rfl, Nat.le_refl _, Nat.le_refl _, hfl, hH, htab⟩
  rw [hlv ad] at hl
  exact h s.heap [] _ hP hD0.self va_S.rf hl
section JC
variable {p : Program} {l : Launch} {e : Env} {R : Room} {s : State} {m : MethodId} {args : Array Value} {below : List Frame} {meth : Method} {c : Code} {H : Heap} {locs : List Loc} {cells slots : Nat} {Q : State → Prop}
variable {pc : Nat} {ls : Array Slot} {rest st0 : List Value} {a : Array Value} {A0 A1 : Nat → Prop} {H0 : Heap} {mc ms : Nat} {free : Addr → Prop}
theorem w_call {Qa : State → Outcome → State → Prop} {rv : Option Value} {P : Heap → Prop} (hr : va_Run p l e R s m args below meth c H locs cells slots mc ms (F0 m pc ls st0) rest Qa free) (hq : ∀ (st : State) (v : Option Value) (t : State), Qa st (.returned v) t → v = rv ∧ P t.heap ∧ va_F A1 st t) (hS : va_S A0 H0 H locs) (hA : ∀ q, q < H.size → A1 q → A0 q) (hf : ∀ q, free q → A0 q)
    (kk : ∀ (H1 : Heap) (locs1 : List Loc), P H1 → va_S A0 H0 H1 locs1 → W p l e R s m args below meth c H1 locs1 (cells + mc) (slots + ms) Q (F0 m (pc + 3) ls (rv.toList ++ rest))) : W p l e R s m args below meth c H locs cells slots Q (F0 m pc ls st0) := by
  intro T hT X
  obtain ⟨v, st₀, t, T', L, h0, X', hL, e1, e2, hqa, st⟩ := hr T hT X
  obtain ⟨rfl, hp, hz, hk⟩ := hq _ _ _ hqa
  rw [h0] at hz hk
  obtain ⟨t2, a1, b1⟩ := kk T'.heap (locs ++ L) (by rw [e1]; exact hp)
    ⟨Nat.le_trans hS.1 (by rw [e1]; exact hz), fun q h1 h2 => by rw [e1, hk q (Nat.lt_of_lt_of_le h1 hS.1) (fun z => h2 (hA q (Nat.lt_of_lt_of_le h1 hS.1) z))]; exact hS.2.1 q h1 h2, fun q hq => by
      rcases List.mem_append.mp hq with h | h
      · exact hS.2.2 q h
      · exact hf _ (hL q h)⟩ T' rfl X'
  exact ⟨t2, st t2 a1, b1⟩
end JC
theorem jA_lt {A : Nat → Prop} {ws : va_W} {H : Heap} (hD : va_D A ws) : ∀ q, q < H.size → va_A ws H.size q → A q := fun q h1 h2 => h2.elim (fun ⟨k, e, h⟩ => hD.2 k (q, e) h) (fun h => absurd h (Nat.not_le.mpr h1))
theorem jA_all {A : Nat → Prop} {ws : va_W} {H0 H : Heap} {locs : List Loc} (hD : va_D A ws) (hS : va_S A H0 H locs) (hA : ∀ q, H0.size ≤ q → A q) : ∀ q, va_A ws H.size q → A q := fun q h => h.elim (fun ⟨k, e, h⟩ => hD.2 k (q, e) h) (fun h => hA q (Nat.le_trans hS.1 h))
theorem jPc_blind {L : Lay} {D : va_G} {ad : Nat → Nat} {cA : Nat → ClassId} {rs : va_W} {X : JX} {sz : Nat} {av : List Value} : FrameBlind (jPc L D ad cA rs X sz av) := fun a U g mk q => by
  obtain ⟨q0, q1, qP, qK, qD, qN⟩ := q
  exact ⟨q0, q1, qP, va_K.moved (u := U) (U := U.calling g mk a) (Vm.Alike.refl U.vm) qK, qD, jN.same (u := U) (U := U.calling g mk a) rfl qN⟩
section JV
variable {L : Lay} {n : Nat} {cc : ByteArray} {own : String} {ret : Option FieldType} {d : Nat} {κ : JK} {X : JX} {pc : Nat} {lv : List (Nat × Value)} {st : List Value} {β : Type} {r : β}
variable {y : MethodName} {cy : ByteArray} {ny : Nat} {ry : Option FieldType} {dy idx na : Nat}

theorem j_callV (K : jOk n cc own ret d κ) {av : (Nat → Nat) → List Value} {x : (Nat → Nat) → JE} {k ci z : Nat} {As : List Value} {rv : Option Value} {X' : JX} (hc : Cal L y cy ny ry dy av X x) (ml : MLk own idx y cy ny ry na) (hcl : ∃ q : vw_C, vwCl[ci]? = some q ∧ q.1 = y.cls) (hs : L.2.1 k = (10 + ci, z)) (hk : k < L.1) (hci : ci < 90) (hav : av (jad κ) = .ref (jad κ k) :: As) (hn : As.length = na) (hd : dy + 1 ≤ d) (hny : ny ≤ 20) (hst : (st.map fun v => v.category).sum ≤ 8) (hxx : x (jad κ) = (none, rv, X')) (dg : decode cc pc = .ok (.invokevirtual idx, 3)) (kk : J L n κ X' (pc + 3) lv (rv.toList ++ st)) : J L n κ X pc lv (As.reverse ++ .ref (jad κ k) :: st) := by
  obtain ⟨p, l, e, R, s, m, args, below, meth, c, D, A, ad, cA, rs, Q⟩ := κ
  obtain ⟨hx, hb, hml, hown, hts, hr0, hlk, hK, hA, hfr, hlo, hN⟩ := K
  intro H locs ls hP hD hS hl
  obtain ⟨⟨C, T, N⟩, g1, g2⟩ := hcl
  have hM := hc l D ad cA rs H.size
  have hav' : av ad = .ref (ad k) :: As := hav
  have hxx' : x ad = (none, rv, X') := hxx
  rw [hav', hxx'] at hM
  have cw := cwV (R := R) (s := s) (args := args) (own := own) (C := y.cls) (index := idx) (y := y) (bytes := cy) (maxL := ny) (ret := ry) (Ts := gTbl) (ws := .code y cy ny ry :: gTbl) (ws' := gTbl) (rm := jRm dy 0 0) (mc := 0) (ms := 0) na hts ml.1 rfl rfl rfl ⟨rfl, ml.2⟩ ⟨by show dy + 1 ≤ _; omega, by show 8 + (ny + 11) + 39 * dy ≤ _; omega⟩
  refine w_call (rv := rv) (P := fun H => va_P D vwCl (wZ L ad cA X' ++ rs) H) (va_runV (As := As) (rest := st) ⟨hx, hb, hml, hown, hts⟩ hM cw ⟨jPc_blind, ?_, fun U hU hW => ⟨rfl, by rw [hU], by rw [hU]; exact hP, va_K.moved hW.alike hK, hD.weaken (fun _ _ _ _ => trivial), hN.warm hW⟩⟩ rfl hn (hl.1) rfl (lv_room hst) dg ⟨Nat.zero_le _, Nat.zero_le _⟩) (fun st v t h => ⟨?_, h.1.2.2, h.2⟩) hS (jA_lt hD) (jA_all hD hS hA) (fun H locs hP hS => kk H locs ls hP (wZ_D hD) hS hl)
  · rw [← show (C, T, N).1 = y.cls from g2]
    exact va_recv hK hP (ci := ci) (q0 := k) g1 (by rw [wZ_get hk, cZ_ob hs hci])
  · exact Outcome.returned.inj h.1.2.1
theorem j_callS (K : jOk n cc own ret d κ) {av : (Nat → Nat) → List Value} {x : (Nat → Nat) → JE} {As : List Value} {rv : Option Value} {X' : JX} (hc : Cal L y cy ny ry dy av X x) (ml : MSk own idx y cy ny ry na) (hav : av (jad κ) = As) (hn : As.length = na) (hd : dy + 1 ≤ d) (hny : ny ≤ 20) (hst : (st.map fun v => v.category).sum ≤ 8) (hxx : x (jad κ) = (none, rv, X')) (dg : decode cc pc = .ok (.invokestatic idx, 3)) (kk : J L n κ X' (pc + 3) lv (rv.toList ++ st)) : J L n κ X pc lv (As.reverse ++ st) := by
  obtain ⟨p, l, e, R, s, m, args, below, meth, c, D, A, ad, cA, rs, Q⟩ := κ
  obtain ⟨hx, hb, hml, hown, hts, hr0, hlk, hK, hA, hfr, hlo, hN⟩ := K
  intro H locs ls hP hD hS hl
  have hM := hc l D ad cA rs H.size
  have hav' : av ad = As := hav
  have hxx' : x ad = (none, rv, X') := hxx
  rw [hav', hxx'] at hM
  have cw := va_cwS (R := R) (s := s) (args := args) (own := own) (index := idx) (y := y) (bytes := cy) (maxL := ny) (ret := ry) (Ts := gTbl) (ws := .code y cy ny ry :: gTbl) (ws' := gTbl) (rm := jRm dy 0 0) (mc := 0) (ms := 0) na hts ml.1 rfl rfl rfl ml.2 ⟨by show dy + 1 ≤ _; omega, by show 8 + (ny + 11) + 39 * dy ≤ _; omega⟩
  refine w_call (rv := rv) (P := fun H => va_P D vwCl (wZ L ad cA X' ++ rs) H) (va_runS (As := As) (rest := st) ⟨hx, hb, hml, hown, hts⟩ hM cw ⟨jPc_blind, fun U hU hW => ⟨rfl, by rw [hU], by rw [hU]; exact hP, va_K.moved hW.alike hK, hD.weaken (fun _ _ _ _ => trivial), hN.warm hW⟩⟩ rfl hn (hl.1) rfl (lv_room hst) dg ⟨Nat.zero_le _, Nat.zero_le _⟩) (fun st v t h => ⟨?_, h.1.2.2, h.2⟩) hS (jA_lt hD) (jA_all hD hS hA) (fun H locs hP hS => kk H locs ls hP (wZ_D hD) hS hl)
  exact Outcome.returned.inj h.1.2.1
theorem j_vI0 (K : jOk n cc own ret d κ) {ex : Option (Int32)} {g : Int32 → Option β} {av : (Nat → Nat) → List Value} {k ci z : Nat} (hr : ex.bind g = some r) (hc : ∀ v, ex = some v → Cal L y cy ny ry dy av X ((fun v _ => (none, some (.int v), X)) v)) (ml : MLk own idx y cy ny ry 0) (hcl : ∃ q : vw_C, vwCl[ci]? = some q ∧ q.1 = y.cls) (hs : L.2.1 k = (10 + ci, z)) (hk : k < L.1) (hci : ci < 90) (hav : av (jad κ) = [.ref (jad κ k)]) (hd : dy + 1 ≤ d) (hny : ny ≤ 20) (hst : (st.map fun v => v.category).sum ≤ 8) (dg : decode cc pc = .ok (.invokevirtual idx, 3)) (kk : ∀ v, ex = some v → g v = some r → J L n κ X (pc + 3) lv (.int v :: st)) : J L n κ X pc lv (.ref (jad κ k) :: st) := by
  obtain ⟨v, h1, h2⟩ := g_bd hr
  exact j_callV K (As := []) (rv := some (.int v)) (hc v h1) ml hcl hs hk hci hav rfl hd hny hst rfl dg (kk v h1 h2)
theorem j_vI1 (K : jOk n cc own ret d κ) {ex : Option (Int32)} {g : Int32 → Option β} {av : (Nat → Nat) → List Value} {k ci z : Nat} {a1 : Value} (hr : ex.bind g = some r) (hc : ∀ v, ex = some v → Cal L y cy ny ry dy av X ((fun v _ => (none, some (.int v), X)) v)) (ml : MLk own idx y cy ny ry 1) (hcl : ∃ q : vw_C, vwCl[ci]? = some q ∧ q.1 = y.cls) (hs : L.2.1 k = (10 + ci, z)) (hk : k < L.1) (hci : ci < 90) (hav : av (jad κ) = [.ref (jad κ k), a1]) (hd : dy + 1 ≤ d) (hny : ny ≤ 20) (hst : (st.map fun v => v.category).sum ≤ 8) (dg : decode cc pc = .ok (.invokevirtual idx, 3)) (kk : ∀ v, ex = some v → g v = some r → J L n κ X (pc + 3) lv (.int v :: st)) : J L n κ X pc lv (a1 :: .ref (jad κ k) :: st) := by
  obtain ⟨v, h1, h2⟩ := g_bd hr
  exact j_callV K (As := [a1]) (rv := some (.int v)) (hc v h1) ml hcl hs hk hci hav rfl hd hny hst rfl dg (kk v h1 h2)
theorem j_sI1 (K : jOk n cc own ret d κ) {ex : Option (Int32)} {g : Int32 → Option β} {av : (Nat → Nat) → List Value} {a1 : Value} (hr : ex.bind g = some r) (hc : ∀ v, ex = some v → Cal L y cy ny ry dy av X ((fun v _ => (none, some (.int v), X)) v)) (ml : MSk own idx y cy ny ry 1) (hav : av (jad κ) = [a1]) (hd : dy + 1 ≤ d) (hny : ny ≤ 20) (hst : (st.map fun v => v.category).sum ≤ 8) (dg : decode cc pc = .ok (.invokestatic idx, 3)) (kk : ∀ v, ex = some v → g v = some r → J L n κ X (pc + 3) lv (.int v :: st)) : J L n κ X pc lv (a1 :: st) := by
  obtain ⟨v, h1, h2⟩ := g_bd hr
  exact j_callS K (As := [a1]) (rv := some (.int v)) (hc v h1) ml hav rfl hd hny hst rfl dg (kk v h1 h2)
theorem j_vI2 (K : jOk n cc own ret d κ) {ex : Option (Int32)} {g : Int32 → Option β} {av : (Nat → Nat) → List Value} {k ci z : Nat} {a1 a2 : Value} (hr : ex.bind g = some r) (hc : ∀ v, ex = some v → Cal L y cy ny ry dy av X ((fun v _ => (none, some (.int v), X)) v)) (ml : MLk own idx y cy ny ry 2) (hcl : ∃ q : vw_C, vwCl[ci]? = some q ∧ q.1 = y.cls) (hs : L.2.1 k = (10 + ci, z)) (hk : k < L.1) (hci : ci < 90) (hav : av (jad κ) = [.ref (jad κ k), a1, a2]) (hd : dy + 1 ≤ d) (hny : ny ≤ 20) (hst : (st.map fun v => v.category).sum ≤ 8) (dg : decode cc pc = .ok (.invokevirtual idx, 3)) (kk : ∀ v, ex = some v → g v = some r → J L n κ X (pc + 3) lv (.int v :: st)) : J L n κ X pc lv (a2 :: a1 :: .ref (jad κ k) :: st) := by
  obtain ⟨v, h1, h2⟩ := g_bd hr
  exact j_callV K (As := [a1, a2]) (rv := some (.int v)) (hc v h1) ml hcl hs hk hci hav rfl hd hny hst rfl dg (kk v h1 h2)
theorem j_sI2 (K : jOk n cc own ret d κ) {ex : Option (Int32)} {g : Int32 → Option β} {av : (Nat → Nat) → List Value} {a1 a2 : Value} (hr : ex.bind g = some r) (hc : ∀ v, ex = some v → Cal L y cy ny ry dy av X ((fun v _ => (none, some (.int v), X)) v)) (ml : MSk own idx y cy ny ry 2) (hav : av (jad κ) = [a1, a2]) (hd : dy + 1 ≤ d) (hny : ny ≤ 20) (hst : (st.map fun v => v.category).sum ≤ 8) (dg : decode cc pc = .ok (.invokestatic idx, 3)) (kk : ∀ v, ex = some v → g v = some r → J L n κ X (pc + 3) lv (.int v :: st)) : J L n κ X pc lv (a2 :: a1 :: st) := by
  obtain ⟨v, h1, h2⟩ := g_bd hr
  exact j_callS K (As := [a1, a2]) (rv := some (.int v)) (hc v h1) ml hav rfl hd hny hst rfl dg (kk v h1 h2)
theorem j_vI3 (K : jOk n cc own ret d κ) {ex : Option (Int32)} {g : Int32 → Option β} {av : (Nat → Nat) → List Value} {k ci z : Nat} {a1 a2 a3 : Value} (hr : ex.bind g = some r) (hc : ∀ v, ex = some v → Cal L y cy ny ry dy av X ((fun v _ => (none, some (.int v), X)) v)) (ml : MLk own idx y cy ny ry 3) (hcl : ∃ q : vw_C, vwCl[ci]? = some q ∧ q.1 = y.cls) (hs : L.2.1 k = (10 + ci, z)) (hk : k < L.1) (hci : ci < 90) (hav : av (jad κ) = [.ref (jad κ k), a1, a2, a3]) (hd : dy + 1 ≤ d) (hny : ny ≤ 20) (hst : (st.map fun v => v.category).sum ≤ 8) (dg : decode cc pc = .ok (.invokevirtual idx, 3)) (kk : ∀ v, ex = some v → g v = some r → J L n κ X (pc + 3) lv (.int v :: st)) : J L n κ X pc lv (a3 :: a2 :: a1 :: .ref (jad κ k) :: st) := by
  obtain ⟨v, h1, h2⟩ := g_bd hr
  exact j_callV K (As := [a1, a2, a3]) (rv := some (.int v)) (hc v h1) ml hcl hs hk hci hav rfl hd hny hst rfl dg (kk v h1 h2)
theorem j_sI3 (K : jOk n cc own ret d κ) {ex : Option (Int32)} {g : Int32 → Option β} {av : (Nat → Nat) → List Value} {a1 a2 a3 : Value} (hr : ex.bind g = some r) (hc : ∀ v, ex = some v → Cal L y cy ny ry dy av X ((fun v _ => (none, some (.int v), X)) v)) (ml : MSk own idx y cy ny ry 3) (hav : av (jad κ) = [a1, a2, a3]) (hd : dy + 1 ≤ d) (hny : ny ≤ 20) (hst : (st.map fun v => v.category).sum ≤ 8) (dg : decode cc pc = .ok (.invokestatic idx, 3)) (kk : ∀ v, ex = some v → g v = some r → J L n κ X (pc + 3) lv (.int v :: st)) : J L n κ X pc lv (a3 :: a2 :: a1 :: st) := by
  obtain ⟨v, h1, h2⟩ := g_bd hr
  exact j_callS K (As := [a1, a2, a3]) (rv := some (.int v)) (hc v h1) ml hav rfl hd hny hst rfl dg (kk v h1 h2)
theorem j_vI4 (K : jOk n cc own ret d κ) {ex : Option (Int32)} {g : Int32 → Option β} {av : (Nat → Nat) → List Value} {k ci z : Nat} {a1 a2 a3 a4 : Value} (hr : ex.bind g = some r) (hc : ∀ v, ex = some v → Cal L y cy ny ry dy av X ((fun v _ => (none, some (.int v), X)) v)) (ml : MLk own idx y cy ny ry 4) (hcl : ∃ q : vw_C, vwCl[ci]? = some q ∧ q.1 = y.cls) (hs : L.2.1 k = (10 + ci, z)) (hk : k < L.1) (hci : ci < 90) (hav : av (jad κ) = [.ref (jad κ k), a1, a2, a3, a4]) (hd : dy + 1 ≤ d) (hny : ny ≤ 20) (hst : (st.map fun v => v.category).sum ≤ 8) (dg : decode cc pc = .ok (.invokevirtual idx, 3)) (kk : ∀ v, ex = some v → g v = some r → J L n κ X (pc + 3) lv (.int v :: st)) : J L n κ X pc lv (a4 :: a3 :: a2 :: a1 :: .ref (jad κ k) :: st) := by
  obtain ⟨v, h1, h2⟩ := g_bd hr
  exact j_callV K (As := [a1, a2, a3, a4]) (rv := some (.int v)) (hc v h1) ml hcl hs hk hci hav rfl hd hny hst rfl dg (kk v h1 h2)
theorem j_sI4 (K : jOk n cc own ret d κ) {ex : Option (Int32)} {g : Int32 → Option β} {av : (Nat → Nat) → List Value} {a1 a2 a3 a4 : Value} (hr : ex.bind g = some r) (hc : ∀ v, ex = some v → Cal L y cy ny ry dy av X ((fun v _ => (none, some (.int v), X)) v)) (ml : MSk own idx y cy ny ry 4) (hav : av (jad κ) = [a1, a2, a3, a4]) (hd : dy + 1 ≤ d) (hny : ny ≤ 20) (hst : (st.map fun v => v.category).sum ≤ 8) (dg : decode cc pc = .ok (.invokestatic idx, 3)) (kk : ∀ v, ex = some v → g v = some r → J L n κ X (pc + 3) lv (.int v :: st)) : J L n κ X pc lv (a4 :: a3 :: a2 :: a1 :: st) := by
  obtain ⟨v, h1, h2⟩ := g_bd hr
  exact j_callS K (As := [a1, a2, a3, a4]) (rv := some (.int v)) (hc v h1) ml hav rfl hd hny hst rfl dg (kk v h1 h2)
theorem j_vI5 (K : jOk n cc own ret d κ) {ex : Option (Int32)} {g : Int32 → Option β} {av : (Nat → Nat) → List Value} {k ci z : Nat} {a1 a2 a3 a4 a5 : Value} (hr : ex.bind g = some r) (hc : ∀ v, ex = some v → Cal L y cy ny ry dy av X ((fun v _ => (none, some (.int v), X)) v)) (ml : MLk own idx y cy ny ry 5) (hcl : ∃ q : vw_C, vwCl[ci]? = some q ∧ q.1 = y.cls) (hs : L.2.1 k = (10 + ci, z)) (hk : k < L.1) (hci : ci < 90) (hav : av (jad κ) = [.ref (jad κ k), a1, a2, a3, a4, a5]) (hd : dy + 1 ≤ d) (hny : ny ≤ 20) (hst : (st.map fun v => v.category).sum ≤ 8) (dg : decode cc pc = .ok (.invokevirtual idx, 3)) (kk : ∀ v, ex = some v → g v = some r → J L n κ X (pc + 3) lv (.int v :: st)) : J L n κ X pc lv (a5 :: a4 :: a3 :: a2 :: a1 :: .ref (jad κ k) :: st) := by
  obtain ⟨v, h1, h2⟩ := g_bd hr
  exact j_callV K (As := [a1, a2, a3, a4, a5]) (rv := some (.int v)) (hc v h1) ml hcl hs hk hci hav rfl hd hny hst rfl dg (kk v h1 h2)
theorem j_sI5 (K : jOk n cc own ret d κ) {ex : Option (Int32)} {g : Int32 → Option β} {av : (Nat → Nat) → List Value} {a1 a2 a3 a4 a5 : Value} (hr : ex.bind g = some r) (hc : ∀ v, ex = some v → Cal L y cy ny ry dy av X ((fun v _ => (none, some (.int v), X)) v)) (ml : MSk own idx y cy ny ry 5) (hav : av (jad κ) = [a1, a2, a3, a4, a5]) (hd : dy + 1 ≤ d) (hny : ny ≤ 20) (hst : (st.map fun v => v.category).sum ≤ 8) (dg : decode cc pc = .ok (.invokestatic idx, 3)) (kk : ∀ v, ex = some v → g v = some r → J L n κ X (pc + 3) lv (.int v :: st)) : J L n κ X pc lv (a5 :: a4 :: a3 :: a2 :: a1 :: st) := by
  obtain ⟨v, h1, h2⟩ := g_bd hr
  exact j_callS K (As := [a1, a2, a3, a4, a5]) (rv := some (.int v)) (hc v h1) ml hav rfl hd hny hst rfl dg (kk v h1 h2)
theorem j_vM0 (K : jOk n cc own ret d κ) {ex : Option (Int32 × JX)} {g : Int32 × JX → Option β} {av : (Nat → Nat) → List Value} {k ci z : Nat} (hr : ex.bind g = some r) (hc : ∀ v, ex = some v → Cal L y cy ny ry dy av X ((fun v _ => (none, some (.int v.1), v.2)) v)) (ml : MLk own idx y cy ny ry 0) (hcl : ∃ q : vw_C, vwCl[ci]? = some q ∧ q.1 = y.cls) (hs : L.2.1 k = (10 + ci, z)) (hk : k < L.1) (hci : ci < 90) (hav : av (jad κ) = [.ref (jad κ k)]) (hd : dy + 1 ≤ d) (hny : ny ≤ 20) (hst : (st.map fun v => v.category).sum ≤ 8) (dg : decode cc pc = .ok (.invokevirtual idx, 3)) (kk : ∀ v, ex = some v → g v = some r → J L n κ (v.2) (pc + 3) lv (.int v.1 :: st)) : J L n κ X pc lv (.ref (jad κ k) :: st) := by
  obtain ⟨v, h1, h2⟩ := g_bd hr
  exact j_callV K (As := []) (rv := some (.int v.1)) (hc v h1) ml hcl hs hk hci hav rfl hd hny hst rfl dg (kk v h1 h2)
theorem j_vM1 (K : jOk n cc own ret d κ) {ex : Option (Int32 × JX)} {g : Int32 × JX → Option β} {av : (Nat → Nat) → List Value} {k ci z : Nat} {a1 : Value} (hr : ex.bind g = some r) (hc : ∀ v, ex = some v → Cal L y cy ny ry dy av X ((fun v _ => (none, some (.int v.1), v.2)) v)) (ml : MLk own idx y cy ny ry 1) (hcl : ∃ q : vw_C, vwCl[ci]? = some q ∧ q.1 = y.cls) (hs : L.2.1 k = (10 + ci, z)) (hk : k < L.1) (hci : ci < 90) (hav : av (jad κ) = [.ref (jad κ k), a1]) (hd : dy + 1 ≤ d) (hny : ny ≤ 20) (hst : (st.map fun v => v.category).sum ≤ 8) (dg : decode cc pc = .ok (.invokevirtual idx, 3)) (kk : ∀ v, ex = some v → g v = some r → J L n κ (v.2) (pc + 3) lv (.int v.1 :: st)) : J L n κ X pc lv (a1 :: .ref (jad κ k) :: st) := by
  obtain ⟨v, h1, h2⟩ := g_bd hr
  exact j_callV K (As := [a1]) (rv := some (.int v.1)) (hc v h1) ml hcl hs hk hci hav rfl hd hny hst rfl dg (kk v h1 h2)
theorem j_vM2 (K : jOk n cc own ret d κ) {ex : Option (Int32 × JX)} {g : Int32 × JX → Option β} {av : (Nat → Nat) → List Value} {k ci z : Nat} {a1 a2 : Value} (hr : ex.bind g = some r) (hc : ∀ v, ex = some v → Cal L y cy ny ry dy av X ((fun v _ => (none, some (.int v.1), v.2)) v)) (ml : MLk own idx y cy ny ry 2) (hcl : ∃ q : vw_C, vwCl[ci]? = some q ∧ q.1 = y.cls) (hs : L.2.1 k = (10 + ci, z)) (hk : k < L.1) (hci : ci < 90) (hav : av (jad κ) = [.ref (jad κ k), a1, a2]) (hd : dy + 1 ≤ d) (hny : ny ≤ 20) (hst : (st.map fun v => v.category).sum ≤ 8) (dg : decode cc pc = .ok (.invokevirtual idx, 3)) (kk : ∀ v, ex = some v → g v = some r → J L n κ (v.2) (pc + 3) lv (.int v.1 :: st)) : J L n κ X pc lv (a2 :: a1 :: .ref (jad κ k) :: st) := by
  obtain ⟨v, h1, h2⟩ := g_bd hr
  exact j_callV K (As := [a1, a2]) (rv := some (.int v.1)) (hc v h1) ml hcl hs hk hci hav rfl hd hny hst rfl dg (kk v h1 h2)
theorem j_vM3 (K : jOk n cc own ret d κ) {ex : Option (Int32 × JX)} {g : Int32 × JX → Option β} {av : (Nat → Nat) → List Value} {k ci z : Nat} {a1 a2 a3 : Value} (hr : ex.bind g = some r) (hc : ∀ v, ex = some v → Cal L y cy ny ry dy av X ((fun v _ => (none, some (.int v.1), v.2)) v)) (ml : MLk own idx y cy ny ry 3) (hcl : ∃ q : vw_C, vwCl[ci]? = some q ∧ q.1 = y.cls) (hs : L.2.1 k = (10 + ci, z)) (hk : k < L.1) (hci : ci < 90) (hav : av (jad κ) = [.ref (jad κ k), a1, a2, a3]) (hd : dy + 1 ≤ d) (hny : ny ≤ 20) (hst : (st.map fun v => v.category).sum ≤ 8) (dg : decode cc pc = .ok (.invokevirtual idx, 3)) (kk : ∀ v, ex = some v → g v = some r → J L n κ (v.2) (pc + 3) lv (.int v.1 :: st)) : J L n κ X pc lv (a3 :: a2 :: a1 :: .ref (jad κ k) :: st) := by
  obtain ⟨v, h1, h2⟩ := g_bd hr
  exact j_callV K (As := [a1, a2, a3]) (rv := some (.int v.1)) (hc v h1) ml hcl hs hk hci hav rfl hd hny hst rfl dg (kk v h1 h2)
theorem j_vM4 (K : jOk n cc own ret d κ) {ex : Option (Int32 × JX)} {g : Int32 × JX → Option β} {av : (Nat → Nat) → List Value} {k ci z : Nat} {a1 a2 a3 a4 : Value} (hr : ex.bind g = some r) (hc : ∀ v, ex = some v → Cal L y cy ny ry dy av X ((fun v _ => (none, some (.int v.1), v.2)) v)) (ml : MLk own idx y cy ny ry 4) (hcl : ∃ q : vw_C, vwCl[ci]? = some q ∧ q.1 = y.cls) (hs : L.2.1 k = (10 + ci, z)) (hk : k < L.1) (hci : ci < 90) (hav : av (jad κ) = [.ref (jad κ k), a1, a2, a3, a4]) (hd : dy + 1 ≤ d) (hny : ny ≤ 20) (hst : (st.map fun v => v.category).sum ≤ 8) (dg : decode cc pc = .ok (.invokevirtual idx, 3)) (kk : ∀ v, ex = some v → g v = some r → J L n κ (v.2) (pc + 3) lv (.int v.1 :: st)) : J L n κ X pc lv (a4 :: a3 :: a2 :: a1 :: .ref (jad κ k) :: st) := by
  obtain ⟨v, h1, h2⟩ := g_bd hr
  exact j_callV K (As := [a1, a2, a3, a4]) (rv := some (.int v.1)) (hc v h1) ml hcl hs hk hci hav rfl hd hny hst rfl dg (kk v h1 h2)
theorem j_vM5 (K : jOk n cc own ret d κ) {ex : Option (Int32 × JX)} {g : Int32 × JX → Option β} {av : (Nat → Nat) → List Value} {k ci z : Nat} {a1 a2 a3 a4 a5 : Value} (hr : ex.bind g = some r) (hc : ∀ v, ex = some v → Cal L y cy ny ry dy av X ((fun v _ => (none, some (.int v.1), v.2)) v)) (ml : MLk own idx y cy ny ry 5) (hcl : ∃ q : vw_C, vwCl[ci]? = some q ∧ q.1 = y.cls) (hs : L.2.1 k = (10 + ci, z)) (hk : k < L.1) (hci : ci < 90) (hav : av (jad κ) = [.ref (jad κ k), a1, a2, a3, a4, a5]) (hd : dy + 1 ≤ d) (hny : ny ≤ 20) (hst : (st.map fun v => v.category).sum ≤ 8) (dg : decode cc pc = .ok (.invokevirtual idx, 3)) (kk : ∀ v, ex = some v → g v = some r → J L n κ (v.2) (pc + 3) lv (.int v.1 :: st)) : J L n κ X pc lv (a5 :: a4 :: a3 :: a2 :: a1 :: .ref (jad κ k) :: st) := by
  obtain ⟨v, h1, h2⟩ := g_bd hr
  exact j_callV K (As := [a1, a2, a3, a4, a5]) (rv := some (.int v.1)) (hc v h1) ml hcl hs hk hci hav rfl hd hny hst rfl dg (kk v h1 h2)
theorem j_vU0 (K : jOk n cc own ret d κ) {ex : Option (JX)} {g : JX → Option β} {av : (Nat → Nat) → List Value} {k ci z : Nat} (hr : ex.bind g = some r) (hc : ∀ v, ex = some v → Cal L y cy ny ry dy av X ((fun v _ => (none, none, v)) v)) (ml : MLk own idx y cy ny ry 0) (hcl : ∃ q : vw_C, vwCl[ci]? = some q ∧ q.1 = y.cls) (hs : L.2.1 k = (10 + ci, z)) (hk : k < L.1) (hci : ci < 90) (hav : av (jad κ) = [.ref (jad κ k)]) (hd : dy + 1 ≤ d) (hny : ny ≤ 20) (hst : (st.map fun v => v.category).sum ≤ 8) (dg : decode cc pc = .ok (.invokevirtual idx, 3)) (kk : ∀ v, ex = some v → g v = some r → J L n κ (v) (pc + 3) lv st) : J L n κ X pc lv (.ref (jad κ k) :: st) := by
  obtain ⟨v, h1, h2⟩ := g_bd hr
  exact j_callV K (As := []) (rv := none) (hc v h1) ml hcl hs hk hci hav rfl hd hny hst rfl dg (kk v h1 h2)
theorem j_vU1 (K : jOk n cc own ret d κ) {ex : Option (JX)} {g : JX → Option β} {av : (Nat → Nat) → List Value} {k ci z : Nat} {a1 : Value} (hr : ex.bind g = some r) (hc : ∀ v, ex = some v → Cal L y cy ny ry dy av X ((fun v _ => (none, none, v)) v)) (ml : MLk own idx y cy ny ry 1) (hcl : ∃ q : vw_C, vwCl[ci]? = some q ∧ q.1 = y.cls) (hs : L.2.1 k = (10 + ci, z)) (hk : k < L.1) (hci : ci < 90) (hav : av (jad κ) = [.ref (jad κ k), a1]) (hd : dy + 1 ≤ d) (hny : ny ≤ 20) (hst : (st.map fun v => v.category).sum ≤ 8) (dg : decode cc pc = .ok (.invokevirtual idx, 3)) (kk : ∀ v, ex = some v → g v = some r → J L n κ (v) (pc + 3) lv st) : J L n κ X pc lv (a1 :: .ref (jad κ k) :: st) := by
  obtain ⟨v, h1, h2⟩ := g_bd hr
  exact j_callV K (As := [a1]) (rv := none) (hc v h1) ml hcl hs hk hci hav rfl hd hny hst rfl dg (kk v h1 h2)
theorem j_sU1 (K : jOk n cc own ret d κ) {ex : Option (JX)} {g : JX → Option β} {av : (Nat → Nat) → List Value} {a1 : Value} (hr : ex.bind g = some r) (hc : ∀ v, ex = some v → Cal L y cy ny ry dy av X ((fun v _ => (none, none, v)) v)) (ml : MSk own idx y cy ny ry 1) (hav : av (jad κ) = [a1]) (hd : dy + 1 ≤ d) (hny : ny ≤ 20) (hst : (st.map fun v => v.category).sum ≤ 8) (dg : decode cc pc = .ok (.invokestatic idx, 3)) (kk : ∀ v, ex = some v → g v = some r → J L n κ v (pc + 3) lv st) : J L n κ X pc lv (a1 :: st) := by
  obtain ⟨v, h1, h2⟩ := g_bd hr
  exact j_callS K (As := [a1]) (rv := none) (hc v h1) ml hav rfl hd hny hst rfl dg (kk v h1 h2)
theorem j_vU2 (K : jOk n cc own ret d κ) {ex : Option (JX)} {g : JX → Option β} {av : (Nat → Nat) → List Value} {k ci z : Nat} {a1 a2 : Value} (hr : ex.bind g = some r) (hc : ∀ v, ex = some v → Cal L y cy ny ry dy av X ((fun v _ => (none, none, v)) v)) (ml : MLk own idx y cy ny ry 2) (hcl : ∃ q : vw_C, vwCl[ci]? = some q ∧ q.1 = y.cls) (hs : L.2.1 k = (10 + ci, z)) (hk : k < L.1) (hci : ci < 90) (hav : av (jad κ) = [.ref (jad κ k), a1, a2]) (hd : dy + 1 ≤ d) (hny : ny ≤ 20) (hst : (st.map fun v => v.category).sum ≤ 8) (dg : decode cc pc = .ok (.invokevirtual idx, 3)) (kk : ∀ v, ex = some v → g v = some r → J L n κ (v) (pc + 3) lv st) : J L n κ X pc lv (a2 :: a1 :: .ref (jad κ k) :: st) := by
  obtain ⟨v, h1, h2⟩ := g_bd hr
  exact j_callV K (As := [a1, a2]) (rv := none) (hc v h1) ml hcl hs hk hci hav rfl hd hny hst rfl dg (kk v h1 h2)
theorem j_sU2 (K : jOk n cc own ret d κ) {ex : Option (JX)} {g : JX → Option β} {av : (Nat → Nat) → List Value} {a1 a2 : Value} (hr : ex.bind g = some r) (hc : ∀ v, ex = some v → Cal L y cy ny ry dy av X ((fun v _ => (none, none, v)) v)) (ml : MSk own idx y cy ny ry 2) (hav : av (jad κ) = [a1, a2]) (hd : dy + 1 ≤ d) (hny : ny ≤ 20) (hst : (st.map fun v => v.category).sum ≤ 8) (dg : decode cc pc = .ok (.invokestatic idx, 3)) (kk : ∀ v, ex = some v → g v = some r → J L n κ v (pc + 3) lv st) : J L n κ X pc lv (a2 :: a1 :: st) := by
  obtain ⟨v, h1, h2⟩ := g_bd hr
  exact j_callS K (As := [a1, a2]) (rv := none) (hc v h1) ml hav rfl hd hny hst rfl dg (kk v h1 h2)
theorem j_vU3 (K : jOk n cc own ret d κ) {ex : Option (JX)} {g : JX → Option β} {av : (Nat → Nat) → List Value} {k ci z : Nat} {a1 a2 a3 : Value} (hr : ex.bind g = some r) (hc : ∀ v, ex = some v → Cal L y cy ny ry dy av X ((fun v _ => (none, none, v)) v)) (ml : MLk own idx y cy ny ry 3) (hcl : ∃ q : vw_C, vwCl[ci]? = some q ∧ q.1 = y.cls) (hs : L.2.1 k = (10 + ci, z)) (hk : k < L.1) (hci : ci < 90) (hav : av (jad κ) = [.ref (jad κ k), a1, a2, a3]) (hd : dy + 1 ≤ d) (hny : ny ≤ 20) (hst : (st.map fun v => v.category).sum ≤ 8) (dg : decode cc pc = .ok (.invokevirtual idx, 3)) (kk : ∀ v, ex = some v → g v = some r → J L n κ (v) (pc + 3) lv st) : J L n κ X pc lv (a3 :: a2 :: a1 :: .ref (jad κ k) :: st) := by
  obtain ⟨v, h1, h2⟩ := g_bd hr
  exact j_callV K (As := [a1, a2, a3]) (rv := none) (hc v h1) ml hcl hs hk hci hav rfl hd hny hst rfl dg (kk v h1 h2)
theorem j_sU3 (K : jOk n cc own ret d κ) {ex : Option (JX)} {g : JX → Option β} {av : (Nat → Nat) → List Value} {a1 a2 a3 : Value} (hr : ex.bind g = some r) (hc : ∀ v, ex = some v → Cal L y cy ny ry dy av X ((fun v _ => (none, none, v)) v)) (ml : MSk own idx y cy ny ry 3) (hav : av (jad κ) = [a1, a2, a3]) (hd : dy + 1 ≤ d) (hny : ny ≤ 20) (hst : (st.map fun v => v.category).sum ≤ 8) (dg : decode cc pc = .ok (.invokestatic idx, 3)) (kk : ∀ v, ex = some v → g v = some r → J L n κ v (pc + 3) lv st) : J L n κ X pc lv (a3 :: a2 :: a1 :: st) := by
  obtain ⟨v, h1, h2⟩ := g_bd hr
  exact j_callS K (As := [a1, a2, a3]) (rv := none) (hc v h1) ml hav rfl hd hny hst rfl dg (kk v h1 h2)
theorem j_vU4 (K : jOk n cc own ret d κ) {ex : Option (JX)} {g : JX → Option β} {av : (Nat → Nat) → List Value} {k ci z : Nat} {a1 a2 a3 a4 : Value} (hr : ex.bind g = some r) (hc : ∀ v, ex = some v → Cal L y cy ny ry dy av X ((fun v _ => (none, none, v)) v)) (ml : MLk own idx y cy ny ry 4) (hcl : ∃ q : vw_C, vwCl[ci]? = some q ∧ q.1 = y.cls) (hs : L.2.1 k = (10 + ci, z)) (hk : k < L.1) (hci : ci < 90) (hav : av (jad κ) = [.ref (jad κ k), a1, a2, a3, a4]) (hd : dy + 1 ≤ d) (hny : ny ≤ 20) (hst : (st.map fun v => v.category).sum ≤ 8) (dg : decode cc pc = .ok (.invokevirtual idx, 3)) (kk : ∀ v, ex = some v → g v = some r → J L n κ (v) (pc + 3) lv st) : J L n κ X pc lv (a4 :: a3 :: a2 :: a1 :: .ref (jad κ k) :: st) := by
  obtain ⟨v, h1, h2⟩ := g_bd hr
  exact j_callV K (As := [a1, a2, a3, a4]) (rv := none) (hc v h1) ml hcl hs hk hci hav rfl hd hny hst rfl dg (kk v h1 h2)
theorem j_sU4 (K : jOk n cc own ret d κ) {ex : Option (JX)} {g : JX → Option β} {av : (Nat → Nat) → List Value} {a1 a2 a3 a4 : Value} (hr : ex.bind g = some r) (hc : ∀ v, ex = some v → Cal L y cy ny ry dy av X ((fun v _ => (none, none, v)) v)) (ml : MSk own idx y cy ny ry 4) (hav : av (jad κ) = [a1, a2, a3, a4]) (hd : dy + 1 ≤ d) (hny : ny ≤ 20) (hst : (st.map fun v => v.category).sum ≤ 8) (dg : decode cc pc = .ok (.invokestatic idx, 3)) (kk : ∀ v, ex = some v → g v = some r → J L n κ v (pc + 3) lv st) : J L n κ X pc lv (a4 :: a3 :: a2 :: a1 :: st) := by
  obtain ⟨v, h1, h2⟩ := g_bd hr
  exact j_callS K (As := [a1, a2, a3, a4]) (rv := none) (hc v h1) ml hav rfl hd hny hst rfl dg (kk v h1 h2)
theorem j_vU5 (K : jOk n cc own ret d κ) {ex : Option (JX)} {g : JX → Option β} {av : (Nat → Nat) → List Value} {k ci z : Nat} {a1 a2 a3 a4 a5 : Value} (hr : ex.bind g = some r) (hc : ∀ v, ex = some v → Cal L y cy ny ry dy av X ((fun v _ => (none, none, v)) v)) (ml : MLk own idx y cy ny ry 5) (hcl : ∃ q : vw_C, vwCl[ci]? = some q ∧ q.1 = y.cls) (hs : L.2.1 k = (10 + ci, z)) (hk : k < L.1) (hci : ci < 90) (hav : av (jad κ) = [.ref (jad κ k), a1, a2, a3, a4, a5]) (hd : dy + 1 ≤ d) (hny : ny ≤ 20) (hst : (st.map fun v => v.category).sum ≤ 8) (dg : decode cc pc = .ok (.invokevirtual idx, 3)) (kk : ∀ v, ex = some v → g v = some r → J L n κ (v) (pc + 3) lv st) : J L n κ X pc lv (a5 :: a4 :: a3 :: a2 :: a1 :: .ref (jad κ k) :: st) := by
  obtain ⟨v, h1, h2⟩ := g_bd hr
  exact j_callV K (As := [a1, a2, a3, a4, a5]) (rv := none) (hc v h1) ml hcl hs hk hci hav rfl hd hny hst rfl dg (kk v h1 h2)
theorem j_sU5 (K : jOk n cc own ret d κ) {ex : Option (JX)} {g : JX → Option β} {av : (Nat → Nat) → List Value} {a1 a2 a3 a4 a5 : Value} (hr : ex.bind g = some r) (hc : ∀ v, ex = some v → Cal L y cy ny ry dy av X ((fun v _ => (none, none, v)) v)) (ml : MSk own idx y cy ny ry 5) (hav : av (jad κ) = [a1, a2, a3, a4, a5]) (hd : dy + 1 ≤ d) (hny : ny ≤ 20) (hst : (st.map fun v => v.category).sum ≤ 8) (dg : decode cc pc = .ok (.invokestatic idx, 3)) (kk : ∀ v, ex = some v → g v = some r → J L n κ v (pc + 3) lv st) : J L n κ X pc lv (a5 :: a4 :: a3 :: a2 :: a1 :: st) := by
  obtain ⟨v, h1, h2⟩ := g_bd hr
  exact j_callS K (As := [a1, a2, a3, a4, a5]) (rv := none) (hc v h1) ml hav rfl hd hny hst rfl dg (kk v h1 h2)
theorem j_vR0 (K : jOk n cc own ret d κ) {ex : Option (Nat)} {g : Nat → Option β} {av : (Nat → Nat) → List Value} {k ci z : Nat} (hr : ex.bind g = some r) (hc : ∀ v, ex = some v → Cal L y cy ny ry dy av X ((fun v ad => (none, some (.ref (ad v)), X)) v)) (ml : MLk own idx y cy ny ry 0) (hcl : ∃ q : vw_C, vwCl[ci]? = some q ∧ q.1 = y.cls) (hs : L.2.1 k = (10 + ci, z)) (hk : k < L.1) (hci : ci < 90) (hav : av (jad κ) = [.ref (jad κ k)]) (hd : dy + 1 ≤ d) (hny : ny ≤ 20) (hst : (st.map fun v => v.category).sum ≤ 8) (dg : decode cc pc = .ok (.invokevirtual idx, 3)) (kk : ∀ v, ex = some v → g v = some r → J L n κ X (pc + 3) lv (.ref (jad κ v) :: st)) : J L n κ X pc lv (.ref (jad κ k) :: st) := by
  obtain ⟨v, h1, h2⟩ := g_bd hr
  exact j_callV K (As := []) (rv := some (.ref (jad κ v))) (hc v h1) ml hcl hs hk hci hav rfl hd hny hst rfl dg (kk v h1 h2)
theorem j_vR1 (K : jOk n cc own ret d κ) {ex : Option (Nat)} {g : Nat → Option β} {av : (Nat → Nat) → List Value} {k ci z : Nat} {a1 : Value} (hr : ex.bind g = some r) (hc : ∀ v, ex = some v → Cal L y cy ny ry dy av X ((fun v ad => (none, some (.ref (ad v)), X)) v)) (ml : MLk own idx y cy ny ry 1) (hcl : ∃ q : vw_C, vwCl[ci]? = some q ∧ q.1 = y.cls) (hs : L.2.1 k = (10 + ci, z)) (hk : k < L.1) (hci : ci < 90) (hav : av (jad κ) = [.ref (jad κ k), a1]) (hd : dy + 1 ≤ d) (hny : ny ≤ 20) (hst : (st.map fun v => v.category).sum ≤ 8) (dg : decode cc pc = .ok (.invokevirtual idx, 3)) (kk : ∀ v, ex = some v → g v = some r → J L n κ X (pc + 3) lv (.ref (jad κ v) :: st)) : J L n κ X pc lv (a1 :: .ref (jad κ k) :: st) := by
  obtain ⟨v, h1, h2⟩ := g_bd hr
  exact j_callV K (As := [a1]) (rv := some (.ref (jad κ v))) (hc v h1) ml hcl hs hk hci hav rfl hd hny hst rfl dg (kk v h1 h2)
theorem j_vR2 (K : jOk n cc own ret d κ) {ex : Option (Nat)} {g : Nat → Option β} {av : (Nat → Nat) → List Value} {k ci z : Nat} {a1 a2 : Value} (hr : ex.bind g = some r) (hc : ∀ v, ex = some v → Cal L y cy ny ry dy av X ((fun v ad => (none, some (.ref (ad v)), X)) v)) (ml : MLk own idx y cy ny ry 2) (hcl : ∃ q : vw_C, vwCl[ci]? = some q ∧ q.1 = y.cls) (hs : L.2.1 k = (10 + ci, z)) (hk : k < L.1) (hci : ci < 90) (hav : av (jad κ) = [.ref (jad κ k), a1, a2]) (hd : dy + 1 ≤ d) (hny : ny ≤ 20) (hst : (st.map fun v => v.category).sum ≤ 8) (dg : decode cc pc = .ok (.invokevirtual idx, 3)) (kk : ∀ v, ex = some v → g v = some r → J L n κ X (pc + 3) lv (.ref (jad κ v) :: st)) : J L n κ X pc lv (a2 :: a1 :: .ref (jad κ k) :: st) := by
  obtain ⟨v, h1, h2⟩ := g_bd hr
  exact j_callV K (As := [a1, a2]) (rv := some (.ref (jad κ v))) (hc v h1) ml hcl hs hk hci hav rfl hd hny hst rfl dg (kk v h1 h2)
theorem j_vR3 (K : jOk n cc own ret d κ) {ex : Option (Nat)} {g : Nat → Option β} {av : (Nat → Nat) → List Value} {k ci z : Nat} {a1 a2 a3 : Value} (hr : ex.bind g = some r) (hc : ∀ v, ex = some v → Cal L y cy ny ry dy av X ((fun v ad => (none, some (.ref (ad v)), X)) v)) (ml : MLk own idx y cy ny ry 3) (hcl : ∃ q : vw_C, vwCl[ci]? = some q ∧ q.1 = y.cls) (hs : L.2.1 k = (10 + ci, z)) (hk : k < L.1) (hci : ci < 90) (hav : av (jad κ) = [.ref (jad κ k), a1, a2, a3]) (hd : dy + 1 ≤ d) (hny : ny ≤ 20) (hst : (st.map fun v => v.category).sum ≤ 8) (dg : decode cc pc = .ok (.invokevirtual idx, 3)) (kk : ∀ v, ex = some v → g v = some r → J L n κ X (pc + 3) lv (.ref (jad κ v) :: st)) : J L n κ X pc lv (a3 :: a2 :: a1 :: .ref (jad κ k) :: st) := by
  obtain ⟨v, h1, h2⟩ := g_bd hr
  exact j_callV K (As := [a1, a2, a3]) (rv := some (.ref (jad κ v))) (hc v h1) ml hcl hs hk hci hav rfl hd hny hst rfl dg (kk v h1 h2)
theorem j_vR4 (K : jOk n cc own ret d κ) {ex : Option (Nat)} {g : Nat → Option β} {av : (Nat → Nat) → List Value} {k ci z : Nat} {a1 a2 a3 a4 : Value} (hr : ex.bind g = some r) (hc : ∀ v, ex = some v → Cal L y cy ny ry dy av X ((fun v ad => (none, some (.ref (ad v)), X)) v)) (ml : MLk own idx y cy ny ry 4) (hcl : ∃ q : vw_C, vwCl[ci]? = some q ∧ q.1 = y.cls) (hs : L.2.1 k = (10 + ci, z)) (hk : k < L.1) (hci : ci < 90) (hav : av (jad κ) = [.ref (jad κ k), a1, a2, a3, a4]) (hd : dy + 1 ≤ d) (hny : ny ≤ 20) (hst : (st.map fun v => v.category).sum ≤ 8) (dg : decode cc pc = .ok (.invokevirtual idx, 3)) (kk : ∀ v, ex = some v → g v = some r → J L n κ X (pc + 3) lv (.ref (jad κ v) :: st)) : J L n κ X pc lv (a4 :: a3 :: a2 :: a1 :: .ref (jad κ k) :: st) := by
  obtain ⟨v, h1, h2⟩ := g_bd hr
  exact j_callV K (As := [a1, a2, a3, a4]) (rv := some (.ref (jad κ v))) (hc v h1) ml hcl hs hk hci hav rfl hd hny hst rfl dg (kk v h1 h2)
theorem j_vR5 (K : jOk n cc own ret d κ) {ex : Option (Nat)} {g : Nat → Option β} {av : (Nat → Nat) → List Value} {k ci z : Nat} {a1 a2 a3 a4 a5 : Value} (hr : ex.bind g = some r) (hc : ∀ v, ex = some v → Cal L y cy ny ry dy av X ((fun v ad => (none, some (.ref (ad v)), X)) v)) (ml : MLk own idx y cy ny ry 5) (hcl : ∃ q : vw_C, vwCl[ci]? = some q ∧ q.1 = y.cls) (hs : L.2.1 k = (10 + ci, z)) (hk : k < L.1) (hci : ci < 90) (hav : av (jad κ) = [.ref (jad κ k), a1, a2, a3, a4, a5]) (hd : dy + 1 ≤ d) (hny : ny ≤ 20) (hst : (st.map fun v => v.category).sum ≤ 8) (dg : decode cc pc = .ok (.invokevirtual idx, 3)) (kk : ∀ v, ex = some v → g v = some r → J L n κ X (pc + 3) lv (.ref (jad κ v) :: st)) : J L n κ X pc lv (a5 :: a4 :: a3 :: a2 :: a1 :: .ref (jad κ k) :: st) := by
  obtain ⟨v, h1, h2⟩ := g_bd hr
  exact j_callV K (As := [a1, a2, a3, a4, a5]) (rv := some (.ref (jad κ v))) (hc v h1) ml hcl hs hk hci hav rfl hd hny hst rfl dg (kk v h1 h2)
/-- none or a cell: by cases -/
def oC {α : Type} (o : Option Nat) (a : α) (b : Nat → α) : α := match o with
  | none => a
  | some q => b q
theorem j_vO0 (K : jOk n cc own ret d κ) {ex : Option (Option Nat)} {g1 : Option β} {g2 : Nat → Option β} {av : (Nat → Nat) → List Value} {k ci z : Nat} (hr : ex.bind (fun o => oC o g1 g2) = some r) (hc : ∀ v, ex = some v → Cal L y cy ny ry dy av X (fun ad => (none, some (va_rf (v.map ad)), X))) (ml : MLk own idx y cy ny ry 0) (hcl : ∃ q : vw_C, vwCl[ci]? = some q ∧ q.1 = y.cls) (hs : L.2.1 k = (10 + ci, z)) (hk : k < L.1) (hci : ci < 90) (hav : av (jad κ) = [.ref (jad κ k)]) (hd : dy + 1 ≤ d) (hny : ny ≤ 20) (hst : (st.map fun v => v.category).sum ≤ 8) (dg : decode cc pc = .ok (.invokevirtual idx, 3)) (k1 : ex = some none → g1 = some r → J L n κ X (pc + 3) lv (.null :: st)) (k2 : ∀ q, ex = some (some q) → g2 q = some r → J L n κ X (pc + 3) lv (.ref (jad κ q) :: st)) : J L n κ X pc lv (.ref (jad κ k) :: st) := by
  obtain ⟨v, h1, h2⟩ := g_bd hr
  cases v with
  | none => exact j_callV K (As := []) (rv := some .null) (hc none h1) ml hcl hs hk hci hav rfl hd hny hst rfl dg (k1 h1 h2)
  | some q => exact j_callV K (As := []) (rv := some (.ref (jad κ q))) (hc (some q) h1) ml hcl hs hk hci hav rfl hd hny hst rfl dg (k2 q h1 h2)
theorem j_vO1 (K : jOk n cc own ret d κ) {ex : Option (Option Nat)} {g1 : Option β} {g2 : Nat → Option β} {av : (Nat → Nat) → List Value} {k ci z : Nat} {a1 : Value} (hr : ex.bind (fun o => oC o g1 g2) = some r) (hc : ∀ v, ex = some v → Cal L y cy ny ry dy av X (fun ad => (none, some (va_rf (v.map ad)), X))) (ml : MLk own idx y cy ny ry 1) (hcl : ∃ q : vw_C, vwCl[ci]? = some q ∧ q.1 = y.cls) (hs : L.2.1 k = (10 + ci, z)) (hk : k < L.1) (hci : ci < 90) (hav : av (jad κ) = [.ref (jad κ k), a1]) (hd : dy + 1 ≤ d) (hny : ny ≤ 20) (hst : (st.map fun v => v.category).sum ≤ 8) (dg : decode cc pc = .ok (.invokevirtual idx, 3)) (k1 : ex = some none → g1 = some r → J L n κ X (pc + 3) lv (.null :: st)) (k2 : ∀ q, ex = some (some q) → g2 q = some r → J L n κ X (pc + 3) lv (.ref (jad κ q) :: st)) : J L n κ X pc lv (a1 :: .ref (jad κ k) :: st) := by
  obtain ⟨v, h1, h2⟩ := g_bd hr
  cases v with
  | none => exact j_callV K (As := [a1]) (rv := some .null) (hc none h1) ml hcl hs hk hci hav rfl hd hny hst rfl dg (k1 h1 h2)
  | some q => exact j_callV K (As := [a1]) (rv := some (.ref (jad κ q))) (hc (some q) h1) ml hcl hs hk hci hav rfl hd hny hst rfl dg (k2 q h1 h2)
theorem j_vO2 (K : jOk n cc own ret d κ) {ex : Option (Option Nat)} {g1 : Option β} {g2 : Nat → Option β} {av : (Nat → Nat) → List Value} {k ci z : Nat} {a1 a2 : Value} (hr : ex.bind (fun o => oC o g1 g2) = some r) (hc : ∀ v, ex = some v → Cal L y cy ny ry dy av X (fun ad => (none, some (va_rf (v.map ad)), X))) (ml : MLk own idx y cy ny ry 2) (hcl : ∃ q : vw_C, vwCl[ci]? = some q ∧ q.1 = y.cls) (hs : L.2.1 k = (10 + ci, z)) (hk : k < L.1) (hci : ci < 90) (hav : av (jad κ) = [.ref (jad κ k), a1, a2]) (hd : dy + 1 ≤ d) (hny : ny ≤ 20) (hst : (st.map fun v => v.category).sum ≤ 8) (dg : decode cc pc = .ok (.invokevirtual idx, 3)) (k1 : ex = some none → g1 = some r → J L n κ X (pc + 3) lv (.null :: st)) (k2 : ∀ q, ex = some (some q) → g2 q = some r → J L n κ X (pc + 3) lv (.ref (jad κ q) :: st)) : J L n κ X pc lv (a2 :: a1 :: .ref (jad κ k) :: st) := by
  obtain ⟨v, h1, h2⟩ := g_bd hr
  cases v with
  | none => exact j_callV K (As := [a1, a2]) (rv := some .null) (hc none h1) ml hcl hs hk hci hav rfl hd hny hst rfl dg (k1 h1 h2)
  | some q => exact j_callV K (As := [a1, a2]) (rv := some (.ref (jad κ q))) (hc (some q) h1) ml hcl hs hk hci hav rfl hd hny hst rfl dg (k2 q h1 h2)
theorem j_throw (K : jOk n cc own ret d κ) {ik is ic k : Nat} {tx : String} {out : β → JE} {ρ : β} (th : THk ik ic k) (hs9 : (is, tx) ∈ strL) (ho9 : own = "SearchKeeper") (d0 : decode cc pc = .ok (.new ik, 3)) (d3 : decode cc (pc + 3) = .ok (.dup, 1)) (d4 : decode cc (pc + 4) = .ok (.ldc is, 2)) (d6 : decode cc (pc + 6) = .ok (.invokespecial ic, 3)) (d9 : decode cc (pc + 9) = .ok (.athrow, 1)) (hst : (st.map fun v => v.category).sum ≤ 8) (hd6 : 6 ≤ d) (F : jFin L true (out r) κ) (hr : some ρ = some r) (ho : out ρ = (some k, some (.int 0), X)) : J L n κ X pc lv st := by
  obtain ⟨p, l, e, R, s, m, args, below, meth, c, D, A, ad, cA, rs, Q⟩ := κ
  obtain ⟨hx, hb, hml, hown, hts, hr0, hlk, hK, hA, hfr, hlo, hN⟩ := K
  intro H locs ls hP hD hS hl
  cases hr
  rw [ho] at F
  obtain ⟨hk, t1, t2, t3, t4, t5, t6⟩ := th
  subst ho9
  obtain ⟨hQ, hc1, hs1, hfl, hH, htab⟩ := (show Q = _ ∧ _ from F)
  obtain ⟨sa, hsa⟩ := hN.2.2.2.2.2 _ hs9
  rw [hQ]
  refine vx_throwS hx hb hfl (own := "SearchKeeper") (cls := excN k) (text := tx) (names := exNames) (ik := ik) (is := is) (ic := ic) (sa := sa) (A := A) hown t6 (by decide +kernel) (hts _ t1) (hts _ t2) hsa (vx_hat (fun w hw => hts w (t3 w hw)) t4 (exB_h hk hN)) t5 hH.1 hH.2 hS (hl.1.trans hml.symm) d0 d3 d4 d6 d9 (fun x h => (htab x h).elim) ?_ ?_ hc1 hs1 hlk ?_ hS.2.2 (Nat.le_refl _) (Nat.le_refl _)
  · show 2 + 3 < R.frames; omega
  · show (st.map fun v => v.category).sum + (13 * (2 + 1) + 43) ≤ R.locals; omega
  · intro t ht1 ht2 ht3
    refine ⟨⟨k, rfl, rfl⟩, hP.kept (fun j q hq => ht3 q.1 ((hP j q hq).lt)), Nat.le_trans hS.1 ht2, fun q h1 h2 => ?_⟩
    rw [ht3 q (Nat.lt_of_lt_of_le h1 hS.1)]
    exact hS.2.1 q h1 h2
theorem j_throwW (K : jOk n cc own ret d κ) {ik is ic k : Nat} {tx : String} {out : β → JE} {ρ : β} (th : THk ik ic k) (hs9 : (is, tx) ∈ strL) (ho9 : own = "SearchKeeper") (d0 : decode cc pc = .ok (.new ik, 3)) (d3 : decode cc (pc + 3) = .ok (.dup, 1)) (d4 : decode cc (pc + 4) = .ok (.ldc_w is, 3)) (d6 : decode cc (pc + 7) = .ok (.invokespecial ic, 3)) (d9 : decode cc (pc + 10) = .ok (.athrow, 1)) (hst : (st.map fun v => v.category).sum ≤ 8) (hd6 : 6 ≤ d) (F : jFin L true (out r) κ) (hr : some ρ = some r) (ho : out ρ = (some k, some (.int 0), X)) : J L n κ X pc lv st := by
  obtain ⟨p, l, e, R, s, m, args, below, meth, c, D, A, ad, cA, rs, Q⟩ := κ
  obtain ⟨hx, hb, hml, hown, hts, hr0, hlk, hK, hA, hfr, hlo, hN⟩ := K
  intro H locs ls hP hD hS hl
  cases hr
  rw [ho] at F
  obtain ⟨hk, t1, t2, t3, t4, t5, t6⟩ := th
  subst ho9
  obtain ⟨hQ, hc1, hs1, hfl, hH, htab⟩ := (show Q = _ ∧ _ from F)
  obtain ⟨sa, hsa⟩ := hN.2.2.2.2.2 _ hs9
  rw [hQ]
  refine vx_throwSW hx hb hfl (own := "SearchKeeper") (cls := excN k) (text := tx) (names := exNames) (ik := ik) (is := is) (ic := ic) (sa := sa) (A := A) hown t6 (by decide +kernel) (hts _ t1) (hts _ t2) hsa (vx_hat (fun w hw => hts w (t3 w hw)) t4 (exB_h hk hN)) t5 hH.1 hH.2 hS (hl.1.trans hml.symm) d0 d3 d4 d6 d9 (fun x h => (htab x h).elim) ?_ ?_ hc1 hs1 hlk ?_ hS.2.2 (Nat.le_refl _) (Nat.le_refl _)
  · show 2 + 3 < R.frames; omega
  · show (st.map fun v => v.category).sum + (13 * (2 + 1) + 43) ≤ R.locals; omega
  · intro t ht1 ht2 ht3
    refine ⟨⟨k, rfl, rfl⟩, hP.kept (fun j q hq => ht3 q.1 ((hP j q hq).lt)), Nat.le_trans hS.1 ht2, fun q h1 h2 => ?_⟩
    rw [ht3 q (Nat.lt_of_lt_of_le h1 hS.1)]
    exact hS.2.1 q h1 h2
end JV


/-! ===== which handler takes an exception: its place, from 1; 0 where there is none ===== -/
def wcAt : List Nat → Nat → Int32 → Option Int32
  | [], _, _ => none
  | a :: t, k, i => if k = a then some i else wcAt t k (i + 1)
def wc (hs : List Nat) (e : Option Nat) : Option Int32 := match e with
  | none => some 0
  | some k => wcAt hs k 1
abbrev lC (o : Nat) (cA : Nat → ClassId) (g : Nat → Int64) : Nat × va_E := (o, .inl (cA 5, (1, .inr (.inl g))))
def wO (ad : Nat → Nat) (cA : Nat → ClassId) (o : Nat) (rs : va_W) (X : JX) (g : Nat → Int64) : va_W := wZ LX ad cA X ++ (lC o cA g :: rs)
def jPcW (D : va_G) (cA : Nat → ClassId) (ws : va_W) (sz : Nat) (av : List Value) : Array Value → State → Prop := va_Pc av (fun U => U.heap.size = sz ∧ va_P D vwCl ws U.heap ∧ va_K D vwCl (jTy cA) U ∧ va_D (fun _ => True) ws ∧ jN U ∧ jH (va_A ws sz) U)
def jQw (D : va_G) (A : Nat → Prop) (ws : va_W) (v : Int32) : Array Value → State → Outcome → State → Prop := fun _ st oc t => (oc = .returned (some (.int v)) ∧ va_P D vwCl ws t.heap) ∧ va_F A st t
def jFw (ws : va_W) (v : Int32) (hh : List (Nat × Nat × Nat × Nat)) (κ : JK) : Prop := match κ with
  | (_, l, _, R, s, _, args, below, _, c, D, A, _, _, _, Q) => Q = MQ below (jQw D A ws v) args s 1 6 A ∧ 1 ≤ R.cells ∧ 6 ≤ R.slots ∧ l.stackTraces = false ∧ jH A s ∧ c.exceptionTable.toList = tableOf hh
def jRl (κ : JK) : Prop := match κ with
  | (_, l, _, R, s, _, _, _, _, _, _, A, _, _, _, _) => 601024 ≤ R.cells ∧ 7293034 ≤ R.slots ∧ l.stackTraces = false ∧ jH A s
/-- the script, where the law reads it -/
def jSc (b Ln : Nat) (xs : Nat → Int32) (κ : JK) : Prop := match κ with
  | (_, _, _, _, s, _, _, _, _, _, _, A, _, _, _, _) => va_X b Ln xs s s.heap ∧ b < s.heap.size ∧ ¬ A b
def CalW (y : MethodName) (cy : ByteArray) (ny : Nat) (hh : List (Nat × Nat × Nat × Nat)) (dy : Nat) (As : List Value) (X X' : JX) (g g' : Nat → Int64) (v : Int32) : Prop :=
  ∀ (l : Launch), l.stackTraces = false → ∀ (D : va_G) (ad : Nat → Nat) (cA : Nat → ClassId) (o : Nat) (rs : va_W) (sz : Nat), Met l y (.codeWith y cy ny (some .int) hh :: gTbl) (jRm dy 1 6) (jPcW D cA (wO ad cA o rs X g) sz (.ref (ad 0) :: (As ++ [.ref o]))) (jQw D (va_A (wO ad cA o rs X g) sz) (wO ad cA o rs X' g') v) 1 6 (va_A (wO ad cA o rs X g) sz)
theorem CalW.of {y : MethodName} {cy : ByteArray} {ny : Nat} {hh : List (Nat × Nat × Nat × Nat)} {dy : Nat} {As : List Value} {X X' : JX} {g g' : Nat → Int64} {v : Int32} {own : String} (lv : (Nat → Nat) → Nat → List (Nat × Value)) (hy : plainName y.cls = true) (ho : y.cls = own) (hlen : ∀ (ad : Nat → Nat) (o : Nat), (lg_sl (.ref (ad 0) :: (As ++ [.ref o]))).length ≤ ny) (hlv : ∀ (ad : Nat → Nat) (o : Nat), lv_args 0 (.ref (ad 0) :: (As ++ [.ref o])) = lv ad o)
    (k : ∀ (κ : JK) (ad : Nat → Nat) (o : Nat) (rs : va_W), jOk ny cy own (some .int) dy κ → jFw (wO ad (jcA κ) o rs X' g') v hh κ → JC ny κ 0 0 (wO ad (jcA κ) o rs X g) 0 (lv ad o) []) : CalW y cy ny hh dy As X X' g g' v := by
  intro l hfl D ad cA o rs sz
  refine va_MetW (cc := cy) (maxL := ny) (ret := some .int) (hh := hh) hy rfl ?_
  intro p e s m args below meth c s₁ B hml hv
  obtain ⟨rfl, hsz, hP, hK, hD0, hN, hH⟩ := hv
  have hx := B.exec
  have hb := B.bytes
  have hr := B.returns
  have hts := atoms_spec (ws := Cond.codeWith y cy ny (some .int) hh :: gTbl) B.pre
  have htab := vx_table (x := y) B (hts _ List.mem_cons_self)
  have hown : s.vm.findClass own = some m.cls := by rw [← ho]; exact findClass_of_methodNamed B.named
  have hlocks := B.notSynchronized
  subst hsz
  have hA : ∀ q : Nat, s.heap.size ≤ q → (va_A (wO ad cA o rs X g) s.heap.size) q := fun q h => Or.inr h
  have hl := lv_entry (.ref (ad 0) :: (As ++ [.ref o])) (n := ny) (hlen ad o)
  rw [lg_entry_eq]
  have h := k (p, l, e, (headSpec (Cond.codeWith y cy ny (some .int) hh :: gTbl) (jRm dy 1 6)).room, s, m, (.ref (ad 0) :: (As ++ [.ref o])).toArray, below, meth, c, D, va_A (wO ad cA o rs X g) s.heap.size, ad, cA, rs, MQ below (jQw D (va_A (wO ad cA o rs X g) s.heap.size) (wO ad cA o rs X' g') v) (.ref (ad 0) :: (As ++ [.ref o])).toArray s 1 6 (va_A (wO ad cA o rs X g) s.heap.size)) ad o rs
    ⟨hx, hb, hml, hown, fun w hw => hts w (List.mem_cons_of_mem _ hw), hr, hlocks, hK, hA, Nat.le_refl _, Nat.le_refl _, hN⟩ ⟨rfl, Nat.le_refl _, Nat.le_refl _, hfl, hH, htab⟩
  rw [hlv ad o] at hl
  exact h s.heap [] _ hP hD0.self va_S.rf hl
theorem jH_at {A : Nat → Prop} {s U : State} {H : Heap} {ws : va_W} {locs : List Loc} (hH : jH A s) (hS : va_S A s.heap H locs) (hsub : ∀ q, va_A ws H.size q → A q) (hvm : s.vm.Alike U.vm) (hU : U.heap = H) : jH (va_A ws H.size) U := by
  subst hU
  exact ⟨(vx_Zq.moved hvm (vx_Zq.kept hH.1 hS.2.1)).narrow hsub, (vx_Zq.moved hvm (vx_Zq.kept hH.2 hS.2.1)).narrow hsub⟩
theorem jPcX_blind {L : Lay} {D : va_G} {ad : Nat → Nat} {cA : Nat → ClassId} {rs : va_W} {X : JX} {sz : Nat} {av : List Value} : FrameBlind (jPcX L D ad cA rs X sz av) := fun a U g mk q => by
  obtain ⟨q0, q1, qP, qK, qD, qN, qH⟩ := q
  exact ⟨q0, q1, qP, va_K.moved (u := U) (U := U.calling g mk a) (Vm.Alike.refl U.vm) qK, qD, jN.same (u := U) (U := U.calling g mk a) rfl qN, ⟨vx_Zq.moved (u := U) (U := U.calling g mk a) (Vm.Alike.refl U.vm) qH.1, vx_Zq.moved (u := U) (U := U.calling g mk a) (Vm.Alike.refl U.vm) qH.2⟩⟩
theorem jPcW_blind {D : va_G} {cA : Nat → ClassId} {ws : va_W} {sz : Nat} {av : List Value} : FrameBlind (jPcW D cA ws sz av) := fun a U g mk q => by
  obtain ⟨q0, q1, qP, qK, qD, qN, qH⟩ := q
  exact ⟨q0, q1, qP, va_K.moved (u := U) (U := U.calling g mk a) (Vm.Alike.refl U.vm) qK, qD, jN.same (u := U) (U := U.calling g mk a) rfl qN, ⟨vx_Zq.moved (u := U) (U := U.calling g mk a) (Vm.Alike.refl U.vm) qH.1, vx_Zq.moved (u := U) (U := U.calling g mk a) (Vm.Alike.refl U.vm) qH.2⟩⟩
section JL0
variable {p : Program} {l : Launch} {e : Env} {R : Room} {s : State} {m : MethodId} {args : Array Value} {below : List Frame} {meth : Method} {c : Code} {H : Heap} {locs : List Loc} {cells slots : Nat} {Q : State → Prop}
variable {pc : Nat} {ls : Array Slot} {rest st0 : List Value} {a : Array Value} {A0 A1 : Nat → Prop} {H0 : Heap} {mc ms : Nat} {free : Addr → Prop}
theorem w_callX {Qa : State → Outcome → State → Prop} {XC : String → State → State → Prop} {rv : Option Value} {P : Heap → Prop} {PX : String → Heap → Prop} (hr : vx_Run p l e R s m args below meth c H locs cells slots mc ms (F0 m pc ls st0) rest Qa XC free) (hq : ∀ (st : State) (v : Option Value) (t : State), Qa st (.returned v) t → v = rv ∧ P t.heap ∧ va_F A1 st t) (hxc : ∀ (E : String) (st t : State), XC E st t → PX E t.heap ∧ va_F A1 st t) (hS : va_S A0 H0 H locs) (hA : ∀ q, q < H.size → A1 q → A0 q) (hf : ∀ q, free q → A0 q)
    (kx : ∀ (E : String) (ce : Cell) (q9 : Addr) (H1 : Heap) (locs1 : List Loc), PX E H1 → va_S A0 H0 H1 locs1 → H1[q9]? = some ce → ce.vm = .none → s.vm.findClass E = some ce.cls → vx_W p l e R s m args below meth c H1 locs1 (cells + mc) (slots + ms) Q (F0 m pc ls rest) q9)
    (kk : ∀ (H1 : Heap) (locs1 : List Loc), P H1 → va_S A0 H0 H1 locs1 → W p l e R s m args below meth c H1 locs1 (cells + mc) (slots + ms) Q (F0 m (pc + 3) ls (rv.toList ++ rest))) : W p l e R s m args below meth c H locs cells slots Q (F0 m pc ls st0) := by
  intro T hT X
  rcases hr T hT X with ⟨v, st₀, t, T', L, h0, X', hL, e1, e2, hqa, st⟩ | ⟨q, st₀, t, T', L, E, ce, h0, X', hL, e1, e2, hqa, hce, hcv, hcl, st⟩
  · obtain ⟨rfl, hp, hF⟩ := hq _ _ _ hqa
    obtain ⟨k1, k2, k3⟩ := vx_keep h0 e1 hS hA hf hL hF
    obtain ⟨t2, a1, b1⟩ := kk T'.heap (locs ++ L) (by rw [e1]; exact hp) k3 T' rfl X'
    exact ⟨t2, st t2 a1, b1⟩
  · obtain ⟨hp, hF⟩ := hxc _ _ _ hqa
    obtain ⟨k1, k2, k3⟩ := vx_keep h0 e1 hS hA hf hL hF
    obtain ⟨t2, a1, b1⟩ := kx E ce q T'.heap (locs ++ L) (by rw [e1]; exact hp) k3 (by rw [e1]; exact hce) hcv hcl T' rfl X'
    exact ⟨t2, st.trans a1, b1⟩
end JL0
theorem lg_cmp_0 {x y : Int64} : lg_cmp x y = 0 ↔ x = y := by
  unfold lg_cmp
  constructor
  · intro h
    split at h
    · exact absurd h (by decide)
    · split at h
      · rename_i h2; first | exact h2 | exact h2.symm | exact absurd h (by decide)
      · first | exact absurd h (by decide) | (rename_i h1 h2; exact Int64.le_antisymm (Int64.not_lt.mp h1) (Int64.not_lt.mp h2))
  · rintro rfl
    simp
section JL1
variable {n : Nat} {cc : ByteArray} {own : String} {ret : Option FieldType} {d : Nat} {κ : JK} {kc ks : Nat} {ws ws' : va_W} {pc : Nat} {lv : List (Nat × Value)} {st : List Value}
theorem jc_rot {a b : va_W} (k : JC n κ kc ks (b ++ a) pc lv st) : JC n κ kc ks (a ++ b) pc lv st := by
  obtain ⟨p, l, e, R, s, m, args, below, meth, c, D, A, ad, cA, rs, Q⟩ := κ
  intro H locs ls hP hD hS hl
  have hPa : va_P D vwCl a H := fun k q hq => hP k q (by rw [List.getElem?_append_left (List.getElem?_eq_some_iff.mp hq).1]; exact hq)
  have at_b : ∀ (k : Nat) (q : Nat × va_E), b[k]? = some q → (a ++ b)[a.length + k]? = some q := fun k q hq => by rw [List.getElem?_append_right (by omega), show a.length + k - a.length = k by omega]; exact hq
  have at_a : ∀ (k : Nat) (q : Nat × va_E), a[k]? = some q → (a ++ b)[k]? = some q := fun k q hq => by rw [List.getElem?_append_left (List.getElem?_eq_some_iff.mp hq).1]; exact hq
  have hPb : va_P D vwCl b H := fun k q hq => hP (a.length + k) q (at_b k q hq)
  have hDa : va_D A a := ⟨fun i j x y hi hj h => hD.1 i j x y (at_a i x hi) (at_a j y hj) h, fun k q hq => hD.2 k q (at_a k q hq)⟩
  have hDb : va_D A b := ⟨fun i j x y hi hj h => by have := hD.1 _ _ x y (at_b i x hi) (at_b j y hj) h; omega, fun k q hq => hD.2 _ q (at_b k q hq)⟩
  refine k H locs ls (va_P.app hPb hPa) (va_D.app hDb hDa (fun i j x y hi hj h => ?_)) hS hl
  have h1 := hD.1 _ _ x y (at_b i x hi) (at_a j y hj) h
  have h2 := (List.getElem?_eq_some_iff.mp hj).1
  omega
/-- the other system to the front -/
theorem jc_toY {ad ad2 : Nat → Nat} {o : Nat} {X Y : JX} {g : Nat → Int64} (k : JC n κ kc ks (wZ LY ad2 (jcA κ) Y ++ (wZ LX ad (jcA κ) X ++ [lC o (jcA κ) g])) pc lv st) : JC n κ kc ks (wO ad (jcA κ) o (wZ LY ad2 (jcA κ) Y) X g) pc lv st := by
  have h := jc_rot (a := wZ LX ad (jcA κ) X ++ [lC o (jcA κ) g]) (b := wZ LY ad2 (jcA κ) Y) k
  rw [List.append_assoc] at h
  exact h
theorem jc_toX {ad ad2 : Nat → Nat} {o : Nat} {X Y : JX} {g : Nat → Int64} (k : JC n κ kc ks (wO ad (jcA κ) o (wZ LY ad2 (jcA κ) Y) X g) pc lv st) : JC n κ kc ks (wZ LY ad2 (jcA κ) Y ++ (wZ LX ad (jcA κ) X ++ [lC o (jcA κ) g])) pc lv st := by
  refine jc_rot (a := wZ LY ad2 (jcA κ) Y) (b := wZ LX ad (jcA κ) X ++ [lC o (jcA κ) g]) ?_
  rw [List.append_assoc]
  exact k
theorem jc_widen {mc ms : Nat} (h1 : kc ≤ mc) (h2 : ks ≤ ms) (k : JC n κ mc ms ws pc lv st) : JC n κ kc ks ws pc lv st := by
  obtain ⟨p, l, e, R, s, m, args, below, meth, c, D, A, ad, cA, rs, Q⟩ := κ
  intro H locs ls hP hD hS hl
  exact W.widen h1 h2 (k H locs ls hP hD hS hl)

theorem jc_lconst (K : jOk n cc own ret d κ) {q : Fin 2} {v : Int64} (dg : decode cc pc = .ok (.lconst q, 1)) (hv : Int64.ofNat (q : Nat) = v) (k : JC n κ kc ks ws (pc + 1) lv (.long v :: st)) : JC n κ kc ks ws pc lv st := by
  obtain ⟨p, l, e, R, s, m, args, below, meth, c, D, A, ad0, cA, rs0, Q⟩ := κ
  obtain ⟨hx, hb, hml, hown, hts, hr0, hlk, hK, hA, hfr, hlo, hN⟩ := K
  intro H locs ls hP hD hS hl
  exact lv_lconst hx hb dg hv (k H locs ls hP hD hS hl)
theorem jc_i2l (K : jOk n cc own ret d κ) {x : Int32} (dg : decode cc pc = .ok (.i2l, 1)) (k : JC n κ kc ks ws (pc + 1) lv (.long x.toInt64 :: st)) : JC n κ kc ks ws pc lv (.int x :: st) := by
  obtain ⟨p, l, e, R, s, m, args, below, meth, c, D, A, ad0, cA, rs0, Q⟩ := κ
  obtain ⟨hx, hb, hml, hown, hts, hr0, hlk, hK, hA, hfr, hlo, hN⟩ := K
  intro H locs ls hP hD hS hl
  exact lv_i2l hx hb dg rfl (k H locs ls hP hD hS hl)
theorem jc_i2c (K : jOk n cc own ret d κ) {x v : Int32} (dg : decode cc pc = .ok (.i2c, 1)) (hv : (x.toUInt32 % 65536).toInt32 = v) (k : JC n κ kc ks ws (pc + 1) lv (.int v :: st)) : JC n κ kc ks ws pc lv (.int x :: st) := by
  obtain ⟨p, l, e, R, s, m, args, below, meth, c, D, A, ad0, cA, rs0, Q⟩ := κ
  obtain ⟨hx, hb, hml, hown, hts, hr0, hlk, hK, hA, hfr, hlo, hN⟩ := K
  intro H locs ls hP hD hS hl
  exact lv_i2c hx hb dg hv (k H locs ls hP hD hS hl)
theorem jc_iadd (K : jOk n cc own ret d κ) {x y v : Int32} (dg : decode cc pc = .ok (.iadd, 1)) (hv : x + y = v) (k : JC n κ kc ks ws (pc + 1) lv (.int v :: st)) : JC n κ kc ks ws pc lv (.int y :: .int x :: st) := by
  obtain ⟨p, l, e, R, s, m, args, below, meth, c, D, A, ad0, cA, rs0, Q⟩ := κ
  obtain ⟨hx, hb, hml, hown, hts, hr0, hlk, hK, hA, hfr, hlo, hN⟩ := K
  intro H locs ls hP hD hS hl
  exact lv_iadd hx hb dg (by rw [hv]; exact k H locs ls hP hD hS hl)
theorem jc_isub (K : jOk n cc own ret d κ) {x y v : Int32} (dg : decode cc pc = .ok (.isub, 1)) (hv : x - y = v) (k : JC n κ kc ks ws (pc + 1) lv (.int v :: st)) : JC n κ kc ks ws pc lv (.int y :: .int x :: st) := by
  obtain ⟨p, l, e, R, s, m, args, below, meth, c, D, A, ad0, cA, rs0, Q⟩ := κ
  obtain ⟨hx, hb, hml, hown, hts, hr0, hlk, hK, hA, hfr, hlo, hN⟩ := K
  intro H locs ls hP hD hS hl
  exact lv_isub hx hb dg (by rw [hv]; exact k H locs ls hP hD hS hl)
theorem jc_iand (K : jOk n cc own ret d κ) {x y v : Int32} (dg : decode cc pc = .ok (.iand, 1)) (hv : x &&& y = v) (k : JC n κ kc ks ws (pc + 1) lv (.int v :: st)) : JC n κ kc ks ws pc lv (.int y :: .int x :: st) := by
  obtain ⟨p, l, e, R, s, m, args, below, meth, c, D, A, ad0, cA, rs0, Q⟩ := κ
  obtain ⟨hx, hb, hml, hown, hts, hr0, hlk, hK, hA, hfr, hlo, hN⟩ := K
  intro H locs ls hP hD hS hl
  exact lv_iand hx hb dg (by rw [hv]; exact k H locs ls hP hD hS hl)
theorem jc_if_eq (K : jOk n cc own ret d κ) {x : Int32} {off : Int} {tgt : Nat} (dg : decode cc pc = .ok (.ifCond .eq off, 3)) (ht : (pc : Int) + off = (tgt : Int)) (kt : x = 0 → JC n κ kc ks ws tgt lv st) (kf : ¬ x = 0 → JC n κ kc ks ws (pc + 3) lv st) : JC n κ kc ks ws pc lv (.int x :: st) := by
  obtain ⟨p, l, e, R, s, m, args, below, meth, c, D, A, ad0, cA, rs0, Q⟩ := κ
  obtain ⟨hx, hb, hml, hown, hts, hr0, hlk, hK, hA, hfr, hlo, hN⟩ := K
  intro H locs ls hP hD hS hl
  exact lv_if_eq hx hb dg ht (fun h => kt h H locs ls hP hD hS hl) (fun h => kf h H locs ls hP hD hS hl)
theorem jc_if_ne (K : jOk n cc own ret d κ) {x : Int32} {off : Int} {tgt : Nat} (dg : decode cc pc = .ok (.ifCond .ne off, 3)) (ht : (pc : Int) + off = (tgt : Int)) (kt : ¬ x = 0 → JC n κ kc ks ws tgt lv st) (kf : x = 0 → JC n κ kc ks ws (pc + 3) lv st) : JC n κ kc ks ws pc lv (.int x :: st) := by
  obtain ⟨p, l, e, R, s, m, args, below, meth, c, D, A, ad0, cA, rs0, Q⟩ := κ
  obtain ⟨hx, hb, hml, hown, hts, hr0, hlk, hK, hA, hfr, hlo, hN⟩ := K
  intro H locs ls hP hD hS hl
  exact lv_if_ne hx hb dg ht (fun h => kt h H locs ls hP hD hS hl) (fun h => kf h H locs ls hP hD hS hl)
theorem jc_icmp_eq (K : jOk n cc own ret d κ) {x y : Int32} {off : Int} {tgt : Nat} (dg : decode cc pc = .ok (.if_icmp .eq off, 3)) (ht : (pc : Int) + off = (tgt : Int)) (kt : x = y → JC n κ kc ks ws tgt lv st) (kf : ¬ x = y → JC n κ kc ks ws (pc + 3) lv st) : JC n κ kc ks ws pc lv (.int y :: .int x :: st) := by
  obtain ⟨p, l, e, R, s, m, args, below, meth, c, D, A, ad0, cA, rs0, Q⟩ := κ
  obtain ⟨hx, hb, hml, hown, hts, hr0, hlk, hK, hA, hfr, hlo, hN⟩ := K
  intro H locs ls hP hD hS hl
  exact lv_icmp_eq hx hb dg ht (fun h => kt h H locs ls hP hD hS hl) (fun h => kf h H locs ls hP hD hS hl)
theorem jc_icmp_gt (K : jOk n cc own ret d κ) {x y : Int32} {off : Int} {tgt : Nat} (dg : decode cc pc = .ok (.if_icmp .gt off, 3)) (ht : (pc : Int) + off = (tgt : Int)) (kt : y < x → JC n κ kc ks ws tgt lv st) (kf : ¬ y < x → JC n κ kc ks ws (pc + 3) lv st) : JC n κ kc ks ws pc lv (.int y :: .int x :: st) := by
  obtain ⟨p, l, e, R, s, m, args, below, meth, c, D, A, ad0, cA, rs0, Q⟩ := κ
  obtain ⟨hx, hb, hml, hown, hts, hr0, hlk, hK, hA, hfr, hlo, hN⟩ := K
  intro H locs ls hP hD hS hl
  exact lv_icmp_gt hx hb dg ht (fun h => kt h H locs ls hP hD hS hl) (fun h => kf h H locs ls hP hD hS hl)
theorem jc_lcmp (K : jOk n cc own ret d κ) {x y : Int64} (dg : decode cc pc = .ok (.lcmp, 1)) (k : JC n κ kc ks ws (pc + 1) lv (.int (lg_cmp x y) :: st)) : JC n κ kc ks ws pc lv (.long y :: .long x :: st) := by
  obtain ⟨p, l, e, R, s, m, args, below, meth, c, D, A, ad0, cA, rs0, Q⟩ := κ
  obtain ⟨hx, hb, hml, hown, hts, hr0, hlk, hK, hA, hfr, hlo, hN⟩ := K
  intro H locs ls hP hD hS hl
  exact W.lcmp hx hb dg (k H locs ls hP hD hS hl)
theorem jc_sld (K : jOk n cc own ret d κ) {b Ln : Nat} {xs : Nat → Int32} (S9 : jSc b Ln xs κ) {i : Int32} (hin : vp_in i Ln) (dg : decode cc pc = .ok (.iaload, 1)) (kk : JC n κ kc ks ws (pc + 1) lv (.int (xs i.toNatClampNeg) :: st)) : JC n κ kc ks ws pc lv (.int i :: .ref b :: st) := by
  obtain ⟨p, l, e, R, s, m, args, below, meth, c, D, A, ad0, cA, rs0, Q⟩ := κ
  obtain ⟨hx, hb, hml, hown, hts, hr0, hlk, hK, hA, hfr, hlo, hN⟩ := K
  intro H locs ls hP hD hS hl
  obtain ⟨hX, hbl, hbA⟩ := S9
  exact va_sld hx hb hX hbl hbA hS hin dg (kk H locs ls hP hD hS hl)
theorem jc_slen (K : jOk n cc own ret d κ) {b Ln : Nat} {xs : Nat → Int32} (S9 : jSc b Ln xs κ) (dg : decode cc pc = .ok (.arraylength, 1)) (kk : JC n κ kc ks ws (pc + 1) lv (.int (Int32.ofNat Ln) :: st)) : JC n κ kc ks ws pc lv (.ref b :: st) := by
  obtain ⟨p, l, e, R, s, m, args, below, meth, c, D, A, ad0, cA, rs0, Q⟩ := κ
  obtain ⟨hx, hb, hml, hown, hts, hr0, hlk, hK, hA, hfr, hlo, hN⟩ := K
  intro H locs ls hP hD hS hl
  obtain ⟨hX, hbl, hbA⟩ := S9
  exact va_slen hx hb hX hbl hbA hS dg (kk H locs ls hP hD hS hl)
theorem jc_tableIn (K : jOk n cc own ret d κ) {dflt lo hi : Int} {offs : Array Int} {len : Nat} {x : Int32} {off : Int} {tgt : Nat} (dg : decode cc pc = .ok (.tableswitch dflt lo hi offs, len)) (h1 : ¬ x.toInt < lo) (h2 : ¬ hi < x.toInt) (ho : offs[(x.toInt - lo).toNat]? = some off) (ht : (pc : Int) + off = (tgt : Int)) (k : JC n κ kc ks ws tgt lv st) : JC n κ kc ks ws pc lv (.int x :: st) := by
  obtain ⟨p, l, e, R, s, m, args, below, meth, c, D, A, ad0, cA, rs0, Q⟩ := κ
  obtain ⟨hx, hb, hml, hown, hts, hr0, hlk, hK, hA, hfr, hlo, hN⟩ := K
  intro H locs ls hP hD hS hl
  exact lv_tableIn hx hb dg h1 h2 ho ht (k H locs ls hP hD hS hl)
theorem jc_tableOut (K : jOk n cc own ret d κ) {dflt lo hi : Int} {offs : Array Int} {len : Nat} {x : Int32} {tgt : Nat} (dg : decode cc pc = .ok (.tableswitch dflt lo hi offs, len)) (h : x.toInt < lo ∨ hi < x.toInt) (ht : (pc : Int) + dflt = (tgt : Int)) (k : JC n κ kc ks ws tgt lv st) : JC n κ kc ks ws pc lv (.int x :: st) := by
  obtain ⟨p, l, e, R, s, m, args, below, meth, c, D, A, ad0, cA, rs0, Q⟩ := κ
  obtain ⟨hx, hb, hml, hown, hts, hr0, hlk, hK, hA, hfr, hlo, hN⟩ := K
  intro H locs ls hP hD hS hl
  exact lv_tableOut hx hb dg h ht (k H locs ls hP hD hS hl)
theorem jc_iretW (K : jOk n cc own ret d κ) {v : Int32} {hh : List (Nat × Nat × Nat × Nat)} (F : jFw ws v hh κ) (hi : ret = some .int) (h1 : kc ≤ 1) (h2 : ks ≤ 6) (dg : decode cc pc = .ok (.ireturn, 1)) : JC n κ kc ks ws pc lv [.int v] := by
  obtain ⟨p, l, e, R, s, m, args, below, meth, c, D, A, ad0, cA, rs0, Q⟩ := κ
  obtain ⟨hx, hb, hml, hown, hts, hr0, hlk, hK, hA, hfr, hlo, hN⟩ := K
  intro H locs ls hP hD hS hl
  obtain ⟨hQ, -⟩ := (show Q = _ ∧ _ from F)
  rw [hQ]
  refine W.widen h1 h2 ?_
  exact W.iret hx hb (hr0.trans hi) (fun t ht hW => ⟨⟨rfl, by rw [ht]; exact hP⟩, hS.F ht⟩) hS.2.2 dg hlk
theorem jc_callV (K : jOk n cc own ret d κ) {L : Lay} {ad : Nat → Nat} {rs : va_W} {X X' : JX} {y : MethodName} {cy : ByteArray} {ny : Nat} {ry : Option FieldType} {dy idx na : Nat} {av : (Nat → Nat) → List Value} {x : (Nat → Nat) → JE} {k ci z : Nat} {As : List Value} {rv : Option Value} (hc : Cal L y cy ny ry dy av X x) (ml : MLk own idx y cy ny ry na) (hcl : ∃ q : vw_C, vwCl[ci]? = some q ∧ q.1 = y.cls) (hs : L.2.1 k = (10 + ci, z)) (hk : k < L.1) (hci : ci < 90) (hav : av ad = .ref (ad k) :: As) (hn : As.length = na) (hd : dy + 1 ≤ d) (hny : ny ≤ 20) (hst : (st.map fun v => v.category).sum ≤ 8) (hxx : x ad = (none, rv, X')) (dg : decode cc pc = .ok (.invokevirtual idx, 3)) (G : jRl κ) (h1 : kc ≤ 601024) (h2 : ks ≤ 7293034) (kk : JC n κ kc ks (wZ L ad (jcA κ) X' ++ rs) (pc + 3) lv (rv.toList ++ st)) : JC n κ kc ks (wZ L ad (jcA κ) X ++ rs) pc lv (As.reverse ++ .ref (ad k) :: st) := by
  obtain ⟨p, l, e, R, s, m, args, below, meth, c, D, A, ad0, cA, rs0, Q⟩ := κ
  obtain ⟨hx, hb, hml, hown, hts, hr0, hlk, hK, hA, hfr, hlo, hN⟩ := K
  obtain ⟨hRc, hRs, hfl, hH⟩ := (show 601024 ≤ R.cells ∧ 7293034 ≤ R.slots ∧ l.stackTraces = false ∧ jH A s from G)
  intro H locs ls hP hD hS hl
  obtain ⟨⟨C, T, N⟩, g1, g2⟩ := hcl
  have hM := hc l D ad cA rs H.size
  rw [hav, hxx] at hM
  have cw := cwV (R := R) (s := s) (args := args) (own := own) (C := y.cls) (index := idx) (y := y) (bytes := cy) (maxL := ny) (ret := ry) (Ts := gTbl) (ws := .code y cy ny ry :: gTbl) (ws' := gTbl) (rm := jRm dy 0 0) (mc := 0) (ms := 0) na hts ml.1 rfl rfl rfl ⟨rfl, ml.2⟩ ⟨by show dy + 1 ≤ _; omega, by show 8 + (ny + 11) + 39 * dy ≤ _; omega⟩
  have hP : va_P D vwCl (wZ L ad cA X ++ rs) H := hP
  have hD : va_D A (wZ L ad cA X ++ rs) := hD
  refine w_call (rv := rv) (P := fun H => va_P D vwCl (wZ L ad cA X' ++ rs) H) (va_runV (As := As) (rest := st) ⟨hx, hb, hml, hown, hts⟩ hM cw ⟨jPc_blind, ?_, fun U hU hW => ⟨rfl, by rw [hU], by rw [hU]; exact hP, va_K.moved hW.alike hK, hD.weaken (fun _ _ _ _ => trivial), hN.warm hW⟩⟩ rfl hn (hl.1) rfl (lv_room hst) dg ⟨by omega, by omega⟩) (fun st v t h => ⟨?_, h.1.2.2, h.2⟩) hS (jA_lt hD) (jA_all hD hS hA) (fun H locs hP hS => kk H locs ls hP (wZ_D hD) hS hl)
  · rw [← show (C, T, N).1 = y.cls from g2]
    exact va_recv hK hP (ci := ci) (q0 := k) g1 (by rw [wZ_get hk, cZ_ob hs hci])
  · exact Outcome.returned.inj h.1.2.1
theorem jc_callXR (K : jOk n cc own ret d κ) {wx : va_W} {vx : Int32} {hh : List (Nat × Nat × Nat × Nat)} (F : jFw wx vx hh κ) {L : Lay} {ad : Nat → Nat} {rs : va_W} {X X' : JX} {y : MethodName} {cy : ByteArray} {ny : Nat} {ry : Option FieldType} {dy idx na : Nat} {av : (Nat → Nat) → List Value} {x : (Nat → Nat) → JE} {k ci z : Nat} {As : List Value} {rv : Option Value} (hc : CalX L y cy ny ry dy av X x) (ml : MLk own idx y cy ny ry na) (hcl : ∃ q : vw_C, vwCl[ci]? = some q ∧ q.1 = y.cls) (hs : L.2.1 k = (10 + ci, z)) (hk : k < L.1) (hci : ci < 90) (hav : av ad = .ref (ad k) :: As) (hn : As.length = na) (hd : dy + 1 ≤ d) (hny : ny ≤ 20) (hst : (st.map fun v => v.category).sum ≤ 8) (hxx : x ad = (none, rv, X')) (dg : decode cc pc = .ok (.invokevirtual idx, 3)) (kk : JC n κ 1 6 (wZ L ad (jcA κ) X' ++ rs) (pc + 3) lv (rv.toList ++ st)) : JC n κ 0 0 (wZ L ad (jcA κ) X ++ rs) pc lv (As.reverse ++ .ref (ad k) :: st) := by
  obtain ⟨p, l, e, R, s, m, args, below, meth, c, D, A, ad0, cA, rs0, Q⟩ := κ
  obtain ⟨hx, hb, hml, hown, hts, hr0, hlk, hK, hA, hfr, hlo, hN⟩ := K
  obtain ⟨hQ, hRc, hRs, hfl, hH, htab⟩ := (show Q = _ ∧ 1 ≤ R.cells ∧ 6 ≤ R.slots ∧ l.stackTraces = false ∧ jH A s ∧ c.exceptionTable.toList = tableOf hh from F)
  intro H locs ls hP hD hS hl
  obtain ⟨⟨C, T, N⟩, g1, g2⟩ := hcl
  have hM := hc l hfl D ad cA rs H.size
  rw [hav, hxx] at hM
  have cw := cwV (R := R) (s := s) (args := args) (own := own) (C := y.cls) (index := idx) (y := y) (bytes := cy) (maxL := ny) (ret := ry) (Ts := gTbl) (ws := .code y cy ny ry :: gTbl) (ws' := gTbl) (rm := jRm dy 1 6) (mc := 1) (ms := 6) na hts ml.1 rfl rfl rfl ⟨rfl, ml.2⟩ ⟨by show dy + 1 ≤ _; omega, by show 8 + (ny + 11) + 39 * dy ≤ _; omega⟩
  have hP : va_P D vwCl (wZ L ad cA X ++ rs) H := hP
  have hD : va_D A (wZ L ad cA X ++ rs) := hD
  refine w_callX (rv := rv) (P := fun H => va_P D vwCl (wZ L ad cA X' ++ rs) H) (PX := fun _ _ => False) (A1 := va_A (wZ L ad cA X ++ rs) H.size) (vx_runV (As := As) (rest := st) ⟨hx, hb, hml, hown, hts⟩ hM cw ⟨jPcX_blind, ?_, fun U hU hW => ⟨rfl, by rw [hU], by rw [hU]; exact hP, va_K.moved hW.alike hK, hD.weaken (fun _ _ _ _ => trivial), hN.warm hW, jH_at hH hS (jA_all hD hS hA) hW.alike hU⟩⟩ rfl hn (hl.1) rfl (lv_room hst) dg ⟨by omega, by omega⟩) (fun st v t h => ⟨?_, h.1.2.2, h.2⟩) (fun E st t h => ?_) hS (jA_lt hD) (jA_all hD hS hA) (fun E ce q9 H1 locs1 h => h.elim) (fun H locs hP hS => kk H locs ls hP (wZ_D hD) hS hl)
  · rw [← show (C, T, N).1 = y.cls from g2]
    exact va_recv hK hP (ci := ci) (q0 := k) g1 (by rw [wZ_get hk, cZ_ob hs hci])
  · exact Outcome.returned.inj h.1.2.1
  · obtain ⟨⟨k9, h9, -⟩, -⟩ := h
    cases h9
theorem jc_callXT (K : jOk n cc own ret d κ) {wx : va_W} {vx : Int32} {hh : List (Nat × Nat × Nat × Nat)} (F : jFw wx vx hh κ) {L : Lay} {ad : Nat → Nat} {rs : va_W} {X X' : JX} {y : MethodName} {cy : ByteArray} {ny : Nat} {ry : Option FieldType} {dy idx na : Nat} {av : (Nat → Nat) → List Value} {x : (Nat → Nat) → JE} {k ci z : Nat} {As : List Value} {rv : Option Value} {ke : Nat} (hc : CalX L y cy ny ry dy av X x) (ml : MLk own idx y cy ny ry na) (hcl : ∃ q : vw_C, vwCl[ci]? = some q ∧ q.1 = y.cls) (hs : L.2.1 k = (10 + ci, z)) (hk : k < L.1) (hci : ci < 90) (hav : av ad = .ref (ad k) :: As) (hn : As.length = na) (hd : dy + 1 ≤ d) (hny : ny ≤ 20) (hst : (st.map fun v => v.category).sum ≤ 8) (hxx : x ad = (some ke, rv, X')) (dg : decode cc pc = .ok (.invokevirtual idx, 3))
    (pre : List ExceptionTableEntry) (x9 : ExceptionTableEntry) (suf : List ExceptionTableEntry) (ht : tableOf hh = pre ++ x9 :: suf) (hpre : ∀ z ∈ pre, z.catchType ≠ 0 ∧ ∃ nm : String, Cond.classLink own z.catchType nm ∈ gTbl ∧ (excN ke, nm) ∈ ncL) (hcov : covers x9 pc = true) (h0 : x9.catchType ≠ 0) (hlink : Cond.classLink own x9.catchType (excN ke) ∈ gTbl) (hcast : (excN ke, excN ke) ∈ castL)
    (kk : ∀ q : Nat, JC n κ 1 6 (wZ L ad (jcA κ) X' ++ rs) x9.handlerPc lv [.ref q]) : JC n κ 0 0 (wZ L ad (jcA κ) X ++ rs) pc lv (As.reverse ++ .ref (ad k) :: st) := by
  obtain ⟨p, l, e, R, s, m, args, below, meth, c, D, A, ad0, cA, rs0, Q⟩ := κ
  obtain ⟨hx, hb, hml, hown, hts, hr0, hlk, hK, hA, hfr, hlo, hN⟩ := K
  obtain ⟨hQ, hRc, hRs, hfl, hH, htab⟩ := (show Q = _ ∧ 1 ≤ R.cells ∧ 6 ≤ R.slots ∧ l.stackTraces = false ∧ jH A s ∧ c.exceptionTable.toList = tableOf hh from F)
  intro H locs ls hP hD hS hl
  obtain ⟨⟨C, T, N⟩, g1, g2⟩ := hcl
  have hM := hc l hfl D ad cA rs H.size
  rw [hav, hxx] at hM
  have cw := cwV (R := R) (s := s) (args := args) (own := own) (C := y.cls) (index := idx) (y := y) (bytes := cy) (maxL := ny) (ret := ry) (Ts := gTbl) (ws := .code y cy ny ry :: gTbl) (ws' := gTbl) (rm := jRm dy 1 6) (mc := 1) (ms := 6) na hts ml.1 rfl rfl rfl ⟨rfl, ml.2⟩ ⟨by show dy + 1 ≤ _; omega, by show 8 + (ny + 11) + 39 * dy ≤ _; omega⟩
  have hP : va_P D vwCl (wZ L ad cA X ++ rs) H := hP
  have hD : va_D A (wZ L ad cA X ++ rs) := hD
  refine w_callX (rv := none) (P := fun _ => False) (PX := fun E H => E = excN ke ∧ va_P D vwCl (wZ L ad cA X' ++ rs) H) (A1 := va_A (wZ L ad cA X ++ rs) H.size) (vx_runV (As := As) (rest := st) ⟨hx, hb, hml, hown, hts⟩ hM cw ⟨jPcX_blind, ?_, fun U hU hW => ⟨rfl, by rw [hU], by rw [hU]; exact hP, va_K.moved hW.alike hK, hD.weaken (fun _ _ _ _ => trivial), hN.warm hW, jH_at hH hS (jA_all hD hS hA) hW.alike hU⟩⟩ rfl hn (hl.1) rfl (lv_room hst) dg ⟨by omega, by omega⟩) (fun st v t h => absurd h.1.1 (by intro h9; cases h9)) (fun E st t h => ?_) hS (jA_lt hD) (jA_all hD hS hA) (fun E ce q9 H1 locs1 h hS1 hce hcv hcl9 => ?_) (fun H locs h hS => h.elim)
  · rw [← show (C, T, N).1 = y.cls from g2]
    exact va_recv hK hP (ci := ci) (q0 := k) g1 (by rw [wZ_get hk, cZ_ob hs hci])
  · obtain ⟨⟨k9, h9, rfl⟩, hp, hF⟩ := h
    have : ke = k9 := Option.some.inj h9
    subst this
    exact ⟨⟨rfl, hp⟩, hF⟩
  · obtain ⟨rfl, hp⟩ := h
    exact vx_catch hown pre x9 suf (htab.trans ht) (fun z hz => Or.inr ⟨(hpre z hz).1, (hpre z hz).2.choose, hts _ (hpre z hz).2.choose_spec.1, hN.2.2.2.2.1 _ (hpre z hz).2.choose_spec.2⟩) hcov h0 (hts _ hlink) (va_Nw.use rfl (hN.2.2.1 _ hcast)) hce hcv hcl9 (kk q9 H1 locs1 ls hp (wZ_D hD) hS1 hl)
def MWk (own : String) (idx : Nat) (y : MethodName) (cy : ByteArray) (ny : Nat) (hh : List (Nat × Nat × Nat × Nat)) (na : Nat) : Prop := GoodIn gTbl (va_wsS own idx y (.codeWith y cy ny (some .int) hh :: gTbl)) ∧ (y.cls ≠ "java/lang/invoke/MethodHandle" ∧ y.cls ≠ "java/lang/invoke/VarHandle" ∧ (parseMethodDescriptor y.desc).map (fun d => d.parameters.length) = some na)
theorem MWk.of {own : String} {idx : Nat} {y : MethodName} {cy : ByteArray} {ny : Nat} {hh : List (Nat × Nat × Nat × Nat)} {na : Nat} (i1 i2 i3 i4 : Nat) (h1 : lw_tbl[i1]? = some (.methodLink own idx y)) (h2 : lw_tbl[i2]? = some (.static y)) (h3 : lw_tbl[i3]? = some (.initialized y.cls)) (h4 : lw_tbl[i4]? = some (.codeWith y cy ny (some .int) hh)) (hd : y.cls ≠ "java/lang/invoke/MethodHandle" ∧ y.cls ≠ "java/lang/invoke/VarHandle" ∧ (parseMethodDescriptor y.desc).map (fun d => d.parameters.length) = some na) : MWk own idx y cy ny hh na :=
  ⟨goodIn_c (gTbl_at h1 rfl) rfl (goodIn_c (gTbl_at h2 rfl) rfl (goodIn_c (gTbl_at h3 rfl) rfl (goodIn_c (gTbl_at h4 rfl) rfl gTbl_good))), hd⟩
theorem wO_D {A : Nat → Prop} {ad : Nat → Nat} {cA : Nat → ClassId} {o : Nat} {rs : va_W} {X X' : JX} {g g' : Nat → Int64} (h : va_D A (wO ad cA o rs X g)) : va_D A (wO ad cA o rs X' g') := by
  have h1 : va_D A (wO ad cA o rs X' g) := wZ_D (rs := lC o cA g :: rs) h
  have hle : (wO ad cA o rs X' g).set 176 (lC o cA g') = wO ad cA o rs X' g' := by
    unfold wO
    rw [List.set_append_right _ _ (by rw [wZ_len]; exact Nat.le_refl _), wZ_len]
    rfl
  have h2 : (wO ad cA o rs X' g)[176]? = some (lC o cA g) := by
    unfold wO
    rw [List.getElem?_append_right (by rw [wZ_len]; exact Nat.le_refl _), wZ_len]
    rfl
  rw [← hle]
  exact h1.set h2
theorem jc_wrap (K : jOk n cc own ret d κ) (G : jRl κ) {y : MethodName} {cy : ByteArray} {ny dy idx na : Nat} {hh : List (Nat × Nat × Nat × Nat)} {As : List Value} {X X' : JX} {g g' : Nat → Int64} {v : Int32} {ad : Nat → Nat} {o : Nat} {rs : va_W} (hc : CalW y cy ny hh dy As X X' g g' v) (mw : MWk own idx y cy ny hh na) (hn : (Value.ref (ad 0) :: (As ++ [.ref o])).length = na) (hd : dy + 1 ≤ d) (hny : ny ≤ 20) (hst : (st.map fun v => v.category).sum ≤ 8) (h1 : kc + 1 ≤ 601024) (h2 : ks + 6 ≤ 7293034) (dg : decode cc pc = .ok (.invokestatic idx, 3)) (kk : JC n κ (kc + 1) (ks + 6) (wO ad (jcA κ) o rs X' g') (pc + 3) lv (.int v :: st)) : JC n κ kc ks (wO ad (jcA κ) o rs X g) pc lv ((.ref (ad 0) :: (As ++ [.ref o])).reverse ++ st) := by
  obtain ⟨p, l, e, R, s, m, args, below, meth, c, D, A, ad0, cA, rs0, Q⟩ := κ
  obtain ⟨hx, hb, hml, hown, hts, hr0, hlk, hK, hA, hfr, hlo, hN⟩ := K
  obtain ⟨hRc, hRs, hfl, hH⟩ := (show 601024 ≤ R.cells ∧ 7293034 ≤ R.slots ∧ l.stackTraces = false ∧ jH A s from G)
  intro H locs ls hP hD hS hl
  have hP : va_P D vwCl (wO ad cA o rs X g) H := hP
  have hD : va_D A (wO ad cA o rs X g) := hD
  have hM := hc l hfl D ad cA o rs H.size
  have cw := vx_cwSW (R := R) (s := s) (args := args) (own := own) (index := idx) (y := y) (bytes := cy) (maxL := ny) (ret := some .int) (hh := hh) (Ts := gTbl) (ws := .codeWith y cy ny (some .int) hh :: gTbl) (ws' := gTbl) (rm := jRm dy 1 6) (mc := 1) (ms := 6) na hts mw.1 rfl rfl rfl mw.2 ⟨by show dy + 1 ≤ _; omega, by show 8 + (ny + 11) + 39 * dy ≤ _; omega⟩
  refine w_call (rv := some (.int v)) (P := fun H => va_P D vwCl (wO ad cA o rs X' g') H) (vx_runSW (As := .ref (ad 0) :: (As ++ [.ref o])) (rest := st) ⟨hx, hb, hml, hown, hts⟩ hM cw ⟨jPcW_blind, fun U hU hW => ⟨rfl, by rw [hU], by rw [hU]; exact hP, va_K.moved hW.alike hK, hD.weaken (fun _ _ _ _ => trivial), hN.warm hW, jH_at hH hS (jA_all hD hS hA) hW.alike hU⟩⟩ rfl hn (hl.1) rfl (lv_room hst) dg ⟨by omega, by omega⟩) (fun st v9 t h => ⟨Outcome.returned.inj h.1.1, h.1.2, h.2⟩) hS (jA_lt hD) (jA_all hD hS hA) (fun H locs hP hS => kk H locs ls hP (wO_D hD) hS hl)
end JL1

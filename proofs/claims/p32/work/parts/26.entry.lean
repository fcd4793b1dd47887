def R_law : String := "SearchKeeperLaw"
def lw_P (b : Addr) (xs : List Int32) (args : Array Value) (s : State) : Prop := args = #[.ref b] ∧ s.IntsAt b xs ∧ xs.length ≤ 260 ∧ (Jvm.Cond.and given_1 narrow_1).before args s = true
def lw_Q (_ : Array Value) (s : State) (o : Outcome) (t : State) : Prop := o = .returned (some (.int 1)) ∧ Framed s o t [] 600104 7301314
def lw_Z (below : List Frame) (a : Array Value) (s : State) : State → Prop := fun t => ∃ o, t.status = .running ∧ Ended t below o ∧ lw_Q a s o t
/-- the law's own end, with 1 on the stack, nothing written that was there before, its room as the claim has it -/
theorem lw_ret {p : Program} {l : Launch} {e : Env} {s : State} {m : MethodId} {below : List Frame} {meth : Method} {c : Code} {b : Nat} (hx : p.tables.exec = Jvm.exec) (hb : c.code = code) (hr : meth.sig.returnType = ret) (hlocks : meth.locks = false) {pc : Nat} {H : Heap} {ls : Array Slot} (hdg : decode code pc = .ok (.ireturn, 1)) : W p l e room_1 s m #[Value.ref b] below meth c H [] 600104 7301314 (lw_Z below #[Value.ref b] s) (F0 m pc ls [.int 1]) := by
  intro T hT X
  obtain ⟨fs, hret, hrun, hended, hW, hframe⟩ := X.leave (v := some (.int 1)) (hlocks := hlocks) (fun h => by rw [hr] at h; cases h)
  have hmeth' : T.vm.method? m = some meth := X.method'
  refine ⟨T.setFrames fs, ?_, .returned (some (.int 1)), hrun, hended, rfl, ⟨_, rfl⟩, hW, hframe⟩
  jvm_step X.here [X.here.top, hx, hb, hdg, hmeth', hr, ret, narrow_b1]
  (try refine ⟨rfl, ?_⟩); (try refine ⟨rfl, ?_⟩)
  first | (intro acts; rw [hret _ acts rfl rfl rfl]) | rw [hret _ _ rfl rfl rfl]
  exact Steps.refl _
/-- what holds at the law's entry: the machine, the code, the tables' words (any of lw_tbl by 'hts w (by decide +kernel)'), the script of L ints xs at the cell b, what the Statement gives of the start (any of its parts by flat_of_before) -/
def lw_At (p : Program) (s : State) (m : MethodId) (meth : Method) (c : Code) (b L : Nat) (xs : Nat → Int32) : Prop :=
  p.tables.exec = Jvm.exec ∧ c.code = code ∧ meth.sig.returnType = ret ∧ c.maxLocals = 19 ∧ s.vm.findClass R_law = some m.cls ∧ (∀ w ∈ lw_tbl, w.before #[Value.ref b] s = true) ∧ va_X b L xs s s.heap ∧ b < s.heap.size ∧ meth.locks = false ∧ (Jvm.Cond.and given_1 narrow_1).before #[Value.ref b] s = true
theorem e_nestF : ∀ q ∈ nestF, Cond.fieldLinkNest q.1 q.2.1 q.2.2.1 q.2.2.2.1 q.2.2.2.2 "SearchKeeper" ∈ lw_tbl := by decide +kernel
theorem e_nestM : ∀ q ∈ nestM, Cond.methodLinkNest q.1 q.2.1 q.2.2 "SearchKeeper" ∈ lw_tbl := by decide +kernel
theorem e_cast : ∀ q ∈ castL, Cond.castable q.1 q.2 ∈ lw_tbl := by decide +kernel
theorem e_decl : ∀ q ∈ declL, Cond.declares q ∈ lw_tbl := by decide +kernel
theorem e_str : ∀ q ∈ strL, Cond.stringRef "SearchKeeper" q.1 q.2 ∈ lw_tbl := by decide +kernel
theorem e_nc : ∀ q ∈ ncL, Cond.not (.castable q.1 q.2) ∈ flatC (Jvm.Cond.and given_1 narrow_1) := fun q hq => by cases hq
theorem e_ex : ∀ q ∈ strL, Cond.exactly (.string "SearchKeeper" q.1) "java/lang/String" ∈ flatC (Jvm.Cond.and given_1 narrow_1) := by decide +kernel
theorem e_jN {a : Array Value} {s : State} (hts : ∀ w ∈ lw_tbl, w.before a s = true) (hgv : (Jvm.Cond.and given_1 narrow_1).before a s = true) : jN s := by
  refine ⟨fun q hq => va_Nw.of rfl (hts _ (e_nestF q hq)), fun q hq => va_Nw.of rfl (hts _ (e_nestM q hq)), fun q hq => va_Nw.of rfl (hts _ (e_cast q hq)), fun q hq => va_Nw.of rfl (hts _ (e_decl q hq)), fun q hq => va_Nc.of (flat_of_before _ hgv _ (e_nc q hq)), fun q hq => ?_⟩
  obtain ⟨d, -, -, -, h1, -⟩ := Cond.exactly_spec (flat_of_before _ hgv _ (e_ex q hq))
  exact ⟨d, vk_R.of (hts _ (e_str q hq)) h1⟩
theorem e_arr {a : Array Value} {s : State} {ty : FieldType} (h : (Cond.arrayClass ty).before a s = true) : ∃ cA : ClassId, ArrOfT s cA ty ∧ s.vm.findClass ("[" ++ ty.toString) = some cA := by
  obtain ⟨c, k, comp, h1, h2, h3⟩ := Cond.arrayClass_spec h
  exact ⟨c, fun n z => ⟨fun k h => (by cases h), k, h2, comp, h3⟩, h1⟩
theorem e_K {a : Array Value} {s : State} (hts : ∀ w ∈ lw_tbl, w.before a s = true) : ∃ (D : va_G) (cA : Nat → ClassId), va_K D vwCl (jTy cA) s := by
  obtain ⟨c0, i0, k0⟩ := u_known (n := 4) hts inX0 (hts (.instantiable RX0 4) (by decide +kernel))
  obtain ⟨c1, i1, k1⟩ := u_known (n := 5) hts inX1 (hts (.instantiable RX1 5) (by decide +kernel))
  obtain ⟨c2, i2, k2⟩ := u_known (n := 10) hts inX2 (hts (.instantiable RX2 10) (by decide +kernel))
  obtain ⟨c3, i3, k3⟩ := u_known (n := 4) hts inX3 (hts (.instantiable RX3 4) (by decide +kernel))
  obtain ⟨c4, i4, k4⟩ := u_known (n := 6) hts inX4 (hts (.instantiable RX4 6) (by decide +kernel))
  obtain ⟨c5, i5, k5⟩ := u_known (n := 6) hts inX5 (hts (.instantiable RX5 6) (by decide +kernel))
  obtain ⟨c6, i6, k6⟩ := u_known (n := 2) hts inX6 (hts (.instantiable RX6 2) (by decide +kernel))
  obtain ⟨c7, i7, k7⟩ := u_known (n := 6) hts inX7 (hts (.instantiable RX7 6) (by decide +kernel))
  obtain ⟨c8, i8, k8⟩ := u_known (n := 3) hts inX8 (hts (.instantiable RX8 3) (by decide +kernel))
  obtain ⟨c9, i9, k9⟩ := u_known (n := 10) hts inX9 (hts (.instantiable RX9 10) (by decide +kernel))
  obtain ⟨c10, i10, k10⟩ := u_known (n := 9) hts inX10 (hts (.instantiable RX10 9) (by decide +kernel))
  obtain ⟨a0, p0, n0⟩ := e_arr (hts (.arrayClass .int) (by decide +kernel))
  obtain ⟨a1, p1, n1⟩ := e_arr (hts (.arrayClass .boolean) (by decide +kernel))
  obtain ⟨a2, p2, n2⟩ := e_arr (hts (.arrayClass .char) (by decide +kernel))
  obtain ⟨a5, p5, n5⟩ := e_arr (hts (.arrayClass .byte) (by decide +kernel))
  obtain ⟨m3, a3, kk3, f31, -, f32, f33, f34⟩ := Cond.arrayOver_spec (hts (.arrayOver (.object "SearchKeeper$Root")) (by decide +kernel))
  obtain ⟨m4, a4, kk4, f41, -, f42, f43, f44⟩ := arrayOverA_spec (hts (.arrayOver (.array .int)) (by decide +kernel))
  refine ⟨((fun c => [c0, c1, c2, c3, c4, c5, c6, c7, c8, c9, c10].getD c 0), (fun c => ([i0, i1, i2, i3, i4, i5, i6, i7, i8, i9, i10] : List (Nat → Nat)).getD c (fun _ => 0))), (fun c => [a0, a1, a2, a3, a4, a5].getD c 0), fun c q hq => ?_, fun k q hq => ?_⟩
  · have hc : c < 11 := (List.getElem?_eq_some_iff.mp hq).1
    rcases (show c = 0 ∨ c = 1 ∨ c = 2 ∨ c = 3 ∨ c = 4 ∨ c = 5 ∨ c = 6 ∨ c = 7 ∨ c = 8 ∨ c = 9 ∨ c = 10 by omega) with rfl | rfl | rfl | rfl | rfl | rfl | rfl | rfl | rfl | rfl | rfl
    · cases hq; exact k0
    · cases hq; exact k1
    · cases hq; exact k2
    · cases hq; exact k3
    · cases hq; exact k4
    · cases hq; exact k5
    · cases hq; exact k6
    · cases hq; exact k7
    · cases hq; exact k8
    · cases hq; exact k9
    · cases hq; exact k10
  · have hc : k < 6 := (List.getElem?_eq_some_iff.mp hq).1
    rcases (show k = 0 ∨ k = 1 ∨ k = 2 ∨ k = 3 ∨ k = 4 ∨ k = 5 by omega) with rfl | rfl | rfl | rfl | rfl | rfl
    · cases hq; exact ⟨p0, n0⟩
    · cases hq; exact ⟨p1, n1⟩
    · cases hq; exact ⟨p2, n2⟩
    · cases hq; exact ⟨fun n z => ⟨fun k h => (by cases h), kk3, f32, m3, f33⟩, kk3, m3, f32, f33, f31, f34⟩
    · cases hq; exact ⟨fun n z => ⟨fun k h => (by cases h), kk4, f42, m4, f43⟩, f44⟩
    · cases hq; exact ⟨p5, n5⟩
theorem e_H {a : Array Value} {s : State} (hts : ∀ w ∈ lw_tbl, w.before a s = true) (hgv : (Jvm.Cond.and given_1 narrow_1).before a s = true) {A : Nat → Prop} (hA : ∀ q : Nat, q < s.heap.size → ¬ A q) : jH A s :=
  ⟨vx_Zqof (hts (.laysStatic Bundle.tN "UNASSIGNED_STACK" Bundle.steD) (by decide +kernel)) (hts (.initialized Bundle.tN) (by decide +kernel)) (flat_of_before _ hgv (.isRef (.static Bundle.tN "UNASSIGNED_STACK" Bundle.steD)) (by decide +kernel)) hA, vx_Zqof (hts (.laysStatic Bundle.tN "SUPPRESSED_SENTINEL" Bundle.listD) (by decide +kernel)) (hts (.initialized Bundle.tN) (by decide +kernel)) (flat_of_before _ hgv (.isRef (.static Bundle.tN "SUPPRESSED_SENTINEL" Bundle.listD)) (by decide +kernel)) hA⟩
theorem whole_from (hF : ∀ g : Int32 → Int32, f_L_law g X1 = some 1) {p : Program} {e : Env} {s : State} {m : MethodId} {below : List Frame} {meth : Method} {c : Code} (l : Launch) (hflags : l.flags = flags0) {b L : Nat} {xs : Nat → Int32} (hL : L ≤ 260) (C0 : lw_At p s m meth c b L xs) : W p l e room_1 s m #[Value.ref b] below meth c s.heap [] 0 0 (lw_Z below #[Value.ref b] s) (entryFrame m ([Value.ref b] : List Value).toArray 19) := by
  obtain ⟨hx, hb, hr, hml, hown, hts, hX, hbl, hlocks, hgv⟩ := C0
  obtain ⟨D, cA, hK⟩ := e_K hts
  have hfl : l.stackTraces = false := by
    unfold Launch.stackTraces
    rw [hflags]
    decide +kernel
  have hN := e_jN hts hgv
  have hH := e_H hts hgv (A := fun q : Nat => s.heap.size ≤ q) (fun q h => Nat.not_le.mpr h)
  have hAO : jAO s := ⟨va_AO.of (hts (.arrayOver (.object "SearchKeeper$Root")) (by decide +kernel)), va_AOA.of (hts (.arrayOver (.array .int)) (by decide +kernel))⟩
  have hl := lv_entry [.ref b] (n := 19) (Nat.le_of_ble_eq_true rfl)
  rw [lg_entry_eq]
  have h := law_head (κ := (p, l, e, room_1, s, m, #[Value.ref b], below, meth, c, D, (fun q : Nat => s.heap.size ≤ q), (fun _ => 0), cA, [], lw_Z below #[Value.ref b] s)) (b := b) (g := cellV xs L) (r := 1)
    ⟨hx, hb, hml, hown, fun w hw => hts w (gTbl_in hw), hr, hlocks, hK, fun _ h => h, Nat.le_of_ble_eq_true rfl, Nat.le_of_ble_eq_true rfl, hN⟩ ⟨Nat.le_refl _, Nat.le_refl _, hAO⟩ ⟨hfl, hH⟩ ⟨L, xs, hL, ⟨hX, hbl, Nat.not_le.mpr hbl⟩, fun _ _ => rfl⟩
    ⟨rfl, fun pc H locs ls hd hS => va_forget (fun q hq => hS.2.2 q hq) (lw_ret hx hb hr hlocks hd), rfl, rfl⟩ (hF _)
  have hP0 : va_P D vwCl ([] : va_W) s.heap := fun k q hq => by simp at hq
  have hD0 : va_D (fun q : Nat => s.heap.size ≤ q) ([] : va_W) := ⟨fun i j x y hi => by simp at hi, fun k q hq => by simp at hq⟩
  exact h s.heap [] _ hP0 hD0 va_S.rf hl

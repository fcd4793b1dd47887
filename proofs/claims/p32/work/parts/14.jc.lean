/-! ===== arrays of arrays: their words ===== -/
def va_AOA (ty : FieldType) (U : State) : Prop := (Cond.arrayOver (.array ty)).before #[] U = true
theorem va_AOA.of {ty : FieldType} {A : Array Value} {U : State} (h : (Cond.arrayOver (.array ty)).before A U = true) : va_AOA ty U := h
theorem va_AOA.use {ty : FieldType} {A : Array Value} {U : State} (h : va_AOA ty U) : (Cond.arrayOver (.array ty)).before A U = true := h
theorem va_AOA.moved {ty : FieldType} {u U : State} (hvm : u.vm.Alike U.vm) (h : va_AOA ty u) : va_AOA ty U := by
  obtain ⟨comp, c, k, h1, h2, h3, h4, h5⟩ := arrayOverA_spec h
  obtain ⟨k', hk', he⟩ := hvm.2.2 _ _ h3
  have hi : (U.vm.classes.findIdx? fun (x : Class) => match x.kind with | .array component _ => component == comp | _ => false) = some c := by
    refine (va_idx_bare U.vm comp).symm.trans ?_
    first | rw [hvm.bare_eq] | rw [← hvm.bare_eq]
    exact (va_idx_bare u.vm comp).trans h2
  have hkind : k'.kind = .array comp (.array ty) := by rw [he]; exact h4
  have f1 : U.vm.findClass (FieldType.array ty).toString = some comp := by rw [hvm.findClass]; exact h1
  have f2 : U.vm.findClass ("[" ++ (FieldType.array ty).toString) = some c := by rw [hvm.findClass]; exact h5
  unfold va_AOA Cond.before Cond.holds
  simp only [Cond.value]
  rw [f1, Option.bind_some]
  refine (congrArg (fun o : Option Nat => (o.bind (fun c => (U.vm.classes[c]?).map fun (k : Class) => match k.kind with | .array _ ty9 => decide (ty9 = FieldType.array ty) && decide (U.vm.findClass ("[" ++ (FieldType.array ty).toString) = some c) | _ => false) == some true)) hi).trans ?_
  simp [hk', hkind, f2]
/-! ===== BEGIN new T[n][m]: the outer array a place, the inner ones among the pooled ===== -/
/-- f, but v at every address of l -/
def vr_up {α : Type} (f : Nat → α) (l : List Nat) (v : α) : Nat → α := fun a => if a ∈ l then v else f a
theorem vr_up_in {α : Type} {f : Nat → α} {l : List Nat} {v : α} {a : Nat} (h : a ∈ l) : vr_up f l v a = v := if_pos h
theorem vr_up_ne {α : Type} {f : Nat → α} {l : List Nat} {v : α} {a : Nat} (h : a ∉ l) : vr_up f l v a = f a := if_neg h
theorem vr_rows {L l : List Nat} {f : Nat → va_E} {e : va_E} (h : ∀ a, a ∈ l → a ∉ L) : va_pl L f ++ l.map (fun a => (a, e)) = va_pl (L ++ l) (vr_up f l e) := by
  unfold va_pl
  rw [List.map_append]
  congr 1
  · apply List.map_congr_left
    intro a ha
    rw [vr_up_ne (fun q => h a q ha)]
  · apply List.map_congr_left
    intro a ha
    rw [vr_up_in ha]
theorem vr_lay {X rows : va_W} {x : Nat × va_E} {pl : va_W} {D : va_G} {cl : List vw_C} {H : Heap} (hP : va_P D cl (((X ++ pl) ++ [x]) ++ rows) H) : va_P D cl ((X ++ [x]) ++ (pl ++ rows)) H := by
  rw [List.append_assoc (X ++ pl)] at hP
  have h := va_P.swap hP
  rw [← List.append_assoc X] at h
  have h2 := va_P.swap h
  rw [List.append_assoc (X ++ [x])] at h2
  exact h2
theorem vr_layD {X rows : va_W} {x : Nat × va_E} {pl : va_W} {A : Nat → Prop} (hD : va_D A (((X ++ pl) ++ [x]) ++ rows)) : va_D A ((X ++ [x]) ++ (pl ++ rows)) := by
  rw [List.append_assoc (X ++ pl)] at hD
  have h := va_D.swap hD
  rw [← List.append_assoc X] at h
  have h2 := va_D.swap h
  rw [List.append_assoc (X ++ [x])] at h2
  exact h2
theorem vr_outer (c : ClassId) (N h0 : Nat) : ∀ i : Nat, Jvm.Free.Multi.outerC c N h0 i = arrV c N (fun j => va_rf (if j < i then some (h0 + 1 + j) else none))
  | 0 => by
    show ({ cls := c, slots := Array.replicate N .null, vm := .none } : Cell) = _
    rw [arrV_new]
    refine congrArg (arrV c N) (funext fun j => ?_)
    simp [va_rf]
  | i + 1 => by
    show (Jvm.Free.Multi.outerC c N h0 i).setSlot i (.ref (h0 + 1 + i)) = _
    rw [vr_outer c N h0 i, arrV_store]
    refine congrArg (arrV c N) (funext fun j => ?_)
    by_cases e : j = i
    · subst e
      simp [updV, va_rf]
    · by_cases h : j < i
      · simp [updV, e, h, Nat.lt_succ_of_lt h]
      · simp [updV, e, h, show ¬ j < i + 1 by omega]
section VGM
variable {p : Program} {l : Launch} {e : Env} {R : Room} {s : State} {m : MethodId} {args : Array Value} {below : List Frame} {meth : Method} {c : Code} {H : Heap} {locs : List Loc} {cells slots : Nat} {Q : State → Prop}
variable {cc : ByteArray} {pc : Nat} {ls : Array Slot} {rest : List Value} {D : va_G} {cl : List vw_C} {A : Nat → Prop} {a : Nat} {tys : List (ClassId × FieldType)} {ws : va_W} {H0 : Heap}
theorem va_mna {X : va_W} {L : List Nat} {f : Nat → va_E} {cc : ByteArray} (hexec : p.tables.exec = Jvm.exec) (hb : c.code = cc) {own : String} {index : Nat} {ty : FieldType} {cy : ClassId} (hown : s.vm.findClass own = some m.cls) (hclink : (Cond.classLink own index ("[" ++ (FieldType.array ty).toString)).before args s = true) (hover : va_AOA ty s) (harr : (Cond.arrayClass ty).before args s = true) (hcy : s.vm.findClass (FieldType.array ty).toString = some cy)
    (hK : va_K D cl tys s) (hP : va_P D cl (X ++ va_pl L f) H) (hD : va_D A (X ++ va_pl L f)) (hS : va_S A H0 H locs) (hA : ∀ q, H0.size ≤ q → A q) {n k : Int32} {N' K' : Nat} {z : vp_A} (hn : ¬ n < 0) (hk : ¬ k < 0) (hN : n.toNatClampNeg = N') (hM : k.toNatClampNeg = K')
    (hb1 : N' * 4 ≤ 536870912) (hb2 : K' * componentBytes ty ≤ 536870912) (hb3 : K' ≤ 536870912) (hdf : fits ty (defaultValue ty) = true) (hdd : (defaultValue ty).isDefault = true) (hcells : cells + (1 + N') ≤ R.cells) (hslots : slots + (N' + N' * K') ≤ R.slots) (hz : ∀ c : ClassId, Jvm.Free.Multi.innerC c K' (defaultValue ty) = vp_cell c z) (hdg : decode cc pc = .ok (.multianewarray index 2, 4))
    (kk : ∀ (q : Nat) (r : Nat → Nat) (cA : ClassId) (H1 : Heap), (∀ i j : Nat, i < N' → j < N' → r i = r j → i = j) → (∀ i : Nat, i < N' → r i ∉ L) → va_K D cl (tys ++ [(cA, .array ty)]) s →
      va_P D cl ((X ++ [(q, .inl (cA, N', .inr (.inr (.inr (.inr (fun i => if i < N' then some (r i) else none))))))]) ++ va_pl (L ++ (List.range N').map r) (vr_up f ((List.range N').map r) (.inl (cy, z)))) H1 → va_D A ((X ++ [(q, .inl (cA, N', .inr (.inr (.inr (.inr (fun i => if i < N' then some (r i) else none))))))]) ++ va_pl (L ++ (List.range N').map r) (vr_up f ((List.range N').map r) (.inl (cy, z)))) → va_S A H0 H1 locs →
      W p l e R s m args below meth c H1 locs (cells + 1 + N') (slots + N' + N' * K') Q (F0 m (pc + 4) ls (.ref q :: rest))) : W p l e R s m args below meth c H locs cells slots Q (F0 m pc ls (.int k :: .int n :: rest)) := by
  subst hN
  subst hM
  intro T hT Xs
  obtain ⟨vm₁, cA, comp, -, fA, fC, hO, -, X', step⟩ := Xs.multianewarray2F hexec hown hclink (va_AOA.use hover) harr (g := F0 m pc ls (.int k :: .int n :: rest)) rfl (by rw [hb]; exact hdg) rfl hn hk hb1 hb2 hb3 hdf hdd hcells hslots
  have ec : some cy = some comp := hcy.symm.trans fC
  cases ec
  generalize hF : Jvm.Free.Multi.fill (T.setVm vm₁) cA cy n.toNatClampNeg k.toNatClampNeg (defaultValue ty) n.toNatClampNeg = F at X' step
  have hTh : (T.setVm vm₁).heap = H := hT
  obtain ⟨f1, f2, -, -⟩ := Jvm.Free.Multi.fill_facts (T.setVm vm₁) cA cy n.toNatClampNeg k.toNatClampNeg (defaultValue ty) n.toNatClampNeg
  rw [hF, hTh] at f1 f2
  have hold : ∀ x : Nat, x < H.size → F.heap[x]? = H[x]? := fun x hx => by
    have := Jvm.Free.Multi.fill_old (T.setVm vm₁) cA cy n.toNatClampNeg k.toNatClampNeg (defaultValue ty) (a := x) (by rw [hTh]; exact hx) n.toNatClampNeg
    rw [hF, hTh] at this
    exact this
  have hrow : ∀ j : Nat, j < n.toNatClampNeg → F.heap[H.size + 1 + j]? = some (vp_cell cy z) := fun j hj => by
    have := Jvm.Free.Multi.fill_inner (T.setVm vm₁) cA cy n.toNatClampNeg k.toNatClampNeg (defaultValue ty) n.toNatClampNeg j hj
    rw [hF, hTh, hz] at this
    exact this
  have hout : Jvm.Free.Multi.outerC cA n.toNatClampNeg H.size n.toNatClampNeg = vp_cell cA (n.toNatClampNeg, .inr (.inr (.inr (.inr (fun i => if i < n.toNatClampNeg then some (H.size + 1 + i) else none))))) := by
    rw [vp_cell_q]
    exact vr_outer cA n.toNatClampNeg H.size n.toNatClampNeg
  rw [hout] at f2
  have hlt : ∀ a, a ∈ L → a < H.size := fun a ha => by
    obtain ⟨k9, hk9⟩ := va_pl_get (X := X) (f := f) ha
    exact (hP k9 _ hk9).lt
  have hnl : ∀ i : Nat, i < n.toNatClampNeg → H.size + 1 + i ∉ L := fun i _ h => by
    have := hlt _ h
    omega
  have hnm : ∀ a, a ∈ (List.range n.toNatClampNeg).map (fun i => H.size + 1 + i) → a ∉ L := fun a ha h => by
    obtain ⟨i, -, rfl⟩ := List.mem_map.mp ha
    have := hlt _ h
    omega
  have hP0 : va_P D cl (X ++ va_pl L f) F.heap := hP.kept (fun k9 x hx => hold x.1 ((hP k9 x hx).lt))
  have hP1 : va_P D cl ((X ++ va_pl L f) ++ [(H.size, .inl (cA, n.toNatClampNeg, .inr (.inr (.inr (.inr (fun i => if i < n.toNatClampNeg then some (H.size + 1 + i) else none))))))]) F.heap := hP0.app (fun k9 x hx => by
    have h0 : k9 < 1 := (List.getElem?_eq_some_iff.mp hx).1
    rw [show k9 = 0 by omega] at hx
    cases hx
    exact f2)
  have hP2 : va_P D cl (((X ++ va_pl L f) ++ [(H.size, .inl (cA, n.toNatClampNeg, .inr (.inr (.inr (.inr (fun i => if i < n.toNatClampNeg then some (H.size + 1 + i) else none))))))]) ++ ((List.range n.toNatClampNeg).map (fun i => H.size + 1 + i)).map (fun a => (a, .inl (cy, z)))) F.heap := hP1.app (fun k9 x hx => by
    obtain ⟨a, ha, rfl⟩ := List.mem_map.mp (List.mem_of_getElem? hx)
    obtain ⟨i, hi, rfl⟩ := List.mem_map.mp ha
    exact hrow i (List.mem_range.mp hi))
  have hD2 : va_D A (((X ++ va_pl L f) ++ [(H.size, .inl (cA, n.toNatClampNeg, .inr (.inr (.inr (.inr (fun i => if i < n.toNatClampNeg then some (H.size + 1 + i) else none))))))]) ++ ((List.range n.toNatClampNeg).map (fun i => H.size + 1 + i)).map (fun a => (a, .inl (cy, z)))) := by
    have hD1 := hD.push (e := .inl (cA, n.toNatClampNeg, .inr (.inr (.inr (.inr (fun i => if i < n.toNatClampNeg then some (H.size + 1 + i) else none)))))) hP rfl (hA _ hS.1)
    generalize hW1 : (X ++ va_pl L f) ++ [(H.size, .inl (cA, n.toNatClampNeg, .inr (.inr (.inr (.inr (fun i => if i < n.toNatClampNeg then some (H.size + 1 + i) else none))))))] = W1 at hD1 hP1 ⊢
    have hle : ∀ (k9 : Nat) (x : Nat × va_E), W1[k9]? = some x → x.1 ≤ H.size := fun k9 x hx => by
      rw [← hW1] at hx
      by_cases hl : k9 < (X ++ va_pl L f).length
      · rw [List.getElem?_append_left hl] at hx
        exact Nat.le_of_lt ((hP k9 x hx).lt)
      · rw [List.getElem?_append_right (by omega)] at hx
        have h0 : k9 - (X ++ va_pl L f).length < 1 := (List.getElem?_eq_some_iff.mp hx).1
        rw [show k9 - (X ++ va_pl L f).length = 0 by omega] at hx
        cases hx
        exact Nat.le_refl _
    have hr : ∀ (k9 : Nat) (x : Nat × va_E), (((List.range n.toNatClampNeg).map (fun i => H.size + 1 + i)).map (fun a => ((a, .inl (cy, z)) : Nat × va_E)))[k9]? = some x → x.1 = H.size + 1 + k9 := fun k9 x hx => by
      rw [List.getElem?_map, List.getElem?_map] at hx
      by_cases h9 : k9 < n.toNatClampNeg
      · rw [List.getElem?_range h9] at hx
        cases hx
        rfl
      · have hn0 : (List.range n.toNatClampNeg)[k9]? = none := List.getElem?_eq_none (by rw [List.length_range]; omega)
        rw [hn0] at hx
        cases hx
    refine ⟨fun i j x y hi hj hxy => ?_, fun k9 x hx => ?_⟩
    · by_cases h1 : i < W1.length <;> by_cases h2 : j < W1.length
      · rw [List.getElem?_append_left h1] at hi
        rw [List.getElem?_append_left h2] at hj
        exact hD1.1 i j x y hi hj hxy
      · rw [List.getElem?_append_left h1] at hi
        rw [List.getElem?_append_right (by omega)] at hj
        have := hle _ _ hi
        have := hr _ _ hj
        omega
      · rw [List.getElem?_append_right (by omega)] at hi
        rw [List.getElem?_append_left h2] at hj
        have := hle _ _ hj
        have := hr _ _ hi
        omega
      · rw [List.getElem?_append_right (by omega)] at hi hj
        have := hr _ _ hi
        have := hr _ _ hj
        omega
    · by_cases h1 : k9 < W1.length
      · rw [List.getElem?_append_left h1] at hx
        exact hD1.2 k9 x hx
      · rw [List.getElem?_append_right (by omega)] at hx
        have := hr _ _ hx
        exact hA _ (by have := hS.1; omega)
  have hAr : ArrOfT s cA (.array ty) := fun N9 z9 => by
    obtain ⟨-, k9, hk9, cm9, hkk9⟩ := (hO 0 0 0).1
    exact ⟨(fun q hq => by cases hq), k9, hk9, cm9, hkk9⟩
  have hK2 : va_K D cl (tys ++ [(cA, .array ty)]) s := ⟨hK.1, fun k9 x hx => by
    by_cases hl : k9 < tys.length
    · rw [List.getElem?_append_left hl] at hx
      exact hK.2 k9 x hx
    · rw [List.getElem?_append_right (by omega)] at hx
      have h0 : k9 - tys.length < 1 := (List.getElem?_eq_some_iff.mp hx).1
      rw [show k9 - tys.length = 0 by omega] at hx
      cases hx
      exact ⟨hAr, fA⟩⟩
  obtain ⟨t, a1, b1⟩ := kk H.size (fun i => H.size + 1 + i) cA F.heap (fun i j _ _ h => by have h9 : H.size + 1 + i = H.size + 1 + j := h; omega) hnl hK2 (by rw [← vr_rows hnm]; exact vr_lay hP2) (by rw [← vr_rows hnm]; exact vr_layD hD2) ⟨by rw [f1]; have := hS.1; omega, fun x h1 h2 => (hold x (Nat.lt_of_lt_of_le h1 hS.1)).trans (hS.2.1 x h1 h2), hS.2.2⟩ F rfl X'
  refine ⟨t, step t ?_, b1⟩
  have e : T.heap.size = H.size := by rw [hT]
  rw [e]
  exact a1
end VGM
/-! ===== END ===== -/
def jAO (U : State) : Prop := va_AO "SearchKeeper$Root" U ∧ va_AOA .int U
theorem jAO.moved {u U : State} (hvm : u.vm.Alike U.vm) (h : jAO u) : jAO U := ⟨va_AO.moved hvm h.1, va_AOA.moved hvm h.2⟩
def JC (n : Nat) (κ : JK) (kc ks : Nat) (ws : va_W) (pc : Nat) (lv : List (Nat × Value)) (st : List Value) : Prop := match κ with
  | (p, l, e, R, s, m, args, below, meth, c, D, A, _, _, _, Q) => ∀ (H : Heap) (locs : List Loc) (ls : Array Slot), va_P D vwCl ws H → va_D A ws → va_S A s.heap H locs → lv_has ls n lv → W p l e R s m args below meth c H locs kc ks Q (F0 m pc ls st)
def jcA (κ : JK) : Nat → ClassId := κ.2.2.2.2.2.2.2.2.2.2.2.2.2.1
def jRc (mc ms : Nat) (κ : JK) : Prop := match κ with
  | (_, _, _, R, s, _, _, _, _, _, _, _, _, _, _, _) => mc ≤ R.cells ∧ ms ≤ R.slots ∧ jAO s
def jIn (κ : JK) : Prop := match κ with
  | (_, _, _, _, _, _, _, _, meth, _, _, _, _, _, _, _) => meth.name = "<init>"
def jFc (post : va_W → Prop) (ws0 : va_W) (mc ms : Nat) (κ : JK) : Prop := match κ with
  | (_, _, _, _, s, _, args, below, _, _, D, A, _, _, _, Q) => A = va_A ws0 s.heap.size ∧ Q = MQ below (fun _ st oc t => (oc = .returned none ∧ ∃ ws1, post ws1 ∧ va_P D vwCl ws1 t.heap ∧ va_D A ws1) ∧ va_F A st t) args s mc ms A
section JC1
variable {n : Nat} {cc : ByteArray} {own : String} {ret : Option FieldType} {d : Nat} {κ : JK} {kc ks mc ms : Nat} {ws ws' : va_W} {pc : Nat} {lv : List (Nat × Value)} {st : List Value}

theorem jc_iconst (K : jOk n cc own ret d κ) {z : Int} {v : Int32} (dg : decode cc pc = .ok (.iconst z, 1)) (hv : Int32.ofInt z = v) (k : JC n κ kc ks ws (pc + 1) lv (.int v :: st)) : JC n κ kc ks ws pc lv st := by
  obtain ⟨p, l, e, R, s, m, args, below, meth, c, D, A, ad, cA, rs, Q⟩ := κ
  obtain ⟨hx, hb, hml, hown, hts, hr0, hlk, hK, hA, hfr, hlo, hN⟩ := K
  intro H locs ls hP hD hS hl
  exact lv_iconst hx hb dg hv (k H locs ls hP hD hS hl)
theorem jc_bipush (K : jOk n cc own ret d κ) {z : Int} {v : Int32} (dg : decode cc pc = .ok (.bipush z, 2)) (hv : (Int8.ofInt z).toInt32 = v) (k : JC n κ kc ks ws (pc + 2) lv (.int v :: st)) : JC n κ kc ks ws pc lv st := by
  obtain ⟨p, l, e, R, s, m, args, below, meth, c, D, A, ad, cA, rs, Q⟩ := κ
  obtain ⟨hx, hb, hml, hown, hts, hr0, hlk, hK, hA, hfr, hlo, hN⟩ := K
  intro H locs ls hP hD hS hl
  exact lv_bipush hx hb dg hv (k H locs ls hP hD hS hl)
theorem jc_sipush (K : jOk n cc own ret d κ) {z : Int} {v : Int32} (dg : decode cc pc = .ok (.sipush z, 3)) (hv : (Int16.ofInt z).toInt32 = v) (k : JC n κ kc ks ws (pc + 3) lv (.int v :: st)) : JC n κ kc ks ws pc lv st := by
  obtain ⟨p, l, e, R, s, m, args, below, meth, c, D, A, ad, cA, rs, Q⟩ := κ
  obtain ⟨hx, hb, hml, hown, hts, hr0, hlk, hK, hA, hfr, hlo, hN⟩ := K
  intro H locs ls hP hD hS hl
  exact lv_sipush hx hb dg hv (k H locs ls hP hD hS hl)
theorem jc_iload_n (K : jOk n cc own ret d κ) {i : Fin 4} {x : Int32} (dg : decode cc pc = .ok (.iload_n i, 1)) (q : Nat) (h : lv[q]? = some ((i : Nat), .int x)) (k : JC n κ kc ks ws (pc + 1) lv (.int x :: st)) : JC n κ kc ks ws pc lv st := by
  obtain ⟨p, l, e, R, s, m, args, below, meth, c, D, A, ad, cA, rs, Q⟩ := κ
  obtain ⟨hx, hb, hml, hown, hts, hr0, hlk, hK, hA, hfr, hlo, hN⟩ := K
  intro H locs ls hP hD hS hl
  exact lv_iload_n hx hb dg rfl (lv_at hl q h) (k H locs ls hP hD hS hl)
theorem jc_iload (K : jOk n cc own ret d κ) {i : Nat} {x : Int32} (dg : decode cc pc = .ok (.iload i, 2)) (q : Nat) (h : lv[q]? = some (i, .int x)) (k : JC n κ kc ks ws (pc + 2) lv (.int x :: st)) : JC n κ kc ks ws pc lv st := by
  obtain ⟨p, l, e, R, s, m, args, below, meth, c, D, A, ad, cA, rs, Q⟩ := κ
  obtain ⟨hx, hb, hml, hown, hts, hr0, hlk, hK, hA, hfr, hlo, hN⟩ := K
  intro H locs ls hP hD hS hl
  exact lv_iload hx hb dg (lv_at hl q h) (k H locs ls hP hD hS hl)
theorem jc_aload_n (K : jOk n cc own ret d κ) {i : Fin 4} {x : Nat} (dg : decode cc pc = .ok (.aload_n i, 1)) (q : Nat) (h : lv[q]? = some ((i : Nat), .ref x)) (k : JC n κ kc ks ws (pc + 1) lv (.ref x :: st)) : JC n κ kc ks ws pc lv st := by
  obtain ⟨p, l, e, R, s, m, args, below, meth, c, D, A, ad, cA, rs, Q⟩ := κ
  obtain ⟨hx, hb, hml, hown, hts, hr0, hlk, hK, hA, hfr, hlo, hN⟩ := K
  intro H locs ls hP hD hS hl
  exact lv_aload_n hx hb dg rfl (lv_at hl q h) (k H locs ls hP hD hS hl)
theorem jc_aload (K : jOk n cc own ret d κ) {i : Nat} {x : Nat} (dg : decode cc pc = .ok (.aload i, 2)) (q : Nat) (h : lv[q]? = some (i, .ref x)) (k : JC n κ kc ks ws (pc + 2) lv (.ref x :: st)) : JC n κ kc ks ws pc lv st := by
  obtain ⟨p, l, e, R, s, m, args, below, meth, c, D, A, ad, cA, rs, Q⟩ := κ
  obtain ⟨hx, hb, hml, hown, hts, hr0, hlk, hK, hA, hfr, hlo, hN⟩ := K
  intro H locs ls hP hD hS hl
  exact lv_aload hx hb dg (lv_at hl q h) (k H locs ls hP hD hS hl)
theorem jc_istore_n (K : jOk n cc own ret d κ) {i : Fin 4} {x : Int32} (dg : decode cc pc = .ok (.istore_n i, 1)) (hn : (i : Nat) < n) (k : JC n κ kc ks ws (pc + 1) (jst (i : Nat) (.int x) lv) st) : JC n κ kc ks ws pc lv (.int x :: st) := by
  obtain ⟨p, l, e, R, s, m, args, below, meth, c, D, A, ad, cA, rs, Q⟩ := κ
  obtain ⟨hx, hb, hml, hown, hts, hr0, hlk, hK, hA, hfr, hlo, hN⟩ := K
  intro H locs ls hP hD hS hl
  exact lv_istore_n hx hb dg rfl hl hn rfl (fun ls hl => k H locs ls hP hD hS hl)
theorem jc_istore (K : jOk n cc own ret d κ) {i : Nat} {x : Int32} (dg : decode cc pc = .ok (.istore i, 2)) (hn : i < n) (k : JC n κ kc ks ws (pc + 2) (jst i (.int x) lv) st) : JC n κ kc ks ws pc lv (.int x :: st) := by
  obtain ⟨p, l, e, R, s, m, args, below, meth, c, D, A, ad, cA, rs, Q⟩ := κ
  obtain ⟨hx, hb, hml, hown, hts, hr0, hlk, hK, hA, hfr, hlo, hN⟩ := K
  intro H locs ls hP hD hS hl
  exact lv_istore hx hb dg hl hn rfl (fun ls hl => k H locs ls hP hD hS hl)
theorem jc_astore_n (K : jOk n cc own ret d κ) {i : Fin 4} {x : Nat} (dg : decode cc pc = .ok (.astore_n i, 1)) (hn : (i : Nat) < n) (k : JC n κ kc ks ws (pc + 1) (jst (i : Nat) (.ref x) lv) st) : JC n κ kc ks ws pc lv (.ref x :: st) := by
  obtain ⟨p, l, e, R, s, m, args, below, meth, c, D, A, ad, cA, rs, Q⟩ := κ
  obtain ⟨hx, hb, hml, hown, hts, hr0, hlk, hK, hA, hfr, hlo, hN⟩ := K
  intro H locs ls hP hD hS hl
  exact lv_astore_n hx hb dg rfl hl hn rfl (fun ls hl => k H locs ls hP hD hS hl)
theorem jc_astore (K : jOk n cc own ret d κ) {i : Nat} {x : Nat} (dg : decode cc pc = .ok (.astore i, 2)) (hn : i < n) (k : JC n κ kc ks ws (pc + 2) (jst i (.ref x) lv) st) : JC n κ kc ks ws pc lv (.ref x :: st) := by
  obtain ⟨p, l, e, R, s, m, args, below, meth, c, D, A, ad, cA, rs, Q⟩ := κ
  obtain ⟨hx, hb, hml, hown, hts, hr0, hlk, hK, hA, hfr, hlo, hN⟩ := K
  intro H locs ls hP hD hS hl
  exact lv_astore hx hb dg hl hn rfl (fun ls hl => k H locs ls hP hD hS hl)
theorem jc_iinc (K : jOk n cc own ret d κ) {i : Nat} {z : Int} {x v : Int32} (dg : decode cc pc = .ok (.iinc i z, 3)) (q : Nat) (h : lv[q]? = some (i, .int x)) (hz : x + Int32.ofInt z = v) (hn : i < n) (k : JC n κ kc ks ws (pc + 3) (jst i (.int v) lv) st) : JC n κ kc ks ws pc lv st := by
  obtain ⟨p, l, e, R, s, m, args, below, meth, c, D, A, ad, cA, rs, Q⟩ := κ
  obtain ⟨hx, hb, hml, hown, hts, hr0, hlk, hK, hA, hfr, hlo, hN⟩ := K
  intro H locs ls hP hD hS hl
  exact lv_iinc hx hb dg hl h hz hn rfl (fun ls hl => k H locs ls hP hD hS hl)
theorem jc_dup (K : jOk n cc own ret d κ) {v : Value} (dg : decode cc pc = .ok (.dup, 1)) (hv : v.category = 1) (k : JC n κ kc ks ws (pc + 1) lv (v :: v :: st)) : JC n κ kc ks ws pc lv (v :: st) := by
  obtain ⟨p, l, e, R, s, m, args, below, meth, c, D, A, ad, cA, rs, Q⟩ := κ
  obtain ⟨hx, hb, hml, hown, hts, hr0, hlk, hK, hA, hfr, hlo, hN⟩ := K
  intro H locs ls hP hD hS hl
  exact lv_dup hx hb dg hv (k H locs ls hP hD hS hl)
theorem jc_goto (K : jOk n cc own ret d κ) {off : Int} {tgt : Nat} (dg : decode cc pc = .ok (.goto off, 3)) (ht : (pc : Int) + off = (tgt : Int)) (k : JC n κ kc ks ws tgt lv st) : JC n κ kc ks ws pc lv st := by
  obtain ⟨p, l, e, R, s, m, args, below, meth, c, D, A, ad, cA, rs, Q⟩ := κ
  obtain ⟨hx, hb, hml, hown, hts, hr0, hlk, hK, hA, hfr, hlo, hN⟩ := K
  intro H locs ls hP hD hS hl
  exact lv_goto hx hb dg ht (k H locs ls hP hD hS hl)
theorem jc_icmp_ge (K : jOk n cc own ret d κ) {x y : Int32} {off : Int} {tgt : Nat} (dg : decode cc pc = .ok (.if_icmp .ge off, 3)) (ht : (pc : Int) + off = (tgt : Int)) (kt : y ≤ x → JC n κ kc ks ws tgt lv st) (kf : ¬ y ≤ x → JC n κ kc ks ws (pc + 3) lv st) : JC n κ kc ks ws pc lv (.int y :: .int x :: st) := by
  obtain ⟨p, l, e, R, s, m, args, below, meth, c, D, A, ad, cA, rs, Q⟩ := κ
  obtain ⟨hx, hb, hml, hown, hts, hr0, hlk, hK, hA, hfr, hlo, hN⟩ := K
  intro H locs ls hP hD hS hl
  exact lv_icmp_ge hx hb dg ht (fun h => kt h H locs ls hP hD hS hl) (fun h => kf h H locs ls hP hD hS hl)
theorem jc_sub {lv' : List (Nat × Value)} (ks9 : List Nat) (h : lv_pick lv ks9 = lv') (k : JC n κ kc ks ws pc lv' st) : JC n κ kc ks ws pc lv st := by
  obtain ⟨p, l, e, R, s, m, args, below, meth, c, D, A, ad, cA, rs, Q⟩ := κ
  intro H locs ls hP hD hS hl
  exact k H locs ls hP hD hS (lv_sub hl ks9 h)
theorem jc_eq (h : ws = ws') (k : JC n κ kc ks ws' pc lv st) : JC n κ kc ks ws pc lv st := by rw [h]; exact k
def OIk (own : String) (idx : Nat) : Prop := Cond.methodLink own idx Lib.objectInit ∈ gTbl ∧ Cond.instanceMethod Lib.objectInit ∈ gTbl ∧ Cond.code Lib.objectInit ⟨#[0xb1]⟩ 1 none ∈ gTbl
theorem jc_objInit (K : jOk n cc own ret d κ) {idx a : Nat} (oi : OIk own idx) (hd : 1 ≤ d) (hst : (st.map fun v => v.category).sum ≤ 8) (dg : decode cc pc = .ok (.invokespecial idx, 3)) (k : JC n κ kc ks ws (pc + 3) lv st) : JC n κ kc ks ws pc lv (.ref a :: st) := by
  obtain ⟨p, l, e, R, s, m, args, below, meth, c, D, A, ad, cA, rs, Q⟩ := κ
  obtain ⟨hx, hb, hml, hown, hts, hr0, hlk, hK, hA, hfr, hlo, hN⟩ := K
  intro H locs ls hP hD hS hl
  exact W.objInit (g := F0 m pc ls (.ref a :: st)) hx hb hown (hts _ oi.1) (hts _ oi.2.1) (hts _ oi.2.2) rfl (hl.1.trans hml.symm) rfl dg (by omega) (by show 2 * 0 + _ + 12 ≤ _; omega) (k H locs ls hP hD hS hl)
def NWk (own : String) (idx ci N : Nat) (fs : List Value) : Prop := ∃ (q : vw_C) (ty0 : Nat → FieldType), vwCl[ci]? = some q ∧ q.2.2 = N ∧ (∀ w ∈ u_ws q.1 q.2.1 q.2.2, w ∈ gTbl) ∧ (∀ k, k < q.2.2 → parseFieldDescriptor (q.2.1 k).2.2.1 = some (ty0 k)) ∧ Cond.classLink own idx q.1 ∈ gTbl ∧ Cond.instantiable q.1 q.2.2 ∈ gTbl ∧ Cond.initialized q.1 ∈ gTbl ∧ ∀ j, j < q.2.2 → defaultValue (ty0 j) = vp_V fs j
theorem jc_new (K : jOk n cc own ret d κ) (G : jRc mc ms κ) {idx ci N : Nat} {fs : List Value} (nw : NWk own idx ci N fs) (h1 : kc + 1 ≤ mc) (h2 : ks + N ≤ ms) (dg : decode cc pc = .ok (.new idx, 3)) (kk : ∀ q, JC n κ (kc + 1) (ks + N) (ws ++ [(q, .inr (ci, fs))]) (pc + 3) lv (.ref q :: st)) : JC n κ kc ks ws pc lv st := by
  obtain ⟨p, l, e, R, s, m, args, below, meth, c, D, A, ad, cA, rs, Q⟩ := κ
  obtain ⟨hx, hb, hml, hown, hts, hr0, hlk, hK, hA, hfr, hlo, hN⟩ := K
  intro H locs ls hP hD hS hl
  obtain ⟨hRc, hRs, hAO⟩ := (show mc ≤ R.cells ∧ ms ≤ R.slots ∧ jAO s from G)
  obtain ⟨⟨C, T, N9⟩, ty0, g1, g2, g3, g4, g5, g6, g7, g8⟩ := nw
  have g2 : N9 = N := g2
  subst g2
  exact va_new hx hb hts g3 ty0 g4 hown (hts _ g5) (hts _ g6) (hts _ g7) hK hP hD hS hA g1 g8 (by omega) (by omega) dg (fun q H hP hD hS => kk q H locs ls hP hD hS hl)
theorem jc_newarrI (K : jOk n cc own ret d κ) (G : jRc mc ms κ) {v : Int32} {N : Nat} (ha : Cond.arrayClass .int ∈ gTbl) (hn : ¬ v < 0) (hN9 : v.toNatClampNeg = N) (hb9 : N * componentBytes .int ≤ 536870912) (h1 : kc + 1 ≤ mc) (h2 : ks + N ≤ ms) (dg : decode cc pc = .ok (.newarray .int, 2)) (kk : ∀ q, JC n κ (kc + 1) (ks + N) (ws ++ [(q, .inl (jcA κ 0, (N, .inl (fun _ => 0))))]) (pc + 2) lv (.ref q :: st)) : JC n κ kc ks ws pc lv (.int v :: st) := by
  obtain ⟨p, l, e, R, s, m, args, below, meth, c, D, A, ad, cA, rs, Q⟩ := κ
  obtain ⟨hx, hb, hml, hown, hts, hr0, hlk, hK, hA, hfr, hlo, hN⟩ := K
  intro H locs ls hP hD hS hl
  obtain ⟨hRc, hRs, hAO⟩ := (show mc ≤ R.cells ∧ ms ≤ R.slots ∧ jAO s from G)
  refine va_newa (atype := .int) (a0 := (N, .inl (fun _ => 0))) (ty := .int) hx hb (hts _ ha) rfl hK hP hD hS hA (fun _ => rfl) hn hN9 hb9 (by omega) (by omega) dg (fun q cA9 H hK9 hP hD hS => ?_)
  have f1 : s.vm.findClass ("[" ++ (.int : FieldType).toString) = some (cA 0) := (hK.2 0 _ rfl).2
  have f2 : s.vm.findClass ("[" ++ (.int : FieldType).toString) = some cA9 := (hK9.2 6 (cA9, .int) rfl).2
  have f3 : cA9 = cA 0 := Option.some.inj (f2.symm.trans f1)
  rw [f3] at hP hD
  exact kk q H locs ls hP hD hS hl
theorem jc_newarrZ (K : jOk n cc own ret d κ) (G : jRc mc ms κ) {v : Int32} {N : Nat} (ha : Cond.arrayClass .boolean ∈ gTbl) (hn : ¬ v < 0) (hN9 : v.toNatClampNeg = N) (hb9 : N * componentBytes .boolean ≤ 536870912) (h1 : kc + 1 ≤ mc) (h2 : ks + N ≤ ms) (dg : decode cc pc = .ok (.newarray .boolean, 2)) (kk : ∀ q, JC n κ (kc + 1) (ks + N) (ws ++ [(q, .inl (jcA κ 1, (N, .inl (fun _ => 0))))]) (pc + 2) lv (.ref q :: st)) : JC n κ kc ks ws pc lv (.int v :: st) := by
  obtain ⟨p, l, e, R, s, m, args, below, meth, c, D, A, ad, cA, rs, Q⟩ := κ
  obtain ⟨hx, hb, hml, hown, hts, hr0, hlk, hK, hA, hfr, hlo, hN⟩ := K
  intro H locs ls hP hD hS hl
  obtain ⟨hRc, hRs, hAO⟩ := (show mc ≤ R.cells ∧ ms ≤ R.slots ∧ jAO s from G)
  refine va_newa (atype := .boolean) (a0 := (N, .inl (fun _ => 0))) (ty := .boolean) hx hb (hts _ ha) rfl hK hP hD hS hA (fun _ => rfl) hn hN9 hb9 (by omega) (by omega) dg (fun q cA9 H hK9 hP hD hS => ?_)
  have f1 : s.vm.findClass ("[" ++ (.boolean : FieldType).toString) = some (cA 1) := (hK.2 1 _ rfl).2
  have f2 : s.vm.findClass ("[" ++ (.boolean : FieldType).toString) = some cA9 := (hK9.2 6 (cA9, .boolean) rfl).2
  have f3 : cA9 = cA 1 := Option.some.inj (f2.symm.trans f1)
  rw [f3] at hP hD
  exact kk q H locs ls hP hD hS hl
theorem jc_newarrC (K : jOk n cc own ret d κ) (G : jRc mc ms κ) {v : Int32} {N : Nat} (ha : Cond.arrayClass .char ∈ gTbl) (hn : ¬ v < 0) (hN9 : v.toNatClampNeg = N) (hb9 : N * componentBytes .char ≤ 536870912) (h1 : kc + 1 ≤ mc) (h2 : ks + N ≤ ms) (dg : decode cc pc = .ok (.newarray .char, 2)) (kk : ∀ q, JC n κ (kc + 1) (ks + N) (ws ++ [(q, .inl (jcA κ 2, (N, .inl (fun _ => 0))))]) (pc + 2) lv (.ref q :: st)) : JC n κ kc ks ws pc lv (.int v :: st) := by
  obtain ⟨p, l, e, R, s, m, args, below, meth, c, D, A, ad, cA, rs, Q⟩ := κ
  obtain ⟨hx, hb, hml, hown, hts, hr0, hlk, hK, hA, hfr, hlo, hN⟩ := K
  intro H locs ls hP hD hS hl
  obtain ⟨hRc, hRs, hAO⟩ := (show mc ≤ R.cells ∧ ms ≤ R.slots ∧ jAO s from G)
  refine va_newa (atype := .char) (a0 := (N, .inl (fun _ => 0))) (ty := .char) hx hb (hts _ ha) rfl hK hP hD hS hA (fun _ => rfl) hn hN9 hb9 (by omega) (by omega) dg (fun q cA9 H hK9 hP hD hS => ?_)
  have f1 : s.vm.findClass ("[" ++ (.char : FieldType).toString) = some (cA 2) := (hK.2 2 _ rfl).2
  have f2 : s.vm.findClass ("[" ++ (.char : FieldType).toString) = some cA9 := (hK9.2 6 (cA9, .char) rfl).2
  have f3 : cA9 = cA 2 := Option.some.inj (f2.symm.trans f1)
  rw [f3] at hP hD
  exact kk q H locs ls hP hD hS hl
theorem jc_newq (K : jOk n cc own ret d κ) (G : jRc mc ms κ) {v : Int32} {N idx : Nat} (hcl : Cond.classLink own idx "SearchKeeper$Root" ∈ gTbl) (hn : ¬ v < 0) (hN9 : v.toNatClampNeg = N) (hb9 : N * 4 ≤ 536870912) (h1 : kc + 1 ≤ mc) (h2 : ks + N ≤ ms) (dg : decode cc pc = .ok (.anewarray idx, 3)) (kk : ∀ q, JC n κ (kc + 1) (ks + N) (ws ++ [(q, .inl (jcA κ 3, (N, .inr (.inr (.inr (.inr (fun _ => none)))))))]) (pc + 3) lv (.ref q :: st)) : JC n κ kc ks ws pc lv (.int v :: st) := by
  obtain ⟨p, l, e, R, s, m, args, below, meth, c, D, A, ad, cA, rs, Q⟩ := κ
  obtain ⟨hx, hb, hml, hown, hts, hr0, hlk, hK, hA, hfr, hlo, hN⟩ := K
  intro H locs ls hP hD hS hl
  obtain ⟨hRc, hRs, hAO⟩ := (show mc ≤ R.cells ∧ ms ≤ R.slots ∧ jAO s from G)
  refine va_newq hx hb hown (hts _ hcl) hAO.1 hK hP hD hS hA hn hN9 hb9 (by omega) (by omega) dg (fun q cA9 H hK9 hP hD hS => ?_)
  obtain ⟨kA, comp, k1, k2, k3, f1⟩ := (hK.2 3 _ rfl).2
  obtain ⟨kA', comp', k1', k2', k3', f2⟩ := (hK9.2 6 (cA9, .object "SearchKeeper$Root") rfl).2
  have f3 : cA9 = cA 3 := Option.some.inj (f2.symm.trans f1)
  rw [f3] at hP hD
  exact kk q H locs ls hP hD hS hl
def rowsL (cI : ClassId) (N K : Nat) (r : Nat → Nat) : va_W := (List.range N).map fun i => (r i, .inl (cI, (K, .inl (fun _ => 0))))
theorem jc_mna (K : jOk n cc own ret d κ) (G : jRc mc ms κ) {n9 k9 : Int32} {N9 K9 idx : Nat} (hcl : Cond.classLink own idx ("[" ++ (FieldType.array .int).toString) ∈ gTbl) (ha : Cond.arrayClass .int ∈ gTbl) (hn : ¬ n9 < 0) (hk9 : ¬ k9 < 0) (hN9 : n9.toNatClampNeg = N9) (hK9 : k9.toNatClampNeg = K9) (hb1 : N9 * 4 ≤ 536870912) (hb2 : K9 * componentBytes .int ≤ 536870912) (hb3 : K9 ≤ 536870912) (h1 : kc + (1 + N9) ≤ mc) (h2 : ks + (N9 + N9 * K9) ≤ ms) (dg : decode cc pc = .ok (.multianewarray idx 2, 4)) (kk : ∀ (q : Nat) (r : Nat → Nat), JC n κ (kc + 1 + N9) (ks + N9 + N9 * K9) (ws ++ ([(q, .inl (jcA κ 4, (N9, .inr (.inr (.inr (.inr (fun i => if i < N9 then some (r i) else none)))))))] ++ rowsL (jcA κ 0) N9 K9 r)) (pc + 4) lv (.ref q :: st)) : JC n κ kc ks ws pc lv (.int k9 :: .int n9 :: st) := by
  obtain ⟨p, l, e, R, s, m, args, below, meth, c, D, A, ad, cA, rs, Q⟩ := κ
  obtain ⟨hx, hb, hml, hown, hts, hr0, hlk, hK, hA, hfr, hlo, hN⟩ := K
  intro H locs ls hP hD hS hl
  obtain ⟨hRc, hRs, hAO⟩ := (show mc ≤ R.cells ∧ ms ≤ R.slots ∧ jAO s from G)
  have f1 : s.vm.findClass (FieldType.array .int).toString = some (cA 0) := (hK.2 0 _ rfl).2
  have e0 : ws ++ va_pl [] (fun _ => .inl (cA 0, (K9, .inl (fun _ => 0)))) = ws := by simp [va_pl]
  refine va_mna (X := ws) (L := []) (f := fun _ => .inl (cA 0, (K9, .inl (fun _ => 0)))) (z := (K9, .inl (fun _ => 0))) hx hb hown (hts _ hcl) hAO.2 (hts _ ha) f1 hK (by rw [e0]; exact hP) (by rw [e0]; exact hD) hS hA hn hk9 hN9 hK9 hb1 hb2 hb3 rfl rfl (by omega) (by omega) (fun c9 => arrV_new c9 K9 (.int 0)) dg (fun q r cA9 H hinj hnot hKK hP hD hS => ?_)
  have g1 : s.vm.findClass ("[" ++ (FieldType.array .int).toString) = some (cA 4) := (hK.2 4 _ rfl).2
  have g2 : s.vm.findClass ("[" ++ (FieldType.array .int).toString) = some cA9 := (hKK.2 6 (cA9, .array .int) rfl).2
  have g3 : cA9 = cA 4 := Option.some.inj (g2.symm.trans g1)
  rw [g3] at hP hD
  have e1 : (ws ++ [(q, (Sum.inl (cA 4, N9, Sum.inr (Sum.inr (Sum.inr (Sum.inr (fun i => if i < N9 then some (r i) else none))))) : va_E))]) ++ va_pl ([] ++ (List.range N9).map r) (vr_up (fun _ => .inl (cA 0, (K9, .inl (fun _ => 0)))) ((List.range N9).map r) (.inl (cA 0, (K9, .inl (fun _ => 0))))) = ws ++ ([(q, .inl (cA 4, (N9, .inr (.inr (.inr (.inr (fun i => if i < N9 then some (r i) else none)))))))] ++ rowsL (cA 0) N9 K9 r) := by
    rw [List.append_assoc, List.nil_append]
    congr 2
    unfold va_pl rowsL
    rw [List.map_map]
    apply List.map_congr_left
    intro i hi
    show (r i, vr_up _ _ _ (r i)) = _
    rw [vr_up_in (List.mem_map.mpr ⟨i, hi, rfl⟩)]
  rw [e1] at hP hD
  exact kk q r H locs ls hP hD hS hl
def FRk (own : String) (idx ci j : Nat) : Prop := ∃ (q : vw_C) (ty0 : Nat → FieldType) (ty : FieldType), vwCl[ci]? = some q ∧ j < q.2.2 ∧ Cond.fieldLink own idx q.1 (q.2.1 j).2.1 (q.2.1 j).2.2.1 ∈ gTbl ∧ (∀ w ∈ u_ws q.1 q.2.1 q.2.2, w ∈ gTbl) ∧ (q.2.1 j).1 = q.1 ∧ (∀ k, k < q.2.2 → parseFieldDescriptor (q.2.1 k).2.2.1 = some (ty0 k)) ∧ (∀ a, a < q.2.2 → ∀ b, b < q.2.2 → a ≠ b → (q.2.1 a).2.1 ≠ (q.2.1 b).2.1) ∧ (q.2.1 j).2.2.2 = true ∧ parseFieldDescriptor (q.2.1 j).2.2.1 = some ty ∧ q.1 = own ∧ (∀ u : Nat, narrow ty (.ref u) = .ref u ∧ fits ty (.ref u) = true)
theorem jc_putF (K : jOk n cc own ret d κ) {idx ci j a u : Nat} {fs : List Value} (fl : FRk own idx ci j) (I : jIn κ) (q0 : Nat) (he : ws[q0]? = some (a, .inr (ci, fs))) (hl9 : j < fs.length) (hw : ws.set q0 (a, .inr (ci, fs.set j (.ref u))) = ws') (dg : decode cc pc = .ok (.putfield idx, 3)) (kk : JC n κ kc ks ws' (pc + 3) lv st) : JC n κ kc ks ws pc lv (.ref u :: .ref a :: st) := by
  obtain ⟨p, l, e, R, s, m, args, below, meth, c, D, A, ad, cA, rs, Q⟩ := κ
  obtain ⟨hx, hb, hml, hown, hts, hr0, hlk, hK, hA, hfr, hlo, hN⟩ := K
  intro H locs ls hP hD hS hl
  obtain ⟨⟨C, T, N⟩, ty0, ty, g1, g2, g3, g4, g5, g6, g7, g8, g9, g10, g11⟩ := fl
  have g5' : (T j).1 = C := g5
  have g10' : C = own := g10
  refine va_putF hx hb hts g4 ty0 g6 g7 hown hK hP hD hS q0 he g1 j g2 (hts _ g3) (fun x h => ?_) g8 I (g5'.trans g10') g9 (g11 u).1 (g11 u).2 hl9 dg (fun H locs hP hD hS => ?_)
  · rw [g5'] at h; exact h
  · rw [hw] at hP hD; exact kk H locs ls hP hD hS hl
theorem jc_puti (K : jOk n cc own ret d κ) {idx ci j a : Nat} {v : Int32} {fs : List Value} (fl : FPk own idx ci j .int) (q0 : Nat) (he : ws[q0]? = some (a, .inr (ci, fs))) (hl9 : j < fs.length) (hw : ws.set q0 (a, .inr (ci, fs.set j (.int v))) = ws') (dg : decode cc pc = .ok (.putfield idx, 3)) (kk : JC n κ kc ks ws' (pc + 3) lv st) : JC n κ kc ks ws pc lv (.int v :: .ref a :: st) := by
  obtain ⟨p, l, e, R, s, m, args, below, meth, c, D, A, ad, cA, rs, Q⟩ := κ
  obtain ⟨hx, hb, hml, hown, hts, hr0, hlk, hK, hA, hfr, hlo, hN⟩ := K
  intro H locs ls hP hD hS hl
  obtain ⟨⟨C, T, N⟩, ty0, g1, g2, g3, g4, g5, g6, g7, g8, g9⟩ := fl
  have g5' : (T j).1 = C := g5
  refine va_put hx hb hts g4 ty0 g6 g7 hown hK hP hD hS q0 he g1 j g2 (hts _ g3) (fun x h => ?_) g8 g9 rfl rfl hl9 dg (fun H locs hP hD hS => ?_)
  · rw [g5'] at h; exact h
  · rw [hw] at hP hD; exact kk H locs ls hP hD hS hl
theorem jc_get (K : jOk n cc own ret d κ) {idx ci j a : Nat} {v : Value} {fs : List Value} (fl : FLk own idx ci j) (q0 : Nat) (he : ws[q0]? = some (a, .inr (ci, fs))) (hv : fs[j]? = some v) (dg : decode cc pc = .ok (.getfield idx, 3)) (kk : JC n κ kc ks ws (pc + 3) lv (v :: st)) : JC n κ kc ks ws pc lv (.ref a :: st) := by
  obtain ⟨p, l, e, R, s, m, args, below, meth, c, D, A, ad, cA, rs, Q⟩ := κ
  obtain ⟨hx, hb, hml, hown, hts, hr0, hlk, hK, hA, hfr, hlo, hN⟩ := K
  intro H locs ls hP hD hS hl
  obtain ⟨⟨C, T, N⟩, g1, g2, g3, g4, g5⟩ := fl
  have g5' : (T j).1 = C := g5
  exact va_get hx hb hts g4 hown hK hP q0 he g1 j g2 (hts _ g3) (fun x h => by rw [g5'] at h; exact h) hv dg (kk H locs ls hP hD hS hl)
theorem jc_iastore (K : jOk n cc own ret d κ) {a z : Nat} {i v : Int32} {f : Nat → Int32} (q0 : Nat) (he : ws[q0]? = some (a, .inl (jcA κ 0, (z, .inl f)))) (hi : okI i z = true) (hw : ws.set q0 (a, .inl (jcA κ 0, (z, .inl (upd f i.toNatClampNeg v)))) = ws') (dg : decode cc pc = .ok (.iastore, 1)) (kk : JC n κ kc ks ws' (pc + 1) lv st) : JC n κ kc ks ws pc lv (.int v :: .int i :: .ref a :: st) := by
  obtain ⟨p, l, e, R, s, m, args, below, meth, c, D, A, ad, cA, rs, Q⟩ := κ
  obtain ⟨hx, hb, hml, hown, hts, hr0, hlk, hK, hA, hfr, hlo, hN⟩ := K
  intro H locs ls hP hD hS hl
  refine va_iast hx hb hK hP hD hS q0 0 he rfl (okI_in hi) dg (fun H locs hP hD hS => ?_)
  rw [hw] at hP hD
  exact kk H locs ls hP hD hS hl
theorem jc_bastore (K : jOk n cc own ret d κ) {a z : Nat} {i v : Int32} {f : Nat → Int32} (q0 : Nat) (he : ws[q0]? = some (a, .inl (jcA κ 1, (z, .inl f)))) (hi : okI i z = true) (hw : ws.set q0 (a, .inl (jcA κ 1, (z, .inl (upd f i.toNatClampNeg (vp_nar .boolean v))))) = ws') (dg : decode cc pc = .ok (.bastore, 1)) (kk : JC n κ kc ks ws' (pc + 1) lv st) : JC n κ kc ks ws pc lv (.int v :: .int i :: .ref a :: st) := by
  obtain ⟨p, l, e, R, s, m, args, below, meth, c, D, A, ad, cA, rs, Q⟩ := κ
  obtain ⟨hx, hb, hml, hown, hts, hr0, hlk, hK, hA, hfr, hlo, hN⟩ := K
  intro H locs ls hP hD hS hl
  refine va_zast hx hb hK hP hD hS q0 1 he rfl (okI_in hi) dg (fun H locs hP hD hS => ?_)
  rw [hw] at hP hD
  exact kk H locs ls hP hD hS hl
theorem jc_aastore (K : jOk n cc own ret d κ) {a z u ci : Nat} {i : Int32} {f : Nat → Option Nat} {vs : List Value} (q0 q1 : Nat) (he : ws[q0]? = some (a, .inl (jcA κ 3, (z, .inr (.inr (.inr (.inr f))))))) (hv : ws[q1]? = some (u, .inr (ci, vs))) (hcl : ∃ q : vw_C, vwCl[ci]? = some q ∧ q.1 = "SearchKeeper$Root") (hi : okI i z = true) (hw : ws.set q0 (a, .inl (jcA κ 3, (z, .inr (.inr (.inr (.inr (va_up f i.toNatClampNeg (some u)))))))) = ws') (dg : decode cc pc = .ok (.aastore, 1)) (kk : JC n κ kc ks ws' (pc + 1) lv st) : JC n κ kc ks ws pc lv (.ref u :: .int i :: .ref a :: st) := by
  obtain ⟨p, l, e, R, s, m, args, below, meth, c, D, A, ad, cA, rs, Q⟩ := κ
  obtain ⟨hx, hb, hml, hown, hts, hr0, hlk, hK, hA, hfr, hlo, hN⟩ := K
  intro H locs ls hP hD hS hl
  obtain ⟨⟨C, T, N⟩, g1, g2⟩ := hcl
  refine va_astq hx hb hK hP hD hS q0 3 q1 ci he (by rw [show (C, T, N).1 = "SearchKeeper$Root" from g2]; rfl) hv g1 (okI_in hi) dg (fun H locs hP hD hS => ?_)
  rw [hw] at hP hD
  exact kk H locs ls hP hD hS hl
theorem jc_return {post : va_W → Prop} {ws0 : va_W} (K : jOk n cc own none d κ) (F : jFc post ws0 mc ms κ) (hp : post ws) (h1 : kc ≤ mc) (h2 : ks ≤ ms) (dg : decode cc pc = .ok (.return_, 1)) : JC n κ kc ks ws pc lv [] := by
  obtain ⟨p, l, e, R, s, m, args, below, meth, c, D, A, ad, cA, rs, Q⟩ := κ
  obtain ⟨hx, hb, hml, hown, hts, hr0, hlk, hK, hA, hfr, hlo, hN⟩ := K
  intro H locs ls hP hD hS hl
  obtain ⟨-, hQ⟩ := (show A = _ ∧ Q = _ from F)
  rw [hQ]
  refine W.widen h1 h2 ?_
  exact W.vret hx hb hr0 (fun t ht hW => ⟨⟨rfl, ws, hp, by rw [ht]; exact hP, hD⟩, hS.F ht⟩) hS.2.2 dg hlk
end JC1
def CalC (y : MethodName) (cy : ByteArray) (ny dy : Nat) (cA : Nat → ClassId) (av : List Value) (ws0 : va_W) (post : va_W → Prop) (mc ms : Nat) : Prop :=
  ∀ (l : Launch) (D : va_G) (sz : Nat), Met l y (.code y cy ny none :: gTbl) (jRm dy mc ms) (va_Pc av (fun U => U.heap.size = sz ∧ va_P D vwCl ws0 U.heap ∧ va_K D vwCl (jTy cA) U ∧ va_D (fun _ => True) ws0 ∧ jN U ∧ jAO U)) (fun _ st oc t => (oc = .returned none ∧ ∃ ws1, post ws1 ∧ va_P D vwCl ws1 t.heap ∧ va_D (va_A ws0 sz) ws1) ∧ va_F (va_A ws0 sz) st t) mc ms (va_A ws0 sz)
theorem CalC.of {y : MethodName} {cy : ByteArray} {ny dy : Nat} {cA : Nat → ClassId} {av : List Value} {ws0 : va_W} {post : va_W → Prop} {mc ms : Nat} {own : String} (lv : List (Nat × Value)) (hy : plainName y.cls = true) (ho : y.cls = own) (hi : y.name = "<init>") (hlen : (lg_sl av).length ≤ ny) (hlv : lv_args 0 av = lv)
    (k : ∀ κ : JK, jcA κ = cA → jOk ny cy own none dy κ → jRc mc ms κ → jIn κ → jFc post ws0 mc ms κ → JC ny κ 0 0 ws0 0 lv []) : CalC y cy ny dy cA av ws0 post mc ms := by
  intro l D sz
  refine Met.ofW (cc := cy) (maxL := ny) (ret := none) hy rfl ?_
  intro p e s m args below meth c s₁ B hml hv
  obtain ⟨rfl, hsz, hP, hK, hD0, hN, hAO⟩ := hv
  have hx := B.exec
  have hb := B.bytes
  have hr := B.returns
  have hts := atoms_spec (ws := Cond.code y cy ny none :: gTbl) B.pre
  have hown : s.vm.findClass own = some m.cls := by rw [← ho]; exact findClass_of_methodNamed B.named
  have hlocks := B.notSynchronized
  have hin : meth.name = "<init>" := by rw [← hi]; exact (name_of_methodNamed B.named B.method).1
  subst hsz
  have hA : ∀ q : Nat, s.heap.size ≤ q → (va_A ws0 s.heap.size) q := fun q h => Or.inr h
  have hl := lv_entry av (n := ny) hlen
  rw [lg_entry_eq]
  have h := k (p, l, e, (headSpec (Cond.code y cy ny none :: gTbl) (jRm dy mc ms)).room, s, m, av.toArray, below, meth, c, D, va_A ws0 s.heap.size, (fun _ => 0), cA, [], MQ below (fun _ st oc t => (oc = .returned none ∧ ∃ ws1, post ws1 ∧ va_P D vwCl ws1 t.heap ∧ va_D (va_A ws0 s.heap.size) ws1) ∧ va_F (va_A ws0 s.heap.size) st t) av.toArray s mc ms (va_A ws0 s.heap.size)) rfl
    ⟨hx, hb, hml, hown, fun w hw => hts w (List.mem_cons_of_mem _ hw), hr, hlocks, hK, hA, Nat.le_refl _, Nat.le_refl _, hN⟩ ⟨Nat.le_refl _, Nat.le_refl _, hAO⟩ hin ⟨rfl, rfl⟩
  rw [hlv] at hl
  exact h s.heap [] _ hP hD0.self va_S.rf hl
theorem jcPc_blind {D : va_G} {cA : Nat → ClassId} {ws0 : va_W} {sz : Nat} {av : List Value} : FrameBlind (va_Pc av (fun U => U.heap.size = sz ∧ va_P D vwCl ws0 U.heap ∧ va_K D vwCl (jTy cA) U ∧ va_D (fun _ => True) ws0 ∧ jN U ∧ jAO U)) := fun a U g mk q => by
  obtain ⟨q0, q1, qP, qK, qD, qN, qO⟩ := q
  exact ⟨q0, q1, qP, va_K.moved (u := U) (U := U.calling g mk a) (Vm.Alike.refl U.vm) qK, qD, jN.same (u := U) (U := U.calling g mk a) rfl qN, jAO.moved (u := U) (U := U.calling g mk a) (Vm.Alike.refl U.vm) qO⟩
/-- behind a constructor: what it was given, one cell at the end, is in its answer; the rest stays -/
theorem jc_join {A : Nat → Prop} {D : va_G} {ws ws1 : va_W} {a : Nat} {e0 : va_E} {H H1 : Heap} (hP : va_P D vwCl (ws ++ [(a, e0)]) H) (hD : va_D A (ws ++ [(a, e0)])) (hA : ∀ q, H.size ≤ q → A q) (hk : ∀ q : Nat, q < H.size → ¬ va_A [(a, e0)] H.size q → H1[q]? = H[q]?) (hP1 : va_P D vwCl ws1 H1) (hD1 : va_D (va_A [(a, e0)] H.size) ws1) : va_P D vwCl (ws ++ ws1) H1 ∧ va_D A (ws ++ ws1) := by
  have hla : (ws ++ [(a, e0)])[ws.length]? = some (a, e0) := by simp
  have hne : ∀ (k : Nat) (q : Nat × va_E), ws[k]? = some q → q.1 < H.size ∧ q.1 ≠ a := by
    intro k q hq
    have hk9 : k < ws.length := (List.getElem?_eq_some_iff.mp hq).1
    have h1 : (ws ++ [(a, e0)])[k]? = some q := by rw [List.getElem?_append_left hk9]; exact hq
    refine ⟨(hP k q h1).lt, fun e => ?_⟩
    have := hD.1 k ws.length q (a, e0) h1 hla e
    omega
  have hin : ∀ q : Nat, va_A [(a, e0)] H.size q → q = a ∨ H.size ≤ q := by
    intro q h
    rcases h with ⟨k, e, h⟩ | h
    · have hk9 : k < 1 := (List.getElem?_eq_some_iff.mp h).1
      have : k = 0 := by omega
      subst this
      cases h
      exact Or.inl rfl
    · exact Or.inr h
  have hDw : va_D A ws := ⟨fun i j x y hi hj hxy => hD.1 i j x y (by rw [List.getElem?_append_left (List.getElem?_eq_some_iff.mp hi).1]; exact hi) (by rw [List.getElem?_append_left (List.getElem?_eq_some_iff.mp hj).1]; exact hj) hxy, fun k q hq => hD.2 k q (by rw [List.getElem?_append_left (List.getElem?_eq_some_iff.mp hq).1]; exact hq)⟩
  refine ⟨va_P.app (fun k q hq => ?_) hP1, va_D.app hDw (hD1.weaken (fun k q _ h => ?_)) (fun i j x y hx hy hxy => ?_)⟩
  · obtain ⟨h1, h2⟩ := hne k q hq
    have h3 := hP k q (by rw [List.getElem?_append_left (List.getElem?_eq_some_iff.mp hq).1]; exact hq)
    exact h3.kept (hk q.1 h1 (fun z => (hin _ z).elim h2 (fun z => absurd z (Nat.not_le.mpr h1))))
  · rcases hin _ h with h | h
    · rw [h]; exact hD.2 ws.length (a, e0) hla
    · exact hA _ h
  · obtain ⟨h1, h2⟩ := hne i x hx
    have h3 := hD1.2 j y hy
    rw [← hxy] at h3
    exact (hin _ h3).elim h2 (fun z => absurd z (Nat.not_le.mpr h1))
section JC9
variable {p : Program} {l : Launch} {e : Env} {R : Room} {s : State} {m : MethodId} {args : Array Value} {below : List Frame} {meth : Method} {c : Code} {H : Heap} {locs : List Loc} {cells slots : Nat} {Q : State → Prop}
variable {pc : Nat} {ls : Array Slot} {rest st0 : List Value} {a : Array Value} {A0 A1 : Nat → Prop} {H0 : Heap} {mc ms : Nat} {free : Addr → Prop}
theorem w_call2 {Qa : State → Outcome → State → Prop} {rv : Option Value} {P : Heap → Prop} (hr : va_Run p l e R s m args below meth c H locs cells slots mc ms (F0 m pc ls st0) rest Qa free) (hq : ∀ (st : State) (v : Option Value) (t : State), Qa st (.returned v) t → v = rv ∧ P t.heap ∧ va_F A1 st t) (hS : va_S A0 H0 H locs) (hA : ∀ q, q < H.size → A1 q → A0 q) (hf : ∀ q, free q → A0 q)
    (kk : ∀ (H1 : Heap) (locs1 : List Loc), P H1 → (∀ q : Nat, q < H.size → ¬ A1 q → H1[q]? = H[q]?) → va_S A0 H0 H1 locs1 → W p l e R s m args below meth c H1 locs1 (cells + mc) (slots + ms) Q (F0 m (pc + 3) ls (rv.toList ++ rest))) : W p l e R s m args below meth c H locs cells slots Q (F0 m pc ls st0) := by
  intro T hT X
  obtain ⟨v, st₀, t, T', L, h0, X', hL, e1, e2, hqa, st⟩ := hr T hT X
  obtain ⟨rfl, hp, hz, hk⟩ := hq _ _ _ hqa
  rw [h0] at hz hk
  obtain ⟨t2, a1, b1⟩ := kk T'.heap (locs ++ L) (by rw [e1]; exact hp) (fun q h1 h2 => by rw [e1]; exact hk q h1 h2)
    ⟨Nat.le_trans hS.1 (by rw [e1]; exact hz), fun q h1 h2 => by rw [e1, hk q (Nat.lt_of_lt_of_le h1 hS.1) (fun z => h2 (hA q (Nat.lt_of_lt_of_le h1 hS.1) z))]; exact hS.2.1 q h1 h2, fun q hq => by
      rcases List.mem_append.mp hq with h | h
      · exact hS.2.2 q h
      · exact hf _ (hL q h)⟩ T' rfl X'
  exact ⟨t2, st t2 a1, b1⟩
end JC9
def ICk (own : String) (idx : Nat) (y : MethodName) (cy : ByteArray) (ny na : Nat) : Prop := (Cond.methodLink own idx y ∈ gTbl ∨ (own, idx, y) ∈ nestM) ∧ Cond.initialized y.cls ∈ gTbl ∧ Cond.instanceMethod y ∈ gTbl ∧ Cond.code y cy ny none ∈ gTbl ∧ y.name = "<init>" ∧ (y.cls ≠ "java/lang/invoke/MethodHandle" ∧ y.cls ≠ "java/lang/invoke/VarHandle" ∧ (parseMethodDescriptor y.desc).map (fun d => d.parameters.length) = some na)
section JC2
variable {n : Nat} {cc : ByteArray} {own : String} {ret : Option FieldType} {d : Nat} {κ : JK} {kc ks mc ms : Nat} {ws ws' : va_W} {pc : Nat} {lv : List (Nat × Value)} {st : List Value}

theorem jc_call (K : jOk n cc own ret d κ) (G : jRc mc ms κ) {y : MethodName} {cy : ByteArray} {ny dy na idx mc9 ms9 a : Nat} {e0 : va_E} {As : List Value} {post : va_W → Prop} (hc : CalC y cy ny dy (jcA κ) (.ref a :: As) [(a, e0)] post mc9 ms9) (ic : ICk own idx y cy ny na) (hn : As.length = na) (hd : dy + 1 ≤ d) (hny : ny ≤ 20) (hst : (st.map fun v => v.category).sum ≤ 8) (h1 : kc + mc9 ≤ mc) (h2 : ks + ms9 ≤ ms) (dg : decode cc pc = .ok (.invokespecial idx, 3)) (kk : ∀ ws1, post ws1 → JC n κ (kc + mc9) (ks + ms9) (ws ++ ws1) (pc + 3) lv st) : JC n κ kc ks (ws ++ [(a, e0)]) pc lv (As.reverse ++ .ref a :: st) := by
  obtain ⟨p, l, e, R, s, m, args, below, meth, c, D, A, ad, cA, rs, Q⟩ := κ
  obtain ⟨hx, hb, hml, hown, hts, hr0, hlk, hK, hA, hfr, hlo, hN⟩ := K
  intro H locs ls hP hD hS hl
  obtain ⟨hRc, hRs, hAO⟩ := (show mc ≤ R.cells ∧ ms ≤ R.slots ∧ jAO s from G)
  obtain ⟨c1, c2, c3, c4, c5, c6⟩ := ic
  have hM := hc l D H.size
  have hla : (ws ++ [(a, e0)])[ws.length]? = some (a, e0) := by simp
  have hPc : va_P D vwCl [(a, e0)] H := fun k q hq => by
    have hk9 : k < 1 := (List.getElem?_eq_some_iff.mp hq).1
    rw [show k = 0 by omega] at hq
    cases hq
    exact hP _ _ hla
  have hDc : va_D (fun _ => True) [(a, e0)] := ⟨fun i j x y hi hj _ => by
    have := (List.getElem?_eq_some_iff.mp hi).1
    have := (List.getElem?_eq_some_iff.mp hj).1
    simp at *
    omega, fun _ _ _ => trivial⟩
  have hG : GoodIn gTbl (Cond.code y cy ny none :: gTbl) := goodIn_c c4 rfl gTbl_good
  have hpre : PreS s H (va_Pc (.ref a :: As) (fun U => U.heap.size = H.size ∧ va_P D vwCl [(a, e0)] U.heap ∧ va_K D vwCl (jTy cA) U ∧ va_D (fun _ => True) [(a, e0)] ∧ jN U ∧ jAO U)) (.ref a :: As) := ⟨jcPc_blind, fun U hU hW => ⟨rfl, by rw [hU], by rw [hU]; exact hPc, va_K.moved hW.alike hK, hDc, hN.warm hW, jAO.moved hW.alike hAO⟩⟩
  have hrun : va_Run p l e R s m args below meth c H locs kc ks mc9 ms9 (F0 m pc ls (As.reverse ++ .ref a :: st)) st (fun st oc t => (oc = .returned none ∧ ∃ ws1, post ws1 ∧ va_P D vwCl ws1 t.heap ∧ va_D (va_A [(a, e0)] H.size) ws1) ∧ va_F (va_A [(a, e0)] H.size) st t) (va_A [(a, e0)] H.size) := by
    rcases c1 with c1 | c1
    · exact va_runI (As := As) (rest := st) ⟨hx, hb, hml, hown, hts⟩ hM (cwI na hts hG rfl rfl rfl (hts _ c2) (hts _ c1) (hts _ c3) c5 c6 ⟨by show dy + 1 ≤ _; omega, by show 8 + (ny + 11) + 39 * dy ≤ _; omega⟩) hpre rfl hn hl.1 rfl (lv_room hst) dg ⟨by omega, by omega⟩
    · exact va_runIN (As := As) (rest := st) ⟨hx, hb, hml, hown, hts⟩ hM ⟨va_cnB na hts hG rfl rfl rfl (hN.2.1 _ c1) (hts _ c2) c6 ⟨by show dy + 1 ≤ _; omega, by show 8 + (ny + 11) + 39 * dy ≤ _; omega⟩, c5, hts _ c3⟩ hpre rfl hn hl.1 rfl (lv_room hst) dg ⟨by omega, by omega⟩
  have hfa : ∀ q, va_A [(a, e0)] H.size q → A q := fun q h => by
    rcases h with ⟨k, e9, h⟩ | h
    · have hk9 : k < 1 := (List.getElem?_eq_some_iff.mp h).1
      rw [show k = 0 by omega] at h
      cases h
      exact hD.2 _ _ hla
    · exact hA q (Nat.le_trans hS.1 h)
  refine w_call2 (rv := none) (P := fun H9 => ∃ ws1, post ws1 ∧ va_P D vwCl ws1 H9 ∧ va_D (va_A [(a, e0)] (Array.size H)) ws1) hrun (fun st v t h => ⟨Outcome.returned.inj h.1.1, h.1.2, h.2⟩) hS (fun q _ h => hfa q h) hfa (fun H1 locs1 hex hk1 hS1 => ?_)
  obtain ⟨ws1, p1, p2, p3⟩ := hex
  obtain ⟨j1, j2⟩ := jc_join hP hD (fun q h => hA q (Nat.le_trans hS.1 h)) hk1 p2 p3
  exact kk ws1 p1 H1 locs1 ls j1 j2 hS1 hl
end JC2

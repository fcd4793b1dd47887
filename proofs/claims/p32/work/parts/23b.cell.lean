/-! ===== the law reads its script ===== -/
theorem j_guardN {L : Lay} {n : Nat} {κ : JK} {X : JX} {pc : Nat} {lv : List (Nat × Value)} {st : List Value} {β : Type} {r : β} {c : Prop} [Decidable c] {a : Option β} (hr : (if c then none else a) = some r) (k : ¬ c → a = some r → J L n κ X pc lv st) : J L n κ X pc lv st := by
  by_cases h : c
  · rw [if_pos h] at hr; cases hr
  · rw [if_neg h] at hr; exact k h hr
def jPcK (D : va_G) (cA : Nat → ClassId) (ws : va_W) (sz b Ln : Nat) (xs : Nat → Int32) (av : List Value) : Array Value → State → Prop := va_Pc av (fun U => U.heap.size = sz ∧ va_P D vwCl ws U.heap ∧ va_K D vwCl (jTy cA) U ∧ va_D (fun _ => True) ws ∧ jN U ∧ va_X b Ln xs U U.heap ∧ b < sz)
theorem jPcK_blind {D : va_G} {cA : Nat → ClassId} {ws : va_W} {sz b Ln : Nat} {xs : Nat → Int32} {av : List Value} : FrameBlind (jPcK D cA ws sz b Ln xs av) := fun a U g mk q => by
  obtain ⟨q0, q1, qP, qK, qD, qN, qX, qb⟩ := q
  exact ⟨q0, q1, qP, va_K.moved (u := U) (U := U.calling g mk a) (Vm.Alike.refl U.vm) qK, qD, jN.same (u := U) (U := U.calling g mk a) rfl qN, va_X.moved (u := U) (U := U.calling g mk a) (Vm.Alike.refl U.vm) qX, qb⟩
section CE
variable {n : Nat} {cc : ByteArray} {own : String} {ret : Option FieldType} {d : Nat} {κ : JK} {kc ks : Nat} {ws : va_W} {pc : Nat} {lv : List (Nat × Value)} {st : List Value}
theorem jc_imul (K : jOk n cc own ret d κ) {x y v : Int32} (dg : decode cc pc = .ok (.imul, 1)) (hv : x * y = v) (k : JC n κ kc ks ws (pc + 1) lv (.int v :: st)) : JC n κ kc ks ws pc lv (.int y :: .int x :: st) := by
  obtain ⟨p, l, e, R, s, m, args, below, meth, c, D, A, ad0, cA, rs0, Q⟩ := κ
  obtain ⟨hx, hb, hml, hown, hts, hr0, hlk, hK, hA, hfr, hlo, hN⟩ := K
  intro H locs ls hP hD hS hl
  exact lv_imul hx hb dg (by rw [hv]; exact k H locs ls hP hD hS hl)
def jFk (ws : va_W) (v : Int32) (κ : JK) : Prop := match κ with
  | (_, _, _, _, s, _, args, below, _, _, D, A, _, _, _, Q) => Q = MQ below (jQw D A ws v) args s 0 0 A
theorem jc_iretK (K : jOk n cc own ret d κ) {v w : Int32} (F : jFk ws v κ) (hw : w = v) (hi : ret = some .int) (dg : decode cc pc = .ok (.ireturn, 1)) : JC n κ 0 0 ws pc lv [.int w] := by
  subst hw
  obtain ⟨p, l, e, R, s, m, args, below, meth, c, D, A, ad0, cA, rs0, Q⟩ := κ
  obtain ⟨hx, hb, hml, hown, hts, hr0, hlk, hK, hA, hfr, hlo, hN⟩ := K
  intro H locs ls hP hD hS hl
  have hQ : Q = _ := F
  rw [hQ]
  exact W.iret hx hb (hr0.trans hi) (fun t ht hW => ⟨⟨rfl, by rw [ht]; exact hP⟩, hS.F ht⟩) hS.2.2 dg hlk
end CE
theorem c_L_cell (l : Launch) (D : va_G) (cA : Nat → ClassId) (ws : va_W) (sz b Ln : Nat) (xs : Nat → Int32) (k : Int32) (hL : Ln ≤ 260) (hk : ¬ k < 0) (hb9 : ¬ va_A ws sz b) : Met l yL_cell (.code yL_cell cL_cell 2 (some .int) :: gTbl) (jRm 0 0 0) (jPcK D cA ws sz b Ln xs [.ref b, .int k]) (jQw D (va_A ws sz) ws (cellV xs Ln k)) 0 0 (va_A ws sz) := by
  refine Met.ofW (cc := cL_cell) (maxL := 2) (ret := some .int) (by decide) rfl ?_
  intro p e s m args below meth c s₁ B hml hv
  obtain ⟨rfl, hsz, hP, hK, hD0, hN, hX, hbl⟩ := hv
  have hx := B.exec
  have hb := B.bytes
  have hr := B.returns
  have hts := atoms_spec (ws := Cond.code yL_cell cL_cell 2 (some .int) :: gTbl) B.pre
  have hown : s.vm.findClass RL = some m.cls := findClass_of_methodNamed B.named
  have hlocks := B.notSynchronized
  subst hsz
  have hA : ∀ q : Nat, s.heap.size ≤ q → (va_A ws s.heap.size) q := fun q h => Or.inr h
  have hl := lv_entry [.ref b, .int k] (n := 2) (Nat.le_of_ble_eq_true rfl)
  rw [lg_entry_eq]
  have main : ∀ κ : JK, jOk 2 cL_cell RL (some .int) 0 κ → jSc b Ln xs κ → jFk ws (cellV xs Ln k) κ → JC 2 κ 0 0 ws 0 [(0, .ref b), (1, .int k)] [] := by
    intro κ K S9 F
    refine jc_iload_n K dL_cell_0 1 rfl ?_
    refine jc_aload_n K dL_cell_1 0 rfl ?_
    refine jc_slen K S9 dL_cell_2 ?_
    refine jc_icmp_ge K dL_cell_3 (tgt := 12) (by decide) (fun h => ?_) (fun h => ?_)
    · refine jc_sipush K dL_cell_12 (v := 7919) rfl ?_
      refine jc_iload_n K dL_cell_15 1 rfl ?_
      refine jc_iconst K dL_cell_16 (v := 3) rfl ?_
      refine jc_iadd K dL_cell_17 (v := k + 3) rfl ?_
      refine jc_imul K dL_cell_18 (v := 7919 * (k + 3)) rfl ?_
      refine jc_iload_n K dL_cell_19 1 rfl ?_
      refine jc_bipush K dL_cell_20 (v := 11) rfl ?_
      refine jc_iadd K dL_cell_22 (v := k + 11) rfl ?_
      refine jc_imul K dL_cell_23 (v := 7919 * (k + 3) * (k + 11)) rfl ?_
      refine jc_iretK K F ?_ rfl dL_cell_24
      unfold cellV
      rw [if_neg (fun z => absurd (Int32.lt_of_le_of_lt h z.1) Int32.lt_irrefl)]
    · obtain ⟨j, hj, rfl⟩ := nI_of hk
      have hjL : j < Ln := by
        by_cases z : j < Ln
        · exact z
        · exact absurd (nI_le (a := Ln) (b := j) (by omega) hj) h
      refine jc_aload_n K dL_cell_6 0 rfl ?_
      refine jc_iload_n K dL_cell_7 1 rfl ?_
      refine jc_sld K S9 (fun q => q.elim hk (fun z => by rw [nI_clamp hj] at z; omega)) dL_cell_8 ?_
      refine jc_goto K dL_cell_9 (tgt := 24) (by decide) ?_
      refine jc_iretK K F ?_ rfl dL_cell_24
      unfold cellV
      rw [if_pos ⟨nI_lt hjL (by omega), hk⟩]
  have h := main (p, l, e, (headSpec (Cond.code yL_cell cL_cell 2 (some .int) :: gTbl) (jRm 0 0 0)).room, s, m, ([.ref b, .int k] : List Value).toArray, below, meth, c, D, va_A ws s.heap.size, (fun _ => 0), cA, [], MQ below (jQw D (va_A ws s.heap.size) ws (cellV xs Ln k)) ([.ref b, .int k] : List Value).toArray s 0 0 (va_A ws s.heap.size))
    ⟨hx, hb, hml, hown, fun w hw => hts w (List.mem_cons_of_mem _ hw), hr, hlocks, hK, hA, Nat.le_refl _, Nat.le_refl _, hN⟩ ⟨hX, hbl, hb9⟩ rfl
  exact h s.heap [] _ hP hD0.self va_S.rf hl
theorem k_cell {n : Nat} {cc : ByteArray} {own : String} {ret : Option FieldType} {d : Nat} {κ : JK} {X : JX} {pc : Nat} {lv : List (Nat × Value)} {st : List Value} {β : Type} {r : β} {idx : Nat} (K : jOk n cc own ret d κ) {sb : Nat} {g : Int32 → Int32} (S : jS sb g κ) {k : Int32} {a : Int32 → Option β} (ml : MSk own idx yL_cell cL_cell 2 (some .int) 2) (hr : (if k < 0 then none else nV (g k) a) = some r) (hd : 0 + 1 ≤ d) (hst : (st.map fun v => v.category).sum ≤ 8) (dg : decode cc pc = .ok (.invokestatic idx, 3)) (kk : ∀ v, a v = some r → JB LZ n κ X (pc + 3) lv (.int v :: st)) : JB LZ n κ X pc lv (.int k :: .ref sb :: st) := by
  by_cases hk0 : k < 0
  · rw [if_pos hk0] at hr; cases hr
  rw [if_neg hk0] at hr
  have k2 := kk _ hr
  obtain ⟨Ln, xs, hLn, S9, hg⟩ := S
  obtain ⟨p, l, e, R, s, m, args, below, meth, c, D, A, ad, cA, rs, Q⟩ := κ
  obtain ⟨hx, hb, hml, hown, hts, hr0, hlk, hK, hA, hfr, hlo, hN⟩ := K
  obtain ⟨hX, hbl, hbA⟩ := (show va_X sb Ln xs s s.heap ∧ sb < s.heap.size ∧ ¬ A sb from S9)
  intro kc ks H locs ls g1 g2 hP hD hS hl
  have hXH : va_X sb Ln xs s H := hX.kept (hS.2.1 sb hbl hbA)
  have hblH : sb < H.size := Nat.lt_of_lt_of_le hbl hS.1
  have hnb : ¬ va_A (wZ LZ ad cA X ++ rs) H.size sb := fun z => z.elim (fun ⟨k, e, h⟩ => hbA (hD.2 k (sb, e) h)) (fun h => absurd hblH (Nat.not_lt.mpr h))
  have hM := c_L_cell l D cA (wZ LZ ad cA X ++ rs) H.size sb Ln xs k hLn hk0 hnb
  rw [← hg k hk0] at hM
  have cw := va_cwS (R := R) (s := s) (args := args) (own := own) (index := idx) (y := yL_cell) (bytes := cL_cell) (maxL := 2) (ret := some .int) (Ts := gTbl) (ws := .code yL_cell cL_cell 2 (some .int) :: gTbl) (ws' := gTbl) (rm := jRm 0 0 0) (mc := 0) (ms := 0) 2 hts ml.1 rfl rfl rfl ml.2 ⟨by show 0 + 1 ≤ _; omega, by show 8 + (2 + 11) + 39 * 0 ≤ _; omega⟩
  refine w_call (rv := some (.int (g k))) (P := fun H => va_P D vwCl (wZ LZ ad cA X ++ rs) H) (va_runS (As := [.ref sb, .int k]) (rest := st) ⟨hx, hb, hml, hown, hts⟩ hM cw ⟨jPcK_blind, fun U hU hW => ⟨rfl, by rw [hU], by rw [hU]; exact hP, va_K.moved hW.alike hK, hD.weaken (fun _ _ _ _ => trivial), hN.warm hW, by rw [hU]; exact hXH.moved hW.alike, hblH⟩⟩ rfl rfl (hl.1) rfl (lv_room hst) dg ⟨by omega, by omega⟩) (fun st v t h => ⟨?_, h.1.2, h.2⟩) hS (jA_lt hD) (jA_all hD hS hA) (fun H locs hP hS => k2 (kc + 0) (ks + 0) H locs ls (by omega) (by omega) hP hD hS hl)
  exact Outcome.returned.inj h.1.1

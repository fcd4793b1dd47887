theorem nw_L_9 : NWk RL 9 10 9 [.null, .null, .null, .null, .null, .null, .int 0, .int 0, .int 0] := ⟨_, tyX10, rfl, rfl, uwX10, tyX10_ok, gTbl_at (i := 37) (by decide +kernel) rfl, gTbl_at (i := 38) (by decide +kernel) rfl, gTbl_at (i := 19) (by decide +kernel) rfl, fun j hj => by
  match j, hj with

  | 0, _ => rfl
  | 1, _ => rfl
  | 2, _ => rfl
  | 3, _ => rfl
  | 4, _ => rfl
  | 5, _ => rfl
  | 6, _ => rfl
  | 7, _ => rfl
  | 8, _ => rfl
 
  | k + 9, h => exact absurd h (Nat.not_lt.mpr (Nat.le_add_left 9 k))⟩
theorem ic_L_18 : ICk RL 18 yX10_init cX10_init 1 0 := ⟨Or.inl (gTbl_at (i := 39) (by decide +kernel) rfl), gTbl_at (i := 19) (by decide +kernel) rfl, gTbl_at (i := 40) (by decide +kernel) rfl, gTbl_at (i := 41) (by decide +kernel) rfl, rfl, ⟨(by decide +kernel), (by decide +kernel), (by decide +kernel)⟩⟩
def X0L : List (Nat → Int32) := [(fun _ => 0), (fun s => if s = 9 then 1 else 0), (kFil 60), (fun _ => 0), (upd (fun _ => 0) (0 : Int32).toNatClampNeg (vp_nar .boolean 1)), (upd (fun _ => 0) (0 : Int32).toNatClampNeg (vp_nar .boolean 1)), (fun _ => 0), (upd (fun _ => 0) (0 : Int32).toNatClampNeg (15)), (fun _ => 0), (fun _ => 0), (fun _ => 0), (fun _ => 0), (fun j => if j = 0 then 13 else if j = 1 then 20 else 27), (fun _ => 0), (fun _ => 0), (fun _ => 0), (fun _ => 0), (fun _ => 0), (fun _ => 0), (fun _ => 0), (fun _ => 0), (fun _ => 0), (fun _ => 0), (fun _ => 0), (fun _ => 0), (fun _ => 0), (fun _ => 0), (fun _ => 0), (fun _ => 0), (fun _ => 0), (fun _ => 0), (fun _ => 0), (fun _ => 0), (fun _ => 0), (fun s => if s = 0 then 2 else if s = 1 then 12 else 0), (fun _ => 0), (fun _ => 0), (fun _ => 0), (fun _ => 0), (fun _ => 0), (fun _ => 0), (fun _ => 0), (fun _ => 0), (fun _ => 0), (fun _ => 0), (fun _ => 0), (fun _ => 0), (fun _ => 0), (fun _ => 0), (fun _ => 0), (kFil 60), (fun _ => 0), (fun _ => 0), (fun _ => 0), (fun _ => 0), (fun _ => 0)]
def X0 : JX := fun k => if k < 56 then X0L.getD k (fun _ => 0) else fun _ => 0
def Y0L : List (Nat → Int32) := [(fun s => if s = 2 then 1 else if s = 28 then 2 else if s = 29 then 12 else 0), (upd (fun _ => 0) (0 : Int32).toNatClampNeg (vp_nar .boolean 1)), (upd (fun _ => 0) (0 : Int32).toNatClampNeg (vp_nar .boolean 1)), (upd (fun _ => 0) (0 : Int32).toNatClampNeg (-1)), (fun _ => 0), (fun _ => 0), (fun _ => 0), (fun _ => 0), (fun _ => 0), (upd (fun _ => 0) (0 : Int32).toNatClampNeg (15)), (fun _ => 0), (fun _ => 0), (fun _ => 0), (fun _ => 0), (fun _ => 0), (fun _ => 0), (fun _ => 0), (fun _ => 0), (fun _ => 0), (fun _ => 0), (fun _ => 0), (fun _ => 0), (fun _ => 0), (fun _ => 0), (fun _ => 0), (fun _ => 0), (fun _ => 0), (fun _ => 0), (fun _ => 0), (fun _ => 0), (fun _ => 0), (fun _ => 0), (fun _ => 0), (fun _ => 0)]
def Y0 : JX := fun k => Y0L.getD k (fun _ => 0)
def ad0 (qs : List Nat) (r1 r2 : Nat → Nat) (ra rb rc : Nat) : Nat → Nat := fun k => if k < 56 then qs.getD k 0 else if k < 116 then r1 (k - 56) else if k < 176 then r2 (k - 116) else if k = 176 then ra else if k = 177 then rb else rc
theorem ad0_1 {qs : List Nat} {r1 r2 : Nat → Nat} {ra rb rc : Nat} {j : Nat} (h : j < 60) : ad0 qs r1 r2 ra rb rc (56 + j) = r1 j := by
  unfold ad0
  rw [if_neg (by omega), if_pos (by omega), show 56 + j - 56 = j by omega]
theorem ad0_2 {qs : List Nat} {r1 r2 : Nat → Nat} {ra rb rc : Nat} {j : Nat} (h : j < 60) : ad0 qs r1 r2 ra rb rc (116 + j) = r2 j := by
  unfold ad0
  rw [if_neg (by omega), if_neg (by omega), if_pos (by omega), show 116 + j - 116 = j by omega]
theorem g_perm {α : Type} {A B C R1 R2 W : List α} : ((([] : List α) ++ (A ++ (R1 ++ (B ++ (R2 ++ C))))) ++ W).Perm ((A ++ (B ++ C)) ++ ((R1 ++ R2) ++ W)) := by
  classical
  rw [List.perm_iff_count]
  intro x
  simp only [List.count_append, List.count_nil]
  omega
theorem w_perm {A B C R1 R2 W : va_W} : ((([] : va_W) ++ (A ++ (R1 ++ (B ++ (R2 ++ C))))) ++ W).Perm ((A ++ (B ++ C)) ++ ((R1 ++ R2) ++ W)) := g_perm
theorem va_P.perm {D : va_G} {ws ws' : va_W} {H : Heap} (h : ws.Perm ws') (hP : va_P D vwCl ws H) : va_P D vwCl ws' H := fun k q hq => by
  obtain ⟨i, hi⟩ := List.getElem?_of_mem (h.mem_iff.mpr (List.mem_of_getElem? hq))
  exact hP i q hi
theorem va_D.nd {A : Nat → Prop} {ws : va_W} (h : va_D A ws) : (ws.map Prod.fst).Nodup := by
  rw [List.Nodup, List.pairwise_iff_getElem]
  intro i j hi hj hlt he
  rw [List.length_map] at hi hj
  rw [List.getElem_map, List.getElem_map] at he
  have := h.1 i j _ _ (List.getElem?_eq_getElem hi) (List.getElem?_eq_getElem hj) he
  omega
theorem va_D.ofnd {A : Nat → Prop} {ws : va_W} (h : (ws.map Prod.fst).Nodup) (hA : ∀ q ∈ ws, A q.1) : va_D A ws := by
  rw [List.Nodup, List.pairwise_iff_getElem] at h
  refine ⟨fun i j x y hi hj hxy => ?_, fun k q hq => hA q (List.mem_of_getElem? hq)⟩
  obtain ⟨hi1, hi2⟩ := List.getElem?_eq_some_iff.mp hi
  obtain ⟨hj1, hj2⟩ := List.getElem?_eq_some_iff.mp hj
  rcases Nat.lt_trichotomy i j with hlt | rfl | hlt
  · have := h i j (by rw [List.length_map]; exact hi1) (by rw [List.length_map]; exact hj1) hlt
    rw [List.getElem_map, List.getElem_map, hi2, hj2] at this
    exact absurd hxy this
  · rfl
  · have := h j i (by rw [List.length_map]; exact hj1) (by rw [List.length_map]; exact hi1) hlt
    rw [List.getElem_map, List.getElem_map, hi2, hj2] at this
    exact absurd hxy.symm this
theorem va_D.perm {A : Nat → Prop} {ws ws' : va_W} (h : ws.Perm ws') (hD : va_D A ws) : va_D A ws' := by
  refine va_D.ofnd ((h.map Prod.fst).nodup_iff.mp hD.nd) (fun q hq => ?_)
  obtain ⟨i, hi⟩ := List.getElem?_of_mem (h.mem_iff.mpr hq)
  exact hD.2 i q hi
theorem fix_P {ws : va_W} {k a : Nat} {e e' : va_E} (hk : ws[k]? = some (a, e')) (hc : ∀ (D : va_G) (H : Heap), va_at D vwCl (a, e) H → va_at D vwCl (a, e') H) {D : va_G} {H : Heap} (h : va_P D vwCl (ws.set k (a, e)) H) : va_P D vwCl ws H := fun j q hq => by
  have hlt := (List.getElem?_eq_some_iff.mp hk).1
  by_cases hj : j = k
  · subst hj
    have : q = (a, e') := Option.some.inj (hq.symm.trans hk)
    subst this
    exact hc D H (h j (a, e) (List.getElem?_set_self hlt))
  · exact h j q (by rw [List.getElem?_set_ne (fun z => hj z.symm)]; exact hq)
theorem fix_D {ws : va_W} {k a : Nat} {e e' : va_E} (hk : ws[k]? = some (a, e')) {A : Nat → Prop} (h : va_D A (ws.set k (a, e))) : va_D A ws := by
  have hlt := (List.getElem?_eq_some_iff.mp hk).1
  have h2 := h.set (p := k) (a := a) (e0 := e) (e := e') (List.getElem?_set_self hlt)
  rw [List.set_set] at h2
  have h3 : ws.set k (a, e') = ws := by
    apply List.ext_getElem?
    intro j
    by_cases hj : j = k
    · subst hj
      rw [List.getElem?_set_self hlt, hk]
    · rw [List.getElem?_set_ne (fun z => hj z.symm)]
  rw [h3] at h2
  exact h2
theorem at_100 {f f' : Nat → Option Nat} {c : ClassId} {n a : Nat} (h : f = f') (D : va_G) (H : Heap) (hh : va_at D vwCl (a, .inl (c, (n, .inr (.inr (.inr (.inr f)))))) H) : va_at D vwCl (a, .inl (c, (n, .inr (.inr (.inr (.inr f')))))) H := by
  rw [← h]; exact hh
theorem at_3 {f f' : Nat → Option Nat} {c : ClassId} {n a : Nat} (h : ∀ j, j < n → f j = f' j) (D : va_G) (H : Heap) (hh : va_at D vwCl (a, .inl (c, (n, .inr (.inr (.inr (.inr f)))))) H) : va_at D vwCl (a, .inl (c, (n, .inr (.inr (.inr (.inr f')))))) H := by
  have e : vp_cell c (n, .inr (.inr (.inr (.inr f)))) = vp_cell c (n, .inr (.inr (.inr (.inr f')))) := by
    show arrV c n (fun j => va_rf (f j)) = arrV c n (fun j => va_rf (f' j))
    unfold arrV
    congr 2
    funext j
    show va_rf (f j.val) = va_rf (f' j.val)
    rw [h j.val j.isLt]
  have hh : H[a]? = some (vp_cell c (n, .inr (.inr (.inr (.inr f))))) := hh
  show H[a]? = some (vp_cell c (n, .inr (.inr (.inr (.inr f')))))
  rw [← e]; exact hh
theorem wX_split {ad : Nat → Nat} {cA : Nat → ClassId} {r1 r2 : Nat → Nat} (h1 : ∀ j, j < 60 → ad (56 + j) = r1 j) (h2 : ∀ j, j < 60 → ad (116 + j) = r2 j) : wZ LX ad cA X0 = ((List.range 56).map fun k => (ad k, cZ LX ad cA (X0 k) k)) ++ (rowsL (cA 0) 60 20 r1 ++ rowsL (cA 0) 60 20 r2) := by
  unfold wZ
  show (List.range (56 + (60 + 60))).map _ = _
  rw [List.range_add, List.map_append, List.range_add, List.map_append, List.map_append]
  congr 1
  have hc : ∀ k, 56 ≤ k → cZ LX ad cA (X0 k) k = .inl (cA 0, (20, .inl (fun _ => 0))) := fun k hk => by
    unfold cZ
    have e : LX.2.1 k = (0, 20) := by
      show shX k = _
      unfold shX
      rw [if_neg (by omega)]
    rw [e]
    show Sum.inl (cA 0, 20, Sum.inl (X0 k)) = _
    rw [show X0 k = fun _ => 0 by unfold X0; rw [if_neg (by omega)]]
  congr 1
  · unfold rowsL
    rw [List.map_map]
    apply List.map_congr_left
    intro j hj
    have hj := List.mem_range.mp hj
    show (ad (56 + j), cZ LX ad cA (X0 (56 + j)) (56 + j)) = _
    rw [h1 j hj, hc _ (by omega)]
  · unfold rowsL
    rw [List.map_map, List.map_map]
    apply List.map_congr_left
    intro j hj
    have hj := List.mem_range.mp hj
    show (ad (56 + (60 + j)), cZ LX ad cA (X0 (56 + (60 + j))) (56 + (60 + j))) = _
    rw [hc _ (by omega), show 56 + (60 + j) = 116 + j by omega, h2 j hj]
theorem iw56 (cA : Nat → ClassId) (h0 : Nat) (q1 : Nat) (q2 : Nat) (q3 : Nat) (q4 : Nat) (q5 : Nat) (q6 : Nat) (q7 : Nat) (q8 : Nat) (q9 : Nat) (q10 : Nat) (q12 : Nat) (q13 : Nat) (q14 : Nat) (q17 : Nat) (q18 : Nat) (q19 : Nat) (q20 : Nat) (q21 : Nat) (q22 : Nat) (q15 : Nat) (q23 : Nat) (q24 : Nat) (q25 : Nat) (q26 : Nat) (q27 : Nat) (q28 : Nat) (q16 : Nat) (q29 : Nat) (q30 : Nat) (q31 : Nat) (q32 : Nat) (q33 : Nat) (q34 : Nat) (q35 : Nat) (q36 : Nat) (q37 : Nat) (q38 : Nat) (q39 : Nat) (q40 : Nat) (q41 : Nat) (q42 : Nat) (q43 : Nat) (q44 : Nat) (q46 : Nat) (q47 : Nat) (q49 : Nat) (q50 : Nat) (q51 : Nat) (q48 : Nat) (q52 : Nat) (q53 : Nat) (q54 : Nat) (q55 : Nat) (q56 : Nat) (q57 : Nat) (r11 : Nat → Nat) (r45 : Nat → Nat) (ra rb rc : Nat) : [(h0, .inr (10, [.ref q1, .ref q12, .ref q35, .ref q36, .ref q46, .ref q55, .int 0, .int 0, .int 0])), (q1, .inr (9, [.ref q2, .ref q3, .ref q4, .ref q5, .ref q6, .ref q7, .ref q8, .ref q9, .ref q10, .int 1])), (q2, .inl (cA 0, (60, .inl (kFil 60)))), (q3, .inl (cA 2, (60, .inl (fun _ => 0)))), (q4, .inl (cA 1, (60, .inl (upd (fun _ => 0) (0 : Int32).toNatClampNeg (vp_nar .boolean 1))))), (q5, .inl (cA 1, (60, .inl (upd (fun _ => 0) (0 : Int32).toNatClampNeg (vp_nar .boolean 1))))), (q6, .inl (cA 1, (60, .inl (fun _ => 0)))), (q7, .inl (cA 0, (60, .inl (upd (fun _ => 0) (0 : Int32).toNatClampNeg (15))))), (q8, .inl (cA 0, (60, .inl (fun _ => 0)))), (q9, .inl (cA 0, (60, .inl (fun _ => 0)))), (q10, .inl (cA 4, (60, .inr (.inr (.inr (.inr (fun i => if i < 60 then some (r11 i) else none)))))))] ++ ([(q12, .inr (8, [.ref q1, .ref q13, .int 0])), (q13, .inl (cA 3, (3, .inr (.inr (.inr (.inr (va_up (va_up (va_up (fun _ => none) (0 : Int32).toNatClampNeg (some q14)) (1 : Int32).toNatClampNeg (some q15)) (2 : Int32).toNatClampNeg (some q16)))))))), (q14, .inr (7, [.ref q17, .ref q18, .ref q19, .int 0, .int 0, .int 0])), (q17, .inl (cA 0, (8, .inl (fun _ => 0)))), (q18, .inl (cA 0, (8, .inl (fun _ => 0)))), (q19, .inr (1, [.ref q20, .ref q21, .ref q22, .int 0, .int 0])), (q20, .inl (cA 0, (60, .inl (fun _ => 0)))), (q21, .inl (cA 1, (60, .inl (fun _ => 0)))), (q22, .inl (cA 1, (60, .inl (fun _ => 0)))), (q15, .inr (7, [.ref q23, .ref q24, .ref q25, .int 0, .int 0, .int 0])), (q23, .inl (cA 0, (8, .inl (fun _ => 0)))), (q24, .inl (cA 0, (8, .inl (fun _ => 0)))), (q25, .inr (1, [.ref q26, .ref q27, .ref q28, .int 0, .int 0])), (q26, .inl (cA 0, (60, .inl (fun _ => 0)))), (q27, .inl (cA 1, (60, .inl (fun _ => 0)))), (q28, .inl (cA 1, (60, .inl (fun _ => 0)))), (q16, .inr (7, [.ref q29, .ref q30, .ref q31, .int 0, .int 0, .int 0])), (q29, .inl (cA 0, (8, .inl (fun _ => 0)))), (q30, .inl (cA 0, (8, .inl (fun _ => 0)))), (q31, .inr (1, [.ref q32, .ref q33, .ref q34, .int 0, .int 0])), (q32, .inl (cA 0, (60, .inl (fun _ => 0)))), (q33, .inl (cA 1, (60, .inl (fun _ => 0)))), (q34, .inl (cA 1, (60, .inl (fun _ => 0)))), (q35, .inr (6, [.int 2, .int 12])), (q36, .inr (2, [.ref q1, .ref q12, .ref q37, .ref q38, .ref q39, .ref q40, .ref q41, .ref q42, .ref q43, .ref q44])), (q37, .inl (cA 1, (60, .inl (fun _ => 0)))), (q38, .inl (cA 0, (60, .inl (fun _ => 0)))), (q39, .inl (cA 2, (60, .inl (fun _ => 0)))), (q40, .inl (cA 0, (60, .inl (fun _ => 0)))), (q41, .inl (cA 0, (60, .inl (fun _ => 0)))), (q42, .inl (cA 4, (60, .inr (.inr (.inr (.inr (fun i => if i < 60 then some (r45 i) else none)))))))] ++ [(q43, .inl (cA 1, (60, .inl (fun _ => 0)))), (q44, .inl (cA 1, (60, .inl (fun _ => 0)))), (q46, .inr (4, [.ref q1, .ref q12, .ref q35, .ref q36, .ref q47, .ref q48])), (q47, .inr (0, [.ref q49, .ref q50, .ref q51, .int 0])), (q49, .inl (cA 0, (60, .inl (fun _ => 0)))), (q50, .inl (cA 0, (60, .inl (fun _ => 0)))), (q51, .inl (cA 1, (60, .inl (fun _ => 0)))), (q48, .inr (3, [.ref q52, .ref q53, .ref q54, .int 0])), (q52, .inl (cA 0, (60, .inl (kFil 60)))), (q53, .inl (cA 0, (4, .inl (fun _ => 0)))), (q54, .inl (cA 0, (4, .inl (fun _ => 0)))), (q55, .inr (5, [.ref q1, .ref q12, .ref q35, .ref q36, .ref q56, .ref q57])), (q56, .inl (cA 0, (60, .inl (fun _ => 0)))), (q57, .inl (cA 0, (20, .inl (fun _ => 0))))]) = ((((List.range 56).map fun k => ((ad0 [h0, q1, q2, q3, q4, q5, q6, q7, q8, q9, q10, q12, q13, q14, q17, q18, q19, q20, q21, q22, q15, q23, q24, q25, q26, q27, q28, q16, q29, q30, q31, q32, q33, q34, q35, q36, q37, q38, q39, q40, q41, q42, q43, q44, q46, q47, q49, q50, q51, q48, q52, q53, q54, q55, q56, q57] r11 r45 ra rb rc) k, cZ LX (ad0 [h0, q1, q2, q3, q4, q5, q6, q7, q8, q9, q10, q12, q13, q14, q17, q18, q19, q20, q21, q22, q15, q23, q24, q25, q26, q27, q28, q16, q29, q30, q31, q32, q33, q34, q35, q36, q37, q38, q39, q40, q41, q42, q43, q44, q46, q47, q49, q50, q51, q48, q52, q53, q54, q55, q56, q57] r11 r45 ra rb rc) cA (X0 k) k)).set 10 (q10, .inl (cA 4, (60, .inr (.inr (.inr (.inr (fun i => if i < 60 then some (r11 i) else none)))))))).set 12 (q13, .inl (cA 3, (3, .inr (.inr (.inr (.inr (va_up (va_up (va_up (fun _ => none) (0 : Int32).toNatClampNeg (some q14)) (1 : Int32).toNatClampNeg (some q15)) (2 : Int32).toNatClampNeg (some q16))))))))).set 41 (q42, .inl (cA 4, (60, .inr (.inr (.inr (.inr (fun i => if i < 60 then some (r45 i) else none))))))) := by
  rfl
theorem iw (cA : Nat → ClassId) (h0 : Nat) (q1 : Nat) (q2 : Nat) (q3 : Nat) (q4 : Nat) (q5 : Nat) (q6 : Nat) (q7 : Nat) (q8 : Nat) (q9 : Nat) (q10 : Nat) (q12 : Nat) (q13 : Nat) (q14 : Nat) (q17 : Nat) (q18 : Nat) (q19 : Nat) (q20 : Nat) (q21 : Nat) (q22 : Nat) (q15 : Nat) (q23 : Nat) (q24 : Nat) (q25 : Nat) (q26 : Nat) (q27 : Nat) (q28 : Nat) (q16 : Nat) (q29 : Nat) (q30 : Nat) (q31 : Nat) (q32 : Nat) (q33 : Nat) (q34 : Nat) (q35 : Nat) (q36 : Nat) (q37 : Nat) (q38 : Nat) (q39 : Nat) (q40 : Nat) (q41 : Nat) (q42 : Nat) (q43 : Nat) (q44 : Nat) (q46 : Nat) (q47 : Nat) (q49 : Nat) (q50 : Nat) (q51 : Nat) (q48 : Nat) (q52 : Nat) (q53 : Nat) (q54 : Nat) (q55 : Nat) (q56 : Nat) (q57 : Nat) (r11 : Nat → Nat) (r45 : Nat → Nat) (ra rb rc : Nat) (W : va_W) : (∀ (D : va_G) (H : Heap), va_P D vwCl ((([] : va_W) ++ ([(h0, .inr (10, [.ref q1, .ref q12, .ref q35, .ref q36, .ref q46, .ref q55, .int 0, .int 0, .int 0])), (q1, .inr (9, [.ref q2, .ref q3, .ref q4, .ref q5, .ref q6, .ref q7, .ref q8, .ref q9, .ref q10, .int 1])), (q2, .inl (cA 0, (60, .inl (kFil 60)))), (q3, .inl (cA 2, (60, .inl (fun _ => 0)))), (q4, .inl (cA 1, (60, .inl (upd (fun _ => 0) (0 : Int32).toNatClampNeg (vp_nar .boolean 1))))), (q5, .inl (cA 1, (60, .inl (upd (fun _ => 0) (0 : Int32).toNatClampNeg (vp_nar .boolean 1))))), (q6, .inl (cA 1, (60, .inl (fun _ => 0)))), (q7, .inl (cA 0, (60, .inl (upd (fun _ => 0) (0 : Int32).toNatClampNeg (15))))), (q8, .inl (cA 0, (60, .inl (fun _ => 0)))), (q9, .inl (cA 0, (60, .inl (fun _ => 0)))), (q10, .inl (cA 4, (60, .inr (.inr (.inr (.inr (fun i => if i < 60 then some (r11 i) else none)))))))] ++ (rowsL (cA 0) 60 20 r11 ++ ([(q12, .inr (8, [.ref q1, .ref q13, .int 0])), (q13, .inl (cA 3, (3, .inr (.inr (.inr (.inr (va_up (va_up (va_up (fun _ => none) (0 : Int32).toNatClampNeg (some q14)) (1 : Int32).toNatClampNeg (some q15)) (2 : Int32).toNatClampNeg (some q16)))))))), (q14, .inr (7, [.ref q17, .ref q18, .ref q19, .int 0, .int 0, .int 0])), (q17, .inl (cA 0, (8, .inl (fun _ => 0)))), (q18, .inl (cA 0, (8, .inl (fun _ => 0)))), (q19, .inr (1, [.ref q20, .ref q21, .ref q22, .int 0, .int 0])), (q20, .inl (cA 0, (60, .inl (fun _ => 0)))), (q21, .inl (cA 1, (60, .inl (fun _ => 0)))), (q22, .inl (cA 1, (60, .inl (fun _ => 0)))), (q15, .inr (7, [.ref q23, .ref q24, .ref q25, .int 0, .int 0, .int 0])), (q23, .inl (cA 0, (8, .inl (fun _ => 0)))), (q24, .inl (cA 0, (8, .inl (fun _ => 0)))), (q25, .inr (1, [.ref q26, .ref q27, .ref q28, .int 0, .int 0])), (q26, .inl (cA 0, (60, .inl (fun _ => 0)))), (q27, .inl (cA 1, (60, .inl (fun _ => 0)))), (q28, .inl (cA 1, (60, .inl (fun _ => 0)))), (q16, .inr (7, [.ref q29, .ref q30, .ref q31, .int 0, .int 0, .int 0])), (q29, .inl (cA 0, (8, .inl (fun _ => 0)))), (q30, .inl (cA 0, (8, .inl (fun _ => 0)))), (q31, .inr (1, [.ref q32, .ref q33, .ref q34, .int 0, .int 0])), (q32, .inl (cA 0, (60, .inl (fun _ => 0)))), (q33, .inl (cA 1, (60, .inl (fun _ => 0)))), (q34, .inl (cA 1, (60, .inl (fun _ => 0)))), (q35, .inr (6, [.int 2, .int 12])), (q36, .inr (2, [.ref q1, .ref q12, .ref q37, .ref q38, .ref q39, .ref q40, .ref q41, .ref q42, .ref q43, .ref q44])), (q37, .inl (cA 1, (60, .inl (fun _ => 0)))), (q38, .inl (cA 0, (60, .inl (fun _ => 0)))), (q39, .inl (cA 2, (60, .inl (fun _ => 0)))), (q40, .inl (cA 0, (60, .inl (fun _ => 0)))), (q41, .inl (cA 0, (60, .inl (fun _ => 0)))), (q42, .inl (cA 4, (60, .inr (.inr (.inr (.inr (fun i => if i < 60 then some (r45 i) else none)))))))] ++ (rowsL (cA 0) 60 20 r45 ++ [(q43, .inl (cA 1, (60, .inl (fun _ => 0)))), (q44, .inl (cA 1, (60, .inl (fun _ => 0)))), (q46, .inr (4, [.ref q1, .ref q12, .ref q35, .ref q36, .ref q47, .ref q48])), (q47, .inr (0, [.ref q49, .ref q50, .ref q51, .int 0])), (q49, .inl (cA 0, (60, .inl (fun _ => 0)))), (q50, .inl (cA 0, (60, .inl (fun _ => 0)))), (q51, .inl (cA 1, (60, .inl (fun _ => 0)))), (q48, .inr (3, [.ref q52, .ref q53, .ref q54, .int 0])), (q52, .inl (cA 0, (60, .inl (kFil 60)))), (q53, .inl (cA 0, (4, .inl (fun _ => 0)))), (q54, .inl (cA 0, (4, .inl (fun _ => 0)))), (q55, .inr (5, [.ref q1, .ref q12, .ref q35, .ref q36, .ref q56, .ref q57])), (q56, .inl (cA 0, (60, .inl (fun _ => 0)))), (q57, .inl (cA 0, (20, .inl (fun _ => 0))))]))))) ++ W) H → va_P D vwCl (wZ LX (ad0 [h0, q1, q2, q3, q4, q5, q6, q7, q8, q9, q10, q12, q13, q14, q17, q18, q19, q20, q21, q22, q15, q23, q24, q25, q26, q27, q28, q16, q29, q30, q31, q32, q33, q34, q35, q36, q37, q38, q39, q40, q41, q42, q43, q44, q46, q47, q49, q50, q51, q48, q52, q53, q54, q55, q56, q57] r11 r45 ra rb rc) cA X0 ++ W) H) ∧ (∀ A : Nat → Prop, va_D A ((([] : va_W) ++ ([(h0, .inr (10, [.ref q1, .ref q12, .ref q35, .ref q36, .ref q46, .ref q55, .int 0, .int 0, .int 0])), (q1, .inr (9, [.ref q2, .ref q3, .ref q4, .ref q5, .ref q6, .ref q7, .ref q8, .ref q9, .ref q10, .int 1])), (q2, .inl (cA 0, (60, .inl (kFil 60)))), (q3, .inl (cA 2, (60, .inl (fun _ => 0)))), (q4, .inl (cA 1, (60, .inl (upd (fun _ => 0) (0 : Int32).toNatClampNeg (vp_nar .boolean 1))))), (q5, .inl (cA 1, (60, .inl (upd (fun _ => 0) (0 : Int32).toNatClampNeg (vp_nar .boolean 1))))), (q6, .inl (cA 1, (60, .inl (fun _ => 0)))), (q7, .inl (cA 0, (60, .inl (upd (fun _ => 0) (0 : Int32).toNatClampNeg (15))))), (q8, .inl (cA 0, (60, .inl (fun _ => 0)))), (q9, .inl (cA 0, (60, .inl (fun _ => 0)))), (q10, .inl (cA 4, (60, .inr (.inr (.inr (.inr (fun i => if i < 60 then some (r11 i) else none)))))))] ++ (rowsL (cA 0) 60 20 r11 ++ ([(q12, .inr (8, [.ref q1, .ref q13, .int 0])), (q13, .inl (cA 3, (3, .inr (.inr (.inr (.inr (va_up (va_up (va_up (fun _ => none) (0 : Int32).toNatClampNeg (some q14)) (1 : Int32).toNatClampNeg (some q15)) (2 : Int32).toNatClampNeg (some q16)))))))), (q14, .inr (7, [.ref q17, .ref q18, .ref q19, .int 0, .int 0, .int 0])), (q17, .inl (cA 0, (8, .inl (fun _ => 0)))), (q18, .inl (cA 0, (8, .inl (fun _ => 0)))), (q19, .inr (1, [.ref q20, .ref q21, .ref q22, .int 0, .int 0])), (q20, .inl (cA 0, (60, .inl (fun _ => 0)))), (q21, .inl (cA 1, (60, .inl (fun _ => 0)))), (q22, .inl (cA 1, (60, .inl (fun _ => 0)))), (q15, .inr (7, [.ref q23, .ref q24, .ref q25, .int 0, .int 0, .int 0])), (q23, .inl (cA 0, (8, .inl (fun _ => 0)))), (q24, .inl (cA 0, (8, .inl (fun _ => 0)))), (q25, .inr (1, [.ref q26, .ref q27, .ref q28, .int 0, .int 0])), (q26, .inl (cA 0, (60, .inl (fun _ => 0)))), (q27, .inl (cA 1, (60, .inl (fun _ => 0)))), (q28, .inl (cA 1, (60, .inl (fun _ => 0)))), (q16, .inr (7, [.ref q29, .ref q30, .ref q31, .int 0, .int 0, .int 0])), (q29, .inl (cA 0, (8, .inl (fun _ => 0)))), (q30, .inl (cA 0, (8, .inl (fun _ => 0)))), (q31, .inr (1, [.ref q32, .ref q33, .ref q34, .int 0, .int 0])), (q32, .inl (cA 0, (60, .inl (fun _ => 0)))), (q33, .inl (cA 1, (60, .inl (fun _ => 0)))), (q34, .inl (cA 1, (60, .inl (fun _ => 0)))), (q35, .inr (6, [.int 2, .int 12])), (q36, .inr (2, [.ref q1, .ref q12, .ref q37, .ref q38, .ref q39, .ref q40, .ref q41, .ref q42, .ref q43, .ref q44])), (q37, .inl (cA 1, (60, .inl (fun _ => 0)))), (q38, .inl (cA 0, (60, .inl (fun _ => 0)))), (q39, .inl (cA 2, (60, .inl (fun _ => 0)))), (q40, .inl (cA 0, (60, .inl (fun _ => 0)))), (q41, .inl (cA 0, (60, .inl (fun _ => 0)))), (q42, .inl (cA 4, (60, .inr (.inr (.inr (.inr (fun i => if i < 60 then some (r45 i) else none)))))))] ++ (rowsL (cA 0) 60 20 r45 ++ [(q43, .inl (cA 1, (60, .inl (fun _ => 0)))), (q44, .inl (cA 1, (60, .inl (fun _ => 0)))), (q46, .inr (4, [.ref q1, .ref q12, .ref q35, .ref q36, .ref q47, .ref q48])), (q47, .inr (0, [.ref q49, .ref q50, .ref q51, .int 0])), (q49, .inl (cA 0, (60, .inl (fun _ => 0)))), (q50, .inl (cA 0, (60, .inl (fun _ => 0)))), (q51, .inl (cA 1, (60, .inl (fun _ => 0)))), (q48, .inr (3, [.ref q52, .ref q53, .ref q54, .int 0])), (q52, .inl (cA 0, (60, .inl (kFil 60)))), (q53, .inl (cA 0, (4, .inl (fun _ => 0)))), (q54, .inl (cA 0, (4, .inl (fun _ => 0)))), (q55, .inr (5, [.ref q1, .ref q12, .ref q35, .ref q36, .ref q56, .ref q57])), (q56, .inl (cA 0, (60, .inl (fun _ => 0)))), (q57, .inl (cA 0, (20, .inl (fun _ => 0))))]))))) ++ W) → va_D A (wZ LX (ad0 [h0, q1, q2, q3, q4, q5, q6, q7, q8, q9, q10, q12, q13, q14, q17, q18, q19, q20, q21, q22, q15, q23, q24, q25, q26, q27, q28, q16, q29, q30, q31, q32, q33, q34, q35, q36, q37, q38, q39, q40, q41, q42, q43, q44, q46, q47, q49, q50, q51, q48, q52, q53, q54, q55, q56, q57] r11 r45 ra rb rc) cA X0 ++ W)) := by
  have e0 := wX_split (ad := (ad0 [h0, q1, q2, q3, q4, q5, q6, q7, q8, q9, q10, q12, q13, q14, q17, q18, q19, q20, q21, q22, q15, q23, q24, q25, q26, q27, q28, q16, q29, q30, q31, q32, q33, q34, q35, q36, q37, q38, q39, q40, q41, q42, q43, q44, q46, q47, q49, q50, q51, q48, q52, q53, q54, q55, q56, q57] r11 r45 ra rb rc)) (cA := cA) (r1 := r11) (r2 := r45) (fun j h => ad0_1 h) (fun j h => ad0_2 h)
  have e1 := iw56 cA h0 q1 q2 q3 q4 q5 q6 q7 q8 q9 q10 q12 q13 q14 q17 q18 q19 q20 q21 q22 q15 q23 q24 q25 q26 q27 q28 q16 q29 q30 q31 q32 q33 q34 q35 q36 q37 q38 q39 q40 q41 q42 q43 q44 q46 q47 q49 q50 q51 q48 q52 q53 q54 q55 q56 q57 r11 r45 ra rb rc
  generalize hL : ((List.range 56).map fun k => ((ad0 [h0, q1, q2, q3, q4, q5, q6, q7, q8, q9, q10, q12, q13, q14, q17, q18, q19, q20, q21, q22, q15, q23, q24, q25, q26, q27, q28, q16, q29, q30, q31, q32, q33, q34, q35, q36, q37, q38, q39, q40, q41, q42, q43, q44, q46, q47, q49, q50, q51, q48, q52, q53, q54, q55, q56, q57] r11 r45 ra rb rc) k, cZ LX (ad0 [h0, q1, q2, q3, q4, q5, q6, q7, q8, q9, q10, q12, q13, q14, q17, q18, q19, q20, q21, q22, q15, q23, q24, q25, q26, q27, q28, q16, q29, q30, q31, q32, q33, q34, q35, q36, q37, q38, q39, q40, q41, q42, q43, q44, q46, q47, q49, q50, q51, q48, q52, q53, q54, q55, q56, q57] r11 r45 ra rb rc) cA (X0 k) k)) = L56 at e0 e1
  have l56 : L56.length = 56 := by rw [← hL]; simp
  have g10 : L56[10]? = some (q10, .inl (cA 4, (60, .inr (.inr (.inr (.inr (fun j => if j < 60 then some ((ad0 [h0, q1, q2, q3, q4, q5, q6, q7, q8, q9, q10, q12, q13, q14, q17, q18, q19, q20, q21, q22, q15, q23, q24, q25, q26, q27, q28, q16, q29, q30, q31, q32, q33, q34, q35, q36, q37, q38, q39, q40, q41, q42, q43, q44, q46, q47, q49, q50, q51, q48, q52, q53, q54, q55, q56, q57] r11 r45 ra rb rc) (156 - 100 + j)) else none))))))) := by rw [← hL]; rfl
  have g12 : L56[12]? = some (q13, .inl (cA 3, (3, .inr (.inr (.inr (.inr (fun j => some ((ad0 [h0, q1, q2, q3, q4, q5, q6, q7, q8, q9, q10, q12, q13, q14, q17, q18, q19, q20, q21, q22, q15, q23, q24, q25, q26, q27, q28, q16, q29, q30, q31, q32, q33, q34, q35, q36, q37, q38, q39, q40, q41, q42, q43, q44, q46, q47, q49, q50, q51, q48, q52, q53, q54, q55, q56, q57] r11 r45 ra rb rc) (X0 12 j).toNatClampNeg)))))))) := by rw [← hL]; rfl
  have g41 : L56[41]? = some (q42, .inl (cA 4, (60, .inr (.inr (.inr (.inr (fun j => if j < 60 then some ((ad0 [h0, q1, q2, q3, q4, q5, q6, q7, q8, q9, q10, q12, q13, q14, q17, q18, q19, q20, q21, q22, q15, q23, q24, q25, q26, q27, q28, q16, q29, q30, q31, q32, q33, q34, q35, q36, q37, q38, q39, q40, q41, q42, q43, q44, q46, q47, q49, q50, q51, q48, q52, q53, q54, q55, q56, q57] r11 r45 ra rb rc) (216 - 100 + j)) else none))))))) := by rw [← hL]; rfl
  have f10 : (fun i => if i < 60 then some (r11 i) else none) = (fun j => if j < 60 then some ((ad0 [h0, q1, q2, q3, q4, q5, q6, q7, q8, q9, q10, q12, q13, q14, q17, q18, q19, q20, q21, q22, q15, q23, q24, q25, q26, q27, q28, q16, q29, q30, q31, q32, q33, q34, q35, q36, q37, q38, q39, q40, q41, q42, q43, q44, q46, q47, q49, q50, q51, q48, q52, q53, q54, q55, q56, q57] r11 r45 ra rb rc) (156 - 100 + j)) else none) := by
    funext j
    by_cases h : j < 60
    · rw [if_pos h, if_pos h, show 156 - 100 + j = 56 + j by omega, ad0_1 h]
    · rw [if_neg h, if_neg h]
  have f41 : (fun i => if i < 60 then some (r45 i) else none) = (fun j => if j < 60 then some ((ad0 [h0, q1, q2, q3, q4, q5, q6, q7, q8, q9, q10, q12, q13, q14, q17, q18, q19, q20, q21, q22, q15, q23, q24, q25, q26, q27, q28, q16, q29, q30, q31, q32, q33, q34, q35, q36, q37, q38, q39, q40, q41, q42, q43, q44, q46, q47, q49, q50, q51, q48, q52, q53, q54, q55, q56, q57] r11 r45 ra rb rc) (216 - 100 + j)) else none) := by
    funext j
    by_cases h : j < 60
    · rw [if_pos h, if_pos h, show 216 - 100 + j = 116 + j by omega, ad0_2 h]
    · rw [if_neg h, if_neg h]
  have f12 : ∀ j, j < 3 → (va_up (va_up (va_up (fun _ => none) (0 : Int32).toNatClampNeg (some q14)) (1 : Int32).toNatClampNeg (some q15)) (2 : Int32).toNatClampNeg (some q16)) j = (fun j => some ((ad0 [h0, q1, q2, q3, q4, q5, q6, q7, q8, q9, q10, q12, q13, q14, q17, q18, q19, q20, q21, q22, q15, q23, q24, q25, q26, q27, q28, q16, q29, q30, q31, q32, q33, q34, q35, q36, q37, q38, q39, q40, q41, q42, q43, q44, q46, q47, q49, q50, q51, q48, q52, q53, q54, q55, q56, q57] r11 r45 ra rb rc) (X0 12 j).toNatClampNeg)) j := by
    intro j hj
    rcases (show j = 0 ∨ j = 1 ∨ j = 2 by omega) with rfl | rfl | rfl <;> rfl
  have ap : ∀ (R : va_W) (k : Nat) (x : Nat × va_E) (L : va_W), k < L.length → L.set k x ++ R = (L ++ R).set k x := fun R k x L h => (List.set_append_left k x h).symm
  have gg : ∀ (R : va_W) (k : Nat) (x : Nat × va_E), L56[k]? = some x → (L56 ++ R)[k]? = some x := fun R k x h => by rw [List.getElem?_append_left (List.getElem?_eq_some_iff.mp h).1]; exact h
  have e3 : wZ LX (ad0 [h0, q1, q2, q3, q4, q5, q6, q7, q8, q9, q10, q12, q13, q14, q17, q18, q19, q20, q21, q22, q15, q23, q24, q25, q26, q27, q28, q16, q29, q30, q31, q32, q33, q34, q35, q36, q37, q38, q39, q40, q41, q42, q43, q44, q46, q47, q49, q50, q51, q48, q52, q53, q54, q55, q56, q57] r11 r45 ra rb rc) cA X0 ++ W = L56 ++ ((rowsL (cA 0) 60 20 r11 ++ rowsL (cA 0) 60 20 r45) ++ W) := by rw [e0, List.append_assoc]
  have e2 : ([(h0, .inr (10, [.ref q1, .ref q12, .ref q35, .ref q36, .ref q46, .ref q55, .int 0, .int 0, .int 0])), (q1, .inr (9, [.ref q2, .ref q3, .ref q4, .ref q5, .ref q6, .ref q7, .ref q8, .ref q9, .ref q10, .int 1])), (q2, .inl (cA 0, (60, .inl (kFil 60)))), (q3, .inl (cA 2, (60, .inl (fun _ => 0)))), (q4, .inl (cA 1, (60, .inl (upd (fun _ => 0) (0 : Int32).toNatClampNeg (vp_nar .boolean 1))))), (q5, .inl (cA 1, (60, .inl (upd (fun _ => 0) (0 : Int32).toNatClampNeg (vp_nar .boolean 1))))), (q6, .inl (cA 1, (60, .inl (fun _ => 0)))), (q7, .inl (cA 0, (60, .inl (upd (fun _ => 0) (0 : Int32).toNatClampNeg (15))))), (q8, .inl (cA 0, (60, .inl (fun _ => 0)))), (q9, .inl (cA 0, (60, .inl (fun _ => 0)))), (q10, .inl (cA 4, (60, .inr (.inr (.inr (.inr (fun i => if i < 60 then some (r11 i) else none)))))))] ++ ([(q12, .inr (8, [.ref q1, .ref q13, .int 0])), (q13, .inl (cA 3, (3, .inr (.inr (.inr (.inr (va_up (va_up (va_up (fun _ => none) (0 : Int32).toNatClampNeg (some q14)) (1 : Int32).toNatClampNeg (some q15)) (2 : Int32).toNatClampNeg (some q16)))))))), (q14, .inr (7, [.ref q17, .ref q18, .ref q19, .int 0, .int 0, .int 0])), (q17, .inl (cA 0, (8, .inl (fun _ => 0)))), (q18, .inl (cA 0, (8, .inl (fun _ => 0)))), (q19, .inr (1, [.ref q20, .ref q21, .ref q22, .int 0, .int 0])), (q20, .inl (cA 0, (60, .inl (fun _ => 0)))), (q21, .inl (cA 1, (60, .inl (fun _ => 0)))), (q22, .inl (cA 1, (60, .inl (fun _ => 0)))), (q15, .inr (7, [.ref q23, .ref q24, .ref q25, .int 0, .int 0, .int 0])), (q23, .inl (cA 0, (8, .inl (fun _ => 0)))), (q24, .inl (cA 0, (8, .inl (fun _ => 0)))), (q25, .inr (1, [.ref q26, .ref q27, .ref q28, .int 0, .int 0])), (q26, .inl (cA 0, (60, .inl (fun _ => 0)))), (q27, .inl (cA 1, (60, .inl (fun _ => 0)))), (q28, .inl (cA 1, (60, .inl (fun _ => 0)))), (q16, .inr (7, [.ref q29, .ref q30, .ref q31, .int 0, .int 0, .int 0])), (q29, .inl (cA 0, (8, .inl (fun _ => 0)))), (q30, .inl (cA 0, (8, .inl (fun _ => 0)))), (q31, .inr (1, [.ref q32, .ref q33, .ref q34, .int 0, .int 0])), (q32, .inl (cA 0, (60, .inl (fun _ => 0)))), (q33, .inl (cA 1, (60, .inl (fun _ => 0)))), (q34, .inl (cA 1, (60, .inl (fun _ => 0)))), (q35, .inr (6, [.int 2, .int 12])), (q36, .inr (2, [.ref q1, .ref q12, .ref q37, .ref q38, .ref q39, .ref q40, .ref q41, .ref q42, .ref q43, .ref q44])), (q37, .inl (cA 1, (60, .inl (fun _ => 0)))), (q38, .inl (cA 0, (60, .inl (fun _ => 0)))), (q39, .inl (cA 2, (60, .inl (fun _ => 0)))), (q40, .inl (cA 0, (60, .inl (fun _ => 0)))), (q41, .inl (cA 0, (60, .inl (fun _ => 0)))), (q42, .inl (cA 4, (60, .inr (.inr (.inr (.inr (fun i => if i < 60 then some (r45 i) else none)))))))] ++ [(q43, .inl (cA 1, (60, .inl (fun _ => 0)))), (q44, .inl (cA 1, (60, .inl (fun _ => 0)))), (q46, .inr (4, [.ref q1, .ref q12, .ref q35, .ref q36, .ref q47, .ref q48])), (q47, .inr (0, [.ref q49, .ref q50, .ref q51, .int 0])), (q49, .inl (cA 0, (60, .inl (fun _ => 0)))), (q50, .inl (cA 0, (60, .inl (fun _ => 0)))), (q51, .inl (cA 1, (60, .inl (fun _ => 0)))), (q48, .inr (3, [.ref q52, .ref q53, .ref q54, .int 0])), (q52, .inl (cA 0, (60, .inl (kFil 60)))), (q53, .inl (cA 0, (4, .inl (fun _ => 0)))), (q54, .inl (cA 0, (4, .inl (fun _ => 0)))), (q55, .inr (5, [.ref q1, .ref q12, .ref q35, .ref q36, .ref q56, .ref q57])), (q56, .inl (cA 0, (60, .inl (fun _ => 0)))), (q57, .inl (cA 0, (20, .inl (fun _ => 0))))])) ++ ((rowsL (cA 0) 60 20 r11 ++ rowsL (cA 0) 60 20 r45) ++ W) = (((wZ LX (ad0 [h0, q1, q2, q3, q4, q5, q6, q7, q8, q9, q10, q12, q13, q14, q17, q18, q19, q20, q21, q22, q15, q23, q24, q25, q26, q27, q28, q16, q29, q30, q31, q32, q33, q34, q35, q36, q37, q38, q39, q40, q41, q42, q43, q44, q46, q47, q49, q50, q51, q48, q52, q53, q54, q55, q56, q57] r11 r45 ra rb rc) cA X0 ++ W).set 10 (q10, .inl (cA 4, (60, .inr (.inr (.inr (.inr (fun i => if i < 60 then some (r11 i) else none)))))))).set 12 (q13, .inl (cA 3, (3, .inr (.inr (.inr (.inr (va_up (va_up (va_up (fun _ => none) (0 : Int32).toNatClampNeg (some q14)) (1 : Int32).toNatClampNeg (some q15)) (2 : Int32).toNatClampNeg (some q16))))))))).set 41 (q42, .inl (cA 4, (60, .inr (.inr (.inr (.inr (fun i => if i < 60 then some (r45 i) else none))))))) := by
    rw [e1, e3]
    rw [ap _ 41 _ _ (by simp [l56]), ap _ 12 _ _ (by simp [l56]), ap _ 10 _ _ (by simp [l56])]
  have t10 : (wZ LX (ad0 [h0, q1, q2, q3, q4, q5, q6, q7, q8, q9, q10, q12, q13, q14, q17, q18, q19, q20, q21, q22, q15, q23, q24, q25, q26, q27, q28, q16, q29, q30, q31, q32, q33, q34, q35, q36, q37, q38, q39, q40, q41, q42, q43, q44, q46, q47, q49, q50, q51, q48, q52, q53, q54, q55, q56, q57] r11 r45 ra rb rc) cA X0 ++ W)[10]? = some (q10, .inl (cA 4, (60, .inr (.inr (.inr (.inr (fun j => if j < 60 then some ((ad0 [h0, q1, q2, q3, q4, q5, q6, q7, q8, q9, q10, q12, q13, q14, q17, q18, q19, q20, q21, q22, q15, q23, q24, q25, q26, q27, q28, q16, q29, q30, q31, q32, q33, q34, q35, q36, q37, q38, q39, q40, q41, q42, q43, q44, q46, q47, q49, q50, q51, q48, q52, q53, q54, q55, q56, q57] r11 r45 ra rb rc) (156 - 100 + j)) else none))))))) := by rw [e3]; exact gg _ 10 _ g10
  have t12 : ((wZ LX (ad0 [h0, q1, q2, q3, q4, q5, q6, q7, q8, q9, q10, q12, q13, q14, q17, q18, q19, q20, q21, q22, q15, q23, q24, q25, q26, q27, q28, q16, q29, q30, q31, q32, q33, q34, q35, q36, q37, q38, q39, q40, q41, q42, q43, q44, q46, q47, q49, q50, q51, q48, q52, q53, q54, q55, q56, q57] r11 r45 ra rb rc) cA X0 ++ W).set 10 (q10, .inl (cA 4, (60, .inr (.inr (.inr (.inr (fun i => if i < 60 then some (r11 i) else none))))))))[12]? = some (q13, .inl (cA 3, (3, .inr (.inr (.inr (.inr (fun j => some ((ad0 [h0, q1, q2, q3, q4, q5, q6, q7, q8, q9, q10, q12, q13, q14, q17, q18, q19, q20, q21, q22, q15, q23, q24, q25, q26, q27, q28, q16, q29, q30, q31, q32, q33, q34, q35, q36, q37, q38, q39, q40, q41, q42, q43, q44, q46, q47, q49, q50, q51, q48, q52, q53, q54, q55, q56, q57] r11 r45 ra rb rc) (X0 12 j).toNatClampNeg)))))))) := by rw [List.getElem?_set_ne (by decide), e3]; exact gg _ 12 _ g12
  have t41 : (((wZ LX (ad0 [h0, q1, q2, q3, q4, q5, q6, q7, q8, q9, q10, q12, q13, q14, q17, q18, q19, q20, q21, q22, q15, q23, q24, q25, q26, q27, q28, q16, q29, q30, q31, q32, q33, q34, q35, q36, q37, q38, q39, q40, q41, q42, q43, q44, q46, q47, q49, q50, q51, q48, q52, q53, q54, q55, q56, q57] r11 r45 ra rb rc) cA X0 ++ W).set 10 (q10, .inl (cA 4, (60, .inr (.inr (.inr (.inr (fun i => if i < 60 then some (r11 i) else none)))))))).set 12 (q13, .inl (cA 3, (3, .inr (.inr (.inr (.inr (va_up (va_up (va_up (fun _ => none) (0 : Int32).toNatClampNeg (some q14)) (1 : Int32).toNatClampNeg (some q15)) (2 : Int32).toNatClampNeg (some q16)))))))))[41]? = some (q42, .inl (cA 4, (60, .inr (.inr (.inr (.inr (fun j => if j < 60 then some ((ad0 [h0, q1, q2, q3, q4, q5, q6, q7, q8, q9, q10, q12, q13, q14, q17, q18, q19, q20, q21, q22, q15, q23, q24, q25, q26, q27, q28, q16, q29, q30, q31, q32, q33, q34, q35, q36, q37, q38, q39, q40, q41, q42, q43, q44, q46, q47, q49, q50, q51, q48, q52, q53, q54, q55, q56, q57] r11 r45 ra rb rc) (216 - 100 + j)) else none))))))) := by rw [List.getElem?_set_ne (by decide), List.getElem?_set_ne (by decide), e3]; exact gg _ 41 _ g41
  refine ⟨fun D H hP => ?_, fun A hD => ?_⟩
  · have h := va_P.perm w_perm hP
    rw [e2] at h
    exact fix_P t10 (at_100 f10) (fix_P t12 (at_3 f12) (fix_P t41 (at_100 f41) h))
  · have h := va_D.perm w_perm hD
    rw [e2] at h
    exact fix_D t10 (fix_D t12 (fix_D t41 h))
theorem jc_via {n : Nat} {κ : JK} {kc ks : Nat} {ws ws' : va_W} {pc : Nat} {lv : List (Nat × Value)} {st : List Value} (hP : ∀ (D : va_G) (H : Heap), va_P D vwCl ws H → va_P D vwCl ws' H) (hD : ∀ A : Nat → Prop, va_D A ws → va_D A ws') (k : JC n κ kc ks ws' pc lv st) : JC n κ kc ks ws pc lv st := by
  obtain ⟨p, l, e, R, s, m, args, below, meth, c, D, A, ad, cA, rs, Q⟩ := κ
  intro H locs ls hP9 hD9 hS hl
  exact k H locs ls (hP D H hP9) (hD A hD9) hS hl
/-- the state behind the constructor and the law's three rows, with a budget of 10,000 calls -/
def X1 : JX := sbu X0 10000
theorem bud_X1 : bud X1 = 10000 := by
  unfold bud X1
  rw [sbu_179]
  rfl
/-- the law's world, its addresses put in -/
def jk_ad (ad : Nat → Nat) (κ : JK) : JK := match κ with
  | (p, l, e, R, s, m, args, below, meth, c, D, A, _, cA, _, Q) => (p, l, e, R, s, m, args, below, meth, c, D, A, ad, cA, [], Q)
theorem jok_ad {n : Nat} {cc : ByteArray} {own : String} {ret : Option FieldType} {d : Nat} {κ : JK} (ad : Nat → Nat) (K : jOk n cc own ret d κ) : jOk n cc own ret d (jk_ad ad κ) := by
  obtain ⟨p, l, e, R, s, m, args, below, meth, c, D, A, ad0, cA, rs, Q⟩ := κ
  exact K
theorem jB_ad {κ : JK} (ad : Nat → Nat) (K : jB κ) : jB (jk_ad ad κ) := by
  obtain ⟨p, l, e, R, s, m, args, below, meth, c, D, A, ad0, cA, rs, Q⟩ := κ
  exact K
theorem jS_ad {κ : JK} {sb : Nat} {g : Int32 → Int32} (ad : Nat → Nat) (K : jS sb g κ) : jS sb g (jk_ad ad κ) := by
  obtain ⟨p, l, e, R, s, m, args, below, meth, c, D, A, ad0, cA, rs, Q⟩ := κ
  exact K
theorem jLw_ad {κ : JK} {r : Int32} (ad : Nat → Nat) (K : jLw r κ) : jLw r (jk_ad ad κ) := by
  obtain ⟨p, l, e, R, s, m, args, below, meth, c, D, A, ad0, cA, rs, Q⟩ := κ
  exact K
theorem jc_toB {n : Nat} {κ : JK} {kc ks mc ms : Nat} {ad : Nat → Nat} {pc : Nat} {lv : List (Nat × Value)} {st : List Value} (G : jRc mc ms κ) (h1 : kc + 10000 ≤ mc) (h2 : ks + 60000 ≤ ms) (k : JB LZ n (jk_ad ad κ) X1 pc lv st) : JC n κ kc ks (wZ LX ad (jcA κ) X0 ++ tail3 ad (jcA κ) X0) pc lv st := by
  obtain ⟨p, l, e, R, s, m, args, below, meth, c, D, A, ad0, cA, rs, Q⟩ := κ
  obtain ⟨G1, G2, G3⟩ := G
  intro H locs ls hP hD hS hl
  have hw : wZ LZ ad cA X1 ++ [] = wZ LX ad cA X0 ++ tail3 ad cA X0 := by
    rw [List.append_nil]
    exact (wZ_sbu ad cA X0 10000).trans (wZZ ad cA X0)
  refine k kc ks H locs ls ?_ ?_ ?_ ?_ hS hl
  · rw [bud_X1]; exact Nat.le_trans h1 G1
  · rw [bud_X1]; exact Nat.le_trans h2 G2
  · show va_P D vwCl (wZ LZ ad cA X1 ++ []) H
    rw [hw]; exact hP
  · show va_D A (wZ LZ ad cA X1 ++ [])
    rw [hw]; exact hD
theorem law_head {κ : JK} {b : Nat} {g : Int32 → Int32} {r : Int32} (K : jOk 19 cL_law RL (some .boolean) 9 κ) (Gc : jRc 600104 7301314 κ) (G : jB κ) (S : jS b g κ) (F : jLw r κ) (hr : f_L_law g X1 = some r) : JC 19 κ 0 0 [] 0 [(0, .ref b)] [] := by
  refine jc_new K Gc nw_L_9 (by decide) (by decide) dL_law_0 (fun h0 => ?_)
  refine jc_dup K dL_law_3 rfl ?_
  refine jc_call K Gc (As := []) (cc_X10 (jcA κ) h0) ic_L_18 rfl (by decide) (by decide) (Nat.le_of_ble_eq_true rfl) (by decide) (by decide) dL_law_4 (fun ws1 hw1 => ?_)
  obtain ⟨q1, q12, q35, q36, q46, q55, q2, q3, q4, q5, q6, q7, q8, q9, q10, r11, q13, q14, q15, q16, q17, q18, q19, q20, q21, q22, q23, q24, q25, q26, q27, q28, q29, q30, q31, q32, q33, q34, q37, q38, q39, q40, q41, q42, q43, q44, r45, q47, q48, q49, q50, q51, q52, q53, q54, q56, q57, rfl⟩ := hw1
  refine jc_astore_n K dL_law_7 (by decide) ?_
  refine jc_bipush K dL_law_8 (v := 32) rfl ?_
  refine jc_newarrI K Gc (N := 32) ar_I (by decide) rfl (by decide) (by decide) (by decide) dL_law_10 (fun ra => ?_)
  refine jc_astore_n K dL_law_12 (by decide) ?_
  refine jc_bipush K dL_law_13 (v := 32) rfl ?_
  refine jc_newarrI K Gc (N := 32) ar_I (by decide) rfl (by decide) (by decide) (by decide) dL_law_15 (fun rb => ?_)
  refine jc_astore_n K dL_law_17 (by decide) ?_
  refine jc_bipush K dL_law_18 (v := 32) rfl ?_
  refine jc_newarrI K Gc (N := 32) ar_I (by decide) rfl (by decide) (by decide) (by decide) dL_law_20 (fun rc => ?_)
  refine jc_astore K dL_law_22 (by decide) ?_
  have h := iw (jcA κ) h0 q1 q2 q3 q4 q5 q6 q7 q8 q9 q10 q12 q13 q14 q17 q18 q19 q20 q21 q22 q15 q23 q24 q25 q26 q27 q28 q16 q29 q30 q31 q32 q33 q34 q35 q36 q37 q38 q39 q40 q41 q42 q43 q44 q46 q47 q49 q50 q51 q48 q52 q53 q54 q55 q56 q57 r11 r45 ra rb rc (tail3 (ad0 [h0, q1, q2, q3, q4, q5, q6, q7, q8, q9, q10, q12, q13, q14, q17, q18, q19, q20, q21, q22, q15, q23, q24, q25, q26, q27, q28, q16, q29, q30, q31, q32, q33, q34, q35, q36, q37, q38, q39, q40, q41, q42, q43, q44, q46, q47, q49, q50, q51, q48, q52, q53, q54, q55, q56, q57] r11 r45 ra rb rc) (jcA κ) X0)
  have e3 : ∀ (U : va_W), ((U ++ [(ra, .inl (jcA κ 0, (32, .inl (fun _ => 0))))]) ++ [(rb, .inl (jcA κ 0, (32, .inl (fun _ => 0))))]) ++ [(rc, .inl (jcA κ 0, (32, .inl (fun _ => 0))))] = U ++ tail3 (ad0 [h0, q1, q2, q3, q4, q5, q6, q7, q8, q9, q10, q12, q13, q14, q17, q18, q19, q20, q21, q22, q15, q23, q24, q25, q26, q27, q28, q16, q29, q30, q31, q32, q33, q34, q35, q36, q37, q38, q39, q40, q41, q42, q43, q44, q46, q47, q49, q50, q51, q48, q52, q53, q54, q55, q56, q57] r11 r45 ra rb rc) (jcA κ) X0 := fun U => by
    rw [List.append_assoc, List.append_assoc]
    rfl
  rw [e3]
  refine jc_via h.1 h.2 ?_
  refine jc_toB Gc (by decide) (by decide) ?_
  exact k_sub [4, 3, 2, 1, 0] rfl (jf_L_law (jok_ad _ K) (jB_ad _ G) (jS_ad _ S) X1 (jLw_ad _ F) hr)

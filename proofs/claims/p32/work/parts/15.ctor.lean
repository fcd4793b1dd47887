def kFil (n : Nat) : Nat → Int32 := fun j => if j < n then -1 else 0
theorem kFil_0 : kFil 0 = fun _ => 0 := funext fun j => if_neg (Nat.not_lt_zero j)
theorem okI_nI {i N : Nat} (h : i < N) (hN : N < 2 ^ 31) : okI (nI i) N = true := by
  unfold okI
  rw [nI_clamp (Nat.lt_trans h hN)]
  simp [h, nI_pos (Nat.lt_trans h hN)]
theorem kFil_s {i : Nat} (h : i < 60) : kFil (i + 1) = upd (kFil i) (nI i).toNatClampNeg (-1) := by
  rw [nI_clamp (by omega)]
  funext j
  unfold kFil upd
  by_cases h1 : j = i
  · subst h1; simp
  · by_cases h2 : j < i
    · simp [h1, h2, Nat.lt_succ_of_lt h2]
    · simp [h1, h2, show ¬ j < i + 1 by omega]
theorem cc_X0 (cA : Nat → ClassId) (h0 : Nat)  : CalC yX0_init cX0_init 1 1 cA [.ref h0] [(h0, .inr (0, [.null, .null, .null, .int 0]))] (fun ws1 => ∃ (q1 : Nat) (q2 : Nat) (q3 : Nat), ws1 = [(h0, .inr (0, [.ref q1, .ref q2, .ref q3, .int 0])), (q1, .inl (cA 0, (60, .inl (fun _ => 0)))), (q2, .inl (cA 0, (60, .inl (fun _ => 0)))), (q3, .inl (cA 1, (60, .inl (fun _ => 0))))]) 3 180 := by
  refine CalC.of (own := RX0) [(0, .ref h0)] (by decide) rfl rfl (Nat.le_of_ble_eq_true rfl) rfl (fun κ hcA K G I F => ?_)
  subst hcA
  refine jc_aload_n K dX0_init_0 0 rfl ?_
  refine jc_objInit K oi_X0_3 (by decide) (Nat.le_of_ble_eq_true rfl) dX0_init_1 ?_
  refine jc_aload_n K dX0_init_4 0 rfl ?_
  refine jc_bipush K dX0_init_5 (v := 60) rfl ?_
  refine jc_newarrI K G (N := 60) ar_I (by decide) rfl (by decide) (by decide) (by decide) dX0_init_7 (fun q1 => ?_)
  refine jc_eq (ws' := [(h0, .inr (0, [.null, .null, .null, .int 0])), (q1, .inl (jcA κ 0, (60, .inl (fun _ => 0))))]) rfl ?_
  refine jc_putF K fr_X0_9 I 0 rfl (Nat.le_of_ble_eq_true rfl) (ws' := [(h0, .inr (0, [.ref q1, .null, .null, .int 0])), (q1, .inl (jcA κ 0, (60, .inl (fun _ => 0))))]) rfl dX0_init_9 ?_
  refine jc_aload_n K dX0_init_12 0 rfl ?_
  refine jc_bipush K dX0_init_13 (v := 60) rfl ?_
  refine jc_newarrI K G (N := 60) ar_I (by decide) rfl (by decide) (by decide) (by decide) dX0_init_15 (fun q2 => ?_)
  refine jc_eq (ws' := [(h0, .inr (0, [.ref q1, .null, .null, .int 0])), (q1, .inl (jcA κ 0, (60, .inl (fun _ => 0)))), (q2, .inl (jcA κ 0, (60, .inl (fun _ => 0))))]) rfl ?_
  refine jc_putF K fr_X0_15 I 0 rfl (Nat.le_of_ble_eq_true rfl) (ws' := [(h0, .inr (0, [.ref q1, .ref q2, .null, .int 0])), (q1, .inl (jcA κ 0, (60, .inl (fun _ => 0)))), (q2, .inl (jcA κ 0, (60, .inl (fun _ => 0))))]) rfl dX0_init_17 ?_
  refine jc_aload_n K dX0_init_20 0 rfl ?_
  refine jc_bipush K dX0_init_21 (v := 60) rfl ?_
  refine jc_newarrZ K G (N := 60) ar_Z (by decide) rfl (by decide) (by decide) (by decide) dX0_init_23 (fun q3 => ?_)
  refine jc_eq (ws' := [(h0, .inr (0, [.ref q1, .ref q2, .null, .int 0])), (q1, .inl (jcA κ 0, (60, .inl (fun _ => 0)))), (q2, .inl (jcA κ 0, (60, .inl (fun _ => 0)))), (q3, .inl (jcA κ 1, (60, .inl (fun _ => 0))))]) rfl ?_
  refine jc_putF K fr_X0_18 I 0 rfl (Nat.le_of_ble_eq_true rfl) (ws' := [(h0, .inr (0, [.ref q1, .ref q2, .ref q3, .int 0])), (q1, .inl (jcA κ 0, (60, .inl (fun _ => 0)))), (q2, .inl (jcA κ 0, (60, .inl (fun _ => 0)))), (q3, .inl (jcA κ 1, (60, .inl (fun _ => 0))))]) rfl dX0_init_25 ?_
  exact jc_return K F ⟨q1, q2, q3, rfl⟩ (Nat.le_refl _) (Nat.le_refl _) dX0_init_28
theorem cc_X1 (cA : Nat → ClassId) (h0 : Nat)  : CalC yX1_init cX1_init 1 1 cA [.ref h0] [(h0, .inr (1, [.null, .null, .null, .int 0, .int 0]))] (fun ws1 => ∃ (q1 : Nat) (q2 : Nat) (q3 : Nat), ws1 = [(h0, .inr (1, [.ref q1, .ref q2, .ref q3, .int 0, .int 0])), (q1, .inl (cA 0, (60, .inl (fun _ => 0)))), (q2, .inl (cA 1, (60, .inl (fun _ => 0)))), (q3, .inl (cA 1, (60, .inl (fun _ => 0))))]) 3 180 := by
  refine CalC.of (own := RX1) [(0, .ref h0)] (by decide) rfl rfl (Nat.le_of_ble_eq_true rfl) rfl (fun κ hcA K G I F => ?_)
  subst hcA
  refine jc_aload_n K dX1_init_0 0 rfl ?_
  refine jc_objInit K oi_X1_3 (by decide) (Nat.le_of_ble_eq_true rfl) dX1_init_1 ?_
  refine jc_aload_n K dX1_init_4 0 rfl ?_
  refine jc_bipush K dX1_init_5 (v := 60) rfl ?_
  refine jc_newarrI K G (N := 60) ar_I (by decide) rfl (by decide) (by decide) (by decide) dX1_init_7 (fun q1 => ?_)
  refine jc_eq (ws' := [(h0, .inr (1, [.null, .null, .null, .int 0, .int 0])), (q1, .inl (jcA κ 0, (60, .inl (fun _ => 0))))]) rfl ?_
  refine jc_putF K fr_X1_9 I 0 rfl (Nat.le_of_ble_eq_true rfl) (ws' := [(h0, .inr (1, [.ref q1, .null, .null, .int 0, .int 0])), (q1, .inl (jcA κ 0, (60, .inl (fun _ => 0))))]) rfl dX1_init_9 ?_
  refine jc_aload_n K dX1_init_12 0 rfl ?_
  refine jc_bipush K dX1_init_13 (v := 60) rfl ?_
  refine jc_newarrZ K G (N := 60) ar_Z (by decide) rfl (by decide) (by decide) (by decide) dX1_init_15 (fun q2 => ?_)
  refine jc_eq (ws' := [(h0, .inr (1, [.ref q1, .null, .null, .int 0, .int 0])), (q1, .inl (jcA κ 0, (60, .inl (fun _ => 0)))), (q2, .inl (jcA κ 1, (60, .inl (fun _ => 0))))]) rfl ?_
  refine jc_putF K fr_X1_15 I 0 rfl (Nat.le_of_ble_eq_true rfl) (ws' := [(h0, .inr (1, [.ref q1, .ref q2, .null, .int 0, .int 0])), (q1, .inl (jcA κ 0, (60, .inl (fun _ => 0)))), (q2, .inl (jcA κ 1, (60, .inl (fun _ => 0))))]) rfl dX1_init_17 ?_
  refine jc_aload_n K dX1_init_20 0 rfl ?_
  refine jc_bipush K dX1_init_21 (v := 60) rfl ?_
  refine jc_newarrZ K G (N := 60) ar_Z (by decide) rfl (by decide) (by decide) (by decide) dX1_init_23 (fun q3 => ?_)
  refine jc_eq (ws' := [(h0, .inr (1, [.ref q1, .ref q2, .null, .int 0, .int 0])), (q1, .inl (jcA κ 0, (60, .inl (fun _ => 0)))), (q2, .inl (jcA κ 1, (60, .inl (fun _ => 0)))), (q3, .inl (jcA κ 1, (60, .inl (fun _ => 0))))]) rfl ?_
  refine jc_putF K fr_X1_19 I 0 rfl (Nat.le_of_ble_eq_true rfl) (ws' := [(h0, .inr (1, [.ref q1, .ref q2, .ref q3, .int 0, .int 0])), (q1, .inl (jcA κ 0, (60, .inl (fun _ => 0)))), (q2, .inl (jcA κ 1, (60, .inl (fun _ => 0)))), (q3, .inl (jcA κ 1, (60, .inl (fun _ => 0))))]) rfl dX1_init_25 ?_
  exact jc_return K F ⟨q1, q2, q3, rfl⟩ (Nat.le_refl _) (Nat.le_refl _) dX1_init_28
theorem cc_X6 (cA : Nat → ClassId) (h0 : Nat)  : CalC yX6_init cX6_init 1 1 cA [.ref h0] [(h0, .inr (6, [.int 0, .int 0]))] (fun ws1 => ws1 = [(h0, .inr (6, [.int 2, .int 12]))]) 0 0 := by
  refine CalC.of (own := RX6) [(0, .ref h0)] (by decide) rfl rfl (Nat.le_of_ble_eq_true rfl) rfl (fun κ hcA K G I F => ?_)
  subst hcA
  refine jc_aload_n K dX6_init_0 0 rfl ?_
  refine jc_objInit K oi_X6_3 (by decide) (Nat.le_of_ble_eq_true rfl) dX6_init_1 ?_
  refine jc_aload_n K dX6_init_4 0 rfl ?_
  refine jc_iconst K dX6_init_5 (v := 2) rfl ?_
  refine jc_puti K cp_X6_9 0 rfl (Nat.le_of_ble_eq_true rfl) (ws' := [(h0, .inr (6, [.int 2, .int 0]))]) rfl dX6_init_6 ?_
  refine jc_aload_n K dX6_init_9 0 rfl ?_
  refine jc_bipush K dX6_init_10 (v := 12) rfl ?_
  refine jc_puti K cp_X6_15 0 rfl (Nat.le_of_ble_eq_true rfl) (ws' := [(h0, .inr (6, [.int 2, .int 12]))]) rfl dX6_init_12 ?_
  exact jc_return K F rfl (Nat.le_refl _) (Nat.le_refl _) dX6_init_15
theorem cc_X9 (cA : Nat → ClassId) (h0 : Nat)  : CalC yX9_init cX9_init 2 1 cA [.ref h0] [(h0, .inr (9, [.null, .null, .null, .null, .null, .null, .null, .null, .null, .int 0]))] (fun ws1 => ∃ (q1 : Nat) (q2 : Nat) (q3 : Nat) (q4 : Nat) (q5 : Nat) (q6 : Nat) (q7 : Nat) (q8 : Nat) (q9 : Nat) (r10 : Nat → Nat), ws1 = [(h0, .inr (9, [.ref q1, .ref q2, .ref q3, .ref q4, .ref q5, .ref q6, .ref q7, .ref q8, .ref q9, .int 1])), (q1, .inl (cA 0, (60, .inl (kFil 60)))), (q2, .inl (cA 2, (60, .inl (fun _ => 0)))), (q3, .inl (cA 1, (60, .inl (upd (fun _ => 0) (0 : Int32).toNatClampNeg (vp_nar .boolean 1))))), (q4, .inl (cA 1, (60, .inl (upd (fun _ => 0) (0 : Int32).toNatClampNeg (vp_nar .boolean 1))))), (q5, .inl (cA 1, (60, .inl (fun _ => 0)))), (q6, .inl (cA 0, (60, .inl (upd (fun _ => 0) (0 : Int32).toNatClampNeg (15))))), (q7, .inl (cA 0, (60, .inl (fun _ => 0)))), (q8, .inl (cA 0, (60, .inl (fun _ => 0)))), (q9, .inl (cA 4, (60, .inr (.inr (.inr (.inr (fun i => if i < 60 then some (r10 i) else none)))))))] ++ rowsL (cA 0) 60 20 r10) 69 1740 := by
  refine CalC.of (own := RX9) [(0, .ref h0)] (by decide) rfl rfl (Nat.le_of_ble_eq_true rfl) rfl (fun κ hcA K G I F => ?_)
  subst hcA
  refine jc_aload_n K dX9_init_0 0 rfl ?_
  refine jc_objInit K oi_X9_3 (by decide) (Nat.le_of_ble_eq_true rfl) dX9_init_1 ?_
  refine jc_aload_n K dX9_init_4 0 rfl ?_
  refine jc_bipush K dX9_init_5 (v := 60) rfl ?_
  refine jc_newarrI K G (N := 60) ar_I (by decide) rfl (by decide) (by decide) (by decide) dX9_init_7 (fun q1 => ?_)
  refine jc_eq (ws' := [(h0, .inr (9, [.null, .null, .null, .null, .null, .null, .null, .null, .null, .int 0])), (q1, .inl (jcA κ 0, (60, .inl (fun _ => 0))))]) rfl ?_
  refine jc_putF K fr_X9_9 I 0 rfl (Nat.le_of_ble_eq_true rfl) (ws' := [(h0, .inr (9, [.ref q1, .null, .null, .null, .null, .null, .null, .null, .null, .int 0])), (q1, .inl (jcA κ 0, (60, .inl (fun _ => 0))))]) rfl dX9_init_9 ?_
  refine jc_aload_n K dX9_init_12 0 rfl ?_
  refine jc_bipush K dX9_init_13 (v := 60) rfl ?_
  refine jc_newarrC K G (N := 60) ar_C (by decide) rfl (by decide) (by decide) (by decide) dX9_init_15 (fun q2 => ?_)
  refine jc_eq (ws' := [(h0, .inr (9, [.ref q1, .null, .null, .null, .null, .null, .null, .null, .null, .int 0])), (q1, .inl (jcA κ 0, (60, .inl (fun _ => 0)))), (q2, .inl (jcA κ 2, (60, .inl (fun _ => 0))))]) rfl ?_
  refine jc_putF K fr_X9_15 I 0 rfl (Nat.le_of_ble_eq_true rfl) (ws' := [(h0, .inr (9, [.ref q1, .ref q2, .null, .null, .null, .null, .null, .null, .null, .int 0])), (q1, .inl (jcA κ 0, (60, .inl (fun _ => 0)))), (q2, .inl (jcA κ 2, (60, .inl (fun _ => 0))))]) rfl dX9_init_17 ?_
  refine jc_aload_n K dX9_init_20 0 rfl ?_
  refine jc_bipush K dX9_init_21 (v := 60) rfl ?_
  refine jc_newarrZ K G (N := 60) ar_Z (by decide) rfl (by decide) (by decide) (by decide) dX9_init_23 (fun q3 => ?_)
  refine jc_eq (ws' := [(h0, .inr (9, [.ref q1, .ref q2, .null, .null, .null, .null, .null, .null, .null, .int 0])), (q1, .inl (jcA κ 0, (60, .inl (fun _ => 0)))), (q2, .inl (jcA κ 2, (60, .inl (fun _ => 0)))), (q3, .inl (jcA κ 1, (60, .inl (fun _ => 0))))]) rfl ?_
  refine jc_putF K fr_X9_19 I 0 rfl (Nat.le_of_ble_eq_true rfl) (ws' := [(h0, .inr (9, [.ref q1, .ref q2, .ref q3, .null, .null, .null, .null, .null, .null, .int 0])), (q1, .inl (jcA κ 0, (60, .inl (fun _ => 0)))), (q2, .inl (jcA κ 2, (60, .inl (fun _ => 0)))), (q3, .inl (jcA κ 1, (60, .inl (fun _ => 0))))]) rfl dX9_init_25 ?_
  refine jc_aload_n K dX9_init_28 0 rfl ?_
  refine jc_bipush K dX9_init_29 (v := 60) rfl ?_
  refine jc_newarrZ K G (N := 60) ar_Z (by decide) rfl (by decide) (by decide) (by decide) dX9_init_31 (fun q4 => ?_)
  refine jc_eq (ws' := [(h0, .inr (9, [.ref q1, .ref q2, .ref q3, .null, .null, .null, .null, .null, .null, .int 0])), (q1, .inl (jcA κ 0, (60, .inl (fun _ => 0)))), (q2, .inl (jcA κ 2, (60, .inl (fun _ => 0)))), (q3, .inl (jcA κ 1, (60, .inl (fun _ => 0)))), (q4, .inl (jcA κ 1, (60, .inl (fun _ => 0))))]) rfl ?_
  refine jc_putF K fr_X9_23 I 0 rfl (Nat.le_of_ble_eq_true rfl) (ws' := [(h0, .inr (9, [.ref q1, .ref q2, .ref q3, .ref q4, .null, .null, .null, .null, .null, .int 0])), (q1, .inl (jcA κ 0, (60, .inl (fun _ => 0)))), (q2, .inl (jcA κ 2, (60, .inl (fun _ => 0)))), (q3, .inl (jcA κ 1, (60, .inl (fun _ => 0)))), (q4, .inl (jcA κ 1, (60, .inl (fun _ => 0))))]) rfl dX9_init_33 ?_
  refine jc_aload_n K dX9_init_36 0 rfl ?_
  refine jc_bipush K dX9_init_37 (v := 60) rfl ?_
  refine jc_newarrZ K G (N := 60) ar_Z (by decide) rfl (by decide) (by decide) (by decide) dX9_init_39 (fun q5 => ?_)
  refine jc_eq (ws' := [(h0, .inr (9, [.ref q1, .ref q2, .ref q3, .ref q4, .null, .null, .null, .null, .null, .int 0])), (q1, .inl (jcA κ 0, (60, .inl (fun _ => 0)))), (q2, .inl (jcA κ 2, (60, .inl (fun _ => 0)))), (q3, .inl (jcA κ 1, (60, .inl (fun _ => 0)))), (q4, .inl (jcA κ 1, (60, .inl (fun _ => 0)))), (q5, .inl (jcA κ 1, (60, .inl (fun _ => 0))))]) rfl ?_
  refine jc_putF K fr_X9_26 I 0 rfl (Nat.le_of_ble_eq_true rfl) (ws' := [(h0, .inr (9, [.ref q1, .ref q2, .ref q3, .ref q4, .ref q5, .null, .null, .null, .null, .int 0])), (q1, .inl (jcA κ 0, (60, .inl (fun _ => 0)))), (q2, .inl (jcA κ 2, (60, .inl (fun _ => 0)))), (q3, .inl (jcA κ 1, (60, .inl (fun _ => 0)))), (q4, .inl (jcA κ 1, (60, .inl (fun _ => 0)))), (q5, .inl (jcA κ 1, (60, .inl (fun _ => 0))))]) rfl dX9_init_41 ?_
  refine jc_aload_n K dX9_init_44 0 rfl ?_
  refine jc_bipush K dX9_init_45 (v := 60) rfl ?_
  refine jc_newarrI K G (N := 60) ar_I (by decide) rfl (by decide) (by decide) (by decide) dX9_init_47 (fun q6 => ?_)
  refine jc_eq (ws' := [(h0, .inr (9, [.ref q1, .ref q2, .ref q3, .ref q4, .ref q5, .null, .null, .null, .null, .int 0])), (q1, .inl (jcA κ 0, (60, .inl (fun _ => 0)))), (q2, .inl (jcA κ 2, (60, .inl (fun _ => 0)))), (q3, .inl (jcA κ 1, (60, .inl (fun _ => 0)))), (q4, .inl (jcA κ 1, (60, .inl (fun _ => 0)))), (q5, .inl (jcA κ 1, (60, .inl (fun _ => 0)))), (q6, .inl (jcA κ 0, (60, .inl (fun _ => 0))))]) rfl ?_
  refine jc_putF K fr_X9_29 I 0 rfl (Nat.le_of_ble_eq_true rfl) (ws' := [(h0, .inr (9, [.ref q1, .ref q2, .ref q3, .ref q4, .ref q5, .ref q6, .null, .null, .null, .int 0])), (q1, .inl (jcA κ 0, (60, .inl (fun _ => 0)))), (q2, .inl (jcA κ 2, (60, .inl (fun _ => 0)))), (q3, .inl (jcA κ 1, (60, .inl (fun _ => 0)))), (q4, .inl (jcA κ 1, (60, .inl (fun _ => 0)))), (q5, .inl (jcA κ 1, (60, .inl (fun _ => 0)))), (q6, .inl (jcA κ 0, (60, .inl (fun _ => 0))))]) rfl dX9_init_49 ?_
  refine jc_aload_n K dX9_init_52 0 rfl ?_
  refine jc_bipush K dX9_init_53 (v := 60) rfl ?_
  refine jc_newarrI K G (N := 60) ar_I (by decide) rfl (by decide) (by decide) (by decide) dX9_init_55 (fun q7 => ?_)
  refine jc_eq (ws' := [(h0, .inr (9, [.ref q1, .ref q2, .ref q3, .ref q4, .ref q5, .ref q6, .null, .null, .null, .int 0])), (q1, .inl (jcA κ 0, (60, .inl (fun _ => 0)))), (q2, .inl (jcA κ 2, (60, .inl (fun _ => 0)))), (q3, .inl (jcA κ 1, (60, .inl (fun _ => 0)))), (q4, .inl (jcA κ 1, (60, .inl (fun _ => 0)))), (q5, .inl (jcA κ 1, (60, .inl (fun _ => 0)))), (q6, .inl (jcA κ 0, (60, .inl (fun _ => 0)))), (q7, .inl (jcA κ 0, (60, .inl (fun _ => 0))))]) rfl ?_
  refine jc_putF K fr_X9_32 I 0 rfl (Nat.le_of_ble_eq_true rfl) (ws' := [(h0, .inr (9, [.ref q1, .ref q2, .ref q3, .ref q4, .ref q5, .ref q6, .ref q7, .null, .null, .int 0])), (q1, .inl (jcA κ 0, (60, .inl (fun _ => 0)))), (q2, .inl (jcA κ 2, (60, .inl (fun _ => 0)))), (q3, .inl (jcA κ 1, (60, .inl (fun _ => 0)))), (q4, .inl (jcA κ 1, (60, .inl (fun _ => 0)))), (q5, .inl (jcA κ 1, (60, .inl (fun _ => 0)))), (q6, .inl (jcA κ 0, (60, .inl (fun _ => 0)))), (q7, .inl (jcA κ 0, (60, .inl (fun _ => 0))))]) rfl dX9_init_57 ?_
  refine jc_aload_n K dX9_init_60 0 rfl ?_
  refine jc_bipush K dX9_init_61 (v := 60) rfl ?_
  refine jc_newarrI K G (N := 60) ar_I (by decide) rfl (by decide) (by decide) (by decide) dX9_init_63 (fun q8 => ?_)
  refine jc_eq (ws' := [(h0, .inr (9, [.ref q1, .ref q2, .ref q3, .ref q4, .ref q5, .ref q6, .ref q7, .null, .null, .int 0])), (q1, .inl (jcA κ 0, (60, .inl (fun _ => 0)))), (q2, .inl (jcA κ 2, (60, .inl (fun _ => 0)))), (q3, .inl (jcA κ 1, (60, .inl (fun _ => 0)))), (q4, .inl (jcA κ 1, (60, .inl (fun _ => 0)))), (q5, .inl (jcA κ 1, (60, .inl (fun _ => 0)))), (q6, .inl (jcA κ 0, (60, .inl (fun _ => 0)))), (q7, .inl (jcA κ 0, (60, .inl (fun _ => 0)))), (q8, .inl (jcA κ 0, (60, .inl (fun _ => 0))))]) rfl ?_
  refine jc_putF K fr_X9_35 I 0 rfl (Nat.le_of_ble_eq_true rfl) (ws' := [(h0, .inr (9, [.ref q1, .ref q2, .ref q3, .ref q4, .ref q5, .ref q6, .ref q7, .ref q8, .null, .int 0])), (q1, .inl (jcA κ 0, (60, .inl (fun _ => 0)))), (q2, .inl (jcA κ 2, (60, .inl (fun _ => 0)))), (q3, .inl (jcA κ 1, (60, .inl (fun _ => 0)))), (q4, .inl (jcA κ 1, (60, .inl (fun _ => 0)))), (q5, .inl (jcA κ 1, (60, .inl (fun _ => 0)))), (q6, .inl (jcA κ 0, (60, .inl (fun _ => 0)))), (q7, .inl (jcA κ 0, (60, .inl (fun _ => 0)))), (q8, .inl (jcA κ 0, (60, .inl (fun _ => 0))))]) rfl dX9_init_65 ?_
  refine jc_aload_n K dX9_init_68 0 rfl ?_
  refine jc_bipush K dX9_init_69 (v := 60) rfl ?_
  refine jc_bipush K dX9_init_71 (v := 20) rfl ?_
  refine jc_mna K G (N9 := 60) (K9 := 20) kl_X9_38 ar_I (by decide) (by decide) rfl rfl (by decide) (by decide) (by decide) (by decide) (by decide) dX9_init_73 (fun q9 r10 => ?_)
  refine jc_eq (ws' := [(h0, .inr (9, [.ref q1, .ref q2, .ref q3, .ref q4, .ref q5, .ref q6, .ref q7, .ref q8, .null, .int 0])), (q1, .inl (jcA κ 0, (60, .inl (fun _ => 0)))), (q2, .inl (jcA κ 2, (60, .inl (fun _ => 0)))), (q3, .inl (jcA κ 1, (60, .inl (fun _ => 0)))), (q4, .inl (jcA κ 1, (60, .inl (fun _ => 0)))), (q5, .inl (jcA κ 1, (60, .inl (fun _ => 0)))), (q6, .inl (jcA κ 0, (60, .inl (fun _ => 0)))), (q7, .inl (jcA κ 0, (60, .inl (fun _ => 0)))), (q8, .inl (jcA κ 0, (60, .inl (fun _ => 0)))), (q9, .inl (jcA κ 4, (60, .inr (.inr (.inr (.inr (fun i => if i < 60 then some (r10 i) else none)))))))] ++ rowsL (jcA κ 0) 60 20 r10) (by simp) ?_
  refine jc_putF K fr_X9_40 I 0 rfl (Nat.le_of_ble_eq_true rfl) (ws' := [(h0, .inr (9, [.ref q1, .ref q2, .ref q3, .ref q4, .ref q5, .ref q6, .ref q7, .ref q8, .ref q9, .int 0])), (q1, .inl (jcA κ 0, (60, .inl (fun _ => 0)))), (q2, .inl (jcA κ 2, (60, .inl (fun _ => 0)))), (q3, .inl (jcA κ 1, (60, .inl (fun _ => 0)))), (q4, .inl (jcA κ 1, (60, .inl (fun _ => 0)))), (q5, .inl (jcA κ 1, (60, .inl (fun _ => 0)))), (q6, .inl (jcA κ 0, (60, .inl (fun _ => 0)))), (q7, .inl (jcA κ 0, (60, .inl (fun _ => 0)))), (q8, .inl (jcA κ 0, (60, .inl (fun _ => 0)))), (q9, .inl (jcA κ 4, (60, .inr (.inr (.inr (.inr (fun i => if i < 60 then some (r10 i) else none)))))))] ++ rowsL (jcA κ 0) 60 20 r10) rfl dX9_init_77 ?_
  refine jc_iconst K dX9_init_80 (v := 0) rfl ?_
  refine jc_istore_n K dX9_init_81 (by decide) ?_
  have hL : ∀ (m i : Nat), i + m = 60 → JC 2 κ 69 1740 ([(h0, .inr (9, [.ref q1, .ref q2, .ref q3, .ref q4, .ref q5, .ref q6, .ref q7, .ref q8, .ref q9, .int 0])), (q1, .inl (jcA κ 0, (60, .inl (kFil i)))), (q2, .inl (jcA κ 2, (60, .inl (fun _ => 0)))), (q3, .inl (jcA κ 1, (60, .inl (fun _ => 0)))), (q4, .inl (jcA κ 1, (60, .inl (fun _ => 0)))), (q5, .inl (jcA κ 1, (60, .inl (fun _ => 0)))), (q6, .inl (jcA κ 0, (60, .inl (fun _ => 0)))), (q7, .inl (jcA κ 0, (60, .inl (fun _ => 0)))), (q8, .inl (jcA κ 0, (60, .inl (fun _ => 0)))), (q9, .inl (jcA κ 4, (60, .inr (.inr (.inr (.inr (fun i => if i < 60 then some (r10 i) else none)))))))] ++ rowsL (jcA κ 0) 60 20 r10) 82 [(0, .ref h0), (1, .int (nI i))] [] := by
    intro m
    induction m with
    | zero =>
      intro i hi
      have hi : i = 60 := by omega
      subst hi
      refine jc_iload_n K dX9_init_82 1 rfl ?_
      refine jc_bipush K dX9_init_83 (v := 60) rfl ?_
      refine jc_icmp_ge K dX9_init_85 (tgt := 101) (by decide) (fun _ => ?_) (fun h => absurd (by decide) h)
      refine jc_aload_n K dX9_init_101 0 rfl ?_
      refine jc_get K cl_X9_19 0 rfl rfl dX9_init_102 ?_
      refine jc_iconst K dX9_init_105 (v := 0) rfl ?_
      refine jc_iconst K dX9_init_106 (v := 1) rfl ?_
      refine jc_bastore K 3 rfl rfl (ws' := [(h0, .inr (9, [.ref q1, .ref q2, .ref q3, .ref q4, .ref q5, .ref q6, .ref q7, .ref q8, .ref q9, .int 0])), (q1, .inl (jcA κ 0, (60, .inl (kFil 60)))), (q2, .inl (jcA κ 2, (60, .inl (fun _ => 0)))), (q3, .inl (jcA κ 1, (60, .inl (upd (fun _ => 0) (0 : Int32).toNatClampNeg (vp_nar .boolean 1))))), (q4, .inl (jcA κ 1, (60, .inl (fun _ => 0)))), (q5, .inl (jcA κ 1, (60, .inl (fun _ => 0)))), (q6, .inl (jcA κ 0, (60, .inl (fun _ => 0)))), (q7, .inl (jcA κ 0, (60, .inl (fun _ => 0)))), (q8, .inl (jcA κ 0, (60, .inl (fun _ => 0)))), (q9, .inl (jcA κ 4, (60, .inr (.inr (.inr (.inr (fun i => if i < 60 then some (r10 i) else none)))))))] ++ rowsL (jcA κ 0) 60 20 r10) rfl dX9_init_107 ?_
      refine jc_aload_n K dX9_init_108 0 rfl ?_
      refine jc_get K cl_X9_23 0 rfl rfl dX9_init_109 ?_
      refine jc_iconst K dX9_init_112 (v := 0) rfl ?_
      refine jc_iconst K dX9_init_113 (v := 1) rfl ?_
      refine jc_bastore K 4 rfl rfl (ws' := [(h0, .inr (9, [.ref q1, .ref q2, .ref q3, .ref q4, .ref q5, .ref q6, .ref q7, .ref q8, .ref q9, .int 0])), (q1, .inl (jcA κ 0, (60, .inl (kFil 60)))), (q2, .inl (jcA κ 2, (60, .inl (fun _ => 0)))), (q3, .inl (jcA κ 1, (60, .inl (upd (fun _ => 0) (0 : Int32).toNatClampNeg (vp_nar .boolean 1))))), (q4, .inl (jcA κ 1, (60, .inl (upd (fun _ => 0) (0 : Int32).toNatClampNeg (vp_nar .boolean 1))))), (q5, .inl (jcA κ 1, (60, .inl (fun _ => 0)))), (q6, .inl (jcA κ 0, (60, .inl (fun _ => 0)))), (q7, .inl (jcA κ 0, (60, .inl (fun _ => 0)))), (q8, .inl (jcA κ 0, (60, .inl (fun _ => 0)))), (q9, .inl (jcA κ 4, (60, .inr (.inr (.inr (.inr (fun i => if i < 60 then some (r10 i) else none)))))))] ++ rowsL (jcA κ 0) 60 20 r10) rfl dX9_init_114 ?_
      refine jc_aload_n K dX9_init_115 0 rfl ?_
      refine jc_get K cl_X9_29 0 rfl rfl dX9_init_116 ?_
      refine jc_iconst K dX9_init_119 (v := 0) rfl ?_
      refine jc_bipush K dX9_init_120 (v := 15) rfl ?_
      refine jc_iastore K 6 rfl rfl (ws' := [(h0, .inr (9, [.ref q1, .ref q2, .ref q3, .ref q4, .ref q5, .ref q6, .ref q7, .ref q8, .ref q9, .int 0])), (q1, .inl (jcA κ 0, (60, .inl (kFil 60)))), (q2, .inl (jcA κ 2, (60, .inl (fun _ => 0)))), (q3, .inl (jcA κ 1, (60, .inl (upd (fun _ => 0) (0 : Int32).toNatClampNeg (vp_nar .boolean 1))))), (q4, .inl (jcA κ 1, (60, .inl (upd (fun _ => 0) (0 : Int32).toNatClampNeg (vp_nar .boolean 1))))), (q5, .inl (jcA κ 1, (60, .inl (fun _ => 0)))), (q6, .inl (jcA κ 0, (60, .inl (upd (fun _ => 0) (0 : Int32).toNatClampNeg (15))))), (q7, .inl (jcA κ 0, (60, .inl (fun _ => 0)))), (q8, .inl (jcA κ 0, (60, .inl (fun _ => 0)))), (q9, .inl (jcA κ 4, (60, .inr (.inr (.inr (.inr (fun i => if i < 60 then some (r10 i) else none)))))))] ++ rowsL (jcA κ 0) 60 20 r10) rfl dX9_init_122 ?_
      refine jc_aload_n K dX9_init_123 0 rfl ?_
      refine jc_iconst K dX9_init_124 (v := 1) rfl ?_
      refine jc_puti K cp_X9_43 0 rfl (Nat.le_of_ble_eq_true rfl) (ws' := [(h0, .inr (9, [.ref q1, .ref q2, .ref q3, .ref q4, .ref q5, .ref q6, .ref q7, .ref q8, .ref q9, .int 1])), (q1, .inl (jcA κ 0, (60, .inl (kFil 60)))), (q2, .inl (jcA κ 2, (60, .inl (fun _ => 0)))), (q3, .inl (jcA κ 1, (60, .inl (upd (fun _ => 0) (0 : Int32).toNatClampNeg (vp_nar .boolean 1))))), (q4, .inl (jcA κ 1, (60, .inl (upd (fun _ => 0) (0 : Int32).toNatClampNeg (vp_nar .boolean 1))))), (q5, .inl (jcA κ 1, (60, .inl (fun _ => 0)))), (q6, .inl (jcA κ 0, (60, .inl (upd (fun _ => 0) (0 : Int32).toNatClampNeg (15))))), (q7, .inl (jcA κ 0, (60, .inl (fun _ => 0)))), (q8, .inl (jcA κ 0, (60, .inl (fun _ => 0)))), (q9, .inl (jcA κ 4, (60, .inr (.inr (.inr (.inr (fun i => if i < 60 then some (r10 i) else none)))))))] ++ rowsL (jcA κ 0) 60 20 r10) rfl dX9_init_125 ?_
      exact jc_return K F ⟨q1, q2, q3, q4, q5, q6, q7, q8, q9, r10, rfl⟩ (Nat.le_refl _) (Nat.le_refl _) dX9_init_128
    | succ m ih =>
      intro i hi
      refine jc_iload_n K dX9_init_82 1 rfl ?_
      refine jc_bipush K dX9_init_83 (v := 60) rfl ?_
      refine jc_icmp_ge K dX9_init_85 (tgt := 101) (by decide) (fun h => absurd h (nI_ge (a := i) (b := 60) (by omega) (by decide))) (fun _ => ?_)
      refine jc_aload_n K dX9_init_88 0 rfl ?_
      refine jc_get K cl_X9_9 0 rfl rfl dX9_init_89 ?_
      refine jc_iload_n K dX9_init_92 1 rfl ?_
      refine jc_iconst K dX9_init_93 (v := -1) rfl ?_
      refine jc_iastore K 1 rfl (okI_nI (by omega) (by decide)) (ws' := [(h0, .inr (9, [.ref q1, .ref q2, .ref q3, .ref q4, .ref q5, .ref q6, .ref q7, .ref q8, .ref q9, .int 0])), (q1, .inl (jcA κ 0, (60, .inl (kFil (i + 1))))), (q2, .inl (jcA κ 2, (60, .inl (fun _ => 0)))), (q3, .inl (jcA κ 1, (60, .inl (fun _ => 0)))), (q4, .inl (jcA κ 1, (60, .inl (fun _ => 0)))), (q5, .inl (jcA κ 1, (60, .inl (fun _ => 0)))), (q6, .inl (jcA κ 0, (60, .inl (fun _ => 0)))), (q7, .inl (jcA κ 0, (60, .inl (fun _ => 0)))), (q8, .inl (jcA κ 0, (60, .inl (fun _ => 0)))), (q9, .inl (jcA κ 4, (60, .inr (.inr (.inr (.inr (fun i => if i < 60 then some (r10 i) else none)))))))] ++ rowsL (jcA κ 0) 60 20 r10) (by rw [kFil_s (by omega)]; rfl) dX9_init_94 ?_
      refine jc_iinc K dX9_init_95 (v := nI (i + 1)) 1 rfl (nI_1 i) (by decide) ?_
      refine jc_goto K dX9_init_98 (tgt := 82) (by decide) ?_
      exact jc_sub [1, 0] rfl (ih (i + 1) (by omega))
  refine jc_eq (ws' := [(h0, .inr (9, [.ref q1, .ref q2, .ref q3, .ref q4, .ref q5, .ref q6, .ref q7, .ref q8, .ref q9, .int 0])), (q1, .inl (jcA κ 0, (60, .inl (kFil 0)))), (q2, .inl (jcA κ 2, (60, .inl (fun _ => 0)))), (q3, .inl (jcA κ 1, (60, .inl (fun _ => 0)))), (q4, .inl (jcA κ 1, (60, .inl (fun _ => 0)))), (q5, .inl (jcA κ 1, (60, .inl (fun _ => 0)))), (q6, .inl (jcA κ 0, (60, .inl (fun _ => 0)))), (q7, .inl (jcA κ 0, (60, .inl (fun _ => 0)))), (q8, .inl (jcA κ 0, (60, .inl (fun _ => 0)))), (q9, .inl (jcA κ 4, (60, .inr (.inr (.inr (.inr (fun i => if i < 60 then some (r10 i) else none)))))))] ++ rowsL (jcA κ 0) 60 20 r10) (by rw [kFil_0]) ?_
  exact jc_sub [1, 0] rfl (hL 60 0 rfl)
theorem cc_X7 (cA : Nat → ClassId) (h0 : Nat)  : CalC yX7_init cX7_init 1 2 cA [.ref h0] [(h0, .inr (7, [.null, .null, .null, .int 0, .int 0, .int 0]))] (fun ws1 => ∃ (q1 : Nat) (q2 : Nat) (q3 : Nat) (q4 : Nat) (q5 : Nat) (q6 : Nat), ws1 = [(h0, .inr (7, [.ref q1, .ref q2, .ref q3, .int 0, .int 0, .int 0])), (q1, .inl (cA 0, (8, .inl (fun _ => 0)))), (q2, .inl (cA 0, (8, .inl (fun _ => 0)))), (q3, .inr (1, [.ref q4, .ref q5, .ref q6, .int 0, .int 0])), (q4, .inl (cA 0, (60, .inl (fun _ => 0)))), (q5, .inl (cA 1, (60, .inl (fun _ => 0)))), (q6, .inl (cA 1, (60, .inl (fun _ => 0))))]) 6 201 := by
  refine CalC.of (own := RX7) [(0, .ref h0)] (by decide) rfl rfl (Nat.le_of_ble_eq_true rfl) rfl (fun κ hcA K G I F => ?_)
  subst hcA
  refine jc_aload_n K dX7_init_0 0 rfl ?_
  refine jc_objInit K oi_X7_3 (by decide) (Nat.le_of_ble_eq_true rfl) dX7_init_1 ?_
  refine jc_aload_n K dX7_init_4 0 rfl ?_
  refine jc_bipush K dX7_init_5 (v := 8) rfl ?_
  refine jc_newarrI K G (N := 8) ar_I (by decide) rfl (by decide) (by decide) (by decide) dX7_init_7 (fun q1 => ?_)
  refine jc_eq (ws' := [(h0, .inr (7, [.null, .null, .null, .int 0, .int 0, .int 0])), (q1, .inl (jcA κ 0, (8, .inl (fun _ => 0))))]) rfl ?_
  refine jc_putF K fr_X7_9 I 0 rfl (Nat.le_of_ble_eq_true rfl) (ws' := [(h0, .inr (7, [.ref q1, .null, .null, .int 0, .int 0, .int 0])), (q1, .inl (jcA κ 0, (8, .inl (fun _ => 0))))]) rfl dX7_init_9 ?_
  refine jc_aload_n K dX7_init_12 0 rfl ?_
  refine jc_bipush K dX7_init_13 (v := 8) rfl ?_
  refine jc_newarrI K G (N := 8) ar_I (by decide) rfl (by decide) (by decide) (by decide) dX7_init_15 (fun q2 => ?_)
  refine jc_eq (ws' := [(h0, .inr (7, [.ref q1, .null, .null, .int 0, .int 0, .int 0])), (q1, .inl (jcA κ 0, (8, .inl (fun _ => 0)))), (q2, .inl (jcA κ 0, (8, .inl (fun _ => 0))))]) rfl ?_
  refine jc_putF K fr_X7_15 I 0 rfl (Nat.le_of_ble_eq_true rfl) (ws' := [(h0, .inr (7, [.ref q1, .ref q2, .null, .int 0, .int 0, .int 0])), (q1, .inl (jcA κ 0, (8, .inl (fun _ => 0)))), (q2, .inl (jcA κ 0, (8, .inl (fun _ => 0))))]) rfl dX7_init_17 ?_
  refine jc_aload_n K dX7_init_20 0 rfl ?_
  refine jc_new K G nw_X7_18 (by decide) (by decide) dX7_init_21 (fun q3 => ?_)
  refine jc_dup K dX7_init_24 rfl ?_
  refine jc_call K G (As := []) (cc_X1 (jcA κ) q3 ) ic_X7_20 rfl (by decide) (by decide) (Nat.le_of_ble_eq_true rfl) (by decide) (by decide) dX7_init_25 (fun ws1 hw1 => ?_)
  obtain ⟨q4, q5, q6, rfl⟩ := hw1
  refine jc_eq (ws' := [(h0, .inr (7, [.ref q1, .ref q2, .null, .int 0, .int 0, .int 0])), (q1, .inl (jcA κ 0, (8, .inl (fun _ => 0)))), (q2, .inl (jcA κ 0, (8, .inl (fun _ => 0)))), (q3, .inr (1, [.ref q4, .ref q5, .ref q6, .int 0, .int 0])), (q4, .inl (jcA κ 0, (60, .inl (fun _ => 0)))), (q5, .inl (jcA κ 1, (60, .inl (fun _ => 0)))), (q6, .inl (jcA κ 1, (60, .inl (fun _ => 0))))]) rfl ?_
  refine jc_putF K fr_X7_21 I 0 rfl (Nat.le_of_ble_eq_true rfl) (ws' := [(h0, .inr (7, [.ref q1, .ref q2, .ref q3, .int 0, .int 0, .int 0])), (q1, .inl (jcA κ 0, (8, .inl (fun _ => 0)))), (q2, .inl (jcA κ 0, (8, .inl (fun _ => 0)))), (q3, .inr (1, [.ref q4, .ref q5, .ref q6, .int 0, .int 0])), (q4, .inl (jcA κ 0, (60, .inl (fun _ => 0)))), (q5, .inl (jcA κ 1, (60, .inl (fun _ => 0)))), (q6, .inl (jcA κ 1, (60, .inl (fun _ => 0))))]) rfl dX7_init_28 ?_
  exact jc_return K F ⟨q1, q2, q3, q4, q5, q6, rfl⟩ (Nat.le_refl _) (Nat.le_refl _) dX7_init_31
theorem cc_X8 (cA : Nat → ClassId) (h0 : Nat) (u1 : Nat) : CalC yX8_init cX8_init 3 3 cA [.ref h0, .ref u1] [(h0, .inr (8, [.null, .null, .int 0]))] (fun ws1 => ∃ (q1 : Nat) (q2 : Nat) (q9 : Nat) (q16 : Nat) (q3 : Nat) (q4 : Nat) (q5 : Nat) (q6 : Nat) (q7 : Nat) (q8 : Nat) (q10 : Nat) (q11 : Nat) (q12 : Nat) (q13 : Nat) (q14 : Nat) (q15 : Nat) (q17 : Nat) (q18 : Nat) (q19 : Nat) (q20 : Nat) (q21 : Nat) (q22 : Nat), ws1 = [(h0, .inr (8, [.ref u1, .ref q1, .int 0])), (q1, .inl (cA 3, (3, .inr (.inr (.inr (.inr (va_up (va_up (va_up (fun _ => none) (0 : Int32).toNatClampNeg (some q2)) (1 : Int32).toNatClampNeg (some q9)) (2 : Int32).toNatClampNeg (some q16)))))))), (q2, .inr (7, [.ref q3, .ref q4, .ref q5, .int 0, .int 0, .int 0])), (q3, .inl (cA 0, (8, .inl (fun _ => 0)))), (q4, .inl (cA 0, (8, .inl (fun _ => 0)))), (q5, .inr (1, [.ref q6, .ref q7, .ref q8, .int 0, .int 0])), (q6, .inl (cA 0, (60, .inl (fun _ => 0)))), (q7, .inl (cA 1, (60, .inl (fun _ => 0)))), (q8, .inl (cA 1, (60, .inl (fun _ => 0)))), (q9, .inr (7, [.ref q10, .ref q11, .ref q12, .int 0, .int 0, .int 0])), (q10, .inl (cA 0, (8, .inl (fun _ => 0)))), (q11, .inl (cA 0, (8, .inl (fun _ => 0)))), (q12, .inr (1, [.ref q13, .ref q14, .ref q15, .int 0, .int 0])), (q13, .inl (cA 0, (60, .inl (fun _ => 0)))), (q14, .inl (cA 1, (60, .inl (fun _ => 0)))), (q15, .inl (cA 1, (60, .inl (fun _ => 0)))), (q16, .inr (7, [.ref q17, .ref q18, .ref q19, .int 0, .int 0, .int 0])), (q17, .inl (cA 0, (8, .inl (fun _ => 0)))), (q18, .inl (cA 0, (8, .inl (fun _ => 0)))), (q19, .inr (1, [.ref q20, .ref q21, .ref q22, .int 0, .int 0])), (q20, .inl (cA 0, (60, .inl (fun _ => 0)))), (q21, .inl (cA 1, (60, .inl (fun _ => 0)))), (q22, .inl (cA 1, (60, .inl (fun _ => 0))))]) 22 624 := by
  refine CalC.of (own := RX8) [(0, .ref h0), (1, .ref u1)] (by decide) rfl rfl (Nat.le_of_ble_eq_true rfl) rfl (fun κ hcA K G I F => ?_)
  subst hcA
  refine jc_aload_n K dX8_init_0 0 rfl ?_
  refine jc_objInit K oi_X8_3 (by decide) (Nat.le_of_ble_eq_true rfl) dX8_init_1 ?_
  refine jc_aload_n K dX8_init_4 0 rfl ?_
  refine jc_iconst K dX8_init_5 (v := 3) rfl ?_
  refine jc_newq K G (N := 3) kl_X8_9 (by decide) rfl (by decide) (by decide) (by decide) dX8_init_6 (fun q1 => ?_)
  refine jc_eq (ws' := [(h0, .inr (8, [.null, .null, .int 0])), (q1, .inl (jcA κ 3, (3, .inr (.inr (.inr (.inr (fun _ => none)))))))]) rfl ?_
  refine jc_putF K fr_X8_11 I 0 rfl (Nat.le_of_ble_eq_true rfl) (ws' := [(h0, .inr (8, [.null, .ref q1, .int 0])), (q1, .inl (jcA κ 3, (3, .inr (.inr (.inr (.inr (fun _ => none)))))))]) rfl dX8_init_9 ?_
  refine jc_aload_n K dX8_init_12 0 rfl ?_
  refine jc_aload_n K dX8_init_13 1 rfl ?_
  refine jc_putF K fr_X8_17 I 0 rfl (Nat.le_of_ble_eq_true rfl) (ws' := [(h0, .inr (8, [.ref u1, .ref q1, .int 0])), (q1, .inl (jcA κ 3, (3, .inr (.inr (.inr (.inr (fun _ => none)))))))]) rfl dX8_init_14 ?_
  refine jc_iconst K dX8_init_17 (v := 0) rfl ?_
  refine jc_istore_n K dX8_init_18 (by decide) ?_
  refine jc_iload_n K dX8_init_19 0 rfl ?_
  refine jc_iconst K dX8_init_20 (v := 3) rfl ?_
  refine jc_icmp_ge K dX8_init_21 (tgt := 43) (by decide) (fun h => absurd h (by decide)) (fun _ => ?_)
  refine jc_aload_n K dX8_init_24 1 rfl ?_
  refine jc_get K cl_X8_11 0 rfl rfl dX8_init_25 ?_
  refine jc_iload_n K dX8_init_28 0 rfl ?_
  refine jc_new K G nw_X8_9 (by decide) (by decide) dX8_init_29 (fun q2 => ?_)
  refine jc_dup K dX8_init_32 rfl ?_
  refine jc_call K G (As := []) (cc_X7 (jcA κ) q2 ) ic_X8_21 rfl (by decide) (by decide) (Nat.le_of_ble_eq_true rfl) (by decide) (by decide) dX8_init_33 (fun ws1 hw1 => ?_)
  obtain ⟨q3, q4, q5, q6, q7, q8, rfl⟩ := hw1
  refine jc_eq (ws' := [(h0, .inr (8, [.ref u1, .ref q1, .int 0])), (q1, .inl (jcA κ 3, (3, .inr (.inr (.inr (.inr (fun _ => none))))))), (q2, .inr (7, [.ref q3, .ref q4, .ref q5, .int 0, .int 0, .int 0])), (q3, .inl (jcA κ 0, (8, .inl (fun _ => 0)))), (q4, .inl (jcA κ 0, (8, .inl (fun _ => 0)))), (q5, .inr (1, [.ref q6, .ref q7, .ref q8, .int 0, .int 0])), (q6, .inl (jcA κ 0, (60, .inl (fun _ => 0)))), (q7, .inl (jcA κ 1, (60, .inl (fun _ => 0)))), (q8, .inl (jcA κ 1, (60, .inl (fun _ => 0))))]) rfl ?_
  refine jc_aastore K (ci := 7) 1 2 rfl rfl ⟨_, rfl, rfl⟩ rfl (ws' := [(h0, .inr (8, [.ref u1, .ref q1, .int 0])), (q1, .inl (jcA κ 3, (3, .inr (.inr (.inr (.inr (va_up (fun _ => none) (0 : Int32).toNatClampNeg (some q2)))))))), (q2, .inr (7, [.ref q3, .ref q4, .ref q5, .int 0, .int 0, .int 0])), (q3, .inl (jcA κ 0, (8, .inl (fun _ => 0)))), (q4, .inl (jcA κ 0, (8, .inl (fun _ => 0)))), (q5, .inr (1, [.ref q6, .ref q7, .ref q8, .int 0, .int 0])), (q6, .inl (jcA κ 0, (60, .inl (fun _ => 0)))), (q7, .inl (jcA κ 1, (60, .inl (fun _ => 0)))), (q8, .inl (jcA κ 1, (60, .inl (fun _ => 0))))]) rfl dX8_init_36 ?_
  refine jc_iinc K dX8_init_37 (v := 1) 0 rfl rfl (by decide) ?_
  refine jc_goto K dX8_init_40 (tgt := 19) (by decide) ?_
  refine jc_iload_n K dX8_init_19 0 rfl ?_
  refine jc_iconst K dX8_init_20 (v := 3) rfl ?_
  refine jc_icmp_ge K dX8_init_21 (tgt := 43) (by decide) (fun h => absurd h (by decide)) (fun _ => ?_)
  refine jc_aload_n K dX8_init_24 1 rfl ?_
  refine jc_get K cl_X8_11 0 rfl rfl dX8_init_25 ?_
  refine jc_iload_n K dX8_init_28 0 rfl ?_
  refine jc_new K G nw_X8_9 (by decide) (by decide) dX8_init_29 (fun q9 => ?_)
  refine jc_dup K dX8_init_32 rfl ?_
  refine jc_call K G (As := []) (cc_X7 (jcA κ) q9 ) ic_X8_21 rfl (by decide) (by decide) (Nat.le_of_ble_eq_true rfl) (by decide) (by decide) dX8_init_33 (fun ws1 hw1 => ?_)
  obtain ⟨q10, q11, q12, q13, q14, q15, rfl⟩ := hw1
  refine jc_eq (ws' := [(h0, .inr (8, [.ref u1, .ref q1, .int 0])), (q1, .inl (jcA κ 3, (3, .inr (.inr (.inr (.inr (va_up (fun _ => none) (0 : Int32).toNatClampNeg (some q2)))))))), (q2, .inr (7, [.ref q3, .ref q4, .ref q5, .int 0, .int 0, .int 0])), (q3, .inl (jcA κ 0, (8, .inl (fun _ => 0)))), (q4, .inl (jcA κ 0, (8, .inl (fun _ => 0)))), (q5, .inr (1, [.ref q6, .ref q7, .ref q8, .int 0, .int 0])), (q6, .inl (jcA κ 0, (60, .inl (fun _ => 0)))), (q7, .inl (jcA κ 1, (60, .inl (fun _ => 0)))), (q8, .inl (jcA κ 1, (60, .inl (fun _ => 0)))), (q9, .inr (7, [.ref q10, .ref q11, .ref q12, .int 0, .int 0, .int 0])), (q10, .inl (jcA κ 0, (8, .inl (fun _ => 0)))), (q11, .inl (jcA κ 0, (8, .inl (fun _ => 0)))), (q12, .inr (1, [.ref q13, .ref q14, .ref q15, .int 0, .int 0])), (q13, .inl (jcA κ 0, (60, .inl (fun _ => 0)))), (q14, .inl (jcA κ 1, (60, .inl (fun _ => 0)))), (q15, .inl (jcA κ 1, (60, .inl (fun _ => 0))))]) rfl ?_
  refine jc_aastore K (ci := 7) 1 9 rfl rfl ⟨_, rfl, rfl⟩ rfl (ws' := [(h0, .inr (8, [.ref u1, .ref q1, .int 0])), (q1, .inl (jcA κ 3, (3, .inr (.inr (.inr (.inr (va_up (va_up (fun _ => none) (0 : Int32).toNatClampNeg (some q2)) (1 : Int32).toNatClampNeg (some q9)))))))), (q2, .inr (7, [.ref q3, .ref q4, .ref q5, .int 0, .int 0, .int 0])), (q3, .inl (jcA κ 0, (8, .inl (fun _ => 0)))), (q4, .inl (jcA κ 0, (8, .inl (fun _ => 0)))), (q5, .inr (1, [.ref q6, .ref q7, .ref q8, .int 0, .int 0])), (q6, .inl (jcA κ 0, (60, .inl (fun _ => 0)))), (q7, .inl (jcA κ 1, (60, .inl (fun _ => 0)))), (q8, .inl (jcA κ 1, (60, .inl (fun _ => 0)))), (q9, .inr (7, [.ref q10, .ref q11, .ref q12, .int 0, .int 0, .int 0])), (q10, .inl (jcA κ 0, (8, .inl (fun _ => 0)))), (q11, .inl (jcA κ 0, (8, .inl (fun _ => 0)))), (q12, .inr (1, [.ref q13, .ref q14, .ref q15, .int 0, .int 0])), (q13, .inl (jcA κ 0, (60, .inl (fun _ => 0)))), (q14, .inl (jcA κ 1, (60, .inl (fun _ => 0)))), (q15, .inl (jcA κ 1, (60, .inl (fun _ => 0))))]) rfl dX8_init_36 ?_
  refine jc_iinc K dX8_init_37 (v := 2) 0 rfl rfl (by decide) ?_
  refine jc_goto K dX8_init_40 (tgt := 19) (by decide) ?_
  refine jc_iload_n K dX8_init_19 0 rfl ?_
  refine jc_iconst K dX8_init_20 (v := 3) rfl ?_
  refine jc_icmp_ge K dX8_init_21 (tgt := 43) (by decide) (fun h => absurd h (by decide)) (fun _ => ?_)
  refine jc_aload_n K dX8_init_24 1 rfl ?_
  refine jc_get K cl_X8_11 0 rfl rfl dX8_init_25 ?_
  refine jc_iload_n K dX8_init_28 0 rfl ?_
  refine jc_new K G nw_X8_9 (by decide) (by decide) dX8_init_29 (fun q16 => ?_)
  refine jc_dup K dX8_init_32 rfl ?_
  refine jc_call K G (As := []) (cc_X7 (jcA κ) q16 ) ic_X8_21 rfl (by decide) (by decide) (Nat.le_of_ble_eq_true rfl) (by decide) (by decide) dX8_init_33 (fun ws1 hw1 => ?_)
  obtain ⟨q17, q18, q19, q20, q21, q22, rfl⟩ := hw1
  refine jc_eq (ws' := [(h0, .inr (8, [.ref u1, .ref q1, .int 0])), (q1, .inl (jcA κ 3, (3, .inr (.inr (.inr (.inr (va_up (va_up (fun _ => none) (0 : Int32).toNatClampNeg (some q2)) (1 : Int32).toNatClampNeg (some q9)))))))), (q2, .inr (7, [.ref q3, .ref q4, .ref q5, .int 0, .int 0, .int 0])), (q3, .inl (jcA κ 0, (8, .inl (fun _ => 0)))), (q4, .inl (jcA κ 0, (8, .inl (fun _ => 0)))), (q5, .inr (1, [.ref q6, .ref q7, .ref q8, .int 0, .int 0])), (q6, .inl (jcA κ 0, (60, .inl (fun _ => 0)))), (q7, .inl (jcA κ 1, (60, .inl (fun _ => 0)))), (q8, .inl (jcA κ 1, (60, .inl (fun _ => 0)))), (q9, .inr (7, [.ref q10, .ref q11, .ref q12, .int 0, .int 0, .int 0])), (q10, .inl (jcA κ 0, (8, .inl (fun _ => 0)))), (q11, .inl (jcA κ 0, (8, .inl (fun _ => 0)))), (q12, .inr (1, [.ref q13, .ref q14, .ref q15, .int 0, .int 0])), (q13, .inl (jcA κ 0, (60, .inl (fun _ => 0)))), (q14, .inl (jcA κ 1, (60, .inl (fun _ => 0)))), (q15, .inl (jcA κ 1, (60, .inl (fun _ => 0)))), (q16, .inr (7, [.ref q17, .ref q18, .ref q19, .int 0, .int 0, .int 0])), (q17, .inl (jcA κ 0, (8, .inl (fun _ => 0)))), (q18, .inl (jcA κ 0, (8, .inl (fun _ => 0)))), (q19, .inr (1, [.ref q20, .ref q21, .ref q22, .int 0, .int 0])), (q20, .inl (jcA κ 0, (60, .inl (fun _ => 0)))), (q21, .inl (jcA κ 1, (60, .inl (fun _ => 0)))), (q22, .inl (jcA κ 1, (60, .inl (fun _ => 0))))]) rfl ?_
  refine jc_aastore K (ci := 7) 1 16 rfl rfl ⟨_, rfl, rfl⟩ rfl (ws' := [(h0, .inr (8, [.ref u1, .ref q1, .int 0])), (q1, .inl (jcA κ 3, (3, .inr (.inr (.inr (.inr (va_up (va_up (va_up (fun _ => none) (0 : Int32).toNatClampNeg (some q2)) (1 : Int32).toNatClampNeg (some q9)) (2 : Int32).toNatClampNeg (some q16)))))))), (q2, .inr (7, [.ref q3, .ref q4, .ref q5, .int 0, .int 0, .int 0])), (q3, .inl (jcA κ 0, (8, .inl (fun _ => 0)))), (q4, .inl (jcA κ 0, (8, .inl (fun _ => 0)))), (q5, .inr (1, [.ref q6, .ref q7, .ref q8, .int 0, .int 0])), (q6, .inl (jcA κ 0, (60, .inl (fun _ => 0)))), (q7, .inl (jcA κ 1, (60, .inl (fun _ => 0)))), (q8, .inl (jcA κ 1, (60, .inl (fun _ => 0)))), (q9, .inr (7, [.ref q10, .ref q11, .ref q12, .int 0, .int 0, .int 0])), (q10, .inl (jcA κ 0, (8, .inl (fun _ => 0)))), (q11, .inl (jcA κ 0, (8, .inl (fun _ => 0)))), (q12, .inr (1, [.ref q13, .ref q14, .ref q15, .int 0, .int 0])), (q13, .inl (jcA κ 0, (60, .inl (fun _ => 0)))), (q14, .inl (jcA κ 1, (60, .inl (fun _ => 0)))), (q15, .inl (jcA κ 1, (60, .inl (fun _ => 0)))), (q16, .inr (7, [.ref q17, .ref q18, .ref q19, .int 0, .int 0, .int 0])), (q17, .inl (jcA κ 0, (8, .inl (fun _ => 0)))), (q18, .inl (jcA κ 0, (8, .inl (fun _ => 0)))), (q19, .inr (1, [.ref q20, .ref q21, .ref q22, .int 0, .int 0])), (q20, .inl (jcA κ 0, (60, .inl (fun _ => 0)))), (q21, .inl (jcA κ 1, (60, .inl (fun _ => 0)))), (q22, .inl (jcA κ 1, (60, .inl (fun _ => 0))))]) rfl dX8_init_36 ?_
  refine jc_iinc K dX8_init_37 (v := 3) 0 rfl rfl (by decide) ?_
  refine jc_goto K dX8_init_40 (tgt := 19) (by decide) ?_
  refine jc_iload_n K dX8_init_19 0 rfl ?_
  refine jc_iconst K dX8_init_20 (v := 3) rfl ?_
  refine jc_icmp_ge K dX8_init_21 (tgt := 43) (by decide) (fun _ => ?_) (fun h => absurd (by decide) h)
  exact jc_return K F ⟨q1, q2, q9, q16, q3, q4, q5, q6, q7, q8, q10, q11, q12, q13, q14, q15, q17, q18, q19, q20, q21, q22, rfl⟩ (Nat.le_refl _) (Nat.le_refl _) dX8_init_43
theorem cc_X2 (cA : Nat → ClassId) (h0 : Nat) (u1 : Nat) (u2 : Nat) : CalC yX2_init cX2_init 3 1 cA [.ref h0, .ref u1, .ref u2] [(h0, .inr (2, [.null, .null, .null, .null, .null, .null, .null, .null, .null, .null]))] (fun ws1 => ∃ (q1 : Nat) (q2 : Nat) (q3 : Nat) (q4 : Nat) (q5 : Nat) (q6 : Nat) (q8 : Nat) (q9 : Nat) (r7 : Nat → Nat), ws1 = [(h0, .inr (2, [.ref u1, .ref u2, .ref q1, .ref q2, .ref q3, .ref q4, .ref q5, .ref q6, .ref q8, .ref q9])), (q1, .inl (cA 1, (60, .inl (fun _ => 0)))), (q2, .inl (cA 0, (60, .inl (fun _ => 0)))), (q3, .inl (cA 2, (60, .inl (fun _ => 0)))), (q4, .inl (cA 0, (60, .inl (fun _ => 0)))), (q5, .inl (cA 0, (60, .inl (fun _ => 0)))), (q6, .inl (cA 4, (60, .inr (.inr (.inr (.inr (fun i => if i < 60 then some (r7 i) else none)))))))] ++ (rowsL (cA 0) 60 20 r7 ++ [(q8, .inl (cA 1, (60, .inl (fun _ => 0)))), (q9, .inl (cA 1, (60, .inl (fun _ => 0))))])) 68 1680 := by
  refine CalC.of (own := RX2) [(0, .ref h0), (1, .ref u1), (2, .ref u2)] (by decide) rfl rfl (Nat.le_of_ble_eq_true rfl) rfl (fun κ hcA K G I F => ?_)
  subst hcA
  refine jc_aload_n K dX2_init_0 0 rfl ?_
  refine jc_objInit K oi_X2_3 (by decide) (Nat.le_of_ble_eq_true rfl) dX2_init_1 ?_
  refine jc_aload_n K dX2_init_4 0 rfl ?_
  refine jc_bipush K dX2_init_5 (v := 60) rfl ?_
  refine jc_newarrZ K G (N := 60) ar_Z (by decide) rfl (by decide) (by decide) (by decide) dX2_init_7 (fun q1 => ?_)
  refine jc_eq (ws' := [(h0, .inr (2, [.null, .null, .null, .null, .null, .null, .null, .null, .null, .null])), (q1, .inl (jcA κ 1, (60, .inl (fun _ => 0))))]) rfl ?_
  refine jc_putF K fr_X2_9 I 0 rfl (Nat.le_of_ble_eq_true rfl) (ws' := [(h0, .inr (2, [.null, .null, .ref q1, .null, .null, .null, .null, .null, .null, .null])), (q1, .inl (jcA κ 1, (60, .inl (fun _ => 0))))]) rfl dX2_init_9 ?_
  refine jc_aload_n K dX2_init_12 0 rfl ?_
  refine jc_bipush K dX2_init_13 (v := 60) rfl ?_
  refine jc_newarrI K G (N := 60) ar_I (by decide) rfl (by decide) (by decide) (by decide) dX2_init_15 (fun q2 => ?_)
  refine jc_eq (ws' := [(h0, .inr (2, [.null, .null, .ref q1, .null, .null, .null, .null, .null, .null, .null])), (q1, .inl (jcA κ 1, (60, .inl (fun _ => 0)))), (q2, .inl (jcA κ 0, (60, .inl (fun _ => 0))))]) rfl ?_
  refine jc_putF K fr_X2_15 I 0 rfl (Nat.le_of_ble_eq_true rfl) (ws' := [(h0, .inr (2, [.null, .null, .ref q1, .ref q2, .null, .null, .null, .null, .null, .null])), (q1, .inl (jcA κ 1, (60, .inl (fun _ => 0)))), (q2, .inl (jcA κ 0, (60, .inl (fun _ => 0))))]) rfl dX2_init_17 ?_
  refine jc_aload_n K dX2_init_20 0 rfl ?_
  refine jc_bipush K dX2_init_21 (v := 60) rfl ?_
  refine jc_newarrC K G (N := 60) ar_C (by decide) rfl (by decide) (by decide) (by decide) dX2_init_23 (fun q3 => ?_)
  refine jc_eq (ws' := [(h0, .inr (2, [.null, .null, .ref q1, .ref q2, .null, .null, .null, .null, .null, .null])), (q1, .inl (jcA κ 1, (60, .inl (fun _ => 0)))), (q2, .inl (jcA κ 0, (60, .inl (fun _ => 0)))), (q3, .inl (jcA κ 2, (60, .inl (fun _ => 0))))]) rfl ?_
  refine jc_putF K fr_X2_19 I 0 rfl (Nat.le_of_ble_eq_true rfl) (ws' := [(h0, .inr (2, [.null, .null, .ref q1, .ref q2, .ref q3, .null, .null, .null, .null, .null])), (q1, .inl (jcA κ 1, (60, .inl (fun _ => 0)))), (q2, .inl (jcA κ 0, (60, .inl (fun _ => 0)))), (q3, .inl (jcA κ 2, (60, .inl (fun _ => 0))))]) rfl dX2_init_25 ?_
  refine jc_aload_n K dX2_init_28 0 rfl ?_
  refine jc_bipush K dX2_init_29 (v := 60) rfl ?_
  refine jc_newarrI K G (N := 60) ar_I (by decide) rfl (by decide) (by decide) (by decide) dX2_init_31 (fun q4 => ?_)
  refine jc_eq (ws' := [(h0, .inr (2, [.null, .null, .ref q1, .ref q2, .ref q3, .null, .null, .null, .null, .null])), (q1, .inl (jcA κ 1, (60, .inl (fun _ => 0)))), (q2, .inl (jcA κ 0, (60, .inl (fun _ => 0)))), (q3, .inl (jcA κ 2, (60, .inl (fun _ => 0)))), (q4, .inl (jcA κ 0, (60, .inl (fun _ => 0))))]) rfl ?_
  refine jc_putF K fr_X2_23 I 0 rfl (Nat.le_of_ble_eq_true rfl) (ws' := [(h0, .inr (2, [.null, .null, .ref q1, .ref q2, .ref q3, .ref q4, .null, .null, .null, .null])), (q1, .inl (jcA κ 1, (60, .inl (fun _ => 0)))), (q2, .inl (jcA κ 0, (60, .inl (fun _ => 0)))), (q3, .inl (jcA κ 2, (60, .inl (fun _ => 0)))), (q4, .inl (jcA κ 0, (60, .inl (fun _ => 0))))]) rfl dX2_init_33 ?_
  refine jc_aload_n K dX2_init_36 0 rfl ?_
  refine jc_bipush K dX2_init_37 (v := 60) rfl ?_
  refine jc_newarrI K G (N := 60) ar_I (by decide) rfl (by decide) (by decide) (by decide) dX2_init_39 (fun q5 => ?_)
  refine jc_eq (ws' := [(h0, .inr (2, [.null, .null, .ref q1, .ref q2, .ref q3, .ref q4, .null, .null, .null, .null])), (q1, .inl (jcA κ 1, (60, .inl (fun _ => 0)))), (q2, .inl (jcA κ 0, (60, .inl (fun _ => 0)))), (q3, .inl (jcA κ 2, (60, .inl (fun _ => 0)))), (q4, .inl (jcA κ 0, (60, .inl (fun _ => 0)))), (q5, .inl (jcA κ 0, (60, .inl (fun _ => 0))))]) rfl ?_
  refine jc_putF K fr_X2_26 I 0 rfl (Nat.le_of_ble_eq_true rfl) (ws' := [(h0, .inr (2, [.null, .null, .ref q1, .ref q2, .ref q3, .ref q4, .ref q5, .null, .null, .null])), (q1, .inl (jcA κ 1, (60, .inl (fun _ => 0)))), (q2, .inl (jcA κ 0, (60, .inl (fun _ => 0)))), (q3, .inl (jcA κ 2, (60, .inl (fun _ => 0)))), (q4, .inl (jcA κ 0, (60, .inl (fun _ => 0)))), (q5, .inl (jcA κ 0, (60, .inl (fun _ => 0))))]) rfl dX2_init_41 ?_
  refine jc_aload_n K dX2_init_44 0 rfl ?_
  refine jc_bipush K dX2_init_45 (v := 60) rfl ?_
  refine jc_bipush K dX2_init_47 (v := 20) rfl ?_
  refine jc_mna K G (N9 := 60) (K9 := 20) kl_X2_29 ar_I (by decide) (by decide) rfl rfl (by decide) (by decide) (by decide) (by decide) (by decide) dX2_init_49 (fun q6 r7 => ?_)
  refine jc_eq (ws' := [(h0, .inr (2, [.null, .null, .ref q1, .ref q2, .ref q3, .ref q4, .ref q5, .null, .null, .null])), (q1, .inl (jcA κ 1, (60, .inl (fun _ => 0)))), (q2, .inl (jcA κ 0, (60, .inl (fun _ => 0)))), (q3, .inl (jcA κ 2, (60, .inl (fun _ => 0)))), (q4, .inl (jcA κ 0, (60, .inl (fun _ => 0)))), (q5, .inl (jcA κ 0, (60, .inl (fun _ => 0)))), (q6, .inl (jcA κ 4, (60, .inr (.inr (.inr (.inr (fun i => if i < 60 then some (r7 i) else none)))))))] ++ rowsL (jcA κ 0) 60 20 r7) (by simp) ?_
  refine jc_putF K fr_X2_31 I 0 rfl (Nat.le_of_ble_eq_true rfl) (ws' := [(h0, .inr (2, [.null, .null, .ref q1, .ref q2, .ref q3, .ref q4, .ref q5, .ref q6, .null, .null])), (q1, .inl (jcA κ 1, (60, .inl (fun _ => 0)))), (q2, .inl (jcA κ 0, (60, .inl (fun _ => 0)))), (q3, .inl (jcA κ 2, (60, .inl (fun _ => 0)))), (q4, .inl (jcA κ 0, (60, .inl (fun _ => 0)))), (q5, .inl (jcA κ 0, (60, .inl (fun _ => 0)))), (q6, .inl (jcA κ 4, (60, .inr (.inr (.inr (.inr (fun i => if i < 60 then some (r7 i) else none)))))))] ++ rowsL (jcA κ 0) 60 20 r7) rfl dX2_init_53 ?_
  refine jc_aload_n K dX2_init_56 0 rfl ?_
  refine jc_bipush K dX2_init_57 (v := 60) rfl ?_
  refine jc_newarrZ K G (N := 60) ar_Z (by decide) rfl (by decide) (by decide) (by decide) dX2_init_59 (fun q8 => ?_)
  refine jc_eq (ws' := [(h0, .inr (2, [.null, .null, .ref q1, .ref q2, .ref q3, .ref q4, .ref q5, .ref q6, .null, .null])), (q1, .inl (jcA κ 1, (60, .inl (fun _ => 0)))), (q2, .inl (jcA κ 0, (60, .inl (fun _ => 0)))), (q3, .inl (jcA κ 2, (60, .inl (fun _ => 0)))), (q4, .inl (jcA κ 0, (60, .inl (fun _ => 0)))), (q5, .inl (jcA κ 0, (60, .inl (fun _ => 0)))), (q6, .inl (jcA κ 4, (60, .inr (.inr (.inr (.inr (fun i => if i < 60 then some (r7 i) else none)))))))] ++ (rowsL (jcA κ 0) 60 20 r7 ++ [(q8, .inl (jcA κ 1, (60, .inl (fun _ => 0))))])) (by simp) ?_
  refine jc_putF K fr_X2_34 I 0 rfl (Nat.le_of_ble_eq_true rfl) (ws' := [(h0, .inr (2, [.null, .null, .ref q1, .ref q2, .ref q3, .ref q4, .ref q5, .ref q6, .ref q8, .null])), (q1, .inl (jcA κ 1, (60, .inl (fun _ => 0)))), (q2, .inl (jcA κ 0, (60, .inl (fun _ => 0)))), (q3, .inl (jcA κ 2, (60, .inl (fun _ => 0)))), (q4, .inl (jcA κ 0, (60, .inl (fun _ => 0)))), (q5, .inl (jcA κ 0, (60, .inl (fun _ => 0)))), (q6, .inl (jcA κ 4, (60, .inr (.inr (.inr (.inr (fun i => if i < 60 then some (r7 i) else none)))))))] ++ (rowsL (jcA κ 0) 60 20 r7 ++ [(q8, .inl (jcA κ 1, (60, .inl (fun _ => 0))))])) rfl dX2_init_61 ?_
  refine jc_aload_n K dX2_init_64 0 rfl ?_
  refine jc_bipush K dX2_init_65 (v := 60) rfl ?_
  refine jc_newarrZ K G (N := 60) ar_Z (by decide) rfl (by decide) (by decide) (by decide) dX2_init_67 (fun q9 => ?_)
  refine jc_eq (ws' := [(h0, .inr (2, [.null, .null, .ref q1, .ref q2, .ref q3, .ref q4, .ref q5, .ref q6, .ref q8, .null])), (q1, .inl (jcA κ 1, (60, .inl (fun _ => 0)))), (q2, .inl (jcA κ 0, (60, .inl (fun _ => 0)))), (q3, .inl (jcA κ 2, (60, .inl (fun _ => 0)))), (q4, .inl (jcA κ 0, (60, .inl (fun _ => 0)))), (q5, .inl (jcA κ 0, (60, .inl (fun _ => 0)))), (q6, .inl (jcA κ 4, (60, .inr (.inr (.inr (.inr (fun i => if i < 60 then some (r7 i) else none)))))))] ++ (rowsL (jcA κ 0) 60 20 r7 ++ [(q8, .inl (jcA κ 1, (60, .inl (fun _ => 0)))), (q9, .inl (jcA κ 1, (60, .inl (fun _ => 0))))])) (by simp) ?_
  refine jc_putF K fr_X2_37 I 0 rfl (Nat.le_of_ble_eq_true rfl) (ws' := [(h0, .inr (2, [.null, .null, .ref q1, .ref q2, .ref q3, .ref q4, .ref q5, .ref q6, .ref q8, .ref q9])), (q1, .inl (jcA κ 1, (60, .inl (fun _ => 0)))), (q2, .inl (jcA κ 0, (60, .inl (fun _ => 0)))), (q3, .inl (jcA κ 2, (60, .inl (fun _ => 0)))), (q4, .inl (jcA κ 0, (60, .inl (fun _ => 0)))), (q5, .inl (jcA κ 0, (60, .inl (fun _ => 0)))), (q6, .inl (jcA κ 4, (60, .inr (.inr (.inr (.inr (fun i => if i < 60 then some (r7 i) else none)))))))] ++ (rowsL (jcA κ 0) 60 20 r7 ++ [(q8, .inl (jcA κ 1, (60, .inl (fun _ => 0)))), (q9, .inl (jcA κ 1, (60, .inl (fun _ => 0))))])) rfl dX2_init_69 ?_
  refine jc_aload_n K dX2_init_72 0 rfl ?_
  refine jc_aload_n K dX2_init_73 1 rfl ?_
  refine jc_putF K fr_X2_40 I 0 rfl (Nat.le_of_ble_eq_true rfl) (ws' := [(h0, .inr (2, [.ref u1, .null, .ref q1, .ref q2, .ref q3, .ref q4, .ref q5, .ref q6, .ref q8, .ref q9])), (q1, .inl (jcA κ 1, (60, .inl (fun _ => 0)))), (q2, .inl (jcA κ 0, (60, .inl (fun _ => 0)))), (q3, .inl (jcA κ 2, (60, .inl (fun _ => 0)))), (q4, .inl (jcA κ 0, (60, .inl (fun _ => 0)))), (q5, .inl (jcA κ 0, (60, .inl (fun _ => 0)))), (q6, .inl (jcA κ 4, (60, .inr (.inr (.inr (.inr (fun i => if i < 60 then some (r7 i) else none)))))))] ++ (rowsL (jcA κ 0) 60 20 r7 ++ [(q8, .inl (jcA κ 1, (60, .inl (fun _ => 0)))), (q9, .inl (jcA κ 1, (60, .inl (fun _ => 0))))])) rfl dX2_init_74 ?_
  refine jc_aload_n K dX2_init_77 0 rfl ?_
  refine jc_aload_n K dX2_init_78 2 rfl ?_
  refine jc_putF K fr_X2_44 I 0 rfl (Nat.le_of_ble_eq_true rfl) (ws' := [(h0, .inr (2, [.ref u1, .ref u2, .ref q1, .ref q2, .ref q3, .ref q4, .ref q5, .ref q6, .ref q8, .ref q9])), (q1, .inl (jcA κ 1, (60, .inl (fun _ => 0)))), (q2, .inl (jcA κ 0, (60, .inl (fun _ => 0)))), (q3, .inl (jcA κ 2, (60, .inl (fun _ => 0)))), (q4, .inl (jcA κ 0, (60, .inl (fun _ => 0)))), (q5, .inl (jcA κ 0, (60, .inl (fun _ => 0)))), (q6, .inl (jcA κ 4, (60, .inr (.inr (.inr (.inr (fun i => if i < 60 then some (r7 i) else none)))))))] ++ (rowsL (jcA κ 0) 60 20 r7 ++ [(q8, .inl (jcA κ 1, (60, .inl (fun _ => 0)))), (q9, .inl (jcA κ 1, (60, .inl (fun _ => 0))))])) rfl dX2_init_79 ?_
  exact jc_return K F ⟨q1, q2, q3, q4, q5, q6, q8, q9, r7, rfl⟩ (Nat.le_refl _) (Nat.le_refl _) dX2_init_82
theorem cc_X3 (cA : Nat → ClassId) (h0 : Nat)  : CalC yX3_init cX3_init 2 1 cA [.ref h0] [(h0, .inr (3, [.null, .null, .null, .int 0]))] (fun ws1 => ∃ (q1 : Nat) (q2 : Nat) (q3 : Nat), ws1 = [(h0, .inr (3, [.ref q1, .ref q2, .ref q3, .int 0])), (q1, .inl (cA 0, (60, .inl (kFil 60)))), (q2, .inl (cA 0, (4, .inl (fun _ => 0)))), (q3, .inl (cA 0, (4, .inl (fun _ => 0))))]) 3 68 := by
  refine CalC.of (own := RX3) [(0, .ref h0)] (by decide) rfl rfl (Nat.le_of_ble_eq_true rfl) rfl (fun κ hcA K G I F => ?_)
  subst hcA
  refine jc_aload_n K dX3_init_0 0 rfl ?_
  refine jc_objInit K oi_X3_3 (by decide) (Nat.le_of_ble_eq_true rfl) dX3_init_1 ?_
  refine jc_aload_n K dX3_init_4 0 rfl ?_
  refine jc_bipush K dX3_init_5 (v := 60) rfl ?_
  refine jc_newarrI K G (N := 60) ar_I (by decide) rfl (by decide) (by decide) (by decide) dX3_init_7 (fun q1 => ?_)
  refine jc_eq (ws' := [(h0, .inr (3, [.null, .null, .null, .int 0])), (q1, .inl (jcA κ 0, (60, .inl (fun _ => 0))))]) rfl ?_
  refine jc_putF K fr_X3_9 I 0 rfl (Nat.le_of_ble_eq_true rfl) (ws' := [(h0, .inr (3, [.ref q1, .null, .null, .int 0])), (q1, .inl (jcA κ 0, (60, .inl (fun _ => 0))))]) rfl dX3_init_9 ?_
  refine jc_aload_n K dX3_init_12 0 rfl ?_
  refine jc_iconst K dX3_init_13 (v := 4) rfl ?_
  refine jc_newarrI K G (N := 4) ar_I (by decide) rfl (by decide) (by decide) (by decide) dX3_init_14 (fun q2 => ?_)
  refine jc_eq (ws' := [(h0, .inr (3, [.ref q1, .null, .null, .int 0])), (q1, .inl (jcA κ 0, (60, .inl (fun _ => 0)))), (q2, .inl (jcA κ 0, (4, .inl (fun _ => 0))))]) rfl ?_
  refine jc_putF K fr_X3_15 I 0 rfl (Nat.le_of_ble_eq_true rfl) (ws' := [(h0, .inr (3, [.ref q1, .ref q2, .null, .int 0])), (q1, .inl (jcA κ 0, (60, .inl (fun _ => 0)))), (q2, .inl (jcA κ 0, (4, .inl (fun _ => 0))))]) rfl dX3_init_16 ?_
  refine jc_aload_n K dX3_init_19 0 rfl ?_
  refine jc_iconst K dX3_init_20 (v := 4) rfl ?_
  refine jc_newarrI K G (N := 4) ar_I (by decide) rfl (by decide) (by decide) (by decide) dX3_init_21 (fun q3 => ?_)
  refine jc_eq (ws' := [(h0, .inr (3, [.ref q1, .ref q2, .null, .int 0])), (q1, .inl (jcA κ 0, (60, .inl (fun _ => 0)))), (q2, .inl (jcA κ 0, (4, .inl (fun _ => 0)))), (q3, .inl (jcA κ 0, (4, .inl (fun _ => 0))))]) rfl ?_
  refine jc_putF K fr_X3_18 I 0 rfl (Nat.le_of_ble_eq_true rfl) (ws' := [(h0, .inr (3, [.ref q1, .ref q2, .ref q3, .int 0])), (q1, .inl (jcA κ 0, (60, .inl (fun _ => 0)))), (q2, .inl (jcA κ 0, (4, .inl (fun _ => 0)))), (q3, .inl (jcA κ 0, (4, .inl (fun _ => 0))))]) rfl dX3_init_23 ?_
  refine jc_iconst K dX3_init_26 (v := 0) rfl ?_
  refine jc_istore_n K dX3_init_27 (by decide) ?_
  have hL : ∀ (m i : Nat), i + m = 60 → JC 2 κ 3 68 ([(h0, .inr (3, [.ref q1, .ref q2, .ref q3, .int 0])), (q1, .inl (jcA κ 0, (60, .inl (kFil i)))), (q2, .inl (jcA κ 0, (4, .inl (fun _ => 0)))), (q3, .inl (jcA κ 0, (4, .inl (fun _ => 0))))]) 28 [(0, .ref h0), (1, .int (nI i))] [] := by
    intro m
    induction m with
    | zero =>
      intro i hi
      have hi : i = 60 := by omega
      subst hi
      refine jc_iload_n K dX3_init_28 1 rfl ?_
      refine jc_bipush K dX3_init_29 (v := 60) rfl ?_
      refine jc_icmp_ge K dX3_init_31 (tgt := 47) (by decide) (fun _ => ?_) (fun h => absurd (by decide) h)
      exact jc_return K F ⟨q1, q2, q3, rfl⟩ (Nat.le_refl _) (Nat.le_refl _) dX3_init_47
    | succ m ih =>
      intro i hi
      refine jc_iload_n K dX3_init_28 1 rfl ?_
      refine jc_bipush K dX3_init_29 (v := 60) rfl ?_
      refine jc_icmp_ge K dX3_init_31 (tgt := 47) (by decide) (fun h => absurd h (nI_ge (a := i) (b := 60) (by omega) (by decide))) (fun _ => ?_)
      refine jc_aload_n K dX3_init_34 0 rfl ?_
      refine jc_get K cl_X3_9 0 rfl rfl dX3_init_35 ?_
      refine jc_iload_n K dX3_init_38 1 rfl ?_
      refine jc_iconst K dX3_init_39 (v := -1) rfl ?_
      refine jc_iastore K 1 rfl (okI_nI (by omega) (by decide)) (ws' := [(h0, .inr (3, [.ref q1, .ref q2, .ref q3, .int 0])), (q1, .inl (jcA κ 0, (60, .inl (kFil (i + 1))))), (q2, .inl (jcA κ 0, (4, .inl (fun _ => 0)))), (q3, .inl (jcA κ 0, (4, .inl (fun _ => 0))))]) (by rw [kFil_s (by omega)]; rfl) dX3_init_40 ?_
      refine jc_iinc K dX3_init_41 (v := nI (i + 1)) 1 rfl (nI_1 i) (by decide) ?_
      refine jc_goto K dX3_init_44 (tgt := 28) (by decide) ?_
      exact jc_sub [1, 0] rfl (ih (i + 1) (by omega))
  refine jc_eq (ws' := [(h0, .inr (3, [.ref q1, .ref q2, .ref q3, .int 0])), (q1, .inl (jcA κ 0, (60, .inl (kFil 0)))), (q2, .inl (jcA κ 0, (4, .inl (fun _ => 0)))), (q3, .inl (jcA κ 0, (4, .inl (fun _ => 0))))]) (by rw [kFil_0]) ?_
  exact jc_sub [1, 0] rfl (hL 60 0 rfl)
theorem cc_X4 (cA : Nat → ClassId) (h0 : Nat) (u1 : Nat) (u2 : Nat) (u3 : Nat) (u4 : Nat) : CalC yX4_init cX4_init 5 2 cA [.ref h0, .ref u1, .ref u2, .ref u3, .ref u4] [(h0, .inr (4, [.null, .null, .null, .null, .null, .null]))] (fun ws1 => ∃ (q1 : Nat) (q5 : Nat) (q2 : Nat) (q3 : Nat) (q4 : Nat) (q6 : Nat) (q7 : Nat) (q8 : Nat), ws1 = [(h0, .inr (4, [.ref u1, .ref u2, .ref u3, .ref u4, .ref q1, .ref q5])), (q1, .inr (0, [.ref q2, .ref q3, .ref q4, .int 0])), (q2, .inl (cA 0, (60, .inl (fun _ => 0)))), (q3, .inl (cA 0, (60, .inl (fun _ => 0)))), (q4, .inl (cA 1, (60, .inl (fun _ => 0)))), (q5, .inr (3, [.ref q6, .ref q7, .ref q8, .int 0])), (q6, .inl (cA 0, (60, .inl (kFil 60)))), (q7, .inl (cA 0, (4, .inl (fun _ => 0)))), (q8, .inl (cA 0, (4, .inl (fun _ => 0))))]) 8 256 := by
  refine CalC.of (own := RX4) [(0, .ref h0), (1, .ref u1), (2, .ref u2), (3, .ref u3), (4, .ref u4)] (by decide) rfl rfl (Nat.le_of_ble_eq_true rfl) rfl (fun κ hcA K G I F => ?_)
  subst hcA
  refine jc_aload_n K dX4_init_0 0 rfl ?_
  refine jc_objInit K oi_X4_3 (by decide) (Nat.le_of_ble_eq_true rfl) dX4_init_1 ?_
  refine jc_aload_n K dX4_init_4 0 rfl ?_
  refine jc_new K G nw_X4_9 (by decide) (by decide) dX4_init_5 (fun q1 => ?_)
  refine jc_dup K dX4_init_8 rfl ?_
  refine jc_call K G (As := []) (cc_X0 (jcA κ) q1 ) ic_X4_11 rfl (by decide) (by decide) (Nat.le_of_ble_eq_true rfl) (by decide) (by decide) dX4_init_9 (fun ws1 hw1 => ?_)
  obtain ⟨q2, q3, q4, rfl⟩ := hw1
  refine jc_eq (ws' := [(h0, .inr (4, [.null, .null, .null, .null, .null, .null])), (q1, .inr (0, [.ref q2, .ref q3, .ref q4, .int 0])), (q2, .inl (jcA κ 0, (60, .inl (fun _ => 0)))), (q3, .inl (jcA κ 0, (60, .inl (fun _ => 0)))), (q4, .inl (jcA κ 1, (60, .inl (fun _ => 0))))]) rfl ?_
  refine jc_putF K fr_X4_12 I 0 rfl (Nat.le_of_ble_eq_true rfl) (ws' := [(h0, .inr (4, [.null, .null, .null, .null, .ref q1, .null])), (q1, .inr (0, [.ref q2, .ref q3, .ref q4, .int 0])), (q2, .inl (jcA κ 0, (60, .inl (fun _ => 0)))), (q3, .inl (jcA κ 0, (60, .inl (fun _ => 0)))), (q4, .inl (jcA κ 1, (60, .inl (fun _ => 0))))]) rfl dX4_init_12 ?_
  refine jc_aload_n K dX4_init_15 0 rfl ?_
  refine jc_new K G nw_X4_18 (by decide) (by decide) dX4_init_16 (fun q5 => ?_)
  refine jc_dup K dX4_init_19 rfl ?_
  refine jc_call K G (As := []) (cc_X3 (jcA κ) q5 ) ic_X4_20 rfl (by decide) (by decide) (Nat.le_of_ble_eq_true rfl) (by decide) (by decide) dX4_init_20 (fun ws1 hw1 => ?_)
  obtain ⟨q6, q7, q8, rfl⟩ := hw1
  refine jc_eq (ws' := [(h0, .inr (4, [.null, .null, .null, .null, .ref q1, .null])), (q1, .inr (0, [.ref q2, .ref q3, .ref q4, .int 0])), (q2, .inl (jcA κ 0, (60, .inl (fun _ => 0)))), (q3, .inl (jcA κ 0, (60, .inl (fun _ => 0)))), (q4, .inl (jcA κ 1, (60, .inl (fun _ => 0)))), (q5, .inr (3, [.ref q6, .ref q7, .ref q8, .int 0])), (q6, .inl (jcA κ 0, (60, .inl (kFil 60)))), (q7, .inl (jcA κ 0, (4, .inl (fun _ => 0)))), (q8, .inl (jcA κ 0, (4, .inl (fun _ => 0))))]) rfl ?_
  refine jc_putF K fr_X4_21 I 0 rfl (Nat.le_of_ble_eq_true rfl) (ws' := [(h0, .inr (4, [.null, .null, .null, .null, .ref q1, .ref q5])), (q1, .inr (0, [.ref q2, .ref q3, .ref q4, .int 0])), (q2, .inl (jcA κ 0, (60, .inl (fun _ => 0)))), (q3, .inl (jcA κ 0, (60, .inl (fun _ => 0)))), (q4, .inl (jcA κ 1, (60, .inl (fun _ => 0)))), (q5, .inr (3, [.ref q6, .ref q7, .ref q8, .int 0])), (q6, .inl (jcA κ 0, (60, .inl (kFil 60)))), (q7, .inl (jcA κ 0, (4, .inl (fun _ => 0)))), (q8, .inl (jcA κ 0, (4, .inl (fun _ => 0))))]) rfl dX4_init_23 ?_
  refine jc_aload_n K dX4_init_26 0 rfl ?_
  refine jc_aload_n K dX4_init_27 1 rfl ?_
  refine jc_putF K fr_X4_25 I 0 rfl (Nat.le_of_ble_eq_true rfl) (ws' := [(h0, .inr (4, [.ref u1, .null, .null, .null, .ref q1, .ref q5])), (q1, .inr (0, [.ref q2, .ref q3, .ref q4, .int 0])), (q2, .inl (jcA κ 0, (60, .inl (fun _ => 0)))), (q3, .inl (jcA κ 0, (60, .inl (fun _ => 0)))), (q4, .inl (jcA κ 1, (60, .inl (fun _ => 0)))), (q5, .inr (3, [.ref q6, .ref q7, .ref q8, .int 0])), (q6, .inl (jcA κ 0, (60, .inl (kFil 60)))), (q7, .inl (jcA κ 0, (4, .inl (fun _ => 0)))), (q8, .inl (jcA κ 0, (4, .inl (fun _ => 0))))]) rfl dX4_init_28 ?_
  refine jc_aload_n K dX4_init_31 0 rfl ?_
  refine jc_aload_n K dX4_init_32 2 rfl ?_
  refine jc_putF K fr_X4_29 I 0 rfl (Nat.le_of_ble_eq_true rfl) (ws' := [(h0, .inr (4, [.ref u1, .ref u2, .null, .null, .ref q1, .ref q5])), (q1, .inr (0, [.ref q2, .ref q3, .ref q4, .int 0])), (q2, .inl (jcA κ 0, (60, .inl (fun _ => 0)))), (q3, .inl (jcA κ 0, (60, .inl (fun _ => 0)))), (q4, .inl (jcA κ 1, (60, .inl (fun _ => 0)))), (q5, .inr (3, [.ref q6, .ref q7, .ref q8, .int 0])), (q6, .inl (jcA κ 0, (60, .inl (kFil 60)))), (q7, .inl (jcA κ 0, (4, .inl (fun _ => 0)))), (q8, .inl (jcA κ 0, (4, .inl (fun _ => 0))))]) rfl dX4_init_33 ?_
  refine jc_aload_n K dX4_init_36 0 rfl ?_
  refine jc_aload_n K dX4_init_37 3 rfl ?_
  refine jc_putF K fr_X4_33 I 0 rfl (Nat.le_of_ble_eq_true rfl) (ws' := [(h0, .inr (4, [.ref u1, .ref u2, .ref u3, .null, .ref q1, .ref q5])), (q1, .inr (0, [.ref q2, .ref q3, .ref q4, .int 0])), (q2, .inl (jcA κ 0, (60, .inl (fun _ => 0)))), (q3, .inl (jcA κ 0, (60, .inl (fun _ => 0)))), (q4, .inl (jcA κ 1, (60, .inl (fun _ => 0)))), (q5, .inr (3, [.ref q6, .ref q7, .ref q8, .int 0])), (q6, .inl (jcA κ 0, (60, .inl (kFil 60)))), (q7, .inl (jcA κ 0, (4, .inl (fun _ => 0)))), (q8, .inl (jcA κ 0, (4, .inl (fun _ => 0))))]) rfl dX4_init_38 ?_
  refine jc_aload_n K dX4_init_41 0 rfl ?_
  refine jc_aload K dX4_init_42 4 rfl ?_
  refine jc_putF K fr_X4_37 I 0 rfl (Nat.le_of_ble_eq_true rfl) (ws' := [(h0, .inr (4, [.ref u1, .ref u2, .ref u3, .ref u4, .ref q1, .ref q5])), (q1, .inr (0, [.ref q2, .ref q3, .ref q4, .int 0])), (q2, .inl (jcA κ 0, (60, .inl (fun _ => 0)))), (q3, .inl (jcA κ 0, (60, .inl (fun _ => 0)))), (q4, .inl (jcA κ 1, (60, .inl (fun _ => 0)))), (q5, .inr (3, [.ref q6, .ref q7, .ref q8, .int 0])), (q6, .inl (jcA κ 0, (60, .inl (kFil 60)))), (q7, .inl (jcA κ 0, (4, .inl (fun _ => 0)))), (q8, .inl (jcA κ 0, (4, .inl (fun _ => 0))))]) rfl dX4_init_44 ?_
  exact jc_return K F ⟨q1, q5, q2, q3, q4, q6, q7, q8, rfl⟩ (Nat.le_refl _) (Nat.le_refl _) dX4_init_47
theorem cc_X5 (cA : Nat → ClassId) (h0 : Nat) (u1 : Nat) (u2 : Nat) (u3 : Nat) (u4 : Nat) : CalC yX5_init cX5_init 5 1 cA [.ref h0, .ref u1, .ref u2, .ref u3, .ref u4] [(h0, .inr (5, [.null, .null, .null, .null, .null, .null]))] (fun ws1 => ∃ (q1 : Nat) (q2 : Nat), ws1 = [(h0, .inr (5, [.ref u1, .ref u2, .ref u3, .ref u4, .ref q1, .ref q2])), (q1, .inl (cA 0, (60, .inl (fun _ => 0)))), (q2, .inl (cA 0, (20, .inl (fun _ => 0))))]) 2 80 := by
  refine CalC.of (own := RX5) [(0, .ref h0), (1, .ref u1), (2, .ref u2), (3, .ref u3), (4, .ref u4)] (by decide) rfl rfl (Nat.le_of_ble_eq_true rfl) rfl (fun κ hcA K G I F => ?_)
  subst hcA
  refine jc_aload_n K dX5_init_0 0 rfl ?_
  refine jc_objInit K oi_X5_3 (by decide) (Nat.le_of_ble_eq_true rfl) dX5_init_1 ?_
  refine jc_aload_n K dX5_init_4 0 rfl ?_
  refine jc_bipush K dX5_init_5 (v := 60) rfl ?_
  refine jc_newarrI K G (N := 60) ar_I (by decide) rfl (by decide) (by decide) (by decide) dX5_init_7 (fun q1 => ?_)
  refine jc_eq (ws' := [(h0, .inr (5, [.null, .null, .null, .null, .null, .null])), (q1, .inl (jcA κ 0, (60, .inl (fun _ => 0))))]) rfl ?_
  refine jc_putF K fr_X5_9 I 0 rfl (Nat.le_of_ble_eq_true rfl) (ws' := [(h0, .inr (5, [.null, .null, .null, .null, .ref q1, .null])), (q1, .inl (jcA κ 0, (60, .inl (fun _ => 0))))]) rfl dX5_init_9 ?_
  refine jc_aload_n K dX5_init_12 0 rfl ?_
  refine jc_bipush K dX5_init_13 (v := 20) rfl ?_
  refine jc_newarrI K G (N := 20) ar_I (by decide) rfl (by decide) (by decide) (by decide) dX5_init_15 (fun q2 => ?_)
  refine jc_eq (ws' := [(h0, .inr (5, [.null, .null, .null, .null, .ref q1, .null])), (q1, .inl (jcA κ 0, (60, .inl (fun _ => 0)))), (q2, .inl (jcA κ 0, (20, .inl (fun _ => 0))))]) rfl ?_
  refine jc_putF K fr_X5_15 I 0 rfl (Nat.le_of_ble_eq_true rfl) (ws' := [(h0, .inr (5, [.null, .null, .null, .null, .ref q1, .ref q2])), (q1, .inl (jcA κ 0, (60, .inl (fun _ => 0)))), (q2, .inl (jcA κ 0, (20, .inl (fun _ => 0))))]) rfl dX5_init_17 ?_
  refine jc_aload_n K dX5_init_20 0 rfl ?_
  refine jc_aload_n K dX5_init_21 1 rfl ?_
  refine jc_putF K fr_X5_18 I 0 rfl (Nat.le_of_ble_eq_true rfl) (ws' := [(h0, .inr (5, [.ref u1, .null, .null, .null, .ref q1, .ref q2])), (q1, .inl (jcA κ 0, (60, .inl (fun _ => 0)))), (q2, .inl (jcA κ 0, (20, .inl (fun _ => 0))))]) rfl dX5_init_22 ?_
  refine jc_aload_n K dX5_init_25 0 rfl ?_
  refine jc_aload_n K dX5_init_26 2 rfl ?_
  refine jc_putF K fr_X5_22 I 0 rfl (Nat.le_of_ble_eq_true rfl) (ws' := [(h0, .inr (5, [.ref u1, .ref u2, .null, .null, .ref q1, .ref q2])), (q1, .inl (jcA κ 0, (60, .inl (fun _ => 0)))), (q2, .inl (jcA κ 0, (20, .inl (fun _ => 0))))]) rfl dX5_init_27 ?_
  refine jc_aload_n K dX5_init_30 0 rfl ?_
  refine jc_aload_n K dX5_init_31 3 rfl ?_
  refine jc_putF K fr_X5_26 I 0 rfl (Nat.le_of_ble_eq_true rfl) (ws' := [(h0, .inr (5, [.ref u1, .ref u2, .ref u3, .null, .ref q1, .ref q2])), (q1, .inl (jcA κ 0, (60, .inl (fun _ => 0)))), (q2, .inl (jcA κ 0, (20, .inl (fun _ => 0))))]) rfl dX5_init_32 ?_
  refine jc_aload_n K dX5_init_35 0 rfl ?_
  refine jc_aload K dX5_init_36 4 rfl ?_
  refine jc_putF K fr_X5_30 I 0 rfl (Nat.le_of_ble_eq_true rfl) (ws' := [(h0, .inr (5, [.ref u1, .ref u2, .ref u3, .ref u4, .ref q1, .ref q2])), (q1, .inl (jcA κ 0, (60, .inl (fun _ => 0)))), (q2, .inl (jcA κ 0, (20, .inl (fun _ => 0))))]) rfl dX5_init_38 ?_
  exact jc_return K F ⟨q1, q2, rfl⟩ (Nat.le_refl _) (Nat.le_refl _) dX5_init_41

theorem oi_X0_3 : OIk RX0 3 := ⟨gTbl_at (i := 225) (by decide +kernel) rfl, gTbl_at (i := 43) (by decide +kernel) rfl, gTbl_at (i := 44) (by decide +kernel) rfl⟩
theorem ar_I : Cond.arrayClass .int ∈ gTbl := gTbl_at (i := 84) (by decide +kernel) rfl
theorem fr_X0_9 : FRk RX0 9 0 0 := ⟨_, tyX0, _, rfl, Nat.le_of_ble_eq_true rfl, gTbl_at (i := 226) (by decide +kernel) rfl, uwX0, rfl, tyX0_ok, nmX0, rfl, tyX0_ok 0 (Nat.le_of_ble_eq_true rfl), rfl, fun _ => ⟨rfl, rfl⟩⟩
theorem fr_X0_15 : FRk RX0 15 0 1 := ⟨_, tyX0, _, rfl, Nat.le_of_ble_eq_true rfl, gTbl_at (i := 227) (by decide +kernel) rfl, uwX0, rfl, tyX0_ok, nmX0, rfl, tyX0_ok 1 (Nat.le_of_ble_eq_true rfl), rfl, fun _ => ⟨rfl, rfl⟩⟩
theorem ar_Z : Cond.arrayClass .boolean ∈ gTbl := gTbl_at (i := 86) (by decide +kernel) rfl
theorem fr_X0_18 : FRk RX0 18 0 2 := ⟨_, tyX0, _, rfl, Nat.le_of_ble_eq_true rfl, gTbl_at (i := 228) (by decide +kernel) rfl, uwX0, rfl, tyX0_ok, nmX0, rfl, tyX0_ok 2 (Nat.le_of_ble_eq_true rfl), rfl, fun _ => ⟨rfl, rfl⟩⟩
theorem oi_X1_3 : OIk RX1 3 := ⟨gTbl_at (i := 105) (by decide +kernel) rfl, gTbl_at (i := 43) (by decide +kernel) rfl, gTbl_at (i := 44) (by decide +kernel) rfl⟩
theorem fr_X1_9 : FRk RX1 9 1 0 := ⟨_, tyX1, _, rfl, Nat.le_of_ble_eq_true rfl, gTbl_at (i := 106) (by decide +kernel) rfl, uwX1, rfl, tyX1_ok, nmX1, rfl, tyX1_ok 0 (Nat.le_of_ble_eq_true rfl), rfl, fun _ => ⟨rfl, rfl⟩⟩
theorem fr_X1_15 : FRk RX1 15 1 1 := ⟨_, tyX1, _, rfl, Nat.le_of_ble_eq_true rfl, gTbl_at (i := 107) (by decide +kernel) rfl, uwX1, rfl, tyX1_ok, nmX1, rfl, tyX1_ok 1 (Nat.le_of_ble_eq_true rfl), rfl, fun _ => ⟨rfl, rfl⟩⟩
theorem fr_X1_19 : FRk RX1 19 1 2 := ⟨_, tyX1, _, rfl, Nat.le_of_ble_eq_true rfl, gTbl_at (i := 108) (by decide +kernel) rfl, uwX1, rfl, tyX1_ok, nmX1, rfl, tyX1_ok 2 (Nat.le_of_ble_eq_true rfl), rfl, fun _ => ⟨rfl, rfl⟩⟩
theorem oi_X6_3 : OIk RX6 3 := ⟨gTbl_at (i := 168) (by decide +kernel) rfl, gTbl_at (i := 43) (by decide +kernel) rfl, gTbl_at (i := 44) (by decide +kernel) rfl⟩
theorem cp_X6_9 : FPk RX6 9 6 0 .int := ⟨_, tyX6, rfl, Nat.le_of_ble_eq_true rfl, gTbl_at (i := 169) (by decide +kernel) rfl, uwX6, rfl, tyX6_ok, nmX6, rfl, by decide +kernel⟩
theorem cp_X6_15 : FPk RX6 15 6 1 .int := ⟨_, tyX6, rfl, Nat.le_of_ble_eq_true rfl, gTbl_at (i := 170) (by decide +kernel) rfl, uwX6, rfl, tyX6_ok, nmX6, rfl, by decide +kernel⟩
theorem oi_X9_3 : OIk RX9 3 := ⟨gTbl_at (i := 50) (by decide +kernel) rfl, gTbl_at (i := 43) (by decide +kernel) rfl, gTbl_at (i := 44) (by decide +kernel) rfl⟩
theorem fr_X9_9 : FRk RX9 9 9 0 := ⟨_, tyX9, _, rfl, Nat.le_of_ble_eq_true rfl, gTbl_at (i := 53) (by decide +kernel) rfl, uwX9, rfl, tyX9_ok, nmX9, rfl, tyX9_ok 0 (Nat.le_of_ble_eq_true rfl), rfl, fun _ => ⟨rfl, rfl⟩⟩
theorem ar_C : Cond.arrayClass .char ∈ gTbl := gTbl_at (i := 85) (by decide +kernel) rfl
theorem fr_X9_15 : FRk RX9 15 9 1 := ⟨_, tyX9, _, rfl, Nat.le_of_ble_eq_true rfl, gTbl_at (i := 54) (by decide +kernel) rfl, uwX9, rfl, tyX9_ok, nmX9, rfl, tyX9_ok 1 (Nat.le_of_ble_eq_true rfl), rfl, fun _ => ⟨rfl, rfl⟩⟩
theorem fr_X9_19 : FRk RX9 19 9 2 := ⟨_, tyX9, _, rfl, Nat.le_of_ble_eq_true rfl, gTbl_at (i := 55) (by decide +kernel) rfl, uwX9, rfl, tyX9_ok, nmX9, rfl, tyX9_ok 2 (Nat.le_of_ble_eq_true rfl), rfl, fun _ => ⟨rfl, rfl⟩⟩
theorem fr_X9_23 : FRk RX9 23 9 3 := ⟨_, tyX9, _, rfl, Nat.le_of_ble_eq_true rfl, gTbl_at (i := 56) (by decide +kernel) rfl, uwX9, rfl, tyX9_ok, nmX9, rfl, tyX9_ok 3 (Nat.le_of_ble_eq_true rfl), rfl, fun _ => ⟨rfl, rfl⟩⟩
theorem fr_X9_26 : FRk RX9 26 9 4 := ⟨_, tyX9, _, rfl, Nat.le_of_ble_eq_true rfl, gTbl_at (i := 57) (by decide +kernel) rfl, uwX9, rfl, tyX9_ok, nmX9, rfl, tyX9_ok 4 (Nat.le_of_ble_eq_true rfl), rfl, fun _ => ⟨rfl, rfl⟩⟩
theorem fr_X9_29 : FRk RX9 29 9 5 := ⟨_, tyX9, _, rfl, Nat.le_of_ble_eq_true rfl, gTbl_at (i := 58) (by decide +kernel) rfl, uwX9, rfl, tyX9_ok, nmX9, rfl, tyX9_ok 5 (Nat.le_of_ble_eq_true rfl), rfl, fun _ => ⟨rfl, rfl⟩⟩
theorem fr_X9_32 : FRk RX9 32 9 6 := ⟨_, tyX9, _, rfl, Nat.le_of_ble_eq_true rfl, gTbl_at (i := 59) (by decide +kernel) rfl, uwX9, rfl, tyX9_ok, nmX9, rfl, tyX9_ok 6 (Nat.le_of_ble_eq_true rfl), rfl, fun _ => ⟨rfl, rfl⟩⟩
theorem fr_X9_35 : FRk RX9 35 9 7 := ⟨_, tyX9, _, rfl, Nat.le_of_ble_eq_true rfl, gTbl_at (i := 60) (by decide +kernel) rfl, uwX9, rfl, tyX9_ok, nmX9, rfl, tyX9_ok 7 (Nat.le_of_ble_eq_true rfl), rfl, fun _ => ⟨rfl, rfl⟩⟩
theorem kl_X9_38 : Cond.classLink RX9 38 ("[" ++ (FieldType.array .int).toString) ∈ gTbl := gTbl_at (i := 51) (by decide +kernel) rfl
theorem fr_X9_40 : FRk RX9 40 9 8 := ⟨_, tyX9, _, rfl, Nat.le_of_ble_eq_true rfl, gTbl_at (i := 61) (by decide +kernel) rfl, uwX9, rfl, tyX9_ok, nmX9, rfl, tyX9_ok 8 (Nat.le_of_ble_eq_true rfl), rfl, fun _ => ⟨rfl, rfl⟩⟩
theorem cl_X9_9 : FLk RX9 9 9 0 := ⟨_, rfl, Nat.le_of_ble_eq_true rfl, gTbl_at (i := 53) (by decide +kernel) rfl, uwX9, rfl⟩
theorem cl_X9_19 : FLk RX9 19 9 2 := ⟨_, rfl, Nat.le_of_ble_eq_true rfl, gTbl_at (i := 55) (by decide +kernel) rfl, uwX9, rfl⟩
theorem cl_X9_23 : FLk RX9 23 9 3 := ⟨_, rfl, Nat.le_of_ble_eq_true rfl, gTbl_at (i := 56) (by decide +kernel) rfl, uwX9, rfl⟩
theorem cl_X9_29 : FLk RX9 29 9 5 := ⟨_, rfl, Nat.le_of_ble_eq_true rfl, gTbl_at (i := 58) (by decide +kernel) rfl, uwX9, rfl⟩
theorem cp_X9_43 : FPk RX9 43 9 9 .int := ⟨_, tyX9, rfl, Nat.le_of_ble_eq_true rfl, gTbl_at (i := 62) (by decide +kernel) rfl, uwX9, rfl, tyX9_ok, nmX9, rfl, by decide +kernel⟩
theorem oi_X7_3 : OIk RX7 3 := ⟨gTbl_at (i := 99) (by decide +kernel) rfl, gTbl_at (i := 43) (by decide +kernel) rfl, gTbl_at (i := 44) (by decide +kernel) rfl⟩
theorem fr_X7_9 : FRk RX7 9 7 0 := ⟨_, tyX7, _, rfl, Nat.le_of_ble_eq_true rfl, gTbl_at (i := 125) (by decide +kernel) rfl, uwX7, rfl, tyX7_ok, nmX7, rfl, tyX7_ok 0 (Nat.le_of_ble_eq_true rfl), rfl, fun _ => ⟨rfl, rfl⟩⟩
theorem fr_X7_15 : FRk RX7 15 7 1 := ⟨_, tyX7, _, rfl, Nat.le_of_ble_eq_true rfl, gTbl_at (i := 127) (by decide +kernel) rfl, uwX7, rfl, tyX7_ok, nmX7, rfl, tyX7_ok 1 (Nat.le_of_ble_eq_true rfl), rfl, fun _ => ⟨rfl, rfl⟩⟩
theorem nw_X7_18 : NWk RX7 18 1 5 [.null, .null, .null, .int 0, .int 0] := ⟨_, tyX1, rfl, rfl, uwX1, tyX1_ok, gTbl_at (i := 100) (by decide +kernel) rfl, gTbl_at (i := 101) (by decide +kernel) rfl, gTbl_at (i := 23) (by decide +kernel) rfl, fun j hj => by
  match j, hj with

  | 0, _ => rfl
  | 1, _ => rfl
  | 2, _ => rfl
  | 3, _ => rfl
  | 4, _ => rfl
 
  | k + 5, h => exact absurd h (Nat.not_lt.mpr (Nat.le_add_left 5 k))⟩
theorem ic_X7_20 : ICk RX7 20 yX1_init cX1_init 1 0 := ⟨Or.inr (by decide +kernel), gTbl_at (i := 23) (by decide +kernel) rfl, gTbl_at (i := 103) (by decide +kernel) rfl, gTbl_at (i := 104) (by decide +kernel) rfl, rfl, ⟨(by decide +kernel), (by decide +kernel), (by decide +kernel)⟩⟩
theorem fr_X7_21 : FRk RX7 21 7 2 := ⟨_, tyX7, _, rfl, Nat.le_of_ble_eq_true rfl, gTbl_at (i := 129) (by decide +kernel) rfl, uwX7, rfl, tyX7_ok, nmX7, rfl, tyX7_ok 2 (Nat.le_of_ble_eq_true rfl), rfl, fun _ => ⟨rfl, rfl⟩⟩
theorem oi_X8_3 : OIk RX8 3 := ⟨gTbl_at (i := 92) (by decide +kernel) rfl, gTbl_at (i := 43) (by decide +kernel) rfl, gTbl_at (i := 44) (by decide +kernel) rfl⟩
theorem kl_X8_9 : Cond.classLink RX8 9 "SearchKeeper$Root" ∈ gTbl := gTbl_at (i := 93) (by decide +kernel) rfl
theorem fr_X8_11 : FRk RX8 11 8 1 := ⟨_, tyX8, _, rfl, Nat.le_of_ble_eq_true rfl, gTbl_at (i := 154) (by decide +kernel) rfl, uwX8, rfl, tyX8_ok, nmX8, rfl, tyX8_ok 1 (Nat.le_of_ble_eq_true rfl), rfl, fun _ => ⟨rfl, rfl⟩⟩
theorem fr_X8_17 : FRk RX8 17 8 0 := ⟨_, tyX8, _, rfl, Nat.le_of_ble_eq_true rfl, gTbl_at (i := 153) (by decide +kernel) rfl, uwX8, rfl, tyX8_ok, nmX8, rfl, tyX8_ok 0 (Nat.le_of_ble_eq_true rfl), rfl, fun _ => ⟨rfl, rfl⟩⟩
theorem cl_X8_11 : FLk RX8 11 8 1 := ⟨_, rfl, Nat.le_of_ble_eq_true rfl, gTbl_at (i := 154) (by decide +kernel) rfl, uwX8, rfl⟩
theorem nw_X8_9 : NWk RX8 9 7 6 [.null, .null, .null, .int 0, .int 0, .int 0] := ⟨_, tyX7, rfl, rfl, uwX7, tyX7_ok, gTbl_at (i := 93) (by decide +kernel) rfl, gTbl_at (i := 95) (by decide +kernel) rfl, gTbl_at (i := 22) (by decide +kernel) rfl, fun j hj => by
  match j, hj with

  | 0, _ => rfl
  | 1, _ => rfl
  | 2, _ => rfl
  | 3, _ => rfl
  | 4, _ => rfl
  | 5, _ => rfl
 
  | k + 6, h => exact absurd h (Nat.not_lt.mpr (Nat.le_add_left 6 k))⟩
theorem ic_X8_21 : ICk RX8 21 yX7_init cX7_init 1 0 := ⟨Or.inr (by decide +kernel), gTbl_at (i := 22) (by decide +kernel) rfl, gTbl_at (i := 97) (by decide +kernel) rfl, gTbl_at (i := 98) (by decide +kernel) rfl, rfl, ⟨(by decide +kernel), (by decide +kernel), (by decide +kernel)⟩⟩
theorem oi_X2_3 : OIk RX2 3 := ⟨gTbl_at (i := 181) (by decide +kernel) rfl, gTbl_at (i := 43) (by decide +kernel) rfl, gTbl_at (i := 44) (by decide +kernel) rfl⟩
theorem fr_X2_9 : FRk RX2 9 2 2 := ⟨_, tyX2, _, rfl, Nat.le_of_ble_eq_true rfl, gTbl_at (i := 185) (by decide +kernel) rfl, uwX2, rfl, tyX2_ok, nmX2, rfl, tyX2_ok 2 (Nat.le_of_ble_eq_true rfl), rfl, fun _ => ⟨rfl, rfl⟩⟩
theorem fr_X2_15 : FRk RX2 15 2 3 := ⟨_, tyX2, _, rfl, Nat.le_of_ble_eq_true rfl, gTbl_at (i := 186) (by decide +kernel) rfl, uwX2, rfl, tyX2_ok, nmX2, rfl, tyX2_ok 3 (Nat.le_of_ble_eq_true rfl), rfl, fun _ => ⟨rfl, rfl⟩⟩
theorem fr_X2_19 : FRk RX2 19 2 4 := ⟨_, tyX2, _, rfl, Nat.le_of_ble_eq_true rfl, gTbl_at (i := 187) (by decide +kernel) rfl, uwX2, rfl, tyX2_ok, nmX2, rfl, tyX2_ok 4 (Nat.le_of_ble_eq_true rfl), rfl, fun _ => ⟨rfl, rfl⟩⟩
theorem fr_X2_23 : FRk RX2 23 2 5 := ⟨_, tyX2, _, rfl, Nat.le_of_ble_eq_true rfl, gTbl_at (i := 188) (by decide +kernel) rfl, uwX2, rfl, tyX2_ok, nmX2, rfl, tyX2_ok 5 (Nat.le_of_ble_eq_true rfl), rfl, fun _ => ⟨rfl, rfl⟩⟩
theorem fr_X2_26 : FRk RX2 26 2 6 := ⟨_, tyX2, _, rfl, Nat.le_of_ble_eq_true rfl, gTbl_at (i := 189) (by decide +kernel) rfl, uwX2, rfl, tyX2_ok, nmX2, rfl, tyX2_ok 6 (Nat.le_of_ble_eq_true rfl), rfl, fun _ => ⟨rfl, rfl⟩⟩
theorem kl_X2_29 : Cond.classLink RX2 29 ("[" ++ (FieldType.array .int).toString) ∈ gTbl := gTbl_at (i := 182) (by decide +kernel) rfl
theorem fr_X2_31 : FRk RX2 31 2 7 := ⟨_, tyX2, _, rfl, Nat.le_of_ble_eq_true rfl, gTbl_at (i := 190) (by decide +kernel) rfl, uwX2, rfl, tyX2_ok, nmX2, rfl, tyX2_ok 7 (Nat.le_of_ble_eq_true rfl), rfl, fun _ => ⟨rfl, rfl⟩⟩
theorem fr_X2_34 : FRk RX2 34 2 8 := ⟨_, tyX2, _, rfl, Nat.le_of_ble_eq_true rfl, gTbl_at (i := 191) (by decide +kernel) rfl, uwX2, rfl, tyX2_ok, nmX2, rfl, tyX2_ok 8 (Nat.le_of_ble_eq_true rfl), rfl, fun _ => ⟨rfl, rfl⟩⟩
theorem fr_X2_37 : FRk RX2 37 2 9 := ⟨_, tyX2, _, rfl, Nat.le_of_ble_eq_true rfl, gTbl_at (i := 192) (by decide +kernel) rfl, uwX2, rfl, tyX2_ok, nmX2, rfl, tyX2_ok 9 (Nat.le_of_ble_eq_true rfl), rfl, fun _ => ⟨rfl, rfl⟩⟩
theorem fr_X2_40 : FRk RX2 40 2 0 := ⟨_, tyX2, _, rfl, Nat.le_of_ble_eq_true rfl, gTbl_at (i := 183) (by decide +kernel) rfl, uwX2, rfl, tyX2_ok, nmX2, rfl, tyX2_ok 0 (Nat.le_of_ble_eq_true rfl), rfl, fun _ => ⟨rfl, rfl⟩⟩
theorem fr_X2_44 : FRk RX2 44 2 1 := ⟨_, tyX2, _, rfl, Nat.le_of_ble_eq_true rfl, gTbl_at (i := 184) (by decide +kernel) rfl, uwX2, rfl, tyX2_ok, nmX2, rfl, tyX2_ok 1 (Nat.le_of_ble_eq_true rfl), rfl, fun _ => ⟨rfl, rfl⟩⟩
theorem oi_X3_3 : OIk RX3 3 := ⟨gTbl_at (i := 244) (by decide +kernel) rfl, gTbl_at (i := 43) (by decide +kernel) rfl, gTbl_at (i := 44) (by decide +kernel) rfl⟩
theorem fr_X3_9 : FRk RX3 9 3 0 := ⟨_, tyX3, _, rfl, Nat.le_of_ble_eq_true rfl, gTbl_at (i := 245) (by decide +kernel) rfl, uwX3, rfl, tyX3_ok, nmX3, rfl, tyX3_ok 0 (Nat.le_of_ble_eq_true rfl), rfl, fun _ => ⟨rfl, rfl⟩⟩
theorem fr_X3_15 : FRk RX3 15 3 1 := ⟨_, tyX3, _, rfl, Nat.le_of_ble_eq_true rfl, gTbl_at (i := 246) (by decide +kernel) rfl, uwX3, rfl, tyX3_ok, nmX3, rfl, tyX3_ok 1 (Nat.le_of_ble_eq_true rfl), rfl, fun _ => ⟨rfl, rfl⟩⟩
theorem fr_X3_18 : FRk RX3 18 3 2 := ⟨_, tyX3, _, rfl, Nat.le_of_ble_eq_true rfl, gTbl_at (i := 247) (by decide +kernel) rfl, uwX3, rfl, tyX3_ok, nmX3, rfl, tyX3_ok 2 (Nat.le_of_ble_eq_true rfl), rfl, fun _ => ⟨rfl, rfl⟩⟩
theorem cl_X3_9 : FLk RX3 9 3 0 := ⟨_, rfl, Nat.le_of_ble_eq_true rfl, gTbl_at (i := 245) (by decide +kernel) rfl, uwX3, rfl⟩
theorem oi_X4_3 : OIk RX4 3 := ⟨gTbl_at (i := 219) (by decide +kernel) rfl, gTbl_at (i := 43) (by decide +kernel) rfl, gTbl_at (i := 44) (by decide +kernel) rfl⟩
theorem nw_X4_9 : NWk RX4 9 0 4 [.null, .null, .null, .int 0] := ⟨_, tyX0, rfl, rfl, uwX0, tyX0_ok, gTbl_at (i := 220) (by decide +kernel) rfl, gTbl_at (i := 221) (by decide +kernel) rfl, gTbl_at (i := 27) (by decide +kernel) rfl, fun j hj => by
  match j, hj with

  | 0, _ => rfl
  | 1, _ => rfl
  | 2, _ => rfl
  | 3, _ => rfl
 
  | k + 4, h => exact absurd h (Nat.not_lt.mpr (Nat.le_add_left 4 k))⟩
theorem ic_X4_11 : ICk RX4 11 yX0_init cX0_init 1 0 := ⟨Or.inr (by decide +kernel), gTbl_at (i := 27) (by decide +kernel) rfl, gTbl_at (i := 223) (by decide +kernel) rfl, gTbl_at (i := 224) (by decide +kernel) rfl, rfl, ⟨(by decide +kernel), (by decide +kernel), (by decide +kernel)⟩⟩
theorem fr_X4_12 : FRk RX4 12 4 4 := ⟨_, tyX4, _, rfl, Nat.le_of_ble_eq_true rfl, gTbl_at (i := 262) (by decide +kernel) rfl, uwX4, rfl, tyX4_ok, nmX4, rfl, tyX4_ok 4 (Nat.le_of_ble_eq_true rfl), rfl, fun _ => ⟨rfl, rfl⟩⟩
theorem nw_X4_18 : NWk RX4 18 3 4 [.null, .null, .null, .int 0] := ⟨_, tyX3, rfl, rfl, uwX3, tyX3_ok, gTbl_at (i := 239) (by decide +kernel) rfl, gTbl_at (i := 240) (by decide +kernel) rfl, gTbl_at (i := 28) (by decide +kernel) rfl, fun j hj => by
  match j, hj with

  | 0, _ => rfl
  | 1, _ => rfl
  | 2, _ => rfl
  | 3, _ => rfl
 
  | k + 4, h => exact absurd h (Nat.not_lt.mpr (Nat.le_add_left 4 k))⟩
theorem ic_X4_20 : ICk RX4 20 yX3_init cX3_init 2 0 := ⟨Or.inl (gTbl_at (i := 241) (by decide +kernel) rfl), gTbl_at (i := 28) (by decide +kernel) rfl, gTbl_at (i := 242) (by decide +kernel) rfl, gTbl_at (i := 243) (by decide +kernel) rfl, rfl, ⟨(by decide +kernel), (by decide +kernel), (by decide +kernel)⟩⟩
theorem fr_X4_21 : FRk RX4 21 4 5 := ⟨_, tyX4, _, rfl, Nat.le_of_ble_eq_true rfl, gTbl_at (i := 263) (by decide +kernel) rfl, uwX4, rfl, tyX4_ok, nmX4, rfl, tyX4_ok 5 (Nat.le_of_ble_eq_true rfl), rfl, fun _ => ⟨rfl, rfl⟩⟩
theorem fr_X4_25 : FRk RX4 25 4 0 := ⟨_, tyX4, _, rfl, Nat.le_of_ble_eq_true rfl, gTbl_at (i := 258) (by decide +kernel) rfl, uwX4, rfl, tyX4_ok, nmX4, rfl, tyX4_ok 0 (Nat.le_of_ble_eq_true rfl), rfl, fun _ => ⟨rfl, rfl⟩⟩
theorem fr_X4_29 : FRk RX4 29 4 1 := ⟨_, tyX4, _, rfl, Nat.le_of_ble_eq_true rfl, gTbl_at (i := 259) (by decide +kernel) rfl, uwX4, rfl, tyX4_ok, nmX4, rfl, tyX4_ok 1 (Nat.le_of_ble_eq_true rfl), rfl, fun _ => ⟨rfl, rfl⟩⟩
theorem fr_X4_33 : FRk RX4 33 4 2 := ⟨_, tyX4, _, rfl, Nat.le_of_ble_eq_true rfl, gTbl_at (i := 260) (by decide +kernel) rfl, uwX4, rfl, tyX4_ok, nmX4, rfl, tyX4_ok 2 (Nat.le_of_ble_eq_true rfl), rfl, fun _ => ⟨rfl, rfl⟩⟩
theorem fr_X4_37 : FRk RX4 37 4 3 := ⟨_, tyX4, _, rfl, Nat.le_of_ble_eq_true rfl, gTbl_at (i := 261) (by decide +kernel) rfl, uwX4, rfl, tyX4_ok, nmX4, rfl, tyX4_ok 3 (Nat.le_of_ble_eq_true rfl), rfl, fun _ => ⟨rfl, rfl⟩⟩
theorem oi_X5_3 : OIk RX5 3 := ⟨gTbl_at (i := 282) (by decide +kernel) rfl, gTbl_at (i := 43) (by decide +kernel) rfl, gTbl_at (i := 44) (by decide +kernel) rfl⟩
theorem fr_X5_9 : FRk RX5 9 5 4 := ⟨_, tyX5, _, rfl, Nat.le_of_ble_eq_true rfl, gTbl_at (i := 287) (by decide +kernel) rfl, uwX5, rfl, tyX5_ok, nmX5, rfl, tyX5_ok 4 (Nat.le_of_ble_eq_true rfl), rfl, fun _ => ⟨rfl, rfl⟩⟩
theorem fr_X5_15 : FRk RX5 15 5 5 := ⟨_, tyX5, _, rfl, Nat.le_of_ble_eq_true rfl, gTbl_at (i := 288) (by decide +kernel) rfl, uwX5, rfl, tyX5_ok, nmX5, rfl, tyX5_ok 5 (Nat.le_of_ble_eq_true rfl), rfl, fun _ => ⟨rfl, rfl⟩⟩
theorem fr_X5_18 : FRk RX5 18 5 0 := ⟨_, tyX5, _, rfl, Nat.le_of_ble_eq_true rfl, gTbl_at (i := 283) (by decide +kernel) rfl, uwX5, rfl, tyX5_ok, nmX5, rfl, tyX5_ok 0 (Nat.le_of_ble_eq_true rfl), rfl, fun _ => ⟨rfl, rfl⟩⟩
theorem fr_X5_22 : FRk RX5 22 5 1 := ⟨_, tyX5, _, rfl, Nat.le_of_ble_eq_true rfl, gTbl_at (i := 284) (by decide +kernel) rfl, uwX5, rfl, tyX5_ok, nmX5, rfl, tyX5_ok 1 (Nat.le_of_ble_eq_true rfl), rfl, fun _ => ⟨rfl, rfl⟩⟩
theorem fr_X5_26 : FRk RX5 26 5 2 := ⟨_, tyX5, _, rfl, Nat.le_of_ble_eq_true rfl, gTbl_at (i := 285) (by decide +kernel) rfl, uwX5, rfl, tyX5_ok, nmX5, rfl, tyX5_ok 2 (Nat.le_of_ble_eq_true rfl), rfl, fun _ => ⟨rfl, rfl⟩⟩
theorem fr_X5_30 : FRk RX5 30 5 3 := ⟨_, tyX5, _, rfl, Nat.le_of_ble_eq_true rfl, gTbl_at (i := 286) (by decide +kernel) rfl, uwX5, rfl, tyX5_ok, nmX5, rfl, tyX5_ok 3 (Nat.le_of_ble_eq_true rfl), rfl, fun _ => ⟨rfl, rfl⟩⟩
theorem oi_X10_1 : OIk RX10 1 := ⟨gTbl_at (i := 42) (by decide +kernel) rfl, gTbl_at (i := 43) (by decide +kernel) rfl, gTbl_at (i := 44) (by decide +kernel) rfl⟩
theorem nw_X10_7 : NWk RX10 7 9 10 [.null, .null, .null, .null, .null, .null, .null, .null, .null, .int 0] := ⟨_, tyX9, rfl, rfl, uwX9, tyX9_ok, gTbl_at (i := 45) (by decide +kernel) rfl, gTbl_at (i := 46) (by decide +kernel) rfl, gTbl_at (i := 20) (by decide +kernel) rfl, fun j hj => by
  match j, hj with

  | 0, _ => rfl
  | 1, _ => rfl
  | 2, _ => rfl
  | 3, _ => rfl
  | 4, _ => rfl
  | 5, _ => rfl
  | 6, _ => rfl
  | 7, _ => rfl
  | 8, _ => rfl
  | 9, _ => rfl
 
  | k + 10, h => exact absurd h (Nat.not_lt.mpr (Nat.le_add_left 10 k))⟩
theorem ic_X10_9 : ICk RX10 9 yX9_init cX9_init 2 0 := ⟨Or.inl (gTbl_at (i := 47) (by decide +kernel) rfl), gTbl_at (i := 20) (by decide +kernel) rfl, gTbl_at (i := 48) (by decide +kernel) rfl, gTbl_at (i := 49) (by decide +kernel) rfl, rfl, ⟨(by decide +kernel), (by decide +kernel), (by decide +kernel)⟩⟩
theorem fr_X10_10 : FRk RX10 10 10 0 := ⟨_, tyX10, _, rfl, Nat.le_of_ble_eq_true rfl, gTbl_at (i := 302) (by decide +kernel) rfl, uwX10, rfl, tyX10_ok, nmX10, rfl, tyX10_ok 0 (Nat.le_of_ble_eq_true rfl), rfl, fun _ => ⟨rfl, rfl⟩⟩
theorem nw_X10_16 : NWk RX10 16 8 3 [.null, .null, .int 0] := ⟨_, tyX8, rfl, rfl, uwX8, tyX8_ok, gTbl_at (i := 87) (by decide +kernel) rfl, gTbl_at (i := 88) (by decide +kernel) rfl, gTbl_at (i := 21) (by decide +kernel) rfl, fun j hj => by
  match j, hj with

  | 0, _ => rfl
  | 1, _ => rfl
  | 2, _ => rfl
 
  | k + 3, h => exact absurd h (Nat.not_lt.mpr (Nat.le_add_left 3 k))⟩
theorem cl_X10_10 : FLk RX10 10 10 0 := ⟨_, rfl, Nat.le_of_ble_eq_true rfl, gTbl_at (i := 302) (by decide +kernel) rfl, uwX10, rfl⟩
theorem ic_X10_18 : ICk RX10 18 yX8_init cX8_init 3 1 := ⟨Or.inl (gTbl_at (i := 89) (by decide +kernel) rfl), gTbl_at (i := 21) (by decide +kernel) rfl, gTbl_at (i := 90) (by decide +kernel) rfl, gTbl_at (i := 91) (by decide +kernel) rfl, rfl, ⟨(by decide +kernel), (by decide +kernel), (by decide +kernel)⟩⟩
theorem fr_X10_21 : FRk RX10 21 10 1 := ⟨_, tyX10, _, rfl, Nat.le_of_ble_eq_true rfl, gTbl_at (i := 303) (by decide +kernel) rfl, uwX10, rfl, tyX10_ok, nmX10, rfl, tyX10_ok 1 (Nat.le_of_ble_eq_true rfl), rfl, fun _ => ⟨rfl, rfl⟩⟩
theorem nw_X10_25 : NWk RX10 25 6 2 [.int 0, .int 0] := ⟨_, tyX6, rfl, rfl, uwX6, tyX6_ok, gTbl_at (i := 163) (by decide +kernel) rfl, gTbl_at (i := 164) (by decide +kernel) rfl, gTbl_at (i := 24) (by decide +kernel) rfl, fun j hj => by
  match j, hj with

  | 0, _ => rfl
  | 1, _ => rfl
 
  | k + 2, h => exact absurd h (Nat.not_lt.mpr (Nat.le_add_left 2 k))⟩
theorem ic_X10_27 : ICk RX10 27 yX6_init cX6_init 1 0 := ⟨Or.inr (by decide +kernel), gTbl_at (i := 24) (by decide +kernel) rfl, gTbl_at (i := 166) (by decide +kernel) rfl, gTbl_at (i := 167) (by decide +kernel) rfl, rfl, ⟨(by decide +kernel), (by decide +kernel), (by decide +kernel)⟩⟩
theorem fr_X10_28 : FRk RX10 28 10 2 := ⟨_, tyX10, _, rfl, Nat.le_of_ble_eq_true rfl, gTbl_at (i := 304) (by decide +kernel) rfl, uwX10, rfl, tyX10_ok, nmX10, rfl, tyX10_ok 2 (Nat.le_of_ble_eq_true rfl), rfl, fun _ => ⟨rfl, rfl⟩⟩
theorem nw_X10_32 : NWk RX10 32 2 10 [.null, .null, .null, .null, .null, .null, .null, .null, .null, .null] := ⟨_, tyX2, rfl, rfl, uwX2, tyX2_ok, gTbl_at (i := 176) (by decide +kernel) rfl, gTbl_at (i := 177) (by decide +kernel) rfl, gTbl_at (i := 25) (by decide +kernel) rfl, fun j hj => by
  match j, hj with

  | 0, _ => rfl
  | 1, _ => rfl
  | 2, _ => rfl
  | 3, _ => rfl
  | 4, _ => rfl
  | 5, _ => rfl
  | 6, _ => rfl
  | 7, _ => rfl
  | 8, _ => rfl
  | 9, _ => rfl
 
  | k + 10, h => exact absurd h (Nat.not_lt.mpr (Nat.le_add_left 10 k))⟩
theorem cl_X10_21 : FLk RX10 21 10 1 := ⟨_, rfl, Nat.le_of_ble_eq_true rfl, gTbl_at (i := 303) (by decide +kernel) rfl, uwX10, rfl⟩
theorem ic_X10_34 : ICk RX10 34 yX2_init cX2_init 3 2 := ⟨Or.inl (gTbl_at (i := 178) (by decide +kernel) rfl), gTbl_at (i := 25) (by decide +kernel) rfl, gTbl_at (i := 179) (by decide +kernel) rfl, gTbl_at (i := 180) (by decide +kernel) rfl, rfl, ⟨(by decide +kernel), (by decide +kernel), (by decide +kernel)⟩⟩
theorem fr_X10_37 : FRk RX10 37 10 3 := ⟨_, tyX10, _, rfl, Nat.le_of_ble_eq_true rfl, gTbl_at (i := 305) (by decide +kernel) rfl, uwX10, rfl, tyX10_ok, nmX10, rfl, tyX10_ok 3 (Nat.le_of_ble_eq_true rfl), rfl, fun _ => ⟨rfl, rfl⟩⟩
theorem nw_X10_41 : NWk RX10 41 4 6 [.null, .null, .null, .null, .null, .null] := ⟨_, tyX4, rfl, rfl, uwX4, tyX4_ok, gTbl_at (i := 214) (by decide +kernel) rfl, gTbl_at (i := 215) (by decide +kernel) rfl, gTbl_at (i := 26) (by decide +kernel) rfl, fun j hj => by
  match j, hj with

  | 0, _ => rfl
  | 1, _ => rfl
  | 2, _ => rfl
  | 3, _ => rfl
  | 4, _ => rfl
  | 5, _ => rfl
 
  | k + 6, h => exact absurd h (Nat.not_lt.mpr (Nat.le_add_left 6 k))⟩
theorem cl_X10_28 : FLk RX10 28 10 2 := ⟨_, rfl, Nat.le_of_ble_eq_true rfl, gTbl_at (i := 304) (by decide +kernel) rfl, uwX10, rfl⟩
theorem cl_X10_37 : FLk RX10 37 10 3 := ⟨_, rfl, Nat.le_of_ble_eq_true rfl, gTbl_at (i := 305) (by decide +kernel) rfl, uwX10, rfl⟩
theorem ic_X10_43 : ICk RX10 43 yX4_init cX4_init 5 4 := ⟨Or.inl (gTbl_at (i := 216) (by decide +kernel) rfl), gTbl_at (i := 26) (by decide +kernel) rfl, gTbl_at (i := 217) (by decide +kernel) rfl, gTbl_at (i := 218) (by decide +kernel) rfl, rfl, ⟨(by decide +kernel), (by decide +kernel), (by decide +kernel)⟩⟩
theorem fr_X10_46 : FRk RX10 46 10 4 := ⟨_, tyX10, _, rfl, Nat.le_of_ble_eq_true rfl, gTbl_at (i := 306) (by decide +kernel) rfl, uwX10, rfl, tyX10_ok, nmX10, rfl, tyX10_ok 4 (Nat.le_of_ble_eq_true rfl), rfl, fun _ => ⟨rfl, rfl⟩⟩
theorem nw_X10_50 : NWk RX10 50 5 6 [.null, .null, .null, .null, .null, .null] := ⟨_, tyX5, rfl, rfl, uwX5, tyX5_ok, gTbl_at (i := 277) (by decide +kernel) rfl, gTbl_at (i := 278) (by decide +kernel) rfl, gTbl_at (i := 29) (by decide +kernel) rfl, fun j hj => by
  match j, hj with

  | 0, _ => rfl
  | 1, _ => rfl
  | 2, _ => rfl
  | 3, _ => rfl
  | 4, _ => rfl
  | 5, _ => rfl
 
  | k + 6, h => exact absurd h (Nat.not_lt.mpr (Nat.le_add_left 6 k))⟩
theorem ic_X10_52 : ICk RX10 52 yX5_init cX5_init 5 4 := ⟨Or.inl (gTbl_at (i := 279) (by decide +kernel) rfl), gTbl_at (i := 29) (by decide +kernel) rfl, gTbl_at (i := 280) (by decide +kernel) rfl, gTbl_at (i := 281) (by decide +kernel) rfl, rfl, ⟨(by decide +kernel), (by decide +kernel), (by decide +kernel)⟩⟩
theorem fr_X10_53 : FRk RX10 53 10 5 := ⟨_, tyX10, _, rfl, Nat.le_of_ble_eq_true rfl, gTbl_at (i := 307) (by decide +kernel) rfl, uwX10, rfl, tyX10_ok, nmX10, rfl, tyX10_ok 5 (Nat.le_of_ble_eq_true rfl), rfl, fun _ => ⟨rfl, rfl⟩⟩

theorem jb_X0_add_56 {κ : JK} (K : jOk 3 cX0_add RX0 none 0 κ) (X : JX) (v1 : Int32) (v2 : Int32) {r : JX} (F : jFin LX false (oU r) κ) (hr : b_X0_add_56 X v1 v2 = some r) : J LX 3 κ X 56 [(0, .ref (jad κ (45))), (1, .int v1), (2, .int v2)] [] := by
  unfold b_X0_add_56 at hr
  refine j_aload_n K dX0_add_56 0 rfl ?_
  refine j_get K (v := .ref (jad κ (47))) fl_X0_15 rfl (Nat.le_of_ble_eq_true rfl) (by decide) rfl dX0_add_57 ?_
  refine j_iload_n K dX0_add_60 1 rfl ?_
  refine j_iload_n K dX0_add_61 2 rfl ?_
  refine j_iastoreV K (z := 60) rfl (Nat.le_of_ble_eq_true rfl) dX0_add_62 hr (fun X3 hr => ?_)
  exact j_return K dX0_add_63 rfl F hr rfl
theorem jf_X0_add {κ : JK} (K : jOk 3 cX0_add RX0 none 0 κ) (X : JX) (v1 : Int32) (v2 : Int32) {r : JX} (F : jFin LX false (oU r) κ) (hr : f_X0_add X v1 v2 = some r) : J LX 3 κ X 0 [(0, .ref (jad κ (45))), (1, .int v1), (2, .int v2)] [] := by
  unfold f_X0_add at hr
  refine j_iload_n K dX0_add_0 1 rfl ?_
  refine j_if_lt K dX0_add_1 (tgt := 10) (by decide) hr (fun hr => ?_) (fun hr => ?_)
  · exact j_return K dX0_add_10 rfl F hr rfl
  · refine j_iload_n K dX0_add_4 1 rfl ?_
    refine j_bipush K dX0_add_5 (v := 60) rfl ?_
    refine j_icmp_lt K dX0_add_7 (tgt := 11) (by decide) hr (fun hr => ?_) (fun hr => ?_)
    · refine j_aload_n K dX0_add_11 0 rfl ?_
      refine j_get K (v := .ref (jad κ (47))) fl_X0_15 rfl (Nat.le_of_ble_eq_true rfl) (by decide) rfl dX0_add_12 ?_
      refine j_iload_n K dX0_add_15 1 rfl ?_
      refine j_iaload K (z := 60) rfl (Nat.le_of_ble_eq_true rfl) dX0_add_16 hr (fun hr => ?_)
      refine j_if_ne K dX0_add_17 (tgt := 56) (by decide) hr (fun hr => ?_) (fun hr => ?_)
      · exact j_sub [0, 1, 2] rfl (jb_X0_add_56 K _ _ _ F hr)
      · refine j_aload_n K dX0_add_20 0 rfl ?_
        refine j_get K (v := .int (X (45) 3)) fl_X0_22 rfl (Nat.le_of_ble_eq_true rfl) (by decide) rfl dX0_add_21 ?_
        refine j_if_lt K dX0_add_24 (tgt := 56) (by decide) hr (fun hr => ?_) (fun hr => ?_)
        · exact j_sub [0, 1, 2] rfl (jb_X0_add_56 K _ _ _ F hr)
        · refine j_aload_n K dX0_add_27 0 rfl ?_
          refine j_get K (v := .int (X (45) 3)) fl_X0_22 rfl (Nat.le_of_ble_eq_true rfl) (by decide) rfl dX0_add_28 ?_
          refine j_bipush K dX0_add_31 (v := 60) rfl ?_
          refine j_icmp_ge K dX0_add_33 (tgt := 56) (by decide) hr (fun hr => ?_) (fun hr => ?_)
          · exact j_sub [0, 1, 2] rfl (jb_X0_add_56 K _ _ _ F hr)
          · refine j_aload_n K dX0_add_36 0 rfl ?_
            refine j_get K (v := .ref (jad κ (46))) fl_X0_9 rfl (Nat.le_of_ble_eq_true rfl) (by decide) rfl dX0_add_37 ?_
            refine j_aload_n K dX0_add_40 0 rfl ?_
            refine j_get K (v := .int (X (45) 3)) fl_X0_22 rfl (Nat.le_of_ble_eq_true rfl) (by decide) rfl dX0_add_41 ?_
            refine j_iload_n K dX0_add_44 1 rfl ?_
            refine j_iastoreV K (z := 60) rfl (Nat.le_of_ble_eq_true rfl) dX0_add_45 hr (fun X1 hr => ?_)
            refine j_aload_n K dX0_add_46 0 rfl ?_
            refine j_dup K dX0_add_47 rfl ?_
            refine j_get K (v := .int (X1 (45) 3)) fl_X0_22 rfl (Nat.le_of_ble_eq_true rfl) (by decide) rfl dX0_add_48 ?_
            refine j_iconst K dX0_add_51 (v := 1) rfl ?_
            refine j_iadd K dX0_add_52 ?_
            refine j_putiV K fp_X0_22 rfl (Nat.le_of_ble_eq_true rfl) (by decide) (fun _ => Nat.le_of_ble_eq_true rfl) (fun _ => rfl) dX0_add_53 hr (fun X2 hr => ?_)
            exact j_sub [0, 1, 2] rfl (jb_X0_add_56 K _ _ _ F hr)
    · exact j_return K dX0_add_10 rfl F hr rfl
theorem c_X0_add (X : JX) (v1 : Int32) (v2 : Int32) {r : JX} (hr : f_X0_add X v1 v2 = some r) : Cal LX yX0_add cX0_add 3 none 0 (fun ad => [.ref (ad (45)), .int v1, .int v2]) X (fun ad => oU r) :=
  Cal.of (own := RX0) (fun ad => [(0, .ref (ad (45))), (1, .int v1), (2, .int v2)]) (by decide) rfl (fun _ => Nat.le_of_ble_eq_true rfl) (fun _ => rfl) (fun κ K F => jf_X0_add K X v1 v2 F hr)
theorem jf_X0_count {κ : JK} (K : jOk 1 cX0_count RX0 (some .int) 0 κ) (X : JX) {r : Int32} (F : jFin LX false (oI X r) κ) (hr : f_X0_count X = some r) : J LX 1 κ X 0 [(0, .ref (jad κ (45)))] [] := by
  unfold f_X0_count at hr
  refine j_aload_n K dX0_count_0 0 rfl ?_
  refine j_get K (v := .int (X (45) 3)) fl_X0_22 rfl (Nat.le_of_ble_eq_true rfl) (by decide) rfl dX0_count_1 ?_
  exact j_ireturn K dX0_count_4 rfl F hr rfl
theorem c_X0_count (X : JX) {r : Int32} (hr : f_X0_count X = some r) : Cal LX yX0_count cX0_count 1 (some .int) 0 (fun ad => [.ref (ad (45))]) X (fun ad => oI X r) :=
  Cal.of (own := RX0) (fun ad => [(0, .ref (ad (45)))]) (by decide) rfl (fun _ => Nat.le_of_ble_eq_true rfl) (fun _ => rfl) (fun κ K F => jf_X0_count K X F hr)
theorem jl_X0_endWork_2 {κ : JK} (K : jOk 2 cX0_endWork RX0 none 0 κ) {r : JX} (F : jFin LX false (oU r) κ) : ∀ (X : JX) (v1 : Int32), l_X0_endWork_2 X v1 = some r → J LX 2 κ X 2 [(0, .ref (jad κ (45))), (1, .int v1)] [] := by
  refine j_loop2 (P := fun X v1 => J LX 2 κ X 2 [(0, .ref (jad κ (45))), (1, .int v1)] []) (fun rec2 hrec2 X v1 hr => ?_) 1000
  unfold lb_X0_endWork_2 at hr
  refine j_iload_n K dX0_endWork_2 1 rfl ?_
  refine j_bipush K dX0_endWork_3 (v := 60) rfl ?_
  refine j_icmp_ge K dX0_endWork_5 (tgt := 21) (by decide) hr (fun hr => ?_) (fun hr => ?_)
  · exact j_return K dX0_endWork_21 rfl F hr rfl
  · refine j_aload_n K dX0_endWork_8 0 rfl ?_
    refine j_get K (v := .ref (jad κ (48))) fl_X0_18 rfl (Nat.le_of_ble_eq_true rfl) (by decide) rfl dX0_endWork_9 ?_
    refine j_iload_n K dX0_endWork_12 1 rfl ?_
    refine j_iconst K dX0_endWork_13 (v := 0) rfl ?_
    refine j_bastoreV K (z := 60) rfl (Nat.le_of_ble_eq_true rfl) dX0_endWork_14 hr (fun X1 hr => ?_)
    refine j_iincV K dX0_endWork_15 (v := 1) 1 rfl rfl (by decide) hr (fun t2 hr => ?_)
    refine j_goto K dX0_endWork_18 (tgt := 2) (by decide) ?_
    exact j_sub [1, 0] rfl (hrec2 _ _ hr)
theorem jf_X0_endWork {κ : JK} (K : jOk 2 cX0_endWork RX0 none 0 κ) (X : JX) {r : JX} (F : jFin LX false (oU r) κ) (hr : f_X0_endWork X = some r) : J LX 2 κ X 0 [(0, .ref (jad κ (45)))] [] := by
  unfold f_X0_endWork at hr
  refine j_iconst K dX0_endWork_0 (v := 0) rfl ?_
  refine j_istore_n K dX0_endWork_1 (by decide) ?_
  exact j_sub [1, 0] rfl (jl_X0_endWork_2 K F _ _ hr)
theorem c_X0_endWork (X : JX) {r : JX} (hr : f_X0_endWork X = some r) : Cal LX yX0_endWork cX0_endWork 2 none 0 (fun ad => [.ref (ad (45))]) X (fun ad => oU r) :=
  Cal.of (own := RX0) (fun ad => [(0, .ref (ad (45)))]) (by decide) rfl (fun _ => Nat.le_of_ble_eq_true rfl) (fun _ => rfl) (fun κ K F => jf_X0_endWork K X F hr)
theorem jb_X0_firstReady_44 {κ : JK} (K : jOk 3 cX0_firstReady RX0 (some .int) 0 κ) (X : JX) (v1 : Int32) {r : Int32} (F : jFin LX false (oI X r) κ) (rec2 : Int32 → Option Int32) (hrec2 : ∀ (v1 : Int32), rec2 v1 = some r → J LX 3 κ X 2 [(0, .ref (jad κ (45))), (1, .int v1)] []) (hr : b_X0_firstReady_44 rec2 X v1 = some r) : J LX 3 κ X 44 [(0, .ref (jad κ (45))), (1, .int v1)] [] := by
  unfold b_X0_firstReady_44 at hr
  refine j_iincV K dX0_firstReady_44 (v := 1) 1 rfl rfl (by decide) hr (fun t2 hr => ?_)
  refine j_goto K dX0_firstReady_47 (tgt := 2) (by decide) ?_
  exact j_sub [1, 0] rfl (hrec2 _ hr)
theorem jl_X0_firstReady_2 {κ : JK} (K : jOk 3 cX0_firstReady RX0 (some .int) 0 κ) (X : JX) {r : Int32} (F : jFin LX false (oI X r) κ) : ∀ (v1 : Int32), l_X0_firstReady_2 X v1 = some r → J LX 3 κ X 2 [(0, .ref (jad κ (45))), (1, .int v1)] [] := by
  refine j_loop1 (P := fun v1 => J LX 3 κ X 2 [(0, .ref (jad κ (45))), (1, .int v1)] []) (fun rec2 hrec2 v1 hr => ?_) 1000
  unfold lb_X0_firstReady_2 at hr
  refine j_iload_n K dX0_firstReady_2 1 rfl ?_
  refine j_aload_n K dX0_firstReady_3 0 rfl ?_
  refine j_get K (v := .int (X (45) 3)) fl_X0_22 rfl (Nat.le_of_ble_eq_true rfl) (by decide) rfl dX0_firstReady_4 ?_
  refine j_icmp_ge K dX0_firstReady_7 (tgt := 50) (by decide) hr (fun hr => ?_) (fun hr => ?_)
  · refine j_iconst K dX0_firstReady_50 (v := -1) rfl ?_
    exact j_ireturn K dX0_firstReady_51 rfl F hr rfl
  · refine j_iload_n K dX0_firstReady_10 1 rfl ?_
    refine j_bipush K dX0_firstReady_11 (v := 60) rfl ?_
    refine j_icmp_ge K dX0_firstReady_13 (tgt := 50) (by decide) hr (fun hr => ?_) (fun hr => ?_)
    · refine j_iconst K dX0_firstReady_50 (v := -1) rfl ?_
      exact j_ireturn K dX0_firstReady_51 rfl F hr rfl
    · refine j_aload_n K dX0_firstReady_16 0 rfl ?_
      refine j_get K (v := .ref (jad κ (46))) fl_X0_9 rfl (Nat.le_of_ble_eq_true rfl) (by decide) rfl dX0_firstReady_17 ?_
      refine j_iload_n K dX0_firstReady_20 1 rfl ?_
      refine j_iaload K (z := 60) rfl (Nat.le_of_ble_eq_true rfl) dX0_firstReady_21 hr (fun hr => ?_)
      refine j_istoreV_n K dX0_firstReady_22 (by decide) hr (fun t1 hr => ?_)
      refine j_iload_n K dX0_firstReady_23 0 rfl ?_
      refine j_if_lt K dX0_firstReady_24 (tgt := 44) (by decide) hr (fun hr => ?_) (fun hr => ?_)
      · exact j_sub [1, 2] rfl (jb_X0_firstReady_44 K _ _ F rec2 hrec2 hr)
      · refine j_iload_n K dX0_firstReady_27 0 rfl ?_
        refine j_bipush K dX0_firstReady_28 (v := 60) rfl ?_
        refine j_icmp_ge K dX0_firstReady_30 (tgt := 44) (by decide) hr (fun hr => ?_) (fun hr => ?_)
        · exact j_sub [1, 2] rfl (jb_X0_firstReady_44 K _ _ F rec2 hrec2 hr)
        · refine j_aload_n K dX0_firstReady_33 1 rfl ?_
          refine j_get K (v := .ref (jad κ (48))) fl_X0_18 rfl (Nat.le_of_ble_eq_true rfl) (by decide) rfl dX0_firstReady_34 ?_
          refine j_iload_n K dX0_firstReady_37 0 rfl ?_
          refine j_baload K (z := 60) rfl (Nat.le_of_ble_eq_true rfl) dX0_firstReady_38 hr (fun hr => ?_)
          refine j_if_ne K dX0_firstReady_39 (tgt := 44) (by decide) hr (fun hr => ?_) (fun hr => ?_)
          · exact j_sub [1, 2] rfl (jb_X0_firstReady_44 K _ _ F rec2 hrec2 hr)
          · refine j_iload_n K dX0_firstReady_42 0 rfl ?_
            exact j_ireturn K dX0_firstReady_43 rfl F hr rfl
theorem jf_X0_firstReady {κ : JK} (K : jOk 3 cX0_firstReady RX0 (some .int) 0 κ) (X : JX) {r : Int32} (F : jFin LX false (oI X r) κ) (hr : f_X0_firstReady X = some r) : J LX 3 κ X 0 [(0, .ref (jad κ (45)))] [] := by
  unfold f_X0_firstReady at hr
  refine j_iconst K dX0_firstReady_0 (v := 0) rfl ?_
  refine j_istore_n K dX0_firstReady_1 (by decide) ?_
  exact j_sub [1, 0] rfl (jl_X0_firstReady_2 K _ F _ hr)
theorem c_X0_firstReady (X : JX) {r : Int32} (hr : f_X0_firstReady X = some r) : Cal LX yX0_firstReady cX0_firstReady 3 (some .int) 0 (fun ad => [.ref (ad (45))]) X (fun ad => oI X r) :=
  Cal.of (own := RX0) (fun ad => [(0, .ref (ad (45)))]) (by decide) rfl (fun _ => Nat.le_of_ble_eq_true rfl) (fun _ => rfl) (fun κ K F => jf_X0_firstReady K X F hr)
theorem jf_X0_kindOf {κ : JK} (K : jOk 2 cX0_kindOf RX0 (some .int) 0 κ) (X : JX) (v1 : Int32) {r : Int32} (F : jFin LX false (oI X r) κ) (hr : f_X0_kindOf X v1 = some r) : J LX 2 κ X 0 [(0, .ref (jad κ (45))), (1, .int v1)] [] := by
  unfold f_X0_kindOf at hr
  refine j_iload_n K dX0_kindOf_0 1 rfl ?_
  refine j_if_lt K dX0_kindOf_1 (tgt := 19) (by decide) hr (fun hr => ?_) (fun hr => ?_)
  · refine j_iconst K dX0_kindOf_19 (v := 0) rfl ?_
    exact j_ireturn K dX0_kindOf_20 rfl F hr rfl
  · refine j_iload_n K dX0_kindOf_4 1 rfl ?_
    refine j_bipush K dX0_kindOf_5 (v := 60) rfl ?_
    refine j_icmp_ge K dX0_kindOf_7 (tgt := 19) (by decide) hr (fun hr => ?_) (fun hr => ?_)
    · refine j_iconst K dX0_kindOf_19 (v := 0) rfl ?_
      exact j_ireturn K dX0_kindOf_20 rfl F hr rfl
    · refine j_aload_n K dX0_kindOf_10 0 rfl ?_
      refine j_get K (v := .ref (jad κ (47))) fl_X0_15 rfl (Nat.le_of_ble_eq_true rfl) (by decide) rfl dX0_kindOf_11 ?_
      refine j_iload_n K dX0_kindOf_14 1 rfl ?_
      refine j_iaload K (z := 60) rfl (Nat.le_of_ble_eq_true rfl) dX0_kindOf_15 hr (fun hr => ?_)
      refine j_goto K dX0_kindOf_16 (tgt := 20) (by decide) ?_
      exact j_ireturn K dX0_kindOf_20 rfl F hr rfl
theorem c_X0_kindOf (X : JX) (v1 : Int32) {r : Int32} (hr : f_X0_kindOf X v1 = some r) : Cal LX yX0_kindOf cX0_kindOf 2 (some .int) 0 (fun ad => [.ref (ad (45)), .int v1]) X (fun ad => oI X r) :=
  Cal.of (own := RX0) (fun ad => [(0, .ref (ad (45))), (1, .int v1)]) (by decide) rfl (fun _ => Nat.le_of_ble_eq_true rfl) (fun _ => rfl) (fun κ K F => jf_X0_kindOf K X v1 F hr)
theorem jb_X0_takeAway_65 {κ : JK} (K : jOk 4 cX0_takeAway RX0 none 1 κ) (X : JX) (v1 : Int32) (v2 : Int32) (v3 : Int32) {r : JX} (F : jFin LX false (oU r) κ) (rec20 : JX → Int32 → Int32 → Option JX) (hrec20 : ∀ (X : JX) (v2 : Int32) (v3 : Int32), rec20 X v2 v3 = some r → J LX 4 κ X 20 [(0, .ref (jad κ (45))), (1, .int v1), (2, .int v2), (3, .int v3)] []) (hr : b_X0_takeAway_65 rec20 X v1 v2 v3 = some r) : J LX 4 κ X 65 [(0, .ref (jad κ (45))), (1, .int v1), (2, .int v2), (3, .int v3)] [] := by
  unfold b_X0_takeAway_65 at hr
  refine j_iincV K dX0_takeAway_65 (v := 1) 3 rfl rfl (by decide) hr (fun t7 hr => ?_)
  refine j_goto K dX0_takeAway_68 (tgt := 20) (by decide) ?_
  exact j_sub [1, 2, 3, 0] rfl (hrec20 _ _ _ hr)
theorem jl_X0_takeAway_20 {κ : JK} (K : jOk 4 cX0_takeAway RX0 none 1 κ) (v1 : Int32) {r : JX} (F : jFin LX false (oU r) κ) : ∀ (X : JX) (v2 : Int32) (v3 : Int32), l_X0_takeAway_20 v1 X v2 v3 = some r → J LX 4 κ X 20 [(0, .ref (jad κ (45))), (1, .int v1), (2, .int v2), (3, .int v3)] [] := by
  refine j_loop3 (P := fun X v2 v3 => J LX 4 κ X 20 [(0, .ref (jad κ (45))), (1, .int v1), (2, .int v2), (3, .int v3)] []) (fun rec20 hrec20 X v2 v3 hr => ?_) 1000
  unfold lb_X0_takeAway_20 at hr
  refine j_iload_n K dX0_takeAway_20 3 rfl ?_
  refine j_aload_n K dX0_takeAway_21 0 rfl ?_
  refine j_get K (v := .int (X (45) 3)) fl_X0_22 rfl (Nat.le_of_ble_eq_true rfl) (by decide) rfl dX0_takeAway_22 ?_
  refine j_icmp_ge K dX0_takeAway_25 (tgt := 71) (by decide) hr (fun hr => ?_) (fun hr => ?_)
  · refine j_aload_n K dX0_takeAway_71 0 rfl ?_
    refine j_iload_n K dX0_takeAway_72 2 rfl ?_
    refine j_putiV K fp_X0_22 rfl (Nat.le_of_ble_eq_true rfl) (by decide) (fun _ => Nat.le_of_ble_eq_true rfl) (fun _ => rfl) dX0_takeAway_73 hr (fun X3 hr => ?_)
    exact j_return K dX0_takeAway_76 rfl F hr rfl
  · refine j_iload_n K dX0_takeAway_28 3 rfl ?_
    refine j_bipush K dX0_takeAway_29 (v := 60) rfl ?_
    refine j_icmp_ge K dX0_takeAway_31 (tgt := 71) (by decide) hr (fun hr => ?_) (fun hr => ?_)
    · refine j_aload_n K dX0_takeAway_71 0 rfl ?_
      refine j_iload_n K dX0_takeAway_72 2 rfl ?_
      refine j_putiV K fp_X0_22 rfl (Nat.le_of_ble_eq_true rfl) (by decide) (fun _ => Nat.le_of_ble_eq_true rfl) (fun _ => rfl) dX0_takeAway_73 hr (fun X4 hr => ?_)
      exact j_return K dX0_takeAway_76 rfl F hr rfl
    · refine j_aload_n K dX0_takeAway_34 0 rfl ?_
      refine j_get K (v := .ref (jad κ (46))) fl_X0_9 rfl (Nat.le_of_ble_eq_true rfl) (by decide) rfl dX0_takeAway_35 ?_
      refine j_iload_n K dX0_takeAway_38 3 rfl ?_
      refine j_iaload K (z := 60) rfl (Nat.le_of_ble_eq_true rfl) dX0_takeAway_39 hr (fun hr => ?_)
      refine j_iload_n K dX0_takeAway_40 1 rfl ?_
      refine j_icmp_eq K dX0_takeAway_41 (tgt := 65) (by decide) hr (fun hr => ?_) (fun hr => ?_)
      · exact j_sub [0, 1, 2, 3] rfl (jb_X0_takeAway_65 K _ _ _ _ F rec20 hrec20 hr)
      · refine j_iload_n K dX0_takeAway_44 2 rfl ?_
        refine j_bipush K dX0_takeAway_45 (v := 60) rfl ?_
        refine j_icmp_ge K dX0_takeAway_47 (tgt := 65) (by decide) hr (fun hr => ?_) (fun hr => ?_)
        · exact j_sub [0, 1, 2, 3] rfl (jb_X0_takeAway_65 K _ _ _ _ F rec20 hrec20 hr)
        · refine j_aload_n K dX0_takeAway_50 0 rfl ?_
          refine j_get K (v := .ref (jad κ (46))) fl_X0_9 rfl (Nat.le_of_ble_eq_true rfl) (by decide) rfl dX0_takeAway_51 ?_
          refine j_iload_n K dX0_takeAway_54 2 rfl ?_
          refine j_aload_n K dX0_takeAway_55 0 rfl ?_
          refine j_get K (v := .ref (jad κ (46))) fl_X0_9 rfl (Nat.le_of_ble_eq_true rfl) (by decide) rfl dX0_takeAway_56 ?_
          refine j_iload_n K dX0_takeAway_59 3 rfl ?_
          refine j_iaload K (z := 60) rfl (Nat.le_of_ble_eq_true rfl) dX0_takeAway_60 hr (fun hr => ?_)
          refine j_iastoreV K (z := 60) rfl (Nat.le_of_ble_eq_true rfl) dX0_takeAway_61 hr (fun X5 hr => ?_)
          refine j_iincV K dX0_takeAway_62 (v := 1) 2 rfl rfl (by decide) hr (fun t6 hr => ?_)
          exact j_sub [1, 2, 0, 3] rfl (jb_X0_takeAway_65 K _ _ _ _ F rec20 hrec20 hr)
theorem jf_X0_takeAway {κ : JK} (K : jOk 4 cX0_takeAway RX0 none 1 κ) (X : JX) (v1 : Int32) {r : JX} (F : jFin LX false (oU r) κ) (hr : f_X0_takeAway X v1 = some r) : J LX 4 κ X 0 [(0, .ref (jad κ (45))), (1, .int v1)] [] := by
  unfold f_X0_takeAway at hr
  refine j_aload_n K dX0_takeAway_0 0 rfl ?_
  refine j_iload_n K dX0_takeAway_1 1 rfl ?_
  refine j_vI1 K (ci := 0) hr (fun v h => c_X0_kindOf X v1 h) ml_X0_26 ⟨_, rfl, rfl⟩ rfl (Nat.le_of_ble_eq_true rfl) (by decide) rfl (by decide) (by decide) (Nat.le_of_ble_eq_true rfl) dX0_takeAway_2 (fun t1 h hr => ?_)
  refine j_if_ne K dX0_takeAway_5 (tgt := 9) (by decide) hr (fun hr => ?_) (fun hr => ?_)
  · refine j_aload_n K dX0_takeAway_9 0 rfl ?_
    refine j_get K (v := .ref (jad κ (47))) fl_X0_15 rfl (Nat.le_of_ble_eq_true rfl) (by decide) rfl dX0_takeAway_10 ?_
    refine j_iload_n K dX0_takeAway_13 1 rfl ?_
    refine j_iconst K dX0_takeAway_14 (v := 0) rfl ?_
    refine j_iastoreV K (z := 60) rfl (Nat.le_of_ble_eq_true rfl) dX0_takeAway_15 hr (fun X2 hr => ?_)
    refine j_iconst K dX0_takeAway_16 (v := 0) rfl ?_
    refine j_istore_n K dX0_takeAway_17 (by decide) ?_
    refine j_iconst K dX0_takeAway_18 (v := 0) rfl ?_
    refine j_istore_n K dX0_takeAway_19 (by decide) ?_
    exact j_sub [2, 3, 1, 0] rfl (jl_X0_takeAway_20 K _ F _ _ _ hr)
  · exact j_return K dX0_takeAway_8 rfl F hr rfl
theorem c_X0_takeAway (X : JX) (v1 : Int32) {r : JX} (hr : f_X0_takeAway X v1 = some r) : Cal LX yX0_takeAway cX0_takeAway 4 none 1 (fun ad => [.ref (ad (45)), .int v1]) X (fun ad => oU r) :=
  Cal.of (own := RX0) (fun ad => [(0, .ref (ad (45))), (1, .int v1)]) (by decide) rfl (fun _ => Nat.le_of_ble_eq_true rfl) (fun _ => rfl) (fun κ K F => jf_X0_takeAway K X v1 F hr)
theorem jf_X0_putOff {κ : JK} (K : jOk 2 cX0_putOff RX0 none 2 κ) (X : JX) (v1 : Int32) {r : JX} (F : jFin LX false (oU r) κ) (hr : f_X0_putOff X v1 = some r) : J LX 2 κ X 0 [(0, .ref (jad κ (45))), (1, .int v1)] [] := by
  unfold f_X0_putOff at hr
  refine j_aload_n K dX0_putOff_0 0 rfl ?_
  refine j_iload_n K dX0_putOff_1 1 rfl ?_
  refine j_vU1 K (ci := 0) hr (fun v h => c_X0_takeAway X v1 h) ml_X0_30 ⟨_, rfl, rfl⟩ rfl (Nat.le_of_ble_eq_true rfl) (by decide) rfl (by decide) (by decide) (Nat.le_of_ble_eq_true rfl) dX0_putOff_2 (fun X1 h hr => ?_)
  refine j_aload_n K dX0_putOff_5 0 rfl ?_
  refine j_iload_n K dX0_putOff_6 1 rfl ?_
  refine j_iconst K dX0_putOff_7 (v := 1) rfl ?_
  refine j_vU2 K (ci := 0) hr (fun v h => c_X0_add X1 v1 (1) h) ml_X0_34 ⟨_, rfl, rfl⟩ rfl (Nat.le_of_ble_eq_true rfl) (by decide) rfl (by decide) (by decide) (Nat.le_of_ble_eq_true rfl) dX0_putOff_8 (fun X2 h hr => ?_)
  refine j_iload_n K dX0_putOff_11 1 rfl ?_
  refine j_if_lt K dX0_putOff_12 (tgt := 28) (by decide) hr (fun hr => ?_) (fun hr => ?_)
  · exact j_return K dX0_putOff_28 rfl F hr rfl
  · refine j_iload_n K dX0_putOff_15 1 rfl ?_
    refine j_bipush K dX0_putOff_16 (v := 60) rfl ?_
    refine j_icmp_ge K dX0_putOff_18 (tgt := 28) (by decide) hr (fun hr => ?_) (fun hr => ?_)
    · exact j_return K dX0_putOff_28 rfl F hr rfl
    · refine j_aload_n K dX0_putOff_21 0 rfl ?_
      refine j_get K (v := .ref (jad κ (48))) fl_X0_18 rfl (Nat.le_of_ble_eq_true rfl) (by decide) rfl dX0_putOff_22 ?_
      refine j_iload_n K dX0_putOff_25 1 rfl ?_
      refine j_iconst K dX0_putOff_26 (v := 1) rfl ?_
      refine j_bastoreV K (z := 60) rfl (Nat.le_of_ble_eq_true rfl) dX0_putOff_27 hr (fun X3 hr => ?_)
      exact j_return K dX0_putOff_28 rfl F hr rfl
theorem c_X0_putOff (X : JX) (v1 : Int32) {r : JX} (hr : f_X0_putOff X v1 = some r) : Cal LX yX0_putOff cX0_putOff 2 none 2 (fun ad => [.ref (ad (45)), .int v1]) X (fun ad => oU r) :=
  Cal.of (own := RX0) (fun ad => [(0, .ref (ad (45))), (1, .int v1)]) (by decide) rfl (fun _ => Nat.le_of_ble_eq_true rfl) (fun _ => rfl) (fun κ K F => jf_X0_putOff K X v1 F hr)
theorem jb_X2_count_22 {κ : JK} (K : jOk 3 cX2_count RX2 (some .int) 0 κ) (X : JX) (v1 : Int32) (v2 : Int32) {r : Int32} (F : jFin LX false (oI X r) κ) (rec4 : Int32 → Int32 → Option Int32) (hrec4 : ∀ (v1 : Int32) (v2 : Int32), rec4 v1 v2 = some r → J LX 3 κ X 4 [(0, .ref (jad κ (35))), (1, .int v1), (2, .int v2)] []) (hr : b_X2_count_22 rec4 X v1 v2 = some r) : J LX 3 κ X 22 [(0, .ref (jad κ (35))), (1, .int v1), (2, .int v2)] [] := by
  unfold b_X2_count_22 at hr
  refine j_iincV K dX2_count_22 (v := 1) 2 rfl rfl (by decide) hr (fun t2 hr => ?_)
  refine j_goto K dX2_count_25 (tgt := 4) (by decide) ?_
  exact j_sub [1, 2, 0] rfl (hrec4 _ _ hr)
theorem jl_X2_count_4 {κ : JK} (K : jOk 3 cX2_count RX2 (some .int) 0 κ) (X : JX) {r : Int32} (F : jFin LX false (oI X r) κ) : ∀ (v1 : Int32) (v2 : Int32), l_X2_count_4 X v1 v2 = some r → J LX 3 κ X 4 [(0, .ref (jad κ (35))), (1, .int v1), (2, .int v2)] [] := by
  refine j_loop2 (P := fun v1 v2 => J LX 3 κ X 4 [(0, .ref (jad κ (35))), (1, .int v1), (2, .int v2)] []) (fun rec4 hrec4 v1 v2 hr => ?_) 1000
  unfold lb_X2_count_4 at hr
  refine j_iload_n K dX2_count_4 2 rfl ?_
  refine j_bipush K dX2_count_5 (v := 60) rfl ?_
  refine j_icmp_ge K dX2_count_7 (tgt := 28) (by decide) hr (fun hr => ?_) (fun hr => ?_)
  · refine j_iload_n K dX2_count_28 1 rfl ?_
    exact j_ireturn K dX2_count_29 rfl F hr rfl
  · refine j_aload_n K dX2_count_10 0 rfl ?_
    refine j_get K (v := .ref (jad κ (36))) fl_X2_9 rfl (Nat.le_of_ble_eq_true rfl) (by decide) rfl dX2_count_11 ?_
    refine j_iload_n K dX2_count_14 2 rfl ?_
    refine j_baload K (z := 60) rfl (Nat.le_of_ble_eq_true rfl) dX2_count_15 hr (fun hr => ?_)
    refine j_if_eq K dX2_count_16 (tgt := 22) (by decide) hr (fun hr => ?_) (fun hr => ?_)
    · exact j_sub [0, 1, 2] rfl (jb_X2_count_22 K _ _ _ F rec4 hrec4 hr)
    · refine j_iincV K dX2_count_19 (v := 1) 1 rfl rfl (by decide) hr (fun t1 hr => ?_)
      exact j_sub [1, 0, 2] rfl (jb_X2_count_22 K _ _ _ F rec4 hrec4 hr)
theorem jf_X2_count {κ : JK} (K : jOk 3 cX2_count RX2 (some .int) 0 κ) (X : JX) {r : Int32} (F : jFin LX false (oI X r) κ) (hr : f_X2_count X = some r) : J LX 3 κ X 0 [(0, .ref (jad κ (35)))] [] := by
  unfold f_X2_count at hr
  refine j_iconst K dX2_count_0 (v := 0) rfl ?_
  refine j_istore_n K dX2_count_1 (by decide) ?_
  refine j_iconst K dX2_count_2 (v := 0) rfl ?_
  refine j_istore_n K dX2_count_3 (by decide) ?_
  exact j_sub [2, 1, 0] rfl (jl_X2_count_4 K _ F _ _ hr)
theorem c_X2_count (X : JX) {r : Int32} (hr : f_X2_count X = some r) : Cal LX yX2_count cX2_count 3 (some .int) 0 (fun ad => [.ref (ad (35))]) X (fun ad => oI X r) :=
  Cal.of (own := RX2) (fun ad => [(0, .ref (ad (35)))]) (by decide) rfl (fun _ => Nat.le_of_ble_eq_true rfl) (fun _ => rfl) (fun κ K F => jf_X2_count K X F hr)
theorem jf_X2_has {κ : JK} (K : jOk 2 cX2_has RX2 (some .boolean) 0 κ) (X : JX) (v1 : Int32) {r : Int32} (F : jFin LX false (oI X r) κ) (hr : f_X2_has X v1 = some r) : J LX 2 κ X 0 [(0, .ref (jad κ (35))), (1, .int v1)] [] := by
  unfold f_X2_has at hr
  refine j_iload_n K dX2_has_0 1 rfl ?_
  refine j_if_lt K dX2_has_1 (tgt := 23) (by decide) hr (fun hr => ?_) (fun hr => ?_)
  · refine j_iconst K dX2_has_23 (v := 0) rfl ?_
    exact j_zreturn K dX2_has_24 rfl rfl F hr rfl
  · refine j_iload_n K dX2_has_4 1 rfl ?_
    refine j_bipush K dX2_has_5 (v := 60) rfl ?_
    refine j_icmp_ge K dX2_has_7 (tgt := 23) (by decide) hr (fun hr => ?_) (fun hr => ?_)
    · refine j_iconst K dX2_has_23 (v := 0) rfl ?_
      exact j_zreturn K dX2_has_24 rfl rfl F hr rfl
    · refine j_aload_n K dX2_has_10 0 rfl ?_
      refine j_get K (v := .ref (jad κ (36))) fl_X2_9 rfl (Nat.le_of_ble_eq_true rfl) (by decide) rfl dX2_has_11 ?_
      refine j_iload_n K dX2_has_14 1 rfl ?_
      refine j_baload K (z := 60) rfl (Nat.le_of_ble_eq_true rfl) dX2_has_15 hr (fun hr => ?_)
      refine j_if_eq K dX2_has_16 (tgt := 23) (by decide) hr (fun hr => ?_) (fun hr => ?_)
      · refine j_iconst K dX2_has_23 (v := 0) rfl ?_
        exact j_zreturn K dX2_has_24 rfl rfl F hr rfl
      · refine j_iconst K dX2_has_19 (v := 1) rfl ?_
        refine j_goto K dX2_has_20 (tgt := 24) (by decide) ?_
        exact j_zreturn K dX2_has_24 rfl rfl F hr rfl
theorem c_X2_has (X : JX) (v1 : Int32) {r : Int32} (hr : f_X2_has X v1 = some r) : Cal LX yX2_has cX2_has 2 (some .boolean) 0 (fun ad => [.ref (ad (35)), .int v1]) X (fun ad => oI X r) :=
  Cal.of (own := RX2) (fun ad => [(0, .ref (ad (35))), (1, .int v1)]) (by decide) rfl (fun _ => Nat.le_of_ble_eq_true rfl) (fun _ => rfl) (fun κ K F => jf_X2_has K X v1 F hr)
theorem jf_X2_isBehind {κ : JK} (K : jOk 2 cX2_isBehind RX2 (some .boolean) 1 κ) (X : JX) (v1 : Int32) {r : Int32} (F : jFin LX false (oI X r) κ) (hr : f_X2_isBehind X v1 = some r) : J LX 2 κ X 0 [(0, .ref (jad κ (35))), (1, .int v1)] [] := by
  unfold f_X2_isBehind at hr
  refine j_aload_n K dX2_isBehind_0 0 rfl ?_
  refine j_iload_n K dX2_isBehind_1 1 rfl ?_
  refine j_vI1 K (ci := 2) hr (fun v h => c_X2_has X v1 h) ml_X2_48 ⟨_, rfl, rfl⟩ rfl (Nat.le_of_ble_eq_true rfl) (by decide) rfl (by decide) (by decide) (Nat.le_of_ble_eq_true rfl) dX2_isBehind_2 (fun t1 h hr => ?_)
  refine j_if_ne K dX2_isBehind_5 (tgt := 10) (by decide) hr (fun hr => ?_) (fun hr => ?_)
  · refine j_aload_n K dX2_isBehind_10 0 rfl ?_
    refine j_get K (v := .ref (jad κ (37))) fl_X2_15 rfl (Nat.le_of_ble_eq_true rfl) (by decide) rfl dX2_isBehind_11 ?_
    refine j_iload_n K dX2_isBehind_14 1 rfl ?_
    refine j_iaload K (z := 60) rfl (Nat.le_of_ble_eq_true rfl) dX2_isBehind_15 hr (fun hr => ?_)
    refine j_aload_n K dX2_isBehind_16 0 rfl ?_
    refine j_get K (v := .ref (jad κ (1))) fl_X2_40 rfl (Nat.le_of_ble_eq_true rfl) (by decide) rfl dX2_isBehind_17 ?_
    refine j_iload_n K dX2_isBehind_20 1 rfl ?_
    refine j_vI1 K (ci := 9) hr (fun v h => c_X9_parentOf X v1 h) ml_X2_52 ⟨_, rfl, rfl⟩ rfl (Nat.le_of_ble_eq_true rfl) (by decide) rfl (by decide) (by decide) (Nat.le_of_ble_eq_true rfl) dX2_isBehind_21 (fun t2 h hr => ?_)
    refine j_icmp_ne K dX2_isBehind_24 (tgt := 44) (by decide) hr (fun hr => ?_) (fun hr => ?_)
    · refine j_iconst K dX2_isBehind_44 (v := 1) rfl ?_
      exact j_zreturn K dX2_isBehind_45 rfl rfl F hr rfl
    · refine j_aload_n K dX2_isBehind_27 0 rfl ?_
      refine j_get K (v := .ref (jad κ (38))) fl_X2_19 rfl (Nat.le_of_ble_eq_true rfl) (by decide) rfl dX2_isBehind_28 ?_
      refine j_iload_n K dX2_isBehind_31 1 rfl ?_
      refine j_caload K (z := 60) rfl (Nat.le_of_ble_eq_true rfl) dX2_isBehind_32 hr (fun hr => ?_)
      refine j_aload_n K dX2_isBehind_33 0 rfl ?_
      refine j_get K (v := .ref (jad κ (1))) fl_X2_40 rfl (Nat.le_of_ble_eq_true rfl) (by decide) rfl dX2_isBehind_34 ?_
      refine j_iload_n K dX2_isBehind_37 1 rfl ?_
      refine j_vI1 K (ci := 9) hr (fun v h => c_X9_nameOf X v1 h) ml_X2_58 ⟨_, rfl, rfl⟩ rfl (Nat.le_of_ble_eq_true rfl) (by decide) rfl (by decide) (by decide) (Nat.le_of_ble_eq_true rfl) dX2_isBehind_38 (fun t3 h hr => ?_)
      refine j_icmp_eq K dX2_isBehind_41 (tgt := 46) (by decide) hr (fun hr => ?_) (fun hr => ?_)
      · refine j_aload_n K dX2_isBehind_46 0 rfl ?_
        refine j_get K (v := .ref (jad κ (1))) fl_X2_40 rfl (Nat.le_of_ble_eq_true rfl) (by decide) rfl dX2_isBehind_47 ?_
        refine j_iload_n K dX2_isBehind_50 1 rfl ?_
        refine j_vI1 K (ci := 9) hr (fun v h => c_X9_isFile X v1 h) ml_X2_62 ⟨_, rfl, rfl⟩ rfl (Nat.le_of_ble_eq_true rfl) (by decide) rfl (by decide) (by decide) (Nat.le_of_ble_eq_true rfl) dX2_isBehind_51 (fun t4 h hr => ?_)
        refine j_if_eq K dX2_isBehind_54 (tgt := 78) (by decide) hr (fun hr => ?_) (fun hr => ?_)
        · refine j_iconst K dX2_isBehind_78 (v := 0) rfl ?_
          exact j_zreturn K dX2_isBehind_79 rfl rfl F hr rfl
        · refine j_aload_n K dX2_isBehind_57 0 rfl ?_
          refine j_get K (v := .ref (jad κ (39))) fl_X2_23 rfl (Nat.le_of_ble_eq_true rfl) (by decide) rfl dX2_isBehind_58 ?_
          refine j_iload_n K dX2_isBehind_61 1 rfl ?_
          refine j_iaload K (z := 60) rfl (Nat.le_of_ble_eq_true rfl) dX2_isBehind_62 hr (fun hr => ?_)
          refine j_aload_n K dX2_isBehind_63 0 rfl ?_
          refine j_get K (v := .ref (jad κ (1))) fl_X2_40 rfl (Nat.le_of_ble_eq_true rfl) (by decide) rfl dX2_isBehind_64 ?_
          refine j_iload_n K dX2_isBehind_67 1 rfl ?_
          refine j_vI1 K (ci := 9) hr (fun v h => c_X9_editionOf X v1 h) ml_X2_65 ⟨_, rfl, rfl⟩ rfl (Nat.le_of_ble_eq_true rfl) (by decide) rfl (by decide) (by decide) (Nat.le_of_ble_eq_true rfl) dX2_isBehind_68 (fun t5 h hr => ?_)
          refine j_icmp_eq K dX2_isBehind_71 (tgt := 78) (by decide) hr (fun hr => ?_) (fun hr => ?_)
          · refine j_iconst K dX2_isBehind_78 (v := 0) rfl ?_
            exact j_zreturn K dX2_isBehind_79 rfl rfl F hr rfl
          · refine j_iconst K dX2_isBehind_74 (v := 1) rfl ?_
            refine j_goto K dX2_isBehind_75 (tgt := 79) (by decide) ?_
            exact j_zreturn K dX2_isBehind_79 rfl rfl F hr rfl
      · refine j_iconst K dX2_isBehind_44 (v := 1) rfl ?_
        exact j_zreturn K dX2_isBehind_45 rfl rfl F hr rfl
  · refine j_iconst K dX2_isBehind_8 (v := 1) rfl ?_
    exact j_zreturn K dX2_isBehind_9 rfl rfl F hr rfl
theorem c_X2_isBehind (X : JX) (v1 : Int32) {r : Int32} (hr : f_X2_isBehind X v1 = some r) : Cal LX yX2_isBehind cX2_isBehind 2 (some .boolean) 1 (fun ad => [.ref (ad (35)), .int v1]) X (fun ad => oI X r) :=
  Cal.of (own := RX2) (fun ad => [(0, .ref (ad (35))), (1, .int v1)]) (by decide) rfl (fun _ => Nat.le_of_ble_eq_true rfl) (fun _ => rfl) (fun κ K F => jf_X2_isBehind K X v1 F hr)
theorem jb_X2_countStale_65 {κ : JK} (K : jOk 4 cX2_countStale RX2 (some .int) 3 κ) (X : JX) (v1 : Int32) (v2 : Int32) {r : Int32} (F : jFin LX false (oI X r) κ) (rec4 : Int32 → Int32 → Option Int32) (hrec4 : ∀ (v1 : Int32) (v2 : Int32), rec4 v1 v2 = some r → J LX 4 κ X 4 [(0, .ref (jad κ (35))), (1, .int v1), (2, .int v2)] []) (hr : b_X2_countStale_65 rec4 X v1 v2 = some r) : J LX 4 κ X 65 [(0, .ref (jad κ (35))), (1, .int v1), (2, .int v2)] [] := by
  unfold b_X2_countStale_65 at hr
  refine j_iincV K dX2_countStale_65 (v := 1) 2 rfl rfl (by decide) hr (fun t5 hr => ?_)
  refine j_goto K dX2_countStale_68 (tgt := 4) (by decide) ?_
  exact j_sub [1, 2, 0] rfl (hrec4 _ _ hr)
theorem jb_X2_countStale_62 {κ : JK} (K : jOk 4 cX2_countStale RX2 (some .int) 3 κ) (X : JX) (v1 : Int32) (v2 : Int32) {r : Int32} (F : jFin LX false (oI X r) κ) (rec4 : Int32 → Int32 → Option Int32) (hrec4 : ∀ (v1 : Int32) (v2 : Int32), rec4 v1 v2 = some r → J LX 4 κ X 4 [(0, .ref (jad κ (35))), (1, .int v1), (2, .int v2)] []) (hr : b_X2_countStale_62 rec4 X v1 v2 = some r) : J LX 4 κ X 62 [(0, .ref (jad κ (35))), (1, .int v1), (2, .int v2)] [] := by
  unfold b_X2_countStale_62 at hr
  refine j_iincV K dX2_countStale_62 (v := 1) 1 rfl rfl (by decide) hr (fun t6 hr => ?_)
  exact j_sub [1, 0, 2] rfl (jb_X2_countStale_65 K _ _ _ F rec4 hrec4 hr)
theorem jb_X2_countStale_26 {κ : JK} (K : jOk 4 cX2_countStale RX2 (some .int) 3 κ) (X : JX) (v1 : Int32) (v2 : Int32) (s0 : Int32) {r : Int32} (F : jFin LX false (oI X r) κ) (rec4 : Int32 → Int32 → Option Int32) (hrec4 : ∀ (v1 : Int32) (v2 : Int32), rec4 v1 v2 = some r → J LX 4 κ X 4 [(0, .ref (jad κ (35))), (1, .int v1), (2, .int v2)] []) (hr : b_X2_countStale_26 rec4 X v1 v2 s0 = some r) : J LX 4 κ X 26 [(0, .ref (jad κ (35))), (1, .int v1), (2, .int v2)] [.int s0] := by
  unfold b_X2_countStale_26 at hr
  refine j_istore_n K dX2_countStale_26 (by decide) ?_
  refine j_iload_n K dX2_countStale_27 0 rfl ?_
  refine j_if_eq K dX2_countStale_28 (tgt := 53) (by decide) hr (fun hr => ?_) (fun hr => ?_)
  · refine j_aload_n K dX2_countStale_53 1 rfl ?_
    refine j_get K (v := .ref (jad κ (36))) fl_X2_9 rfl (Nat.le_of_ble_eq_true rfl) (by decide) rfl dX2_countStale_54 ?_
    refine j_iload_n K dX2_countStale_57 3 rfl ?_
    refine j_baload K (z := 60) rfl (Nat.le_of_ble_eq_true rfl) dX2_countStale_58 hr (fun hr => ?_)
    refine j_if_eq K dX2_countStale_59 (tgt := 65) (by decide) hr (fun hr => ?_) (fun hr => ?_)
    · exact j_sub [1, 2, 3] rfl (jb_X2_countStale_65 K _ _ _ F rec4 hrec4 hr)
    · exact j_sub [1, 2, 3] rfl (jb_X2_countStale_62 K _ _ _ F rec4 hrec4 hr)
  · refine j_aload_n K dX2_countStale_31 1 rfl ?_
    refine j_get K (v := .ref (jad κ (1))) fl_X2_40 rfl (Nat.le_of_ble_eq_true rfl) (by decide) rfl dX2_countStale_32 ?_
    refine j_iload_n K dX2_countStale_35 3 rfl ?_
    refine j_vI1 K (ci := 9) hr (fun v h => c_X9_isFile X v2 h) ml_X2_62 ⟨_, rfl, rfl⟩ rfl (Nat.le_of_ble_eq_true rfl) (by decide) rfl (by decide) (by decide) (Nat.le_of_ble_eq_true rfl) dX2_countStale_36 (fun t3 h hr => ?_)
    refine j_if_eq K dX2_countStale_39 (tgt := 65) (by decide) hr (fun hr => ?_) (fun hr => ?_)
    · exact j_sub [1, 2, 3] rfl (jb_X2_countStale_65 K _ _ _ F rec4 hrec4 hr)
    · refine j_aload_n K dX2_countStale_42 1 rfl ?_
      refine j_iload_n K dX2_countStale_43 3 rfl ?_
      refine j_vI1 K (ci := 2) hr (fun v h => c_X2_isBehind X v2 h) ml_X2_74 ⟨_, rfl, rfl⟩ rfl (Nat.le_of_ble_eq_true rfl) (by decide) rfl (by decide) (by decide) (Nat.le_of_ble_eq_true rfl) dX2_countStale_44 (fun t4 h hr => ?_)
      refine j_if_eq K dX2_countStale_47 (tgt := 65) (by decide) hr (fun hr => ?_) (fun hr => ?_)
      · exact j_sub [1, 2, 3] rfl (jb_X2_countStale_65 K _ _ _ F rec4 hrec4 hr)
      · refine j_goto K dX2_countStale_50 (tgt := 62) (by decide) ?_
        exact j_sub [1, 2, 3] rfl (jb_X2_countStale_62 K _ _ _ F rec4 hrec4 hr)
theorem jl_X2_countStale_4 {κ : JK} (K : jOk 4 cX2_countStale RX2 (some .int) 3 κ) (X : JX) {r : Int32} (F : jFin LX false (oI X r) κ) : ∀ (v1 : Int32) (v2 : Int32), l_X2_countStale_4 X v1 v2 = some r → J LX 4 κ X 4 [(0, .ref (jad κ (35))), (1, .int v1), (2, .int v2)] [] := by
  refine j_loop2 (P := fun v1 v2 => J LX 4 κ X 4 [(0, .ref (jad κ (35))), (1, .int v1), (2, .int v2)] []) (fun rec4 hrec4 v1 v2 hr => ?_) 1000
  unfold lb_X2_countStale_4 at hr
  refine j_iload_n K dX2_countStale_4 2 rfl ?_
  refine j_bipush K dX2_countStale_5 (v := 60) rfl ?_
  refine j_icmp_ge K dX2_countStale_7 (tgt := 71) (by decide) hr (fun hr => ?_) (fun hr => ?_)
  · refine j_iload_n K dX2_countStale_71 1 rfl ?_
    exact j_ireturn K dX2_countStale_72 rfl F hr rfl
  · refine j_aload_n K dX2_countStale_10 0 rfl ?_
    refine j_get K (v := .ref (jad κ (11))) fl_X2_44 rfl (Nat.le_of_ble_eq_true rfl) (by decide) rfl dX2_countStale_11 ?_
    refine j_iload_n K dX2_countStale_14 2 rfl ?_
    refine j_vO1 K (ci := 8) hr (fun v h => c_X8_above X v2 h) ml_X2_68 ⟨_, rfl, rfl⟩ rfl (Nat.le_of_ble_eq_true rfl) (by decide) rfl (by decide) (by decide) (Nat.le_of_ble_eq_true rfl) dX2_countStale_15 (fun h hr => ?_) (fun q2 h hr => ?_)
    · refine j_ifnullN K dX2_countStale_18 (tgt := 25) (by decide) ?_
      refine j_iconst K dX2_countStale_25 (v := 0) rfl ?_
      exact j_sub [0, 1, 2] rfl (jb_X2_countStale_26 K _ _ _ _ F rec4 hrec4 hr)
    · refine j_guard hr (fun hq2 hr => ?_)
      refine j_ifnull K dX2_countStale_18 ?_
      refine j_iconst K dX2_countStale_21 (v := 1) rfl ?_
      refine j_goto K dX2_countStale_22 (tgt := 26) (by decide) ?_
      exact j_sub [0, 1, 2] rfl (jb_X2_countStale_26 K _ _ _ _ F rec4 hrec4 hr)
theorem jf_X2_countStale {κ : JK} (K : jOk 4 cX2_countStale RX2 (some .int) 3 κ) (X : JX) {r : Int32} (F : jFin LX false (oI X r) κ) (hr : f_X2_countStale X = some r) : J LX 4 κ X 0 [(0, .ref (jad κ (35)))] [] := by
  unfold f_X2_countStale at hr
  refine j_iconst K dX2_countStale_0 (v := 0) rfl ?_
  refine j_istore_n K dX2_countStale_1 (by decide) ?_
  refine j_iconst K dX2_countStale_2 (v := 0) rfl ?_
  refine j_istore_n K dX2_countStale_3 (by decide) ?_
  exact j_sub [2, 1, 0] rfl (jl_X2_countStale_4 K _ F _ _ hr)
theorem c_X2_countStale (X : JX) {r : Int32} (hr : f_X2_countStale X = some r) : Cal LX yX2_countStale cX2_countStale 4 (some .int) 3 (fun ad => [.ref (ad (35))]) X (fun ad => oI X r) :=
  Cal.of (own := RX2) (fun ad => [(0, .ref (ad (35)))]) (by decide) rfl (fun _ => Nat.le_of_ble_eq_true rfl) (fun _ => rfl) (fun κ K F => jf_X2_countStale K X F hr)
theorem jf_X2_editionOf {κ : JK} (K : jOk 2 cX2_editionOf RX2 (some .int) 1 κ) (X : JX) (v1 : Int32) {r : Int32} (F : jFin LX false (oI X r) κ) (hr : f_X2_editionOf X v1 = some r) : J LX 2 κ X 0 [(0, .ref (jad κ (35))), (1, .int v1)] [] := by
  unfold f_X2_editionOf at hr
  refine j_aload_n K dX2_editionOf_0 0 rfl ?_
  refine j_iload_n K dX2_editionOf_1 1 rfl ?_
  refine j_vI1 K (ci := 2) hr (fun v h => c_X2_has X v1 h) ml_X2_48 ⟨_, rfl, rfl⟩ rfl (Nat.le_of_ble_eq_true rfl) (by decide) rfl (by decide) (by decide) (Nat.le_of_ble_eq_true rfl) dX2_editionOf_2 (fun t1 h hr => ?_)
  refine j_if_eq K dX2_editionOf_5 (tgt := 17) (by decide) hr (fun hr => ?_) (fun hr => ?_)
  · refine j_iconst K dX2_editionOf_17 (v := -1) rfl ?_
    exact j_ireturn K dX2_editionOf_18 rfl F hr rfl
  · refine j_aload_n K dX2_editionOf_8 0 rfl ?_
    refine j_get K (v := .ref (jad κ (39))) fl_X2_23 rfl (Nat.le_of_ble_eq_true rfl) (by decide) rfl dX2_editionOf_9 ?_
    refine j_iload_n K dX2_editionOf_12 1 rfl ?_
    refine j_iaload K (z := 60) rfl (Nat.le_of_ble_eq_true rfl) dX2_editionOf_13 hr (fun hr => ?_)
    refine j_goto K dX2_editionOf_14 (tgt := 18) (by decide) ?_
    exact j_ireturn K dX2_editionOf_18 rfl F hr rfl
theorem c_X2_editionOf (X : JX) (v1 : Int32) {r : Int32} (hr : f_X2_editionOf X v1 = some r) : Cal LX yX2_editionOf cX2_editionOf 2 (some .int) 1 (fun ad => [.ref (ad (35)), .int v1]) X (fun ad => oI X r) :=
  Cal.of (own := RX2) (fun ad => [(0, .ref (ad (35))), (1, .int v1)]) (by decide) rfl (fun _ => Nat.le_of_ble_eq_true rfl) (fun _ => rfl) (fun κ K F => jf_X2_editionOf K X v1 F hr)
theorem jl_X2_endWork_2 {κ : JK} (K : jOk 2 cX2_endWork RX2 none 0 κ) {r : JX} (F : jFin LX false (oU r) κ) : ∀ (X : JX) (v1 : Int32), l_X2_endWork_2 X v1 = some r → J LX 2 κ X 2 [(0, .ref (jad κ (35))), (1, .int v1)] [] := by
  refine j_loop2 (P := fun X v1 => J LX 2 κ X 2 [(0, .ref (jad κ (35))), (1, .int v1)] []) (fun rec2 hrec2 X v1 hr => ?_) 1000
  unfold lb_X2_endWork_2 at hr
  refine j_iload_n K dX2_endWork_2 1 rfl ?_
  refine j_bipush K dX2_endWork_3 (v := 60) rfl ?_
  refine j_icmp_ge K dX2_endWork_5 (tgt := 21) (by decide) hr (fun hr => ?_) (fun hr => ?_)
  · exact j_return K dX2_endWork_21 rfl F hr rfl
  · refine j_aload_n K dX2_endWork_8 0 rfl ?_
    refine j_get K (v := .ref (jad κ (42))) fl_X2_34 rfl (Nat.le_of_ble_eq_true rfl) (by decide) rfl dX2_endWork_9 ?_
    refine j_iload_n K dX2_endWork_12 1 rfl ?_
    refine j_iconst K dX2_endWork_13 (v := 0) rfl ?_
    refine j_bastoreV K (z := 60) rfl (Nat.le_of_ble_eq_true rfl) dX2_endWork_14 hr (fun X1 hr => ?_)
    refine j_iincV K dX2_endWork_15 (v := 1) 1 rfl rfl (by decide) hr (fun t2 hr => ?_)
    refine j_goto K dX2_endWork_18 (tgt := 2) (by decide) ?_
    exact j_sub [1, 0] rfl (hrec2 _ _ hr)
theorem jf_X2_endWork {κ : JK} (K : jOk 2 cX2_endWork RX2 none 0 κ) (X : JX) {r : JX} (F : jFin LX false (oU r) κ) (hr : f_X2_endWork X = some r) : J LX 2 κ X 0 [(0, .ref (jad κ (35)))] [] := by
  unfold f_X2_endWork at hr
  refine j_iconst K dX2_endWork_0 (v := 0) rfl ?_
  refine j_istore_n K dX2_endWork_1 (by decide) ?_
  exact j_sub [1, 0] rfl (jl_X2_endWork_2 K F _ _ hr)
theorem c_X2_endWork (X : JX) {r : JX} (hr : f_X2_endWork X = some r) : Cal LX yX2_endWork cX2_endWork 2 none 0 (fun ad => [.ref (ad (35))]) X (fun ad => oU r) :=
  Cal.of (own := RX2) (fun ad => [(0, .ref (ad (35)))]) (by decide) rfl (fun _ => Nat.le_of_ble_eq_true rfl) (fun _ => rfl) (fun κ K F => jf_X2_endWork K X F hr)
theorem jf_X2_hasGotEdition {κ : JK} (K : jOk 2 cX2_hasGotEdition RX2 (some .boolean) 0 κ) (X : JX) (v1 : Int32) {r : Int32} (F : jFin LX false (oI X r) κ) (hr : f_X2_hasGotEdition X v1 = some r) : J LX 2 κ X 0 [(0, .ref (jad κ (35))), (1, .int v1)] [] := by
  unfold f_X2_hasGotEdition at hr
  refine j_iload_n K dX2_hasGotEdition_0 1 rfl ?_
  refine j_if_lt K dX2_hasGotEdition_1 (tgt := 23) (by decide) hr (fun hr => ?_) (fun hr => ?_)
  · refine j_iconst K dX2_hasGotEdition_23 (v := 0) rfl ?_
    exact j_zreturn K dX2_hasGotEdition_24 rfl rfl F hr rfl
  · refine j_iload_n K dX2_hasGotEdition_4 1 rfl ?_
    refine j_bipush K dX2_hasGotEdition_5 (v := 60) rfl ?_
    refine j_icmp_ge K dX2_hasGotEdition_7 (tgt := 23) (by decide) hr (fun hr => ?_) (fun hr => ?_)
    · refine j_iconst K dX2_hasGotEdition_23 (v := 0) rfl ?_
      exact j_zreturn K dX2_hasGotEdition_24 rfl rfl F hr rfl
    · refine j_aload_n K dX2_hasGotEdition_10 0 rfl ?_
      refine j_get K (v := .ref (jad κ (42))) fl_X2_34 rfl (Nat.le_of_ble_eq_true rfl) (by decide) rfl dX2_hasGotEdition_11 ?_
      refine j_iload_n K dX2_hasGotEdition_14 1 rfl ?_
      refine j_baload K (z := 60) rfl (Nat.le_of_ble_eq_true rfl) dX2_hasGotEdition_15 hr (fun hr => ?_)
      refine j_if_eq K dX2_hasGotEdition_16 (tgt := 23) (by decide) hr (fun hr => ?_) (fun hr => ?_)
      · refine j_iconst K dX2_hasGotEdition_23 (v := 0) rfl ?_
        exact j_zreturn K dX2_hasGotEdition_24 rfl rfl F hr rfl
      · refine j_iconst K dX2_hasGotEdition_19 (v := 1) rfl ?_
        refine j_goto K dX2_hasGotEdition_20 (tgt := 24) (by decide) ?_
        exact j_zreturn K dX2_hasGotEdition_24 rfl rfl F hr rfl
theorem c_X2_hasGotEdition (X : JX) (v1 : Int32) {r : Int32} (hr : f_X2_hasGotEdition X v1 = some r) : Cal LX yX2_hasGotEdition cX2_hasGotEdition 2 (some .boolean) 0 (fun ad => [.ref (ad (35)), .int v1]) X (fun ad => oI X r) :=
  Cal.of (own := RX2) (fun ad => [(0, .ref (ad (35))), (1, .int v1)]) (by decide) rfl (fun _ => Nat.le_of_ble_eq_true rfl) (fun _ => rfl) (fun κ K F => jf_X2_hasGotEdition K X v1 F hr)
theorem jl_X2_isBelow_5 {κ : JK} (K : jOk 6 cX2_isBelow RX2 (some .boolean) 1 κ) (X : JX) (v2 : Int32) {r : Int32} (F : jFin LX false (oI X r) κ) : ∀ (v3 : Int32) (v4 : Int32), l_X2_isBelow_5 X v2 v3 v4 = some r → J LX 6 κ X 5 [(0, .ref (jad κ (35))), (2, .int v2), (3, .int v3), (4, .int v4)] [] := by
  refine j_loop2 (P := fun v3 v4 => J LX 6 κ X 5 [(0, .ref (jad κ (35))), (2, .int v2), (3, .int v3), (4, .int v4)] []) (fun rec5 hrec5 v3 v4 hr => ?_) 1000
  unfold lb_X2_isBelow_5 at hr
  refine j_iload K dX2_isBelow_5 3 rfl ?_
  refine j_bipush K dX2_isBelow_7 (v := 60) rfl ?_
  refine j_icmp_ge K dX2_isBelow_9 (tgt := 59) (by decide) hr (fun hr => ?_) (fun hr => ?_)
  · refine j_iconst K dX2_isBelow_59 (v := 0) rfl ?_
    exact j_zreturn K dX2_isBelow_60 rfl rfl F hr rfl
  · refine j_aload_n K dX2_isBelow_12 0 rfl ?_
    refine j_iload_n K dX2_isBelow_13 2 rfl ?_
    refine j_vI1 K (ci := 2) hr (fun v h => c_X2_has X v3 h) ml_X2_48 ⟨_, rfl, rfl⟩ rfl (Nat.le_of_ble_eq_true rfl) (by decide) rfl (by decide) (by decide) (Nat.le_of_ble_eq_true rfl) dX2_isBelow_14 (fun t1 h hr => ?_)
    refine j_if_eq K dX2_isBelow_17 (tgt := 59) (by decide) hr (fun hr => ?_) (fun hr => ?_)
    · refine j_iconst K dX2_isBelow_59 (v := 0) rfl ?_
      exact j_zreturn K dX2_isBelow_60 rfl rfl F hr rfl
    · refine j_aload_n K dX2_isBelow_20 0 rfl ?_
      refine j_get K (v := .ref (jad κ (37))) fl_X2_15 rfl (Nat.le_of_ble_eq_true rfl) (by decide) rfl dX2_isBelow_21 ?_
      refine j_iload_n K dX2_isBelow_24 2 rfl ?_
      refine j_iaload K (z := 60) rfl (Nat.le_of_ble_eq_true rfl) dX2_isBelow_25 hr (fun hr => ?_)
      refine j_istoreV K dX2_isBelow_26 (by decide) hr (fun t2 hr => ?_)
      refine j_iload K dX2_isBelow_28 0 rfl ?_
      refine j_iload_n K dX2_isBelow_30 2 rfl ?_
      refine j_icmp_ne K dX2_isBelow_31 (tgt := 36) (by decide) hr (fun hr => ?_) (fun hr => ?_)
      · refine j_aload_n K dX2_isBelow_36 1 rfl ?_
        refine j_get K (v := .ref (jad κ (11))) fl_X2_44 rfl (Nat.le_of_ble_eq_true rfl) (by decide) rfl dX2_isBelow_37 ?_
        refine j_iload K dX2_isBelow_40 0 rfl ?_
        refine j_vO1 K (ci := 8) hr (fun v h => c_X8_find X t2 h) ml_X2_77 ⟨_, rfl, rfl⟩ rfl (Nat.le_of_ble_eq_true rfl) (by decide) rfl (by decide) (by decide) (Nat.le_of_ble_eq_true rfl) dX2_isBelow_42 (fun h hr => ?_) (fun q4 h hr => ?_)
        · refine j_ifnullN K dX2_isBelow_45 (tgt := 50) (by decide) ?_
          refine j_iload K dX2_isBelow_50 0 rfl ?_
          refine j_istore_n K dX2_isBelow_52 (by decide) ?_
          refine j_iincV K dX2_isBelow_53 (v := 1) 4 rfl rfl (by decide) hr (fun t5 hr => ?_)
          refine j_goto K dX2_isBelow_56 (tgt := 5) (by decide) ?_
          exact j_sub [3, 4, 1, 0] rfl (hrec5 _ _ hr)
        · refine j_guard hr (fun hq4 hr => ?_)
          refine j_ifnull K dX2_isBelow_45 ?_
          refine j_iconst K dX2_isBelow_48 (v := 0) rfl ?_
          exact j_zreturn K dX2_isBelow_49 rfl rfl F hr rfl
      · refine j_iconst K dX2_isBelow_34 (v := 1) rfl ?_
        exact j_zreturn K dX2_isBelow_35 rfl rfl F hr rfl
theorem jf_X2_isBelow {κ : JK} (K : jOk 6 cX2_isBelow RX2 (some .boolean) 1 κ) (X : JX) (v1 : Int32) (v2 : Int32) {r : Int32} (F : jFin LX false (oI X r) κ) (hr : f_X2_isBelow X v1 v2 = some r) : J LX 6 κ X 0 [(0, .ref (jad κ (35))), (1, .int v1), (2, .int v2)] [] := by
  unfold f_X2_isBelow at hr
  refine j_iload_n K dX2_isBelow_0 1 rfl ?_
  refine j_istore_n K dX2_isBelow_1 (by decide) ?_
  refine j_iconst K dX2_isBelow_2 (v := 0) rfl ?_
  refine j_istore K dX2_isBelow_3 (by decide) ?_
  exact j_sub [2, 4, 1, 0] rfl (jl_X2_isBelow_5 K _ _ F _ _ hr)
theorem c_X2_isBelow (X : JX) (v1 : Int32) (v2 : Int32) {r : Int32} (hr : f_X2_isBelow X v1 v2 = some r) : Cal LX yX2_isBelow cX2_isBelow 6 (some .boolean) 1 (fun ad => [.ref (ad (35)), .int v1, .int v2]) X (fun ad => oI X r) :=
  Cal.of (own := RX2) (fun ad => [(0, .ref (ad (35))), (1, .int v1), (2, .int v2)]) (by decide) rfl (fun _ => Nat.le_of_ble_eq_true rfl) (fun _ => rfl) (fun κ K F => jf_X2_isBelow K X v1 v2 F hr)
theorem jf_X2_keepEdition {κ : JK} (K : jOk 3 cX2_keepEdition RX2 none 1 κ) (X : JX) (v1 : Int32) (v2 : Int32) {r : JX} (F : jFin LX false (oU r) κ) (hr : f_X2_keepEdition X v1 v2 = some r) : J LX 3 κ X 0 [(0, .ref (jad κ (35))), (1, .int v1), (2, .int v2)] [] := by
  unfold f_X2_keepEdition at hr
  refine j_iload_n K dX2_keepEdition_0 1 rfl ?_
  refine j_if_lt K dX2_keepEdition_1 (tgt := 38) (by decide) hr (fun hr => ?_) (fun hr => ?_)
  · exact j_return K dX2_keepEdition_38 rfl F hr rfl
  · refine j_iload_n K dX2_keepEdition_4 1 rfl ?_
    refine j_bipush K dX2_keepEdition_5 (v := 60) rfl ?_
    refine j_icmp_ge K dX2_keepEdition_7 (tgt := 38) (by decide) hr (fun hr => ?_) (fun hr => ?_)
    · exact j_return K dX2_keepEdition_38 rfl F hr rfl
    · refine j_aload_n K dX2_keepEdition_10 0 rfl ?_
      refine j_get K (v := .ref (jad κ (39))) fl_X2_23 rfl (Nat.le_of_ble_eq_true rfl) (by decide) rfl dX2_keepEdition_11 ?_
      refine j_iload_n K dX2_keepEdition_14 1 rfl ?_
      refine j_aload_n K dX2_keepEdition_15 0 rfl ?_
      refine j_get K (v := .ref (jad κ (1))) fl_X2_40 rfl (Nat.le_of_ble_eq_true rfl) (by decide) rfl dX2_keepEdition_16 ?_
      refine j_iload_n K dX2_keepEdition_19 1 rfl ?_
      refine j_vI1 K (ci := 9) hr (fun v h => c_X9_editionOf X v1 h) ml_X2_65 ⟨_, rfl, rfl⟩ rfl (Nat.le_of_ble_eq_true rfl) (by decide) rfl (by decide) (by decide) (Nat.le_of_ble_eq_true rfl) dX2_keepEdition_20 (fun t1 h hr => ?_)
      refine j_iastoreV K (z := 60) rfl (Nat.le_of_ble_eq_true rfl) dX2_keepEdition_23 hr (fun X2 hr => ?_)
      refine j_aload_n K dX2_keepEdition_24 0 rfl ?_
      refine j_get K (v := .ref (jad κ (40))) fl_X2_26 rfl (Nat.le_of_ble_eq_true rfl) (by decide) rfl dX2_keepEdition_25 ?_
      refine j_iload_n K dX2_keepEdition_28 1 rfl ?_
      refine j_iload_n K dX2_keepEdition_29 2 rfl ?_
      refine j_iastoreV K (z := 60) rfl (Nat.le_of_ble_eq_true rfl) dX2_keepEdition_30 hr (fun X3 hr => ?_)
      refine j_aload_n K dX2_keepEdition_31 0 rfl ?_
      refine j_get K (v := .ref (jad κ (42))) fl_X2_34 rfl (Nat.le_of_ble_eq_true rfl) (by decide) rfl dX2_keepEdition_32 ?_
      refine j_iload_n K dX2_keepEdition_35 1 rfl ?_
      refine j_iconst K dX2_keepEdition_36 (v := 1) rfl ?_
      refine j_bastoreV K (z := 60) rfl (Nat.le_of_ble_eq_true rfl) dX2_keepEdition_37 hr (fun X4 hr => ?_)
      exact j_return K dX2_keepEdition_38 rfl F hr rfl
theorem c_X2_keepEdition (X : JX) (v1 : Int32) (v2 : Int32) {r : JX} (hr : f_X2_keepEdition X v1 v2 = some r) : Cal LX yX2_keepEdition cX2_keepEdition 3 none 1 (fun ad => [.ref (ad (35)), .int v1, .int v2]) X (fun ad => oU r) :=
  Cal.of (own := RX2) (fun ad => [(0, .ref (ad (35))), (1, .int v1), (2, .int v2)]) (by decide) rfl (fun _ => Nat.le_of_ble_eq_true rfl) (fun _ => rfl) (fun κ K F => jf_X2_keepEdition K X v1 v2 F hr)
theorem jf_X2_keepPlace {κ : JK} (K : jOk 2 cX2_keepPlace RX2 none 1 κ) (X : JX) (v1 : Int32) {r : JX} (F : jFin LX false (oU r) κ) (hr : f_X2_keepPlace X v1 = some r) : J LX 2 κ X 0 [(0, .ref (jad κ (35))), (1, .int v1)] [] := by
  unfold f_X2_keepPlace at hr
  refine j_iload_n K dX2_keepPlace_0 1 rfl ?_
  refine j_if_lt K dX2_keepPlace_1 (tgt := 45) (by decide) hr (fun hr => ?_) (fun hr => ?_)
  · exact j_return K dX2_keepPlace_45 rfl F hr rfl
  · refine j_iload_n K dX2_keepPlace_4 1 rfl ?_
    refine j_bipush K dX2_keepPlace_5 (v := 60) rfl ?_
    refine j_icmp_ge K dX2_keepPlace_7 (tgt := 45) (by decide) hr (fun hr => ?_) (fun hr => ?_)
    · exact j_return K dX2_keepPlace_45 rfl F hr rfl
    · refine j_aload_n K dX2_keepPlace_10 0 rfl ?_
      refine j_get K (v := .ref (jad κ (36))) fl_X2_9 rfl (Nat.le_of_ble_eq_true rfl) (by decide) rfl dX2_keepPlace_11 ?_
      refine j_iload_n K dX2_keepPlace_14 1 rfl ?_
      refine j_iconst K dX2_keepPlace_15 (v := 1) rfl ?_
      refine j_bastoreV K (z := 60) rfl (Nat.le_of_ble_eq_true rfl) dX2_keepPlace_16 hr (fun X1 hr => ?_)
      refine j_aload_n K dX2_keepPlace_17 0 rfl ?_
      refine j_get K (v := .ref (jad κ (37))) fl_X2_15 rfl (Nat.le_of_ble_eq_true rfl) (by decide) rfl dX2_keepPlace_18 ?_
      refine j_iload_n K dX2_keepPlace_21 1 rfl ?_
      refine j_aload_n K dX2_keepPlace_22 0 rfl ?_
      refine j_get K (v := .ref (jad κ (1))) fl_X2_40 rfl (Nat.le_of_ble_eq_true rfl) (by decide) rfl dX2_keepPlace_23 ?_
      refine j_iload_n K dX2_keepPlace_26 1 rfl ?_
      refine j_vI1 K (ci := 9) hr (fun v h => c_X9_parentOf X1 v1 h) ml_X2_52 ⟨_, rfl, rfl⟩ rfl (Nat.le_of_ble_eq_true rfl) (by decide) rfl (by decide) (by decide) (Nat.le_of_ble_eq_true rfl) dX2_keepPlace_27 (fun t2 h hr => ?_)
      refine j_iastoreV K (z := 60) rfl (Nat.le_of_ble_eq_true rfl) dX2_keepPlace_30 hr (fun X3 hr => ?_)
      refine j_aload_n K dX2_keepPlace_31 0 rfl ?_
      refine j_get K (v := .ref (jad κ (38))) fl_X2_19 rfl (Nat.le_of_ble_eq_true rfl) (by decide) rfl dX2_keepPlace_32 ?_
      refine j_iload_n K dX2_keepPlace_35 1 rfl ?_
      refine j_aload_n K dX2_keepPlace_36 0 rfl ?_
      refine j_get K (v := .ref (jad κ (1))) fl_X2_40 rfl (Nat.le_of_ble_eq_true rfl) (by decide) rfl dX2_keepPlace_37 ?_
      refine j_iload_n K dX2_keepPlace_40 1 rfl ?_
      refine j_vI1 K (ci := 9) hr (fun v h => c_X9_nameOf X3 v1 h) ml_X2_58 ⟨_, rfl, rfl⟩ rfl (Nat.le_of_ble_eq_true rfl) (by decide) rfl (by decide) (by decide) (Nat.le_of_ble_eq_true rfl) dX2_keepPlace_41 (fun t4 h hr => ?_)
      refine j_castoreV K (z := 60) rfl (Nat.le_of_ble_eq_true rfl) dX2_keepPlace_44 hr (fun X5 hr => ?_)
      exact j_return K dX2_keepPlace_45 rfl F hr rfl
theorem c_X2_keepPlace (X : JX) (v1 : Int32) {r : JX} (hr : f_X2_keepPlace X v1 = some r) : Cal LX yX2_keepPlace cX2_keepPlace 2 none 1 (fun ad => [.ref (ad (35)), .int v1]) X (fun ad => oU r) :=
  Cal.of (own := RX2) (fun ad => [(0, .ref (ad (35))), (1, .int v1)]) (by decide) rfl (fun _ => Nat.le_of_ble_eq_true rfl) (fun _ => rfl) (fun κ K F => jf_X2_keepPlace K X v1 F hr)
theorem jf_X2_lengthOf {κ : JK} (K : jOk 2 cX2_lengthOf RX2 (some .int) 1 κ) (X : JX) (v1 : Int32) {r : Int32} (F : jFin LX false (oI X r) κ) (hr : f_X2_lengthOf X v1 = some r) : J LX 2 κ X 0 [(0, .ref (jad κ (35))), (1, .int v1)] [] := by
  unfold f_X2_lengthOf at hr
  refine j_aload_n K dX2_lengthOf_0 0 rfl ?_
  refine j_iload_n K dX2_lengthOf_1 1 rfl ?_
  refine j_vI1 K (ci := 2) hr (fun v h => c_X2_has X v1 h) ml_X2_48 ⟨_, rfl, rfl⟩ rfl (Nat.le_of_ble_eq_true rfl) (by decide) rfl (by decide) (by decide) (Nat.le_of_ble_eq_true rfl) dX2_lengthOf_2 (fun t1 h hr => ?_)
  refine j_if_eq K dX2_lengthOf_5 (tgt := 17) (by decide) hr (fun hr => ?_) (fun hr => ?_)
  · refine j_iconst K dX2_lengthOf_17 (v := 0) rfl ?_
    exact j_ireturn K dX2_lengthOf_18 rfl F hr rfl
  · refine j_aload_n K dX2_lengthOf_8 0 rfl ?_
    refine j_get K (v := .ref (jad κ (40))) fl_X2_26 rfl (Nat.le_of_ble_eq_true rfl) (by decide) rfl dX2_lengthOf_9 ?_
    refine j_iload_n K dX2_lengthOf_12 1 rfl ?_
    refine j_iaload K (z := 60) rfl (Nat.le_of_ble_eq_true rfl) dX2_lengthOf_13 hr (fun hr => ?_)
    refine j_goto K dX2_lengthOf_14 (tgt := 18) (by decide) ?_
    exact j_ireturn K dX2_lengthOf_18 rfl F hr rfl
theorem c_X2_lengthOf (X : JX) (v1 : Int32) {r : Int32} (hr : f_X2_lengthOf X v1 = some r) : Cal LX yX2_lengthOf cX2_lengthOf 2 (some .int) 1 (fun ad => [.ref (ad (35)), .int v1]) X (fun ad => oI X r) :=
  Cal.of (own := RX2) (fun ad => [(0, .ref (ad (35))), (1, .int v1)]) (by decide) rfl (fun _ => Nat.le_of_ble_eq_true rfl) (fun _ => rfl) (fun κ K F => jf_X2_lengthOf K X v1 F hr)
theorem jb_X2_takeAway_91 {κ : JK} (K : jOk 4 cX2_takeAway RX2 none 2 κ) (X : JX) (v3 : Int32) {r : JX} (F : jFin LX false (oU r) κ) (rec62 : JX → Int32 → Option JX) (hrec62 : ∀ (X : JX) (v3 : Int32), rec62 X v3 = some r → J LX 4 κ X 62 [(0, .ref (jad κ (35))), (3, .int v3)] []) (hr : b_X2_takeAway_91 rec62 X v3 = some r) : J LX 4 κ X 91 [(0, .ref (jad κ (35))), (3, .int v3)] [] := by
  unfold b_X2_takeAway_91 at hr
  refine j_iincV K dX2_takeAway_91 (v := 1) 1 rfl rfl (by decide) hr (fun t8 hr => ?_)
  refine j_goto K dX2_takeAway_94 (tgt := 62) (by decide) ?_
  exact j_sub [1, 0] rfl (hrec62 _ _ hr)
theorem jl_X2_takeAway_62 {κ : JK} (K : jOk 4 cX2_takeAway RX2 none 2 κ) {r : JX} (F : jFin LX false (oU r) κ) : ∀ (X : JX) (v3 : Int32), l_X2_takeAway_62 X v3 = some r → J LX 4 κ X 62 [(0, .ref (jad κ (35))), (3, .int v3)] [] := by
  refine j_loop2 (P := fun X v3 => J LX 4 κ X 62 [(0, .ref (jad κ (35))), (3, .int v3)] []) (fun rec62 hrec62 X v3 hr => ?_) 1000
  unfold lb_X2_takeAway_62 at hr
  refine j_iload_n K dX2_takeAway_62 1 rfl ?_
  refine j_bipush K dX2_takeAway_63 (v := 60) rfl ?_
  refine j_icmp_ge K dX2_takeAway_65 (tgt := 97) (by decide) hr (fun hr => ?_) (fun hr => ?_)
  · exact j_return K dX2_takeAway_97 rfl F hr rfl
  · refine j_aload_n K dX2_takeAway_68 0 rfl ?_
    refine j_get K (v := .ref (jad κ (43))) fl_X2_37 rfl (Nat.le_of_ble_eq_true rfl) (by decide) rfl dX2_takeAway_69 ?_
    refine j_iload_n K dX2_takeAway_72 1 rfl ?_
    refine j_baload K (z := 60) rfl (Nat.le_of_ble_eq_true rfl) dX2_takeAway_73 hr (fun hr => ?_)
    refine j_if_eq K dX2_takeAway_74 (tgt := 91) (by decide) hr (fun hr => ?_) (fun hr => ?_)
    · exact j_sub [0, 1] rfl (jb_X2_takeAway_91 K _ _ F rec62 hrec62 hr)
    · refine j_aload_n K dX2_takeAway_77 0 rfl ?_
      refine j_get K (v := .ref (jad κ (36))) fl_X2_9 rfl (Nat.le_of_ble_eq_true rfl) (by decide) rfl dX2_takeAway_78 ?_
      refine j_iload_n K dX2_takeAway_81 1 rfl ?_
      refine j_iconst K dX2_takeAway_82 (v := 0) rfl ?_
      refine j_bastoreV K (z := 60) rfl (Nat.le_of_ble_eq_true rfl) dX2_takeAway_83 hr (fun X4 hr => ?_)
      refine j_aload_n K dX2_takeAway_84 0 rfl ?_
      refine j_get K (v := .ref (jad κ (42))) fl_X2_34 rfl (Nat.le_of_ble_eq_true rfl) (by decide) rfl dX2_takeAway_85 ?_
      refine j_iload_n K dX2_takeAway_88 1 rfl ?_
      refine j_iconst K dX2_takeAway_89 (v := 0) rfl ?_
      refine j_bastoreV K (z := 60) rfl (Nat.le_of_ble_eq_true rfl) dX2_takeAway_90 hr (fun X5 hr => ?_)
      exact j_sub [0, 1] rfl (jb_X2_takeAway_91 K _ _ F rec62 hrec62 hr)
theorem jb_X2_takeAway_53 {κ : JK} (K : jOk 4 cX2_takeAway RX2 none 2 κ) (X : JX) (v1 : Int32) (v2 : Int32) (v3 : Int32) (s0 : Int32) (s1 : Int32) {r : JX} (F : jFin LX false (oU r) κ) (rec19 : JX → Int32 → Option JX) (hrec19 : ∀ (X : JX) (v3 : Int32), rec19 X v3 = some r → J LX 4 κ X 19 [(0, .ref (jad κ (35))), (1, .int v1), (2, .int v2), (3, .int v3)] []) (hr : b_X2_takeAway_53 rec19 X v1 v2 v3 s0 s1 = some r) : J LX 4 κ X 53 [(0, .ref (jad κ (35))), (1, .int v1), (2, .int v2), (3, .int v3)] [.int s0, .int s1, .ref (jad κ (43))] := by
  unfold b_X2_takeAway_53 at hr
  refine j_bastoreV K (z := 60) rfl (Nat.le_of_ble_eq_true rfl) dX2_takeAway_53 hr (fun X6 hr => ?_)
  refine j_iincV K dX2_takeAway_54 (v := 1) 3 rfl rfl (by decide) hr (fun t7 hr => ?_)
  refine j_goto K dX2_takeAway_57 (tgt := 19) (by decide) ?_
  exact j_sub [1, 2, 3, 0] rfl (hrec19 _ _ hr)
theorem jl_X2_takeAway_19 {κ : JK} (K : jOk 4 cX2_takeAway RX2 none 2 κ) (v1 : Int32) (v2 : Int32) {r : JX} (F : jFin LX false (oU r) κ) : ∀ (X : JX) (v3 : Int32), l_X2_takeAway_19 v1 v2 X v3 = some r → J LX 4 κ X 19 [(0, .ref (jad κ (35))), (1, .int v1), (2, .int v2), (3, .int v3)] [] := by
  refine j_loop2 (P := fun X v3 => J LX 4 κ X 19 [(0, .ref (jad κ (35))), (1, .int v1), (2, .int v2), (3, .int v3)] []) (fun rec19 hrec19 X v3 hr => ?_) 1000
  unfold lb_X2_takeAway_19 at hr
  refine j_iload_n K dX2_takeAway_19 3 rfl ?_
  refine j_bipush K dX2_takeAway_20 (v := 60) rfl ?_
  refine j_icmp_ge K dX2_takeAway_22 (tgt := 60) (by decide) hr (fun hr => ?_) (fun hr => ?_)
  · refine j_iconst K dX2_takeAway_60 (v := 0) rfl ?_
    refine j_istore_n K dX2_takeAway_61 (by decide) ?_
    exact j_sub [1, 0] rfl (jl_X2_takeAway_62 K F _ _ hr)
  · refine j_aload_n K dX2_takeAway_25 0 rfl ?_
    refine j_get K (v := .ref (jad κ (43))) fl_X2_37 rfl (Nat.le_of_ble_eq_true rfl) (by decide) rfl dX2_takeAway_26 ?_
    refine j_iload_n K dX2_takeAway_29 3 rfl ?_
    refine j_iload_n K dX2_takeAway_30 3 rfl ?_
    refine j_iload_n K dX2_takeAway_31 1 rfl ?_
    refine j_icmp_eq K dX2_takeAway_32 (tgt := 48) (by decide) hr (fun hr => ?_) (fun hr => ?_)
    · refine j_iconst K dX2_takeAway_48 (v := 1) rfl ?_
      refine j_goto K dX2_takeAway_49 (tgt := 53) (by decide) ?_
      exact j_sub [0, 1, 2, 3] rfl (jb_X2_takeAway_53 K _ _ _ _ _ _ F rec19 hrec19 hr)
    · refine j_iload_n K dX2_takeAway_35 2 rfl ?_
      refine j_if_ne K dX2_takeAway_36 (tgt := 52) (by decide) hr (fun hr => ?_) (fun hr => ?_)
      · refine j_iconst K dX2_takeAway_52 (v := 0) rfl ?_
        exact j_sub [0, 1, 2, 3] rfl (jb_X2_takeAway_53 K _ _ _ _ _ _ F rec19 hrec19 hr)
      · refine j_aload_n K dX2_takeAway_39 0 rfl ?_
        refine j_iload_n K dX2_takeAway_40 3 rfl ?_
        refine j_iload_n K dX2_takeAway_41 1 rfl ?_
        refine j_vI2 K (ci := 2) hr (fun v h => c_X2_isBelow X v3 v1 h) ml_X2_80 ⟨_, rfl, rfl⟩ rfl (Nat.le_of_ble_eq_true rfl) (by decide) rfl (by decide) (by decide) (Nat.le_of_ble_eq_true rfl) dX2_takeAway_42 (fun t3 h hr => ?_)
        refine j_if_eq K dX2_takeAway_45 (tgt := 52) (by decide) hr (fun hr => ?_) (fun hr => ?_)
        · refine j_iconst K dX2_takeAway_52 (v := 0) rfl ?_
          exact j_sub [0, 1, 2, 3] rfl (jb_X2_takeAway_53 K _ _ _ _ _ _ F rec19 hrec19 hr)
        · refine j_iconst K dX2_takeAway_48 (v := 1) rfl ?_
          refine j_goto K dX2_takeAway_49 (tgt := 53) (by decide) ?_
          exact j_sub [0, 1, 2, 3] rfl (jb_X2_takeAway_53 K _ _ _ _ _ _ F rec19 hrec19 hr)
theorem jb_X2_takeAway_16 {κ : JK} (K : jOk 4 cX2_takeAway RX2 none 2 κ) (X : JX) (v1 : Int32) (s0 : Int32) {r : JX} (F : jFin LX false (oU r) κ) (hr : b_X2_takeAway_16 X v1 s0 = some r) : J LX 4 κ X 16 [(0, .ref (jad κ (35))), (1, .int v1)] [.int s0] := by
  unfold b_X2_takeAway_16 at hr
  refine j_istore_n K dX2_takeAway_16 (by decide) ?_
  refine j_iconst K dX2_takeAway_17 (v := 0) rfl ?_
  refine j_istore_n K dX2_takeAway_18 (by decide) ?_
  exact j_sub [2, 3, 1, 0] rfl (jl_X2_takeAway_19 K _ _ F _ _ hr)
theorem jf_X2_takeAway {κ : JK} (K : jOk 4 cX2_takeAway RX2 none 2 κ) (X : JX) (v1 : Int32) {r : JX} (F : jFin LX false (oU r) κ) (hr : f_X2_takeAway X v1 = some r) : J LX 4 κ X 0 [(0, .ref (jad κ (35))), (1, .int v1)] [] := by
  unfold f_X2_takeAway at hr
  refine j_aload_n K dX2_takeAway_0 0 rfl ?_
  refine j_get K (v := .ref (jad κ (11))) fl_X2_44 rfl (Nat.le_of_ble_eq_true rfl) (by decide) rfl dX2_takeAway_1 ?_
  refine j_iload_n K dX2_takeAway_4 1 rfl ?_
  refine j_vO1 K (ci := 8) hr (fun v h => c_X8_find X v1 h) ml_X2_77 ⟨_, rfl, rfl⟩ rfl (Nat.le_of_ble_eq_true rfl) (by decide) rfl (by decide) (by decide) (Nat.le_of_ble_eq_true rfl) dX2_takeAway_5 (fun h hr => ?_) (fun q2 h hr => ?_)
  · refine j_ifnullN K dX2_takeAway_8 (tgt := 15) (by decide) ?_
    refine j_iconst K dX2_takeAway_15 (v := 0) rfl ?_
    exact j_sub [0, 1] rfl (jb_X2_takeAway_16 K _ _ _ F hr)
  · refine j_guard hr (fun hq2 hr => ?_)
    refine j_ifnull K dX2_takeAway_8 ?_
    refine j_iconst K dX2_takeAway_11 (v := 1) rfl ?_
    refine j_goto K dX2_takeAway_12 (tgt := 16) (by decide) ?_
    exact j_sub [0, 1] rfl (jb_X2_takeAway_16 K _ _ _ F hr)
theorem c_X2_takeAway (X : JX) (v1 : Int32) {r : JX} (hr : f_X2_takeAway X v1 = some r) : Cal LX yX2_takeAway cX2_takeAway 4 none 2 (fun ad => [.ref (ad (35)), .int v1]) X (fun ad => oU r) :=
  Cal.of (own := RX2) (fun ad => [(0, .ref (ad (35))), (1, .int v1)]) (by decide) rfl (fun _ => Nat.le_of_ble_eq_true rfl) (fun _ => rfl) (fun κ K F => jf_X2_takeAway K X v1 F hr)
theorem jf_X2_wordsOf {κ : JK} (K : jOk 2 cX2_wordsOf RX2 (some (.array .int)) 0 κ) (X : JX) (v1 : Int32) {r : Nat} (F : jFin LX false (oR (jad κ) X r) κ) (hr : f_X2_wordsOf X v1 = some r) : J LX 2 κ X 0 [(0, .ref (jad κ (35))), (1, .int v1)] [] := by
  unfold f_X2_wordsOf at hr
  refine j_aload_n K dX2_wordsOf_0 0 rfl ?_
  refine j_get K (v := .ref (jad κ (41))) fl_X2_31 rfl (Nat.le_of_ble_eq_true rfl) (by decide) rfl dX2_wordsOf_1 ?_
  refine j_iload_n K dX2_wordsOf_4 1 rfl ?_
  refine j_if_lt K dX2_wordsOf_5 (tgt := 18) (by decide) hr (fun hr => ?_) (fun hr => ?_)
  · refine j_iconst K dX2_wordsOf_18 (v := 0) rfl ?_
    refine j_aaload4V K (b := 116) (z := 60) rfl (Nat.le_of_ble_eq_true rfl) dX2_wordsOf_19 hr (fun q1 hq1 hr => ?_)
    exact j_areturn K dX2_wordsOf_20 rfl (Or.inr ⟨_, rfl⟩) F hr rfl
  · refine j_iload_n K dX2_wordsOf_8 1 rfl ?_
    refine j_bipush K dX2_wordsOf_9 (v := 60) rfl ?_
    refine j_icmp_ge K dX2_wordsOf_11 (tgt := 18) (by decide) hr (fun hr => ?_) (fun hr => ?_)
    · refine j_iconst K dX2_wordsOf_18 (v := 0) rfl ?_
      refine j_aaload4V K (b := 116) (z := 60) rfl (Nat.le_of_ble_eq_true rfl) dX2_wordsOf_19 hr (fun q2 hq2 hr => ?_)
      exact j_areturn K dX2_wordsOf_20 rfl (Or.inr ⟨_, rfl⟩) F hr rfl
    · refine j_iload_n K dX2_wordsOf_14 1 rfl ?_
      refine j_goto K dX2_wordsOf_15 (tgt := 19) (by decide) ?_
      refine j_aaload4V K (b := 116) (z := 60) rfl (Nat.le_of_ble_eq_true rfl) dX2_wordsOf_19 hr (fun q3 hq3 hr => ?_)
      exact j_areturn K dX2_wordsOf_20 rfl (Or.inr ⟨_, rfl⟩) F hr rfl
theorem c_X2_wordsOf (X : JX) (v1 : Int32) {r : Nat} (hr : f_X2_wordsOf X v1 = some r) : Cal LX yX2_wordsOf cX2_wordsOf 2 (some (.array .int)) 0 (fun ad => [.ref (ad (35)), .int v1]) X (fun ad => oR ad X r) :=
  Cal.of (own := RX2) (fun ad => [(0, .ref (ad (35))), (1, .int v1)]) (by decide) rfl (fun _ => Nat.le_of_ble_eq_true rfl) (fun _ => rfl) (fun κ K F => jf_X2_wordsOf K X v1 F hr)
theorem jb_X3_addSegment_75 {κ : JK} (K : jOk 3 cX3_addSegment RX3 none 1 κ) (X : JX) (v2 : Int32) {r : JX} (F : jFin LX false (oU r) κ) (rec38 : JX → Int32 → Option JX) (hrec38 : ∀ (X : JX) (v2 : Int32), rec38 X v2 = some r → J LX 3 κ X 38 [(0, .ref (jad κ (49))), (1, .ref (jad κ (35))), (2, .int v2)] []) (hr : b_X3_addSegment_75 rec38 X v2 = some r) : J LX 3 κ X 75 [(0, .ref (jad κ (49))), (1, .ref (jad κ (35))), (2, .int v2)] [] := by
  unfold b_X3_addSegment_75 at hr
  refine j_iincV K dX3_addSegment_75 (v := 1) 2 rfl rfl (by decide) hr (fun t7 hr => ?_)
  refine j_goto K dX3_addSegment_78 (tgt := 38) (by decide) ?_
  exact j_sub [1, 2, 0] rfl (hrec38 _ _ hr)
theorem jl_X3_addSegment_38 {κ : JK} (K : jOk 3 cX3_addSegment RX3 none 1 κ) {r : JX} (F : jFin LX false (oU r) κ) : ∀ (X : JX) (v2 : Int32), l_X3_addSegment_38 X v2 = some r → J LX 3 κ X 38 [(0, .ref (jad κ (49))), (1, .ref (jad κ (35))), (2, .int v2)] [] := by
  refine j_loop2 (P := fun X v2 => J LX 3 κ X 38 [(0, .ref (jad κ (49))), (1, .ref (jad κ (35))), (2, .int v2)] []) (fun rec38 hrec38 X v2 hr => ?_) 1000
  unfold lb_X3_addSegment_38 at hr
  refine j_iload_n K dX3_addSegment_38 2 rfl ?_
  refine j_bipush K dX3_addSegment_39 (v := 60) rfl ?_
  refine j_icmp_ge K dX3_addSegment_41 (tgt := 81) (by decide) hr (fun hr => ?_) (fun hr => ?_)
  · refine j_aload_n K dX3_addSegment_81 0 rfl ?_
    refine j_dup K dX3_addSegment_82 rfl ?_
    refine j_get K (v := .int (X (49) 3)) fl_X3_21 rfl (Nat.le_of_ble_eq_true rfl) (by decide) rfl dX3_addSegment_83 ?_
    refine j_iconst K dX3_addSegment_86 (v := 1) rfl ?_
    refine j_iadd K dX3_addSegment_87 ?_
    refine j_putiV K fp_X3_21 rfl (Nat.le_of_ble_eq_true rfl) (by decide) (fun _ => Nat.le_of_ble_eq_true rfl) (fun _ => rfl) dX3_addSegment_88 hr (fun X3 hr => ?_)
    exact j_return K dX3_addSegment_91 rfl F hr rfl
  · refine j_aload_n K dX3_addSegment_44 1 rfl ?_
    refine j_iload_n K dX3_addSegment_45 2 rfl ?_
    refine j_vI1 K (ci := 2) hr (fun v h => c_X2_hasGotEdition X v2 h) ml_X3_25 ⟨_, rfl, rfl⟩ rfl (Nat.le_of_ble_eq_true rfl) (by decide) rfl (by decide) (by decide) (Nat.le_of_ble_eq_true rfl) dX3_addSegment_46 (fun t4 h hr => ?_)
    refine j_if_eq K dX3_addSegment_49 (tgt := 75) (by decide) hr (fun hr => ?_) (fun hr => ?_)
    · exact j_sub [0, 1, 2] rfl (jb_X3_addSegment_75 K _ _ F rec38 hrec38 hr)
    · refine j_aload_n K dX3_addSegment_52 0 rfl ?_
      refine j_get K (v := .ref (jad κ (50))) fl_X3_9 rfl (Nat.le_of_ble_eq_true rfl) (by decide) rfl dX3_addSegment_53 ?_
      refine j_iload_n K dX3_addSegment_56 2 rfl ?_
      refine j_aload_n K dX3_addSegment_57 0 rfl ?_
      refine j_get K (v := .int (X (49) 3)) fl_X3_21 rfl (Nat.le_of_ble_eq_true rfl) (by decide) rfl dX3_addSegment_58 ?_
      refine j_iastoreV K (z := 60) rfl (Nat.le_of_ble_eq_true rfl) dX3_addSegment_61 hr (fun X5 hr => ?_)
      refine j_aload_n K dX3_addSegment_62 0 rfl ?_
      refine j_get K (v := .ref (jad κ (51))) fl_X3_15 rfl (Nat.le_of_ble_eq_true rfl) (by decide) rfl dX3_addSegment_63 ?_
      refine j_aload_n K dX3_addSegment_66 0 rfl ?_
      refine j_get K (v := .int (X5 (49) 3)) fl_X3_21 rfl (Nat.le_of_ble_eq_true rfl) (by decide) rfl dX3_addSegment_67 ?_
      refine j_dup2 K dX3_addSegment_70 rfl rfl ?_
      refine j_iaload K (z := 4) rfl (Nat.le_of_ble_eq_true rfl) dX3_addSegment_71 hr (fun hr => ?_)
      refine j_iconst K dX3_addSegment_72 (v := 1) rfl ?_
      refine j_iadd K dX3_addSegment_73 ?_
      refine j_iastoreV K (z := 4) rfl (Nat.le_of_ble_eq_true rfl) dX3_addSegment_74 hr (fun X6 hr => ?_)
      exact j_sub [0, 1, 2] rfl (jb_X3_addSegment_75 K _ _ F rec38 hrec38 hr)
theorem jf_X3_addSegment {κ : JK} (K : jOk 3 cX3_addSegment RX3 none 1 κ) (X : JX) {r : JX} (F : jFin LX false (oU r) κ) (hr : f_X3_addSegment X = some r) : J LX 3 κ X 0 [(0, .ref (jad κ (49))), (1, .ref (jad κ (35)))] [] := by
  unfold f_X3_addSegment at hr
  refine j_aload_n K dX3_addSegment_0 0 rfl ?_
  refine j_get K (v := .int (X (49) 3)) fl_X3_21 rfl (Nat.le_of_ble_eq_true rfl) (by decide) rfl dX3_addSegment_1 ?_
  refine j_if_lt K dX3_addSegment_4 (tgt := 15) (by decide) hr (fun hr => ?_) (fun hr => ?_)
  · exact j_return K dX3_addSegment_15 rfl F hr rfl
  · refine j_aload_n K dX3_addSegment_7 0 rfl ?_
    refine j_get K (v := .int (X (49) 3)) fl_X3_21 rfl (Nat.le_of_ble_eq_true rfl) (by decide) rfl dX3_addSegment_8 ?_
    refine j_iconst K dX3_addSegment_11 (v := 3) rfl ?_
    refine j_icmp_le K dX3_addSegment_12 (tgt := 16) (by decide) hr (fun hr => ?_) (fun hr => ?_)
    · refine j_aload_n K dX3_addSegment_16 0 rfl ?_
      refine j_get K (v := .ref (jad κ (51))) fl_X3_15 rfl (Nat.le_of_ble_eq_true rfl) (by decide) rfl dX3_addSegment_17 ?_
      refine j_aload_n K dX3_addSegment_20 0 rfl ?_
      refine j_get K (v := .int (X (49) 3)) fl_X3_21 rfl (Nat.le_of_ble_eq_true rfl) (by decide) rfl dX3_addSegment_21 ?_
      refine j_iconst K dX3_addSegment_24 (v := 0) rfl ?_
      refine j_iastoreV K (z := 4) rfl (Nat.le_of_ble_eq_true rfl) dX3_addSegment_25 hr (fun X1 hr => ?_)
      refine j_aload_n K dX3_addSegment_26 0 rfl ?_
      refine j_get K (v := .ref (jad κ (52))) fl_X3_18 rfl (Nat.le_of_ble_eq_true rfl) (by decide) rfl dX3_addSegment_27 ?_
      refine j_aload_n K dX3_addSegment_30 0 rfl ?_
      refine j_get K (v := .int (X1 (49) 3)) fl_X3_21 rfl (Nat.le_of_ble_eq_true rfl) (by decide) rfl dX3_addSegment_31 ?_
      refine j_iconst K dX3_addSegment_34 (v := 0) rfl ?_
      refine j_iastoreV K (z := 4) rfl (Nat.le_of_ble_eq_true rfl) dX3_addSegment_35 hr (fun X2 hr => ?_)
      refine j_iconst K dX3_addSegment_36 (v := 0) rfl ?_
      refine j_istore_n K dX3_addSegment_37 (by decide) ?_
      exact j_sub [1, 2, 0] rfl (jl_X3_addSegment_38 K F _ _ hr)
    · exact j_return K dX3_addSegment_15 rfl F hr rfl
theorem c_X3_addSegment (X : JX) {r : JX} (hr : f_X3_addSegment X = some r) : Cal LX yX3_addSegment cX3_addSegment 3 none 1 (fun ad => [.ref (ad (49)), .ref (ad (35))]) X (fun ad => oU r) :=
  Cal.of (own := RX3) (fun ad => [(0, .ref (ad (49))), (1, .ref (ad (35)))]) (by decide) rfl (fun _ => Nat.le_of_ble_eq_true rfl) (fun _ => rfl) (fun κ K F => jf_X3_addSegment K X F hr)
theorem jb_X3_bury_47 {κ : JK} (K : jOk 3 cX3_bury RX3 none 0 κ) (X : JX) (v1 : Int32) {r : JX} (F : jFin LX false (oU r) κ) (hr : b_X3_bury_47 X v1 = some r) : J LX 3 κ X 47 [(0, .ref (jad κ (49))), (1, .int v1)] [] := by
  unfold b_X3_bury_47 at hr
  refine j_aload_n K dX3_bury_47 0 rfl ?_
  refine j_get K (v := .ref (jad κ (50))) fl_X3_9 rfl (Nat.le_of_ble_eq_true rfl) (by decide) rfl dX3_bury_48 ?_
  refine j_iload_n K dX3_bury_51 1 rfl ?_
  refine j_iconst K dX3_bury_52 (v := -1) rfl ?_
  refine j_iastoreV K (z := 60) rfl (Nat.le_of_ble_eq_true rfl) dX3_bury_53 hr (fun X4 hr => ?_)
  exact j_return K dX3_bury_54 rfl F hr rfl
theorem jf_X3_bury {κ : JK} (K : jOk 3 cX3_bury RX3 none 0 κ) (X : JX) (v1 : Int32) {r : JX} (F : jFin LX false (oU r) κ) (hr : f_X3_bury X v1 = some r) : J LX 3 κ X 0 [(0, .ref (jad κ (49))), (1, .int v1)] [] := by
  unfold f_X3_bury at hr
  refine j_iload_n K dX3_bury_0 1 rfl ?_
  refine j_if_lt K dX3_bury_1 (tgt := 10) (by decide) hr (fun hr => ?_) (fun hr => ?_)
  · exact j_return K dX3_bury_10 rfl F hr rfl
  · refine j_iload_n K dX3_bury_4 1 rfl ?_
    refine j_bipush K dX3_bury_5 (v := 60) rfl ?_
    refine j_icmp_lt K dX3_bury_7 (tgt := 11) (by decide) hr (fun hr => ?_) (fun hr => ?_)
    · refine j_aload_n K dX3_bury_11 0 rfl ?_
      refine j_get K (v := .ref (jad κ (50))) fl_X3_9 rfl (Nat.le_of_ble_eq_true rfl) (by decide) rfl dX3_bury_12 ?_
      refine j_iload_n K dX3_bury_15 1 rfl ?_
      refine j_iaload K (z := 60) rfl (Nat.le_of_ble_eq_true rfl) dX3_bury_16 hr (fun hr => ?_)
      refine j_istoreV_n K dX3_bury_17 (by decide) hr (fun t1 hr => ?_)
      refine j_iload_n K dX3_bury_18 0 rfl ?_
      refine j_if_lt K dX3_bury_19 (tgt := 47) (by decide) hr (fun hr => ?_) (fun hr => ?_)
      · exact j_sub [1, 2] rfl (jb_X3_bury_47 K _ _ F hr)
      · refine j_iload_n K dX3_bury_22 0 rfl ?_
        refine j_iconst K dX3_bury_23 (v := 3) rfl ?_
        refine j_icmp_gt K dX3_bury_24 (tgt := 47) (by decide) hr (fun hr => ?_) (fun hr => ?_)
        · exact j_sub [1, 2] rfl (jb_X3_bury_47 K _ _ F hr)
        · refine j_aload_n K dX3_bury_27 1 rfl ?_
          refine j_get K (v := .ref (jad κ (51))) fl_X3_15 rfl (Nat.le_of_ble_eq_true rfl) (by decide) rfl dX3_bury_28 ?_
          refine j_iload_n K dX3_bury_31 0 rfl ?_
          refine j_dup2 K dX3_bury_32 rfl rfl ?_
          refine j_iaload K (z := 4) rfl (Nat.le_of_ble_eq_true rfl) dX3_bury_33 hr (fun hr => ?_)
          refine j_iconst K dX3_bury_34 (v := 1) rfl ?_
          refine j_isub K dX3_bury_35 ?_
          refine j_iastoreV K (z := 4) rfl (Nat.le_of_ble_eq_true rfl) dX3_bury_36 hr (fun X2 hr => ?_)
          refine j_aload_n K dX3_bury_37 1 rfl ?_
          refine j_get K (v := .ref (jad κ (52))) fl_X3_18 rfl (Nat.le_of_ble_eq_true rfl) (by decide) rfl dX3_bury_38 ?_
          refine j_iload_n K dX3_bury_41 0 rfl ?_
          refine j_dup2 K dX3_bury_42 rfl rfl ?_
          refine j_iaload K (z := 4) rfl (Nat.le_of_ble_eq_true rfl) dX3_bury_43 hr (fun hr => ?_)
          refine j_iconst K dX3_bury_44 (v := 1) rfl ?_
          refine j_iadd K dX3_bury_45 ?_
          refine j_iastoreV K (z := 4) rfl (Nat.le_of_ble_eq_true rfl) dX3_bury_46 hr (fun X3 hr => ?_)
          exact j_sub [1, 2] rfl (jb_X3_bury_47 K _ _ F hr)
    · exact j_return K dX3_bury_10 rfl F hr rfl
theorem c_X3_bury (X : JX) (v1 : Int32) {r : JX} (hr : f_X3_bury X v1 = some r) : Cal LX yX3_bury cX3_bury 3 none 0 (fun ad => [.ref (ad (49)), .int v1]) X (fun ad => oU r) :=
  Cal.of (own := RX3) (fun ad => [(0, .ref (ad (49))), (1, .int v1)]) (by decide) rfl (fun _ => Nat.le_of_ble_eq_true rfl) (fun _ => rfl) (fun κ K F => jf_X3_bury K X v1 F hr)
theorem jb_X3_close_92 {κ : JK} (K : jOk 3 cX3_close RX3 none 0 κ) (X : JX) (v1 : Int32) (v2 : Int32) {r : JX} (F : jFin LX false (oU r) κ) (rec66 : JX → Int32 → Option JX) (hrec66 : ∀ (X : JX) (v2 : Int32), rec66 X v2 = some r → J LX 3 κ X 66 [(0, .ref (jad κ (49))), (1, .int v1), (2, .int v2)] []) (hr : b_X3_close_92 rec66 X v1 v2 = some r) : J LX 3 κ X 92 [(0, .ref (jad κ (49))), (1, .int v1), (2, .int v2)] [] := by
  unfold b_X3_close_92 at hr
  refine j_iincV K dX3_close_92 (v := 1) 2 rfl rfl (by decide) hr (fun t6 hr => ?_)
  refine j_goto K dX3_close_95 (tgt := 66) (by decide) ?_
  exact j_sub [1, 2, 0] rfl (hrec66 _ _ hr)
theorem jl_X3_close_66 {κ : JK} (K : jOk 3 cX3_close RX3 none 0 κ) (v1 : Int32) {r : JX} (F : jFin LX false (oU r) κ) : ∀ (X : JX) (v2 : Int32), l_X3_close_66 v1 X v2 = some r → J LX 3 κ X 66 [(0, .ref (jad κ (49))), (1, .int v1), (2, .int v2)] [] := by
  refine j_loop2 (P := fun X v2 => J LX 3 κ X 66 [(0, .ref (jad κ (49))), (1, .int v1), (2, .int v2)] []) (fun rec66 hrec66 X v2 hr => ?_) 1000
  unfold lb_X3_close_66 at hr
  refine j_iload_n K dX3_close_66 2 rfl ?_
  refine j_bipush K dX3_close_67 (v := 60) rfl ?_
  refine j_icmp_ge K dX3_close_69 (tgt := 98) (by decide) hr (fun hr => ?_) (fun hr => ?_)
  · refine j_aload_n K dX3_close_98 0 rfl ?_
    refine j_dup K dX3_close_99 rfl ?_
    refine j_get K (v := .int (X (49) 3)) fl_X3_21 rfl (Nat.le_of_ble_eq_true rfl) (by decide) rfl dX3_close_100 ?_
    refine j_iconst K dX3_close_103 (v := 1) rfl ?_
    refine j_isub K dX3_close_104 ?_
    refine j_putiV K fp_X3_21 rfl (Nat.le_of_ble_eq_true rfl) (by decide) (fun _ => Nat.le_of_ble_eq_true rfl) (fun _ => rfl) dX3_close_105 hr (fun X4 hr => ?_)
    exact j_return K dX3_close_108 rfl F hr rfl
  · refine j_aload_n K dX3_close_72 0 rfl ?_
    refine j_get K (v := .ref (jad κ (50))) fl_X3_9 rfl (Nat.le_of_ble_eq_true rfl) (by decide) rfl dX3_close_73 ?_
    refine j_iload_n K dX3_close_76 2 rfl ?_
    refine j_iaload K (z := 60) rfl (Nat.le_of_ble_eq_true rfl) dX3_close_77 hr (fun hr => ?_)
    refine j_iload_n K dX3_close_78 1 rfl ?_
    refine j_icmp_le K dX3_close_79 (tgt := 92) (by decide) hr (fun hr => ?_) (fun hr => ?_)
    · exact j_sub [0, 1, 2] rfl (jb_X3_close_92 K _ _ _ F rec66 hrec66 hr)
    · refine j_aload_n K dX3_close_82 0 rfl ?_
      refine j_get K (v := .ref (jad κ (50))) fl_X3_9 rfl (Nat.le_of_ble_eq_true rfl) (by decide) rfl dX3_close_83 ?_
      refine j_iload_n K dX3_close_86 2 rfl ?_
      refine j_dup2 K dX3_close_87 rfl rfl ?_
      refine j_iaload K (z := 60) rfl (Nat.le_of_ble_eq_true rfl) dX3_close_88 hr (fun hr => ?_)
      refine j_iconst K dX3_close_89 (v := 1) rfl ?_
      refine j_isub K dX3_close_90 ?_
      refine j_iastoreV K (z := 60) rfl (Nat.le_of_ble_eq_true rfl) dX3_close_91 hr (fun X5 hr => ?_)
      exact j_sub [0, 1, 2] rfl (jb_X3_close_92 K _ _ _ F rec66 hrec66 hr)
theorem jb_X3_close_64 {κ : JK} (K : jOk 3 cX3_close RX3 none 0 κ) (X : JX) (v1 : Int32) {r : JX} (F : jFin LX false (oU r) κ) (hr : b_X3_close_64 X v1 = some r) : J LX 3 κ X 64 [(0, .ref (jad κ (49))), (1, .int v1)] [] := by
  unfold b_X3_close_64 at hr
  refine j_iconst K dX3_close_64 (v := 0) rfl ?_
  refine j_istore_n K dX3_close_65 (by decide) ?_
  exact j_sub [1, 2, 0] rfl (jl_X3_close_66 K _ F _ _ hr)
theorem jl_X3_close_15 {κ : JK} (K : jOk 3 cX3_close RX3 none 0 κ) (v1 : Int32) {r : JX} (F : jFin LX false (oU r) κ) : ∀ (X : JX) (v2 : Int32), l_X3_close_15 v1 X v2 = some r → J LX 3 κ X 15 [(0, .ref (jad κ (49))), (1, .int v1), (2, .int v2)] [] := by
  refine j_loop2 (P := fun X v2 => J LX 3 κ X 15 [(0, .ref (jad κ (49))), (1, .int v1), (2, .int v2)] []) (fun rec15 hrec15 X v2 hr => ?_) 1000
  unfold lb_X3_close_15 at hr
  refine j_iload_n K dX3_close_15 2 rfl ?_
  refine j_iconst K dX3_close_16 (v := 1) rfl ?_
  refine j_iadd K dX3_close_17 ?_
  refine j_aload_n K dX3_close_18 0 rfl ?_
  refine j_get K (v := .int (X (49) 3)) fl_X3_21 rfl (Nat.le_of_ble_eq_true rfl) (by decide) rfl dX3_close_19 ?_
  refine j_icmp_ge K dX3_close_22 (tgt := 64) (by decide) hr (fun hr => ?_) (fun hr => ?_)
  · exact j_sub [0, 1] rfl (jb_X3_close_64 K _ _ F hr)
  · refine j_iload_n K dX3_close_25 2 rfl ?_
    refine j_iconst K dX3_close_26 (v := 3) rfl ?_
    refine j_icmp_ge K dX3_close_27 (tgt := 64) (by decide) hr (fun hr => ?_) (fun hr => ?_)
    · exact j_sub [0, 1] rfl (jb_X3_close_64 K _ _ F hr)
    · refine j_aload_n K dX3_close_30 0 rfl ?_
      refine j_get K (v := .ref (jad κ (51))) fl_X3_15 rfl (Nat.le_of_ble_eq_true rfl) (by decide) rfl dX3_close_31 ?_
      refine j_iload_n K dX3_close_34 2 rfl ?_
      refine j_aload_n K dX3_close_35 0 rfl ?_
      refine j_get K (v := .ref (jad κ (51))) fl_X3_15 rfl (Nat.le_of_ble_eq_true rfl) (by decide) rfl dX3_close_36 ?_
      refine j_iload_n K dX3_close_39 2 rfl ?_
      refine j_iconst K dX3_close_40 (v := 1) rfl ?_
      refine j_iadd K dX3_close_41 ?_
      refine j_iaload K (z := 4) rfl (Nat.le_of_ble_eq_true rfl) dX3_close_42 hr (fun hr => ?_)
      refine j_iastoreV K (z := 4) rfl (Nat.le_of_ble_eq_true rfl) dX3_close_43 hr (fun X1 hr => ?_)
      refine j_aload_n K dX3_close_44 0 rfl ?_
      refine j_get K (v := .ref (jad κ (52))) fl_X3_18 rfl (Nat.le_of_ble_eq_true rfl) (by decide) rfl dX3_close_45 ?_
      refine j_iload_n K dX3_close_48 2 rfl ?_
      refine j_aload_n K dX3_close_49 0 rfl ?_
      refine j_get K (v := .ref (jad κ (52))) fl_X3_18 rfl (Nat.le_of_ble_eq_true rfl) (by decide) rfl dX3_close_50 ?_
      refine j_iload_n K dX3_close_53 2 rfl ?_
      refine j_iconst K dX3_close_54 (v := 1) rfl ?_
      refine j_iadd K dX3_close_55 ?_
      refine j_iaload K (z := 4) rfl (Nat.le_of_ble_eq_true rfl) dX3_close_56 hr (fun hr => ?_)
      refine j_iastoreV K (z := 4) rfl (Nat.le_of_ble_eq_true rfl) dX3_close_57 hr (fun X2 hr => ?_)
      refine j_iincV K dX3_close_58 (v := 1) 2 rfl rfl (by decide) hr (fun t3 hr => ?_)
      refine j_goto K dX3_close_61 (tgt := 15) (by decide) ?_
      exact j_sub [1, 2, 0] rfl (hrec15 _ _ hr)
theorem jf_X3_close {κ : JK} (K : jOk 3 cX3_close RX3 none 0 κ) (X : JX) (v1 : Int32) {r : JX} (F : jFin LX false (oU r) κ) (hr : f_X3_close X v1 = some r) : J LX 3 κ X 0 [(0, .ref (jad κ (49))), (1, .int v1)] [] := by
  unfold f_X3_close at hr
  refine j_iload_n K dX3_close_0 1 rfl ?_
  refine j_if_lt K dX3_close_1 (tgt := 12) (by decide) hr (fun hr => ?_) (fun hr => ?_)
  · exact j_return K dX3_close_12 rfl F hr rfl
  · refine j_iload_n K dX3_close_4 1 rfl ?_
    refine j_aload_n K dX3_close_5 0 rfl ?_
    refine j_get K (v := .int (X (49) 3)) fl_X3_21 rfl (Nat.le_of_ble_eq_true rfl) (by decide) rfl dX3_close_6 ?_
    refine j_icmp_lt K dX3_close_9 (tgt := 13) (by decide) hr (fun hr => ?_) (fun hr => ?_)
    · refine j_iload_n K dX3_close_13 1 rfl ?_
      refine j_istore_n K dX3_close_14 (by decide) ?_
      exact j_sub [1, 2, 0] rfl (jl_X3_close_15 K _ F _ _ hr)
    · exact j_return K dX3_close_12 rfl F hr rfl
theorem c_X3_close (X : JX) (v1 : Int32) {r : JX} (hr : f_X3_close X v1 = some r) : Cal LX yX3_close cX3_close 3 none 0 (fun ad => [.ref (ad (49)), .int v1]) X (fun ad => oU r) :=
  Cal.of (own := RX3) (fun ad => [(0, .ref (ad (49))), (1, .int v1)]) (by decide) rfl (fun _ => Nat.le_of_ble_eq_true rfl) (fun _ => rfl) (fun κ K F => jf_X3_close K X v1 F hr)
theorem jf_X3_count {κ : JK} (K : jOk 1 cX3_count RX3 (some .int) 0 κ) (X : JX) {r : Int32} (F : jFin LX false (oI X r) κ) (hr : f_X3_count X = some r) : J LX 1 κ X 0 [(0, .ref (jad κ (49)))] [] := by
  unfold f_X3_count at hr
  refine j_aload_n K dX3_count_0 0 rfl ?_
  refine j_get K (v := .int (X (49) 3)) fl_X3_21 rfl (Nat.le_of_ble_eq_true rfl) (by decide) rfl dX3_count_1 ?_
  exact j_ireturn K dX3_count_4 rfl F hr rfl
theorem c_X3_count (X : JX) {r : Int32} (hr : f_X3_count X = some r) : Cal LX yX3_count cX3_count 1 (some .int) 0 (fun ad => [.ref (ad (49))]) X (fun ad => oI X r) :=
  Cal.of (own := RX3) (fun ad => [(0, .ref (ad (49)))]) (by decide) rfl (fun _ => Nat.le_of_ble_eq_true rfl) (fun _ => rfl) (fun κ K F => jf_X3_count K X F hr)
theorem jl_X3_countBuried_4 {κ : JK} (K : jOk 3 cX3_countBuried RX3 (some .int) 0 κ) (X : JX) {r : Int32} (F : jFin LX false (oI X r) κ) : ∀ (v1 : Int32) (v2 : Int32), l_X3_countBuried_4 X v1 v2 = some r → J LX 3 κ X 4 [(0, .ref (jad κ (49))), (1, .int v1), (2, .int v2)] [] := by
  refine j_loop2 (P := fun v1 v2 => J LX 3 κ X 4 [(0, .ref (jad κ (49))), (1, .int v1), (2, .int v2)] []) (fun rec4 hrec4 v1 v2 hr => ?_) 1000
  unfold lb_X3_countBuried_4 at hr
  refine j_iload_n K dX3_countBuried_4 2 rfl ?_
  refine j_aload_n K dX3_countBuried_5 0 rfl ?_
  refine j_get K (v := .int (X (49) 3)) fl_X3_21 rfl (Nat.le_of_ble_eq_true rfl) (by decide) rfl dX3_countBuried_6 ?_
  refine j_icmp_ge K dX3_countBuried_9 (tgt := 32) (by decide) hr (fun hr => ?_) (fun hr => ?_)
  · refine j_iload_n K dX3_countBuried_32 1 rfl ?_
    exact j_ireturn K dX3_countBuried_33 rfl F hr rfl
  · refine j_iload_n K dX3_countBuried_12 2 rfl ?_
    refine j_iconst K dX3_countBuried_13 (v := 3) rfl ?_
    refine j_icmp_gt K dX3_countBuried_14 (tgt := 32) (by decide) hr (fun hr => ?_) (fun hr => ?_)
    · refine j_iload_n K dX3_countBuried_32 1 rfl ?_
      exact j_ireturn K dX3_countBuried_33 rfl F hr rfl
    · refine j_iload_n K dX3_countBuried_17 1 rfl ?_
      refine j_aload_n K dX3_countBuried_18 0 rfl ?_
      refine j_get K (v := .ref (jad κ (52))) fl_X3_18 rfl (Nat.le_of_ble_eq_true rfl) (by decide) rfl dX3_countBuried_19 ?_
      refine j_iload_n K dX3_countBuried_22 2 rfl ?_
      refine j_iaload K (z := 4) rfl (Nat.le_of_ble_eq_true rfl) dX3_countBuried_23 hr (fun hr => ?_)
      refine j_iadd K dX3_countBuried_24 ?_
      refine j_istoreV_n K dX3_countBuried_25 (by decide) hr (fun t1 hr => ?_)
      refine j_iincV K dX3_countBuried_26 (v := 1) 2 rfl rfl (by decide) hr (fun t2 hr => ?_)
      refine j_goto K dX3_countBuried_29 (tgt := 4) (by decide) ?_
      exact j_sub [2, 1, 0] rfl (hrec4 _ _ hr)
theorem jf_X3_countBuried {κ : JK} (K : jOk 3 cX3_countBuried RX3 (some .int) 0 κ) (X : JX) {r : Int32} (F : jFin LX false (oI X r) κ) (hr : f_X3_countBuried X = some r) : J LX 3 κ X 0 [(0, .ref (jad κ (49)))] [] := by
  unfold f_X3_countBuried at hr
  refine j_iconst K dX3_countBuried_0 (v := 0) rfl ?_
  refine j_istore_n K dX3_countBuried_1 (by decide) ?_
  refine j_iconst K dX3_countBuried_2 (v := 0) rfl ?_
  refine j_istore_n K dX3_countBuried_3 (by decide) ?_
  exact j_sub [2, 1, 0] rfl (jl_X3_countBuried_4 K _ F _ _ hr)
theorem c_X3_countBuried (X : JX) {r : Int32} (hr : f_X3_countBuried X = some r) : Cal LX yX3_countBuried cX3_countBuried 3 (some .int) 0 (fun ad => [.ref (ad (49))]) X (fun ad => oI X r) :=
  Cal.of (own := RX3) (fun ad => [(0, .ref (ad (49)))]) (by decide) rfl (fun _ => Nat.le_of_ble_eq_true rfl) (fun _ => rfl) (fun κ K F => jf_X3_countBuried K X F hr)
theorem jb_X3_smallestPair_70 {κ : JK} (K : jOk 5 cX3_smallestPair RX3 (some .int) 0 κ) (X : JX) (v1 : Int32) (v2 : Int32) (v3 : Int32) {r : Int32} (F : jFin LX false (oI X r) κ) (rec6 : Int32 → Int32 → Int32 → Option Int32) (hrec6 : ∀ (v1 : Int32) (v2 : Int32) (v3 : Int32), rec6 v1 v2 v3 = some r → J LX 5 κ X 6 [(0, .ref (jad κ (49))), (1, .int v1), (2, .int v2), (3, .int v3)] []) (hr : b_X3_smallestPair_70 rec6 X v1 v2 v3 = some r) : J LX 5 κ X 70 [(0, .ref (jad κ (49))), (1, .int v1), (2, .int v2), (3, .int v3)] [] := by
  unfold b_X3_smallestPair_70 at hr
  refine j_iincV K dX3_smallestPair_70 (v := 1) 3 rfl rfl (by decide) hr (fun t3 hr => ?_)
  refine j_goto K dX3_smallestPair_73 (tgt := 6) (by decide) ?_
  exact j_sub [1, 2, 3, 0] rfl (hrec6 _ _ _ hr)
theorem jb_X3_smallestPair_65 {κ : JK} (K : jOk 5 cX3_smallestPair RX3 (some .int) 0 κ) (X : JX) (v3 : Int32) (v4 : Int32) {r : Int32} (F : jFin LX false (oI X r) κ) (rec6 : Int32 → Int32 → Int32 → Option Int32) (hrec6 : ∀ (v1 : Int32) (v2 : Int32) (v3 : Int32), rec6 v1 v2 v3 = some r → J LX 5 κ X 6 [(0, .ref (jad κ (49))), (1, .int v1), (2, .int v2), (3, .int v3)] []) (hr : b_X3_smallestPair_65 rec6 X v3 v4 = some r) : J LX 5 κ X 65 [(0, .ref (jad κ (49))), (3, .int v3), (4, .int v4)] [] := by
  unfold b_X3_smallestPair_65 at hr
  refine j_iload K dX3_smallestPair_65 2 rfl ?_
  refine j_istore_n K dX3_smallestPair_67 (by decide) ?_
  refine j_iload_n K dX3_smallestPair_68 2 rfl ?_
  refine j_istore_n K dX3_smallestPair_69 (by decide) ?_
  exact j_sub [2, 0, 1, 3] rfl (jb_X3_smallestPair_70 K _ _ _ _ F rec6 hrec6 hr)
theorem jl_X3_smallestPair_6 {κ : JK} (K : jOk 5 cX3_smallestPair RX3 (some .int) 0 κ) (X : JX) {r : Int32} (F : jFin LX false (oI X r) κ) : ∀ (v1 : Int32) (v2 : Int32) (v3 : Int32), l_X3_smallestPair_6 X v1 v2 v3 = some r → J LX 5 κ X 6 [(0, .ref (jad κ (49))), (1, .int v1), (2, .int v2), (3, .int v3)] [] := by
  refine j_loop3 (P := fun v1 v2 v3 => J LX 5 κ X 6 [(0, .ref (jad κ (49))), (1, .int v1), (2, .int v2), (3, .int v3)] []) (fun rec6 hrec6 v1 v2 v3 hr => ?_) 1000
  unfold lb_X3_smallestPair_6 at hr
  refine j_iload_n K dX3_smallestPair_6 3 rfl ?_
  refine j_iconst K dX3_smallestPair_7 (v := 1) rfl ?_
  refine j_iadd K dX3_smallestPair_8 ?_
  refine j_aload_n K dX3_smallestPair_9 0 rfl ?_
  refine j_get K (v := .int (X (49) 3)) fl_X3_21 rfl (Nat.le_of_ble_eq_true rfl) (by decide) rfl dX3_smallestPair_10 ?_
  refine j_icmp_ge K dX3_smallestPair_13 (tgt := 76) (by decide) hr (fun hr => ?_) (fun hr => ?_)
  · refine j_iload_n K dX3_smallestPair_76 1 rfl ?_
    exact j_ireturn K dX3_smallestPair_77 rfl F hr rfl
  · refine j_iload_n K dX3_smallestPair_16 3 rfl ?_
    refine j_iconst K dX3_smallestPair_17 (v := 3) rfl ?_
    refine j_icmp_ge K dX3_smallestPair_18 (tgt := 76) (by decide) hr (fun hr => ?_) (fun hr => ?_)
    · refine j_iload_n K dX3_smallestPair_76 1 rfl ?_
      exact j_ireturn K dX3_smallestPair_77 rfl F hr rfl
    · refine j_aload_n K dX3_smallestPair_21 0 rfl ?_
      refine j_get K (v := .ref (jad κ (51))) fl_X3_15 rfl (Nat.le_of_ble_eq_true rfl) (by decide) rfl dX3_smallestPair_22 ?_
      refine j_iload_n K dX3_smallestPair_25 3 rfl ?_
      refine j_iaload K (z := 4) rfl (Nat.le_of_ble_eq_true rfl) dX3_smallestPair_26 hr (fun hr => ?_)
      refine j_aload_n K dX3_smallestPair_27 0 rfl ?_
      refine j_get K (v := .ref (jad κ (52))) fl_X3_18 rfl (Nat.le_of_ble_eq_true rfl) (by decide) rfl dX3_smallestPair_28 ?_
      refine j_iload_n K dX3_smallestPair_31 3 rfl ?_
      refine j_iaload K (z := 4) rfl (Nat.le_of_ble_eq_true rfl) dX3_smallestPair_32 hr (fun hr => ?_)
      refine j_iadd K dX3_smallestPair_33 ?_
      refine j_aload_n K dX3_smallestPair_34 0 rfl ?_
      refine j_get K (v := .ref (jad κ (51))) fl_X3_15 rfl (Nat.le_of_ble_eq_true rfl) (by decide) rfl dX3_smallestPair_35 ?_
      refine j_iload_n K dX3_smallestPair_38 3 rfl ?_
      refine j_iconst K dX3_smallestPair_39 (v := 1) rfl ?_
      refine j_iadd K dX3_smallestPair_40 ?_
      refine j_iaload K (z := 4) rfl (Nat.le_of_ble_eq_true rfl) dX3_smallestPair_41 hr (fun hr => ?_)
      refine j_iadd K dX3_smallestPair_42 ?_
      refine j_aload_n K dX3_smallestPair_43 0 rfl ?_
      refine j_get K (v := .ref (jad κ (52))) fl_X3_18 rfl (Nat.le_of_ble_eq_true rfl) (by decide) rfl dX3_smallestPair_44 ?_
      refine j_iload_n K dX3_smallestPair_47 3 rfl ?_
      refine j_iconst K dX3_smallestPair_48 (v := 1) rfl ?_
      refine j_iadd K dX3_smallestPair_49 ?_
      refine j_iaload K (z := 4) rfl (Nat.le_of_ble_eq_true rfl) dX3_smallestPair_50 hr (fun hr => ?_)
      refine j_iadd K dX3_smallestPair_51 ?_
      refine j_istoreV K dX3_smallestPair_52 (by decide) hr (fun t2 hr => ?_)
      refine j_iload_n K dX3_smallestPair_54 2 rfl ?_
      refine j_iconst K dX3_smallestPair_55 (v := -1) rfl ?_
      refine j_icmp_eq K dX3_smallestPair_56 (tgt := 65) (by decide) hr (fun hr => ?_) (fun hr => ?_)
      · exact j_sub [1, 4, 0] rfl (jb_X3_smallestPair_65 K _ _ _ F rec6 hrec6 hr)
      · refine j_iload K dX3_smallestPair_59 0 rfl ?_
        refine j_iload_n K dX3_smallestPair_61 3 rfl ?_
        refine j_icmp_ge K dX3_smallestPair_62 (tgt := 70) (by decide) hr (fun hr => ?_) (fun hr => ?_)
        · exact j_sub [1, 2, 3, 4] rfl (jb_X3_smallestPair_70 K _ _ _ _ F rec6 hrec6 hr)
        · exact j_sub [1, 4, 0] rfl (jb_X3_smallestPair_65 K _ _ _ F rec6 hrec6 hr)
theorem jf_X3_smallestPair {κ : JK} (K : jOk 5 cX3_smallestPair RX3 (some .int) 0 κ) (X : JX) {r : Int32} (F : jFin LX false (oI X r) κ) (hr : f_X3_smallestPair X = some r) : J LX 5 κ X 0 [(0, .ref (jad κ (49)))] [] := by
  unfold f_X3_smallestPair at hr
  refine j_iconst K dX3_smallestPair_0 (v := -1) rfl ?_
  refine j_istoreV_n K dX3_smallestPair_1 (by decide) hr (fun t1 hr => ?_)
  refine j_iconst K dX3_smallestPair_2 (v := 0) rfl ?_
  refine j_istore_n K dX3_smallestPair_3 (by decide) ?_
  refine j_iconst K dX3_smallestPair_4 (v := 0) rfl ?_
  refine j_istore_n K dX3_smallestPair_5 (by decide) ?_
  exact j_sub [3, 2, 1, 0] rfl (jl_X3_smallestPair_6 K _ F _ _ _ hr)
theorem c_X3_smallestPair (X : JX) {r : Int32} (hr : f_X3_smallestPair X = some r) : Cal LX yX3_smallestPair cX3_smallestPair 5 (some .int) 0 (fun ad => [.ref (ad (49))]) X (fun ad => oI X r) :=
  Cal.of (own := RX3) (fun ad => [(0, .ref (ad (49)))]) (by decide) rfl (fun _ => Nat.le_of_ble_eq_true rfl) (fun _ => rfl) (fun κ K F => jf_X3_smallestPair K X F hr)
theorem jb_X3_joinWithNext_71 {κ : JK} (K : jOk 3 cX3_joinWithNext RX3 none 1 κ) (X : JX) (v1 : Int32) (v2 : Int32) {r : JX} (F : jFin LX false (oU r) κ) (rec46 : JX → Int32 → Option JX) (hrec46 : ∀ (X : JX) (v2 : Int32), rec46 X v2 = some r → J LX 3 κ X 46 [(0, .ref (jad κ (49))), (1, .int v1), (2, .int v2)] []) (hr : b_X3_joinWithNext_71 rec46 X v1 v2 = some r) : J LX 3 κ X 71 [(0, .ref (jad κ (49))), (1, .int v1), (2, .int v2)] [] := by
  unfold b_X3_joinWithNext_71 at hr
  refine j_iincV K dX3_joinWithNext_71 (v := 1) 2 rfl rfl (by decide) hr (fun t5 hr => ?_)
  refine j_goto K dX3_joinWithNext_74 (tgt := 46) (by decide) ?_
  exact j_sub [1, 2, 0] rfl (hrec46 _ _ hr)
theorem jl_X3_joinWithNext_46 {κ : JK} (K : jOk 3 cX3_joinWithNext RX3 none 1 κ) (v1 : Int32) {r : JX} (F : jFin LX false (oU r) κ) : ∀ (X : JX) (v2 : Int32), l_X3_joinWithNext_46 v1 X v2 = some r → J LX 3 κ X 46 [(0, .ref (jad κ (49))), (1, .int v1), (2, .int v2)] [] := by
  refine j_loop2 (P := fun X v2 => J LX 3 κ X 46 [(0, .ref (jad κ (49))), (1, .int v1), (2, .int v2)] []) (fun rec46 hrec46 X v2 hr => ?_) 1000
  unfold lb_X3_joinWithNext_46 at hr
  refine j_iload_n K dX3_joinWithNext_46 2 rfl ?_
  refine j_bipush K dX3_joinWithNext_47 (v := 60) rfl ?_
  refine j_icmp_ge K dX3_joinWithNext_49 (tgt := 77) (by decide) hr (fun hr => ?_) (fun hr => ?_)
  · refine j_aload_n K dX3_joinWithNext_77 0 rfl ?_
    refine j_iload_n K dX3_joinWithNext_78 1 rfl ?_
    refine j_iconst K dX3_joinWithNext_79 (v := 1) rfl ?_
    refine j_iadd K dX3_joinWithNext_80 ?_
    refine j_vU1 K (ci := 3) hr (fun v h => c_X3_close X (v1 + (1)) h) ml_X3_42 ⟨_, rfl, rfl⟩ rfl (Nat.le_of_ble_eq_true rfl) (by decide) rfl (by decide) (by decide) (Nat.le_of_ble_eq_true rfl) dX3_joinWithNext_81 (fun X3 h hr => ?_)
    exact j_return K dX3_joinWithNext_84 rfl F hr rfl
  · refine j_aload_n K dX3_joinWithNext_52 0 rfl ?_
    refine j_get K (v := .ref (jad κ (50))) fl_X3_9 rfl (Nat.le_of_ble_eq_true rfl) (by decide) rfl dX3_joinWithNext_53 ?_
    refine j_iload_n K dX3_joinWithNext_56 2 rfl ?_
    refine j_iaload K (z := 60) rfl (Nat.le_of_ble_eq_true rfl) dX3_joinWithNext_57 hr (fun hr => ?_)
    refine j_iload_n K dX3_joinWithNext_58 1 rfl ?_
    refine j_iconst K dX3_joinWithNext_59 (v := 1) rfl ?_
    refine j_iadd K dX3_joinWithNext_60 ?_
    refine j_icmp_ne K dX3_joinWithNext_61 (tgt := 71) (by decide) hr (fun hr => ?_) (fun hr => ?_)
    · exact j_sub [0, 1, 2] rfl (jb_X3_joinWithNext_71 K _ _ _ F rec46 hrec46 hr)
    · refine j_aload_n K dX3_joinWithNext_64 0 rfl ?_
      refine j_get K (v := .ref (jad κ (50))) fl_X3_9 rfl (Nat.le_of_ble_eq_true rfl) (by decide) rfl dX3_joinWithNext_65 ?_
      refine j_iload_n K dX3_joinWithNext_68 2 rfl ?_
      refine j_iload_n K dX3_joinWithNext_69 1 rfl ?_
      refine j_iastoreV K (z := 60) rfl (Nat.le_of_ble_eq_true rfl) dX3_joinWithNext_70 hr (fun X4 hr => ?_)
      exact j_sub [0, 1, 2] rfl (jb_X3_joinWithNext_71 K _ _ _ F rec46 hrec46 hr)
theorem jf_X3_joinWithNext {κ : JK} (K : jOk 3 cX3_joinWithNext RX3 none 1 κ) (X : JX) (v1 : Int32) {r : JX} (F : jFin LX false (oU r) κ) (hr : f_X3_joinWithNext X v1 = some r) : J LX 3 κ X 0 [(0, .ref (jad κ (49))), (1, .int v1)] [] := by
  unfold f_X3_joinWithNext at hr
  refine j_iload_n K dX3_joinWithNext_0 1 rfl ?_
  refine j_if_lt K dX3_joinWithNext_1 (tgt := 19) (by decide) hr (fun hr => ?_) (fun hr => ?_)
  · exact j_return K dX3_joinWithNext_19 rfl F hr rfl
  · refine j_iload_n K dX3_joinWithNext_4 1 rfl ?_
    refine j_iconst K dX3_joinWithNext_5 (v := 3) rfl ?_
    refine j_icmp_ge K dX3_joinWithNext_6 (tgt := 19) (by decide) hr (fun hr => ?_) (fun hr => ?_)
    · exact j_return K dX3_joinWithNext_19 rfl F hr rfl
    · refine j_iload_n K dX3_joinWithNext_9 1 rfl ?_
      refine j_iconst K dX3_joinWithNext_10 (v := 1) rfl ?_
      refine j_iadd K dX3_joinWithNext_11 ?_
      refine j_aload_n K dX3_joinWithNext_12 0 rfl ?_
      refine j_get K (v := .int (X (49) 3)) fl_X3_21 rfl (Nat.le_of_ble_eq_true rfl) (by decide) rfl dX3_joinWithNext_13 ?_
      refine j_icmp_lt K dX3_joinWithNext_16 (tgt := 20) (by decide) hr (fun hr => ?_) (fun hr => ?_)
      · refine j_aload_n K dX3_joinWithNext_20 0 rfl ?_
        refine j_get K (v := .ref (jad κ (51))) fl_X3_15 rfl (Nat.le_of_ble_eq_true rfl) (by decide) rfl dX3_joinWithNext_21 ?_
        refine j_iload_n K dX3_joinWithNext_24 1 rfl ?_
        refine j_dup2 K dX3_joinWithNext_25 rfl rfl ?_
        refine j_iaload K (z := 4) rfl (Nat.le_of_ble_eq_true rfl) dX3_joinWithNext_26 hr (fun hr => ?_)
        refine j_aload_n K dX3_joinWithNext_27 0 rfl ?_
        refine j_get K (v := .ref (jad κ (51))) fl_X3_15 rfl (Nat.le_of_ble_eq_true rfl) (by decide) rfl dX3_joinWithNext_28 ?_
        refine j_iload_n K dX3_joinWithNext_31 1 rfl ?_
        refine j_iconst K dX3_joinWithNext_32 (v := 1) rfl ?_
        refine j_iadd K dX3_joinWithNext_33 ?_
        refine j_iaload K (z := 4) rfl (Nat.le_of_ble_eq_true rfl) dX3_joinWithNext_34 hr (fun hr => ?_)
        refine j_iadd K dX3_joinWithNext_35 ?_
        refine j_iastoreV K (z := 4) rfl (Nat.le_of_ble_eq_true rfl) dX3_joinWithNext_36 hr (fun X1 hr => ?_)
        refine j_aload_n K dX3_joinWithNext_37 0 rfl ?_
        refine j_get K (v := .ref (jad κ (52))) fl_X3_18 rfl (Nat.le_of_ble_eq_true rfl) (by decide) rfl dX3_joinWithNext_38 ?_
        refine j_iload_n K dX3_joinWithNext_41 1 rfl ?_
        refine j_iconst K dX3_joinWithNext_42 (v := 0) rfl ?_
        refine j_iastoreV K (z := 4) rfl (Nat.le_of_ble_eq_true rfl) dX3_joinWithNext_43 hr (fun X2 hr => ?_)
        refine j_iconst K dX3_joinWithNext_44 (v := 0) rfl ?_
        refine j_istore_n K dX3_joinWithNext_45 (by decide) ?_
        exact j_sub [1, 2, 0] rfl (jl_X3_joinWithNext_46 K _ F _ _ hr)
      · exact j_return K dX3_joinWithNext_19 rfl F hr rfl
theorem c_X3_joinWithNext (X : JX) (v1 : Int32) {r : JX} (hr : f_X3_joinWithNext X v1 = some r) : Cal LX yX3_joinWithNext cX3_joinWithNext 3 none 1 (fun ad => [.ref (ad (49)), .int v1]) X (fun ad => oU r) :=
  Cal.of (own := RX3) (fun ad => [(0, .ref (ad (49))), (1, .int v1)]) (by decide) rfl (fun _ => Nat.le_of_ble_eq_true rfl) (fun _ => rfl) (fun κ K F => jf_X3_joinWithNext K X v1 F hr)
theorem jl_X3_endWork_76 {κ : JK} (K : jOk 3 cX3_endWork RX3 none 2 κ) {r : JX} (F : jFin LX false (oU r) κ) : ∀ (X : JX) (v2 : Int32), l_X3_endWork_76 X v2 = some r → J LX 3 κ X 76 [(0, .ref (jad κ (49))), (2, .int v2)] [] := by
  refine j_loop2 (P := fun X v2 => J LX 3 κ X 76 [(0, .ref (jad κ (49))), (2, .int v2)] []) (fun rec76 hrec76 X v2 hr => ?_) 1000
  unfold lb_X3_endWork_76 at hr
  refine j_iload_n K dX3_endWork_76 1 rfl ?_
  refine j_iconst K dX3_endWork_77 (v := 3) rfl ?_
  refine j_icmp_ge K dX3_endWork_78 (tgt := 103) (by decide) hr (fun hr => ?_) (fun hr => ?_)
  · exact j_return K dX3_endWork_103 rfl F hr rfl
  · refine j_aload_n K dX3_endWork_81 0 rfl ?_
    refine j_get K (v := .int (X (49) 3)) fl_X3_21 rfl (Nat.le_of_ble_eq_true rfl) (by decide) rfl dX3_endWork_82 ?_
    refine j_iconst K dX3_endWork_85 (v := 3) rfl ?_
    refine j_icmp_le K dX3_endWork_86 (tgt := 103) (by decide) hr (fun hr => ?_) (fun hr => ?_)
    · exact j_return K dX3_endWork_103 rfl F hr rfl
    · refine j_aload_n K dX3_endWork_89 0 rfl ?_
      refine j_aload_n K dX3_endWork_90 0 rfl ?_
      refine j_vI0 K (ci := 3) hr (fun v h => c_X3_smallestPair X h) ml_X3_45 ⟨_, rfl, rfl⟩ rfl (Nat.le_of_ble_eq_true rfl) (by decide) rfl (by decide) (by decide) (Nat.le_of_ble_eq_true rfl) dX3_endWork_91 (fun t7 h hr => ?_)
      refine j_vU1 K (ci := 3) hr (fun v h => c_X3_joinWithNext X t7 h) ml_X3_49 ⟨_, rfl, rfl⟩ rfl (Nat.le_of_ble_eq_true rfl) (by decide) rfl (by decide) (by decide) (Nat.le_of_ble_eq_true rfl) dX3_endWork_94 (fun X8 h hr => ?_)
      refine j_iincV K dX3_endWork_97 (v := 1) 1 rfl rfl (by decide) hr (fun t9 hr => ?_)
      refine j_goto K dX3_endWork_100 (tgt := 76) (by decide) ?_
      exact j_sub [1, 0] rfl (hrec76 _ _ hr)
theorem jb_X3_endWork_68 {κ : JK} (K : jOk 3 cX3_endWork RX3 none 2 κ) (X : JX) (v2 : Int32) {r : JX} (F : jFin LX false (oU r) κ) (rec42 : JX → Int32 → Option JX) (hrec42 : ∀ (X : JX) (v2 : Int32), rec42 X v2 = some r → J LX 3 κ X 42 [(0, .ref (jad κ (49))), (2, .int v2)] []) (hr : b_X3_endWork_68 rec42 X v2 = some r) : J LX 3 κ X 68 [(0, .ref (jad κ (49))), (2, .int v2)] [] := by
  unfold b_X3_endWork_68 at hr
  refine j_iincV K dX3_endWork_68 (v := -1) 1 rfl rfl (by decide) hr (fun t10 hr => ?_)
  refine j_goto K dX3_endWork_71 (tgt := 42) (by decide) ?_
  exact j_sub [1, 0] rfl (hrec42 _ _ hr)
theorem jl_X3_endWork_42 {κ : JK} (K : jOk 3 cX3_endWork RX3 none 2 κ) {r : JX} (F : jFin LX false (oU r) κ) : ∀ (X : JX) (v2 : Int32), l_X3_endWork_42 X v2 = some r → J LX 3 κ X 42 [(0, .ref (jad κ (49))), (2, .int v2)] [] := by
  refine j_loop2 (P := fun X v2 => J LX 3 κ X 42 [(0, .ref (jad κ (49))), (2, .int v2)] []) (fun rec42 hrec42 X v2 hr => ?_) 1000
  unfold lb_X3_endWork_42 at hr
  refine j_iload_n K dX3_endWork_42 1 rfl ?_
  refine j_if_lt K dX3_endWork_43 (tgt := 74) (by decide) hr (fun hr => ?_) (fun hr => ?_)
  · refine j_iconst K dX3_endWork_74 (v := 0) rfl ?_
    refine j_istore_n K dX3_endWork_75 (by decide) ?_
    exact j_sub [1, 0] rfl (jl_X3_endWork_76 K F _ _ hr)
  · refine j_iload_n K dX3_endWork_46 1 rfl ?_
    refine j_aload_n K dX3_endWork_47 0 rfl ?_
    refine j_get K (v := .int (X (49) 3)) fl_X3_21 rfl (Nat.le_of_ble_eq_true rfl) (by decide) rfl dX3_endWork_48 ?_
    refine j_icmp_ge K dX3_endWork_51 (tgt := 68) (by decide) hr (fun hr => ?_) (fun hr => ?_)
    · exact j_sub [0, 1] rfl (jb_X3_endWork_68 K _ _ F rec42 hrec42 hr)
    · refine j_aload_n K dX3_endWork_54 0 rfl ?_
      refine j_get K (v := .ref (jad κ (51))) fl_X3_15 rfl (Nat.le_of_ble_eq_true rfl) (by decide) rfl dX3_endWork_55 ?_
      refine j_iload_n K dX3_endWork_58 1 rfl ?_
      refine j_iaload K (z := 4) rfl (Nat.le_of_ble_eq_true rfl) dX3_endWork_59 hr (fun hr => ?_)
      refine j_if_ne K dX3_endWork_60 (tgt := 68) (by decide) hr (fun hr => ?_) (fun hr => ?_)
      · exact j_sub [0, 1] rfl (jb_X3_endWork_68 K _ _ F rec42 hrec42 hr)
      · refine j_aload_n K dX3_endWork_63 0 rfl ?_
        refine j_iload_n K dX3_endWork_64 1 rfl ?_
        refine j_vU1 K (ci := 3) hr (fun v h => c_X3_close X v2 h) ml_X3_42 ⟨_, rfl, rfl⟩ rfl (Nat.le_of_ble_eq_true rfl) (by decide) rfl (by decide) (by decide) (Nat.le_of_ble_eq_true rfl) dX3_endWork_65 (fun X4 h hr => ?_)
        exact j_sub [0, 1] rfl (jb_X3_endWork_68 K _ _ F rec42 hrec42 hr)
theorem jb_X3_endWork_29 {κ : JK} (K : jOk 3 cX3_endWork RX3 none 2 κ) (X : JX) (v2 : Int32) {r : JX} (F : jFin LX false (oU r) κ) (rec2 : JX → Int32 → Option JX) (hrec2 : ∀ (X : JX) (v2 : Int32), rec2 X v2 = some r → J LX 3 κ X 2 [(0, .ref (jad κ (49))), (1, .ref (jad κ (35))), (2, .int v2)] []) (hr : b_X3_endWork_29 rec2 X v2 = some r) : J LX 3 κ X 29 [(0, .ref (jad κ (49))), (1, .ref (jad κ (35))), (2, .int v2)] [] := by
  unfold b_X3_endWork_29 at hr
  refine j_iincV K dX3_endWork_29 (v := 1) 2 rfl rfl (by decide) hr (fun t6 hr => ?_)
  refine j_goto K dX3_endWork_32 (tgt := 2) (by decide) ?_
  exact j_sub [1, 2, 0] rfl (hrec2 _ _ hr)
theorem jb_X3_endWork_24 {κ : JK} (K : jOk 3 cX3_endWork RX3 none 2 κ) (X : JX) (v2 : Int32) {r : JX} (F : jFin LX false (oU r) κ) (rec2 : JX → Int32 → Option JX) (hrec2 : ∀ (X : JX) (v2 : Int32), rec2 X v2 = some r → J LX 3 κ X 2 [(0, .ref (jad κ (49))), (1, .ref (jad κ (35))), (2, .int v2)] []) (hr : b_X3_endWork_24 rec2 X v2 = some r) : J LX 3 κ X 24 [(0, .ref (jad κ (49))), (1, .ref (jad κ (35))), (2, .int v2)] [] := by
  unfold b_X3_endWork_24 at hr
  refine j_aload_n K dX3_endWork_24 0 rfl ?_
  refine j_iload_n K dX3_endWork_25 2 rfl ?_
  refine j_vU1 K (ci := 3) hr (fun v h => c_X3_bury X v2 h) ml_X3_34 ⟨_, rfl, rfl⟩ rfl (Nat.le_of_ble_eq_true rfl) (by decide) rfl (by decide) (by decide) (Nat.le_of_ble_eq_true rfl) dX3_endWork_26 (fun X5 h hr => ?_)
  exact j_sub [0, 1, 2] rfl (jb_X3_endWork_29 K _ _ F rec2 hrec2 hr)
theorem jl_X3_endWork_2 {κ : JK} (K : jOk 3 cX3_endWork RX3 none 2 κ) {r : JX} (F : jFin LX false (oU r) κ) : ∀ (X : JX) (v2 : Int32), l_X3_endWork_2 X v2 = some r → J LX 3 κ X 2 [(0, .ref (jad κ (49))), (1, .ref (jad κ (35))), (2, .int v2)] [] := by
  refine j_loop2 (P := fun X v2 => J LX 3 κ X 2 [(0, .ref (jad κ (49))), (1, .ref (jad κ (35))), (2, .int v2)] []) (fun rec2 hrec2 X v2 hr => ?_) 1000
  unfold lb_X3_endWork_2 at hr
  refine j_iload_n K dX3_endWork_2 2 rfl ?_
  refine j_bipush K dX3_endWork_3 (v := 60) rfl ?_
  refine j_icmp_ge K dX3_endWork_5 (tgt := 35) (by decide) hr (fun hr => ?_) (fun hr => ?_)
  · refine j_aload_n K dX3_endWork_35 0 rfl ?_
    refine j_aload_n K dX3_endWork_36 1 rfl ?_
    refine j_vU1 K (ci := 3) hr (fun v h => c_X3_addSegment X h) ml_X3_38 ⟨_, rfl, rfl⟩ rfl (Nat.le_of_ble_eq_true rfl) (by decide) rfl (by decide) (by decide) (Nat.le_of_ble_eq_true rfl) dX3_endWork_37 (fun X1 h hr => ?_)
    refine j_iconst K dX3_endWork_40 (v := 3) rfl ?_
    refine j_istore_n K dX3_endWork_41 (by decide) ?_
    exact j_sub [1, 0] rfl (jl_X3_endWork_42 K F _ _ hr)
  · refine j_aload_n K dX3_endWork_8 1 rfl ?_
    refine j_iload_n K dX3_endWork_9 2 rfl ?_
    refine j_vI1 K (ci := 2) hr (fun v h => c_X2_hasGotEdition X v2 h) ml_X3_25 ⟨_, rfl, rfl⟩ rfl (Nat.le_of_ble_eq_true rfl) (by decide) rfl (by decide) (by decide) (Nat.le_of_ble_eq_true rfl) dX3_endWork_10 (fun t2 h hr => ?_)
    refine j_if_ne K dX3_endWork_13 (tgt := 24) (by decide) hr (fun hr => ?_) (fun hr => ?_)
    · exact j_sub [0, 1, 2] rfl (jb_X3_endWork_24 K _ _ F rec2 hrec2 hr)
    · refine j_aload_n K dX3_endWork_16 1 rfl ?_
      refine j_iload_n K dX3_endWork_17 2 rfl ?_
      refine j_vI1 K (ci := 2) hr (fun v h => c_X2_has X v2 h) ml_X3_31 ⟨_, rfl, rfl⟩ rfl (Nat.le_of_ble_eq_true rfl) (by decide) rfl (by decide) (by decide) (Nat.le_of_ble_eq_true rfl) dX3_endWork_18 (fun t3 h hr => ?_)
      refine j_if_ne K dX3_endWork_21 (tgt := 29) (by decide) hr (fun hr => ?_) (fun hr => ?_)
      · exact j_sub [0, 1, 2] rfl (jb_X3_endWork_29 K _ _ F rec2 hrec2 hr)
      · exact j_sub [0, 1, 2] rfl (jb_X3_endWork_24 K _ _ F rec2 hrec2 hr)
theorem jf_X3_endWork {κ : JK} (K : jOk 3 cX3_endWork RX3 none 2 κ) (X : JX) {r : JX} (F : jFin LX false (oU r) κ) (hr : f_X3_endWork X = some r) : J LX 3 κ X 0 [(0, .ref (jad κ (49))), (1, .ref (jad κ (35)))] [] := by
  unfold f_X3_endWork at hr
  refine j_iconst K dX3_endWork_0 (v := 0) rfl ?_
  refine j_istore_n K dX3_endWork_1 (by decide) ?_
  exact j_sub [1, 2, 0] rfl (jl_X3_endWork_2 K F _ _ hr)
theorem c_X3_endWork (X : JX) {r : JX} (hr : f_X3_endWork X = some r) : Cal LX yX3_endWork cX3_endWork 3 none 2 (fun ad => [.ref (ad (49)), .ref (ad (35))]) X (fun ad => oU r) :=
  Cal.of (own := RX3) (fun ad => [(0, .ref (ad (49))), (1, .ref (ad (35)))]) (by decide) rfl (fun _ => Nat.le_of_ble_eq_true rfl) (fun _ => rfl) (fun κ K F => jf_X3_endWork K X F hr)
theorem jb_X4_lookAtFile_101 {κ : JK} (K : jOk 6 cX4_lookAtFile RX4 (some .int) 3 κ) (X : JX) (v1 : Int32) (v3 : Int32) {r : (Int32 × JX)} (F : jFin LX false (oM r) κ) (hr : b_X4_lookAtFile_101 X v1 v3 = some r) : J LX 6 κ X 101 [(0, .ref (jad κ (44))), (1, .int v1), (3, .int v3)] [] := by
  unfold b_X4_lookAtFile_101 at hr
  refine j_aload_n K dX4_lookAtFile_101 0 rfl ?_
  refine j_get K (v := .ref (jad κ (35))) fl_X4_37 rfl (Nat.le_of_ble_eq_true rfl) (by decide) rfl dX4_lookAtFile_102 ?_
  refine j_iload_n K dX4_lookAtFile_105 1 rfl ?_
  refine j_vU1 K (ci := 2) hr (fun v h => c_X2_keepPlace X v1 h) ml_X4_164 ⟨_, rfl, rfl⟩ rfl (Nat.le_of_ble_eq_true rfl) (by decide) rfl (by decide) (by decide) (Nat.le_of_ble_eq_true rfl) dX4_lookAtFile_106 (fun X11 h hr => ?_)
  refine j_aload_n K dX4_lookAtFile_109 0 rfl ?_
  refine j_get K (v := .ref (jad κ (45))) fl_X4_12 rfl (Nat.le_of_ble_eq_true rfl) (by decide) rfl dX4_lookAtFile_110 ?_
  refine j_iload_n K dX4_lookAtFile_113 1 rfl ?_
  refine j_vU1 K (ci := 0) hr (fun v h => c_X0_takeAway X11 v1 h) ml_X4_127 ⟨_, rfl, rfl⟩ rfl (Nat.le_of_ble_eq_true rfl) (by decide) rfl (by decide) (by decide) (Nat.le_of_ble_eq_true rfl) dX4_lookAtFile_114 (fun X12 h hr => ?_)
  refine j_iload_n K dX4_lookAtFile_117 2 rfl ?_
  exact j_ireturn K dX4_lookAtFile_118 rfl F hr rfl
theorem jf_X4_lookAtFile {κ : JK} (K : jOk 6 cX4_lookAtFile RX4 (some .int) 3 κ) (X : JX) (v1 : Int32) (v2 : Int32) {r : (Int32 × JX)} (F : jFin LX false (oM r) κ) (hr : f_X4_lookAtFile X v1 v2 = some r) : J LX 6 κ X 0 [(0, .ref (jad κ (44))), (1, .int v1), (2, .int v2)] [] := by
  unfold f_X4_lookAtFile at hr
  refine j_aload_n K dX4_lookAtFile_0 0 rfl ?_
  refine j_get K (v := .ref (jad κ (1))) fl_X4_25 rfl (Nat.le_of_ble_eq_true rfl) (by decide) rfl dX4_lookAtFile_1 ?_
  refine j_iload_n K dX4_lookAtFile_4 1 rfl ?_
  refine j_vI1 K (ci := 9) hr (fun v h => c_X9_isLocked X v1 h) ml_X4_135 ⟨_, rfl, rfl⟩ rfl (Nat.le_of_ble_eq_true rfl) (by decide) rfl (by decide) (by decide) (Nat.le_of_ble_eq_true rfl) dX4_lookAtFile_5 (fun t1 h hr => ?_)
  refine j_if_eq K dX4_lookAtFile_8 (tgt := 21) (by decide) hr (fun hr => ?_) (fun hr => ?_)
  · refine j_iconst K dX4_lookAtFile_21 (v := 1) rfl ?_
    refine j_istore_n K dX4_lookAtFile_22 (by decide) ?_
    refine j_aload_n K dX4_lookAtFile_23 1 rfl ?_
    refine j_get K (v := .ref (jad κ (35))) fl_X4_37 rfl (Nat.le_of_ble_eq_true rfl) (by decide) rfl dX4_lookAtFile_24 ?_
    refine j_iload_n K dX4_lookAtFile_27 2 rfl ?_
    refine j_vI1 K (ci := 2) hr (fun v h => c_X2_editionOf X v1 h) ml_X4_141 ⟨_, rfl, rfl⟩ rfl (Nat.le_of_ble_eq_true rfl) (by decide) rfl (by decide) (by decide) (Nat.le_of_ble_eq_true rfl) dX4_lookAtFile_28 (fun t2 h hr => ?_)
    refine j_aload_n K dX4_lookAtFile_31 1 rfl ?_
    refine j_get K (v := .ref (jad κ (1))) fl_X4_25 rfl (Nat.le_of_ble_eq_true rfl) (by decide) rfl dX4_lookAtFile_32 ?_
    refine j_iload_n K dX4_lookAtFile_35 2 rfl ?_
    refine j_vI1 K (ci := 9) hr (fun v h => c_X9_editionOf X v1 h) ml_X4_144 ⟨_, rfl, rfl⟩ rfl (Nat.le_of_ble_eq_true rfl) (by decide) rfl (by decide) (by decide) (Nat.le_of_ble_eq_true rfl) dX4_lookAtFile_36 (fun t3 h hr => ?_)
    refine j_icmp_eq K dX4_lookAtFile_39 (tgt := 101) (by decide) hr (fun hr => ?_) (fun hr => ?_)
    · exact j_sub [1, 2, 0] rfl (jb_X4_lookAtFile_101 K _ _ _ F hr)
    · refine j_aload_n K dX4_lookAtFile_42 1 rfl ?_
      refine j_get K (v := .ref (jad κ (1))) fl_X4_25 rfl (Nat.le_of_ble_eq_true rfl) (by decide) rfl dX4_lookAtFile_43 ?_
      refine j_iload_n K dX4_lookAtFile_46 2 rfl ?_
      refine j_vI1 K (ci := 9) hr (fun v h => c_X9_lengthOf X v1 h) ml_X4_145 ⟨_, rfl, rfl⟩ rfl (Nat.le_of_ble_eq_true rfl) (by decide) rfl (by decide) (by decide) (Nat.le_of_ble_eq_true rfl) dX4_lookAtFile_47 (fun t4 h hr => ?_)
      refine j_istore K dX4_lookAtFile_50 (by decide) ?_
      refine j_iload_n K dX4_lookAtFile_52 1 rfl ?_
      refine j_iload K dX4_lookAtFile_53 0 rfl ?_
      refine j_iadd K dX4_lookAtFile_55 ?_
      refine j_istoreV_n K dX4_lookAtFile_56 (by decide) hr (fun t5 hr => ?_)
      refine j_iload_n K dX4_lookAtFile_57 0 rfl ?_
      refine j_iload_n K dX4_lookAtFile_58 4 rfl ?_
      refine j_icmp_le K dX4_lookAtFile_59 (tgt := 64) (by decide) hr (fun hr => ?_) (fun hr => ?_)
      · refine j_aload_n K dX4_lookAtFile_64 2 rfl ?_
        refine j_get K (v := .ref (jad κ (34))) fl_X4_33 rfl (Nat.le_of_ble_eq_true rfl) (by decide) rfl dX4_lookAtFile_65 ?_
        refine j_aload_n K dX4_lookAtFile_68 2 rfl ?_
        refine j_get K (v := .ref (jad κ (1))) fl_X4_25 rfl (Nat.le_of_ble_eq_true rfl) (by decide) rfl dX4_lookAtFile_69 ?_
        refine j_iload_n K dX4_lookAtFile_72 3 rfl ?_
        refine j_vR1 K (ci := 9) hr (fun v h => c_X9_textOf X v1 h) ml_X4_148 ⟨_, rfl, rfl⟩ rfl (Nat.le_of_ble_eq_true rfl) (by decide) rfl (by decide) (by decide) (Nat.le_of_ble_eq_true rfl) dX4_lookAtFile_73 (fun q6 h hr => ?_)
        refine j_guard hr (fun hq6 hr => ?_)
        refine j_iload K dX4_lookAtFile_76 1 rfl ?_
        refine j_aload_n K dX4_lookAtFile_78 2 rfl ?_
        refine j_get K (v := .ref (jad κ (35))) fl_X4_37 rfl (Nat.le_of_ble_eq_true rfl) (by decide) rfl dX4_lookAtFile_79 ?_
        refine j_iload_n K dX4_lookAtFile_82 3 rfl ?_
        refine j_vR1 K (ci := 2) hr (fun v h => c_X2_wordsOf X v1 h) ml_X4_152 ⟨_, rfl, rfl⟩ rfl (Nat.le_of_ble_eq_true rfl) (by decide) rfl (by decide) (by decide) (Nat.le_of_ble_eq_true rfl) dX4_lookAtFile_83 (fun q7 h hr => ?_)
        refine j_guard hr (fun hq7 hr => ?_)
        refine j_vM3 K (ci := 6) hr (fun v h => c_X6_takeWords X q6 t4 q7 hq6 hq7 h) ml_X4_155 ⟨_, rfl, rfl⟩ rfl (Nat.le_of_ble_eq_true rfl) (by decide) rfl (by decide) (by decide) (Nat.le_of_ble_eq_true rfl) dX4_lookAtFile_86 (fun t8 h hr => ?_)
        refine j_istore K dX4_lookAtFile_89 (by decide) ?_
        refine j_aload_n K dX4_lookAtFile_91 3 rfl ?_
        refine j_get K (v := .ref (jad κ (35))) fl_X4_37 rfl (Nat.le_of_ble_eq_true rfl) (by decide) rfl dX4_lookAtFile_92 ?_
        refine j_iload_n K dX4_lookAtFile_95 4 rfl ?_
        refine j_iload K dX4_lookAtFile_96 0 rfl ?_
        refine j_vU2 K (ci := 2) hr (fun v h => c_X2_keepEdition t8.2 v1 t8.1 h) ml_X4_161 ⟨_, rfl, rfl⟩ rfl (Nat.le_of_ble_eq_true rfl) (by decide) rfl (by decide) (by decide) (Nat.le_of_ble_eq_true rfl) dX4_lookAtFile_98 (fun X9 h hr => ?_)
        exact j_sub [3, 4, 1] rfl (jb_X4_lookAtFile_101 K _ _ _ F hr)
      · refine j_iconst K dX4_lookAtFile_62 (v := 0) rfl ?_
        exact j_ireturn K dX4_lookAtFile_63 rfl F hr rfl
  · refine j_aload_n K dX4_lookAtFile_11 0 rfl ?_
    refine j_get K (v := .ref (jad κ (45))) fl_X4_12 rfl (Nat.le_of_ble_eq_true rfl) (by decide) rfl dX4_lookAtFile_12 ?_
    refine j_iload_n K dX4_lookAtFile_15 1 rfl ?_
    refine j_vU1 K (ci := 0) hr (fun v h => c_X0_putOff X v1 h) ml_X4_138 ⟨_, rfl, rfl⟩ rfl (Nat.le_of_ble_eq_true rfl) (by decide) rfl (by decide) (by decide) (Nat.le_of_ble_eq_true rfl) dX4_lookAtFile_16 (fun X10 h hr => ?_)
    refine j_iconst K dX4_lookAtFile_19 (v := 1) rfl ?_
    exact j_ireturn K dX4_lookAtFile_20 rfl F hr rfl
theorem c_X4_lookAtFile (X : JX) (v1 : Int32) (v2 : Int32) {r : (Int32 × JX)} (hr : f_X4_lookAtFile X v1 v2 = some r) : Cal LX yX4_lookAtFile cX4_lookAtFile 6 (some .int) 3 (fun ad => [.ref (ad (44)), .int v1, .int v2]) X (fun ad => oM r) :=
  Cal.of (own := RX4) (fun ad => [(0, .ref (ad (44))), (1, .int v1), (2, .int v2)]) (by decide) rfl (fun _ => Nat.le_of_ble_eq_true rfl) (fun _ => rfl) (fun κ K F => jf_X4_lookAtFile K X v1 v2 F hr)
theorem jb_X4_lookAtFolder_37 {κ : JK} (K : jOk 3 cX4_lookAtFolder RX4 none 2 κ) (X : JX) (v1 : Int32) (v2 : Int32) {r : JX} (F : jFin LX false (oU r) κ) (rec10 : JX → Int32 → Option JX) (hrec10 : ∀ (X : JX) (v2 : Int32), rec10 X v2 = some r → J LX 3 κ X 10 [(0, .ref (jad κ (44))), (1, .int v1), (2, .int v2)] []) (hr : b_X4_lookAtFolder_37 rec10 X v1 v2 = some r) : J LX 3 κ X 37 [(0, .ref (jad κ (44))), (1, .int v1), (2, .int v2)] [] := by
  unfold b_X4_lookAtFolder_37 at hr
  refine j_iincV K dX4_lookAtFolder_37 (v := 1) 2 rfl rfl (by decide) hr (fun t4 hr => ?_)
  refine j_goto K dX4_lookAtFolder_40 (tgt := 10) (by decide) ?_
  exact j_sub [1, 2, 0] rfl (hrec10 _ _ hr)
theorem jl_X4_lookAtFolder_10 {κ : JK} (K : jOk 3 cX4_lookAtFolder RX4 none 2 κ) (v1 : Int32) {r : JX} (F : jFin LX false (oU r) κ) : ∀ (X : JX) (v2 : Int32), l_X4_lookAtFolder_10 v1 X v2 = some r → J LX 3 κ X 10 [(0, .ref (jad κ (44))), (1, .int v1), (2, .int v2)] [] := by
  refine j_loop2 (P := fun X v2 => J LX 3 κ X 10 [(0, .ref (jad κ (44))), (1, .int v1), (2, .int v2)] []) (fun rec10 hrec10 X v2 hr => ?_) 1000
  unfold lb_X4_lookAtFolder_10 at hr
  refine j_iload_n K dX4_lookAtFolder_10 2 rfl ?_
  refine j_bipush K dX4_lookAtFolder_11 (v := 60) rfl ?_
  refine j_icmp_ge K dX4_lookAtFolder_13 (tgt := 43) (by decide) hr (fun hr => ?_) (fun hr => ?_)
  · exact j_return K dX4_lookAtFolder_43 rfl F hr rfl
  · refine j_aload_n K dX4_lookAtFolder_16 0 rfl ?_
    refine j_get K (v := .ref (jad κ (1))) fl_X4_25 rfl (Nat.le_of_ble_eq_true rfl) (by decide) rfl dX4_lookAtFolder_17 ?_
    refine j_iload_n K dX4_lookAtFolder_20 2 rfl ?_
    refine j_vI1 K (ci := 9) hr (fun v h => c_X9_parentOf X v2 h) ml_X4_167 ⟨_, rfl, rfl⟩ rfl (Nat.le_of_ble_eq_true rfl) (by decide) rfl (by decide) (by decide) (Nat.le_of_ble_eq_true rfl) dX4_lookAtFolder_21 (fun t2 h hr => ?_)
    refine j_iload_n K dX4_lookAtFolder_24 1 rfl ?_
    refine j_icmp_ne K dX4_lookAtFolder_25 (tgt := 37) (by decide) hr (fun hr => ?_) (fun hr => ?_)
    · exact j_sub [0, 1, 2] rfl (jb_X4_lookAtFolder_37 K _ _ _ F rec10 hrec10 hr)
    · refine j_aload_n K dX4_lookAtFolder_28 0 rfl ?_
      refine j_get K (v := .ref (jad κ (45))) fl_X4_12 rfl (Nat.le_of_ble_eq_true rfl) (by decide) rfl dX4_lookAtFolder_29 ?_
      refine j_iload_n K dX4_lookAtFolder_32 2 rfl ?_
      refine j_iconst K dX4_lookAtFolder_33 (v := 1) rfl ?_
      refine j_vU2 K (ci := 0) hr (fun v h => c_X0_add X v2 (1) h) ml_X4_55 ⟨_, rfl, rfl⟩ rfl (Nat.le_of_ble_eq_true rfl) (by decide) rfl (by decide) (by decide) (Nat.le_of_ble_eq_true rfl) dX4_lookAtFolder_34 (fun X3 h hr => ?_)
      exact j_sub [0, 1, 2] rfl (jb_X4_lookAtFolder_37 K _ _ _ F rec10 hrec10 hr)
theorem jf_X4_lookAtFolder {κ : JK} (K : jOk 3 cX4_lookAtFolder RX4 none 2 κ) (X : JX) (v1 : Int32) {r : JX} (F : jFin LX false (oU r) κ) (hr : f_X4_lookAtFolder X v1 = some r) : J LX 3 κ X 0 [(0, .ref (jad κ (44))), (1, .int v1)] [] := by
  unfold f_X4_lookAtFolder at hr
  refine j_aload_n K dX4_lookAtFolder_0 0 rfl ?_
  refine j_get K (v := .ref (jad κ (35))) fl_X4_37 rfl (Nat.le_of_ble_eq_true rfl) (by decide) rfl dX4_lookAtFolder_1 ?_
  refine j_iload_n K dX4_lookAtFolder_4 1 rfl ?_
  refine j_vU1 K (ci := 2) hr (fun v h => c_X2_keepPlace X v1 h) ml_X4_164 ⟨_, rfl, rfl⟩ rfl (Nat.le_of_ble_eq_true rfl) (by decide) rfl (by decide) (by decide) (Nat.le_of_ble_eq_true rfl) dX4_lookAtFolder_5 (fun X1 h hr => ?_)
  refine j_iconst K dX4_lookAtFolder_8 (v := 0) rfl ?_
  refine j_istore_n K dX4_lookAtFolder_9 (by decide) ?_
  exact j_sub [1, 2, 0] rfl (jl_X4_lookAtFolder_10 K _ F _ _ hr)
theorem c_X4_lookAtFolder (X : JX) (v1 : Int32) {r : JX} (hr : f_X4_lookAtFolder X v1 = some r) : Cal LX yX4_lookAtFolder cX4_lookAtFolder 3 none 2 (fun ad => [.ref (ad (44)), .int v1]) X (fun ad => oU r) :=
  Cal.of (own := RX4) (fun ad => [(0, .ref (ad (44))), (1, .int v1)]) (by decide) rfl (fun _ => Nat.le_of_ble_eq_true rfl) (fun _ => rfl) (fun κ K F => jf_X4_lookAtFolder K X v1 F hr)
theorem jb_X4_act_63 {κ : JK} (K : jOk 5 cX4_act RX4 (some .int) 4 κ) (X : JX) (v1 : Int32) (v3 : Int32) (v4 : Int32) {r : (Int32 × JX)} (F : jFin LX false (oM r) κ) (hr : b_X4_act_63 X v1 v3 v4 = some r) : J LX 5 κ X 63 [(0, .ref (jad κ (44))), (1, .int v1), (3, .int v3), (4, .int v4)] [] := by
  unfold b_X4_act_63 at hr
  refine j_aload_n K dX4_act_63 0 rfl ?_
  refine j_get K (v := .ref (jad κ (45))) fl_X4_12 rfl (Nat.le_of_ble_eq_true rfl) (by decide) rfl dX4_act_64 ?_
  refine j_iload_n K dX4_act_67 1 rfl ?_
  refine j_vU1 K (ci := 0) hr (fun v h => c_X0_takeAway X v1 h) ml_X4_127 ⟨_, rfl, rfl⟩ rfl (Nat.le_of_ble_eq_true rfl) (by decide) rfl (by decide) (by decide) (Nat.le_of_ble_eq_true rfl) dX4_act_68 (fun X6 h hr => ?_)
  refine j_iload K dX4_act_71 3 rfl ?_
  refine j_if_ne K dX4_act_73 (tgt := 87) (by decide) hr (fun hr => ?_) (fun hr => ?_)
  · refine j_iload_n K dX4_act_87 2 rfl ?_
    refine j_if_eq K dX4_act_88 (tgt := 99) (by decide) hr (fun hr => ?_) (fun hr => ?_)
    · refine j_aload_n K dX4_act_99 0 rfl ?_
      refine j_get K (v := .ref (jad κ (45))) fl_X4_12 rfl (Nat.le_of_ble_eq_true rfl) (by decide) rfl dX4_act_100 ?_
      refine j_iload_n K dX4_act_103 1 rfl ?_
      refine j_iconst K dX4_act_104 (v := 1) rfl ?_
      refine j_vU2 K (ci := 0) hr (fun v h => c_X0_add X6 v1 (1) h) ml_X4_55 ⟨_, rfl, rfl⟩ rfl (Nat.le_of_ble_eq_true rfl) (by decide) rfl (by decide) (by decide) (Nat.le_of_ble_eq_true rfl) dX4_act_105 (fun X7 h hr => ?_)
      refine j_iconst K dX4_act_108 (v := 1) rfl ?_
      exact j_ireturn K dX4_act_109 rfl F hr rfl
    · refine j_aload_n K dX4_act_91 0 rfl ?_
      refine j_iload_n K dX4_act_92 1 rfl ?_
      refine j_vU1 K (ci := 4) hr (fun v h => c_X4_lookAtFolder X6 v1 h) ml_X4_132 ⟨_, rfl, rfl⟩ rfl (Nat.le_of_ble_eq_true rfl) (by decide) rfl (by decide) (by decide) (Nat.le_of_ble_eq_true rfl) dX4_act_93 (fun X8 h hr => ?_)
      refine j_goto K dX4_act_96 (tgt := 108) (by decide) ?_
      refine j_iconst K dX4_act_108 (v := 1) rfl ?_
      exact j_ireturn K dX4_act_109 rfl F hr rfl
  · refine j_aload_n K dX4_act_76 0 rfl ?_
    refine j_get K (v := .ref (jad κ (35))) fl_X4_37 rfl (Nat.le_of_ble_eq_true rfl) (by decide) rfl dX4_act_77 ?_
    refine j_iload_n K dX4_act_80 1 rfl ?_
    refine j_vU1 K (ci := 2) hr (fun v h => c_X2_takeAway X6 v1 h) ml_X4_131 ⟨_, rfl, rfl⟩ rfl (Nat.le_of_ble_eq_true rfl) (by decide) rfl (by decide) (by decide) (Nat.le_of_ble_eq_true rfl) dX4_act_81 (fun X9 h hr => ?_)
    refine j_goto K dX4_act_84 (tgt := 108) (by decide) ?_
    refine j_iconst K dX4_act_108 (v := 1) rfl ?_
    exact j_ireturn K dX4_act_109 rfl F hr rfl
theorem jb_X4_act_34 {κ : JK} (K : jOk 5 cX4_act RX4 (some .int) 4 κ) (X : JX) (v1 : Int32) (v2 : Int32) (v3 : Int32) (s0 : Int32) {r : (Int32 × JX)} (F : jFin LX false (oM r) κ) (hr : b_X4_act_34 X v1 v2 v3 s0 = some r) : J LX 5 κ X 34 [(0, .ref (jad κ (44))), (1, .int v1), (2, .int v2), (3, .int v3)] [.int s0] := by
  unfold b_X4_act_34 at hr
  refine j_istore K dX4_act_34 (by decide) ?_
  refine j_iload_n K dX4_act_36 4 rfl ?_
  refine j_if_eq K dX4_act_37 (tgt := 63) (by decide) hr (fun hr => ?_) (fun hr => ?_)
  · exact j_sub [1, 2, 4, 0] rfl (jb_X4_act_63 K _ _ _ _ F hr)
  · refine j_iload K dX4_act_40 0 rfl ?_
    refine j_if_eq K dX4_act_42 (tgt := 63) (by decide) hr (fun hr => ?_) (fun hr => ?_)
    · exact j_sub [1, 2, 4, 0] rfl (jb_X4_act_63 K _ _ _ _ F hr)
    · refine j_aload_n K dX4_act_45 1 rfl ?_
      refine j_get K (v := .ref (jad κ (1))) fl_X4_25 rfl (Nat.le_of_ble_eq_true rfl) (by decide) rfl dX4_act_46 ?_
      refine j_iload_n K dX4_act_49 2 rfl ?_
      refine j_vI1 K (ci := 9) hr (fun v h => c_X9_isFile X v1 h) ml_X4_119 ⟨_, rfl, rfl⟩ rfl (Nat.le_of_ble_eq_true rfl) (by decide) rfl (by decide) (by decide) (Nat.le_of_ble_eq_true rfl) dX4_act_50 (fun t4 h hr => ?_)
      refine j_if_eq K dX4_act_53 (tgt := 63) (by decide) hr (fun hr => ?_) (fun hr => ?_)
      · exact j_sub [1, 2, 4, 0] rfl (jb_X4_act_63 K _ _ _ _ F hr)
      · refine j_aload_n K dX4_act_56 1 rfl ?_
        refine j_iload_n K dX4_act_57 2 rfl ?_
        refine j_iload_n K dX4_act_58 3 rfl ?_
        refine j_vM2 K (ci := 4) hr (fun v h => c_X4_lookAtFile X v1 v2 h) ml_X4_124 ⟨_, rfl, rfl⟩ rfl (Nat.le_of_ble_eq_true rfl) (by decide) rfl (by decide) (by decide) (Nat.le_of_ble_eq_true rfl) dX4_act_59 (fun t5 h hr => ?_)
        exact j_ireturn K dX4_act_62 rfl F hr rfl
theorem jb_X4_act_17 {κ : JK} (K : jOk 5 cX4_act RX4 (some .int) 4 κ) (X : JX) (v1 : Int32) (v2 : Int32) (s0 : Int32) {r : (Int32 × JX)} (F : jFin LX false (oM r) κ) (hr : b_X4_act_17 X v1 v2 s0 = some r) : J LX 5 κ X 17 [(0, .ref (jad κ (44))), (1, .int v1), (2, .int v2)] [.int s0] := by
  unfold b_X4_act_17 at hr
  refine j_istore_n K dX4_act_17 (by decide) ?_
  refine j_aload_n K dX4_act_18 1 rfl ?_
  refine j_get K (v := .ref (jad κ (11))) fl_X4_29 rfl (Nat.le_of_ble_eq_true rfl) (by decide) rfl dX4_act_19 ?_
  refine j_iload_n K dX4_act_22 2 rfl ?_
  refine j_vO1 K (ci := 8) hr (fun v h => c_X8_above X v1 h) ml_X4_115 ⟨_, rfl, rfl⟩ rfl (Nat.le_of_ble_eq_true rfl) (by decide) rfl (by decide) (by decide) (Nat.le_of_ble_eq_true rfl) dX4_act_23 (fun h hr => ?_) (fun q3 h hr => ?_)
  · refine j_ifnullN K dX4_act_26 (tgt := 33) (by decide) ?_
    refine j_iconst K dX4_act_33 (v := 0) rfl ?_
    exact j_sub [1, 2, 3, 0] rfl (jb_X4_act_34 K _ _ _ _ _ F hr)
  · refine j_guard hr (fun hq3 hr => ?_)
    refine j_ifnull K dX4_act_26 ?_
    refine j_iconst K dX4_act_29 (v := 1) rfl ?_
    refine j_goto K dX4_act_30 (tgt := 34) (by decide) ?_
    exact j_sub [1, 2, 3, 0] rfl (jb_X4_act_34 K _ _ _ _ _ F hr)
theorem jf_X4_act {κ : JK} (K : jOk 5 cX4_act RX4 (some .int) 4 κ) (X : JX) (v1 : Int32) (v2 : Int32) {r : (Int32 × JX)} (F : jFin LX false (oM r) κ) (hr : f_X4_act X v1 v2 = some r) : J LX 5 κ X 0 [(0, .ref (jad κ (44))), (1, .int v1), (2, .int v2)] [] := by
  unfold f_X4_act at hr
  refine j_aload_n K dX4_act_0 0 rfl ?_
  refine j_get K (v := .ref (jad κ (45))) fl_X4_12 rfl (Nat.le_of_ble_eq_true rfl) (by decide) rfl dX4_act_1 ?_
  refine j_iload_n K dX4_act_4 1 rfl ?_
  refine j_vI1 K (ci := 0) hr (fun v h => c_X0_kindOf X v1 h) ml_X4_112 ⟨_, rfl, rfl⟩ rfl (Nat.le_of_ble_eq_true rfl) (by decide) rfl (by decide) (by decide) (Nat.le_of_ble_eq_true rfl) dX4_act_5 (fun t1 h hr => ?_)
  refine j_iconst K dX4_act_8 (v := 1) rfl ?_
  refine j_icmp_ne K dX4_act_9 (tgt := 16) (by decide) hr (fun hr => ?_) (fun hr => ?_)
  · refine j_iconst K dX4_act_16 (v := 0) rfl ?_
    exact j_sub [0, 1, 2] rfl (jb_X4_act_17 K _ _ _ _ F hr)
  · refine j_iconst K dX4_act_12 (v := 1) rfl ?_
    refine j_goto K dX4_act_13 (tgt := 17) (by decide) ?_
    exact j_sub [0, 1, 2] rfl (jb_X4_act_17 K _ _ _ _ F hr)
theorem c_X4_act (X : JX) (v1 : Int32) (v2 : Int32) {r : (Int32 × JX)} (hr : f_X4_act X v1 v2 = some r) : Cal LX yX4_act cX4_act 5 (some .int) 4 (fun ad => [.ref (ad (44)), .int v1, .int v2]) X (fun ad => oM r) :=
  Cal.of (own := RX4) (fun ad => [(0, .ref (ad (44))), (1, .int v1), (2, .int v2)]) (by decide) rfl (fun _ => Nat.le_of_ble_eq_true rfl) (fun _ => rfl) (fun κ K F => jf_X4_act K X v1 v2 F hr)
theorem jf_X4_countActs {κ : JK} (K : jOk 1 cX4_countActs RX4 (some .int) 1 κ) (X : JX) {r : Int32} (F : jFin LX false (oI X r) κ) (hr : f_X4_countActs X = some r) : J LX 1 κ X 0 [(0, .ref (jad κ (44)))] [] := by
  unfold f_X4_countActs at hr
  refine j_aload_n K dX4_countActs_0 0 rfl ?_
  refine j_get K (v := .ref (jad κ (45))) fl_X4_12 rfl (Nat.le_of_ble_eq_true rfl) (by decide) rfl dX4_countActs_1 ?_
  refine j_vI0 K (ci := 0) hr (fun v h => c_X0_count X h) ml_X4_41 ⟨_, rfl, rfl⟩ rfl (Nat.le_of_ble_eq_true rfl) (by decide) rfl (by decide) (by decide) (Nat.le_of_ble_eq_true rfl) dX4_countActs_4 (fun t1 h hr => ?_)
  exact j_ireturn K dX4_countActs_7 rfl F hr rfl
theorem c_X4_countActs (X : JX) {r : Int32} (hr : f_X4_countActs X = some r) : Cal LX yX4_countActs cX4_countActs 1 (some .int) 1 (fun ad => [.ref (ad (44))]) X (fun ad => oI X r) :=
  Cal.of (own := RX4) (fun ad => [(0, .ref (ad (44)))]) (by decide) rfl (fun _ => Nat.le_of_ble_eq_true rfl) (fun _ => rfl) (fun κ K F => jf_X4_countActs K X F hr)
theorem jf_X4_countDead {κ : JK} (K : jOk 1 cX4_countDead RX4 (some .int) 1 κ) (X : JX) {r : Int32} (F : jFin LX false (oI X r) κ) (hr : f_X4_countDead X = some r) : J LX 1 κ X 0 [(0, .ref (jad κ (44)))] [] := by
  unfold f_X4_countDead at hr
  refine j_aload_n K dX4_countDead_0 0 rfl ?_
  refine j_get K (v := .ref (jad κ (49))) fl_X4_21 rfl (Nat.le_of_ble_eq_true rfl) (by decide) rfl dX4_countDead_1 ?_
  refine j_vI0 K (ci := 3) hr (fun v h => c_X3_countBuried X h) ml_X4_46 ⟨_, rfl, rfl⟩ rfl (Nat.le_of_ble_eq_true rfl) (by decide) rfl (by decide) (by decide) (Nat.le_of_ble_eq_true rfl) dX4_countDead_4 (fun t1 h hr => ?_)
  exact j_ireturn K dX4_countDead_7 rfl F hr rfl
theorem c_X4_countDead (X : JX) {r : Int32} (hr : f_X4_countDead X = some r) : Cal LX yX4_countDead cX4_countDead 1 (some .int) 1 (fun ad => [.ref (ad (44))]) X (fun ad => oI X r) :=
  Cal.of (own := RX4) (fun ad => [(0, .ref (ad (44)))]) (by decide) rfl (fun _ => Nat.le_of_ble_eq_true rfl) (fun _ => rfl) (fun κ K F => jf_X4_countDead K X F hr)
theorem jf_X4_countSegments {κ : JK} (K : jOk 1 cX4_countSegments RX4 (some .int) 1 κ) (X : JX) {r : Int32} (F : jFin LX false (oI X r) κ) (hr : f_X4_countSegments X = some r) : J LX 1 κ X 0 [(0, .ref (jad κ (44)))] [] := by
  unfold f_X4_countSegments at hr
  refine j_aload_n K dX4_countSegments_0 0 rfl ?_
  refine j_get K (v := .ref (jad κ (49))) fl_X4_21 rfl (Nat.le_of_ble_eq_true rfl) (by decide) rfl dX4_countSegments_1 ?_
  refine j_vI0 K (ci := 3) hr (fun v h => c_X3_count X h) ml_X4_45 ⟨_, rfl, rfl⟩ rfl (Nat.le_of_ble_eq_true rfl) (by decide) rfl (by decide) (by decide) (Nat.le_of_ble_eq_true rfl) dX4_countSegments_4 (fun t1 h hr => ?_)
  exact j_ireturn K dX4_countSegments_7 rfl F hr rfl
theorem c_X4_countSegments (X : JX) {r : Int32} (hr : f_X4_countSegments X = some r) : Cal LX yX4_countSegments cX4_countSegments 1 (some .int) 1 (fun ad => [.ref (ad (44))]) X (fun ad => oI X r) :=
  Cal.of (own := RX4) (fun ad => [(0, .ref (ad (44)))]) (by decide) rfl (fun _ => Nat.le_of_ble_eq_true rfl) (fun _ => rfl) (fun κ K F => jf_X4_countSegments K X F hr)
theorem jb_X4_meetAllIn_66 {κ : JK} (K : jOk 4 cX4_meetAllIn RX4 none 2 κ) (X : JX) (v1 : Int32) (q2 : Nat) (v3 : Int32) {r : JX} (F : jFin LX false (oU r) κ) (hq2 : isCr q2 = true) (rec2 : JX → Int32 → Option JX) (hrec2 : ∀ (X : JX) (v3 : Int32), rec2 X v3 = some r → J LX 4 κ X 2 [(0, .ref (jad κ (44))), (1, .int v1), (2, .ref (jad κ q2)), (3, .int v3)] []) (hr : b_X4_meetAllIn_66 rec2 X v1 q2 v3 = some r) : J LX 4 κ X 66 [(0, .ref (jad κ (44))), (1, .int v1), (2, .ref (jad κ q2)), (3, .int v3)] [] := by
  unfold b_X4_meetAllIn_66 at hr
  refine j_iincV K dX4_meetAllIn_66 (v := 1) 3 rfl rfl (by decide) hr (fun t5 hr => ?_)
  refine j_goto K dX4_meetAllIn_69 (tgt := 2) (by decide) ?_
  exact j_sub [1, 2, 3, 0] rfl (hrec2 _ _ hr)
theorem jb_X4_meetAllIn_50 {κ : JK} (K : jOk 4 cX4_meetAllIn RX4 none 2 κ) (X : JX) (v1 : Int32) (q2 : Nat) (v3 : Int32) {r : JX} (F : jFin LX false (oU r) κ) (hq2 : isCr q2 = true) (rec2 : JX → Int32 → Option JX) (hrec2 : ∀ (X : JX) (v3 : Int32), rec2 X v3 = some r → J LX 4 κ X 2 [(0, .ref (jad κ (44))), (1, .int v1), (2, .ref (jad κ q2)), (3, .int v3)] []) (hr : b_X4_meetAllIn_50 rec2 X v1 q2 v3 = some r) : J LX 4 κ X 50 [(0, .ref (jad κ (44))), (1, .int v1), (2, .ref (jad κ q2)), (3, .int v3)] [] := by
  unfold b_X4_meetAllIn_50 at hr
  refine j_aload_n K dX4_meetAllIn_50 0 rfl ?_
  refine j_get K (v := .ref (jad κ (1))) fl_X4_25 rfl (Nat.le_of_ble_eq_true rfl) (by decide) rfl dX4_meetAllIn_51 ?_
  refine j_iload_n K dX4_meetAllIn_54 3 rfl ?_
  refine j_vI1 K (ci := 9) hr (fun v h => c_X9_isFolder X v3 h) ml_X4_206 ⟨_, rfl, rfl⟩ rfl (Nat.le_of_ble_eq_true rfl) (by decide) rfl (by decide) (by decide) (Nat.le_of_ble_eq_true rfl) dX4_meetAllIn_55 (fun t6 h hr => ?_)
  refine j_if_eq K dX4_meetAllIn_58 (tgt := 66) (by decide) hr (fun hr => ?_) (fun hr => ?_)
  · exact j_sub [0, 1, 2, 3] rfl (jb_X4_meetAllIn_66 K _ _ _ _ F hq2 rec2 hrec2 hr)
  · refine j_aload_n K dX4_meetAllIn_61 2 rfl ?_
    refine j_iload_n K dX4_meetAllIn_62 3 rfl ?_
    refine j_vU1 K (ci := 1) hr (fun v h => c_X1_letWait X q2 v3 hq2 h) ml_X4_209 ⟨_, rfl, rfl⟩ (cr0 hq2) (cr0l hq2) (by decide) rfl (by decide) (by decide) (Nat.le_of_ble_eq_true rfl) dX4_meetAllIn_63 (fun X7 h hr => ?_)
    exact j_sub [0, 1, 2, 3] rfl (jb_X4_meetAllIn_66 K _ _ _ _ F hq2 rec2 hrec2 hr)
theorem jl_X4_meetAllIn_2 {κ : JK} (K : jOk 4 cX4_meetAllIn RX4 none 2 κ) (v1 : Int32) (q2 : Nat) {r : JX} (F : jFin LX false (oU r) κ) (hq2 : isCr q2 = true) : ∀ (X : JX) (v3 : Int32), l_X4_meetAllIn_2 v1 q2 X v3 = some r → J LX 4 κ X 2 [(0, .ref (jad κ (44))), (1, .int v1), (2, .ref (jad κ q2)), (3, .int v3)] [] := by
  refine j_loop2 (P := fun X v3 => J LX 4 κ X 2 [(0, .ref (jad κ (44))), (1, .int v1), (2, .ref (jad κ q2)), (3, .int v3)] []) (fun rec2 hrec2 X v3 hr => ?_) 1000
  unfold lb_X4_meetAllIn_2 at hr
  refine j_iload_n K dX4_meetAllIn_2 3 rfl ?_
  refine j_bipush K dX4_meetAllIn_3 (v := 60) rfl ?_
  refine j_icmp_ge K dX4_meetAllIn_5 (tgt := 72) (by decide) hr (fun hr => ?_) (fun hr => ?_)
  · exact j_return K dX4_meetAllIn_72 rfl F hr rfl
  · refine j_iload_n K dX4_meetAllIn_8 1 rfl ?_
    refine j_iconst K dX4_meetAllIn_9 (v := -1) rfl ?_
    refine j_icmp_eq K dX4_meetAllIn_10 (tgt := 66) (by decide) hr (fun hr => ?_) (fun hr => ?_)
    · exact j_sub [0, 1, 2, 3] rfl (jb_X4_meetAllIn_66 K _ _ _ _ F hq2 rec2 hrec2 hr)
    · refine j_aload_n K dX4_meetAllIn_13 0 rfl ?_
      refine j_get K (v := .ref (jad κ (1))) fl_X4_25 rfl (Nat.le_of_ble_eq_true rfl) (by decide) rfl dX4_meetAllIn_14 ?_
      refine j_iload_n K dX4_meetAllIn_17 3 rfl ?_
      refine j_vI1 K (ci := 9) hr (fun v h => c_X9_parentOf X v3 h) ml_X4_167 ⟨_, rfl, rfl⟩ rfl (Nat.le_of_ble_eq_true rfl) (by decide) rfl (by decide) (by decide) (Nat.le_of_ble_eq_true rfl) dX4_meetAllIn_18 (fun t1 h hr => ?_)
      refine j_iload_n K dX4_meetAllIn_21 1 rfl ?_
      refine j_icmp_ne K dX4_meetAllIn_22 (tgt := 66) (by decide) hr (fun hr => ?_) (fun hr => ?_)
      · exact j_sub [0, 1, 2, 3] rfl (jb_X4_meetAllIn_66 K _ _ _ _ F hq2 rec2 hrec2 hr)
      · refine j_aload_n K dX4_meetAllIn_25 2 rfl ?_
        refine j_iload_n K dX4_meetAllIn_26 3 rfl ?_
        refine j_vU1 K (ci := 1) hr (fun v h => c_X1_meet X q2 v3 hq2 h) ml_X4_200 ⟨_, rfl, rfl⟩ (cr0 hq2) (cr0l hq2) (by decide) rfl (by decide) (by decide) (Nat.le_of_ble_eq_true rfl) dX4_meetAllIn_27 (fun X2 h hr => ?_)
        refine j_aload_n K dX4_meetAllIn_30 0 rfl ?_
        refine j_get K (v := .ref (jad κ (35))) fl_X4_37 rfl (Nat.le_of_ble_eq_true rfl) (by decide) rfl dX4_meetAllIn_31 ?_
        refine j_iload_n K dX4_meetAllIn_34 3 rfl ?_
        refine j_vI1 K (ci := 2) hr (fun v h => c_X2_isBehind X2 v3 h) ml_X4_203 ⟨_, rfl, rfl⟩ rfl (Nat.le_of_ble_eq_true rfl) (by decide) rfl (by decide) (by decide) (Nat.le_of_ble_eq_true rfl) dX4_meetAllIn_35 (fun t3 h hr => ?_)
        refine j_if_eq K dX4_meetAllIn_38 (tgt := 50) (by decide) hr (fun hr => ?_) (fun hr => ?_)
        · exact j_sub [0, 1, 2, 3] rfl (jb_X4_meetAllIn_50 K _ _ _ _ F hq2 rec2 hrec2 hr)
        · refine j_aload_n K dX4_meetAllIn_41 0 rfl ?_
          refine j_get K (v := .ref (jad κ (45))) fl_X4_12 rfl (Nat.le_of_ble_eq_true rfl) (by decide) rfl dX4_meetAllIn_42 ?_
          refine j_iload_n K dX4_meetAllIn_45 3 rfl ?_
          refine j_iconst K dX4_meetAllIn_46 (v := 1) rfl ?_
          refine j_vU2 K (ci := 0) hr (fun v h => c_X0_add X2 v3 (1) h) ml_X4_55 ⟨_, rfl, rfl⟩ rfl (Nat.le_of_ble_eq_true rfl) (by decide) rfl (by decide) (by decide) (Nat.le_of_ble_eq_true rfl) dX4_meetAllIn_47 (fun X4 h hr => ?_)
          exact j_sub [0, 1, 2, 3] rfl (jb_X4_meetAllIn_50 K _ _ _ _ F hq2 rec2 hrec2 hr)
theorem jf_X4_meetAllIn {κ : JK} (K : jOk 4 cX4_meetAllIn RX4 none 2 κ) (X : JX) (v1 : Int32) (q2 : Nat) {r : JX} (F : jFin LX false (oU r) κ) (hq2 : isCr q2 = true) (hr : f_X4_meetAllIn X v1 q2 = some r) : J LX 4 κ X 0 [(0, .ref (jad κ (44))), (1, .int v1), (2, .ref (jad κ q2))] [] := by
  unfold f_X4_meetAllIn at hr
  refine j_iconst K dX4_meetAllIn_0 (v := 0) rfl ?_
  refine j_istore_n K dX4_meetAllIn_1 (by decide) ?_
  exact j_sub [1, 2, 3, 0] rfl (jl_X4_meetAllIn_2 K _ _ F hq2 _ _ hr)
theorem c_X4_meetAllIn (X : JX) (v1 : Int32) (q2 : Nat) {r : JX} (hq2 : isCr q2 = true) (hr : f_X4_meetAllIn X v1 q2 = some r) : Cal LX yX4_meetAllIn cX4_meetAllIn 4 none 2 (fun ad => [.ref (ad (44)), .int v1, .ref (ad q2)]) X (fun ad => oU r) :=
  Cal.of (own := RX4) (fun ad => [(0, .ref (ad (44))), (1, .int v1), (2, .ref (ad q2))]) (by decide) rfl (fun _ => Nat.le_of_ble_eq_true rfl) (fun _ => rfl) (fun κ K F => jf_X4_meetAllIn K X v1 q2 F hq2 hr)
theorem jb_X4_lookAtUnmet_36 {κ : JK} (K : jOk 3 cX4_lookAtUnmet RX4 none 1 κ) (X : JX) (q1 : Nat) (v2 : Int32) {r : JX} (F : jFin LX false (oU r) κ) (hq1 : isCr q1 = true) (rec2 : JX → Int32 → Option JX) (hrec2 : ∀ (X : JX) (v2 : Int32), rec2 X v2 = some r → J LX 3 κ X 2 [(0, .ref (jad κ (44))), (1, .ref (jad κ q1)), (2, .int v2)] []) (hr : b_X4_lookAtUnmet_36 rec2 X q1 v2 = some r) : J LX 3 κ X 36 [(0, .ref (jad κ (44))), (1, .ref (jad κ q1)), (2, .int v2)] [] := by
  unfold b_X4_lookAtUnmet_36 at hr
  refine j_iincV K dX4_lookAtUnmet_36 (v := 1) 2 rfl rfl (by decide) hr (fun t4 hr => ?_)
  refine j_goto K dX4_lookAtUnmet_39 (tgt := 2) (by decide) ?_
  exact j_sub [1, 2, 0] rfl (hrec2 _ _ hr)
theorem jl_X4_lookAtUnmet_2 {κ : JK} (K : jOk 3 cX4_lookAtUnmet RX4 none 1 κ) (q1 : Nat) {r : JX} (F : jFin LX false (oU r) κ) (hq1 : isCr q1 = true) : ∀ (X : JX) (v2 : Int32), l_X4_lookAtUnmet_2 q1 X v2 = some r → J LX 3 κ X 2 [(0, .ref (jad κ (44))), (1, .ref (jad κ q1)), (2, .int v2)] [] := by
  refine j_loop2 (P := fun X v2 => J LX 3 κ X 2 [(0, .ref (jad κ (44))), (1, .ref (jad κ q1)), (2, .int v2)] []) (fun rec2 hrec2 X v2 hr => ?_) 1000
  unfold lb_X4_lookAtUnmet_2 at hr
  refine j_iload_n K dX4_lookAtUnmet_2 2 rfl ?_
  refine j_bipush K dX4_lookAtUnmet_3 (v := 60) rfl ?_
  refine j_icmp_ge K dX4_lookAtUnmet_5 (tgt := 42) (by decide) hr (fun hr => ?_) (fun hr => ?_)
  · exact j_return K dX4_lookAtUnmet_42 rfl F hr rfl
  · refine j_aload_n K dX4_lookAtUnmet_8 0 rfl ?_
    refine j_get K (v := .ref (jad κ (35))) fl_X4_37 rfl (Nat.le_of_ble_eq_true rfl) (by decide) rfl dX4_lookAtUnmet_9 ?_
    refine j_iload_n K dX4_lookAtUnmet_12 2 rfl ?_
    refine j_vI1 K (ci := 2) hr (fun v h => c_X2_has X v2 h) ml_X4_49 ⟨_, rfl, rfl⟩ rfl (Nat.le_of_ble_eq_true rfl) (by decide) rfl (by decide) (by decide) (Nat.le_of_ble_eq_true rfl) dX4_lookAtUnmet_13 (fun t1 h hr => ?_)
    refine j_if_eq K dX4_lookAtUnmet_16 (tgt := 36) (by decide) hr (fun hr => ?_) (fun hr => ?_)
    · exact j_sub [0, 1, 2] rfl (jb_X4_lookAtUnmet_36 K _ _ _ F hq1 rec2 hrec2 hr)
    · refine j_aload_n K dX4_lookAtUnmet_19 1 rfl ?_
      refine j_iload_n K dX4_lookAtUnmet_20 2 rfl ?_
      refine j_vI1 K (ci := 1) hr (fun v h => c_X1_hasMet X q1 v2 hq1 h) ml_X4_212 ⟨_, rfl, rfl⟩ (cr0 hq1) (cr0l hq1) (by decide) rfl (by decide) (by decide) (Nat.le_of_ble_eq_true rfl) dX4_lookAtUnmet_21 (fun t2 h hr => ?_)
      refine j_if_ne K dX4_lookAtUnmet_24 (tgt := 36) (by decide) hr (fun hr => ?_) (fun hr => ?_)
      · exact j_sub [0, 1, 2] rfl (jb_X4_lookAtUnmet_36 K _ _ _ F hq1 rec2 hrec2 hr)
      · refine j_aload_n K dX4_lookAtUnmet_27 0 rfl ?_
        refine j_get K (v := .ref (jad κ (45))) fl_X4_12 rfl (Nat.le_of_ble_eq_true rfl) (by decide) rfl dX4_lookAtUnmet_28 ?_
        refine j_iload_n K dX4_lookAtUnmet_31 2 rfl ?_
        refine j_iconst K dX4_lookAtUnmet_32 (v := 1) rfl ?_
        refine j_vU2 K (ci := 0) hr (fun v h => c_X0_add X v2 (1) h) ml_X4_55 ⟨_, rfl, rfl⟩ rfl (Nat.le_of_ble_eq_true rfl) (by decide) rfl (by decide) (by decide) (Nat.le_of_ble_eq_true rfl) dX4_lookAtUnmet_33 (fun X3 h hr => ?_)
        exact j_sub [0, 1, 2] rfl (jb_X4_lookAtUnmet_36 K _ _ _ F hq1 rec2 hrec2 hr)
theorem jf_X4_lookAtUnmet {κ : JK} (K : jOk 3 cX4_lookAtUnmet RX4 none 1 κ) (X : JX) (q1 : Nat) {r : JX} (F : jFin LX false (oU r) κ) (hq1 : isCr q1 = true) (hr : f_X4_lookAtUnmet X q1 = some r) : J LX 3 κ X 0 [(0, .ref (jad κ (44))), (1, .ref (jad κ q1))] [] := by
  unfold f_X4_lookAtUnmet at hr
  refine j_iconst K dX4_lookAtUnmet_0 (v := 0) rfl ?_
  refine j_istore_n K dX4_lookAtUnmet_1 (by decide) ?_
  exact j_sub [1, 2, 0] rfl (jl_X4_lookAtUnmet_2 K _ F hq1 _ _ hr)
theorem c_X4_lookAtUnmet (X : JX) (q1 : Nat) {r : JX} (hq1 : isCr q1 = true) (hr : f_X4_lookAtUnmet X q1 = some r) : Cal LX yX4_lookAtUnmet cX4_lookAtUnmet 3 none 1 (fun ad => [.ref (ad (44)), .ref (ad q1)]) X (fun ad => oU r) :=
  Cal.of (own := RX4) (fun ad => [(0, .ref (ad (44))), (1, .ref (ad q1))]) (by decide) rfl (fun _ => Nat.le_of_ble_eq_true rfl) (fun _ => rfl) (fun κ K F => jf_X4_lookAtUnmet K X q1 F hq1 hr)
theorem jb_X4_crawlOn_39 {κ : JK} (K : jOk 4 cX4_crawlOn RX4 none 3 κ) (X : JX) (q2 : Nat) {r : JX} (F : jFin LX false (oU r) κ) (hq2 : isCr q2 = true) (hr : b_X4_crawlOn_39 X q2 = some r) : J LX 4 κ X 39 [(0, .ref (jad κ (44))), (2, .ref (jad κ q2))] [] := by
  unfold b_X4_crawlOn_39 at hr
  refine j_aload_n K dX4_crawlOn_39 1 rfl ?_
  refine j_getN K (v := .int (X q2 3)) fn_X4_190 (cr0 hq2) (cr0l hq2) (by decide) rfl dX4_crawlOn_40 ?_
  refine j_if_ne K dX4_crawlOn_43 (tgt := 56) (by decide) hr (fun hr => ?_) (fun hr => ?_)
  · exact j_return K dX4_crawlOn_56 rfl F hr rfl
  · refine j_aload_n K dX4_crawlOn_46 1 rfl ?_
    refine j_iconst K dX4_crawlOn_47 (v := 0) rfl ?_
    refine j_putzNV K fq_X4_193 (cr0 hq2) (cr0l hq2) (by decide) (fun _ => Nat.le_of_ble_eq_true rfl) (fun _ => rfl) dX4_crawlOn_48 hr (fun X4 hr => ?_)
    refine j_aload_n K dX4_crawlOn_51 0 rfl ?_
    refine j_aload_n K dX4_crawlOn_52 1 rfl ?_
    refine j_vU1 K (ci := 4) hr (fun v h => c_X4_lookAtUnmet X4 q2 hq2 h) ml_X4_196 ⟨_, rfl, rfl⟩ rfl (Nat.le_of_ble_eq_true rfl) (by decide) rfl (by decide) (by decide) (Nat.le_of_ble_eq_true rfl) dX4_crawlOn_53 (fun X5 h hr => ?_)
    exact j_return K dX4_crawlOn_56 rfl F hr rfl
theorem jb_X4_crawlOn_33 {κ : JK} (K : jOk 4 cX4_crawlOn RX4 none 3 κ) (X : JX) (q2 : Nat) (v3 : Int32) {r : JX} (F : jFin LX false (oU r) κ) (hq2 : isCr q2 = true) (hr : b_X4_crawlOn_33 X q2 v3 = some r) : J LX 4 κ X 33 [(0, .ref (jad κ (44))), (2, .ref (jad κ q2)), (3, .int v3)] [] := by
  unfold b_X4_crawlOn_33 at hr
  refine j_aload_n K dX4_crawlOn_33 0 rfl ?_
  refine j_iload_n K dX4_crawlOn_34 2 rfl ?_
  refine j_aload_n K dX4_crawlOn_35 1 rfl ?_
  refine j_vU2 K (ci := 4) hr (fun v h => c_X4_meetAllIn X v3 q2 hq2 h) ml_X4_186 ⟨_, rfl, rfl⟩ rfl (Nat.le_of_ble_eq_true rfl) (by decide) rfl (by decide) (by decide) (Nat.le_of_ble_eq_true rfl) dX4_crawlOn_36 (fun X3 h hr => ?_)
  exact j_sub [0, 1] rfl (jb_X4_crawlOn_39 K _ _ F hq2 hr)
theorem jf_X4_crawlOn {κ : JK} (K : jOk 4 cX4_crawlOn RX4 none 3 κ) (X : JX) (q1 : Nat) {r : JX} (F : jFin LX false (oU r) κ) (hq1 : isRt q1 = true) (hr : f_X4_crawlOn X q1 = some r) : J LX 4 κ X 0 [(0, .ref (jad κ (44))), (1, .ref (jad κ q1))] [] := by
  unfold f_X4_crawlOn at hr
  refine j_aload_n K dX4_crawlOn_0 1 rfl ?_
  refine j_getN K (v := .ref (jad κ (q1 + 3))) fn_X4_170 (rt0 hq1) (rt0l hq1) (by decide) rfl dX4_crawlOn_1 ?_
  refine j_astore_n K dX4_crawlOn_4 (by decide) ?_
  refine j_aload_n K dX4_crawlOn_5 0 rfl ?_
  refine j_vM0 K (ci := 1) hr (fun v h => c_X1_takeFirst X (q1 + 3) (rtc hq1) h) ml_X4_174 ⟨_, rfl, rfl⟩ (cr0 (rtc hq1)) (cr0l (rtc hq1)) (by decide) rfl (by decide) (by decide) (Nat.le_of_ble_eq_true rfl) dX4_crawlOn_6 (fun t1 h hr => ?_)
  refine j_istore_n K dX4_crawlOn_9 (by decide) ?_
  refine j_iload_n K dX4_crawlOn_10 0 rfl ?_
  refine j_aload_n K dX4_crawlOn_11 3 rfl ?_
  refine j_getN K (v := .int (t1.2 q1 3)) fn_X4_178 (rt0 hq1) (rt0l hq1) (by decide) rfl dX4_crawlOn_12 ?_
  refine j_icmp_eq K dX4_crawlOn_15 (tgt := 33) (by decide) hr (fun hr => ?_) (fun hr => ?_)
  · exact j_sub [2, 1, 0] rfl (jb_X4_crawlOn_33 K _ _ _ F (rtc hq1) hr)
  · refine j_aload_n K dX4_crawlOn_18 2 rfl ?_
    refine j_get K (v := .ref (jad κ (1))) fl_X4_25 rfl (Nat.le_of_ble_eq_true rfl) (by decide) rfl dX4_crawlOn_19 ?_
    refine j_iload_n K dX4_crawlOn_22 0 rfl ?_
    refine j_aload_n K dX4_crawlOn_23 3 rfl ?_
    refine j_getN K (v := .int (t1.2 q1 3)) fn_X4_178 (rt0 hq1) (rt0l hq1) (by decide) rfl dX4_crawlOn_24 ?_
    refine j_vI2 K (ci := 9) hr (fun v h => c_X9_isBelow t1.2 t1.1 (t1.2 q1 3) h) ml_X4_182 ⟨_, rfl, rfl⟩ rfl (Nat.le_of_ble_eq_true rfl) (by decide) rfl (by decide) (by decide) (Nat.le_of_ble_eq_true rfl) dX4_crawlOn_27 (fun t2 h hr => ?_)
    refine j_if_eq K dX4_crawlOn_30 (tgt := 39) (by decide) hr (fun hr => ?_) (fun hr => ?_)
    · exact j_sub [2, 1] rfl (jb_X4_crawlOn_39 K _ _ F (rtc hq1) hr)
    · exact j_sub [2, 1, 0] rfl (jb_X4_crawlOn_33 K _ _ _ F (rtc hq1) hr)
theorem c_X4_crawlOn (X : JX) (q1 : Nat) {r : JX} (hq1 : isRt q1 = true) (hr : f_X4_crawlOn X q1 = some r) : Cal LX yX4_crawlOn cX4_crawlOn 4 none 3 (fun ad => [.ref (ad (44)), .ref (ad q1)]) X (fun ad => oU r) :=
  Cal.of (own := RX4) (fun ad => [(0, .ref (ad (44))), (1, .ref (ad q1))]) (by decide) rfl (fun _ => Nat.le_of_ble_eq_true rfl) (fun _ => rfl) (fun κ K F => jf_X4_crawlOn K X q1 F hq1 hr)
theorem jb_X4_hear_42 {κ : JK} (K : jOk 2 cX4_hear RX4 none 3 κ) (X : JX) (q1 : Nat) (s0 : Int32) (s1 : Int32) {r : JX} (F : jFin LX false (oU r) κ) (hq1 : isRt q1 = true) (hr : b_X4_hear_42 X q1 s0 s1 = some r) : J LX 2 κ X 42 [(1, .ref (jad κ q1))] [.int s0, .int s1, .ref (jad κ (45))] := by
  unfold b_X4_hear_42 at hr
  refine j_vU2 K (ci := 0) hr (fun v h => c_X0_add X s1 s0 h) ml_X4_55 ⟨_, rfl, rfl⟩ rfl (Nat.le_of_ble_eq_true rfl) (by decide) rfl (by decide) (by decide) (Nat.le_of_ble_eq_true rfl) dX4_hear_42 (fun X3 h hr => ?_)
  refine j_aload_n K dX4_hear_45 0 rfl ?_
  refine j_vU0 K (ci := 7) hr (fun v h => c_X7_takeFirst X3 q1 hq1 h) ml_X4_109 ⟨_, rfl, rfl⟩ (rt0 hq1) (rt0l hq1) (by decide) rfl (by decide) (by decide) (Nat.le_of_ble_eq_true rfl) dX4_hear_46 (fun X4 h hr => ?_)
  exact j_return K dX4_hear_49 rfl F hr rfl
theorem jf_X4_hear {κ : JK} (K : jOk 2 cX4_hear RX4 none 3 κ) (X : JX) (q1 : Nat) {r : JX} (F : jFin LX false (oU r) κ) (hq1 : isRt q1 = true) (hr : f_X4_hear X q1 = some r) : J LX 2 κ X 0 [(0, .ref (jad κ (44))), (1, .ref (jad κ q1))] [] := by
  unfold f_X4_hear at hr
  refine j_aload_n K dX4_hear_0 1 rfl ?_
  refine j_getN K (v := .int (X q1 5)) fn_X4_93 (rt0 hq1) (rt0l hq1) (by decide) rfl dX4_hear_1 ?_
  refine j_if_eq K dX4_hear_4 (tgt := 17) (by decide) hr (fun hr => ?_) (fun hr => ?_)
  · refine j_aload_n K dX4_hear_17 0 rfl ?_
    refine j_get K (v := .ref (jad κ (45))) fl_X4_12 rfl (Nat.le_of_ble_eq_true rfl) (by decide) rfl dX4_hear_18 ?_
    refine j_aload_n K dX4_hear_21 1 rfl ?_
    refine j_getN K (v := .ref (jad κ (q1 + 2))) fn_X4_102 (rt0 hq1) (rt0l hq1) (by decide) rfl dX4_hear_22 ?_
    refine j_iconst K dX4_hear_25 (v := 0) rfl ?_
    refine j_iaload K (z := 8) (rt2 hq1) (rt2l hq1) dX4_hear_26 hr (fun hr => ?_)
    refine j_aload_n K dX4_hear_27 1 rfl ?_
    refine j_getN K (v := .ref (jad κ (q1 + 1))) fn_X4_106 (rt0 hq1) (rt0l hq1) (by decide) rfl dX4_hear_28 ?_
    refine j_iconst K dX4_hear_31 (v := 0) rfl ?_
    refine j_iaload K (z := 8) (rt1 hq1) (rt1l hq1) dX4_hear_32 hr (fun hr => ?_)
    refine j_iconst K dX4_hear_33 (v := 3) rfl ?_
    refine j_icmp_ne K dX4_hear_34 (tgt := 41) (by decide) hr (fun hr => ?_) (fun hr => ?_)
    · refine j_iconst K dX4_hear_41 (v := 1) rfl ?_
      exact j_sub [1] rfl (jb_X4_hear_42 K _ _ _ _ F hq1 hr)
    · refine j_iconst K dX4_hear_37 (v := 2) rfl ?_
      refine j_goto K dX4_hear_38 (tgt := 42) (by decide) ?_
      exact j_sub [1] rfl (jb_X4_hear_42 K _ _ _ _ F hq1 hr)
  · refine j_aload_n K dX4_hear_7 1 rfl ?_
    refine j_iconst K dX4_hear_8 (v := 0) rfl ?_
    refine j_putzNV K fq_X4_93 (rt0 hq1) (rt0l hq1) (by decide) (fun _ => Nat.le_of_ble_eq_true rfl) (fun _ => rfl) dX4_hear_9 hr (fun X1 hr => ?_)
    refine j_aload_n K dX4_hear_12 1 rfl ?_
    refine j_vU0 K (ci := 7) hr (fun v h => c_X7_beginCrawl X1 q1 hq1 h) ml_X4_99 ⟨_, rfl, rfl⟩ (rt0 hq1) (rt0l hq1) (by decide) rfl (by decide) (by decide) (Nat.le_of_ble_eq_true rfl) dX4_hear_13 (fun X2 h hr => ?_)
    exact j_return K dX4_hear_16 rfl F hr rfl
theorem c_X4_hear (X : JX) (q1 : Nat) {r : JX} (hq1 : isRt q1 = true) (hr : f_X4_hear X q1 = some r) : Cal LX yX4_hear cX4_hear 2 none 3 (fun ad => [.ref (ad (44)), .ref (ad q1)]) X (fun ad => oU r) :=
  Cal.of (own := RX4) (fun ad => [(0, .ref (ad (44))), (1, .ref (ad q1))]) (by decide) rfl (fun _ => Nat.le_of_ble_eq_true rfl) (fun _ => rfl) (fun κ K F => jf_X4_hear K X q1 F hq1 hr)
theorem jf_X4_doNext {κ : JK} (K : jOk 5 cX4_doNext RX4 (some .int) 5 κ) (X : JX) (v1 : Int32) {r : (Int32 × JX)} (F : jFin LX false (oM r) κ) (hr : f_X4_doNext X v1 = some r) : J LX 5 κ X 0 [(0, .ref (jad κ (44))), (1, .int v1)] [] := by
  unfold f_X4_doNext at hr
  refine j_aload_n K dX4_doNext_0 0 rfl ?_
  refine j_get K (v := .ref (jad κ (11))) fl_X4_29 rfl (Nat.le_of_ble_eq_true rfl) (by decide) rfl dX4_doNext_1 ?_
  refine j_vO0 K (ci := 8) hr (fun v h => c_X8_firstNoisy X h) ml_X4_70 ⟨_, rfl, rfl⟩ rfl (Nat.le_of_ble_eq_true rfl) (by decide) rfl (by decide) (by decide) (Nat.le_of_ble_eq_true rfl) dX4_doNext_4 (fun h hr => ?_) (fun q2 h hr => ?_)
  · refine j_astore_nN K dX4_doNext_7 (by decide) ?_
    refine j_aload_nN K dX4_doNext_8 0 rfl ?_
    refine j_ifnullN K dX4_doNext_9 (tgt := 19) (by decide) ?_
    refine j_aload_n K dX4_doNext_19 1 rfl ?_
    refine j_get K (v := .ref (jad κ (45))) fl_X4_12 rfl (Nat.le_of_ble_eq_true rfl) (by decide) rfl dX4_doNext_20 ?_
    refine j_vI0 K (ci := 0) hr (fun v h => c_X0_firstReady X h) ml_X4_80 ⟨_, rfl, rfl⟩ rfl (Nat.le_of_ble_eq_true rfl) (by decide) rfl (by decide) (by decide) (Nat.le_of_ble_eq_true rfl) dX4_doNext_23 (fun t3 h hr => ?_)
    refine j_istore_n K dX4_doNext_26 (by decide) ?_
    refine j_iload_n K dX4_doNext_27 0 rfl ?_
    refine j_iconst K dX4_doNext_28 (v := -1) rfl ?_
    refine j_icmp_eq K dX4_doNext_29 (tgt := 39) (by decide) hr (fun hr => ?_) (fun hr => ?_)
    · refine j_aload_n K dX4_doNext_39 2 rfl ?_
      refine j_get K (v := .ref (jad κ (11))) fl_X4_29 rfl (Nat.le_of_ble_eq_true rfl) (by decide) rfl dX4_doNext_40 ?_
      refine j_vO0 K (ci := 8) hr (fun v h => c_X8_firstCrawled X h) ml_X4_87 ⟨_, rfl, rfl⟩ rfl (Nat.le_of_ble_eq_true rfl) (by decide) rfl (by decide) (by decide) (Nat.le_of_ble_eq_true rfl) dX4_doNext_43 (fun h hr => ?_) (fun q5 h hr => ?_)
      · refine j_astoreN K dX4_doNext_46 (by decide) ?_
        refine j_aloadN K dX4_doNext_48 0 rfl ?_
        refine j_ifnullN K dX4_doNext_50 (tgt := 61) (by decide) ?_
        refine j_iconst K dX4_doNext_61 (v := 0) rfl ?_
        exact j_ireturn K dX4_doNext_62 rfl F hr rfl
      · refine j_guard hr (fun hq5 hr => ?_)
        refine j_astore K dX4_doNext_46 (by decide) ?_
        refine j_aload K dX4_doNext_48 0 rfl ?_
        refine j_ifnull K dX4_doNext_50 ?_
        refine j_aload_n K dX4_doNext_53 3 rfl ?_
        refine j_aload K dX4_doNext_54 0 rfl ?_
        refine j_vU1 K (ci := 4) hr (fun v h => c_X4_crawlOn X q5 hq5 h) ml_X4_90 ⟨_, rfl, rfl⟩ rfl (Nat.le_of_ble_eq_true rfl) (by decide) rfl (by decide) (by decide) (Nat.le_of_ble_eq_true rfl) dX4_doNext_56 (fun X6 h hr => ?_)
        refine j_iconst K dX4_doNext_59 (v := 1) rfl ?_
        exact j_ireturn K dX4_doNext_60 rfl F hr rfl
    · refine j_aload_n K dX4_doNext_32 2 rfl ?_
      refine j_iload_n K dX4_doNext_33 0 rfl ?_
      refine j_iload_n K dX4_doNext_34 3 rfl ?_
      refine j_vM2 K (ci := 4) hr (fun v h => c_X4_act X t3 v1 h) ml_X4_83 ⟨_, rfl, rfl⟩ rfl (Nat.le_of_ble_eq_true rfl) (by decide) rfl (by decide) (by decide) (Nat.le_of_ble_eq_true rfl) dX4_doNext_35 (fun t7 h hr => ?_)
      exact j_ireturn K dX4_doNext_38 rfl F hr rfl
  · refine j_guard hr (fun hq2 hr => ?_)
    refine j_astore_n K dX4_doNext_7 (by decide) ?_
    refine j_aload_n K dX4_doNext_8 0 rfl ?_
    refine j_ifnull K dX4_doNext_9 ?_
    refine j_aload_n K dX4_doNext_12 1 rfl ?_
    refine j_aload_n K dX4_doNext_13 0 rfl ?_
    refine j_vU1 K (ci := 4) hr (fun v h => c_X4_hear X q2 hq2 h) ml_X4_76 ⟨_, rfl, rfl⟩ rfl (Nat.le_of_ble_eq_true rfl) (by decide) rfl (by decide) (by decide) (Nat.le_of_ble_eq_true rfl) dX4_doNext_14 (fun X8 h hr => ?_)
    refine j_iconst K dX4_doNext_17 (v := 1) rfl ?_
    exact j_ireturn K dX4_doNext_18 rfl F hr rfl
theorem c_X4_doNext (X : JX) (v1 : Int32) {r : (Int32 × JX)} (hr : f_X4_doNext X v1 = some r) : Cal LX yX4_doNext cX4_doNext 5 (some .int) 5 (fun ad => [.ref (ad (44)), .int v1]) X (fun ad => oM r) :=
  Cal.of (own := RX4) (fun ad => [(0, .ref (ad (44))), (1, .int v1)]) (by decide) rfl (fun _ => Nat.le_of_ble_eq_true rfl) (fun _ => rfl) (fun κ K F => jf_X4_doNext K X v1 F hr)
theorem jb_X4_doSteps_42 {κ : JK} (K : jOk 5 cX4_doSteps RX4 (some .int) 6 κ) (X : JX) (v2 : Int32) {r : (Int32 × JX)} (F : jFin LX false (oM r) κ) (hr : b_X4_doSteps_42 X v2 = some r) : J LX 5 κ X 42 [(0, .ref (jad κ (44))), (2, .int v2)] [] := by
  unfold b_X4_doSteps_42 at hr
  refine j_aload_n K dX4_doSteps_42 0 rfl ?_
  refine j_get K (v := .ref (jad κ (45))) fl_X4_12 rfl (Nat.le_of_ble_eq_true rfl) (by decide) rfl dX4_doSteps_43 ?_
  refine j_vU0 K (ci := 0) hr (fun v h => c_X0_endWork X h) ml_X4_63 ⟨_, rfl, rfl⟩ rfl (Nat.le_of_ble_eq_true rfl) (by decide) rfl (by decide) (by decide) (Nat.le_of_ble_eq_true rfl) dX4_doSteps_46 (fun X4 h hr => ?_)
  refine j_aload_n K dX4_doSteps_49 0 rfl ?_
  refine j_get K (v := .ref (jad κ (49))) fl_X4_21 rfl (Nat.le_of_ble_eq_true rfl) (by decide) rfl dX4_doSteps_50 ?_
  refine j_aload_n K dX4_doSteps_53 0 rfl ?_
  refine j_get K (v := .ref (jad κ (35))) fl_X4_37 rfl (Nat.le_of_ble_eq_true rfl) (by decide) rfl dX4_doSteps_54 ?_
  refine j_vU1 K (ci := 3) hr (fun v h => c_X3_endWork X4 h) ml_X4_66 ⟨_, rfl, rfl⟩ rfl (Nat.le_of_ble_eq_true rfl) (by decide) rfl (by decide) (by decide) (Nat.le_of_ble_eq_true rfl) dX4_doSteps_57 (fun X5 h hr => ?_)
  refine j_aload_n K dX4_doSteps_60 0 rfl ?_
  refine j_get K (v := .ref (jad κ (35))) fl_X4_37 rfl (Nat.le_of_ble_eq_true rfl) (by decide) rfl dX4_doSteps_61 ?_
  refine j_vU0 K (ci := 2) hr (fun v h => c_X2_endWork X5 h) ml_X4_69 ⟨_, rfl, rfl⟩ rfl (Nat.le_of_ble_eq_true rfl) (by decide) rfl (by decide) (by decide) (Nat.le_of_ble_eq_true rfl) dX4_doSteps_64 (fun X6 h hr => ?_)
  refine j_iload_n K dX4_doSteps_67 1 rfl ?_
  exact j_ireturn K dX4_doSteps_68 rfl F hr rfl
theorem jl_X4_doSteps_4 {κ : JK} (K : jOk 5 cX4_doSteps RX4 (some .int) 6 κ) (v1 : Int32) {r : (Int32 × JX)} (F : jFin LX false (oM r) κ) : ∀ (X : JX) (v2 : Int32) (v3 : Int32), l_X4_doSteps_4 v1 X v2 v3 = some r → J LX 5 κ X 4 [(0, .ref (jad κ (44))), (1, .int v1), (2, .int v2), (3, .int v3)] [] := by
  refine j_loop3 (P := fun X v2 v3 => J LX 5 κ X 4 [(0, .ref (jad κ (44))), (1, .int v1), (2, .int v2), (3, .int v3)] []) (fun rec4 hrec4 X v2 v3 hr => ?_) 1000
  unfold lb_X4_doSteps_4 at hr
  refine j_iload_n K dX4_doSteps_4 3 rfl ?_
  refine j_iload_n K dX4_doSteps_5 1 rfl ?_
  refine j_icmp_ge K dX4_doSteps_6 (tgt := 42) (by decide) hr (fun hr => ?_) (fun hr => ?_)
  · exact j_sub [0, 2] rfl (jb_X4_doSteps_42 K _ _ F hr)
  · refine j_iload_n K dX4_doSteps_9 2 rfl ?_
    refine j_iload_n K dX4_doSteps_10 1 rfl ?_
    refine j_icmp_ge K dX4_doSteps_11 (tgt := 42) (by decide) hr (fun hr => ?_) (fun hr => ?_)
    · exact j_sub [0, 2] rfl (jb_X4_doSteps_42 K _ _ F hr)
    · refine j_aload_n K dX4_doSteps_14 0 rfl ?_
      refine j_iload_n K dX4_doSteps_15 1 rfl ?_
      refine j_iload_n K dX4_doSteps_16 2 rfl ?_
      refine j_isub K dX4_doSteps_17 ?_
      refine j_vM1 K (ci := 4) hr (fun v h => c_X4_doNext X (v1 - v2) h) ml_X4_59 ⟨_, rfl, rfl⟩ rfl (Nat.le_of_ble_eq_true rfl) (by decide) rfl (by decide) (by decide) (Nat.le_of_ble_eq_true rfl) dX4_doSteps_18 (fun t1 h hr => ?_)
      refine j_istore K dX4_doSteps_21 (by decide) ?_
      refine j_iload K dX4_doSteps_23 0 rfl ?_
      refine j_if_ne K dX4_doSteps_25 (tgt := 31) (by decide) hr (fun hr => ?_) (fun hr => ?_)
      · refine j_iload_n K dX4_doSteps_31 3 rfl ?_
        refine j_iload K dX4_doSteps_32 0 rfl ?_
        refine j_iadd K dX4_doSteps_34 ?_
        refine j_istoreV_n K dX4_doSteps_35 (by decide) hr (fun t2 hr => ?_)
        refine j_iincV K dX4_doSteps_36 (v := 1) 4 rfl rfl (by decide) hr (fun t3 hr => ?_)
        refine j_goto K dX4_doSteps_39 (tgt := 4) (by decide) ?_
        exact j_sub [3, 4, 1, 0] rfl (hrec4 _ _ _ hr)
      · refine j_goto K dX4_doSteps_28 (tgt := 42) (by decide) ?_
        exact j_sub [1, 3] rfl (jb_X4_doSteps_42 K _ _ F hr)
theorem jf_X4_doSteps {κ : JK} (K : jOk 5 cX4_doSteps RX4 (some .int) 6 κ) (X : JX) (v1 : Int32) {r : (Int32 × JX)} (F : jFin LX false (oM r) κ) (hr : f_X4_doSteps X v1 = some r) : J LX 5 κ X 0 [(0, .ref (jad κ (44))), (1, .int v1)] [] := by
  unfold f_X4_doSteps at hr
  refine j_iconst K dX4_doSteps_0 (v := 0) rfl ?_
  refine j_istore_n K dX4_doSteps_1 (by decide) ?_
  refine j_iconst K dX4_doSteps_2 (v := 0) rfl ?_
  refine j_istore_n K dX4_doSteps_3 (by decide) ?_
  exact j_sub [2, 3, 1, 0] rfl (jl_X4_doSteps_4 K _ F _ _ _ hr)
theorem c_X4_doSteps (X : JX) (v1 : Int32) {r : (Int32 × JX)} (hr : f_X4_doSteps X v1 = some r) : Cal LX yX4_doSteps cX4_doSteps 5 (some .int) 6 (fun ad => [.ref (ad (44)), .int v1]) X (fun ad => oM r) :=
  Cal.of (own := RX4) (fun ad => [(0, .ref (ad (44))), (1, .int v1)]) (by decide) rfl (fun _ => Nat.le_of_ble_eq_true rfl) (fun _ => rfl) (fun κ K F => jf_X4_doSteps K X v1 F hr)
theorem jb_X4_lookAtAllEntries_28 {κ : JK} (K : jOk 2 cX4_lookAtAllEntries RX4 none 1 κ) (X : JX) (v1 : Int32) {r : JX} (F : jFin LX false (oU r) κ) (rec2 : JX → Int32 → Option JX) (hrec2 : ∀ (X : JX) (v1 : Int32), rec2 X v1 = some r → J LX 2 κ X 2 [(0, .ref (jad κ (44))), (1, .int v1)] []) (hr : b_X4_lookAtAllEntries_28 rec2 X v1 = some r) : J LX 2 κ X 28 [(0, .ref (jad κ (44))), (1, .int v1)] [] := by
  unfold b_X4_lookAtAllEntries_28 at hr
  refine j_iincV K dX4_lookAtAllEntries_28 (v := 1) 1 rfl rfl (by decide) hr (fun t3 hr => ?_)
  refine j_goto K dX4_lookAtAllEntries_31 (tgt := 2) (by decide) ?_
  exact j_sub [1, 0] rfl (hrec2 _ _ hr)
theorem jl_X4_lookAtAllEntries_2 {κ : JK} (K : jOk 2 cX4_lookAtAllEntries RX4 none 1 κ) {r : JX} (F : jFin LX false (oU r) κ) : ∀ (X : JX) (v1 : Int32), l_X4_lookAtAllEntries_2 X v1 = some r → J LX 2 κ X 2 [(0, .ref (jad κ (44))), (1, .int v1)] [] := by
  refine j_loop2 (P := fun X v1 => J LX 2 κ X 2 [(0, .ref (jad κ (44))), (1, .int v1)] []) (fun rec2 hrec2 X v1 hr => ?_) 1000
  unfold lb_X4_lookAtAllEntries_2 at hr
  refine j_iload_n K dX4_lookAtAllEntries_2 1 rfl ?_
  refine j_bipush K dX4_lookAtAllEntries_3 (v := 60) rfl ?_
  refine j_icmp_ge K dX4_lookAtAllEntries_5 (tgt := 34) (by decide) hr (fun hr => ?_) (fun hr => ?_)
  · exact j_return K dX4_lookAtAllEntries_34 rfl F hr rfl
  · refine j_aload_n K dX4_lookAtAllEntries_8 0 rfl ?_
    refine j_get K (v := .ref (jad κ (35))) fl_X4_37 rfl (Nat.le_of_ble_eq_true rfl) (by decide) rfl dX4_lookAtAllEntries_9 ?_
    refine j_iload_n K dX4_lookAtAllEntries_12 1 rfl ?_
    refine j_vI1 K (ci := 2) hr (fun v h => c_X2_has X v1 h) ml_X4_49 ⟨_, rfl, rfl⟩ rfl (Nat.le_of_ble_eq_true rfl) (by decide) rfl (by decide) (by decide) (Nat.le_of_ble_eq_true rfl) dX4_lookAtAllEntries_13 (fun t1 h hr => ?_)
    refine j_if_eq K dX4_lookAtAllEntries_16 (tgt := 28) (by decide) hr (fun hr => ?_) (fun hr => ?_)
    · exact j_sub [0, 1] rfl (jb_X4_lookAtAllEntries_28 K _ _ F rec2 hrec2 hr)
    · refine j_aload_n K dX4_lookAtAllEntries_19 0 rfl ?_
      refine j_get K (v := .ref (jad κ (45))) fl_X4_12 rfl (Nat.le_of_ble_eq_true rfl) (by decide) rfl dX4_lookAtAllEntries_20 ?_
      refine j_iload_n K dX4_lookAtAllEntries_23 1 rfl ?_
      refine j_iconst K dX4_lookAtAllEntries_24 (v := 1) rfl ?_
      refine j_vU2 K (ci := 0) hr (fun v h => c_X0_add X v1 (1) h) ml_X4_55 ⟨_, rfl, rfl⟩ rfl (Nat.le_of_ble_eq_true rfl) (by decide) rfl (by decide) (by decide) (Nat.le_of_ble_eq_true rfl) dX4_lookAtAllEntries_25 (fun X2 h hr => ?_)
      exact j_sub [0, 1] rfl (jb_X4_lookAtAllEntries_28 K _ _ F rec2 hrec2 hr)
theorem jf_X4_lookAtAllEntries {κ : JK} (K : jOk 2 cX4_lookAtAllEntries RX4 none 1 κ) (X : JX) {r : JX} (F : jFin LX false (oU r) κ) (hr : f_X4_lookAtAllEntries X = some r) : J LX 2 κ X 0 [(0, .ref (jad κ (44)))] [] := by
  unfold f_X4_lookAtAllEntries at hr
  refine j_iconst K dX4_lookAtAllEntries_0 (v := 0) rfl ?_
  refine j_istore_n K dX4_lookAtAllEntries_1 (by decide) ?_
  exact j_sub [1, 0] rfl (jl_X4_lookAtAllEntries_2 K F _ _ hr)
theorem c_X4_lookAtAllEntries (X : JX) {r : JX} (hr : f_X4_lookAtAllEntries X = some r) : Cal LX yX4_lookAtAllEntries cX4_lookAtAllEntries 2 none 1 (fun ad => [.ref (ad (44))]) X (fun ad => oU r) :=
  Cal.of (own := RX4) (fun ad => [(0, .ref (ad (44)))]) (by decide) rfl (fun _ => Nat.le_of_ble_eq_true rfl) (fun _ => rfl) (fun κ K F => jf_X4_lookAtAllEntries K X F hr)
theorem jb_X5_score_80 {κ : JK} (K : jOk 8 cX5_score RX5 (some .int) 0 κ) (X : JX) (v3 : Int32) (v4 : Int32) (v5 : Int32) (v6 : Int32) {r : Int32} (F : jFin LX false (oI X r) κ) (hr : b_X5_score_80 X v3 v4 v5 v6 = some r) : J LX 8 κ X 80 [(3, .int v3), (4, .int v4), (5, .int v5), (6, .int v6)] [] := by
  unfold b_X5_score_80 at hr
  refine j_iload_n K dX5_score_80 0 rfl ?_
  refine j_iconst K dX5_score_81 (v := -1) rfl ?_
  refine j_icmp_ne K dX5_score_82 (tgt := 88) (by decide) hr (fun hr => ?_) (fun hr => ?_)
  · refine j_iload K dX5_score_88 1 rfl ?_
    refine j_if_eq K dX5_score_90 (tgt := 98) (by decide) hr (fun hr => ?_) (fun hr => ?_)
    · refine j_iconst K dX5_score_98 (v := 0) rfl ?_
      exact j_ireturn K dX5_score_99 rfl F hr rfl
    · refine j_iload K dX5_score_93 2 rfl ?_
      refine j_if_ne K dX5_score_95 (tgt := 100) (by decide) hr (fun hr => ?_) (fun hr => ?_)
      · refine j_iload K dX5_score_100 1 rfl ?_
        refine j_iload K dX5_score_102 2 rfl ?_
        refine j_iadd K dX5_score_104 ?_
        refine j_iload K dX5_score_105 3 rfl ?_
        refine j_if_eq K dX5_score_107 (tgt := 115) (by decide) hr (fun hr => ?_) (fun hr => ?_)
        · refine j_iconst K dX5_score_115 (v := 0) rfl ?_
          refine j_iadd K dX5_score_116 ?_
          exact j_ireturn K dX5_score_117 rfl F hr rfl
        · refine j_bipush K dX5_score_110 (v := 10) rfl ?_
          refine j_goto K dX5_score_112 (tgt := 116) (by decide) ?_
          refine j_iadd K dX5_score_116 ?_
          exact j_ireturn K dX5_score_117 rfl F hr rfl
      · refine j_iconst K dX5_score_98 (v := 0) rfl ?_
        exact j_ireturn K dX5_score_99 rfl F hr rfl
  · refine j_iload K dX5_score_85 1 rfl ?_
    exact j_ireturn K dX5_score_87 rfl F hr rfl
theorem jb_X5_score_74 {κ : JK} (K : jOk 8 cX5_score RX5 (some .int) 0 κ) (X : JX) (q0 : Nat) (v1 : Int32) (v2 : Int32) (v3 : Int32) (v4 : Int32) (v5 : Int32) (v6 : Int32) (v7 : Int32) {r : Int32} (F : jFin LX false (oI X r) κ) (hq0 : isI20 q0 = true) (rec12 : Int32 → Int32 → Int32 → Int32 → Option Int32) (hrec12 : ∀ (v4 : Int32) (v5 : Int32) (v6 : Int32) (v7 : Int32), rec12 v4 v5 v6 v7 = some r → J LX 8 κ X 12 [(0, .ref (jad κ q0)), (1, .int v1), (2, .int v2), (3, .int v3), (4, .int v4), (5, .int v5), (6, .int v6), (7, .int v7)] []) (hr : b_X5_score_74 rec12 X q0 v1 v2 v3 v4 v5 v6 v7 = some r) : J LX 8 κ X 74 [(0, .ref (jad κ q0)), (1, .int v1), (2, .int v2), (3, .int v3), (4, .int v4), (5, .int v5), (6, .int v6), (7, .int v7)] [] := by
  unfold b_X5_score_74 at hr
  refine j_iincV K dX5_score_74 (v := 1) 7 rfl rfl (by decide) hr (fun t3 hr => ?_)
  refine j_goto K dX5_score_77 (tgt := 12) (by decide) ?_
  exact j_sub [1, 2, 3, 4, 5, 6, 7, 0] rfl (hrec12 _ _ _ _ hr)
theorem jb_X5_score_72 {κ : JK} (K : jOk 8 cX5_score RX5 (some .int) 0 κ) (X : JX) (q0 : Nat) (v1 : Int32) (v2 : Int32) (v3 : Int32) (v4 : Int32) (v5 : Int32) (v7 : Int32) (s0 : Int32) {r : Int32} (F : jFin LX false (oI X r) κ) (hq0 : isI20 q0 = true) (rec12 : Int32 → Int32 → Int32 → Int32 → Option Int32) (hrec12 : ∀ (v4 : Int32) (v5 : Int32) (v6 : Int32) (v7 : Int32), rec12 v4 v5 v6 v7 = some r → J LX 8 κ X 12 [(0, .ref (jad κ q0)), (1, .int v1), (2, .int v2), (3, .int v3), (4, .int v4), (5, .int v5), (6, .int v6), (7, .int v7)] []) (hr : b_X5_score_72 rec12 X q0 v1 v2 v3 v4 v5 v7 s0 = some r) : J LX 8 κ X 72 [(0, .ref (jad κ q0)), (1, .int v1), (2, .int v2), (3, .int v3), (4, .int v4), (5, .int v5), (7, .int v7)] [.int s0] := by
  unfold b_X5_score_72 at hr
  refine j_istore K dX5_score_72 (by decide) ?_
  exact j_sub [1, 2, 3, 4, 5, 6, 0, 7] rfl (jb_X5_score_74 K _ _ _ _ _ _ _ _ _ F hq0 rec12 hrec12 hr)
theorem jb_X5_score_36 {κ : JK} (K : jOk 8 cX5_score RX5 (some .int) 0 κ) (X : JX) (q0 : Nat) (v1 : Int32) (v2 : Int32) (v3 : Int32) (v4 : Int32) (v5 : Int32) (v6 : Int32) (v7 : Int32) {r : Int32} (F : jFin LX false (oI X r) κ) (hq0 : isI20 q0 = true) (rec12 : Int32 → Int32 → Int32 → Int32 → Option Int32) (hrec12 : ∀ (v4 : Int32) (v5 : Int32) (v6 : Int32) (v7 : Int32), rec12 v4 v5 v6 v7 = some r → J LX 8 κ X 12 [(0, .ref (jad κ q0)), (1, .int v1), (2, .int v2), (3, .int v3), (4, .int v4), (5, .int v5), (6, .int v6), (7, .int v7)] []) (hr : b_X5_score_36 rec12 X q0 v1 v2 v3 v4 v5 v6 v7 = some r) : J LX 8 κ X 36 [(0, .ref (jad κ q0)), (1, .int v1), (2, .int v2), (3, .int v3), (4, .int v4), (5, .int v5), (6, .int v6), (7, .int v7)] [] := by
  unfold b_X5_score_36 at hr
  refine j_aload_n K dX5_score_36 0 rfl ?_
  refine j_iload K dX5_score_37 7 rfl ?_
  refine j_iaload K (z := 20) (i20 hq0) (i20l hq0) dX5_score_39 hr (fun hr => ?_)
  refine j_iload_n K dX5_score_40 3 rfl ?_
  refine j_icmp_ne K dX5_score_41 (tgt := 74) (by decide) hr (fun hr => ?_) (fun hr => ?_)
  · exact j_sub [0, 1, 2, 3, 4, 5, 6, 7] rfl (jb_X5_score_74 K _ _ _ _ _ _ _ _ _ F hq0 rec12 hrec12 hr)
  · refine j_iincV K dX5_score_44 (v := 1) 5 rfl rfl (by decide) hr (fun t2 hr => ?_)
    refine j_iload K dX5_score_47 6 rfl ?_
    refine j_if_ne K dX5_score_49 (tgt := 67) (by decide) hr (fun hr => ?_) (fun hr => ?_)
    · refine j_iconst K dX5_score_67 (v := 1) rfl ?_
      refine j_goto K dX5_score_68 (tgt := 72) (by decide) ?_
      exact j_sub [1, 2, 3, 4, 5, 0, 7] rfl (jb_X5_score_72 K _ _ _ _ _ _ _ _ _ F hq0 rec12 hrec12 hr)
    · refine j_iload K dX5_score_52 7 rfl ?_
      refine j_if_le K dX5_score_54 (tgt := 71) (by decide) hr (fun hr => ?_) (fun hr => ?_)
      · refine j_iconst K dX5_score_71 (v := 0) rfl ?_
        exact j_sub [1, 2, 3, 4, 5, 0, 7] rfl (jb_X5_score_72 K _ _ _ _ _ _ _ _ _ F hq0 rec12 hrec12 hr)
      · refine j_aload_n K dX5_score_57 1 rfl ?_
        refine j_iload K dX5_score_58 7 rfl ?_
        refine j_iconst K dX5_score_60 (v := 1) rfl ?_
        refine j_isub K dX5_score_61 ?_
        refine j_iaload K (z := 20) (i20 hq0) (i20l hq0) dX5_score_62 hr (fun hr => ?_)
        refine j_iload_n K dX5_score_63 3 rfl ?_
        refine j_icmp_ne K dX5_score_64 (tgt := 71) (by decide) hr (fun hr => ?_) (fun hr => ?_)
        · refine j_iconst K dX5_score_71 (v := 0) rfl ?_
          exact j_sub [1, 2, 3, 4, 5, 0, 7] rfl (jb_X5_score_72 K _ _ _ _ _ _ _ _ _ F hq0 rec12 hrec12 hr)
        · refine j_iconst K dX5_score_67 (v := 1) rfl ?_
          refine j_goto K dX5_score_68 (tgt := 72) (by decide) ?_
          exact j_sub [1, 2, 3, 4, 5, 0, 7] rfl (jb_X5_score_72 K _ _ _ _ _ _ _ _ _ F hq0 rec12 hrec12 hr)
theorem jl_X5_score_12 {κ : JK} (K : jOk 8 cX5_score RX5 (some .int) 0 κ) (X : JX) (q0 : Nat) (v1 : Int32) (v2 : Int32) (v3 : Int32) {r : Int32} (F : jFin LX false (oI X r) κ) (hq0 : isI20 q0 = true) : ∀ (v4 : Int32) (v5 : Int32) (v6 : Int32) (v7 : Int32), l_X5_score_12 X q0 v1 v2 v3 v4 v5 v6 v7 = some r → J LX 8 κ X 12 [(0, .ref (jad κ q0)), (1, .int v1), (2, .int v2), (3, .int v3), (4, .int v4), (5, .int v5), (6, .int v6), (7, .int v7)] [] := by
  refine j_loop4 (P := fun v4 v5 v6 v7 => J LX 8 κ X 12 [(0, .ref (jad κ q0)), (1, .int v1), (2, .int v2), (3, .int v3), (4, .int v4), (5, .int v5), (6, .int v6), (7, .int v7)] []) (fun rec12 hrec12 v4 v5 v6 v7 hr => ?_) 1000
  unfold lb_X5_score_12 at hr
  refine j_iload K dX5_score_12 7 rfl ?_
  refine j_iload_n K dX5_score_14 1 rfl ?_
  refine j_icmp_ge K dX5_score_15 (tgt := 80) (by decide) hr (fun hr => ?_) (fun hr => ?_)
  · exact j_sub [3, 4, 5, 6] rfl (jb_X5_score_80 K _ _ _ _ _ F hr)
  · refine j_iload K dX5_score_18 7 rfl ?_
    refine j_aload_n K dX5_score_20 0 rfl ?_
    refine j_alen0 K (v := 20) (i20 hq0) (i20l hq0) rfl dX5_score_21 ?_
    refine j_icmp_ge K dX5_score_22 (tgt := 80) (by decide) hr (fun hr => ?_) (fun hr => ?_)
    · exact j_sub [3, 4, 5, 6] rfl (jb_X5_score_80 K _ _ _ _ _ F hr)
    · refine j_aload_n K dX5_score_25 0 rfl ?_
      refine j_iload K dX5_score_26 7 rfl ?_
      refine j_iaload K (z := 20) (i20 hq0) (i20l hq0) dX5_score_28 hr (fun hr => ?_)
      refine j_iload_n K dX5_score_29 2 rfl ?_
      refine j_icmp_ne K dX5_score_30 (tgt := 36) (by decide) hr (fun hr => ?_) (fun hr => ?_)
      · exact j_sub [0, 1, 2, 3, 4, 5, 6, 7] rfl (jb_X5_score_36 K _ _ _ _ _ _ _ _ _ F hq0 rec12 hrec12 hr)
      · refine j_iincV K dX5_score_33 (v := 1) 4 rfl rfl (by decide) hr (fun t1 hr => ?_)
        exact j_sub [1, 2, 3, 4, 0, 5, 6, 7] rfl (jb_X5_score_36 K _ _ _ _ _ _ _ _ _ F hq0 rec12 hrec12 hr)
theorem jf_X5_score {κ : JK} (K : jOk 8 cX5_score RX5 (some .int) 0 κ) (X : JX) (q0 : Nat) (v1 : Int32) (v2 : Int32) (v3 : Int32) {r : Int32} (F : jFin LX false (oI X r) κ) (hq0 : isI20 q0 = true) (hr : f_X5_score X q0 v1 v2 v3 = some r) : J LX 8 κ X 0 [(0, .ref (jad κ q0)), (1, .int v1), (2, .int v2), (3, .int v3)] [] := by
  unfold f_X5_score at hr
  refine j_iconst K dX5_score_0 (v := 0) rfl ?_
  refine j_istore K dX5_score_1 (by decide) ?_
  refine j_iconst K dX5_score_3 (v := 0) rfl ?_
  refine j_istore K dX5_score_4 (by decide) ?_
  refine j_iconst K dX5_score_6 (v := 0) rfl ?_
  refine j_istore K dX5_score_7 (by decide) ?_
  refine j_iconst K dX5_score_9 (v := 0) rfl ?_
  refine j_istore K dX5_score_10 (by decide) ?_
  exact j_sub [4, 5, 6, 7, 3, 2, 1, 0] rfl (jl_X5_score_12 K _ _ _ _ _ F hq0 _ _ _ _ hr)
theorem c_X5_score (X : JX) (q0 : Nat) (v1 : Int32) (v2 : Int32) (v3 : Int32) {r : Int32} (hq0 : isI20 q0 = true) (hr : f_X5_score X q0 v1 v2 v3 = some r) : Cal LX yX5_score cX5_score 8 (some .int) 0 (fun ad => [.ref (ad q0), .int v1, .int v2, .int v3]) X (fun ad => oI X r) :=
  Cal.of (own := RX5) (fun ad => [(0, .ref (ad q0)), (1, .int v1), (2, .int v2), (3, .int v3)]) (by decide) rfl (fun _ => Nat.le_of_ble_eq_true rfl) (fun _ => rfl) (fun κ K F => jf_X5_score K X q0 v1 v2 v3 F hq0 hr)
theorem jf_X5_scoreOf {κ : JK} (K : jOk 5 cX5_scoreOf RX5 (some .int) 2 κ) (X : JX) (v1 : Int32) (v2 : Int32) (v3 : Int32) (v4 : Int32) {r : Int32} (F : jFin LX false (oI X r) κ) (hr : f_X5_scoreOf X v1 v2 v3 v4 = some r) : J LX 5 κ X 0 [(0, .ref (jad κ (53))), (1, .int v1), (2, .int v2), (3, .int v3), (4, .int v4)] [] := by
  unfold f_X5_scoreOf at hr
  refine j_aload_n K dX5_scoreOf_0 0 rfl ?_
  refine j_get K (v := .ref (jad κ (1))) fl_X5_18 rfl (Nat.le_of_ble_eq_true rfl) (by decide) rfl dX5_scoreOf_1 ?_
  refine j_iload_n K dX5_scoreOf_4 2 rfl ?_
  refine j_vI1 K (ci := 9) hr (fun v h => c_X9_isFile X v2 h) ml_X5_44 ⟨_, rfl, rfl⟩ rfl (Nat.le_of_ble_eq_true rfl) (by decide) rfl (by decide) (by decide) (Nat.le_of_ble_eq_true rfl) dX5_scoreOf_5 (fun t1 h hr => ?_)
  refine j_if_eq K dX5_scoreOf_8 (tgt := 34) (by decide) hr (fun hr => ?_) (fun hr => ?_)
  · refine j_iconst K dX5_scoreOf_34 (v := 0) rfl ?_
    exact j_ireturn K dX5_scoreOf_35 rfl F hr rfl
  · refine j_aload_n K dX5_scoreOf_11 0 rfl ?_
    refine j_get K (v := .ref (jad κ (35))) fl_X5_30 rfl (Nat.le_of_ble_eq_true rfl) (by decide) rfl dX5_scoreOf_12 ?_
    refine j_iload_n K dX5_scoreOf_15 2 rfl ?_
    refine j_vI1 K (ci := 2) hr (fun v h => c_X2_has X v2 h) ml_X5_103 ⟨_, rfl, rfl⟩ rfl (Nat.le_of_ble_eq_true rfl) (by decide) rfl (by decide) (by decide) (Nat.le_of_ble_eq_true rfl) dX5_scoreOf_16 (fun t2 h hr => ?_)
    refine j_if_eq K dX5_scoreOf_19 (tgt := 34) (by decide) hr (fun hr => ?_) (fun hr => ?_)
    · refine j_iconst K dX5_scoreOf_34 (v := 0) rfl ?_
      exact j_ireturn K dX5_scoreOf_35 rfl F hr rfl
    · refine j_aload_n K dX5_scoreOf_22 0 rfl ?_
      refine j_get K (v := .ref (jad κ (1))) fl_X5_18 rfl (Nat.le_of_ble_eq_true rfl) (by decide) rfl dX5_scoreOf_23 ?_
      refine j_iload_n K dX5_scoreOf_26 1 rfl ?_
      refine j_iload_n K dX5_scoreOf_27 2 rfl ?_
      refine j_vI2 K (ci := 9) hr (fun v h => c_X9_isOpenTo X v1 v2 h) ml_X5_50 ⟨_, rfl, rfl⟩ rfl (Nat.le_of_ble_eq_true rfl) (by decide) rfl (by decide) (by decide) (Nat.le_of_ble_eq_true rfl) dX5_scoreOf_28 (fun t3 h hr => ?_)
      refine j_if_ne K dX5_scoreOf_31 (tgt := 36) (by decide) hr (fun hr => ?_) (fun hr => ?_)
      · refine j_aload_n K dX5_scoreOf_36 0 rfl ?_
        refine j_get K (v := .ref (jad κ (35))) fl_X5_30 rfl (Nat.le_of_ble_eq_true rfl) (by decide) rfl dX5_scoreOf_37 ?_
        refine j_iload_n K dX5_scoreOf_40 2 rfl ?_
        refine j_vR1 K (ci := 2) hr (fun v h => c_X2_wordsOf X v2 h) ml_X5_78 ⟨_, rfl, rfl⟩ rfl (Nat.le_of_ble_eq_true rfl) (by decide) rfl (by decide) (by decide) (Nat.le_of_ble_eq_true rfl) dX5_scoreOf_41 (fun q4 h hr => ?_)
        refine j_guard hr (fun hq4 hr => ?_)
        refine j_aload_n K dX5_scoreOf_44 0 rfl ?_
        refine j_get K (v := .ref (jad κ (35))) fl_X5_30 rfl (Nat.le_of_ble_eq_true rfl) (by decide) rfl dX5_scoreOf_45 ?_
        refine j_iload_n K dX5_scoreOf_48 2 rfl ?_
        refine j_vI1 K (ci := 2) hr (fun v h => c_X2_lengthOf X v2 h) ml_X5_81 ⟨_, rfl, rfl⟩ rfl (Nat.le_of_ble_eq_true rfl) (by decide) rfl (by decide) (by decide) (Nat.le_of_ble_eq_true rfl) dX5_scoreOf_49 (fun t5 h hr => ?_)
        refine j_iload_n K dX5_scoreOf_52 3 rfl ?_
        refine j_iload K dX5_scoreOf_53 4 rfl ?_
        refine j_sI4 K hr (fun v h => c_X5_score X q4 t5 v3 v4 hq4 h) ms_X5_70 rfl (by decide) (by decide) (Nat.le_of_ble_eq_true rfl) dX5_scoreOf_55 (fun t6 h hr => ?_)
        exact j_ireturn K dX5_scoreOf_58 rfl F hr rfl
      · refine j_iconst K dX5_scoreOf_34 (v := 0) rfl ?_
        exact j_ireturn K dX5_scoreOf_35 rfl F hr rfl
theorem c_X5_scoreOf (X : JX) (v1 : Int32) (v2 : Int32) (v3 : Int32) (v4 : Int32) {r : Int32} (hr : f_X5_scoreOf X v1 v2 v3 v4 = some r) : Cal LX yX5_scoreOf cX5_scoreOf 5 (some .int) 2 (fun ad => [.ref (ad (53)), .int v1, .int v2, .int v3, .int v4]) X (fun ad => oI X r) :=
  Cal.of (own := RX5) (fun ad => [(0, .ref (ad (53))), (1, .int v1), (2, .int v2), (3, .int v3), (4, .int v4)]) (by decide) rfl (fun _ => Nat.le_of_ble_eq_true rfl) (fun _ => rfl) (fun κ K F => jf_X5_scoreOf K X v1 v2 v3 v4 F hr)
theorem jb_X5_count_60 {κ : JK} (K : jOk 8 cX5_count RX5 (some .int) 3 κ) (X : JX) (v1 : Int32) (v2 : Int32) (v3 : Int32) (v4 : Int32) (v5 : Int32) (v6 : Int32) {r : Int32} (F : jFin LX false (oI X r) κ) (rec6 : Int32 → Int32 → Option Int32) (hrec6 : ∀ (v5 : Int32) (v6 : Int32), rec6 v5 v6 = some r → J LX 8 κ X 6 [(0, .ref (jad κ (53))), (1, .int v1), (2, .int v2), (3, .int v3), (4, .int v4), (5, .int v5), (6, .int v6)] []) (hr : b_X5_count_60 rec6 X v1 v2 v3 v4 v5 v6 = some r) : J LX 8 κ X 60 [(0, .ref (jad κ (53))), (1, .int v1), (2, .int v2), (3, .int v3), (4, .int v4), (5, .int v5), (6, .int v6)] [] := by
  unfold b_X5_count_60 at hr
  refine j_iincV K dX5_count_60 (v := 1) 6 rfl rfl (by decide) hr (fun t4 hr => ?_)
  refine j_goto K dX5_count_63 (tgt := 6) (by decide) ?_
  exact j_sub [1, 2, 3, 4, 5, 6, 0] rfl (hrec6 _ _ hr)
theorem jb_X5_count_38 {κ : JK} (K : jOk 8 cX5_count RX5 (some .int) 3 κ) (X : JX) (v1 : Int32) (v2 : Int32) (v3 : Int32) (v4 : Int32) (v5 : Int32) (v6 : Int32) (s0 : Int32) {r : Int32} (F : jFin LX false (oI X r) κ) (rec6 : Int32 → Int32 → Option Int32) (hrec6 : ∀ (v5 : Int32) (v6 : Int32), rec6 v5 v6 = some r → J LX 8 κ X 6 [(0, .ref (jad κ (53))), (1, .int v1), (2, .int v2), (3, .int v3), (4, .int v4), (5, .int v5), (6, .int v6)] []) (hr : b_X5_count_38 rec6 X v1 v2 v3 v4 v5 v6 s0 = some r) : J LX 8 κ X 38 [(0, .ref (jad κ (53))), (1, .int v1), (2, .int v2), (3, .int v3), (4, .int v4), (5, .int v5), (6, .int v6)] [.int s0] := by
  unfold b_X5_count_38 at hr
  refine j_istore K dX5_count_38 (by decide) ?_
  refine j_iload K dX5_count_40 0 rfl ?_
  refine j_if_eq K dX5_count_42 (tgt := 60) (by decide) hr (fun hr => ?_) (fun hr => ?_)
  · exact j_sub [1, 2, 3, 4, 5, 6, 7] rfl (jb_X5_count_60 K _ _ _ _ _ _ _ F rec6 hrec6 hr)
  · refine j_aload_n K dX5_count_45 1 rfl ?_
    refine j_iload_n K dX5_count_46 2 rfl ?_
    refine j_iload K dX5_count_47 7 rfl ?_
    refine j_iload_n K dX5_count_49 3 rfl ?_
    refine j_iload_n K dX5_count_50 4 rfl ?_
    refine j_vI4 K (ci := 5) hr (fun v h => c_X5_scoreOf X v1 v6 v2 v3 h) ml_X5_40 ⟨_, rfl, rfl⟩ rfl (Nat.le_of_ble_eq_true rfl) (by decide) rfl (by decide) (by decide) (Nat.le_of_ble_eq_true rfl) dX5_count_51 (fun t2 h hr => ?_)
    refine j_if_le K dX5_count_54 (tgt := 60) (by decide) hr (fun hr => ?_) (fun hr => ?_)
    · exact j_sub [1, 2, 3, 4, 5, 6, 7] rfl (jb_X5_count_60 K _ _ _ _ _ _ _ F rec6 hrec6 hr)
    · refine j_iincV K dX5_count_57 (v := 1) 6 rfl rfl (by decide) hr (fun t3 hr => ?_)
      exact j_sub [2, 3, 4, 5, 6, 0, 7] rfl (jb_X5_count_60 K _ _ _ _ _ _ _ F rec6 hrec6 hr)
theorem jl_X5_count_6 {κ : JK} (K : jOk 8 cX5_count RX5 (some .int) 3 κ) (X : JX) (v1 : Int32) (v2 : Int32) (v3 : Int32) (v4 : Int32) {r : Int32} (F : jFin LX false (oI X r) κ) : ∀ (v5 : Int32) (v6 : Int32), l_X5_count_6 X v1 v2 v3 v4 v5 v6 = some r → J LX 8 κ X 6 [(0, .ref (jad κ (53))), (1, .int v1), (2, .int v2), (3, .int v3), (4, .int v4), (5, .int v5), (6, .int v6)] [] := by
  refine j_loop2 (P := fun v5 v6 => J LX 8 κ X 6 [(0, .ref (jad κ (53))), (1, .int v1), (2, .int v2), (3, .int v3), (4, .int v4), (5, .int v5), (6, .int v6)] []) (fun rec6 hrec6 v5 v6 hr => ?_) 1000
  unfold lb_X5_count_6 at hr
  refine j_iload K dX5_count_6 6 rfl ?_
  refine j_bipush K dX5_count_8 (v := 60) rfl ?_
  refine j_icmp_ge K dX5_count_10 (tgt := 66) (by decide) hr (fun hr => ?_) (fun hr => ?_)
  · refine j_iload K dX5_count_66 5 rfl ?_
    exact j_ireturn K dX5_count_68 rfl F hr rfl
  · refine j_iload K dX5_count_13 4 rfl ?_
    refine j_iconst K dX5_count_15 (v := -1) rfl ?_
    refine j_icmp_eq K dX5_count_16 (tgt := 33) (by decide) hr (fun hr => ?_) (fun hr => ?_)
    · refine j_iconst K dX5_count_33 (v := 1) rfl ?_
      refine j_goto K dX5_count_34 (tgt := 38) (by decide) ?_
      exact j_sub [0, 1, 2, 3, 4, 5, 6] rfl (jb_X5_count_38 K _ _ _ _ _ _ _ _ F rec6 hrec6 hr)
    · refine j_aload_n K dX5_count_19 0 rfl ?_
      refine j_get K (v := .ref (jad κ (35))) fl_X5_30 rfl (Nat.le_of_ble_eq_true rfl) (by decide) rfl dX5_count_20 ?_
      refine j_iload K dX5_count_23 6 rfl ?_
      refine j_iload K dX5_count_25 4 rfl ?_
      refine j_vI2 K (ci := 2) hr (fun v h => c_X2_isBelow X v6 v4 h) ml_X5_34 ⟨_, rfl, rfl⟩ rfl (Nat.le_of_ble_eq_true rfl) (by decide) rfl (by decide) (by decide) (Nat.le_of_ble_eq_true rfl) dX5_count_27 (fun t1 h hr => ?_)
      refine j_if_eq K dX5_count_30 (tgt := 37) (by decide) hr (fun hr => ?_) (fun hr => ?_)
      · refine j_iconst K dX5_count_37 (v := 0) rfl ?_
        exact j_sub [0, 1, 2, 3, 4, 5, 6] rfl (jb_X5_count_38 K _ _ _ _ _ _ _ _ F rec6 hrec6 hr)
      · refine j_iconst K dX5_count_33 (v := 1) rfl ?_
        refine j_goto K dX5_count_34 (tgt := 38) (by decide) ?_
        exact j_sub [0, 1, 2, 3, 4, 5, 6] rfl (jb_X5_count_38 K _ _ _ _ _ _ _ _ F rec6 hrec6 hr)
theorem jf_X5_count {κ : JK} (K : jOk 8 cX5_count RX5 (some .int) 3 κ) (X : JX) (v1 : Int32) (v2 : Int32) (v3 : Int32) (v4 : Int32) {r : Int32} (F : jFin LX false (oI X r) κ) (hr : f_X5_count X v1 v2 v3 v4 = some r) : J LX 8 κ X 0 [(0, .ref (jad κ (53))), (1, .int v1), (2, .int v2), (3, .int v3), (4, .int v4)] [] := by
  unfold f_X5_count at hr
  refine j_iconst K dX5_count_0 (v := 0) rfl ?_
  refine j_istore K dX5_count_1 (by decide) ?_
  refine j_iconst K dX5_count_3 (v := 0) rfl ?_
  refine j_istore K dX5_count_4 (by decide) ?_
  exact j_sub [2, 3, 4, 5, 6, 1, 0] rfl (jl_X5_count_6 K _ _ _ _ _ F _ _ hr)
theorem c_X5_count (X : JX) (v1 : Int32) (v2 : Int32) (v3 : Int32) (v4 : Int32) {r : Int32} (hr : f_X5_count X v1 v2 v3 v4 = some r) : Cal LX yX5_count cX5_count 8 (some .int) 3 (fun ad => [.ref (ad (53)), .int v1, .int v2, .int v3, .int v4]) X (fun ad => oI X r) :=
  Cal.of (own := RX5) (fun ad => [(0, .ref (ad (53))), (1, .int v1), (2, .int v2), (3, .int v3), (4, .int v4)]) (by decide) rfl (fun _ => Nat.le_of_ble_eq_true rfl) (fun _ => rfl) (fun κ K F => jf_X5_count K X v1 v2 v3 v4 F hr)
theorem jb_X5_countAhead_55 {κ : JK} (K : jOk 6 cX5_countAhead RX5 (some .int) 0 κ) (X : JX) (v1 : Int32) (v2 : Int32) (v3 : Int32) (v4 : Int32) {r : Int32} (F : jFin LX false (oI X r) κ) (rec5 : Int32 → Int32 → Option Int32) (hrec5 : ∀ (v3 : Int32) (v4 : Int32), rec5 v3 v4 = some r → J LX 6 κ X 5 [(0, .ref (jad κ (53))), (1, .int v1), (2, .int v2), (3, .int v3), (4, .int v4)] []) (hr : b_X5_countAhead_55 rec5 X v1 v2 v3 v4 = some r) : J LX 6 κ X 55 [(0, .ref (jad κ (53))), (1, .int v1), (2, .int v2), (3, .int v3), (4, .int v4)] [] := by
  unfold b_X5_countAhead_55 at hr
  refine j_iincV K dX5_countAhead_55 (v := 1) 4 rfl rfl (by decide) hr (fun t2 hr => ?_)
  refine j_goto K dX5_countAhead_58 (tgt := 5) (by decide) ?_
  exact j_sub [1, 2, 3, 4, 0] rfl (hrec5 _ _ hr)
theorem jb_X5_countAhead_52 {κ : JK} (K : jOk 6 cX5_countAhead RX5 (some .int) 0 κ) (X : JX) (v1 : Int32) (v2 : Int32) (v3 : Int32) (v4 : Int32) {r : Int32} (F : jFin LX false (oI X r) κ) (rec5 : Int32 → Int32 → Option Int32) (hrec5 : ∀ (v3 : Int32) (v4 : Int32), rec5 v3 v4 = some r → J LX 6 κ X 5 [(0, .ref (jad κ (53))), (1, .int v1), (2, .int v2), (3, .int v3), (4, .int v4)] []) (hr : b_X5_countAhead_52 rec5 X v1 v2 v3 v4 = some r) : J LX 6 κ X 52 [(0, .ref (jad κ (53))), (1, .int v1), (2, .int v2), (3, .int v3), (4, .int v4)] [] := by
  unfold b_X5_countAhead_52 at hr
  refine j_iincV K dX5_countAhead_52 (v := 1) 3 rfl rfl (by decide) hr (fun t1 hr => ?_)
  exact j_sub [1, 2, 3, 0, 4] rfl (jb_X5_countAhead_55 K _ _ _ _ _ F rec5 hrec5 hr)
theorem jb_X5_countAhead_28 {κ : JK} (K : jOk 6 cX5_countAhead RX5 (some .int) 0 κ) (X : JX) (v1 : Int32) (v2 : Int32) (v3 : Int32) (v4 : Int32) (s0 : Int32) {r : Int32} (F : jFin LX false (oI X r) κ) (rec5 : Int32 → Int32 → Option Int32) (hrec5 : ∀ (v3 : Int32) (v4 : Int32), rec5 v3 v4 = some r → J LX 6 κ X 5 [(0, .ref (jad κ (53))), (1, .int v1), (2, .int v2), (3, .int v3), (4, .int v4)] []) (hr : b_X5_countAhead_28 rec5 X v1 v2 v3 v4 s0 = some r) : J LX 6 κ X 28 [(0, .ref (jad κ (53))), (1, .int v1), (2, .int v2), (3, .int v3), (4, .int v4)] [.int s0] := by
  unfold b_X5_countAhead_28 at hr
  refine j_istore K dX5_countAhead_28 (by decide) ?_
  refine j_iload K dX5_countAhead_30 0 rfl ?_
  refine j_if_ne K dX5_countAhead_32 (tgt := 52) (by decide) hr (fun hr => ?_) (fun hr => ?_)
  · exact j_sub [1, 2, 3, 4, 5] rfl (jb_X5_countAhead_52 K _ _ _ _ _ F rec5 hrec5 hr)
  · refine j_aload_n K dX5_countAhead_35 1 rfl ?_
    refine j_get K (v := .ref (jad κ (54))) fl_X5_9 rfl (Nat.le_of_ble_eq_true rfl) (by decide) rfl dX5_countAhead_36 ?_
    refine j_iload K dX5_countAhead_39 5 rfl ?_
    refine j_iaload K (z := 60) rfl (Nat.le_of_ble_eq_true rfl) dX5_countAhead_41 hr (fun hr => ?_)
    refine j_iload_n K dX5_countAhead_42 3 rfl ?_
    refine j_icmp_ne K dX5_countAhead_43 (tgt := 55) (by decide) hr (fun hr => ?_) (fun hr => ?_)
    · exact j_sub [1, 2, 3, 4, 5] rfl (jb_X5_countAhead_55 K _ _ _ _ _ F rec5 hrec5 hr)
    · refine j_iload K dX5_countAhead_46 5 rfl ?_
      refine j_iload_n K dX5_countAhead_48 2 rfl ?_
      refine j_icmp_ge K dX5_countAhead_49 (tgt := 55) (by decide) hr (fun hr => ?_) (fun hr => ?_)
      · exact j_sub [1, 2, 3, 4, 5] rfl (jb_X5_countAhead_55 K _ _ _ _ _ F rec5 hrec5 hr)
      · exact j_sub [1, 2, 3, 4, 5] rfl (jb_X5_countAhead_52 K _ _ _ _ _ F rec5 hrec5 hr)
theorem jl_X5_countAhead_5 {κ : JK} (K : jOk 6 cX5_countAhead RX5 (some .int) 0 κ) (X : JX) (v1 : Int32) (v2 : Int32) {r : Int32} (F : jFin LX false (oI X r) κ) : ∀ (v3 : Int32) (v4 : Int32), l_X5_countAhead_5 X v1 v2 v3 v4 = some r → J LX 6 κ X 5 [(0, .ref (jad κ (53))), (1, .int v1), (2, .int v2), (3, .int v3), (4, .int v4)] [] := by
  refine j_loop2 (P := fun v3 v4 => J LX 6 κ X 5 [(0, .ref (jad κ (53))), (1, .int v1), (2, .int v2), (3, .int v3), (4, .int v4)] []) (fun rec5 hrec5 v3 v4 hr => ?_) 1000
  unfold lb_X5_countAhead_5 at hr
  refine j_iload K dX5_countAhead_5 4 rfl ?_
  refine j_bipush K dX5_countAhead_7 (v := 60) rfl ?_
  refine j_icmp_ge K dX5_countAhead_9 (tgt := 61) (by decide) hr (fun hr => ?_) (fun hr => ?_)
  · refine j_iload_n K dX5_countAhead_61 3 rfl ?_
    exact j_ireturn K dX5_countAhead_62 rfl F hr rfl
  · refine j_aload_n K dX5_countAhead_12 0 rfl ?_
    refine j_get K (v := .ref (jad κ (54))) fl_X5_9 rfl (Nat.le_of_ble_eq_true rfl) (by decide) rfl dX5_countAhead_13 ?_
    refine j_iload K dX5_countAhead_16 4 rfl ?_
    refine j_iaload K (z := 60) rfl (Nat.le_of_ble_eq_true rfl) dX5_countAhead_18 hr (fun hr => ?_)
    refine j_iload_n K dX5_countAhead_19 2 rfl ?_
    refine j_icmp_le K dX5_countAhead_20 (tgt := 27) (by decide) hr (fun hr => ?_) (fun hr => ?_)
    · refine j_iconst K dX5_countAhead_27 (v := 0) rfl ?_
      exact j_sub [0, 1, 2, 3, 4] rfl (jb_X5_countAhead_28 K _ _ _ _ _ _ F rec5 hrec5 hr)
    · refine j_iconst K dX5_countAhead_23 (v := 1) rfl ?_
      refine j_goto K dX5_countAhead_24 (tgt := 28) (by decide) ?_
      exact j_sub [0, 1, 2, 3, 4] rfl (jb_X5_countAhead_28 K _ _ _ _ _ _ F rec5 hrec5 hr)
theorem jf_X5_countAhead {κ : JK} (K : jOk 6 cX5_countAhead RX5 (some .int) 0 κ) (X : JX) (v1 : Int32) (v2 : Int32) {r : Int32} (F : jFin LX false (oI X r) κ) (hr : f_X5_countAhead X v1 v2 = some r) : J LX 6 κ X 0 [(0, .ref (jad κ (53))), (1, .int v1), (2, .int v2)] [] := by
  unfold f_X5_countAhead at hr
  refine j_iconst K dX5_countAhead_0 (v := 0) rfl ?_
  refine j_istore_n K dX5_countAhead_1 (by decide) ?_
  refine j_iconst K dX5_countAhead_2 (v := 0) rfl ?_
  refine j_istore K dX5_countAhead_3 (by decide) ?_
  exact j_sub [2, 3, 4, 1, 0] rfl (jl_X5_countAhead_5 K _ _ _ F _ _ hr)
theorem c_X5_countAhead (X : JX) (v1 : Int32) (v2 : Int32) {r : Int32} (hr : f_X5_countAhead X v1 v2 = some r) : Cal LX yX5_countAhead cX5_countAhead 6 (some .int) 0 (fun ad => [.ref (ad (53)), .int v1, .int v2]) X (fun ad => oI X r) :=
  Cal.of (own := RX5) (fun ad => [(0, .ref (ad (53))), (1, .int v1), (2, .int v2)]) (by decide) rfl (fun _ => Nat.le_of_ble_eq_true rfl) (fun _ => rfl) (fun κ K F => jf_X5_countAhead K X v1 v2 F hr)
theorem jf_X5_isWithinNow {κ : JK} (K : jOk 4 cX5_isWithinNow RX5 (some .boolean) 3 κ) (X : JX) (v1 : Int32) (v2 : Int32) {r : Int32} (F : jFin LX false (oI X r) κ) (hr : f_X5_isWithinNow X v1 v2 = some r) : J LX 4 κ X 0 [(0, .ref (jad κ (53))), (1, .int v1), (2, .int v2)] [] := by
  unfold f_X5_isWithinNow at hr
  refine j_aload_n K dX5_isWithinNow_0 0 rfl ?_
  refine j_get K (v := .ref (jad κ (11))) fl_X5_22 rfl (Nat.le_of_ble_eq_true rfl) (by decide) rfl dX5_isWithinNow_1 ?_
  refine j_iload_n K dX5_isWithinNow_4 1 rfl ?_
  refine j_vO1 K (ci := 8) hr (fun v h => c_X8_above X v1 h) ml_X5_90 ⟨_, rfl, rfl⟩ rfl (Nat.le_of_ble_eq_true rfl) (by decide) rfl (by decide) (by decide) (Nat.le_of_ble_eq_true rfl) dX5_isWithinNow_5 (fun h hr => ?_) (fun q2 h hr => ?_)
  · refine j_astore_nN K dX5_isWithinNow_8 (by decide) ?_
    refine j_aload_nN K dX5_isWithinNow_9 0 rfl ?_
    refine j_ifnonnullN K dX5_isWithinNow_10 ?_
    refine j_iconst K dX5_isWithinNow_13 (v := 0) rfl ?_
    exact j_zreturn K dX5_isWithinNow_14 rfl rfl F hr rfl
  · refine j_guard hr (fun hq2 hr => ?_)
    refine j_astore_n K dX5_isWithinNow_8 (by decide) ?_
    refine j_aload_n K dX5_isWithinNow_9 0 rfl ?_
    refine j_ifnonnull K dX5_isWithinNow_10 (tgt := 15) (by decide) ?_
    refine j_iload_n K dX5_isWithinNow_15 3 rfl ?_
    refine j_iconst K dX5_isWithinNow_16 (v := -1) rfl ?_
    refine j_icmp_eq K dX5_isWithinNow_17 (tgt := 28) (by decide) hr (fun hr => ?_) (fun hr => ?_)
    · refine j_iconst K dX5_isWithinNow_28 (v := 1) rfl ?_
      exact j_zreturn K dX5_isWithinNow_29 rfl rfl F hr rfl
    · refine j_iload_n K dX5_isWithinNow_20 3 rfl ?_
      refine j_aload_n K dX5_isWithinNow_21 0 rfl ?_
      refine j_getN K (v := .int (X q2 3)) fn_X5_96 (rt0 hq2) (rt0l hq2) (by decide) rfl dX5_isWithinNow_22 ?_
      refine j_icmp_ne K dX5_isWithinNow_25 (tgt := 30) (by decide) hr (fun hr => ?_) (fun hr => ?_)
      · refine j_aload_n K dX5_isWithinNow_30 1 rfl ?_
        refine j_get K (v := .ref (jad κ (1))) fl_X5_18 rfl (Nat.le_of_ble_eq_true rfl) (by decide) rfl dX5_isWithinNow_31 ?_
        refine j_iload_n K dX5_isWithinNow_34 3 rfl ?_
        refine j_aload_n K dX5_isWithinNow_35 0 rfl ?_
        refine j_getN K (v := .int (X q2 3)) fn_X5_96 (rt0 hq2) (rt0l hq2) (by decide) rfl dX5_isWithinNow_36 ?_
        refine j_vI2 K (ci := 9) hr (fun v h => c_X9_isBelow X v2 (X q2 3) h) ml_X5_102 ⟨_, rfl, rfl⟩ rfl (Nat.le_of_ble_eq_true rfl) (by decide) rfl (by decide) (by decide) (Nat.le_of_ble_eq_true rfl) dX5_isWithinNow_39 (fun t3 h hr => ?_)
        refine j_if_eq K dX5_isWithinNow_42 (tgt := 61) (by decide) hr (fun hr => ?_) (fun hr => ?_)
        · refine j_iconst K dX5_isWithinNow_61 (v := 0) rfl ?_
          exact j_zreturn K dX5_isWithinNow_62 rfl rfl F hr rfl
        · refine j_aload_n K dX5_isWithinNow_45 1 rfl ?_
          refine j_get K (v := .ref (jad κ (1))) fl_X5_18 rfl (Nat.le_of_ble_eq_true rfl) (by decide) rfl dX5_isWithinNow_46 ?_
          refine j_iload_n K dX5_isWithinNow_49 2 rfl ?_
          refine j_iload_n K dX5_isWithinNow_50 3 rfl ?_
          refine j_vI2 K (ci := 9) hr (fun v h => c_X9_isBelow X v1 v2 h) ml_X5_102 ⟨_, rfl, rfl⟩ rfl (Nat.le_of_ble_eq_true rfl) (by decide) rfl (by decide) (by decide) (Nat.le_of_ble_eq_true rfl) dX5_isWithinNow_51 (fun t4 h hr => ?_)
          refine j_if_eq K dX5_isWithinNow_54 (tgt := 61) (by decide) hr (fun hr => ?_) (fun hr => ?_)
          · refine j_iconst K dX5_isWithinNow_61 (v := 0) rfl ?_
            exact j_zreturn K dX5_isWithinNow_62 rfl rfl F hr rfl
          · refine j_iconst K dX5_isWithinNow_57 (v := 1) rfl ?_
            refine j_goto K dX5_isWithinNow_58 (tgt := 62) (by decide) ?_
            exact j_zreturn K dX5_isWithinNow_62 rfl rfl F hr rfl
      · refine j_iconst K dX5_isWithinNow_28 (v := 1) rfl ?_
        exact j_zreturn K dX5_isWithinNow_29 rfl rfl F hr rfl
theorem c_X5_isWithinNow (X : JX) (v1 : Int32) (v2 : Int32) {r : Int32} (hr : f_X5_isWithinNow X v1 v2 = some r) : Cal LX yX5_isWithinNow cX5_isWithinNow 4 (some .boolean) 3 (fun ad => [.ref (ad (53)), .int v1, .int v2]) X (fun ad => oI X r) :=
  Cal.of (own := RX5) (fun ad => [(0, .ref (ad (53))), (1, .int v1), (2, .int v2)]) (by decide) rfl (fun _ => Nat.le_of_ble_eq_true rfl) (fun _ => rfl) (fun κ K F => jf_X5_isWithinNow K X v1 v2 F hr)
theorem jb_X5_countAnew_97 {κ : JK} (K : jOk 8 cX5_countAnew RX5 (some .int) 4 κ) (X : JX) (v1 : Int32) (v2 : Int32) (v3 : Int32) (v4 : Int32) (v5 : Int32) (v6 : Int32) {r : (Int32 × JX)} (F : jFin LX false (oM r) κ) (rec6 : JX → Int32 → Int32 → Option (Int32 × JX)) (hrec6 : ∀ (X : JX) (v5 : Int32) (v6 : Int32), rec6 X v5 v6 = some r → J LX 8 κ X 6 [(0, .ref (jad κ (53))), (1, .int v1), (2, .int v2), (3, .int v3), (4, .int v4), (5, .int v5), (6, .int v6)] []) (hr : b_X5_countAnew_97 rec6 X v1 v2 v3 v4 v5 v6 = some r) : J LX 8 κ X 97 [(0, .ref (jad κ (53))), (1, .int v1), (2, .int v2), (3, .int v3), (4, .int v4), (5, .int v5), (6, .int v6)] [] := by
  unfold b_X5_countAnew_97 at hr
  refine j_iincV K dX5_countAnew_97 (v := 1) 6 rfl rfl (by decide) hr (fun t9 hr => ?_)
  refine j_goto K dX5_countAnew_100 (tgt := 6) (by decide) ?_
  exact j_sub [1, 2, 3, 4, 5, 6, 0] rfl (hrec6 _ _ _ hr)
theorem jl_X5_countAnew_6 {κ : JK} (K : jOk 8 cX5_countAnew RX5 (some .int) 4 κ) (v1 : Int32) (v2 : Int32) (v3 : Int32) (v4 : Int32) {r : (Int32 × JX)} (F : jFin LX false (oM r) κ) : ∀ (X : JX) (v5 : Int32) (v6 : Int32), l_X5_countAnew_6 v1 v2 v3 v4 X v5 v6 = some r → J LX 8 κ X 6 [(0, .ref (jad κ (53))), (1, .int v1), (2, .int v2), (3, .int v3), (4, .int v4), (5, .int v5), (6, .int v6)] [] := by
  refine j_loop3 (P := fun X v5 v6 => J LX 8 κ X 6 [(0, .ref (jad κ (53))), (1, .int v1), (2, .int v2), (3, .int v3), (4, .int v4), (5, .int v5), (6, .int v6)] []) (fun rec6 hrec6 X v5 v6 hr => ?_) 1000
  unfold lb_X5_countAnew_6 at hr
  refine j_iload K dX5_countAnew_6 6 rfl ?_
  refine j_bipush K dX5_countAnew_8 (v := 60) rfl ?_
  refine j_icmp_ge K dX5_countAnew_10 (tgt := 103) (by decide) hr (fun hr => ?_) (fun hr => ?_)
  · refine j_iload K dX5_countAnew_103 5 rfl ?_
    exact j_ireturn K dX5_countAnew_105 rfl F hr rfl
  · refine j_aload_n K dX5_countAnew_13 0 rfl ?_
    refine j_get K (v := .ref (jad κ (1))) fl_X5_18 rfl (Nat.le_of_ble_eq_true rfl) (by decide) rfl dX5_countAnew_14 ?_
    refine j_iload K dX5_countAnew_17 6 rfl ?_
    refine j_vI1 K (ci := 9) hr (fun v h => c_X9_isFile X v6 h) ml_X5_44 ⟨_, rfl, rfl⟩ rfl (Nat.le_of_ble_eq_true rfl) (by decide) rfl (by decide) (by decide) (Nat.le_of_ble_eq_true rfl) dX5_countAnew_19 (fun t1 h hr => ?_)
    refine j_if_eq K dX5_countAnew_22 (tgt := 97) (by decide) hr (fun hr => ?_) (fun hr => ?_)
    · exact j_sub [0, 1, 2, 3, 4, 5, 6] rfl (jb_X5_countAnew_97 K _ _ _ _ _ _ _ F rec6 hrec6 hr)
    · refine j_aload_n K dX5_countAnew_25 0 rfl ?_
      refine j_get K (v := .ref (jad κ (1))) fl_X5_18 rfl (Nat.le_of_ble_eq_true rfl) (by decide) rfl dX5_countAnew_26 ?_
      refine j_iload_n K dX5_countAnew_29 1 rfl ?_
      refine j_iload K dX5_countAnew_30 6 rfl ?_
      refine j_vI2 K (ci := 9) hr (fun v h => c_X9_isOpenTo X v1 v6 h) ml_X5_50 ⟨_, rfl, rfl⟩ rfl (Nat.le_of_ble_eq_true rfl) (by decide) rfl (by decide) (by decide) (Nat.le_of_ble_eq_true rfl) dX5_countAnew_32 (fun t2 h hr => ?_)
      refine j_if_eq K dX5_countAnew_35 (tgt := 97) (by decide) hr (fun hr => ?_) (fun hr => ?_)
      · exact j_sub [0, 1, 2, 3, 4, 5, 6] rfl (jb_X5_countAnew_97 K _ _ _ _ _ _ _ F rec6 hrec6 hr)
      · refine j_aload_n K dX5_countAnew_38 0 rfl ?_
        refine j_iload K dX5_countAnew_39 6 rfl ?_
        refine j_iload K dX5_countAnew_41 4 rfl ?_
        refine j_vI2 K (ci := 5) hr (fun v h => c_X5_isWithinNow X v6 v4 h) ml_X5_53 ⟨_, rfl, rfl⟩ rfl (Nat.le_of_ble_eq_true rfl) (by decide) rfl (by decide) (by decide) (Nat.le_of_ble_eq_true rfl) dX5_countAnew_43 (fun t3 h hr => ?_)
        refine j_if_eq K dX5_countAnew_46 (tgt := 97) (by decide) hr (fun hr => ?_) (fun hr => ?_)
        · exact j_sub [0, 1, 2, 3, 4, 5, 6] rfl (jb_X5_countAnew_97 K _ _ _ _ _ _ _ F rec6 hrec6 hr)
        · refine j_aload_n K dX5_countAnew_49 0 rfl ?_
          refine j_get K (v := .ref (jad κ (34))) fl_X5_26 rfl (Nat.le_of_ble_eq_true rfl) (by decide) rfl dX5_countAnew_50 ?_
          refine j_aload_n K dX5_countAnew_53 0 rfl ?_
          refine j_get K (v := .ref (jad κ (1))) fl_X5_18 rfl (Nat.le_of_ble_eq_true rfl) (by decide) rfl dX5_countAnew_54 ?_
          refine j_iload K dX5_countAnew_57 6 rfl ?_
          refine j_vR1 K (ci := 9) hr (fun v h => c_X9_textOf X v6 h) ml_X5_56 ⟨_, rfl, rfl⟩ rfl (Nat.le_of_ble_eq_true rfl) (by decide) rfl (by decide) (by decide) (Nat.le_of_ble_eq_true rfl) dX5_countAnew_59 (fun q4 h hr => ?_)
          refine j_guard hr (fun hq4 hr => ?_)
          refine j_aload_n K dX5_countAnew_62 0 rfl ?_
          refine j_get K (v := .ref (jad κ (1))) fl_X5_18 rfl (Nat.le_of_ble_eq_true rfl) (by decide) rfl dX5_countAnew_63 ?_
          refine j_iload K dX5_countAnew_66 6 rfl ?_
          refine j_vI1 K (ci := 9) hr (fun v h => c_X9_lengthOf X v6 h) ml_X5_60 ⟨_, rfl, rfl⟩ rfl (Nat.le_of_ble_eq_true rfl) (by decide) rfl (by decide) (by decide) (Nat.le_of_ble_eq_true rfl) dX5_countAnew_68 (fun t5 h hr => ?_)
          refine j_aload_n K dX5_countAnew_71 0 rfl ?_
          refine j_get K (v := .ref (jad κ (55))) fl_X5_15 rfl (Nat.le_of_ble_eq_true rfl) (by decide) rfl dX5_countAnew_72 ?_
          refine j_vM3 K (ci := 6) hr (fun v h => c_X6_takeWords X q4 t5 (55) hq4 (by decide) h) ml_X5_64 ⟨_, rfl, rfl⟩ rfl (Nat.le_of_ble_eq_true rfl) (by decide) rfl (by decide) (by decide) (Nat.le_of_ble_eq_true rfl) dX5_countAnew_75 (fun t6 h hr => ?_)
          refine j_istore K dX5_countAnew_78 (by decide) ?_
          refine j_aload_n K dX5_countAnew_80 1 rfl ?_
          refine j_get K (v := .ref (jad κ (55))) fl_X5_15 rfl (Nat.le_of_ble_eq_true rfl) (by decide) rfl dX5_countAnew_81 ?_
          refine j_iload K dX5_countAnew_84 0 rfl ?_
          refine j_iload_n K dX5_countAnew_86 3 rfl ?_
          refine j_iload_n K dX5_countAnew_87 4 rfl ?_
          refine j_sI4 K hr (fun v h => c_X5_score t6.2 (55) t6.1 v2 v3 (by decide) h) ms_X5_70 rfl (by decide) (by decide) (Nat.le_of_ble_eq_true rfl) dX5_countAnew_88 (fun t7 h hr => ?_)
          refine j_if_le K dX5_countAnew_91 (tgt := 97) (by decide) hr (fun hr => ?_) (fun hr => ?_)
          · exact j_sub [1, 2, 3, 4, 5, 6, 7] rfl (jb_X5_countAnew_97 K _ _ _ _ _ _ _ F rec6 hrec6 hr)
          · refine j_iincV K dX5_countAnew_94 (v := 1) 6 rfl rfl (by decide) hr (fun t8 hr => ?_)
            exact j_sub [2, 3, 4, 5, 6, 0, 7] rfl (jb_X5_countAnew_97 K _ _ _ _ _ _ _ F rec6 hrec6 hr)
theorem jf_X5_countAnew {κ : JK} (K : jOk 8 cX5_countAnew RX5 (some .int) 4 κ) (X : JX) (v1 : Int32) (v2 : Int32) (v3 : Int32) (v4 : Int32) {r : (Int32 × JX)} (F : jFin LX false (oM r) κ) (hr : f_X5_countAnew X v1 v2 v3 v4 = some r) : J LX 8 κ X 0 [(0, .ref (jad κ (53))), (1, .int v1), (2, .int v2), (3, .int v3), (4, .int v4)] [] := by
  unfold f_X5_countAnew at hr
  refine j_iconst K dX5_countAnew_0 (v := 0) rfl ?_
  refine j_istore K dX5_countAnew_1 (by decide) ?_
  refine j_iconst K dX5_countAnew_3 (v := 0) rfl ?_
  refine j_istore K dX5_countAnew_4 (by decide) ?_
  exact j_sub [2, 3, 4, 5, 6, 1, 0] rfl (jl_X5_countAnew_6 K _ _ _ _ F _ _ _ hr)
theorem c_X5_countAnew (X : JX) (v1 : Int32) (v2 : Int32) (v3 : Int32) (v4 : Int32) {r : (Int32 × JX)} (hr : f_X5_countAnew X v1 v2 v3 v4 = some r) : Cal LX yX5_countAnew cX5_countAnew 8 (some .int) 4 (fun ad => [.ref (ad (53)), .int v1, .int v2, .int v3, .int v4]) X (fun ad => oM r) :=
  Cal.of (own := RX5) (fun ad => [(0, .ref (ad (53))), (1, .int v1), (2, .int v2), (3, .int v3), (4, .int v4)]) (by decide) rfl (fun _ => Nat.le_of_ble_eq_true rfl) (fun _ => rfl) (fun κ K F => jf_X5_countAnew K X v1 v2 v3 v4 F hr)
theorem jb_X5_fileAt_78 {κ : JK} (K : jOk 7 cX5_fileAt RX5 (some .int) 3 κ) (X : JX) (v4 : Int32) (v5 : Int32) {r : (Int32 × JX)} (F : jFin LX false (oM r) κ) (rec35 : Int32 → Option (Int32 × JX)) (hrec35 : ∀ (v5 : Int32), rec35 v5 = some r → J LX 7 κ X 35 [(0, .ref (jad κ (53))), (4, .int v4), (5, .int v5)] []) (hr : b_X5_fileAt_78 rec35 X v4 v5 = some r) : J LX 7 κ X 78 [(0, .ref (jad κ (53))), (4, .int v4), (5, .int v5)] [] := by
  unfold b_X5_fileAt_78 at hr
  refine j_iincV K dX5_fileAt_78 (v := 1) 2 rfl rfl (by decide) hr (fun t6 hr => ?_)
  refine j_goto K dX5_fileAt_81 (tgt := 35) (by decide) ?_
  exact j_sub [1, 2, 0] rfl (hrec35 _ hr)
theorem jl_X5_fileAt_35 {κ : JK} (K : jOk 7 cX5_fileAt RX5 (some .int) 3 κ) (X : JX) (v4 : Int32) {r : (Int32 × JX)} (F : jFin LX false (oM r) κ) : ∀ (v5 : Int32), l_X5_fileAt_35 X v4 v5 = some r → J LX 7 κ X 35 [(0, .ref (jad κ (53))), (4, .int v4), (5, .int v5)] [] := by
  refine j_loop1 (P := fun v5 => J LX 7 κ X 35 [(0, .ref (jad κ (53))), (4, .int v4), (5, .int v5)] []) (fun rec35 hrec35 v5 hr => ?_) 1000
  unfold lb_X5_fileAt_35 at hr
  refine j_iload K dX5_fileAt_35 2 rfl ?_
  refine j_bipush K dX5_fileAt_37 (v := 60) rfl ?_
  refine j_icmp_ge K dX5_fileAt_39 (tgt := 84) (by decide) hr (fun hr => ?_) (fun hr => ?_)
  · refine j_iconst K dX5_fileAt_84 (v := -1) rfl ?_
    exact j_ireturn K dX5_fileAt_85 rfl F hr rfl
  · refine j_aload_n K dX5_fileAt_42 0 rfl ?_
    refine j_get K (v := .ref (jad κ (54))) fl_X5_9 rfl (Nat.le_of_ble_eq_true rfl) (by decide) rfl dX5_fileAt_43 ?_
    refine j_iload K dX5_fileAt_46 2 rfl ?_
    refine j_iaload K (z := 60) rfl (Nat.le_of_ble_eq_true rfl) dX5_fileAt_48 hr (fun hr => ?_)
    refine j_istoreV K dX5_fileAt_49 (by decide) hr (fun t4 hr => ?_)
    refine j_iload K dX5_fileAt_51 0 rfl ?_
    refine j_if_le K dX5_fileAt_53 (tgt := 78) (by decide) hr (fun hr => ?_) (fun hr => ?_)
    · exact j_sub [1, 2, 3] rfl (jb_X5_fileAt_78 K _ _ _ F rec35 hrec35 hr)
    · refine j_aload_n K dX5_fileAt_56 1 rfl ?_
      refine j_iload K dX5_fileAt_57 3 rfl ?_
      refine j_iload K dX5_fileAt_59 0 rfl ?_
      refine j_vI2 K (ci := 5) hr (fun v h => c_X5_countAhead X v5 t4 h) ml_X5_74 ⟨_, rfl, rfl⟩ rfl (Nat.le_of_ble_eq_true rfl) (by decide) rfl (by decide) (by decide) (Nat.le_of_ble_eq_true rfl) dX5_fileAt_61 (fun t5 h hr => ?_)
      refine j_iload K dX5_fileAt_64 2 rfl ?_
      refine j_icmp_ne K dX5_fileAt_66 (tgt := 78) (by decide) hr (fun hr => ?_) (fun hr => ?_)
      · exact j_sub [1, 2, 3] rfl (jb_X5_fileAt_78 K _ _ _ F rec35 hrec35 hr)
      · refine j_bipush K dX5_fileAt_69 (v := 100) rfl ?_
        refine j_iload K dX5_fileAt_71 0 rfl ?_
        refine j_imul K dX5_fileAt_73 ?_
        refine j_iload K dX5_fileAt_74 3 rfl ?_
        refine j_iadd K dX5_fileAt_76 ?_
        exact j_ireturn K dX5_fileAt_77 rfl F hr rfl
theorem jl_X5_fileAt_3 {κ : JK} (K : jOk 7 cX5_fileAt RX5 (some .int) 3 κ) (v1 : Int32) (v2 : Int32) (v3 : Int32) (v4 : Int32) {r : (Int32 × JX)} (F : jFin LX false (oM r) κ) : ∀ (X : JX) (v5 : Int32), l_X5_fileAt_3 v1 v2 v3 v4 X v5 = some r → J LX 7 κ X 3 [(0, .ref (jad κ (53))), (1, .int v1), (2, .int v2), (3, .int v3), (4, .int v4), (5, .int v5)] [] := by
  refine j_loop2 (P := fun X v5 => J LX 7 κ X 3 [(0, .ref (jad κ (53))), (1, .int v1), (2, .int v2), (3, .int v3), (4, .int v4), (5, .int v5)] []) (fun rec3 hrec3 X v5 hr => ?_) 1000
  unfold lb_X5_fileAt_3 at hr
  refine j_iload K dX5_fileAt_3 5 rfl ?_
  refine j_bipush K dX5_fileAt_5 (v := 60) rfl ?_
  refine j_icmp_ge K dX5_fileAt_7 (tgt := 32) (by decide) hr (fun hr => ?_) (fun hr => ?_)
  · refine j_iconst K dX5_fileAt_32 (v := 0) rfl ?_
    refine j_istore K dX5_fileAt_33 (by decide) ?_
    exact j_sub [1, 5, 0] rfl (jl_X5_fileAt_35 K _ _ F _ hr)
  · refine j_aload_n K dX5_fileAt_10 0 rfl ?_
    refine j_get K (v := .ref (jad κ (54))) fl_X5_9 rfl (Nat.le_of_ble_eq_true rfl) (by decide) rfl dX5_fileAt_11 ?_
    refine j_iload K dX5_fileAt_14 5 rfl ?_
    refine j_aload_n K dX5_fileAt_16 0 rfl ?_
    refine j_iload_n K dX5_fileAt_17 1 rfl ?_
    refine j_iload K dX5_fileAt_18 5 rfl ?_
    refine j_iload_n K dX5_fileAt_20 2 rfl ?_
    refine j_iload_n K dX5_fileAt_21 3 rfl ?_
    refine j_vI4 K (ci := 5) hr (fun v h => c_X5_scoreOf X v1 v5 v2 v3 h) ml_X5_40 ⟨_, rfl, rfl⟩ rfl (Nat.le_of_ble_eq_true rfl) (by decide) rfl (by decide) (by decide) (Nat.le_of_ble_eq_true rfl) dX5_fileAt_22 (fun t1 h hr => ?_)
    refine j_iastoreV K (z := 60) rfl (Nat.le_of_ble_eq_true rfl) dX5_fileAt_25 hr (fun X2 hr => ?_)
    refine j_iincV K dX5_fileAt_26 (v := 1) 5 rfl rfl (by decide) hr (fun t3 hr => ?_)
    refine j_goto K dX5_fileAt_29 (tgt := 3) (by decide) ?_
    exact j_sub [1, 2, 3, 4, 5, 0] rfl (hrec3 _ _ hr)
theorem jf_X5_fileAt {κ : JK} (K : jOk 7 cX5_fileAt RX5 (some .int) 3 κ) (X : JX) (v1 : Int32) (v2 : Int32) (v3 : Int32) (v4 : Int32) {r : (Int32 × JX)} (F : jFin LX false (oM r) κ) (hr : f_X5_fileAt X v1 v2 v3 v4 = some r) : J LX 7 κ X 0 [(0, .ref (jad κ (53))), (1, .int v1), (2, .int v2), (3, .int v3), (4, .int v4)] [] := by
  unfold f_X5_fileAt at hr
  refine j_iconst K dX5_fileAt_0 (v := 0) rfl ?_
  refine j_istore K dX5_fileAt_1 (by decide) ?_
  exact j_sub [1, 2, 3, 4, 5, 0] rfl (jl_X5_fileAt_3 K _ _ _ _ F _ _ hr)
theorem c_X5_fileAt (X : JX) (v1 : Int32) (v2 : Int32) (v3 : Int32) (v4 : Int32) {r : (Int32 × JX)} (hr : f_X5_fileAt X v1 v2 v3 v4 = some r) : Cal LX yX5_fileAt cX5_fileAt 7 (some .int) 3 (fun ad => [.ref (ad (53)), .int v1, .int v2, .int v3, .int v4]) X (fun ad => oM r) :=
  Cal.of (own := RX5) (fun ad => [(0, .ref (ad (53))), (1, .int v1), (2, .int v2), (3, .int v3), (4, .int v4)]) (by decide) rfl (fun _ => Nat.le_of_ble_eq_true rfl) (fun _ => rfl) (fun κ K F => jf_X5_fileAt K X v1 v2 v3 v4 F hr)

theorem jf_X1_hasMet {κ : JK} (K : jOk 2 cX1_hasMet RX1 (some .boolean) 0 κ) (X : JX) (q0 : Nat) (v1 : Int32) {r : Int32} (F : jFin LX false (oI X r) κ) (hq0 : isCr q0 = true) (hr : f_X1_hasMet X q0 v1 = some r) : J LX 2 κ X 0 [(0, .ref (jad κ q0)), (1, .int v1)] [] := by
  unfold f_X1_hasMet at hr
  refine j_iload_n K dX1_hasMet_0 1 rfl ?_
  refine j_if_lt K dX1_hasMet_1 (tgt := 23) (by decide) hr (fun hr => ?_) (fun hr => ?_)
  · refine j_iconst K dX1_hasMet_23 (v := 0) rfl ?_
    exact j_zreturn K dX1_hasMet_24 rfl rfl F hr rfl
  · refine j_iload_n K dX1_hasMet_4 1 rfl ?_
    refine j_bipush K dX1_hasMet_5 (v := 60) rfl ?_
    refine j_icmp_ge K dX1_hasMet_7 (tgt := 23) (by decide) hr (fun hr => ?_) (fun hr => ?_)
    · refine j_iconst K dX1_hasMet_23 (v := 0) rfl ?_
      exact j_zreturn K dX1_hasMet_24 rfl rfl F hr rfl
    · refine j_aload_n K dX1_hasMet_10 0 rfl ?_
      refine j_get K (v := .ref (jad κ (q0 + 3))) fl_X1_19 (cr0 hq0) (cr0l hq0) (by decide) rfl dX1_hasMet_11 ?_
      refine j_iload_n K dX1_hasMet_14 1 rfl ?_
      refine j_baload K (z := 60) (cr3 hq0) (cr3l hq0) dX1_hasMet_15 hr (fun hr => ?_)
      refine j_if_eq K dX1_hasMet_16 (tgt := 23) (by decide) hr (fun hr => ?_) (fun hr => ?_)
      · refine j_iconst K dX1_hasMet_23 (v := 0) rfl ?_
        exact j_zreturn K dX1_hasMet_24 rfl rfl F hr rfl
      · refine j_iconst K dX1_hasMet_19 (v := 1) rfl ?_
        refine j_goto K dX1_hasMet_20 (tgt := 24) (by decide) ?_
        exact j_zreturn K dX1_hasMet_24 rfl rfl F hr rfl
theorem c_X1_hasMet (X : JX) (q0 : Nat) (v1 : Int32) {r : Int32} (hq0 : isCr q0 = true) (hr : f_X1_hasMet X q0 v1 = some r) : Cal LX yX1_hasMet cX1_hasMet 2 (some .boolean) 0 (fun ad => [.ref (ad q0), .int v1]) X (fun ad => oI X r) :=
  Cal.of (own := RX1) (fun ad => [(0, .ref (ad q0)), (1, .int v1)]) (by decide) rfl (fun _ => Nat.le_of_ble_eq_true rfl) (fun _ => rfl) (fun κ K F => jf_X1_hasMet K X q0 v1 F hq0 hr)
theorem jb_X1_letWait_15 {κ : JK} (K : jOk 3 cX1_letWait RX1 none 0 κ) (X : JX) (q0 : Nat) (v1 : Int32) (s0 : Int32) {r : JX} (F : jFin LX false (oU r) κ) (hq0 : isCr q0 = true) (hr : b_X1_letWait_15 X q0 v1 s0 = some r) : J LX 3 κ X 15 [(0, .ref (jad κ q0)), (1, .int v1)] [.int s0] := by
  unfold b_X1_letWait_15 at hr
  refine j_istore_n K dX1_letWait_15 (by decide) ?_
  refine j_iload_n K dX1_letWait_16 0 rfl ?_
  refine j_if_eq K dX1_letWait_17 (tgt := 72) (by decide) hr (fun hr => ?_) (fun hr => ?_)
  · exact j_return K dX1_letWait_72 rfl F hr rfl
  · refine j_aload_n K dX1_letWait_20 1 rfl ?_
    refine j_get K (v := .ref (jad κ (q0 + 2))) fl_X1_15 (cr0 hq0) (cr0l hq0) (by decide) rfl dX1_letWait_21 ?_
    refine j_iload_n K dX1_letWait_24 2 rfl ?_
    refine j_baload K (z := 60) (cr2 hq0) (cr2l hq0) dX1_letWait_25 hr (fun hr => ?_)
    refine j_if_ne K dX1_letWait_26 (tgt := 72) (by decide) hr (fun hr => ?_) (fun hr => ?_)
    · exact j_return K dX1_letWait_72 rfl F hr rfl
    · refine j_aload_n K dX1_letWait_29 1 rfl ?_
      refine j_get K (v := .int (X q0 3)) fl_X1_22 (cr0 hq0) (cr0l hq0) (by decide) rfl dX1_letWait_30 ?_
      refine j_if_lt K dX1_letWait_33 (tgt := 72) (by decide) hr (fun hr => ?_) (fun hr => ?_)
      · exact j_return K dX1_letWait_72 rfl F hr rfl
      · refine j_aload_n K dX1_letWait_36 1 rfl ?_
        refine j_get K (v := .int (X q0 3)) fl_X1_22 (cr0 hq0) (cr0l hq0) (by decide) rfl dX1_letWait_37 ?_
        refine j_bipush K dX1_letWait_40 (v := 60) rfl ?_
        refine j_icmp_ge K dX1_letWait_42 (tgt := 72) (by decide) hr (fun hr => ?_) (fun hr => ?_)
        · exact j_return K dX1_letWait_72 rfl F hr rfl
        · refine j_aload_n K dX1_letWait_45 1 rfl ?_
          refine j_get K (v := .ref (jad κ (q0 + 1))) fl_X1_9 (cr0 hq0) (cr0l hq0) (by decide) rfl dX1_letWait_46 ?_
          refine j_aload_n K dX1_letWait_49 1 rfl ?_
          refine j_get K (v := .int (X q0 3)) fl_X1_22 (cr0 hq0) (cr0l hq0) (by decide) rfl dX1_letWait_50 ?_
          refine j_iload_n K dX1_letWait_53 2 rfl ?_
          refine j_iastoreV K (z := 60) (cr1 hq0) (cr1l hq0) dX1_letWait_54 hr (fun X1 hr => ?_)
          refine j_aload_n K dX1_letWait_55 1 rfl ?_
          refine j_get K (v := .ref (jad κ (q0 + 2))) fl_X1_15 (cr0 hq0) (cr0l hq0) (by decide) rfl dX1_letWait_56 ?_
          refine j_iload_n K dX1_letWait_59 2 rfl ?_
          refine j_iconst K dX1_letWait_60 (v := 1) rfl ?_
          refine j_bastoreV K (z := 60) (cr2 hq0) (cr2l hq0) dX1_letWait_61 hr (fun X2 hr => ?_)
          refine j_aload_n K dX1_letWait_62 1 rfl ?_
          refine j_dup K dX1_letWait_63 rfl ?_
          refine j_get K (v := .int (X2 q0 3)) fl_X1_22 (cr0 hq0) (cr0l hq0) (by decide) rfl dX1_letWait_64 ?_
          refine j_iconst K dX1_letWait_67 (v := 1) rfl ?_
          refine j_iadd K dX1_letWait_68 ?_
          refine j_putiV K fp_X1_22 (cr0 hq0) (cr0l hq0) (by decide) (fun _ => Nat.le_of_ble_eq_true rfl) (fun _ => rfl) dX1_letWait_69 hr (fun X3 hr => ?_)
          exact j_return K dX1_letWait_72 rfl F hr rfl
theorem jf_X1_letWait {κ : JK} (K : jOk 3 cX1_letWait RX1 none 0 κ) (X : JX) (q0 : Nat) (v1 : Int32) {r : JX} (F : jFin LX false (oU r) κ) (hq0 : isCr q0 = true) (hr : f_X1_letWait X q0 v1 = some r) : J LX 3 κ X 0 [(0, .ref (jad κ q0)), (1, .int v1)] [] := by
  unfold f_X1_letWait at hr
  refine j_iload_n K dX1_letWait_0 1 rfl ?_
  refine j_if_lt K dX1_letWait_1 (tgt := 14) (by decide) hr (fun hr => ?_) (fun hr => ?_)
  · refine j_iconst K dX1_letWait_14 (v := 0) rfl ?_
    exact j_sub [0, 1] rfl (jb_X1_letWait_15 K _ _ _ _ F hq0 hr)
  · refine j_iload_n K dX1_letWait_4 1 rfl ?_
    refine j_bipush K dX1_letWait_5 (v := 60) rfl ?_
    refine j_icmp_ge K dX1_letWait_7 (tgt := 14) (by decide) hr (fun hr => ?_) (fun hr => ?_)
    · refine j_iconst K dX1_letWait_14 (v := 0) rfl ?_
      exact j_sub [0, 1] rfl (jb_X1_letWait_15 K _ _ _ _ F hq0 hr)
    · refine j_iconst K dX1_letWait_10 (v := 1) rfl ?_
      refine j_goto K dX1_letWait_11 (tgt := 15) (by decide) ?_
      exact j_sub [0, 1] rfl (jb_X1_letWait_15 K _ _ _ _ F hq0 hr)
theorem c_X1_letWait (X : JX) (q0 : Nat) (v1 : Int32) {r : JX} (hq0 : isCr q0 = true) (hr : f_X1_letWait X q0 v1 = some r) : Cal LX yX1_letWait cX1_letWait 3 none 0 (fun ad => [.ref (ad q0), .int v1]) X (fun ad => oU r) :=
  Cal.of (own := RX1) (fun ad => [(0, .ref (ad q0)), (1, .int v1)]) (by decide) rfl (fun _ => Nat.le_of_ble_eq_true rfl) (fun _ => rfl) (fun κ K F => jf_X1_letWait K X q0 v1 F hq0 hr)
theorem jf_X1_meet {κ : JK} (K : jOk 2 cX1_meet RX1 none 0 κ) (X : JX) (q0 : Nat) (v1 : Int32) {r : JX} (F : jFin LX false (oU r) κ) (hq0 : isCr q0 = true) (hr : f_X1_meet X q0 v1 = some r) : J LX 2 κ X 0 [(0, .ref (jad κ q0)), (1, .int v1)] [] := by
  unfold f_X1_meet at hr
  refine j_iload_n K dX1_meet_0 1 rfl ?_
  refine j_if_lt K dX1_meet_1 (tgt := 17) (by decide) hr (fun hr => ?_) (fun hr => ?_)
  · exact j_return K dX1_meet_17 rfl F hr rfl
  · refine j_iload_n K dX1_meet_4 1 rfl ?_
    refine j_bipush K dX1_meet_5 (v := 60) rfl ?_
    refine j_icmp_ge K dX1_meet_7 (tgt := 17) (by decide) hr (fun hr => ?_) (fun hr => ?_)
    · exact j_return K dX1_meet_17 rfl F hr rfl
    · refine j_aload_n K dX1_meet_10 0 rfl ?_
      refine j_get K (v := .ref (jad κ (q0 + 3))) fl_X1_19 (cr0 hq0) (cr0l hq0) (by decide) rfl dX1_meet_11 ?_
      refine j_iload_n K dX1_meet_14 1 rfl ?_
      refine j_iconst K dX1_meet_15 (v := 1) rfl ?_
      refine j_bastoreV K (z := 60) (cr3 hq0) (cr3l hq0) dX1_meet_16 hr (fun X1 hr => ?_)
      exact j_return K dX1_meet_17 rfl F hr rfl
theorem c_X1_meet (X : JX) (q0 : Nat) (v1 : Int32) {r : JX} (hq0 : isCr q0 = true) (hr : f_X1_meet X q0 v1 = some r) : Cal LX yX1_meet cX1_meet 2 none 0 (fun ad => [.ref (ad q0), .int v1]) X (fun ad => oU r) :=
  Cal.of (own := RX1) (fun ad => [(0, .ref (ad q0)), (1, .int v1)]) (by decide) rfl (fun _ => Nat.le_of_ble_eq_true rfl) (fun _ => rfl) (fun κ K F => jf_X1_meet K X q0 v1 F hq0 hr)
theorem jl_X1_startAnew_2 {κ : JK} (K : jOk 3 cX1_startAnew RX1 none 1 κ) (q0 : Nat) (v1 : Int32) {r : JX} (F : jFin LX false (oU r) κ) (hq0 : isCr q0 = true) : ∀ (X : JX) (v2 : Int32), l_X1_startAnew_2 q0 v1 X v2 = some r → J LX 3 κ X 2 [(0, .ref (jad κ q0)), (1, .int v1), (2, .int v2)] [] := by
  refine j_loop2 (P := fun X v2 => J LX 3 κ X 2 [(0, .ref (jad κ q0)), (1, .int v1), (2, .int v2)] []) (fun rec2 hrec2 X v2 hr => ?_) 1000
  unfold lb_X1_startAnew_2 at hr
  refine j_iload_n K dX1_startAnew_2 2 rfl ?_
  refine j_bipush K dX1_startAnew_3 (v := 60) rfl ?_
  refine j_icmp_ge K dX1_startAnew_5 (tgt := 28) (by decide) hr (fun hr => ?_) (fun hr => ?_)
  · refine j_aload_n K dX1_startAnew_28 0 rfl ?_
    refine j_iconst K dX1_startAnew_29 (v := 0) rfl ?_
    refine j_putiV K fp_X1_22 (cr0 hq0) (cr0l hq0) (by decide) (fun _ => Nat.le_of_ble_eq_true rfl) (fun _ => rfl) dX1_startAnew_30 hr (fun X1 hr => ?_)
    refine j_aload_n K dX1_startAnew_33 0 rfl ?_
    refine j_iconst K dX1_startAnew_34 (v := 1) rfl ?_
    refine j_putzV K fp_X1_26 (cr0 hq0) (cr0l hq0) (by decide) (fun _ => Nat.le_of_ble_eq_true rfl) (fun _ => rfl) dX1_startAnew_35 hr (fun X2 hr => ?_)
    refine j_aload_n K dX1_startAnew_38 0 rfl ?_
    refine j_iload_n K dX1_startAnew_39 1 rfl ?_
    refine j_vU1 K (ci := 1) hr (fun v h => c_X1_letWait X2 q0 v1 hq0 h) ml_X1_30 ⟨_, rfl, rfl⟩ (cr0 hq0) (cr0l hq0) (by decide) rfl (by decide) (by decide) (Nat.le_of_ble_eq_true rfl) dX1_startAnew_40 (fun X3 h hr => ?_)
    exact j_return K dX1_startAnew_43 rfl F hr rfl
  · refine j_aload_n K dX1_startAnew_8 0 rfl ?_
    refine j_get K (v := .ref (jad κ (q0 + 2))) fl_X1_15 (cr0 hq0) (cr0l hq0) (by decide) rfl dX1_startAnew_9 ?_
    refine j_iload_n K dX1_startAnew_12 2 rfl ?_
    refine j_iconst K dX1_startAnew_13 (v := 0) rfl ?_
    refine j_bastoreV K (z := 60) (cr2 hq0) (cr2l hq0) dX1_startAnew_14 hr (fun X4 hr => ?_)
    refine j_aload_n K dX1_startAnew_15 0 rfl ?_
    refine j_get K (v := .ref (jad κ (q0 + 3))) fl_X1_19 (cr0 hq0) (cr0l hq0) (by decide) rfl dX1_startAnew_16 ?_
    refine j_iload_n K dX1_startAnew_19 2 rfl ?_
    refine j_iconst K dX1_startAnew_20 (v := 0) rfl ?_
    refine j_bastoreV K (z := 60) (cr3 hq0) (cr3l hq0) dX1_startAnew_21 hr (fun X5 hr => ?_)
    refine j_iincV K dX1_startAnew_22 (v := 1) 2 rfl rfl (by decide) hr (fun t6 hr => ?_)
    refine j_goto K dX1_startAnew_25 (tgt := 2) (by decide) ?_
    exact j_sub [1, 2, 0] rfl (hrec2 _ _ hr)
theorem jf_X1_startAnew {κ : JK} (K : jOk 3 cX1_startAnew RX1 none 1 κ) (X : JX) (q0 : Nat) (v1 : Int32) {r : JX} (F : jFin LX false (oU r) κ) (hq0 : isCr q0 = true) (hr : f_X1_startAnew X q0 v1 = some r) : J LX 3 κ X 0 [(0, .ref (jad κ q0)), (1, .int v1)] [] := by
  unfold f_X1_startAnew at hr
  refine j_iconst K dX1_startAnew_0 (v := 0) rfl ?_
  refine j_istore_n K dX1_startAnew_1 (by decide) ?_
  exact j_sub [1, 2, 0] rfl (jl_X1_startAnew_2 K _ _ F hq0 _ _ hr)
theorem c_X1_startAnew (X : JX) (q0 : Nat) (v1 : Int32) {r : JX} (hq0 : isCr q0 = true) (hr : f_X1_startAnew X q0 v1 = some r) : Cal LX yX1_startAnew cX1_startAnew 3 none 1 (fun ad => [.ref (ad q0), .int v1]) X (fun ad => oU r) :=
  Cal.of (own := RX1) (fun ad => [(0, .ref (ad q0)), (1, .int v1)]) (by decide) rfl (fun _ => Nat.le_of_ble_eq_true rfl) (fun _ => rfl) (fun κ K F => jf_X1_startAnew K X q0 v1 F hq0 hr)
theorem jb_X1_takeFirst_53 {κ : JK} (K : jOk 3 cX1_takeFirst RX1 (some .int) 0 κ) (X : JX) (q0 : Nat) (v1 : Int32) {r : (Int32 × JX)} (F : jFin LX false (oM r) κ) (hq0 : isCr q0 = true) (hr : b_X1_takeFirst_53 X q0 v1 = some r) : J LX 3 κ X 53 [(0, .ref (jad κ q0)), (1, .int v1)] [] := by
  unfold b_X1_takeFirst_53 at hr
  refine j_aload_n K dX1_takeFirst_53 0 rfl ?_
  refine j_dup K dX1_takeFirst_54 rfl ?_
  refine j_get K (v := .int (X q0 3)) fl_X1_22 (cr0 hq0) (cr0l hq0) (by decide) rfl dX1_takeFirst_55 ?_
  refine j_iconst K dX1_takeFirst_58 (v := 1) rfl ?_
  refine j_isub K dX1_takeFirst_59 ?_
  refine j_putiV K fp_X1_22 (cr0 hq0) (cr0l hq0) (by decide) (fun _ => Nat.le_of_ble_eq_true rfl) (fun _ => rfl) dX1_takeFirst_60 hr (fun X4 hr => ?_)
  refine j_iload_n K dX1_takeFirst_63 1 rfl ?_
  refine j_if_lt K dX1_takeFirst_64 (tgt := 80) (by decide) hr (fun hr => ?_) (fun hr => ?_)
  · refine j_iload_n K dX1_takeFirst_80 1 rfl ?_
    exact j_ireturn K dX1_takeFirst_81 rfl F hr rfl
  · refine j_iload_n K dX1_takeFirst_67 1 rfl ?_
    refine j_bipush K dX1_takeFirst_68 (v := 60) rfl ?_
    refine j_icmp_ge K dX1_takeFirst_70 (tgt := 80) (by decide) hr (fun hr => ?_) (fun hr => ?_)
    · refine j_iload_n K dX1_takeFirst_80 1 rfl ?_
      exact j_ireturn K dX1_takeFirst_81 rfl F hr rfl
    · refine j_aload_n K dX1_takeFirst_73 0 rfl ?_
      refine j_get K (v := .ref (jad κ (q0 + 2))) fl_X1_15 (cr0 hq0) (cr0l hq0) (by decide) rfl dX1_takeFirst_74 ?_
      refine j_iload_n K dX1_takeFirst_77 1 rfl ?_
      refine j_iconst K dX1_takeFirst_78 (v := 0) rfl ?_
      refine j_bastoreV K (z := 60) (cr2 hq0) (cr2l hq0) dX1_takeFirst_79 hr (fun X5 hr => ?_)
      refine j_iload_n K dX1_takeFirst_80 1 rfl ?_
      exact j_ireturn K dX1_takeFirst_81 rfl F hr rfl
theorem jl_X1_takeFirst_19 {κ : JK} (K : jOk 3 cX1_takeFirst RX1 (some .int) 0 κ) (q0 : Nat) (v1 : Int32) {r : (Int32 × JX)} (F : jFin LX false (oM r) κ) (hq0 : isCr q0 = true) : ∀ (X : JX) (v2 : Int32), l_X1_takeFirst_19 q0 v1 X v2 = some r → J LX 3 κ X 19 [(0, .ref (jad κ q0)), (1, .int v1), (2, .int v2)] [] := by
  refine j_loop2 (P := fun X v2 => J LX 3 κ X 19 [(0, .ref (jad κ q0)), (1, .int v1), (2, .int v2)] []) (fun rec19 hrec19 X v2 hr => ?_) 1000
  unfold lb_X1_takeFirst_19 at hr
  refine j_iload_n K dX1_takeFirst_19 2 rfl ?_
  refine j_aload_n K dX1_takeFirst_20 0 rfl ?_
  refine j_get K (v := .int (X q0 3)) fl_X1_22 (cr0 hq0) (cr0l hq0) (by decide) rfl dX1_takeFirst_21 ?_
  refine j_icmp_ge K dX1_takeFirst_24 (tgt := 53) (by decide) hr (fun hr => ?_) (fun hr => ?_)
  · exact j_sub [0, 1] rfl (jb_X1_takeFirst_53 K _ _ _ F hq0 hr)
  · refine j_iload_n K dX1_takeFirst_27 2 rfl ?_
    refine j_bipush K dX1_takeFirst_28 (v := 60) rfl ?_
    refine j_icmp_ge K dX1_takeFirst_30 (tgt := 53) (by decide) hr (fun hr => ?_) (fun hr => ?_)
    · exact j_sub [0, 1] rfl (jb_X1_takeFirst_53 K _ _ _ F hq0 hr)
    · refine j_aload_n K dX1_takeFirst_33 0 rfl ?_
      refine j_get K (v := .ref (jad κ (q0 + 1))) fl_X1_9 (cr0 hq0) (cr0l hq0) (by decide) rfl dX1_takeFirst_34 ?_
      refine j_iload_n K dX1_takeFirst_37 2 rfl ?_
      refine j_iconst K dX1_takeFirst_38 (v := 1) rfl ?_
      refine j_isub K dX1_takeFirst_39 ?_
      refine j_aload_n K dX1_takeFirst_40 0 rfl ?_
      refine j_get K (v := .ref (jad κ (q0 + 1))) fl_X1_9 (cr0 hq0) (cr0l hq0) (by decide) rfl dX1_takeFirst_41 ?_
      refine j_iload_n K dX1_takeFirst_44 2 rfl ?_
      refine j_iaload K (z := 60) (cr1 hq0) (cr1l hq0) dX1_takeFirst_45 hr (fun hr => ?_)
      refine j_iastoreV K (z := 60) (cr1 hq0) (cr1l hq0) dX1_takeFirst_46 hr (fun X2 hr => ?_)
      refine j_iincV K dX1_takeFirst_47 (v := 1) 2 rfl rfl (by decide) hr (fun t3 hr => ?_)
      refine j_goto K dX1_takeFirst_50 (tgt := 19) (by decide) ?_
      exact j_sub [1, 2, 0] rfl (hrec19 _ _ hr)
theorem jf_X1_takeFirst {κ : JK} (K : jOk 3 cX1_takeFirst RX1 (some .int) 0 κ) (X : JX) (q0 : Nat) {r : (Int32 × JX)} (F : jFin LX false (oM r) κ) (hq0 : isCr q0 = true) (hr : f_X1_takeFirst X q0 = some r) : J LX 3 κ X 0 [(0, .ref (jad κ q0))] [] := by
  unfold f_X1_takeFirst at hr
  refine j_aload_n K dX1_takeFirst_0 0 rfl ?_
  refine j_get K (v := .int (X q0 3)) fl_X1_22 (cr0 hq0) (cr0l hq0) (by decide) rfl dX1_takeFirst_1 ?_
  refine j_iconst K dX1_takeFirst_4 (v := 1) rfl ?_
  refine j_icmp_ge K dX1_takeFirst_5 (tgt := 10) (by decide) hr (fun hr => ?_) (fun hr => ?_)
  · refine j_aload_n K dX1_takeFirst_10 0 rfl ?_
    refine j_get K (v := .ref (jad κ (q0 + 1))) fl_X1_9 (cr0 hq0) (cr0l hq0) (by decide) rfl dX1_takeFirst_11 ?_
    refine j_iconst K dX1_takeFirst_14 (v := 0) rfl ?_
    refine j_iaload K (z := 60) (cr1 hq0) (cr1l hq0) dX1_takeFirst_15 hr (fun hr => ?_)
    refine j_istoreV_n K dX1_takeFirst_16 (by decide) hr (fun t1 hr => ?_)
    refine j_iconst K dX1_takeFirst_17 (v := 1) rfl ?_
    refine j_istore_n K dX1_takeFirst_18 (by decide) ?_
    exact j_sub [2, 1, 0] rfl (jl_X1_takeFirst_19 K _ _ F hq0 _ _ hr)
  · refine j_iconst K dX1_takeFirst_8 (v := -1) rfl ?_
    exact j_ireturn K dX1_takeFirst_9 rfl F hr rfl
theorem c_X1_takeFirst (X : JX) (q0 : Nat) {r : (Int32 × JX)} (hq0 : isCr q0 = true) (hr : f_X1_takeFirst X q0 = some r) : Cal LX yX1_takeFirst cX1_takeFirst 3 (some .int) 0 (fun ad => [.ref (ad q0)]) X (fun ad => oM r) :=
  Cal.of (own := RX1) (fun ad => [(0, .ref (ad q0))]) (by decide) rfl (fun _ => Nat.le_of_ble_eq_true rfl) (fun _ => rfl) (fun κ K F => jf_X1_takeFirst K X q0 F hq0 hr)
theorem jb_X8_find_36 {κ : JK} (K : jOk 4 cX8_find RX8 (some (.object "SearchKeeper$Root")) 0 κ) (X : JX) (v1 : Int32) (v2 : Int32) {r : (Option Nat)} (F : jFin LX false (oO (jad κ) X r) κ) (rec2 : Int32 → Option (Option Nat)) (hrec2 : ∀ (v2 : Int32), rec2 v2 = some r → J LX 4 κ X 2 [(0, .ref (jad κ (11))), (1, .int v1), (2, .int v2)] []) (hr : b_X8_find_36 rec2 X v1 v2 = some r) : J LX 4 κ X 36 [(0, .ref (jad κ (11))), (1, .int v1), (2, .int v2)] [] := by
  unfold b_X8_find_36 at hr
  refine j_iincV K dX8_find_36 (v := 1) 2 rfl rfl (by decide) hr (fun t2 hr => ?_)
  refine j_goto K dX8_find_39 (tgt := 2) (by decide) ?_
  exact j_sub [1, 2, 0] rfl (hrec2 _ hr)
theorem jl_X8_find_2 {κ : JK} (K : jOk 4 cX8_find RX8 (some (.object "SearchKeeper$Root")) 0 κ) (X : JX) (v1 : Int32) {r : (Option Nat)} (F : jFin LX false (oO (jad κ) X r) κ) : ∀ (v2 : Int32), l_X8_find_2 X v1 v2 = some r → J LX 4 κ X 2 [(0, .ref (jad κ (11))), (1, .int v1), (2, .int v2)] [] := by
  refine j_loop1 (P := fun v2 => J LX 4 κ X 2 [(0, .ref (jad κ (11))), (1, .int v1), (2, .int v2)] []) (fun rec2 hrec2 v2 hr => ?_) 1000
  unfold lb_X8_find_2 at hr
  refine j_iload_n K dX8_find_2 2 rfl ?_
  refine j_aload_n K dX8_find_3 0 rfl ?_
  refine j_get K (v := .int (X (11) 2)) fl_X8_22 rfl (Nat.le_of_ble_eq_true rfl) (by decide) rfl dX8_find_4 ?_
  refine j_icmp_ge K dX8_find_7 (tgt := 42) (by decide) hr (fun hr => ?_) (fun hr => ?_)
  · refine j_null K dX8_find_42 ?_
    exact j_areturnN K dX8_find_43 rfl (Or.inl ⟨_, rfl⟩) F hr rfl
  · refine j_iload_n K dX8_find_10 2 rfl ?_
    refine j_iconst K dX8_find_11 (v := 3) rfl ?_
    refine j_icmp_ge K dX8_find_12 (tgt := 42) (by decide) hr (fun hr => ?_) (fun hr => ?_)
    · refine j_null K dX8_find_42 ?_
      exact j_areturnN K dX8_find_43 rfl (Or.inl ⟨_, rfl⟩) F hr rfl
    · refine j_aload_n K dX8_find_15 0 rfl ?_
      refine j_get K (v := .ref (jad κ (12))) fl_X8_11 rfl (Nat.le_of_ble_eq_true rfl) (by decide) rfl dX8_find_16 ?_
      refine j_iload_n K dX8_find_19 2 rfl ?_
      refine j_aaload3V K (z := 3) rfl (Nat.le_of_ble_eq_true rfl) dX8_find_20 hr (fun q1 hq1 hr => ?_)
      refine j_astore_n K dX8_find_21 (by decide) ?_
      refine j_aload_n K dX8_find_22 0 rfl ?_
      refine j_ifnull K dX8_find_23 ?_
      refine j_aload_n K dX8_find_26 0 rfl ?_
      refine j_getN K (v := .int (X q1 3)) fn_X8_26 (rt0 hq1) (rt0l hq1) (by decide) rfl dX8_find_27 ?_
      refine j_iload_n K dX8_find_30 2 rfl ?_
      refine j_icmp_ne K dX8_find_31 (tgt := 36) (by decide) hr (fun hr => ?_) (fun hr => ?_)
      · exact j_sub [1, 2, 3] rfl (jb_X8_find_36 K _ _ _ F rec2 hrec2 hr)
      · refine j_aload_n K dX8_find_34 0 rfl ?_
        exact j_areturn K dX8_find_35 rfl (Or.inl ⟨_, rfl⟩) F hr rfl
theorem jf_X8_find {κ : JK} (K : jOk 4 cX8_find RX8 (some (.object "SearchKeeper$Root")) 0 κ) (X : JX) (v1 : Int32) {r : (Option Nat)} (F : jFin LX false (oO (jad κ) X r) κ) (hr : f_X8_find X v1 = some r) : J LX 4 κ X 0 [(0, .ref (jad κ (11))), (1, .int v1)] [] := by
  unfold f_X8_find at hr
  refine j_iconst K dX8_find_0 (v := 0) rfl ?_
  refine j_istore_n K dX8_find_1 (by decide) ?_
  exact j_sub [1, 2, 0] rfl (jl_X8_find_2 K _ _ F _ hr)
theorem c_X8_find (X : JX) (v1 : Int32) {r : (Option Nat)} (hr : f_X8_find X v1 = some r) : Cal LX yX8_find cX8_find 4 (some (.object "SearchKeeper$Root")) 0 (fun ad => [.ref (ad (11)), .int v1]) X (fun ad => oO ad X r) :=
  Cal.of (own := RX8) (fun ad => [(0, .ref (ad (11))), (1, .int v1)]) (by decide) rfl (fun _ => Nat.le_of_ble_eq_true rfl) (fun _ => rfl) (fun κ K F => jf_X8_find K X v1 F hr)
theorem jl_X8_holding_4 {κ : JK} (K : jOk 5 cX8_holding RX8 (some (.object "SearchKeeper$Root")) 1 κ) (X : JX) {r : (Option Nat)} (F : jFin LX false (oO (jad κ) X r) κ) : ∀ (v2 : Int32) (v3 : Int32), l_X8_holding_4 X v2 v3 = some r → J LX 5 κ X 4 [(0, .ref (jad κ (11))), (2, .int v2), (3, .int v3)] [] := by
  refine j_loop2 (P := fun v2 v3 => J LX 5 κ X 4 [(0, .ref (jad κ (11))), (2, .int v2), (3, .int v3)] []) (fun rec4 hrec4 v2 v3 hr => ?_) 1000
  unfold lb_X8_holding_4 at hr
  refine j_iload_n K dX8_holding_4 2 rfl ?_
  refine j_bipush K dX8_holding_5 (v := 60) rfl ?_
  refine j_icmp_ge K dX8_holding_7 (tgt := 45) (by decide) hr (fun hr => ?_) (fun hr => ?_)
  · refine j_null K dX8_holding_45 ?_
    exact j_areturnN K dX8_holding_46 rfl (Or.inl ⟨_, rfl⟩) F hr rfl
  · refine j_iload_n K dX8_holding_10 1 rfl ?_
    refine j_iconst K dX8_holding_11 (v := -1) rfl ?_
    refine j_icmp_eq K dX8_holding_12 (tgt := 45) (by decide) hr (fun hr => ?_) (fun hr => ?_)
    · refine j_null K dX8_holding_45 ?_
      exact j_areturnN K dX8_holding_46 rfl (Or.inl ⟨_, rfl⟩) F hr rfl
    · refine j_aload_n K dX8_holding_15 0 rfl ?_
      refine j_iload_n K dX8_holding_16 1 rfl ?_
      refine j_vO1 K (ci := 8) hr (fun v h => c_X8_find X v2 h) ml_X8_29 ⟨_, rfl, rfl⟩ rfl (Nat.le_of_ble_eq_true rfl) (by decide) rfl (by decide) (by decide) (Nat.le_of_ble_eq_true rfl) dX8_holding_17 (fun h hr => ?_) (fun q2 h hr => ?_)
      · refine j_astoreN K dX8_holding_20 (by decide) ?_
        refine j_aloadN K dX8_holding_22 0 rfl ?_
        refine j_ifnullN K dX8_holding_24 (tgt := 30) (by decide) ?_
        refine j_aload_n K dX8_holding_30 1 rfl ?_
        refine j_get K (v := .ref (jad κ (1))) fl_X8_17 rfl (Nat.le_of_ble_eq_true rfl) (by decide) rfl dX8_holding_31 ?_
        refine j_iload_n K dX8_holding_34 2 rfl ?_
        refine j_vI1 K (ci := 9) hr (fun v h => c_X9_parentOf X v2 h) ml_X8_33 ⟨_, rfl, rfl⟩ rfl (Nat.le_of_ble_eq_true rfl) (by decide) rfl (by decide) (by decide) (Nat.le_of_ble_eq_true rfl) dX8_holding_35 (fun t3 h hr => ?_)
        refine j_istore_n K dX8_holding_38 (by decide) ?_
        refine j_iincV K dX8_holding_39 (v := 1) 3 rfl rfl (by decide) hr (fun t4 hr => ?_)
        refine j_goto K dX8_holding_42 (tgt := 4) (by decide) ?_
        exact j_sub [3, 1, 0] rfl (hrec4 _ _ hr)
      · refine j_guard hr (fun hq2 hr => ?_)
        refine j_astore K dX8_holding_20 (by decide) ?_
        refine j_aload K dX8_holding_22 0 rfl ?_
        refine j_ifnull K dX8_holding_24 ?_
        refine j_aload K dX8_holding_27 0 rfl ?_
        exact j_areturn K dX8_holding_29 rfl (Or.inl ⟨_, rfl⟩) F hr rfl
theorem jf_X8_holding {κ : JK} (K : jOk 5 cX8_holding RX8 (some (.object "SearchKeeper$Root")) 1 κ) (X : JX) (v1 : Int32) {r : (Option Nat)} (F : jFin LX false (oO (jad κ) X r) κ) (hr : f_X8_holding X v1 = some r) : J LX 5 κ X 0 [(0, .ref (jad κ (11))), (1, .int v1)] [] := by
  unfold f_X8_holding at hr
  refine j_iload_n K dX8_holding_0 1 rfl ?_
  refine j_istore_n K dX8_holding_1 (by decide) ?_
  refine j_iconst K dX8_holding_2 (v := 0) rfl ?_
  refine j_istore_n K dX8_holding_3 (by decide) ?_
  exact j_sub [2, 1, 0] rfl (jl_X8_holding_4 K _ F _ _ hr)
theorem c_X8_holding (X : JX) (v1 : Int32) {r : (Option Nat)} (hr : f_X8_holding X v1 = some r) : Cal LX yX8_holding cX8_holding 5 (some (.object "SearchKeeper$Root")) 1 (fun ad => [.ref (ad (11)), .int v1]) X (fun ad => oO ad X r) :=
  Cal.of (own := RX8) (fun ad => [(0, .ref (ad (11))), (1, .int v1)]) (by decide) rfl (fun _ => Nat.le_of_ble_eq_true rfl) (fun _ => rfl) (fun κ K F => jf_X8_holding K X v1 F hr)
theorem jf_X8_above {κ : JK} (K : jOk 2 cX8_above RX8 (some (.object "SearchKeeper$Root")) 2 κ) (X : JX) (v1 : Int32) {r : (Option Nat)} (F : jFin LX false (oO (jad κ) X r) κ) (hr : f_X8_above X v1 = some r) : J LX 2 κ X 0 [(0, .ref (jad κ (11))), (1, .int v1)] [] := by
  unfold f_X8_above at hr
  refine j_aload_n K dX8_above_0 0 rfl ?_
  refine j_aload_n K dX8_above_1 0 rfl ?_
  refine j_get K (v := .ref (jad κ (1))) fl_X8_17 rfl (Nat.le_of_ble_eq_true rfl) (by decide) rfl dX8_above_2 ?_
  refine j_iload_n K dX8_above_5 1 rfl ?_
  refine j_vI1 K (ci := 9) hr (fun v h => c_X9_parentOf X v1 h) ml_X8_33 ⟨_, rfl, rfl⟩ rfl (Nat.le_of_ble_eq_true rfl) (by decide) rfl (by decide) (by decide) (Nat.le_of_ble_eq_true rfl) dX8_above_6 (fun t1 h hr => ?_)
  refine j_vO1 K (ci := 8) hr (fun v h => c_X8_holding X t1 h) ml_X8_39 ⟨_, rfl, rfl⟩ rfl (Nat.le_of_ble_eq_true rfl) (by decide) rfl (by decide) (by decide) (Nat.le_of_ble_eq_true rfl) dX8_above_9 (fun h hr => ?_) (fun q3 h hr => ?_)
  · exact j_areturnN K dX8_above_12 rfl (Or.inl ⟨_, rfl⟩) F hr rfl
  · refine j_guard hr (fun hq3 hr => ?_)
    exact j_areturn K dX8_above_12 rfl (Or.inl ⟨_, rfl⟩) F hr rfl
theorem c_X8_above (X : JX) (v1 : Int32) {r : (Option Nat)} (hr : f_X8_above X v1 = some r) : Cal LX yX8_above cX8_above 2 (some (.object "SearchKeeper$Root")) 2 (fun ad => [.ref (ad (11)), .int v1]) X (fun ad => oO ad X r) :=
  Cal.of (own := RX8) (fun ad => [(0, .ref (ad (11))), (1, .int v1)]) (by decide) rfl (fun _ => Nat.le_of_ble_eq_true rfl) (fun _ => rfl) (fun κ K F => jf_X8_above K X v1 F hr)
theorem jb_X6_endOfWhole_65 {κ : JK} (K : jOk 6 cX6_endOfWhole RX6 (some .int) 1 κ) (X : JX) (q0 : Nat) (v2 : Int32) (v3 : Int32) (v4 : Int32) {r : Int32} (F : jFin LX false (oI X r) κ) (hq0 : isI20 q0 = true) (rec14 : Int32 → Int32 → Int32 → Option Int32) (hrec14 : ∀ (v2 : Int32) (v3 : Int32) (v4 : Int32), rec14 v2 v3 v4 = some r → J LX 6 κ X 14 [(0, .ref (jad κ q0)), (2, .int v2), (3, .int v3), (4, .int v4)] []) (hr : b_X6_endOfWhole_65 rec14 X q0 v2 v3 v4 = some r) : J LX 6 κ X 65 [(0, .ref (jad κ q0)), (2, .int v2), (3, .int v3), (4, .int v4)] [] := by
  unfold b_X6_endOfWhole_65 at hr
  refine j_iincV K dX6_endOfWhole_65 (v := -1) 3 rfl rfl (by decide) hr (fun t6 hr => ?_)
  refine j_goto K dX6_endOfWhole_68 (tgt := 14) (by decide) ?_
  exact j_sub [1, 2, 3, 0] rfl (hrec14 _ _ _ hr)
theorem jb_X6_endOfWhole_55 {κ : JK} (K : jOk 6 cX6_endOfWhole RX6 (some .int) 1 κ) (X : JX) (q0 : Nat) (v2 : Int32) (v3 : Int32) (v4 : Int32) (v5 : Int32) {r : Int32} (F : jFin LX false (oI X r) κ) (hq0 : isI20 q0 = true) (rec14 : Int32 → Int32 → Int32 → Option Int32) (hrec14 : ∀ (v2 : Int32) (v3 : Int32) (v4 : Int32), rec14 v2 v3 v4 = some r → J LX 6 κ X 14 [(0, .ref (jad κ q0)), (2, .int v2), (3, .int v3), (4, .int v4)] []) (hr : b_X6_endOfWhole_55 rec14 X q0 v2 v3 v4 v5 = some r) : J LX 6 κ X 55 [(0, .ref (jad κ q0)), (2, .int v2), (3, .int v3), (4, .int v4), (5, .int v5)] [] := by
  unfold b_X6_endOfWhole_55 at hr
  refine j_iload K dX6_endOfWhole_55 4 rfl ?_
  refine j_bipush K dX6_endOfWhole_57 (v := -2) rfl ?_
  refine j_icmp_ne K dX6_endOfWhole_59 (tgt := 65) (by decide) hr (fun hr => ?_) (fun hr => ?_)
  · exact j_sub [0, 1, 2, 3] rfl (jb_X6_endOfWhole_65 K _ _ _ _ _ F hq0 rec14 hrec14 hr)
  · refine j_iload K dX6_endOfWhole_62 3 rfl ?_
    refine j_istore_n K dX6_endOfWhole_64 (by decide) ?_
    exact j_sub [1, 0, 2, 3] rfl (jb_X6_endOfWhole_65 K _ _ _ _ _ F hq0 rec14 hrec14 hr)
theorem jl_X6_endOfWhole_14 {κ : JK} (K : jOk 6 cX6_endOfWhole RX6 (some .int) 1 κ) (X : JX) (q0 : Nat) {r : Int32} (F : jFin LX false (oI X r) κ) (hq0 : isI20 q0 = true) : ∀ (v2 : Int32) (v3 : Int32) (v4 : Int32), l_X6_endOfWhole_14 X q0 v2 v3 v4 = some r → J LX 6 κ X 14 [(0, .ref (jad κ q0)), (2, .int v2), (3, .int v3), (4, .int v4)] [] := by
  refine j_loop3 (P := fun v2 v3 v4 => J LX 6 κ X 14 [(0, .ref (jad κ q0)), (2, .int v2), (3, .int v3), (4, .int v4)] []) (fun rec14 hrec14 v2 v3 v4 hr => ?_) 1000
  unfold lb_X6_endOfWhole_14 at hr
  refine j_iload K dX6_endOfWhole_14 3 rfl ?_
  refine j_if_lt K dX6_endOfWhole_16 (tgt := 71) (by decide) hr (fun hr => ?_) (fun hr => ?_)
  · refine j_iload_n K dX6_endOfWhole_71 1 rfl ?_
    exact j_ireturn K dX6_endOfWhole_72 rfl F hr rfl
  · refine j_aload_n K dX6_endOfWhole_19 0 rfl ?_
    refine j_iload K dX6_endOfWhole_20 3 rfl ?_
    refine j_iaload K (z := 20) (i20 hq0) (i20l hq0) dX6_endOfWhole_22 hr (fun hr => ?_)
    refine j_istoreV K dX6_endOfWhole_23 (by decide) hr (fun t3 hr => ?_)
    refine j_iload K dX6_endOfWhole_25 0 rfl ?_
    refine j_bipush K dX6_endOfWhole_27 (v := -3) rfl ?_
    refine j_icmp_ne K dX6_endOfWhole_29 (tgt := 38) (by decide) hr (fun hr => ?_) (fun hr => ?_)
    · refine j_iload K dX6_endOfWhole_38 0 rfl ?_
      refine j_bipush K dX6_endOfWhole_40 (v := -2) rfl ?_
      refine j_icmp_ne K dX6_endOfWhole_42 (tgt := 55) (by decide) hr (fun hr => ?_) (fun hr => ?_)
      · exact j_sub [1, 2, 3, 4, 0] rfl (jb_X6_endOfWhole_55 K _ _ _ _ _ _ F hq0 rec14 hrec14 hr)
      · refine j_iload_n K dX6_endOfWhole_45 3 rfl ?_
        refine j_if_le K dX6_endOfWhole_46 (tgt := 55) (by decide) hr (fun hr => ?_) (fun hr => ?_)
        · exact j_sub [1, 2, 3, 4, 0] rfl (jb_X6_endOfWhole_55 K _ _ _ _ _ _ F hq0 rec14 hrec14 hr)
        · refine j_iincV K dX6_endOfWhole_49 (v := -1) 3 rfl rfl (by decide) hr (fun t4 hr => ?_)
          refine j_goto K dX6_endOfWhole_52 (tgt := 65) (by decide) ?_
          exact j_sub [2, 3, 0, 4] rfl (jb_X6_endOfWhole_65 K _ _ _ _ _ F hq0 rec14 hrec14 hr)
    · refine j_iincV K dX6_endOfWhole_32 (v := 1) 3 rfl rfl (by decide) hr (fun t5 hr => ?_)
      refine j_goto K dX6_endOfWhole_35 (tgt := 65) (by decide) ?_
      exact j_sub [2, 3, 0, 4] rfl (jb_X6_endOfWhole_65 K _ _ _ _ _ F hq0 rec14 hrec14 hr)
theorem jf_X6_endOfWhole {κ : JK} (K : jOk 6 cX6_endOfWhole RX6 (some .int) 1 κ) (X : JX) (q0 : Nat) (v1 : Int32) {r : Int32} (F : jFin LX false (oI X r) κ) (hq0 : isI20 q0 = true) (hr : f_X6_endOfWhole X q0 v1 = some r) : J LX 6 κ X 0 [(0, .ref (jad κ q0)), (1, .int v1)] [] := by
  unfold f_X6_endOfWhole at hr
  refine j_iload_n K dX6_endOfWhole_0 1 rfl ?_
  refine j_aload_n K dX6_endOfWhole_1 0 rfl ?_
  refine j_alen0 K (v := 20) (i20 hq0) (i20l hq0) rfl dX6_endOfWhole_2 ?_
  refine j_min K mm_X6_28 (by decide) (Nat.le_of_ble_eq_true rfl) dX6_endOfWhole_3 ?_
  refine j_istoreV_n K dX6_endOfWhole_6 (by decide) hr (fun t1 hr => ?_)
  refine j_iconst K dX6_endOfWhole_7 (v := 0) rfl ?_
  refine j_istore_n K dX6_endOfWhole_8 (by decide) ?_
  refine j_iload_n K dX6_endOfWhole_9 1 rfl ?_
  refine j_iconst K dX6_endOfWhole_10 (v := 1) rfl ?_
  refine j_isub K dX6_endOfWhole_11 ?_
  refine j_istoreV K dX6_endOfWhole_12 (by decide) hr (fun t2 hr => ?_)
  exact j_sub [3, 2, 1, 0] rfl (jl_X6_endOfWhole_14 K _ _ F hq0 _ _ _ hr)
theorem c_X6_endOfWhole (X : JX) (q0 : Nat) (v1 : Int32) {r : Int32} (hq0 : isI20 q0 = true) (hr : f_X6_endOfWhole X q0 v1 = some r) : Cal LX yX6_endOfWhole cX6_endOfWhole 6 (some .int) 1 (fun ad => [.ref (ad q0), .int v1]) X (fun ad => oI X r) :=
  Cal.of (own := RX6) (fun ad => [(0, .ref (ad q0)), (1, .int v1)]) (by decide) rfl (fun _ => Nat.le_of_ble_eq_true rfl) (fun _ => rfl) (fun κ K F => jf_X6_endOfWhole K X q0 v1 F hq0 hr)
theorem jb_X6_takeWords_103 {κ : JK} (K : jOk 9 cX6_takeWords RX6 (some .int) 2 κ) (X : JX) (q1 : Nat) (q3 : Nat) (v4 : Int32) (v5 : Int32) (v6 : Int32) (v7 : Int32) {r : (Int32 × JX)} (F : jFin LX false (oM r) κ) (hq1 : isI20 q1 = true) (hq3 : isI20 q3 = true) (rec16 : JX → Int32 → Int32 → Int32 → Option (Int32 × JX)) (hrec16 : ∀ (X : JX) (v5 : Int32) (v6 : Int32) (v7 : Int32), rec16 X v5 v6 v7 = some r → J LX 9 κ X 16 [(0, .ref (jad κ (34))), (1, .ref (jad κ q1)), (3, .ref (jad κ q3)), (4, .int v4), (5, .int v5), (6, .int v6), (7, .int v7)] []) (hr : b_X6_takeWords_103 rec16 X q1 q3 v4 v5 v6 v7 = some r) : J LX 9 κ X 103 [(0, .ref (jad κ (34))), (1, .ref (jad κ q1)), (3, .ref (jad κ q3)), (4, .int v4), (5, .int v5), (6, .int v6), (7, .int v7)] [] := by
  unfold b_X6_takeWords_103 at hr
  refine j_iincV K dX6_takeWords_103 (v := 1) 6 rfl rfl (by decide) hr (fun t7 hr => ?_)
  refine j_goto K dX6_takeWords_106 (tgt := 16) (by decide) ?_
  exact j_sub [1, 2, 3, 4, 5, 6, 0] rfl (hrec16 _ _ _ _ hr)
theorem jl_X6_takeWords_16 {κ : JK} (K : jOk 9 cX6_takeWords RX6 (some .int) 2 κ) (q1 : Nat) (q3 : Nat) (v4 : Int32) {r : (Int32 × JX)} (F : jFin LX false (oM r) κ) (hq1 : isI20 q1 = true) (hq3 : isI20 q3 = true) : ∀ (X : JX) (v5 : Int32) (v6 : Int32) (v7 : Int32), l_X6_takeWords_16 q1 q3 v4 X v5 v6 v7 = some r → J LX 9 κ X 16 [(0, .ref (jad κ (34))), (1, .ref (jad κ q1)), (3, .ref (jad κ q3)), (4, .int v4), (5, .int v5), (6, .int v6), (7, .int v7)] [] := by
  refine j_loop4 (P := fun X v5 v6 v7 => J LX 9 κ X 16 [(0, .ref (jad κ (34))), (1, .ref (jad κ q1)), (3, .ref (jad κ q3)), (4, .int v4), (5, .int v5), (6, .int v6), (7, .int v7)] []) (fun rec16 hrec16 X v5 v6 v7 hr => ?_) 1000
  unfold lb_X6_takeWords_16 at hr
  refine j_iload K dX6_takeWords_16 6 rfl ?_
  refine j_iload K dX6_takeWords_18 3 rfl ?_
  refine j_icmp_ge K dX6_takeWords_20 (tgt := 109) (by decide) hr (fun hr => ?_) (fun hr => ?_)
  · refine j_iload K dX6_takeWords_109 4 rfl ?_
    exact j_ireturn K dX6_takeWords_111 rfl F hr rfl
  · refine j_iload K dX6_takeWords_23 6 rfl ?_
    refine j_aload_n K dX6_takeWords_25 1 rfl ?_
    refine j_alen0 K (v := 20) (i20 hq1) (i20l hq1) rfl dX6_takeWords_26 ?_
    refine j_icmp_ge K dX6_takeWords_27 (tgt := 109) (by decide) hr (fun hr => ?_) (fun hr => ?_)
    · refine j_iload K dX6_takeWords_109 4 rfl ?_
      exact j_ireturn K dX6_takeWords_111 rfl F hr rfl
    · refine j_aload_n K dX6_takeWords_30 1 rfl ?_
      refine j_iload K dX6_takeWords_31 6 rfl ?_
      refine j_iaload K (z := 20) (i20 hq1) (i20l hq1) dX6_takeWords_33 hr (fun hr => ?_)
      refine j_istoreV K dX6_takeWords_34 (by decide) hr (fun t2 hr => ?_)
      refine j_iload K dX6_takeWords_36 0 rfl ?_
      refine j_bipush K dX6_takeWords_38 (v := -2) rfl ?_
      refine j_icmp_ne K dX6_takeWords_40 (tgt := 49) (by decide) hr (fun hr => ?_) (fun hr => ?_)
      · refine j_iload K dX6_takeWords_49 0 rfl ?_
        refine j_bipush K dX6_takeWords_51 (v := -3) rfl ?_
        refine j_icmp_ne K dX6_takeWords_53 (tgt := 69) (by decide) hr (fun hr => ?_) (fun hr => ?_)
        · refine j_iload K dX6_takeWords_69 6 rfl ?_
          refine j_aload_n K dX6_takeWords_71 1 rfl ?_
          refine j_get K (v := .int (X (34) 0)) fl_X6_9 rfl (Nat.le_of_ble_eq_true rfl) (by decide) rfl dX6_takeWords_72 ?_
          refine j_icmp_gt K dX6_takeWords_75 (tgt := 103) (by decide) hr (fun hr => ?_) (fun hr => ?_)
          · exact j_sub [1, 2, 3, 4, 5, 6, 7] rfl (jb_X6_takeWords_103 K _ _ _ _ _ _ _ F hq1 hq3 rec16 hrec16 hr)
          · refine j_iload K dX6_takeWords_78 5 rfl ?_
            refine j_aload_n K dX6_takeWords_80 1 rfl ?_
            refine j_get K (v := .int (X (34) 1)) fl_X6_15 rfl (Nat.le_of_ble_eq_true rfl) (by decide) rfl dX6_takeWords_81 ?_
            refine j_icmp_ge K dX6_takeWords_84 (tgt := 103) (by decide) hr (fun hr => ?_) (fun hr => ?_)
            · exact j_sub [1, 2, 3, 4, 5, 6, 7] rfl (jb_X6_takeWords_103 K _ _ _ _ _ _ _ F hq1 hq3 rec16 hrec16 hr)
            · refine j_iload K dX6_takeWords_87 5 rfl ?_
              refine j_aload_n K dX6_takeWords_89 3 rfl ?_
              refine j_alen0 K (v := 20) (i20 hq3) (i20l hq3) rfl dX6_takeWords_90 ?_
              refine j_icmp_ge K dX6_takeWords_91 (tgt := 103) (by decide) hr (fun hr => ?_) (fun hr => ?_)
              · exact j_sub [1, 2, 3, 4, 5, 6, 7] rfl (jb_X6_takeWords_103 K _ _ _ _ _ _ _ F hq1 hq3 rec16 hrec16 hr)
              · refine j_aload_n K dX6_takeWords_94 3 rfl ?_
                refine j_iload K dX6_takeWords_95 5 rfl ?_
                refine j_iload K dX6_takeWords_97 0 rfl ?_
                refine j_iastoreV K (z := 20) (i20 hq3) (i20l hq3) dX6_takeWords_99 hr (fun X3 hr => ?_)
                refine j_iincV K dX6_takeWords_100 (v := 1) 5 rfl rfl (by decide) hr (fun t4 hr => ?_)
                exact j_sub [2, 3, 4, 5, 0, 6, 7] rfl (jb_X6_takeWords_103 K _ _ _ _ _ _ _ F hq1 hq3 rec16 hrec16 hr)
        · refine j_iconst K dX6_takeWords_56 (v := 0) rfl ?_
          refine j_iload K dX6_takeWords_57 6 rfl ?_
          refine j_iconst K dX6_takeWords_59 (v := 1) rfl ?_
          refine j_isub K dX6_takeWords_60 ?_
          refine j_max K mm_X6_22 (by decide) (Nat.le_of_ble_eq_true rfl) dX6_takeWords_61 ?_
          refine j_istoreV K dX6_takeWords_64 (by decide) hr (fun t5 hr => ?_)
          refine j_goto K dX6_takeWords_66 (tgt := 103) (by decide) ?_
          exact j_sub [2, 3, 4, 5, 6, 0, 7] rfl (jb_X6_takeWords_103 K _ _ _ _ _ _ _ F hq1 hq3 rec16 hrec16 hr)
      · refine j_iincV K dX6_takeWords_43 (v := 1) 6 rfl rfl (by decide) hr (fun t6 hr => ?_)
        refine j_goto K dX6_takeWords_46 (tgt := 103) (by decide) ?_
        exact j_sub [2, 3, 4, 5, 6, 0, 7] rfl (jb_X6_takeWords_103 K _ _ _ _ _ _ _ F hq1 hq3 rec16 hrec16 hr)
theorem jf_X6_takeWords {κ : JK} (K : jOk 9 cX6_takeWords RX6 (some .int) 2 κ) (X : JX) (q1 : Nat) (v2 : Int32) (q3 : Nat) {r : (Int32 × JX)} (F : jFin LX false (oM r) κ) (hq1 : isI20 q1 = true) (hq3 : isI20 q3 = true) (hr : f_X6_takeWords X q1 v2 q3 = some r) : J LX 9 κ X 0 [(0, .ref (jad κ (34))), (1, .ref (jad κ q1)), (2, .int v2), (3, .ref (jad κ q3))] [] := by
  unfold f_X6_takeWords at hr
  refine j_aload_n K dX6_takeWords_0 1 rfl ?_
  refine j_iload_n K dX6_takeWords_1 2 rfl ?_
  refine j_sI2 K hr (fun v h => c_X6_endOfWhole X q1 v2 hq1 h) ms_X6_18 rfl (by decide) (by decide) (Nat.le_of_ble_eq_true rfl) dX6_takeWords_2 (fun t1 h hr => ?_)
  refine j_istore K dX6_takeWords_5 (by decide) ?_
  refine j_iconst K dX6_takeWords_7 (v := 0) rfl ?_
  refine j_istore K dX6_takeWords_8 (by decide) ?_
  refine j_iconst K dX6_takeWords_10 (v := 0) rfl ?_
  refine j_istore K dX6_takeWords_11 (by decide) ?_
  refine j_iconst K dX6_takeWords_13 (v := 0) rfl ?_
  refine j_istore K dX6_takeWords_14 (by decide) ?_
  exact j_sub [4, 5, 7, 3, 2, 1, 0] rfl (jl_X6_takeWords_16 K _ _ _ F hq1 hq3 _ _ _ _ hr)
theorem c_X6_takeWords (X : JX) (q1 : Nat) (v2 : Int32) (q3 : Nat) {r : (Int32 × JX)} (hq1 : isI20 q1 = true) (hq3 : isI20 q3 = true) (hr : f_X6_takeWords X q1 v2 q3 = some r) : Cal LX yX6_takeWords cX6_takeWords 9 (some .int) 2 (fun ad => [.ref (ad (34)), .ref (ad q1), .int v2, .ref (ad q3)]) X (fun ad => oM r) :=
  Cal.of (own := RX6) (fun ad => [(0, .ref (ad (34))), (1, .ref (ad q1)), (2, .int v2), (3, .ref (ad q3))]) (by decide) rfl (fun _ => Nat.le_of_ble_eq_true rfl) (fun _ => rfl) (fun κ K F => jf_X6_takeWords K X q1 v2 q3 F hq1 hq3 hr)
theorem jf_X7_hasNotices {κ : JK} (K : jOk 1 cX7_hasNotices RX7 (some .boolean) 0 κ) (X : JX) (q0 : Nat) {r : Int32} (F : jFin LX false (oI X r) κ) (hq0 : isRt q0 = true) (hr : f_X7_hasNotices X q0 = some r) : J LX 1 κ X 0 [(0, .ref (jad κ q0))] [] := by
  unfold f_X7_hasNotices at hr
  refine j_aload_n K dX7_hasNotices_0 0 rfl ?_
  refine j_get K (v := .int (X q0 4)) fl_X7_29 (rt0 hq0) (rt0l hq0) (by decide) rfl dX7_hasNotices_1 ?_
  refine j_if_le K dX7_hasNotices_4 (tgt := 11) (by decide) hr (fun hr => ?_) (fun hr => ?_)
  · refine j_iconst K dX7_hasNotices_11 (v := 0) rfl ?_
    exact j_zreturn K dX7_hasNotices_12 rfl rfl F hr rfl
  · refine j_iconst K dX7_hasNotices_7 (v := 1) rfl ?_
    refine j_goto K dX7_hasNotices_8 (tgt := 12) (by decide) ?_
    exact j_zreturn K dX7_hasNotices_12 rfl rfl F hr rfl
theorem c_X7_hasNotices (X : JX) (q0 : Nat) {r : Int32} (hq0 : isRt q0 = true) (hr : f_X7_hasNotices X q0 = some r) : Cal LX yX7_hasNotices cX7_hasNotices 1 (some .boolean) 0 (fun ad => [.ref (ad q0)]) X (fun ad => oI X r) :=
  Cal.of (own := RX7) (fun ad => [(0, .ref (ad q0))]) (by decide) rfl (fun _ => Nat.le_of_ble_eq_true rfl) (fun _ => rfl) (fun κ K F => jf_X7_hasNotices K X q0 F hq0 hr)
theorem jb_X8_firstNoisy_42 {κ : JK} (K : jOk 3 cX8_firstNoisy RX8 (some (.object "SearchKeeper$Root")) 1 κ) (X : JX) (v1 : Int32) {r : (Option Nat)} (F : jFin LX false (oO (jad κ) X r) κ) (rec2 : Int32 → Option (Option Nat)) (hrec2 : ∀ (v1 : Int32), rec2 v1 = some r → J LX 3 κ X 2 [(0, .ref (jad κ (11))), (1, .int v1)] []) (hr : b_X8_firstNoisy_42 rec2 X v1 = some r) : J LX 3 κ X 42 [(0, .ref (jad κ (11))), (1, .int v1)] [] := by
  unfold b_X8_firstNoisy_42 at hr
  refine j_iincV K dX8_firstNoisy_42 (v := 1) 1 rfl rfl (by decide) hr (fun t3 hr => ?_)
  refine j_goto K dX8_firstNoisy_45 (tgt := 2) (by decide) ?_
  exact j_sub [1, 0] rfl (hrec2 _ hr)
theorem jl_X8_firstNoisy_2 {κ : JK} (K : jOk 3 cX8_firstNoisy RX8 (some (.object "SearchKeeper$Root")) 1 κ) (X : JX) {r : (Option Nat)} (F : jFin LX false (oO (jad κ) X r) κ) : ∀ (v1 : Int32), l_X8_firstNoisy_2 X v1 = some r → J LX 3 κ X 2 [(0, .ref (jad κ (11))), (1, .int v1)] [] := by
  refine j_loop1 (P := fun v1 => J LX 3 κ X 2 [(0, .ref (jad κ (11))), (1, .int v1)] []) (fun rec2 hrec2 v1 hr => ?_) 1000
  unfold lb_X8_firstNoisy_2 at hr
  refine j_iload_n K dX8_firstNoisy_2 1 rfl ?_
  refine j_aload_n K dX8_firstNoisy_3 0 rfl ?_
  refine j_get K (v := .int (X (11) 2)) fl_X8_22 rfl (Nat.le_of_ble_eq_true rfl) (by decide) rfl dX8_firstNoisy_4 ?_
  refine j_icmp_ge K dX8_firstNoisy_7 (tgt := 48) (by decide) hr (fun hr => ?_) (fun hr => ?_)
  · refine j_null K dX8_firstNoisy_48 ?_
    exact j_areturnN K dX8_firstNoisy_49 rfl (Or.inl ⟨_, rfl⟩) F hr rfl
  · refine j_iload_n K dX8_firstNoisy_10 1 rfl ?_
    refine j_iconst K dX8_firstNoisy_11 (v := 3) rfl ?_
    refine j_icmp_ge K dX8_firstNoisy_12 (tgt := 48) (by decide) hr (fun hr => ?_) (fun hr => ?_)
    · refine j_null K dX8_firstNoisy_48 ?_
      exact j_areturnN K dX8_firstNoisy_49 rfl (Or.inl ⟨_, rfl⟩) F hr rfl
    · refine j_aload_n K dX8_firstNoisy_15 0 rfl ?_
      refine j_get K (v := .ref (jad κ (12))) fl_X8_11 rfl (Nat.le_of_ble_eq_true rfl) (by decide) rfl dX8_firstNoisy_16 ?_
      refine j_iload_n K dX8_firstNoisy_19 1 rfl ?_
      refine j_aaload3V K (z := 3) rfl (Nat.le_of_ble_eq_true rfl) dX8_firstNoisy_20 hr (fun q1 hq1 hr => ?_)
      refine j_astore_n K dX8_firstNoisy_21 (by decide) ?_
      refine j_aload_n K dX8_firstNoisy_22 0 rfl ?_
      refine j_ifnull K dX8_firstNoisy_23 ?_
      refine j_aload_n K dX8_firstNoisy_26 0 rfl ?_
      refine j_getN K (v := .int (X q1 5)) fn_X8_46 (rt0 hq1) (rt0l hq1) (by decide) rfl dX8_firstNoisy_27 ?_
      refine j_if_ne K dX8_firstNoisy_30 (tgt := 40) (by decide) hr (fun hr => ?_) (fun hr => ?_)
      · refine j_aload_n K dX8_firstNoisy_40 0 rfl ?_
        exact j_areturn K dX8_firstNoisy_41 rfl (Or.inl ⟨_, rfl⟩) F hr rfl
      · refine j_aload_n K dX8_firstNoisy_33 0 rfl ?_
        refine j_vI0 K (ci := 7) hr (fun v h => c_X7_hasNotices X q1 hq1 h) ml_X8_50 ⟨_, rfl, rfl⟩ (rt0 hq1) (rt0l hq1) (by decide) rfl (by decide) (by decide) (Nat.le_of_ble_eq_true rfl) dX8_firstNoisy_34 (fun t2 h hr => ?_)
        refine j_if_eq K dX8_firstNoisy_37 (tgt := 42) (by decide) hr (fun hr => ?_) (fun hr => ?_)
        · exact j_sub [1, 2] rfl (jb_X8_firstNoisy_42 K _ _ F rec2 hrec2 hr)
        · refine j_aload_n K dX8_firstNoisy_40 0 rfl ?_
          exact j_areturn K dX8_firstNoisy_41 rfl (Or.inl ⟨_, rfl⟩) F hr rfl
theorem jf_X8_firstNoisy {κ : JK} (K : jOk 3 cX8_firstNoisy RX8 (some (.object "SearchKeeper$Root")) 1 κ) (X : JX) {r : (Option Nat)} (F : jFin LX false (oO (jad κ) X r) κ) (hr : f_X8_firstNoisy X = some r) : J LX 3 κ X 0 [(0, .ref (jad κ (11)))] [] := by
  unfold f_X8_firstNoisy at hr
  refine j_iconst K dX8_firstNoisy_0 (v := 0) rfl ?_
  refine j_istore_n K dX8_firstNoisy_1 (by decide) ?_
  exact j_sub [1, 0] rfl (jl_X8_firstNoisy_2 K _ F _ hr)
theorem c_X8_firstNoisy (X : JX) {r : (Option Nat)} (hr : f_X8_firstNoisy X = some r) : Cal LX yX8_firstNoisy cX8_firstNoisy 3 (some (.object "SearchKeeper$Root")) 1 (fun ad => [.ref (ad (11))]) X (fun ad => oO ad X r) :=
  Cal.of (own := RX8) (fun ad => [(0, .ref (ad (11)))]) (by decide) rfl (fun _ => Nat.le_of_ble_eq_true rfl) (fun _ => rfl) (fun κ K F => jf_X8_firstNoisy K X F hr)
theorem jf_X7_beginCrawl {κ : JK} (K : jOk 1 cX7_beginCrawl RX7 none 2 κ) (X : JX) (q0 : Nat) {r : JX} (F : jFin LX false (oU r) κ) (hq0 : isRt q0 = true) (hr : f_X7_beginCrawl X q0 = some r) : J LX 1 κ X 0 [(0, .ref (jad κ q0))] [] := by
  unfold f_X7_beginCrawl at hr
  refine j_aload_n K dX7_beginCrawl_0 0 rfl ?_
  refine j_get K (v := .ref (jad κ (q0 + 3))) fl_X7_21 (rt0 hq0) (rt0l hq0) (by decide) rfl dX7_beginCrawl_1 ?_
  refine j_aload_n K dX7_beginCrawl_4 0 rfl ?_
  refine j_get K (v := .int (X q0 3)) fl_X7_25 (rt0 hq0) (rt0l hq0) (by decide) rfl dX7_beginCrawl_5 ?_
  refine j_vU1 K (ci := 1) hr (fun v h => c_X1_startAnew X (q0 + 3) (X q0 3) (rtc hq0) h) ml_X7_39 ⟨_, rfl, rfl⟩ (cr0 (rtc hq0)) (cr0l (rtc hq0)) (by decide) rfl (by decide) (by decide) (Nat.le_of_ble_eq_true rfl) dX7_beginCrawl_8 (fun X1 h hr => ?_)
  exact j_return K dX7_beginCrawl_11 rfl F hr rfl
theorem c_X7_beginCrawl (X : JX) (q0 : Nat) {r : JX} (hq0 : isRt q0 = true) (hr : f_X7_beginCrawl X q0 = some r) : Cal LX yX7_beginCrawl cX7_beginCrawl 1 none 2 (fun ad => [.ref (ad q0)]) X (fun ad => oU r) :=
  Cal.of (own := RX7) (fun ad => [(0, .ref (ad q0))]) (by decide) rfl (fun _ => Nat.le_of_ble_eq_true rfl) (fun _ => rfl) (fun κ K F => jf_X7_beginCrawl K X q0 F hq0 hr)
theorem jb_X7_takeFirst_50 {κ : JK} (K : jOk 2 cX7_takeFirst RX7 none 1 κ) (X : JX) (q0 : Nat) {r : JX} (F : jFin LX false (oU r) κ) (hq0 : isRt q0 = true) (hr : b_X7_takeFirst_50 X q0 = some r) : J LX 2 κ X 50 [(0, .ref (jad κ q0))] [] := by
  unfold b_X7_takeFirst_50 at hr
  refine j_aload_n K dX7_takeFirst_50 0 rfl ?_
  refine j_iconst K dX7_takeFirst_51 (v := 0) rfl ?_
  refine j_aload_n K dX7_takeFirst_52 0 rfl ?_
  refine j_get K (v := .int (X q0 4)) fl_X7_29 (rt0 hq0) (rt0l hq0) (by decide) rfl dX7_takeFirst_53 ?_
  refine j_iconst K dX7_takeFirst_56 (v := 1) rfl ?_
  refine j_isub K dX7_takeFirst_57 ?_
  refine j_max K mm_X7_47 (by decide) (Nat.le_of_ble_eq_true rfl) dX7_takeFirst_58 ?_
  refine j_putiV K fp_X7_29 (rt0 hq0) (rt0l hq0) (by decide) (fun _ => Nat.le_of_ble_eq_true rfl) (fun _ => rfl) dX7_takeFirst_61 hr (fun X4 hr => ?_)
  exact j_return K dX7_takeFirst_64 rfl F hr rfl
theorem jl_X7_takeFirst_2 {κ : JK} (K : jOk 2 cX7_takeFirst RX7 none 1 κ) (q0 : Nat) {r : JX} (F : jFin LX false (oU r) κ) (hq0 : isRt q0 = true) : ∀ (X : JX) (v1 : Int32), l_X7_takeFirst_2 q0 X v1 = some r → J LX 2 κ X 2 [(0, .ref (jad κ q0)), (1, .int v1)] [] := by
  refine j_loop2 (P := fun X v1 => J LX 2 κ X 2 [(0, .ref (jad κ q0)), (1, .int v1)] []) (fun rec2 hrec2 X v1 hr => ?_) 1000
  unfold lb_X7_takeFirst_2 at hr
  refine j_iload_n K dX7_takeFirst_2 1 rfl ?_
  refine j_aload_n K dX7_takeFirst_3 0 rfl ?_
  refine j_get K (v := .int (X q0 4)) fl_X7_29 (rt0 hq0) (rt0l hq0) (by decide) rfl dX7_takeFirst_4 ?_
  refine j_icmp_ge K dX7_takeFirst_7 (tgt := 50) (by decide) hr (fun hr => ?_) (fun hr => ?_)
  · exact j_sub [0] rfl (jb_X7_takeFirst_50 K _ _ F hq0 hr)
  · refine j_iload_n K dX7_takeFirst_10 1 rfl ?_
    refine j_bipush K dX7_takeFirst_11 (v := 8) rfl ?_
    refine j_icmp_ge K dX7_takeFirst_13 (tgt := 50) (by decide) hr (fun hr => ?_) (fun hr => ?_)
    · exact j_sub [0] rfl (jb_X7_takeFirst_50 K _ _ F hq0 hr)
    · refine j_aload_n K dX7_takeFirst_16 0 rfl ?_
      refine j_get K (v := .ref (jad κ (q0 + 1))) fl_X7_9 (rt0 hq0) (rt0l hq0) (by decide) rfl dX7_takeFirst_17 ?_
      refine j_iload_n K dX7_takeFirst_20 1 rfl ?_
      refine j_iconst K dX7_takeFirst_21 (v := 1) rfl ?_
      refine j_isub K dX7_takeFirst_22 ?_
      refine j_aload_n K dX7_takeFirst_23 0 rfl ?_
      refine j_get K (v := .ref (jad κ (q0 + 1))) fl_X7_9 (rt0 hq0) (rt0l hq0) (by decide) rfl dX7_takeFirst_24 ?_
      refine j_iload_n K dX7_takeFirst_27 1 rfl ?_
      refine j_iaload K (z := 8) (rt1 hq0) (rt1l hq0) dX7_takeFirst_28 hr (fun hr => ?_)
      refine j_iastoreV K (z := 8) (rt1 hq0) (rt1l hq0) dX7_takeFirst_29 hr (fun X1 hr => ?_)
      refine j_aload_n K dX7_takeFirst_30 0 rfl ?_
      refine j_get K (v := .ref (jad κ (q0 + 2))) fl_X7_15 (rt0 hq0) (rt0l hq0) (by decide) rfl dX7_takeFirst_31 ?_
      refine j_iload_n K dX7_takeFirst_34 1 rfl ?_
      refine j_iconst K dX7_takeFirst_35 (v := 1) rfl ?_
      refine j_isub K dX7_takeFirst_36 ?_
      refine j_aload_n K dX7_takeFirst_37 0 rfl ?_
      refine j_get K (v := .ref (jad κ (q0 + 2))) fl_X7_15 (rt0 hq0) (rt0l hq0) (by decide) rfl dX7_takeFirst_38 ?_
      refine j_iload_n K dX7_takeFirst_41 1 rfl ?_
      refine j_iaload K (z := 8) (rt2 hq0) (rt2l hq0) dX7_takeFirst_42 hr (fun hr => ?_)
      refine j_iastoreV K (z := 8) (rt2 hq0) (rt2l hq0) dX7_takeFirst_43 hr (fun X2 hr => ?_)
      refine j_iincV K dX7_takeFirst_44 (v := 1) 1 rfl rfl (by decide) hr (fun t3 hr => ?_)
      refine j_goto K dX7_takeFirst_47 (tgt := 2) (by decide) ?_
      exact j_sub [1, 0] rfl (hrec2 _ _ hr)
theorem jf_X7_takeFirst {κ : JK} (K : jOk 2 cX7_takeFirst RX7 none 1 κ) (X : JX) (q0 : Nat) {r : JX} (F : jFin LX false (oU r) κ) (hq0 : isRt q0 = true) (hr : f_X7_takeFirst X q0 = some r) : J LX 2 κ X 0 [(0, .ref (jad κ q0))] [] := by
  unfold f_X7_takeFirst at hr
  refine j_iconst K dX7_takeFirst_0 (v := 1) rfl ?_
  refine j_istore_n K dX7_takeFirst_1 (by decide) ?_
  exact j_sub [1, 0] rfl (jl_X7_takeFirst_2 K _ F hq0 _ _ hr)
theorem c_X7_takeFirst (X : JX) (q0 : Nat) {r : JX} (hq0 : isRt q0 = true) (hr : f_X7_takeFirst X q0 = some r) : Cal LX yX7_takeFirst cX7_takeFirst 2 none 1 (fun ad => [.ref (ad q0)]) X (fun ad => oU r) :=
  Cal.of (own := RX7) (fun ad => [(0, .ref (ad q0))]) (by decide) rfl (fun _ => Nat.le_of_ble_eq_true rfl) (fun _ => rfl) (fun κ K F => jf_X7_takeFirst K X q0 F hq0 hr)
theorem jb_X8_firstCrawled_38 {κ : JK} (K : jOk 3 cX8_firstCrawled RX8 (some (.object "SearchKeeper$Root")) 0 κ) (X : JX) (v1 : Int32) {r : (Option Nat)} (F : jFin LX false (oO (jad κ) X r) κ) (rec2 : Int32 → Option (Option Nat)) (hrec2 : ∀ (v1 : Int32), rec2 v1 = some r → J LX 3 κ X 2 [(0, .ref (jad κ (11))), (1, .int v1)] []) (hr : b_X8_firstCrawled_38 rec2 X v1 = some r) : J LX 3 κ X 38 [(0, .ref (jad κ (11))), (1, .int v1)] [] := by
  unfold b_X8_firstCrawled_38 at hr
  refine j_iincV K dX8_firstCrawled_38 (v := 1) 1 rfl rfl (by decide) hr (fun t2 hr => ?_)
  refine j_goto K dX8_firstCrawled_41 (tgt := 2) (by decide) ?_
  exact j_sub [1, 0] rfl (hrec2 _ hr)
theorem jl_X8_firstCrawled_2 {κ : JK} (K : jOk 3 cX8_firstCrawled RX8 (some (.object "SearchKeeper$Root")) 0 κ) (X : JX) {r : (Option Nat)} (F : jFin LX false (oO (jad κ) X r) κ) : ∀ (v1 : Int32), l_X8_firstCrawled_2 X v1 = some r → J LX 3 κ X 2 [(0, .ref (jad κ (11))), (1, .int v1)] [] := by
  refine j_loop1 (P := fun v1 => J LX 3 κ X 2 [(0, .ref (jad κ (11))), (1, .int v1)] []) (fun rec2 hrec2 v1 hr => ?_) 1000
  unfold lb_X8_firstCrawled_2 at hr
  refine j_iload_n K dX8_firstCrawled_2 1 rfl ?_
  refine j_aload_n K dX8_firstCrawled_3 0 rfl ?_
  refine j_get K (v := .int (X (11) 2)) fl_X8_22 rfl (Nat.le_of_ble_eq_true rfl) (by decide) rfl dX8_firstCrawled_4 ?_
  refine j_icmp_ge K dX8_firstCrawled_7 (tgt := 44) (by decide) hr (fun hr => ?_) (fun hr => ?_)
  · refine j_null K dX8_firstCrawled_44 ?_
    exact j_areturnN K dX8_firstCrawled_45 rfl (Or.inl ⟨_, rfl⟩) F hr rfl
  · refine j_iload_n K dX8_firstCrawled_10 1 rfl ?_
    refine j_iconst K dX8_firstCrawled_11 (v := 3) rfl ?_
    refine j_icmp_ge K dX8_firstCrawled_12 (tgt := 44) (by decide) hr (fun hr => ?_) (fun hr => ?_)
    · refine j_null K dX8_firstCrawled_44 ?_
      exact j_areturnN K dX8_firstCrawled_45 rfl (Or.inl ⟨_, rfl⟩) F hr rfl
    · refine j_aload_n K dX8_firstCrawled_15 0 rfl ?_
      refine j_get K (v := .ref (jad κ (12))) fl_X8_11 rfl (Nat.le_of_ble_eq_true rfl) (by decide) rfl dX8_firstCrawled_16 ?_
      refine j_iload_n K dX8_firstCrawled_19 1 rfl ?_
      refine j_aaload3V K (z := 3) rfl (Nat.le_of_ble_eq_true rfl) dX8_firstCrawled_20 hr (fun q1 hq1 hr => ?_)
      refine j_astore_n K dX8_firstCrawled_21 (by decide) ?_
      refine j_aload_n K dX8_firstCrawled_22 0 rfl ?_
      refine j_ifnull K dX8_firstCrawled_23 ?_
      refine j_aload_n K dX8_firstCrawled_26 0 rfl ?_
      refine j_getN K (v := .ref (jad κ (q1 + 3))) fn_X8_54 (rt0 hq1) (rt0l hq1) (by decide) rfl dX8_firstCrawled_27 ?_
      refine j_getN K (v := .int (X (q1 + 3) 4)) fn_X8_58 (cr0 (rtc hq1)) (cr0l (rtc hq1)) (by decide) rfl dX8_firstCrawled_30 ?_
      refine j_if_eq K dX8_firstCrawled_33 (tgt := 38) (by decide) hr (fun hr => ?_) (fun hr => ?_)
      · exact j_sub [1, 2] rfl (jb_X8_firstCrawled_38 K _ _ F rec2 hrec2 hr)
      · refine j_aload_n K dX8_firstCrawled_36 0 rfl ?_
        exact j_areturn K dX8_firstCrawled_37 rfl (Or.inl ⟨_, rfl⟩) F hr rfl
theorem jf_X8_firstCrawled {κ : JK} (K : jOk 3 cX8_firstCrawled RX8 (some (.object "SearchKeeper$Root")) 0 κ) (X : JX) {r : (Option Nat)} (F : jFin LX false (oO (jad κ) X r) κ) (hr : f_X8_firstCrawled X = some r) : J LX 3 κ X 0 [(0, .ref (jad κ (11)))] [] := by
  unfold f_X8_firstCrawled at hr
  refine j_iconst K dX8_firstCrawled_0 (v := 0) rfl ?_
  refine j_istore_n K dX8_firstCrawled_1 (by decide) ?_
  exact j_sub [1, 0] rfl (jl_X8_firstCrawled_2 K _ F _ hr)
theorem c_X8_firstCrawled (X : JX) {r : (Option Nat)} (hr : f_X8_firstCrawled X = some r) : Cal LX yX8_firstCrawled cX8_firstCrawled 3 (some (.object "SearchKeeper$Root")) 0 (fun ad => [.ref (ad (11))]) X (fun ad => oO ad X r) :=
  Cal.of (own := RX8) (fun ad => [(0, .ref (ad (11)))]) (by decide) rfl (fun _ => Nat.le_of_ble_eq_true rfl) (fun _ => rfl) (fun κ K F => jf_X8_firstCrawled K X F hr)
theorem jf_X7_countOrFlood {κ : JK} (K : jOk 1 cX7_countOrFlood RX7 (some .int) 0 κ) (X : JX) (q0 : Nat) {r : Int32} (F : jFin LX false (oI X r) κ) (hq0 : isRt q0 = true) (hr : f_X7_countOrFlood X q0 = some r) : J LX 1 κ X 0 [(0, .ref (jad κ q0))] [] := by
  unfold f_X7_countOrFlood at hr
  refine j_aload_n K dX7_countOrFlood_0 0 rfl ?_
  refine j_get K (v := .int (X q0 5)) fl_X7_32 (rt0 hq0) (rt0l hq0) (by decide) rfl dX7_countOrFlood_1 ?_
  refine j_if_eq K dX7_countOrFlood_4 (tgt := 11) (by decide) hr (fun hr => ?_) (fun hr => ?_)
  · refine j_aload_n K dX7_countOrFlood_11 0 rfl ?_
    refine j_get K (v := .int (X q0 4)) fl_X7_29 (rt0 hq0) (rt0l hq0) (by decide) rfl dX7_countOrFlood_12 ?_
    exact j_ireturn K dX7_countOrFlood_15 rfl F hr rfl
  · refine j_iconst K dX7_countOrFlood_7 (v := -1) rfl ?_
    refine j_goto K dX7_countOrFlood_8 (tgt := 15) (by decide) ?_
    exact j_ireturn K dX7_countOrFlood_15 rfl F hr rfl
theorem c_X7_countOrFlood (X : JX) (q0 : Nat) {r : Int32} (hq0 : isRt q0 = true) (hr : f_X7_countOrFlood X q0 = some r) : Cal LX yX7_countOrFlood cX7_countOrFlood 1 (some .int) 0 (fun ad => [.ref (ad q0)]) X (fun ad => oI X r) :=
  Cal.of (own := RX7) (fun ad => [(0, .ref (ad q0))]) (by decide) rfl (fun _ => Nat.le_of_ble_eq_true rfl) (fun _ => rfl) (fun κ K F => jf_X7_countOrFlood K X q0 F hq0 hr)
theorem jf_X7_forgetLast {κ : JK} (K : jOk 2 cX7_forgetLast RX7 (some .int) 1 κ) (X : JX) (q0 : Nat) (v1 : Int32) {r : (Int32 × JX)} (F : jFin LX false (oM r) κ) (hq0 : isRt q0 = true) (hr : f_X7_forgetLast X q0 v1 = some r) : J LX 2 κ X 0 [(0, .ref (jad κ q0)), (1, .int v1)] [] := by
  unfold f_X7_forgetLast at hr
  refine j_aload_n K dX7_forgetLast_0 0 rfl ?_
  refine j_iconst K dX7_forgetLast_1 (v := 0) rfl ?_
  refine j_aload_n K dX7_forgetLast_2 0 rfl ?_
  refine j_get K (v := .int (X q0 4)) fl_X7_29 (rt0 hq0) (rt0l hq0) (by decide) rfl dX7_forgetLast_3 ?_
  refine j_iload_n K dX7_forgetLast_6 1 rfl ?_
  refine j_isub K dX7_forgetLast_7 ?_
  refine j_max K mm_X7_47 (by decide) (Nat.le_of_ble_eq_true rfl) dX7_forgetLast_8 ?_
  refine j_putiV K fp_X7_29 (rt0 hq0) (rt0l hq0) (by decide) (fun _ => Nat.le_of_ble_eq_true rfl) (fun _ => rfl) dX7_forgetLast_11 hr (fun X1 hr => ?_)
  refine j_aload_n K dX7_forgetLast_14 0 rfl ?_
  refine j_get K (v := .int (X1 q0 4)) fl_X7_29 (rt0 hq0) (rt0l hq0) (by decide) rfl dX7_forgetLast_15 ?_
  exact j_ireturn K dX7_forgetLast_18 rfl F hr rfl
theorem c_X7_forgetLast (X : JX) (q0 : Nat) (v1 : Int32) {r : (Int32 × JX)} (hq0 : isRt q0 = true) (hr : f_X7_forgetLast X q0 v1 = some r) : Cal LX yX7_forgetLast cX7_forgetLast 2 (some .int) 1 (fun ad => [.ref (ad q0), .int v1]) X (fun ad => oM r) :=
  Cal.of (own := RX7) (fun ad => [(0, .ref (ad q0)), (1, .int v1)]) (by decide) rfl (fun _ => Nat.le_of_ble_eq_true rfl) (fun _ => rfl) (fun κ K F => jf_X7_forgetLast K X q0 v1 F hq0 hr)
theorem jf_X7_startAt {κ : JK} (K : jOk 2 cX7_startAt RX7 none 3 κ) (X : JX) (q0 : Nat) (v1 : Int32) {r : JX} (F : jFin LX false (oU r) κ) (hq0 : isRt q0 = true) (hr : f_X7_startAt X q0 v1 = some r) : J LX 2 κ X 0 [(0, .ref (jad κ q0)), (1, .int v1)] [] := by
  unfold f_X7_startAt at hr
  refine j_aload_n K dX7_startAt_0 0 rfl ?_
  refine j_iload_n K dX7_startAt_1 1 rfl ?_
  refine j_putiV K fp_X7_25 (rt0 hq0) (rt0l hq0) (by decide) (fun _ => Nat.le_of_ble_eq_true rfl) (fun _ => rfl) dX7_startAt_2 hr (fun X1 hr => ?_)
  refine j_aload_n K dX7_startAt_5 0 rfl ?_
  refine j_iconst K dX7_startAt_6 (v := 0) rfl ?_
  refine j_putiV K fp_X7_29 (rt0 hq0) (rt0l hq0) (by decide) (fun _ => Nat.le_of_ble_eq_true rfl) (fun _ => rfl) dX7_startAt_7 hr (fun X2 hr => ?_)
  refine j_aload_n K dX7_startAt_10 0 rfl ?_
  refine j_iconst K dX7_startAt_11 (v := 0) rfl ?_
  refine j_putzV K fp_X7_32 (rt0 hq0) (rt0l hq0) (by decide) (fun _ => Nat.le_of_ble_eq_true rfl) (fun _ => rfl) dX7_startAt_12 hr (fun X3 hr => ?_)
  refine j_aload_n K dX7_startAt_15 0 rfl ?_
  refine j_vU0 K (ci := 7) hr (fun v h => c_X7_beginCrawl X3 q0 hq0 h) ml_X7_36 ⟨_, rfl, rfl⟩ (rt0 hq0) (rt0l hq0) (by decide) rfl (by decide) (by decide) (Nat.le_of_ble_eq_true rfl) dX7_startAt_16 (fun X4 h hr => ?_)
  exact j_return K dX7_startAt_19 rfl F hr rfl
theorem c_X7_startAt (X : JX) (q0 : Nat) (v1 : Int32) {r : JX} (hq0 : isRt q0 = true) (hr : f_X7_startAt X q0 v1 = some r) : Cal LX yX7_startAt cX7_startAt 2 none 3 (fun ad => [.ref (ad q0), .int v1]) X (fun ad => oU r) :=
  Cal.of (own := RX7) (fun ad => [(0, .ref (ad q0)), (1, .int v1)]) (by decide) rfl (fun _ => Nat.le_of_ble_eq_true rfl) (fun _ => rfl) (fun κ K F => jf_X7_startAt K X q0 v1 F hq0 hr)
theorem jb_X7_tell_24 {κ : JK} (K : jOk 3 cX7_tell RX7 none 0 κ) (X : JX) (q0 : Nat) {r : JX} (F : jFin LX false (oU r) κ) (hq0 : isRt q0 = true) (hr : b_X7_tell_24 X q0 = some r) : J LX 3 κ X 24 [(0, .ref (jad κ q0))] [] := by
  unfold b_X7_tell_24 at hr
  refine j_aload_n K dX7_tell_24 0 rfl ?_
  refine j_iconst K dX7_tell_25 (v := 1) rfl ?_
  refine j_putzV K fp_X7_32 (rt0 hq0) (rt0l hq0) (by decide) (fun _ => Nat.le_of_ble_eq_true rfl) (fun _ => rfl) dX7_tell_26 hr (fun X4 hr => ?_)
  refine j_aload_n K dX7_tell_29 0 rfl ?_
  refine j_iconst K dX7_tell_30 (v := 0) rfl ?_
  refine j_putiV K fp_X7_29 (rt0 hq0) (rt0l hq0) (by decide) (fun _ => Nat.le_of_ble_eq_true rfl) (fun _ => rfl) dX7_tell_31 hr (fun X5 hr => ?_)
  exact j_return K dX7_tell_34 rfl F hr rfl
theorem jf_X7_tell {κ : JK} (K : jOk 3 cX7_tell RX7 none 0 κ) (X : JX) (q0 : Nat) (v1 : Int32) (v2 : Int32) {r : JX} (F : jFin LX false (oU r) κ) (hq0 : isRt q0 = true) (hr : f_X7_tell X q0 v1 v2 = some r) : J LX 3 κ X 0 [(0, .ref (jad κ q0)), (1, .int v1), (2, .int v2)] [] := by
  unfold f_X7_tell at hr
  refine j_aload_n K dX7_tell_0 0 rfl ?_
  refine j_get K (v := .int (X q0 5)) fl_X7_32 (rt0 hq0) (rt0l hq0) (by decide) rfl dX7_tell_1 ?_
  refine j_if_eq K dX7_tell_4 (tgt := 8) (by decide) hr (fun hr => ?_) (fun hr => ?_)
  · refine j_aload_n K dX7_tell_8 0 rfl ?_
    refine j_get K (v := .int (X q0 4)) fl_X7_29 (rt0 hq0) (rt0l hq0) (by decide) rfl dX7_tell_9 ?_
    refine j_if_lt K dX7_tell_12 (tgt := 24) (by decide) hr (fun hr => ?_) (fun hr => ?_)
    · exact j_sub [0] rfl (jb_X7_tell_24 K _ _ F hq0 hr)
    · refine j_aload_n K dX7_tell_15 0 rfl ?_
      refine j_get K (v := .int (X q0 4)) fl_X7_29 (rt0 hq0) (rt0l hq0) (by decide) rfl dX7_tell_16 ?_
      refine j_bipush K dX7_tell_19 (v := 8) rfl ?_
      refine j_icmp_lt K dX7_tell_21 (tgt := 35) (by decide) hr (fun hr => ?_) (fun hr => ?_)
      · refine j_aload_n K dX7_tell_35 0 rfl ?_
        refine j_get K (v := .ref (jad κ (q0 + 1))) fl_X7_9 (rt0 hq0) (rt0l hq0) (by decide) rfl dX7_tell_36 ?_
        refine j_aload_n K dX7_tell_39 0 rfl ?_
        refine j_get K (v := .int (X q0 4)) fl_X7_29 (rt0 hq0) (rt0l hq0) (by decide) rfl dX7_tell_40 ?_
        refine j_iload_n K dX7_tell_43 1 rfl ?_
        refine j_iastoreV K (z := 8) (rt1 hq0) (rt1l hq0) dX7_tell_44 hr (fun X1 hr => ?_)
        refine j_aload_n K dX7_tell_45 0 rfl ?_
        refine j_get K (v := .ref (jad κ (q0 + 2))) fl_X7_15 (rt0 hq0) (rt0l hq0) (by decide) rfl dX7_tell_46 ?_
        refine j_aload_n K dX7_tell_49 0 rfl ?_
        refine j_get K (v := .int (X1 q0 4)) fl_X7_29 (rt0 hq0) (rt0l hq0) (by decide) rfl dX7_tell_50 ?_
        refine j_iload_n K dX7_tell_53 2 rfl ?_
        refine j_iastoreV K (z := 8) (rt2 hq0) (rt2l hq0) dX7_tell_54 hr (fun X2 hr => ?_)
        refine j_aload_n K dX7_tell_55 0 rfl ?_
        refine j_dup K dX7_tell_56 rfl ?_
        refine j_get K (v := .int (X2 q0 4)) fl_X7_29 (rt0 hq0) (rt0l hq0) (by decide) rfl dX7_tell_57 ?_
        refine j_iconst K dX7_tell_60 (v := 1) rfl ?_
        refine j_iadd K dX7_tell_61 ?_
        refine j_putiV K fp_X7_29 (rt0 hq0) (rt0l hq0) (by decide) (fun _ => Nat.le_of_ble_eq_true rfl) (fun _ => rfl) dX7_tell_62 hr (fun X3 hr => ?_)
        exact j_return K dX7_tell_65 rfl F hr rfl
      · exact j_sub [0] rfl (jb_X7_tell_24 K _ _ F hq0 hr)
  · exact j_return K dX7_tell_7 rfl F hr rfl
theorem c_X7_tell (X : JX) (q0 : Nat) (v1 : Int32) (v2 : Int32) {r : JX} (hq0 : isRt q0 = true) (hr : f_X7_tell X q0 v1 v2 = some r) : Cal LX yX7_tell cX7_tell 3 none 0 (fun ad => [.ref (ad q0), .int v1, .int v2]) X (fun ad => oU r) :=
  Cal.of (own := RX7) (fun ad => [(0, .ref (ad q0)), (1, .int v1), (2, .int v2)]) (by decide) rfl (fun _ => Nat.le_of_ble_eq_true rfl) (fun _ => rfl) (fun κ K F => jf_X7_tell K X q0 v1 v2 F hq0 hr)
theorem jf_X7_tellLastAgain {κ : JK} (K : jOk 2 cX7_tellLastAgain RX7 none 1 κ) (X : JX) (q0 : Nat) {r : JX} (F : jFin LX false (oU r) κ) (hq0 : isRt q0 = true) (hr : f_X7_tellLastAgain X q0 = some r) : J LX 2 κ X 0 [(0, .ref (jad κ q0))] [] := by
  unfold f_X7_tellLastAgain at hr
  refine j_aload_n K dX7_tellLastAgain_0 0 rfl ?_
  refine j_get K (v := .int (X q0 4)) fl_X7_29 (rt0 hq0) (rt0l hq0) (by decide) rfl dX7_tellLastAgain_1 ?_
  refine j_iconst K dX7_tellLastAgain_4 (v := 1) rfl ?_
  refine j_isub K dX7_tellLastAgain_5 ?_
  refine j_istoreV_n K dX7_tellLastAgain_6 (by decide) hr (fun t1 hr => ?_)
  refine j_iload_n K dX7_tellLastAgain_7 0 rfl ?_
  refine j_if_lt K dX7_tellLastAgain_8 (tgt := 33) (by decide) hr (fun hr => ?_) (fun hr => ?_)
  · exact j_return K dX7_tellLastAgain_33 rfl F hr rfl
  · refine j_iload_n K dX7_tellLastAgain_11 0 rfl ?_
    refine j_bipush K dX7_tellLastAgain_12 (v := 8) rfl ?_
    refine j_icmp_ge K dX7_tellLastAgain_14 (tgt := 33) (by decide) hr (fun hr => ?_) (fun hr => ?_)
    · exact j_return K dX7_tellLastAgain_33 rfl F hr rfl
    · refine j_aload_n K dX7_tellLastAgain_17 1 rfl ?_
      refine j_aload_n K dX7_tellLastAgain_18 1 rfl ?_
      refine j_get K (v := .ref (jad κ (q0 + 1))) fl_X7_9 (rt0 hq0) (rt0l hq0) (by decide) rfl dX7_tellLastAgain_19 ?_
      refine j_iload_n K dX7_tellLastAgain_22 0 rfl ?_
      refine j_iaload K (z := 8) (rt1 hq0) (rt1l hq0) dX7_tellLastAgain_23 hr (fun hr => ?_)
      refine j_aload_n K dX7_tellLastAgain_24 1 rfl ?_
      refine j_get K (v := .ref (jad κ (q0 + 2))) fl_X7_15 (rt0 hq0) (rt0l hq0) (by decide) rfl dX7_tellLastAgain_25 ?_
      refine j_iload_n K dX7_tellLastAgain_28 0 rfl ?_
      refine j_iaload K (z := 8) (rt2 hq0) (rt2l hq0) dX7_tellLastAgain_29 hr (fun hr => ?_)
      refine j_vU2 K (ci := 7) hr (fun v h => c_X7_tell X q0 (X (q0 + 1) t1.toNatClampNeg) (X (q0 + 2) t1.toNatClampNeg) hq0 h) ml_X7_43 ⟨_, rfl, rfl⟩ (rt0 hq0) (rt0l hq0) (by decide) rfl (by decide) (by decide) (Nat.le_of_ble_eq_true rfl) dX7_tellLastAgain_30 (fun X2 h hr => ?_)
      exact j_return K dX7_tellLastAgain_33 rfl F hr rfl
theorem c_X7_tellLastAgain (X : JX) (q0 : Nat) {r : JX} (hq0 : isRt q0 = true) (hr : f_X7_tellLastAgain X q0 = some r) : Cal LX yX7_tellLastAgain cX7_tellLastAgain 2 none 1 (fun ad => [.ref (ad q0)]) X (fun ad => oU r) :=
  Cal.of (own := RX7) (fun ad => [(0, .ref (ad q0))]) (by decide) rfl (fun _ => Nat.le_of_ble_eq_true rfl) (fun _ => rfl) (fun κ K F => jf_X7_tellLastAgain K X q0 F hq0 hr)
theorem jf_X8_add {κ : JK} (K : jOk 3 cX8_add RX8 none 4 κ) (X : JX) (v1 : Int32) {r : JX} (F : jFin LX false (oU r) κ) (hr : f_X8_add X v1 = some r) : J LX 3 κ X 0 [(0, .ref (jad κ (11))), (1, .int v1)] [] := by
  unfold f_X8_add at hr
  refine j_aload_n K dX8_add_0 0 rfl ?_
  refine j_get K (v := .int (X (11) 2)) fl_X8_22 rfl (Nat.le_of_ble_eq_true rfl) (by decide) rfl dX8_add_1 ?_
  refine j_if_lt K dX8_add_4 (tgt := 15) (by decide) hr (fun hr => ?_) (fun hr => ?_)
  · exact j_return K dX8_add_15 rfl F hr rfl
  · refine j_aload_n K dX8_add_7 0 rfl ?_
    refine j_get K (v := .int (X (11) 2)) fl_X8_22 rfl (Nat.le_of_ble_eq_true rfl) (by decide) rfl dX8_add_8 ?_
    refine j_iconst K dX8_add_11 (v := 3) rfl ?_
    refine j_icmp_lt K dX8_add_12 (tgt := 16) (by decide) hr (fun hr => ?_) (fun hr => ?_)
    · refine j_aload_n K dX8_add_16 0 rfl ?_
      refine j_get K (v := .ref (jad κ (12))) fl_X8_11 rfl (Nat.le_of_ble_eq_true rfl) (by decide) rfl dX8_add_17 ?_
      refine j_aload_n K dX8_add_20 0 rfl ?_
      refine j_get K (v := .int (X (11) 2)) fl_X8_22 rfl (Nat.le_of_ble_eq_true rfl) (by decide) rfl dX8_add_21 ?_
      refine j_aaload3V K (z := 3) rfl (Nat.le_of_ble_eq_true rfl) dX8_add_24 hr (fun q1 hq1 hr => ?_)
      refine j_astore_n K dX8_add_25 (by decide) ?_
      refine j_aload_n K dX8_add_26 0 rfl ?_
      refine j_ifnull K dX8_add_27 ?_
      refine j_aload_n K dX8_add_30 0 rfl ?_
      refine j_iload_n K dX8_add_31 2 rfl ?_
      refine j_vU1 K (ci := 7) hr (fun v h => c_X7_startAt X q1 v1 hq1 h) ml_X8_70 ⟨_, rfl, rfl⟩ (rt0 hq1) (rt0l hq1) (by decide) rfl (by decide) (by decide) (Nat.le_of_ble_eq_true rfl) dX8_add_32 (fun X2 h hr => ?_)
      refine j_aload_n K dX8_add_35 1 rfl ?_
      refine j_dup K dX8_add_36 rfl ?_
      refine j_get K (v := .int (X2 (11) 2)) fl_X8_22 rfl (Nat.le_of_ble_eq_true rfl) (by decide) rfl dX8_add_37 ?_
      refine j_iconst K dX8_add_40 (v := 1) rfl ?_
      refine j_iadd K dX8_add_41 ?_
      refine j_putiV K fp_X8_22 rfl (Nat.le_of_ble_eq_true rfl) (by decide) (fun _ => Nat.le_of_ble_eq_true rfl) (fun _ => rfl) dX8_add_42 hr (fun X3 hr => ?_)
      exact j_return K dX8_add_45 rfl F hr rfl
    · exact j_return K dX8_add_15 rfl F hr rfl
theorem c_X8_add (X : JX) (v1 : Int32) {r : JX} (hr : f_X8_add X v1 = some r) : Cal LX yX8_add cX8_add 3 none 4 (fun ad => [.ref (ad (11)), .int v1]) X (fun ad => oU r) :=
  Cal.of (own := RX8) (fun ad => [(0, .ref (ad (11))), (1, .int v1)]) (by decide) rfl (fun _ => Nat.le_of_ble_eq_true rfl) (fun _ => rfl) (fun κ K F => jf_X8_add K X v1 F hr)
theorem jf_X8_count {κ : JK} (K : jOk 1 cX8_count RX8 (some .int) 0 κ) (X : JX) {r : Int32} (F : jFin LX false (oI X r) κ) (hr : f_X8_count X = some r) : J LX 1 κ X 0 [(0, .ref (jad κ (11)))] [] := by
  unfold f_X8_count at hr
  refine j_aload_n K dX8_count_0 0 rfl ?_
  refine j_get K (v := .int (X (11) 2)) fl_X8_22 rfl (Nat.le_of_ble_eq_true rfl) (by decide) rfl dX8_count_1 ?_
  exact j_ireturn K dX8_count_4 rfl F hr rfl
theorem c_X8_count (X : JX) {r : Int32} (hr : f_X8_count X = some r) : Cal LX yX8_count cX8_count 1 (some .int) 0 (fun ad => [.ref (ad (11))]) X (fun ad => oI X r) :=
  Cal.of (own := RX8) (fun ad => [(0, .ref (ad (11)))]) (by decide) rfl (fun _ => Nat.le_of_ble_eq_true rfl) (fun _ => rfl) (fun κ K F => jf_X8_count K X F hr)
theorem jb_X8_countCrawls_41 {κ : JK} (K : jOk 4 cX8_countCrawls RX8 (some .int) 0 κ) (X : JX) (v1 : Int32) (v2 : Int32) {r : Int32} (F : jFin LX false (oI X r) κ) (rec4 : Int32 → Int32 → Option Int32) (hrec4 : ∀ (v1 : Int32) (v2 : Int32), rec4 v1 v2 = some r → J LX 4 κ X 4 [(0, .ref (jad κ (11))), (1, .int v1), (2, .int v2)] []) (hr : b_X8_countCrawls_41 rec4 X v1 v2 = some r) : J LX 4 κ X 41 [(0, .ref (jad κ (11))), (1, .int v1), (2, .int v2)] [] := by
  unfold b_X8_countCrawls_41 at hr
  refine j_iincV K dX8_countCrawls_41 (v := 1) 2 rfl rfl (by decide) hr (fun t3 hr => ?_)
  refine j_goto K dX8_countCrawls_44 (tgt := 4) (by decide) ?_
  exact j_sub [1, 2, 0] rfl (hrec4 _ _ hr)
theorem jl_X8_countCrawls_4 {κ : JK} (K : jOk 4 cX8_countCrawls RX8 (some .int) 0 κ) (X : JX) {r : Int32} (F : jFin LX false (oI X r) κ) : ∀ (v1 : Int32) (v2 : Int32), l_X8_countCrawls_4 X v1 v2 = some r → J LX 4 κ X 4 [(0, .ref (jad κ (11))), (1, .int v1), (2, .int v2)] [] := by
  refine j_loop2 (P := fun v1 v2 => J LX 4 κ X 4 [(0, .ref (jad κ (11))), (1, .int v1), (2, .int v2)] []) (fun rec4 hrec4 v1 v2 hr => ?_) 1000
  unfold lb_X8_countCrawls_4 at hr
  refine j_iload_n K dX8_countCrawls_4 2 rfl ?_
  refine j_aload_n K dX8_countCrawls_5 0 rfl ?_
  refine j_get K (v := .int (X (11) 2)) fl_X8_22 rfl (Nat.le_of_ble_eq_true rfl) (by decide) rfl dX8_countCrawls_6 ?_
  refine j_icmp_ge K dX8_countCrawls_9 (tgt := 47) (by decide) hr (fun hr => ?_) (fun hr => ?_)
  · refine j_iload_n K dX8_countCrawls_47 1 rfl ?_
    exact j_ireturn K dX8_countCrawls_48 rfl F hr rfl
  · refine j_iload_n K dX8_countCrawls_12 2 rfl ?_
    refine j_iconst K dX8_countCrawls_13 (v := 3) rfl ?_
    refine j_icmp_ge K dX8_countCrawls_14 (tgt := 47) (by decide) hr (fun hr => ?_) (fun hr => ?_)
    · refine j_iload_n K dX8_countCrawls_47 1 rfl ?_
      exact j_ireturn K dX8_countCrawls_48 rfl F hr rfl
    · refine j_aload_n K dX8_countCrawls_17 0 rfl ?_
      refine j_get K (v := .ref (jad κ (12))) fl_X8_11 rfl (Nat.le_of_ble_eq_true rfl) (by decide) rfl dX8_countCrawls_18 ?_
      refine j_iload_n K dX8_countCrawls_21 2 rfl ?_
      refine j_aaload3V K (z := 3) rfl (Nat.le_of_ble_eq_true rfl) dX8_countCrawls_22 hr (fun q1 hq1 hr => ?_)
      refine j_astore_n K dX8_countCrawls_23 (by decide) ?_
      refine j_aload_n K dX8_countCrawls_24 0 rfl ?_
      refine j_ifnull K dX8_countCrawls_25 ?_
      refine j_aload_n K dX8_countCrawls_28 0 rfl ?_
      refine j_getN K (v := .ref (jad κ (q1 + 3))) fn_X8_54 (rt0 hq1) (rt0l hq1) (by decide) rfl dX8_countCrawls_29 ?_
      refine j_getN K (v := .int (X (q1 + 3) 4)) fn_X8_58 (cr0 (rtc hq1)) (cr0l (rtc hq1)) (by decide) rfl dX8_countCrawls_32 ?_
      refine j_if_eq K dX8_countCrawls_35 (tgt := 41) (by decide) hr (fun hr => ?_) (fun hr => ?_)
      · exact j_sub [1, 2, 3] rfl (jb_X8_countCrawls_41 K _ _ _ F rec4 hrec4 hr)
      · refine j_iincV K dX8_countCrawls_38 (v := 1) 2 rfl rfl (by decide) hr (fun t2 hr => ?_)
        exact j_sub [2, 0, 3] rfl (jb_X8_countCrawls_41 K _ _ _ F rec4 hrec4 hr)
theorem jf_X8_countCrawls {κ : JK} (K : jOk 4 cX8_countCrawls RX8 (some .int) 0 κ) (X : JX) {r : Int32} (F : jFin LX false (oI X r) κ) (hr : f_X8_countCrawls X = some r) : J LX 4 κ X 0 [(0, .ref (jad κ (11)))] [] := by
  unfold f_X8_countCrawls at hr
  refine j_iconst K dX8_countCrawls_0 (v := 0) rfl ?_
  refine j_istore_n K dX8_countCrawls_1 (by decide) ?_
  refine j_iconst K dX8_countCrawls_2 (v := 0) rfl ?_
  refine j_istore_n K dX8_countCrawls_3 (by decide) ?_
  exact j_sub [2, 1, 0] rfl (jl_X8_countCrawls_4 K _ F _ _ hr)
theorem c_X8_countCrawls (X : JX) {r : Int32} (hr : f_X8_countCrawls X = some r) : Cal LX yX8_countCrawls cX8_countCrawls 4 (some .int) 0 (fun ad => [.ref (ad (11))]) X (fun ad => oI X r) :=
  Cal.of (own := RX8) (fun ad => [(0, .ref (ad (11)))]) (by decide) rfl (fun _ => Nat.le_of_ble_eq_true rfl) (fun _ => rfl) (fun κ K F => jf_X8_countCrawls K X F hr)
theorem jb_X8_end_68 {κ : JK} (K : jOk 6 cX8_end RX8 none 1 κ) (X : JX) (q2 : Nat) (v3 : Int32) {r : JX} (F : jFin LX false (oU r) κ) (hq2 : isRt q2 = true) (hr : b_X8_end_68 X q2 v3 = some r) : J LX 6 κ X 68 [(0, .ref (jad κ (11))), (2, .ref (jad κ q2)), (3, .int v3)] [] := by
  unfold b_X8_end_68 at hr
  refine j_iload_n K dX8_end_68 2 rfl ?_
  refine j_iconst K dX8_end_69 (v := 3) rfl ?_
  refine j_icmp_ge K dX8_end_70 (tgt := 80) (by decide) hr (fun hr => ?_) (fun hr => ?_)
  · refine j_aload_n K dX8_end_80 0 rfl ?_
    refine j_iload_n K dX8_end_81 2 rfl ?_
    refine j_putiV K fp_X8_22 rfl (Nat.le_of_ble_eq_true rfl) (by decide) (fun _ => Nat.le_of_ble_eq_true rfl) (fun _ => rfl) dX8_end_82 hr (fun X6 hr => ?_)
    exact j_return K dX8_end_85 rfl F hr rfl
  · refine j_aload_n K dX8_end_73 0 rfl ?_
    refine j_get K (v := .ref (jad κ (12))) fl_X8_11 rfl (Nat.le_of_ble_eq_true rfl) (by decide) rfl dX8_end_74 ?_
    refine j_iload_n K dX8_end_77 2 rfl ?_
    refine j_aload_n K dX8_end_78 1 rfl ?_
    refine j_aastore3V K (z := 3) rfl (Nat.le_of_ble_eq_true rfl) (ci := 7) (rt0 hq2) (rt0l hq2) (by decide) ⟨_, rfl, rfl⟩ (Nat.lt_trans (rt0l hq2) (Nat.le_of_ble_eq_true rfl)) dX8_end_79 hr (fun X7 hr => ?_)
    refine j_aload_n K dX8_end_80 0 rfl ?_
    refine j_iload_n K dX8_end_81 2 rfl ?_
    refine j_putiV K fp_X8_22 rfl (Nat.le_of_ble_eq_true rfl) (by decide) (fun _ => Nat.le_of_ble_eq_true rfl) (fun _ => rfl) dX8_end_82 hr (fun X8 hr => ?_)
    exact j_return K dX8_end_85 rfl F hr rfl
theorem jb_X8_end_62 {κ : JK} (K : jOk 6 cX8_end RX8 none 1 κ) (X : JX) (q2 : Nat) (v3 : Int32) (v4 : Int32) {r : JX} (F : jFin LX false (oU r) κ) (hq2 : isRt q2 = true) (rec16 : JX → Int32 → Int32 → Option JX) (hrec16 : ∀ (X : JX) (v3 : Int32) (v4 : Int32), rec16 X v3 v4 = some r → J LX 6 κ X 16 [(0, .ref (jad κ (11))), (2, .ref (jad κ q2)), (3, .int v3), (4, .int v4)] []) (hr : b_X8_end_62 rec16 X q2 v3 v4 = some r) : J LX 6 κ X 62 [(0, .ref (jad κ (11))), (2, .ref (jad κ q2)), (3, .int v3), (4, .int v4)] [] := by
  unfold b_X8_end_62 at hr
  refine j_iincV K dX8_end_62 (v := 1) 3 rfl rfl (by decide) hr (fun t9 hr => ?_)
  refine j_goto K dX8_end_65 (tgt := 16) (by decide) ?_
  exact j_sub [1, 2, 3, 0] rfl (hrec16 _ _ _ hr)
theorem jl_X8_end_16 {κ : JK} (K : jOk 6 cX8_end RX8 none 1 κ) (q2 : Nat) {r : JX} (F : jFin LX false (oU r) κ) (hq2 : isRt q2 = true) : ∀ (X : JX) (v3 : Int32) (v4 : Int32), l_X8_end_16 q2 X v3 v4 = some r → J LX 6 κ X 16 [(0, .ref (jad κ (11))), (2, .ref (jad κ q2)), (3, .int v3), (4, .int v4)] [] := by
  refine j_loop3 (P := fun X v3 v4 => J LX 6 κ X 16 [(0, .ref (jad κ (11))), (2, .ref (jad κ q2)), (3, .int v3), (4, .int v4)] []) (fun rec16 hrec16 X v3 v4 hr => ?_) 1000
  unfold lb_X8_end_16 at hr
  refine j_iload K dX8_end_16 3 rfl ?_
  refine j_aload_n K dX8_end_18 0 rfl ?_
  refine j_get K (v := .int (X (11) 2)) fl_X8_22 rfl (Nat.le_of_ble_eq_true rfl) (by decide) rfl dX8_end_19 ?_
  refine j_icmp_ge K dX8_end_22 (tgt := 68) (by decide) hr (fun hr => ?_) (fun hr => ?_)
  · exact j_sub [0, 1, 2] rfl (jb_X8_end_68 K _ _ _ F hq2 hr)
  · refine j_iload K dX8_end_25 3 rfl ?_
    refine j_iconst K dX8_end_27 (v := 3) rfl ?_
    refine j_icmp_ge K dX8_end_28 (tgt := 68) (by decide) hr (fun hr => ?_) (fun hr => ?_)
    · exact j_sub [0, 1, 2] rfl (jb_X8_end_68 K _ _ _ F hq2 hr)
    · refine j_aload_n K dX8_end_31 0 rfl ?_
      refine j_get K (v := .ref (jad κ (12))) fl_X8_11 rfl (Nat.le_of_ble_eq_true rfl) (by decide) rfl dX8_end_32 ?_
      refine j_iload K dX8_end_35 3 rfl ?_
      refine j_aaload3V K (z := 3) rfl (Nat.le_of_ble_eq_true rfl) dX8_end_37 hr (fun q3 hq3 hr => ?_)
      refine j_astore K dX8_end_38 (by decide) ?_
      refine j_aload K dX8_end_40 0 rfl ?_
      refine j_aload_n K dX8_end_42 2 rfl ?_
      refine j_acmp_eq K dX8_end_43 (tgt := 62) (by decide) (rt0l hq3) (rt0l hq2) hr (fun hr => ?_) (fun hr => ?_)
      · exact j_sub [1, 2, 3, 4] rfl (jb_X8_end_62 K _ _ _ _ F hq2 rec16 hrec16 hr)
      · refine j_iload_n K dX8_end_46 3 rfl ?_
        refine j_iconst K dX8_end_47 (v := 3) rfl ?_
        refine j_icmp_ge K dX8_end_48 (tgt := 62) (by decide) hr (fun hr => ?_) (fun hr => ?_)
        · exact j_sub [1, 2, 3, 4] rfl (jb_X8_end_62 K _ _ _ _ F hq2 rec16 hrec16 hr)
        · refine j_aload_n K dX8_end_51 1 rfl ?_
          refine j_get K (v := .ref (jad κ (12))) fl_X8_11 rfl (Nat.le_of_ble_eq_true rfl) (by decide) rfl dX8_end_52 ?_
          refine j_iload_n K dX8_end_55 3 rfl ?_
          refine j_aload K dX8_end_56 0 rfl ?_
          refine j_aastore3V K (z := 3) rfl (Nat.le_of_ble_eq_true rfl) (ci := 7) (rt0 hq3) (rt0l hq3) (by decide) ⟨_, rfl, rfl⟩ (Nat.lt_trans (rt0l hq3) (Nat.le_of_ble_eq_true rfl)) dX8_end_58 hr (fun X4 hr => ?_)
          refine j_iincV K dX8_end_59 (v := 1) 3 rfl rfl (by decide) hr (fun t5 hr => ?_)
          exact j_sub [2, 3, 0, 4] rfl (jb_X8_end_62 K _ _ _ _ F hq2 rec16 hrec16 hr)
theorem jf_X8_end {κ : JK} (K : jOk 6 cX8_end RX8 none 1 κ) (X : JX) (v1 : Int32) {r : JX} (F : jFin LX false (oU r) κ) (hr : f_X8_end X v1 = some r) : J LX 6 κ X 0 [(0, .ref (jad κ (11))), (1, .int v1)] [] := by
  unfold f_X8_end at hr
  refine j_aload_n K dX8_end_0 0 rfl ?_
  refine j_iload_n K dX8_end_1 1 rfl ?_
  refine j_vO1 K (ci := 8) hr (fun v h => c_X8_find X v1 h) ml_X8_29 ⟨_, rfl, rfl⟩ rfl (Nat.le_of_ble_eq_true rfl) (by decide) rfl (by decide) (by decide) (Nat.le_of_ble_eq_true rfl) dX8_end_2 (fun h hr => ?_) (fun q2 h hr => ?_)
  · refine j_astore_nN K dX8_end_5 (by decide) ?_
    refine j_aload_nN K dX8_end_6 0 rfl ?_
    refine j_ifnonnullN K dX8_end_7 ?_
    exact j_return K dX8_end_10 rfl F hr rfl
  · refine j_guard hr (fun hq2 hr => ?_)
    refine j_astore_n K dX8_end_5 (by decide) ?_
    refine j_aload_n K dX8_end_6 0 rfl ?_
    refine j_ifnonnull K dX8_end_7 (tgt := 11) (by decide) ?_
    refine j_iconst K dX8_end_11 (v := 0) rfl ?_
    refine j_istore_n K dX8_end_12 (by decide) ?_
    refine j_iconst K dX8_end_13 (v := 0) rfl ?_
    refine j_istore K dX8_end_14 (by decide) ?_
    exact j_sub [3, 2, 1, 0] rfl (jl_X8_end_16 K _ F hq2 _ _ _ hr)
theorem c_X8_end (X : JX) (v1 : Int32) {r : JX} (hr : f_X8_end X v1 = some r) : Cal LX yX8_end cX8_end 6 none 1 (fun ad => [.ref (ad (11)), .int v1]) X (fun ad => oU r) :=
  Cal.of (own := RX8) (fun ad => [(0, .ref (ad (11))), (1, .int v1)]) (by decide) rfl (fun _ => Nat.le_of_ble_eq_true rfl) (fun _ => rfl) (fun κ K F => jf_X8_end K X v1 F hr)
theorem jb_X8_endGone_51 {κ : JK} (K : jOk 4 cX8_endGone RX8 (some .boolean) 2 κ) (X : JX) (v1 : Int32) (v2 : Int32) {r : (Int32 × JX)} (F : jFin LX false (oM r) κ) (rec4 : JX → Int32 → Int32 → Option (Int32 × JX)) (hrec4 : ∀ (X : JX) (v1 : Int32) (v2 : Int32), rec4 X v1 v2 = some r → J LX 4 κ X 4 [(0, .ref (jad κ (11))), (1, .int v1), (2, .int v2)] []) (hr : b_X8_endGone_51 rec4 X v1 v2 = some r) : J LX 4 κ X 51 [(0, .ref (jad κ (11))), (1, .int v1), (2, .int v2)] [] := by
  unfold b_X8_endGone_51 at hr
  refine j_iincV K dX8_endGone_51 (v := -1) 2 rfl rfl (by decide) hr (fun t4 hr => ?_)
  refine j_goto K dX8_endGone_54 (tgt := 4) (by decide) ?_
  exact j_sub [1, 2, 0] rfl (hrec4 _ _ _ hr)
theorem jl_X8_endGone_4 {κ : JK} (K : jOk 4 cX8_endGone RX8 (some .boolean) 2 κ) {r : (Int32 × JX)} (F : jFin LX false (oM r) κ) : ∀ (X : JX) (v1 : Int32) (v2 : Int32), l_X8_endGone_4 X v1 v2 = some r → J LX 4 κ X 4 [(0, .ref (jad κ (11))), (1, .int v1), (2, .int v2)] [] := by
  refine j_loop3 (P := fun X v1 v2 => J LX 4 κ X 4 [(0, .ref (jad κ (11))), (1, .int v1), (2, .int v2)] []) (fun rec4 hrec4 X v1 v2 hr => ?_) 1000
  unfold lb_X8_endGone_4 at hr
  refine j_iload_n K dX8_endGone_4 2 rfl ?_
  refine j_if_lt K dX8_endGone_5 (tgt := 57) (by decide) hr (fun hr => ?_) (fun hr => ?_)
  · refine j_iload_n K dX8_endGone_57 1 rfl ?_
    exact j_guard hr (fun hz hr => j_zreturn K dX8_endGone_58 rfl hz F hr rfl)
  · refine j_aload_n K dX8_endGone_8 0 rfl ?_
    refine j_get K (v := .ref (jad κ (12))) fl_X8_11 rfl (Nat.le_of_ble_eq_true rfl) (by decide) rfl dX8_endGone_9 ?_
    refine j_iload_n K dX8_endGone_12 2 rfl ?_
    refine j_aaload3V K (z := 3) rfl (Nat.le_of_ble_eq_true rfl) dX8_endGone_13 hr (fun q1 hq1 hr => ?_)
    refine j_astore_n K dX8_endGone_14 (by decide) ?_
    refine j_iload_n K dX8_endGone_15 3 rfl ?_
    refine j_aload_n K dX8_endGone_16 1 rfl ?_
    refine j_get K (v := .int (X (11) 2)) fl_X8_22 rfl (Nat.le_of_ble_eq_true rfl) (by decide) rfl dX8_endGone_17 ?_
    refine j_icmp_ge K dX8_endGone_20 (tgt := 51) (by decide) hr (fun hr => ?_) (fun hr => ?_)
    · exact j_sub [1, 2, 3] rfl (jb_X8_endGone_51 K _ _ _ F rec4 hrec4 hr)
    · refine j_aload_n K dX8_endGone_23 0 rfl ?_
      refine j_ifnull K dX8_endGone_24 ?_
      refine j_aload_n K dX8_endGone_27 1 rfl ?_
      refine j_get K (v := .ref (jad κ (1))) fl_X8_17 rfl (Nat.le_of_ble_eq_true rfl) (by decide) rfl dX8_endGone_28 ?_
      refine j_aload_n K dX8_endGone_31 0 rfl ?_
      refine j_getN K (v := .int (X q1 3)) fn_X8_26 (rt0 hq1) (rt0l hq1) (by decide) rfl dX8_endGone_32 ?_
      refine j_vI1 K (ci := 9) hr (fun v h => c_X9_isThere X (X q1 3) h) ml_X8_74 ⟨_, rfl, rfl⟩ rfl (Nat.le_of_ble_eq_true rfl) (by decide) rfl (by decide) (by decide) (Nat.le_of_ble_eq_true rfl) dX8_endGone_35 (fun t2 h hr => ?_)
      refine j_if_ne K dX8_endGone_38 (tgt := 51) (by decide) hr (fun hr => ?_) (fun hr => ?_)
      · exact j_sub [1, 2, 3] rfl (jb_X8_endGone_51 K _ _ _ F rec4 hrec4 hr)
      · refine j_aload_n K dX8_endGone_41 1 rfl ?_
        refine j_aload_n K dX8_endGone_42 0 rfl ?_
        refine j_getN K (v := .int (X q1 3)) fn_X8_26 (rt0 hq1) (rt0l hq1) (by decide) rfl dX8_endGone_43 ?_
        refine j_vU1 K (ci := 8) hr (fun v h => c_X8_end X (X q1 3) h) ml_X8_78 ⟨_, rfl, rfl⟩ rfl (Nat.le_of_ble_eq_true rfl) (by decide) rfl (by decide) (by decide) (Nat.le_of_ble_eq_true rfl) dX8_endGone_46 (fun X3 h hr => ?_)
        refine j_iconst K dX8_endGone_49 (v := 1) rfl ?_
        refine j_istore_n K dX8_endGone_50 (by decide) ?_
        exact j_sub [2, 0, 3] rfl (jb_X8_endGone_51 K _ _ _ F rec4 hrec4 hr)
theorem jf_X8_endGone {κ : JK} (K : jOk 4 cX8_endGone RX8 (some .boolean) 2 κ) (X : JX) {r : (Int32 × JX)} (F : jFin LX false (oM r) κ) (hr : f_X8_endGone X = some r) : J LX 4 κ X 0 [(0, .ref (jad κ (11)))] [] := by
  unfold f_X8_endGone at hr
  refine j_iconst K dX8_endGone_0 (v := 0) rfl ?_
  refine j_istore_n K dX8_endGone_1 (by decide) ?_
  refine j_iconst K dX8_endGone_2 (v := 2) rfl ?_
  refine j_istore_n K dX8_endGone_3 (by decide) ?_
  exact j_sub [2, 1, 0] rfl (jl_X8_endGone_4 K F _ _ _ hr)
theorem c_X8_endGone (X : JX) {r : (Int32 × JX)} (hr : f_X8_endGone X = some r) : Cal LX yX8_endGone cX8_endGone 4 (some .boolean) 2 (fun ad => [.ref (ad (11))]) X (fun ad => oM r) :=
  Cal.of (own := RX8) (fun ad => [(0, .ref (ad (11)))]) (by decide) rfl (fun _ => Nat.le_of_ble_eq_true rfl) (fun _ => rfl) (fun κ K F => jf_X8_endGone K X F hr)
theorem jb_X8_hasAtOrBelow_51 {κ : JK} (K : jOk 4 cX8_hasAtOrBelow RX8 (some .boolean) 2 κ) (X : JX) (v1 : Int32) (v2 : Int32) {r : Int32} (F : jFin LX false (oI X r) κ) (rec2 : Int32 → Option Int32) (hrec2 : ∀ (v2 : Int32), rec2 v2 = some r → J LX 4 κ X 2 [(0, .ref (jad κ (11))), (1, .int v1), (2, .int v2)] []) (hr : b_X8_hasAtOrBelow_51 rec2 X v1 v2 = some r) : J LX 4 κ X 51 [(0, .ref (jad κ (11))), (1, .int v1), (2, .int v2)] [] := by
  unfold b_X8_hasAtOrBelow_51 at hr
  refine j_iincV K dX8_hasAtOrBelow_51 (v := 1) 2 rfl rfl (by decide) hr (fun t3 hr => ?_)
  refine j_goto K dX8_hasAtOrBelow_54 (tgt := 2) (by decide) ?_
  exact j_sub [1, 2, 0] rfl (hrec2 _ hr)
theorem jl_X8_hasAtOrBelow_2 {κ : JK} (K : jOk 4 cX8_hasAtOrBelow RX8 (some .boolean) 2 κ) (X : JX) (v1 : Int32) {r : Int32} (F : jFin LX false (oI X r) κ) : ∀ (v2 : Int32), l_X8_hasAtOrBelow_2 X v1 v2 = some r → J LX 4 κ X 2 [(0, .ref (jad κ (11))), (1, .int v1), (2, .int v2)] [] := by
  refine j_loop1 (P := fun v2 => J LX 4 κ X 2 [(0, .ref (jad κ (11))), (1, .int v1), (2, .int v2)] []) (fun rec2 hrec2 v2 hr => ?_) 1000
  unfold lb_X8_hasAtOrBelow_2 at hr
  refine j_iload_n K dX8_hasAtOrBelow_2 2 rfl ?_
  refine j_aload_n K dX8_hasAtOrBelow_3 0 rfl ?_
  refine j_get K (v := .int (X (11) 2)) fl_X8_22 rfl (Nat.le_of_ble_eq_true rfl) (by decide) rfl dX8_hasAtOrBelow_4 ?_
  refine j_icmp_ge K dX8_hasAtOrBelow_7 (tgt := 57) (by decide) hr (fun hr => ?_) (fun hr => ?_)
  · refine j_iconst K dX8_hasAtOrBelow_57 (v := 0) rfl ?_
    exact j_zreturn K dX8_hasAtOrBelow_58 rfl rfl F hr rfl
  · refine j_iload_n K dX8_hasAtOrBelow_10 2 rfl ?_
    refine j_iconst K dX8_hasAtOrBelow_11 (v := 3) rfl ?_
    refine j_icmp_ge K dX8_hasAtOrBelow_12 (tgt := 57) (by decide) hr (fun hr => ?_) (fun hr => ?_)
    · refine j_iconst K dX8_hasAtOrBelow_57 (v := 0) rfl ?_
      exact j_zreturn K dX8_hasAtOrBelow_58 rfl rfl F hr rfl
    · refine j_aload_n K dX8_hasAtOrBelow_15 0 rfl ?_
      refine j_get K (v := .ref (jad κ (12))) fl_X8_11 rfl (Nat.le_of_ble_eq_true rfl) (by decide) rfl dX8_hasAtOrBelow_16 ?_
      refine j_iload_n K dX8_hasAtOrBelow_19 2 rfl ?_
      refine j_aaload3V K (z := 3) rfl (Nat.le_of_ble_eq_true rfl) dX8_hasAtOrBelow_20 hr (fun q1 hq1 hr => ?_)
      refine j_astore_n K dX8_hasAtOrBelow_21 (by decide) ?_
      refine j_aload_n K dX8_hasAtOrBelow_22 0 rfl ?_
      refine j_ifnull K dX8_hasAtOrBelow_23 ?_
      refine j_aload_n K dX8_hasAtOrBelow_26 0 rfl ?_
      refine j_getN K (v := .int (X q1 3)) fn_X8_26 (rt0 hq1) (rt0l hq1) (by decide) rfl dX8_hasAtOrBelow_27 ?_
      refine j_iload_n K dX8_hasAtOrBelow_30 2 rfl ?_
      refine j_icmp_eq K dX8_hasAtOrBelow_31 (tgt := 49) (by decide) hr (fun hr => ?_) (fun hr => ?_)
      · refine j_iconst K dX8_hasAtOrBelow_49 (v := 1) rfl ?_
        exact j_zreturn K dX8_hasAtOrBelow_50 rfl rfl F hr rfl
      · refine j_aload_n K dX8_hasAtOrBelow_34 1 rfl ?_
        refine j_get K (v := .ref (jad κ (1))) fl_X8_17 rfl (Nat.le_of_ble_eq_true rfl) (by decide) rfl dX8_hasAtOrBelow_35 ?_
        refine j_aload_n K dX8_hasAtOrBelow_38 0 rfl ?_
        refine j_getN K (v := .int (X q1 3)) fn_X8_26 (rt0 hq1) (rt0l hq1) (by decide) rfl dX8_hasAtOrBelow_39 ?_
        refine j_iload_n K dX8_hasAtOrBelow_42 2 rfl ?_
        refine j_vI2 K (ci := 9) hr (fun v h => c_X9_isBelow X (X q1 3) v1 h) ml_X8_42 ⟨_, rfl, rfl⟩ rfl (Nat.le_of_ble_eq_true rfl) (by decide) rfl (by decide) (by decide) (Nat.le_of_ble_eq_true rfl) dX8_hasAtOrBelow_43 (fun t2 h hr => ?_)
        refine j_if_eq K dX8_hasAtOrBelow_46 (tgt := 51) (by decide) hr (fun hr => ?_) (fun hr => ?_)
        · exact j_sub [1, 2, 3] rfl (jb_X8_hasAtOrBelow_51 K _ _ _ F rec2 hrec2 hr)
        · refine j_iconst K dX8_hasAtOrBelow_49 (v := 1) rfl ?_
          exact j_zreturn K dX8_hasAtOrBelow_50 rfl rfl F hr rfl
theorem jf_X8_hasAtOrBelow {κ : JK} (K : jOk 4 cX8_hasAtOrBelow RX8 (some .boolean) 2 κ) (X : JX) (v1 : Int32) {r : Int32} (F : jFin LX false (oI X r) κ) (hr : f_X8_hasAtOrBelow X v1 = some r) : J LX 4 κ X 0 [(0, .ref (jad κ (11))), (1, .int v1)] [] := by
  unfold f_X8_hasAtOrBelow at hr
  refine j_iconst K dX8_hasAtOrBelow_0 (v := 0) rfl ?_
  refine j_istore_n K dX8_hasAtOrBelow_1 (by decide) ?_
  exact j_sub [1, 2, 0] rfl (jl_X8_hasAtOrBelow_2 K _ _ F _ hr)
theorem c_X8_hasAtOrBelow (X : JX) (v1 : Int32) {r : Int32} (hr : f_X8_hasAtOrBelow X v1 = some r) : Cal LX yX8_hasAtOrBelow cX8_hasAtOrBelow 4 (some .boolean) 2 (fun ad => [.ref (ad (11)), .int v1]) X (fun ad => oI X r) :=
  Cal.of (own := RX8) (fun ad => [(0, .ref (ad (11))), (1, .int v1)]) (by decide) rfl (fun _ => Nat.le_of_ble_eq_true rfl) (fun _ => rfl) (fun κ K F => jf_X8_hasAtOrBelow K X v1 F hr)
theorem jf_X8_isFull {κ : JK} (K : jOk 1 cX8_isFull RX8 (some .boolean) 0 κ) (X : JX) {r : Int32} (F : jFin LX false (oI X r) κ) (hr : f_X8_isFull X = some r) : J LX 1 κ X 0 [(0, .ref (jad κ (11)))] [] := by
  unfold f_X8_isFull at hr
  refine j_aload_n K dX8_isFull_0 0 rfl ?_
  refine j_get K (v := .int (X (11) 2)) fl_X8_22 rfl (Nat.le_of_ble_eq_true rfl) (by decide) rfl dX8_isFull_1 ?_
  refine j_iconst K dX8_isFull_4 (v := 3) rfl ?_
  refine j_icmp_lt K dX8_isFull_5 (tgt := 12) (by decide) hr (fun hr => ?_) (fun hr => ?_)
  · refine j_iconst K dX8_isFull_12 (v := 0) rfl ?_
    exact j_zreturn K dX8_isFull_13 rfl rfl F hr rfl
  · refine j_iconst K dX8_isFull_8 (v := 1) rfl ?_
    refine j_goto K dX8_isFull_9 (tgt := 13) (by decide) ?_
    exact j_zreturn K dX8_isFull_13 rfl rfl F hr rfl
theorem c_X8_isFull (X : JX) {r : Int32} (hr : f_X8_isFull X = some r) : Cal LX yX8_isFull cX8_isFull 1 (some .boolean) 0 (fun ad => [.ref (ad (11))]) X (fun ad => oI X r) :=
  Cal.of (own := RX8) (fun ad => [(0, .ref (ad (11)))]) (by decide) rfl (fun _ => Nat.le_of_ble_eq_true rfl) (fun _ => rfl) (fun κ K F => jf_X8_isFull K X F hr)
theorem jf_X8_tellAbove {κ : JK} (K : jOk 4 cX8_tellAbove RX8 none 3 κ) (X : JX) (v1 : Int32) (v2 : Int32) {r : JX} (F : jFin LX false (oU r) κ) (hr : f_X8_tellAbove X v1 v2 = some r) : J LX 4 κ X 0 [(0, .ref (jad κ (11))), (1, .int v1), (2, .int v2)] [] := by
  unfold f_X8_tellAbove at hr
  refine j_aload_n K dX8_tellAbove_0 0 rfl ?_
  refine j_iload_n K dX8_tellAbove_1 1 rfl ?_
  refine j_vO1 K (ci := 8) hr (fun v h => c_X8_above X v1 h) ml_X8_63 ⟨_, rfl, rfl⟩ rfl (Nat.le_of_ble_eq_true rfl) (by decide) rfl (by decide) (by decide) (Nat.le_of_ble_eq_true rfl) dX8_tellAbove_2 (fun h hr => ?_) (fun q2 h hr => ?_)
  · refine j_astore_nN K dX8_tellAbove_5 (by decide) ?_
    refine j_aload_nN K dX8_tellAbove_6 0 rfl ?_
    refine j_ifnullN K dX8_tellAbove_7 (tgt := 16) (by decide) ?_
    exact j_return K dX8_tellAbove_16 rfl F hr rfl
  · refine j_guard hr (fun hq2 hr => ?_)
    refine j_astore_n K dX8_tellAbove_5 (by decide) ?_
    refine j_aload_n K dX8_tellAbove_6 0 rfl ?_
    refine j_ifnull K dX8_tellAbove_7 ?_
    refine j_aload_n K dX8_tellAbove_10 0 rfl ?_
    refine j_iload_n K dX8_tellAbove_11 3 rfl ?_
    refine j_iload_n K dX8_tellAbove_12 2 rfl ?_
    refine j_vU2 K (ci := 7) hr (fun v h => c_X7_tell X q2 v2 v1 hq2 h) ml_X8_66 ⟨_, rfl, rfl⟩ (rt0 hq2) (rt0l hq2) (by decide) rfl (by decide) (by decide) (Nat.le_of_ble_eq_true rfl) dX8_tellAbove_13 (fun X3 h hr => ?_)
    exact j_return K dX8_tellAbove_16 rfl F hr rfl
theorem c_X8_tellAbove (X : JX) (v1 : Int32) (v2 : Int32) {r : JX} (hr : f_X8_tellAbove X v1 v2 = some r) : Cal LX yX8_tellAbove cX8_tellAbove 4 none 3 (fun ad => [.ref (ad (11)), .int v1, .int v2]) X (fun ad => oU r) :=
  Cal.of (own := RX8) (fun ad => [(0, .ref (ad (11))), (1, .int v1), (2, .int v2)]) (by decide) rfl (fun _ => Nat.le_of_ble_eq_true rfl) (fun _ => rfl) (fun κ K F => jf_X8_tellAbove K X v1 v2 F hr)

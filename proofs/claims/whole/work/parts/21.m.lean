theorem jl_X11_takesAct_12 {κ : JK} (K : jOk 3 cX11_takesAct RX11 none 0 κ) {r : JX} (F : jFin LY false (oU r) κ) : ∀ (X : JX) (v2 : Int32), l_X11_takesAct_12 X v2 = some r → J LY 3 κ X 12 [(0, .ref (jad κ (0))), (2, .int v2)] [] := by
  refine j_loop2 (P := fun X v2 => J LY 3 κ X 12 [(0, .ref (jad κ (0))), (2, .int v2)] []) (fun rec12 hrec12 X v2 hr => ?_) 1000
  unfold lb_X11_takesAct_12 at hr
  refine j_iload_n K dX11_takesAct_12 1 rfl ?_
  refine j_aload_n K dX11_takesAct_13 0 rfl ?_
  refine j_get K (v := .int (X (0) 30)) fl_X11_183 rfl (Nat.le_of_ble_eq_true rfl) (by decide) rfl dX11_takesAct_14 ?_
  refine j_icmp_ge K dX11_takesAct_17 (tgt := 68) (by decide) hr (fun hr => ?_) (fun hr => ?_)
  · exact j_return K dX11_takesAct_68 rfl F hr rfl
  · refine j_aload_n K dX11_takesAct_20 0 rfl ?_
    refine j_get K (v := .ref (jad κ (25))) fl_X11_91 rfl (Nat.le_of_ble_eq_true rfl) (by decide) rfl dX11_takesAct_21 ?_
    refine j_iload_n K dX11_takesAct_24 1 rfl ?_
    refine j_aload_n K dX11_takesAct_25 0 rfl ?_
    refine j_get K (v := .ref (jad κ (25))) fl_X11_91 rfl (Nat.le_of_ble_eq_true rfl) (by decide) rfl dX11_takesAct_26 ?_
    refine j_iload_n K dX11_takesAct_29 1 rfl ?_
    refine j_iconst K dX11_takesAct_30 (v := 1) rfl ?_
    refine j_iadd K dX11_takesAct_31 ?_
    refine j_iaload K (z := 60) rfl (Nat.le_of_ble_eq_true rfl) dX11_takesAct_32 hr (fun hr => ?_)
    refine j_iastoreV K (z := 60) rfl (Nat.le_of_ble_eq_true rfl) dX11_takesAct_33 hr (fun X2 hr => ?_)
    refine j_aload_n K dX11_takesAct_34 0 rfl ?_
    refine j_get K (v := .ref (jad κ (26))) fl_X11_94 rfl (Nat.le_of_ble_eq_true rfl) (by decide) rfl dX11_takesAct_35 ?_
    refine j_iload_n K dX11_takesAct_38 1 rfl ?_
    refine j_aload_n K dX11_takesAct_39 0 rfl ?_
    refine j_get K (v := .ref (jad κ (26))) fl_X11_94 rfl (Nat.le_of_ble_eq_true rfl) (by decide) rfl dX11_takesAct_40 ?_
    refine j_iload_n K dX11_takesAct_43 1 rfl ?_
    refine j_iconst K dX11_takesAct_44 (v := 1) rfl ?_
    refine j_iadd K dX11_takesAct_45 ?_
    refine j_iaload K (z := 60) rfl (Nat.le_of_ble_eq_true rfl) dX11_takesAct_46 hr (fun hr => ?_)
    refine j_iastoreV K (z := 60) rfl (Nat.le_of_ble_eq_true rfl) dX11_takesAct_47 hr (fun X3 hr => ?_)
    refine j_aload_n K dX11_takesAct_48 0 rfl ?_
    refine j_get K (v := .ref (jad κ (27))) fl_X11_97 rfl (Nat.le_of_ble_eq_true rfl) (by decide) rfl dX11_takesAct_49 ?_
    refine j_iload_n K dX11_takesAct_52 1 rfl ?_
    refine j_aload_n K dX11_takesAct_53 0 rfl ?_
    refine j_get K (v := .ref (jad κ (27))) fl_X11_97 rfl (Nat.le_of_ble_eq_true rfl) (by decide) rfl dX11_takesAct_54 ?_
    refine j_iload_n K dX11_takesAct_57 1 rfl ?_
    refine j_iconst K dX11_takesAct_58 (v := 1) rfl ?_
    refine j_iadd K dX11_takesAct_59 ?_
    refine j_baload K (z := 60) rfl (Nat.le_of_ble_eq_true rfl) dX11_takesAct_60 hr (fun hr => ?_)
    refine j_bastoreV K (z := 60) rfl (Nat.le_of_ble_eq_true rfl) dX11_takesAct_61 hr (fun X4 hr => ?_)
    refine j_iincV K dX11_takesAct_62 (v := 1) 1 rfl rfl (by decide) hr (fun t5 hr => ?_)
    refine j_goto K dX11_takesAct_65 (tgt := 12) (by decide) ?_
    exact j_sub [1, 0] rfl (hrec12 _ _ hr)
theorem jf_X11_takesAct {κ : JK} (K : jOk 3 cX11_takesAct RX11 none 0 κ) (X : JX) (v1 : Int32) {r : JX} (F : jFin LY false (oU r) κ) (hr : f_X11_takesAct X v1 = some r) : J LY 3 κ X 0 [(0, .ref (jad κ (0))), (1, .int v1)] [] := by
  unfold f_X11_takesAct at hr
  refine j_aload_n K dX11_takesAct_0 0 rfl ?_
  refine j_dup K dX11_takesAct_1 rfl ?_
  refine j_get K (v := .int (X (0) 30)) fl_X11_183 rfl (Nat.le_of_ble_eq_true rfl) (by decide) rfl dX11_takesAct_2 ?_
  refine j_iconst K dX11_takesAct_5 (v := 1) rfl ?_
  refine j_isub K dX11_takesAct_6 ?_
  refine j_putiV K fp_X11_183 rfl (Nat.le_of_ble_eq_true rfl) (by decide) (fun _ => Nat.le_of_ble_eq_true rfl) (fun _ => rfl) dX11_takesAct_7 hr (fun X1 hr => ?_)
  refine j_iload_n K dX11_takesAct_10 1 rfl ?_
  refine j_istore_n K dX11_takesAct_11 (by decide) ?_
  exact j_sub [1, 0] rfl (jl_X11_takesAct_12 K F _ _ hr)
theorem c_X11_takesAct (X : JX) (v1 : Int32) {r : JX} (hr : f_X11_takesAct X v1 = some r) : Cal LY yX11_takesAct cX11_takesAct 3 none 0 (fun ad => [.ref (ad (0)), .int v1]) X (fun ad => oU r) :=
  Cal.of (own := RX11) (fun ad => [(0, .ref (ad (0))), (1, .int v1)]) (by decide) rfl (fun _ => Nat.le_of_ble_eq_true rfl) (fun _ => rfl) (fun κ K F => jf_X11_takesAct K X v1 F hr)
theorem jb_X11_isBelow_31 {κ : JK} (K : jOk 5 cX11_isBelow RX11 (some .boolean) 0 κ) (X : JX) (v2 : Int32) (v4 : Int32) (s0 : Int32) {r : Int32} (F : jFin LY false (oI X r) κ) (rec10 : Int32 → Int32 → Option Int32) (hrec10 : ∀ (v3 : Int32) (v4 : Int32), rec10 v3 v4 = some r → J LY 5 κ X 10 [(0, .ref (jad κ (0))), (2, .int v2), (3, .int v3), (4, .int v4)] []) (hr : b_X11_isBelow_31 rec10 X v2 v4 s0 = some r) : J LY 5 κ X 31 [(0, .ref (jad κ (0))), (2, .int v2), (4, .int v4)] [.int s0] := by
  unfold b_X11_isBelow_31 at hr
  refine j_istore_n K dX11_isBelow_31 (by decide) ?_
  refine j_aload_n K dX11_isBelow_32 1 rfl ?_
  refine j_get K (v := .ref (jad κ (3))) fl_X11_16 rfl (Nat.le_of_ble_eq_true rfl) (by decide) rfl dX11_isBelow_33 ?_
  refine j_iload K dX11_isBelow_36 3 rfl ?_
  refine j_iaload K (z := 60) rfl (Nat.le_of_ble_eq_true rfl) dX11_isBelow_38 hr (fun hr => ?_)
  refine j_istoreV K dX11_isBelow_39 (by decide) hr (fun t2 hr => ?_)
  refine j_goto K dX11_isBelow_41 (tgt := 10) (by decide) ?_
  exact j_sub [2, 3, 1, 0] rfl (hrec10 _ _ hr)
theorem jl_X11_isBelow_10 {κ : JK} (K : jOk 5 cX11_isBelow RX11 (some .boolean) 0 κ) (X : JX) (v2 : Int32) {r : Int32} (F : jFin LY false (oI X r) κ) : ∀ (v3 : Int32) (v4 : Int32), l_X11_isBelow_10 X v2 v3 v4 = some r → J LY 5 κ X 10 [(0, .ref (jad κ (0))), (2, .int v2), (3, .int v3), (4, .int v4)] [] := by
  refine j_loop2 (P := fun v3 v4 => J LY 5 κ X 10 [(0, .ref (jad κ (0))), (2, .int v2), (3, .int v3), (4, .int v4)] []) (fun rec10 hrec10 v3 v4 hr => ?_) 1000
  unfold lb_X11_isBelow_10 at hr
  refine j_iload K dX11_isBelow_10 3 rfl ?_
  refine j_iconst K dX11_isBelow_12 (v := -1) rfl ?_
  refine j_icmp_eq K dX11_isBelow_13 (tgt := 44) (by decide) hr (fun hr => ?_) (fun hr => ?_)
  · refine j_iload_n K dX11_isBelow_44 2 rfl ?_
    exact j_guard hr (fun hz hr => j_zreturn K dX11_isBelow_45 rfl hz F hr rfl)
  · refine j_iload_n K dX11_isBelow_16 2 rfl ?_
    refine j_if_ne K dX11_isBelow_17 (tgt := 26) (by decide) hr (fun hr => ?_) (fun hr => ?_)
    · refine j_iconst K dX11_isBelow_26 (v := 1) rfl ?_
      refine j_goto K dX11_isBelow_27 (tgt := 31) (by decide) ?_
      exact j_sub [0, 1, 3] rfl (jb_X11_isBelow_31 K _ _ _ _ F rec10 hrec10 hr)
    · refine j_iload K dX11_isBelow_20 3 rfl ?_
      refine j_iload_n K dX11_isBelow_22 1 rfl ?_
      refine j_icmp_ne K dX11_isBelow_23 (tgt := 30) (by decide) hr (fun hr => ?_) (fun hr => ?_)
      · refine j_iconst K dX11_isBelow_30 (v := 0) rfl ?_
        exact j_sub [0, 1, 3] rfl (jb_X11_isBelow_31 K _ _ _ _ F rec10 hrec10 hr)
      · refine j_iconst K dX11_isBelow_26 (v := 1) rfl ?_
        refine j_goto K dX11_isBelow_27 (tgt := 31) (by decide) ?_
        exact j_sub [0, 1, 3] rfl (jb_X11_isBelow_31 K _ _ _ _ F rec10 hrec10 hr)
theorem jf_X11_isBelow {κ : JK} (K : jOk 5 cX11_isBelow RX11 (some .boolean) 0 κ) (X : JX) (v1 : Int32) (v2 : Int32) {r : Int32} (F : jFin LY false (oI X r) κ) (hr : f_X11_isBelow X v1 v2 = some r) : J LY 5 κ X 0 [(0, .ref (jad κ (0))), (1, .int v1), (2, .int v2)] [] := by
  unfold f_X11_isBelow at hr
  refine j_iconst K dX11_isBelow_0 (v := 0) rfl ?_
  refine j_istore_n K dX11_isBelow_1 (by decide) ?_
  refine j_aload_n K dX11_isBelow_2 1 rfl ?_
  refine j_get K (v := .ref (jad κ (3))) fl_X11_16 rfl (Nat.le_of_ble_eq_true rfl) (by decide) rfl dX11_isBelow_3 ?_
  refine j_iload_n K dX11_isBelow_6 2 rfl ?_
  refine j_iaload K (z := 60) rfl (Nat.le_of_ble_eq_true rfl) dX11_isBelow_7 hr (fun hr => ?_)
  refine j_istoreV K dX11_isBelow_8 (by decide) hr (fun t1 hr => ?_)
  exact j_sub [2, 4, 1, 0] rfl (jl_X11_isBelow_10 K _ _ F _ _ hr)
theorem c_X11_isBelow (X : JX) (v1 : Int32) (v2 : Int32) {r : Int32} (hr : f_X11_isBelow X v1 v2 = some r) : Cal LY yX11_isBelow cX11_isBelow 5 (some .boolean) 0 (fun ad => [.ref (ad (0)), .int v1, .int v2]) X (fun ad => oI X r) :=
  Cal.of (own := RX11) (fun ad => [(0, .ref (ad (0))), (1, .int v1), (2, .int v2)]) (by decide) rfl (fun _ => Nat.le_of_ble_eq_true rfl) (fun _ => rfl) (fun κ K F => jf_X11_isBelow K X v1 v2 F hr)
theorem jb_X11_over_40 {κ : JK} (K : jOk 4 cX11_over RX11 (some .int) 1 κ) (X : JX) (v1 : Int32) (v3 : Int32) (s0 : Int32) {r : Int32} (F : jFin LY false (oI X r) κ) (rec4 : Int32 → Int32 → Option Int32) (hrec4 : ∀ (v2 : Int32) (v3 : Int32), rec4 v2 v3 = some r → J LY 4 κ X 4 [(0, .ref (jad κ (0))), (1, .int v1), (2, .int v2), (3, .int v3)] []) (hr : b_X11_over_40 rec4 X v1 v3 s0 = some r) : J LY 4 κ X 40 [(0, .ref (jad κ (0))), (1, .int v1), (3, .int v3)] [.int s0] := by
  unfold b_X11_over_40 at hr
  refine j_istore_n K dX11_over_40 (by decide) ?_
  refine j_iincV K dX11_over_41 (v := 1) 3 rfl rfl (by decide) hr (fun t3 hr => ?_)
  refine j_goto K dX11_over_44 (tgt := 4) (by decide) ?_
  exact j_sub [2, 3, 1, 0] rfl (hrec4 _ _ hr)
theorem jl_X11_over_4 {κ : JK} (K : jOk 4 cX11_over RX11 (some .int) 1 κ) (X : JX) (v1 : Int32) {r : Int32} (F : jFin LY false (oI X r) κ) : ∀ (v2 : Int32) (v3 : Int32), l_X11_over_4 X v1 v2 v3 = some r → J LY 4 κ X 4 [(0, .ref (jad κ (0))), (1, .int v1), (2, .int v2), (3, .int v3)] [] := by
  refine j_loop2 (P := fun v2 v3 => J LY 4 κ X 4 [(0, .ref (jad κ (0))), (1, .int v1), (2, .int v2), (3, .int v3)] []) (fun rec4 hrec4 v2 v3 hr => ?_) 1000
  unfold lb_X11_over_4 at hr
  refine j_iload_n K dX11_over_4 3 rfl ?_
  refine j_aload_n K dX11_over_5 0 rfl ?_
  refine j_get K (v := .int (X (0) 12)) fl_X11_132 rfl (Nat.le_of_ble_eq_true rfl) (by decide) rfl dX11_over_6 ?_
  refine j_icmp_ge K dX11_over_9 (tgt := 47) (by decide) hr (fun hr => ?_) (fun hr => ?_)
  · refine j_iload_n K dX11_over_47 2 rfl ?_
    exact j_ireturn K dX11_over_48 rfl F hr rfl
  · refine j_aload_n K dX11_over_12 0 rfl ?_
    refine j_get K (v := .ref (jad κ (1))) fl_X11_7 rfl (Nat.le_of_ble_eq_true rfl) (by decide) rfl dX11_over_13 ?_
    refine j_iload_n K dX11_over_16 1 rfl ?_
    refine j_baload K (z := 60) rfl (Nat.le_of_ble_eq_true rfl) dX11_over_17 hr (fun hr => ?_)
    refine j_if_eq K dX11_over_18 (tgt := 47) (by decide) hr (fun hr => ?_) (fun hr => ?_)
    · refine j_iload_n K dX11_over_47 2 rfl ?_
      exact j_ireturn K dX11_over_48 rfl F hr rfl
    · refine j_aload_n K dX11_over_21 0 rfl ?_
      refine j_iload_n K dX11_over_22 1 rfl ?_
      refine j_aload_n K dX11_over_23 0 rfl ?_
      refine j_get K (v := .ref (jad κ (10))) fl_X11_39 rfl (Nat.le_of_ble_eq_true rfl) (by decide) rfl dX11_over_24 ?_
      refine j_iload_n K dX11_over_27 3 rfl ?_
      refine j_iaload K (z := 4) rfl (Nat.le_of_ble_eq_true rfl) dX11_over_28 hr (fun hr => ?_)
      refine j_vI2 K (ci := 11) hr (fun v h => c_X11_isBelow X v1 (X (10) v3.toNatClampNeg) h) ml_X11_135 ⟨_, rfl, rfl⟩ rfl (Nat.le_of_ble_eq_true rfl) (by decide) rfl (by decide) (by decide) (Nat.le_of_ble_eq_true rfl) dX11_over_29 (fun t2 h hr => ?_)
      refine j_if_eq K dX11_over_32 (tgt := 39) (by decide) hr (fun hr => ?_) (fun hr => ?_)
      · refine j_iload_n K dX11_over_39 2 rfl ?_
        exact j_sub [0, 1, 3] rfl (jb_X11_over_40 K _ _ _ _ F rec4 hrec4 hr)
      · refine j_iload_n K dX11_over_35 3 rfl ?_
        refine j_goto K dX11_over_36 (tgt := 40) (by decide) ?_
        exact j_sub [0, 1, 3] rfl (jb_X11_over_40 K _ _ _ _ F rec4 hrec4 hr)
theorem jf_X11_over {κ : JK} (K : jOk 4 cX11_over RX11 (some .int) 1 κ) (X : JX) (v1 : Int32) {r : Int32} (F : jFin LY false (oI X r) κ) (hr : f_X11_over X v1 = some r) : J LY 4 κ X 0 [(0, .ref (jad κ (0))), (1, .int v1)] [] := by
  unfold f_X11_over at hr
  refine j_iconst K dX11_over_0 (v := -1) rfl ?_
  refine j_istoreV_n K dX11_over_1 (by decide) hr (fun t1 hr => ?_)
  refine j_iconst K dX11_over_2 (v := 0) rfl ?_
  refine j_istore_n K dX11_over_3 (by decide) ?_
  exact j_sub [2, 3, 1, 0] rfl (jl_X11_over_4 K _ _ F _ _ hr)
theorem c_X11_over (X : JX) (v1 : Int32) {r : Int32} (hr : f_X11_over X v1 = some r) : Cal LY yX11_over cX11_over 4 (some .int) 1 (fun ad => [.ref (ad (0)), .int v1]) X (fun ad => oI X r) :=
  Cal.of (own := RX11) (fun ad => [(0, .ref (ad (0))), (1, .int v1)]) (by decide) rfl (fun _ => Nat.le_of_ble_eq_true rfl) (fun _ => rfl) (fun κ K F => jf_X11_over K X v1 F hr)
theorem jb_X11_rootAt_27 {κ : JK} (K : jOk 4 cX11_rootAt RX11 (some .int) 0 κ) (X : JX) (v1 : Int32) (v3 : Int32) (s0 : Int32) {r : Int32} (F : jFin LY false (oI X r) κ) (rec4 : Int32 → Int32 → Option Int32) (hrec4 : ∀ (v2 : Int32) (v3 : Int32), rec4 v2 v3 = some r → J LY 4 κ X 4 [(0, .ref (jad κ (0))), (1, .int v1), (2, .int v2), (3, .int v3)] []) (hr : b_X11_rootAt_27 rec4 X v1 v3 s0 = some r) : J LY 4 κ X 27 [(0, .ref (jad κ (0))), (1, .int v1), (3, .int v3)] [.int s0] := by
  unfold b_X11_rootAt_27 at hr
  refine j_istore_n K dX11_rootAt_27 (by decide) ?_
  refine j_iincV K dX11_rootAt_28 (v := 1) 3 rfl rfl (by decide) hr (fun t2 hr => ?_)
  refine j_goto K dX11_rootAt_31 (tgt := 4) (by decide) ?_
  exact j_sub [2, 3, 1, 0] rfl (hrec4 _ _ hr)
theorem jl_X11_rootAt_4 {κ : JK} (K : jOk 4 cX11_rootAt RX11 (some .int) 0 κ) (X : JX) (v1 : Int32) {r : Int32} (F : jFin LY false (oI X r) κ) : ∀ (v2 : Int32) (v3 : Int32), l_X11_rootAt_4 X v1 v2 v3 = some r → J LY 4 κ X 4 [(0, .ref (jad κ (0))), (1, .int v1), (2, .int v2), (3, .int v3)] [] := by
  refine j_loop2 (P := fun v2 v3 => J LY 4 κ X 4 [(0, .ref (jad κ (0))), (1, .int v1), (2, .int v2), (3, .int v3)] []) (fun rec4 hrec4 v2 v3 hr => ?_) 1000
  unfold lb_X11_rootAt_4 at hr
  refine j_iload_n K dX11_rootAt_4 3 rfl ?_
  refine j_aload_n K dX11_rootAt_5 0 rfl ?_
  refine j_get K (v := .int (X (0) 12)) fl_X11_132 rfl (Nat.le_of_ble_eq_true rfl) (by decide) rfl dX11_rootAt_6 ?_
  refine j_icmp_ge K dX11_rootAt_9 (tgt := 34) (by decide) hr (fun hr => ?_) (fun hr => ?_)
  · refine j_iload_n K dX11_rootAt_34 2 rfl ?_
    exact j_ireturn K dX11_rootAt_35 rfl F hr rfl
  · refine j_aload_n K dX11_rootAt_12 0 rfl ?_
    refine j_get K (v := .ref (jad κ (10))) fl_X11_39 rfl (Nat.le_of_ble_eq_true rfl) (by decide) rfl dX11_rootAt_13 ?_
    refine j_iload_n K dX11_rootAt_16 3 rfl ?_
    refine j_iaload K (z := 4) rfl (Nat.le_of_ble_eq_true rfl) dX11_rootAt_17 hr (fun hr => ?_)
    refine j_iload_n K dX11_rootAt_18 1 rfl ?_
    refine j_icmp_ne K dX11_rootAt_19 (tgt := 26) (by decide) hr (fun hr => ?_) (fun hr => ?_)
    · refine j_iload_n K dX11_rootAt_26 2 rfl ?_
      exact j_sub [0, 1, 3] rfl (jb_X11_rootAt_27 K _ _ _ _ F rec4 hrec4 hr)
    · refine j_iload_n K dX11_rootAt_22 3 rfl ?_
      refine j_goto K dX11_rootAt_23 (tgt := 27) (by decide) ?_
      exact j_sub [0, 1, 3] rfl (jb_X11_rootAt_27 K _ _ _ _ F rec4 hrec4 hr)
theorem jf_X11_rootAt {κ : JK} (K : jOk 4 cX11_rootAt RX11 (some .int) 0 κ) (X : JX) (v1 : Int32) {r : Int32} (F : jFin LY false (oI X r) κ) (hr : f_X11_rootAt X v1 = some r) : J LY 4 κ X 0 [(0, .ref (jad κ (0))), (1, .int v1)] [] := by
  unfold f_X11_rootAt at hr
  refine j_iconst K dX11_rootAt_0 (v := -1) rfl ?_
  refine j_istoreV_n K dX11_rootAt_1 (by decide) hr (fun t1 hr => ?_)
  refine j_iconst K dX11_rootAt_2 (v := 0) rfl ?_
  refine j_istore_n K dX11_rootAt_3 (by decide) ?_
  exact j_sub [2, 3, 1, 0] rfl (jl_X11_rootAt_4 K _ _ F _ _ hr)
theorem c_X11_rootAt (X : JX) (v1 : Int32) {r : Int32} (hr : f_X11_rootAt X v1 = some r) : Cal LY yX11_rootAt cX11_rootAt 4 (some .int) 0 (fun ad => [.ref (ad (0)), .int v1]) X (fun ad => oI X r) :=
  Cal.of (own := RX11) (fun ad => [(0, .ref (ad (0))), (1, .int v1)]) (by decide) rfl (fun _ => Nat.le_of_ble_eq_true rfl) (fun _ => rfl) (fun κ K F => jf_X11_rootAt K X v1 F hr)
theorem jb_X11_liesBelow_70 {κ : JK} (K : jOk 5 cX11_liesBelow RX11 (some .boolean) 1 κ) (X : JX) (v2 : Int32) (v4 : Int32) (s0 : Int32) {r : Int32} (F : jFin LY false (oI X r) κ) (rec23 : Int32 → Int32 → Option Int32) (hrec23 : ∀ (v3 : Int32) (v4 : Int32), rec23 v3 v4 = some r → J LY 5 κ X 23 [(0, .ref (jad κ (0))), (2, .int v2), (3, .int v3), (4, .int v4)] []) (hr : b_X11_liesBelow_70 rec23 X v2 v4 s0 = some r) : J LY 5 κ X 70 [(0, .ref (jad κ (0))), (2, .int v2), (4, .int v4)] [.int s0] := by
  unfold b_X11_liesBelow_70 at hr
  refine j_istore_n K dX11_liesBelow_70 (by decide) ?_
  refine j_iincV K dX11_liesBelow_71 (v := 1) 3 rfl rfl (by decide) hr (fun t2 hr => ?_)
  refine j_goto K dX11_liesBelow_74 (tgt := 23) (by decide) ?_
  exact j_sub [2, 3, 1, 0] rfl (hrec23 _ _ hr)
theorem jl_X11_liesBelow_23 {κ : JK} (K : jOk 5 cX11_liesBelow RX11 (some .boolean) 1 κ) (X : JX) (v2 : Int32) {r : Int32} (F : jFin LY false (oI X r) κ) : ∀ (v3 : Int32) (v4 : Int32), l_X11_liesBelow_23 X v2 v3 v4 = some r → J LY 5 κ X 23 [(0, .ref (jad κ (0))), (2, .int v2), (3, .int v3), (4, .int v4)] [] := by
  refine j_loop2 (P := fun v3 v4 => J LY 5 κ X 23 [(0, .ref (jad κ (0))), (2, .int v2), (3, .int v3), (4, .int v4)] []) (fun rec23 hrec23 v3 v4 hr => ?_) 1000
  unfold lb_X11_liesBelow_23 at hr
  refine j_iload K dX11_liesBelow_23 3 rfl ?_
  refine j_bipush K dX11_liesBelow_25 (v := 60) rfl ?_
  refine j_icmp_ge K dX11_liesBelow_27 (tgt := 77) (by decide) hr (fun hr => ?_) (fun hr => ?_)
  · refine j_iconst K dX11_liesBelow_77 (v := 0) rfl ?_
    exact j_zreturn K dX11_liesBelow_78 rfl rfl F hr rfl
  · refine j_iload_n K dX11_liesBelow_30 2 rfl ?_
    refine j_iconst K dX11_liesBelow_31 (v := -1) rfl ?_
    refine j_icmp_eq K dX11_liesBelow_32 (tgt := 77) (by decide) hr (fun hr => ?_) (fun hr => ?_)
    · refine j_iconst K dX11_liesBelow_77 (v := 0) rfl ?_
      exact j_zreturn K dX11_liesBelow_78 rfl rfl F hr rfl
    · refine j_iload_n K dX11_liesBelow_35 2 rfl ?_
      refine j_iload_n K dX11_liesBelow_36 1 rfl ?_
      refine j_icmp_ne K dX11_liesBelow_37 (tgt := 42) (by decide) hr (fun hr => ?_) (fun hr => ?_)
      · refine j_aload_n K dX11_liesBelow_42 0 rfl ?_
        refine j_iload_n K dX11_liesBelow_43 2 rfl ?_
        refine j_vI1 K (ci := 11) hr (fun v h => c_X11_rootAt X v3 h) ml_X11_163 ⟨_, rfl, rfl⟩ rfl (Nat.le_of_ble_eq_true rfl) (by decide) rfl (by decide) (by decide) (Nat.le_of_ble_eq_true rfl) dX11_liesBelow_44 (fun t1 h hr => ?_)
        refine j_iconst K dX11_liesBelow_47 (v := -1) rfl ?_
        refine j_icmp_ne K dX11_liesBelow_48 (tgt := 69) (by decide) hr (fun hr => ?_) (fun hr => ?_)
        · refine j_iconst K dX11_liesBelow_69 (v := -1) rfl ?_
          exact j_sub [0, 1, 3] rfl (jb_X11_liesBelow_70 K _ _ _ _ F rec23 hrec23 hr)
        · refine j_aload_n K dX11_liesBelow_51 0 rfl ?_
          refine j_get K (v := .ref (jad κ (19))) fl_X11_66 rfl (Nat.le_of_ble_eq_true rfl) (by decide) rfl dX11_liesBelow_52 ?_
          refine j_iload_n K dX11_liesBelow_55 2 rfl ?_
          refine j_baload K (z := 60) rfl (Nat.le_of_ble_eq_true rfl) dX11_liesBelow_56 hr (fun hr => ?_)
          refine j_if_eq K dX11_liesBelow_57 (tgt := 69) (by decide) hr (fun hr => ?_) (fun hr => ?_)
          · refine j_iconst K dX11_liesBelow_69 (v := -1) rfl ?_
            exact j_sub [0, 1, 3] rfl (jb_X11_liesBelow_70 K _ _ _ _ F rec23 hrec23 hr)
          · refine j_aload_n K dX11_liesBelow_60 0 rfl ?_
            refine j_get K (v := .ref (jad κ (20))) fl_X11_69 rfl (Nat.le_of_ble_eq_true rfl) (by decide) rfl dX11_liesBelow_61 ?_
            refine j_iload_n K dX11_liesBelow_64 2 rfl ?_
            refine j_iaload K (z := 60) rfl (Nat.le_of_ble_eq_true rfl) dX11_liesBelow_65 hr (fun hr => ?_)
            refine j_goto K dX11_liesBelow_66 (tgt := 70) (by decide) ?_
            exact j_sub [0, 1, 3] rfl (jb_X11_liesBelow_70 K _ _ _ _ F rec23 hrec23 hr)
      · refine j_iconst K dX11_liesBelow_40 (v := 1) rfl ?_
        exact j_zreturn K dX11_liesBelow_41 rfl rfl F hr rfl
theorem jb_X11_liesBelow_19 {κ : JK} (K : jOk 5 cX11_liesBelow RX11 (some .boolean) 1 κ) (X : JX) (v2 : Int32) (s0 : Int32) {r : Int32} (F : jFin LY false (oI X r) κ) (hr : b_X11_liesBelow_19 X v2 s0 = some r) : J LY 5 κ X 19 [(0, .ref (jad κ (0))), (2, .int v2)] [.int s0] := by
  unfold b_X11_liesBelow_19 at hr
  refine j_istore_n K dX11_liesBelow_19 (by decide) ?_
  refine j_iconst K dX11_liesBelow_20 (v := 0) rfl ?_
  refine j_istore K dX11_liesBelow_21 (by decide) ?_
  exact j_sub [2, 3, 1, 0] rfl (jl_X11_liesBelow_23 K _ _ F _ _ hr)
theorem jf_X11_liesBelow {κ : JK} (K : jOk 5 cX11_liesBelow RX11 (some .boolean) 1 κ) (X : JX) (v1 : Int32) (v2 : Int32) {r : Int32} (F : jFin LY false (oI X r) κ) (hr : f_X11_liesBelow X v1 v2 = some r) : J LY 5 κ X 0 [(0, .ref (jad κ (0))), (1, .int v1), (2, .int v2)] [] := by
  unfold f_X11_liesBelow at hr
  refine j_aload_n K dX11_liesBelow_0 0 rfl ?_
  refine j_get K (v := .ref (jad κ (19))) fl_X11_66 rfl (Nat.le_of_ble_eq_true rfl) (by decide) rfl dX11_liesBelow_1 ?_
  refine j_iload_n K dX11_liesBelow_4 1 rfl ?_
  refine j_baload K (z := 60) rfl (Nat.le_of_ble_eq_true rfl) dX11_liesBelow_5 hr (fun hr => ?_)
  refine j_if_eq K dX11_liesBelow_6 (tgt := 18) (by decide) hr (fun hr => ?_) (fun hr => ?_)
  · refine j_iconst K dX11_liesBelow_18 (v := -1) rfl ?_
    exact j_sub [0, 2] rfl (jb_X11_liesBelow_19 K _ _ _ F hr)
  · refine j_aload_n K dX11_liesBelow_9 0 rfl ?_
    refine j_get K (v := .ref (jad κ (20))) fl_X11_69 rfl (Nat.le_of_ble_eq_true rfl) (by decide) rfl dX11_liesBelow_10 ?_
    refine j_iload_n K dX11_liesBelow_13 1 rfl ?_
    refine j_iaload K (z := 60) rfl (Nat.le_of_ble_eq_true rfl) dX11_liesBelow_14 hr (fun hr => ?_)
    refine j_goto K dX11_liesBelow_15 (tgt := 19) (by decide) ?_
    exact j_sub [0, 2] rfl (jb_X11_liesBelow_19 K _ _ _ F hr)
theorem c_X11_liesBelow (X : JX) (v1 : Int32) (v2 : Int32) {r : Int32} (hr : f_X11_liesBelow X v1 v2 = some r) : Cal LY yX11_liesBelow cX11_liesBelow 5 (some .boolean) 1 (fun ad => [.ref (ad (0)), .int v1, .int v2]) X (fun ad => oI X r) :=
  Cal.of (own := RX11) (fun ad => [(0, .ref (ad (0))), (1, .int v1), (2, .int v2)]) (by decide) rfl (fun _ => Nat.le_of_ble_eq_true rfl) (fun _ => rfl) (fun κ K F => jf_X11_liesBelow K X v1 v2 F hr)
theorem jb_X11_kills_39 {κ : JK} (K : jOk 3 cX11_kills RX11 none 0 κ) (X : JX) (v1 : Int32) (v2 : Int32) (s0 : Int32) (s1 : Int32) {r : JX} (F : jFin LY false (oU r) κ) (rec2 : JX → Int32 → Option JX) (hrec2 : ∀ (X : JX) (v2 : Int32), rec2 X v2 = some r → J LY 3 κ X 2 [(0, .ref (jad κ (0))), (1, .int v1), (2, .int v2)] []) (hr : b_X11_kills_39 rec2 X v1 v2 s0 s1 = some r) : J LY 3 κ X 39 [(0, .ref (jad κ (0))), (1, .int v1), (2, .int v2)] [.int s0, .int s1, .ref (jad κ (30))] := by
  unfold b_X11_kills_39 at hr
  refine j_bastoreV K (z := 600) rfl (Nat.le_of_ble_eq_true rfl) dX11_kills_39 hr (fun X1 hr => ?_)
  refine j_iincV K dX11_kills_40 (v := 1) 2 rfl rfl (by decide) hr (fun t2 hr => ?_)
  refine j_goto K dX11_kills_43 (tgt := 2) (by decide) ?_
  exact j_sub [1, 2, 0] rfl (hrec2 _ _ hr)
theorem jl_X11_kills_2 {κ : JK} (K : jOk 3 cX11_kills RX11 none 0 κ) (v1 : Int32) {r : JX} (F : jFin LY false (oU r) κ) : ∀ (X : JX) (v2 : Int32), l_X11_kills_2 v1 X v2 = some r → J LY 3 κ X 2 [(0, .ref (jad κ (0))), (1, .int v1), (2, .int v2)] [] := by
  refine j_loop2 (P := fun X v2 => J LY 3 κ X 2 [(0, .ref (jad κ (0))), (1, .int v1), (2, .int v2)] []) (fun rec2 hrec2 X v2 hr => ?_) 1000
  unfold lb_X11_kills_2 at hr
  refine j_iload_n K dX11_kills_2 2 rfl ?_
  refine j_aload_n K dX11_kills_3 0 rfl ?_
  refine j_get K (v := .int (X (0) 37)) fl_X11_192 rfl (Nat.le_of_ble_eq_true rfl) (by decide) rfl dX11_kills_4 ?_
  refine j_icmp_ge K dX11_kills_7 (tgt := 46) (by decide) hr (fun hr => ?_) (fun hr => ?_)
  · exact j_return K dX11_kills_46 rfl F hr rfl
  · refine j_aload_n K dX11_kills_10 0 rfl ?_
    refine j_get K (v := .ref (jad κ (30))) fl_X11_106 rfl (Nat.le_of_ble_eq_true rfl) (by decide) rfl dX11_kills_11 ?_
    refine j_iload_n K dX11_kills_14 2 rfl ?_
    refine j_aload_n K dX11_kills_15 0 rfl ?_
    refine j_get K (v := .ref (jad κ (30))) fl_X11_106 rfl (Nat.le_of_ble_eq_true rfl) (by decide) rfl dX11_kills_16 ?_
    refine j_iload_n K dX11_kills_19 2 rfl ?_
    refine j_baload K (z := 600) rfl (Nat.le_of_ble_eq_true rfl) dX11_kills_20 hr (fun hr => ?_)
    refine j_if_ne K dX11_kills_21 (tgt := 34) (by decide) hr (fun hr => ?_) (fun hr => ?_)
    · refine j_iconst K dX11_kills_34 (v := 1) rfl ?_
      refine j_goto K dX11_kills_35 (tgt := 39) (by decide) ?_
      exact j_sub [0, 1, 2] rfl (jb_X11_kills_39 K _ _ _ _ _ F rec2 hrec2 hr)
    · refine j_aload_n K dX11_kills_24 0 rfl ?_
      refine j_get K (v := .ref (jad κ (29))) fl_X11_103 rfl (Nat.le_of_ble_eq_true rfl) (by decide) rfl dX11_kills_25 ?_
      refine j_iload_n K dX11_kills_28 2 rfl ?_
      refine j_iaload K (z := 600) rfl (Nat.le_of_ble_eq_true rfl) dX11_kills_29 hr (fun hr => ?_)
      refine j_iload_n K dX11_kills_30 1 rfl ?_
      refine j_icmp_ne K dX11_kills_31 (tgt := 38) (by decide) hr (fun hr => ?_) (fun hr => ?_)
      · refine j_iconst K dX11_kills_38 (v := 0) rfl ?_
        exact j_sub [0, 1, 2] rfl (jb_X11_kills_39 K _ _ _ _ _ F rec2 hrec2 hr)
      · refine j_iconst K dX11_kills_34 (v := 1) rfl ?_
        refine j_goto K dX11_kills_35 (tgt := 39) (by decide) ?_
        exact j_sub [0, 1, 2] rfl (jb_X11_kills_39 K _ _ _ _ _ F rec2 hrec2 hr)
theorem jf_X11_kills {κ : JK} (K : jOk 3 cX11_kills RX11 none 0 κ) (X : JX) (v1 : Int32) {r : JX} (F : jFin LY false (oU r) κ) (hr : f_X11_kills X v1 = some r) : J LY 3 κ X 0 [(0, .ref (jad κ (0))), (1, .int v1)] [] := by
  unfold f_X11_kills at hr
  refine j_iconst K dX11_kills_0 (v := 0) rfl ?_
  refine j_istore_n K dX11_kills_1 (by decide) ?_
  exact j_sub [1, 2, 0] rfl (jl_X11_kills_2 K _ F _ _ hr)
theorem c_X11_kills (X : JX) (v1 : Int32) {r : JX} (hr : f_X11_kills X v1 = some r) : Cal LY yX11_kills cX11_kills 3 none 0 (fun ad => [.ref (ad (0)), .int v1]) X (fun ad => oU r) :=
  Cal.of (own := RX11) (fun ad => [(0, .ref (ad (0))), (1, .int v1)]) (by decide) rfl (fun _ => Nat.le_of_ble_eq_true rfl) (fun _ => rfl) (fun κ K F => jf_X11_kills K X v1 F hr)
theorem jb_X11_forgets_88 {κ : JK} (K : jOk 3 cX11_forgets RX11 none 2 κ) (X : JX) (v2 : Int32) {r : JX} (F : jFin LY false (oU r) κ) (rec52 : JX → Int32 → Option JX) (hrec52 : ∀ (X : JX) (v2 : Int32), rec52 X v2 = some r → J LY 3 κ X 52 [(0, .ref (jad κ (0))), (2, .int v2)] []) (hr : b_X11_forgets_88 rec52 X v2 = some r) : J LY 3 κ X 88 [(0, .ref (jad κ (0))), (2, .int v2)] [] := by
  unfold b_X11_forgets_88 at hr
  refine j_iincV K dX11_forgets_88 (v := 1) 1 rfl rfl (by decide) hr (fun t8 hr => ?_)
  refine j_goto K dX11_forgets_91 (tgt := 52) (by decide) ?_
  exact j_sub [1, 0] rfl (hrec52 _ _ hr)
theorem jl_X11_forgets_52 {κ : JK} (K : jOk 3 cX11_forgets RX11 none 2 κ) {r : JX} (F : jFin LY false (oU r) κ) : ∀ (X : JX) (v2 : Int32), l_X11_forgets_52 X v2 = some r → J LY 3 κ X 52 [(0, .ref (jad κ (0))), (2, .int v2)] [] := by
  refine j_loop2 (P := fun X v2 => J LY 3 κ X 52 [(0, .ref (jad κ (0))), (2, .int v2)] []) (fun rec52 hrec52 X v2 hr => ?_) 1000
  unfold lb_X11_forgets_52 at hr
  refine j_iload_n K dX11_forgets_52 1 rfl ?_
  refine j_aload_n K dX11_forgets_53 0 rfl ?_
  refine j_get K (v := .int (X (0) 2)) fl_X11_118 rfl (Nat.le_of_ble_eq_true rfl) (by decide) rfl dX11_forgets_54 ?_
  refine j_icmp_ge K dX11_forgets_57 (tgt := 94) (by decide) hr (fun hr => ?_) (fun hr => ?_)
  · exact j_return K dX11_forgets_94 rfl F hr rfl
  · refine j_aload_n K dX11_forgets_60 0 rfl ?_
    refine j_get K (v := .ref (jad κ (32))) fl_X11_112 rfl (Nat.le_of_ble_eq_true rfl) (by decide) rfl dX11_forgets_61 ?_
    refine j_iload_n K dX11_forgets_64 1 rfl ?_
    refine j_baload K (z := 60) rfl (Nat.le_of_ble_eq_true rfl) dX11_forgets_65 hr (fun hr => ?_)
    refine j_if_eq K dX11_forgets_66 (tgt := 88) (by decide) hr (fun hr => ?_) (fun hr => ?_)
    · exact j_sub [0, 1] rfl (jb_X11_forgets_88 K _ _ F rec52 hrec52 hr)
    · refine j_aload_n K dX11_forgets_69 0 rfl ?_
      refine j_get K (v := .ref (jad κ (19))) fl_X11_66 rfl (Nat.le_of_ble_eq_true rfl) (by decide) rfl dX11_forgets_70 ?_
      refine j_iload_n K dX11_forgets_73 1 rfl ?_
      refine j_iconst K dX11_forgets_74 (v := 0) rfl ?_
      refine j_bastoreV K (z := 60) rfl (Nat.le_of_ble_eq_true rfl) dX11_forgets_75 hr (fun X3 hr => ?_)
      refine j_aload_n K dX11_forgets_76 0 rfl ?_
      refine j_get K (v := .ref (jad κ (31))) fl_X11_109 rfl (Nat.le_of_ble_eq_true rfl) (by decide) rfl dX11_forgets_77 ?_
      refine j_iload_n K dX11_forgets_80 1 rfl ?_
      refine j_iconst K dX11_forgets_81 (v := 0) rfl ?_
      refine j_bastoreV K (z := 60) rfl (Nat.le_of_ble_eq_true rfl) dX11_forgets_82 hr (fun X4 hr => ?_)
      refine j_aload_n K dX11_forgets_83 0 rfl ?_
      refine j_iload_n K dX11_forgets_84 1 rfl ?_
      refine j_vU1 K (ci := 11) hr (fun v h => c_X11_kills X4 v2 h) ml_X11_189 ⟨_, rfl, rfl⟩ rfl (Nat.le_of_ble_eq_true rfl) (by decide) rfl (by decide) (by decide) (Nat.le_of_ble_eq_true rfl) dX11_forgets_85 (fun X5 h hr => ?_)
      exact j_sub [0, 1] rfl (jb_X11_forgets_88 K _ _ F rec52 hrec52 hr)
theorem jb_X11_forgets_43 {κ : JK} (K : jOk 3 cX11_forgets RX11 none 2 κ) (X : JX) (v1 : Int32) (v2 : Int32) (s0 : Int32) (s1 : Int32) {r : JX} (F : jFin LY false (oU r) κ) (rec2 : JX → Int32 → Option JX) (hrec2 : ∀ (X : JX) (v2 : Int32), rec2 X v2 = some r → J LY 3 κ X 2 [(0, .ref (jad κ (0))), (1, .int v1), (2, .int v2)] []) (hr : b_X11_forgets_43 rec2 X v1 v2 s0 s1 = some r) : J LY 3 κ X 43 [(0, .ref (jad κ (0))), (1, .int v1), (2, .int v2)] [.int s0, .int s1, .ref (jad κ (32))] := by
  unfold b_X11_forgets_43 at hr
  refine j_bastoreV K (z := 60) rfl (Nat.le_of_ble_eq_true rfl) dX11_forgets_43 hr (fun X6 hr => ?_)
  refine j_iincV K dX11_forgets_44 (v := 1) 2 rfl rfl (by decide) hr (fun t7 hr => ?_)
  refine j_goto K dX11_forgets_47 (tgt := 2) (by decide) ?_
  exact j_sub [1, 2, 0] rfl (hrec2 _ _ hr)
theorem jl_X11_forgets_2 {κ : JK} (K : jOk 3 cX11_forgets RX11 none 2 κ) (v1 : Int32) {r : JX} (F : jFin LY false (oU r) κ) : ∀ (X : JX) (v2 : Int32), l_X11_forgets_2 v1 X v2 = some r → J LY 3 κ X 2 [(0, .ref (jad κ (0))), (1, .int v1), (2, .int v2)] [] := by
  refine j_loop2 (P := fun X v2 => J LY 3 κ X 2 [(0, .ref (jad κ (0))), (1, .int v1), (2, .int v2)] []) (fun rec2 hrec2 X v2 hr => ?_) 1000
  unfold lb_X11_forgets_2 at hr
  refine j_iload_n K dX11_forgets_2 2 rfl ?_
  refine j_aload_n K dX11_forgets_3 0 rfl ?_
  refine j_get K (v := .int (X (0) 2)) fl_X11_118 rfl (Nat.le_of_ble_eq_true rfl) (by decide) rfl dX11_forgets_4 ?_
  refine j_icmp_ge K dX11_forgets_7 (tgt := 50) (by decide) hr (fun hr => ?_) (fun hr => ?_)
  · refine j_iconst K dX11_forgets_50 (v := 0) rfl ?_
    refine j_istore_n K dX11_forgets_51 (by decide) ?_
    exact j_sub [1, 0] rfl (jl_X11_forgets_52 K F _ _ hr)
  · refine j_aload_n K dX11_forgets_10 0 rfl ?_
    refine j_get K (v := .ref (jad κ (32))) fl_X11_112 rfl (Nat.le_of_ble_eq_true rfl) (by decide) rfl dX11_forgets_11 ?_
    refine j_iload_n K dX11_forgets_14 2 rfl ?_
    refine j_iload_n K dX11_forgets_15 2 rfl ?_
    refine j_iload_n K dX11_forgets_16 1 rfl ?_
    refine j_icmp_eq K dX11_forgets_17 (tgt := 38) (by decide) hr (fun hr => ?_) (fun hr => ?_)
    · refine j_iconst K dX11_forgets_38 (v := 1) rfl ?_
      refine j_goto K dX11_forgets_39 (tgt := 43) (by decide) ?_
      exact j_sub [0, 1, 2] rfl (jb_X11_forgets_43 K _ _ _ _ _ F rec2 hrec2 hr)
    · refine j_aload_n K dX11_forgets_20 0 rfl ?_
      refine j_iload_n K dX11_forgets_21 1 rfl ?_
      refine j_vI1 K (ci := 11) hr (fun v h => c_X11_rootAt X v1 h) ml_X11_163 ⟨_, rfl, rfl⟩ rfl (Nat.le_of_ble_eq_true rfl) (by decide) rfl (by decide) (by decide) (Nat.le_of_ble_eq_true rfl) dX11_forgets_22 (fun t1 h hr => ?_)
      refine j_iconst K dX11_forgets_25 (v := -1) rfl ?_
      refine j_icmp_ne K dX11_forgets_26 (tgt := 42) (by decide) hr (fun hr => ?_) (fun hr => ?_)
      · refine j_iconst K dX11_forgets_42 (v := 0) rfl ?_
        exact j_sub [0, 1, 2] rfl (jb_X11_forgets_43 K _ _ _ _ _ F rec2 hrec2 hr)
      · refine j_aload_n K dX11_forgets_29 0 rfl ?_
        refine j_iload_n K dX11_forgets_30 2 rfl ?_
        refine j_iload_n K dX11_forgets_31 1 rfl ?_
        refine j_vI2 K (ci := 11) hr (fun v h => c_X11_liesBelow X v2 v1 h) ml_X11_186 ⟨_, rfl, rfl⟩ rfl (Nat.le_of_ble_eq_true rfl) (by decide) rfl (by decide) (by decide) (Nat.le_of_ble_eq_true rfl) dX11_forgets_32 (fun t2 h hr => ?_)
        refine j_if_eq K dX11_forgets_35 (tgt := 42) (by decide) hr (fun hr => ?_) (fun hr => ?_)
        · refine j_iconst K dX11_forgets_42 (v := 0) rfl ?_
          exact j_sub [0, 1, 2] rfl (jb_X11_forgets_43 K _ _ _ _ _ F rec2 hrec2 hr)
        · refine j_iconst K dX11_forgets_38 (v := 1) rfl ?_
          refine j_goto K dX11_forgets_39 (tgt := 43) (by decide) ?_
          exact j_sub [0, 1, 2] rfl (jb_X11_forgets_43 K _ _ _ _ _ F rec2 hrec2 hr)
theorem jf_X11_forgets {κ : JK} (K : jOk 3 cX11_forgets RX11 none 2 κ) (X : JX) (v1 : Int32) {r : JX} (F : jFin LY false (oU r) κ) (hr : f_X11_forgets X v1 = some r) : J LY 3 κ X 0 [(0, .ref (jad κ (0))), (1, .int v1)] [] := by
  unfold f_X11_forgets at hr
  refine j_iconst K dX11_forgets_0 (v := 0) rfl ?_
  refine j_istore_n K dX11_forgets_1 (by decide) ?_
  exact j_sub [1, 2, 0] rfl (jl_X11_forgets_2 K _ F _ _ hr)
theorem c_X11_forgets (X : JX) (v1 : Int32) {r : JX} (hr : f_X11_forgets X v1 = some r) : Cal LY yX11_forgets cX11_forgets 3 none 2 (fun ad => [.ref (ad (0)), .int v1]) X (fun ad => oU r) :=
  Cal.of (own := RX11) (fun ad => [(0, .ref (ad (0))), (1, .int v1)]) (by decide) rfl (fun _ => Nat.le_of_ble_eq_true rfl) (fun _ => rfl) (fun κ K F => jf_X11_forgets K X v1 F hr)
theorem jb_X11_adds_72 {κ : JK} (K : jOk 5 cX11_adds RX11 none 0 κ) (X : JX) (v2 : Int32) (v3 : Int32) {r : JX} (F : jFin LY false (oU r) κ) (hr : b_X11_adds_72 X v2 v3 = some r) : J LY 5 κ X 72 [(0, .ref (jad κ (0))), (2, .int v2), (3, .int v3)] [] := by
  unfold b_X11_adds_72 at hr
  refine j_aload_n K dX11_adds_72 0 rfl ?_
  refine j_get K (v := .ref (jad κ (26))) fl_X11_94 rfl (Nat.le_of_ble_eq_true rfl) (by decide) rfl dX11_adds_73 ?_
  refine j_iload_n K dX11_adds_76 2 rfl ?_
  refine j_iload_n K dX11_adds_77 1 rfl ?_
  refine j_iastoreV K (z := 60) rfl (Nat.le_of_ble_eq_true rfl) dX11_adds_78 hr (fun X6 hr => ?_)
  exact j_return K dX11_adds_79 rfl F hr rfl
theorem jb_X11_adds_31 {κ : JK} (K : jOk 5 cX11_adds RX11 none 0 κ) (X : JX) (v1 : Int32) (v2 : Int32) (v4 : Int32) (s0 : Int32) {r : JX} (F : jFin LY false (oU r) κ) (rec5 : Int32 → Int32 → Option JX) (hrec5 : ∀ (v3 : Int32) (v4 : Int32), rec5 v3 v4 = some r → J LY 5 κ X 5 [(0, .ref (jad κ (0))), (1, .int v1), (2, .int v2), (3, .int v3), (4, .int v4)] []) (hr : b_X11_adds_31 rec5 X v1 v2 v4 s0 = some r) : J LY 5 κ X 31 [(0, .ref (jad κ (0))), (1, .int v1), (2, .int v2), (4, .int v4)] [.int s0] := by
  unfold b_X11_adds_31 at hr
  refine j_istore_n K dX11_adds_31 (by decide) ?_
  refine j_iincV K dX11_adds_32 (v := 1) 4 rfl rfl (by decide) hr (fun t7 hr => ?_)
  refine j_goto K dX11_adds_35 (tgt := 5) (by decide) ?_
  exact j_sub [2, 3, 4, 1, 0] rfl (hrec5 _ _ hr)
theorem jl_X11_adds_5 {κ : JK} (K : jOk 5 cX11_adds RX11 none 0 κ) (X : JX) (v1 : Int32) (v2 : Int32) {r : JX} (F : jFin LY false (oU r) κ) : ∀ (v3 : Int32) (v4 : Int32), l_X11_adds_5 X v1 v2 v3 v4 = some r → J LY 5 κ X 5 [(0, .ref (jad κ (0))), (1, .int v1), (2, .int v2), (3, .int v3), (4, .int v4)] [] := by
  refine j_loop2 (P := fun v3 v4 => J LY 5 κ X 5 [(0, .ref (jad κ (0))), (1, .int v1), (2, .int v2), (3, .int v3), (4, .int v4)] []) (fun rec5 hrec5 v3 v4 hr => ?_) 1000
  unfold lb_X11_adds_5 at hr
  refine j_iload K dX11_adds_5 4 rfl ?_
  refine j_aload_n K dX11_adds_7 0 rfl ?_
  refine j_get K (v := .int (X (0) 30)) fl_X11_183 rfl (Nat.le_of_ble_eq_true rfl) (by decide) rfl dX11_adds_8 ?_
  refine j_icmp_ge K dX11_adds_11 (tgt := 38) (by decide) hr (fun hr => ?_) (fun hr => ?_)
  · refine j_iload_n K dX11_adds_38 3 rfl ?_
    refine j_iconst K dX11_adds_39 (v := -1) rfl ?_
    refine j_icmp_ne K dX11_adds_40 (tgt := 72) (by decide) hr (fun hr => ?_) (fun hr => ?_)
    · exact j_sub [0, 2, 3] rfl (jb_X11_adds_72 K _ _ _ F hr)
    · refine j_aload_n K dX11_adds_43 0 rfl ?_
      refine j_get K (v := .int (X (0) 30)) fl_X11_183 rfl (Nat.le_of_ble_eq_true rfl) (by decide) rfl dX11_adds_44 ?_
      refine j_istoreV_n K dX11_adds_47 (by decide) hr (fun t2 hr => ?_)
      refine j_aload_n K dX11_adds_48 1 rfl ?_
      refine j_get K (v := .ref (jad κ (25))) fl_X11_91 rfl (Nat.le_of_ble_eq_true rfl) (by decide) rfl dX11_adds_49 ?_
      refine j_iload_n K dX11_adds_52 0 rfl ?_
      refine j_iload_n K dX11_adds_53 2 rfl ?_
      refine j_iastoreV K (z := 60) rfl (Nat.le_of_ble_eq_true rfl) dX11_adds_54 hr (fun X3 hr => ?_)
      refine j_aload_n K dX11_adds_55 1 rfl ?_
      refine j_get K (v := .ref (jad κ (27))) fl_X11_97 rfl (Nat.le_of_ble_eq_true rfl) (by decide) rfl dX11_adds_56 ?_
      refine j_iload_n K dX11_adds_59 0 rfl ?_
      refine j_iconst K dX11_adds_60 (v := 0) rfl ?_
      refine j_bastoreV K (z := 60) rfl (Nat.le_of_ble_eq_true rfl) dX11_adds_61 hr (fun X4 hr => ?_)
      refine j_aload_n K dX11_adds_62 1 rfl ?_
      refine j_dup K dX11_adds_63 rfl ?_
      refine j_get K (v := .int (X4 (0) 30)) fl_X11_183 rfl (Nat.le_of_ble_eq_true rfl) (by decide) rfl dX11_adds_64 ?_
      refine j_iconst K dX11_adds_67 (v := 1) rfl ?_
      refine j_iadd K dX11_adds_68 ?_
      refine j_putiV K fp_X11_183 rfl (Nat.le_of_ble_eq_true rfl) (by decide) (fun _ => Nat.le_of_ble_eq_true rfl) (fun _ => rfl) dX11_adds_69 hr (fun X5 hr => ?_)
      exact j_sub [1, 3, 0] rfl (jb_X11_adds_72 K _ _ _ F hr)
  · refine j_aload_n K dX11_adds_14 0 rfl ?_
    refine j_get K (v := .ref (jad κ (25))) fl_X11_91 rfl (Nat.le_of_ble_eq_true rfl) (by decide) rfl dX11_adds_15 ?_
    refine j_iload K dX11_adds_18 4 rfl ?_
    refine j_iaload K (z := 60) rfl (Nat.le_of_ble_eq_true rfl) dX11_adds_20 hr (fun hr => ?_)
    refine j_iload_n K dX11_adds_21 1 rfl ?_
    refine j_icmp_ne K dX11_adds_22 (tgt := 30) (by decide) hr (fun hr => ?_) (fun hr => ?_)
    · refine j_iload_n K dX11_adds_30 3 rfl ?_
      exact j_sub [0, 1, 2, 4] rfl (jb_X11_adds_31 K _ _ _ _ _ F rec5 hrec5 hr)
    · refine j_iload K dX11_adds_25 4 rfl ?_
      refine j_goto K dX11_adds_27 (tgt := 31) (by decide) ?_
      exact j_sub [0, 1, 2, 4] rfl (jb_X11_adds_31 K _ _ _ _ _ F rec5 hrec5 hr)
theorem jf_X11_adds {κ : JK} (K : jOk 5 cX11_adds RX11 none 0 κ) (X : JX) (v1 : Int32) (v2 : Int32) {r : JX} (F : jFin LY false (oU r) κ) (hr : f_X11_adds X v1 v2 = some r) : J LY 5 κ X 0 [(0, .ref (jad κ (0))), (1, .int v1), (2, .int v2)] [] := by
  unfold f_X11_adds at hr
  refine j_iconst K dX11_adds_0 (v := -1) rfl ?_
  refine j_istoreV_n K dX11_adds_1 (by decide) hr (fun t1 hr => ?_)
  refine j_iconst K dX11_adds_2 (v := 0) rfl ?_
  refine j_istore K dX11_adds_3 (by decide) ?_
  exact j_sub [2, 3, 4, 1, 0] rfl (jl_X11_adds_5 K _ _ _ F _ _ hr)
theorem c_X11_adds (X : JX) (v1 : Int32) (v2 : Int32) {r : JX} (hr : f_X11_adds X v1 v2 = some r) : Cal LY yX11_adds cX11_adds 5 none 0 (fun ad => [.ref (ad (0)), .int v1, .int v2]) X (fun ad => oU r) :=
  Cal.of (own := RX11) (fun ad => [(0, .ref (ad (0))), (1, .int v1), (2, .int v2)]) (by decide) rfl (fun _ => Nat.le_of_ble_eq_true rfl) (fun _ => rfl) (fun κ K F => jf_X11_adds K X v1 v2 F hr)
theorem jf_X11_places {κ : JK} (K : jOk 2 cX11_places RX11 none 0 κ) (X : JX) (v1 : Int32) {r : JX} (F : jFin LY false (oU r) κ) (hr : f_X11_places X v1 = some r) : J LY 2 κ X 0 [(0, .ref (jad κ (0))), (1, .int v1)] [] := by
  unfold f_X11_places at hr
  refine j_aload_n K dX11_places_0 0 rfl ?_
  refine j_get K (v := .ref (jad κ (19))) fl_X11_66 rfl (Nat.le_of_ble_eq_true rfl) (by decide) rfl dX11_places_1 ?_
  refine j_iload_n K dX11_places_4 1 rfl ?_
  refine j_iconst K dX11_places_5 (v := 1) rfl ?_
  refine j_bastoreV K (z := 60) rfl (Nat.le_of_ble_eq_true rfl) dX11_places_6 hr (fun X1 hr => ?_)
  refine j_aload_n K dX11_places_7 0 rfl ?_
  refine j_get K (v := .ref (jad κ (20))) fl_X11_69 rfl (Nat.le_of_ble_eq_true rfl) (by decide) rfl dX11_places_8 ?_
  refine j_iload_n K dX11_places_11 1 rfl ?_
  refine j_aload_n K dX11_places_12 0 rfl ?_
  refine j_get K (v := .ref (jad κ (3))) fl_X11_16 rfl (Nat.le_of_ble_eq_true rfl) (by decide) rfl dX11_places_13 ?_
  refine j_iload_n K dX11_places_16 1 rfl ?_
  refine j_iaload K (z := 60) rfl (Nat.le_of_ble_eq_true rfl) dX11_places_17 hr (fun hr => ?_)
  refine j_iastoreV K (z := 60) rfl (Nat.le_of_ble_eq_true rfl) dX11_places_18 hr (fun X2 hr => ?_)
  refine j_aload_n K dX11_places_19 0 rfl ?_
  refine j_get K (v := .ref (jad κ (21))) fl_X11_72 rfl (Nat.le_of_ble_eq_true rfl) (by decide) rfl dX11_places_20 ?_
  refine j_iload_n K dX11_places_23 1 rfl ?_
  refine j_aload_n K dX11_places_24 0 rfl ?_
  refine j_get K (v := .ref (jad κ (4))) fl_X11_20 rfl (Nat.le_of_ble_eq_true rfl) (by decide) rfl dX11_places_25 ?_
  refine j_iload_n K dX11_places_28 1 rfl ?_
  refine j_caload K (z := 60) rfl (Nat.le_of_ble_eq_true rfl) dX11_places_29 hr (fun hr => ?_)
  refine j_castoreV K (z := 60) rfl (Nat.le_of_ble_eq_true rfl) dX11_places_30 hr (fun X3 hr => ?_)
  exact j_return K dX11_places_31 rfl F hr rfl
theorem c_X11_places (X : JX) (v1 : Int32) {r : JX} (hr : f_X11_places X v1 = some r) : Cal LY yX11_places cX11_places 2 none 0 (fun ad => [.ref (ad (0)), .int v1]) X (fun ad => oU r) :=
  Cal.of (own := RX11) (fun ad => [(0, .ref (ad (0))), (1, .int v1)]) (by decide) rfl (fun _ => Nat.le_of_ble_eq_true rfl) (fun _ => rfl) (fun κ K F => jf_X11_places K X v1 F hr)
theorem jb_X11_takesWords_199 {κ : JK} (K : jOk 7 cX11_takesWords RX11 none 0 κ) (X : JX) (v1 : Int32) (v3 : Int32) (v5 : Int32) (s0 : Int32) (s1 : Int32) {r : JX} (F : jFin LY false (oU r) κ) (rec103 : JX → Int32 → Int32 → Option JX) (hrec103 : ∀ (X : JX) (v4 : Int32) (v5 : Int32), rec103 X v4 v5 = some r → J LY 7 κ X 103 [(0, .ref (jad κ (0))), (1, .int v1), (3, .int v3), (4, .int v4), (5, .int v5)] []) (hr : b_X11_takesWords_199 rec103 X v1 v3 v5 s0 s1 = some r) : J LY 7 κ X 199 [(0, .ref (jad κ (0))), (1, .int v1), (3, .int v3), (5, .int v5)] [.int s0, .int s1] := by
  unfold b_X11_takesWords_199 at hr
  refine j_iadd K dX11_takesWords_199 ?_
  refine j_istoreV K dX11_takesWords_200 (by decide) hr (fun t10 hr => ?_)
  refine j_iincV K dX11_takesWords_202 (v := 1) 4 rfl rfl (by decide) hr (fun t11 hr => ?_)
  refine j_goto K dX11_takesWords_205 (tgt := 103) (by decide) ?_
  exact j_sub [2, 3, 4, 1, 0] rfl (hrec103 _ _ _ hr)
theorem jb_X11_takesWords_169 {κ : JK} (K : jOk 7 cX11_takesWords RX11 none 0 κ) (X : JX) (v1 : Int32) (v3 : Int32) (v4 : Int32) (v5 : Int32) (v6 : Int32) {r : JX} (F : jFin LY false (oU r) κ) (rec103 : JX → Int32 → Int32 → Option JX) (hrec103 : ∀ (X : JX) (v4 : Int32) (v5 : Int32), rec103 X v4 v5 = some r → J LY 7 κ X 103 [(0, .ref (jad κ (0))), (1, .int v1), (3, .int v3), (4, .int v4), (5, .int v5)] []) (hr : b_X11_takesWords_169 rec103 X v1 v3 v4 v5 v6 = some r) : J LY 7 κ X 169 [(0, .ref (jad κ (0))), (1, .int v1), (3, .int v3), (4, .int v4), (5, .int v5), (6, .int v6)] [] := by
  unfold b_X11_takesWords_169 at hr
  refine j_iload K dX11_takesWords_169 3 rfl ?_
  refine j_iload K dX11_takesWords_171 5 rfl ?_
  refine j_bipush K dX11_takesWords_173 (v := -2) rfl ?_
  refine j_icmp_ne K dX11_takesWords_175 (tgt := 182) (by decide) hr (fun hr => ?_) (fun hr => ?_)
  · refine j_iload K dX11_takesWords_182 5 rfl ?_
    refine j_bipush K dX11_takesWords_184 (v := -3) rfl ?_
    refine j_icmp_ne K dX11_takesWords_186 (tgt := 198) (by decide) hr (fun hr => ?_) (fun hr => ?_)
    · refine j_iconst K dX11_takesWords_198 (v := 0) rfl ?_
      exact j_sub [0, 1, 2, 4] rfl (jb_X11_takesWords_199 K _ _ _ _ _ _ F rec103 hrec103 hr)
    · refine j_iload K dX11_takesWords_189 3 rfl ?_
      refine j_if_le K dX11_takesWords_191 (tgt := 198) (by decide) hr (fun hr => ?_) (fun hr => ?_)
      · refine j_iconst K dX11_takesWords_198 (v := 0) rfl ?_
        exact j_sub [0, 1, 2, 4] rfl (jb_X11_takesWords_199 K _ _ _ _ _ _ F rec103 hrec103 hr)
      · refine j_iconst K dX11_takesWords_194 (v := -1) rfl ?_
        refine j_goto K dX11_takesWords_195 (tgt := 199) (by decide) ?_
        exact j_sub [0, 1, 2, 4] rfl (jb_X11_takesWords_199 K _ _ _ _ _ _ F rec103 hrec103 hr)
  · refine j_iconst K dX11_takesWords_178 (v := 1) rfl ?_
    refine j_goto K dX11_takesWords_179 (tgt := 199) (by decide) ?_
    exact j_sub [0, 1, 2, 4] rfl (jb_X11_takesWords_199 K _ _ _ _ _ _ F rec103 hrec103 hr)
theorem jl_X11_takesWords_103 {κ : JK} (K : jOk 7 cX11_takesWords RX11 none 0 κ) (v1 : Int32) (v3 : Int32) {r : JX} (F : jFin LY false (oU r) κ) : ∀ (X : JX) (v4 : Int32) (v5 : Int32), l_X11_takesWords_103 v1 v3 X v4 v5 = some r → J LY 7 κ X 103 [(0, .ref (jad κ (0))), (1, .int v1), (3, .int v3), (4, .int v4), (5, .int v5)] [] := by
  refine j_loop3 (P := fun X v4 v5 => J LY 7 κ X 103 [(0, .ref (jad κ (0))), (1, .int v1), (3, .int v3), (4, .int v4), (5, .int v5)] []) (fun rec103 hrec103 X v4 v5 hr => ?_) 1000
  unfold lb_X11_takesWords_103 at hr
  refine j_iload K dX11_takesWords_103 4 rfl ?_
  refine j_iload_n K dX11_takesWords_105 2 rfl ?_
  refine j_icmp_ge K dX11_takesWords_106 (tgt := 208) (by decide) hr (fun hr => ?_) (fun hr => ?_)
  · exact j_return K dX11_takesWords_208 rfl F hr rfl
  · refine j_aload_n K dX11_takesWords_109 0 rfl ?_
    refine j_get K (v := .ref (jad κ (7))) fl_X11_30 rfl (Nat.le_of_ble_eq_true rfl) (by decide) rfl dX11_takesWords_110 ?_
    refine j_bipush K dX11_takesWords_113 (v := 20) rfl ?_
    refine j_iload_n K dX11_takesWords_115 1 rfl ?_
    refine j_imul K dX11_takesWords_116 ?_
    refine j_iload K dX11_takesWords_117 4 rfl ?_
    refine j_iadd K dX11_takesWords_119 ?_
    refine j_iaload K (z := 1200) rfl (Nat.le_of_ble_eq_true rfl) dX11_takesWords_120 hr (fun hr => ?_)
    refine j_istoreV K dX11_takesWords_121 (by decide) hr (fun t5 hr => ?_)
    refine j_iload K dX11_takesWords_123 0 rfl ?_
    refine j_if_lt K dX11_takesWords_125 (tgt := 169) (by decide) hr (fun hr => ?_) (fun hr => ?_)
    · exact j_sub [1, 2, 3, 4, 5, 0] rfl (jb_X11_takesWords_169 K _ _ _ _ _ _ F rec103 hrec103 hr)
    · refine j_iload K dX11_takesWords_128 4 rfl ?_
      refine j_aload_n K dX11_takesWords_130 1 rfl ?_
      refine j_get K (v := .int (X (0) 28)) fl_X11_84 rfl (Nat.le_of_ble_eq_true rfl) (by decide) rfl dX11_takesWords_131 ?_
      refine j_icmp_gt K dX11_takesWords_134 (tgt := 169) (by decide) hr (fun hr => ?_) (fun hr => ?_)
      · exact j_sub [1, 2, 3, 4, 5, 0] rfl (jb_X11_takesWords_169 K _ _ _ _ _ _ F rec103 hrec103 hr)
      · refine j_aload_n K dX11_takesWords_137 1 rfl ?_
        refine j_get K (v := .int (X (0) 44)) fl_X11_195 rfl (Nat.le_of_ble_eq_true rfl) (by decide) rfl dX11_takesWords_138 ?_
        refine j_aload_n K dX11_takesWords_141 1 rfl ?_
        refine j_get K (v := .int (X (0) 29)) fl_X11_88 rfl (Nat.le_of_ble_eq_true rfl) (by decide) rfl dX11_takesWords_142 ?_
        refine j_icmp_ge K dX11_takesWords_145 (tgt := 169) (by decide) hr (fun hr => ?_) (fun hr => ?_)
        · exact j_sub [1, 2, 3, 4, 5, 0] rfl (jb_X11_takesWords_169 K _ _ _ _ _ _ F rec103 hrec103 hr)
        · refine j_aload_n K dX11_takesWords_148 1 rfl ?_
          refine j_get K (v := .ref (jad κ (33))) fl_X11_115 rfl (Nat.le_of_ble_eq_true rfl) (by decide) rfl dX11_takesWords_149 ?_
          refine j_aload_n K dX11_takesWords_152 1 rfl ?_
          refine j_get K (v := .int (X (0) 44)) fl_X11_195 rfl (Nat.le_of_ble_eq_true rfl) (by decide) rfl dX11_takesWords_153 ?_
          refine j_iload K dX11_takesWords_156 0 rfl ?_
          refine j_iastoreV K (z := 20) rfl (Nat.le_of_ble_eq_true rfl) dX11_takesWords_158 hr (fun X6 hr => ?_)
          refine j_aload_n K dX11_takesWords_159 1 rfl ?_
          refine j_dup K dX11_takesWords_160 rfl ?_
          refine j_get K (v := .int (X6 (0) 44)) fl_X11_195 rfl (Nat.le_of_ble_eq_true rfl) (by decide) rfl dX11_takesWords_161 ?_
          refine j_iconst K dX11_takesWords_164 (v := 1) rfl ?_
          refine j_iadd K dX11_takesWords_165 ?_
          refine j_putiV K fp_X11_195 rfl (Nat.le_of_ble_eq_true rfl) (by decide) (fun _ => Nat.le_of_ble_eq_true rfl) (fun _ => rfl) dX11_takesWords_166 hr (fun X7 hr => ?_)
          exact j_sub [1, 2, 3, 4, 5, 0] rfl (jb_X11_takesWords_169 K _ _ _ _ _ _ F rec103 hrec103 hr)
theorem jb_X11_takesWords_84 {κ : JK} (K : jOk 7 cX11_takesWords RX11 none 0 κ) (X : JX) (v1 : Int32) (v3 : Int32) (v4 : Int32) (s0 : Int32) (s1 : Int32) {r : JX} (F : jFin LY false (oU r) κ) (rec19 : Int32 → Int32 → Int32 → Option JX) (hrec19 : ∀ (v2 : Int32) (v3 : Int32) (v4 : Int32), rec19 v2 v3 v4 = some r → J LY 7 κ X 19 [(0, .ref (jad κ (0))), (1, .int v1), (2, .int v2), (3, .int v3), (4, .int v4)] []) (hr : b_X11_takesWords_84 rec19 X v1 v3 v4 s0 s1 = some r) : J LY 7 κ X 84 [(0, .ref (jad κ (0))), (1, .int v1), (3, .int v3), (4, .int v4)] [.int s0, .int s1] := by
  unfold b_X11_takesWords_84 at hr
  refine j_iadd K dX11_takesWords_84 ?_
  refine j_istoreV_n K dX11_takesWords_85 (by decide) hr (fun t8 hr => ?_)
  refine j_iincV K dX11_takesWords_86 (v := -1) 4 rfl rfl (by decide) hr (fun t9 hr => ?_)
  refine j_goto K dX11_takesWords_89 (tgt := 19) (by decide) ?_
  exact j_sub [2, 3, 1, 4, 0] rfl (hrec19 _ _ _ hr)
theorem jb_X11_takesWords_55 {κ : JK} (K : jOk 7 cX11_takesWords RX11 none 0 κ) (X : JX) (v1 : Int32) (v2 : Int32) (v4 : Int32) (v5 : Int32) (s0 : Int32) {r : JX} (F : jFin LY false (oU r) κ) (rec19 : Int32 → Int32 → Int32 → Option JX) (hrec19 : ∀ (v2 : Int32) (v3 : Int32) (v4 : Int32), rec19 v2 v3 v4 = some r → J LY 7 κ X 19 [(0, .ref (jad κ (0))), (1, .int v1), (2, .int v2), (3, .int v3), (4, .int v4)] []) (hr : b_X11_takesWords_55 rec19 X v1 v2 v4 v5 s0 = some r) : J LY 7 κ X 55 [(0, .ref (jad κ (0))), (1, .int v1), (2, .int v2), (4, .int v4), (5, .int v5)] [.int s0] := by
  unfold b_X11_takesWords_55 at hr
  refine j_istore_n K dX11_takesWords_55 (by decide) ?_
  refine j_iload_n K dX11_takesWords_56 3 rfl ?_
  refine j_iload K dX11_takesWords_57 5 rfl ?_
  refine j_bipush K dX11_takesWords_59 (v := -3) rfl ?_
  refine j_icmp_ne K dX11_takesWords_61 (tgt := 68) (by decide) hr (fun hr => ?_) (fun hr => ?_)
  · refine j_iload K dX11_takesWords_68 5 rfl ?_
    refine j_bipush K dX11_takesWords_70 (v := -2) rfl ?_
    refine j_icmp_ne K dX11_takesWords_72 (tgt := 83) (by decide) hr (fun hr => ?_) (fun hr => ?_)
    · refine j_iconst K dX11_takesWords_83 (v := 0) rfl ?_
      exact j_sub [1, 2, 0, 4] rfl (jb_X11_takesWords_84 K _ _ _ _ _ _ F rec19 hrec19 hr)
    · refine j_iload_n K dX11_takesWords_75 3 rfl ?_
      refine j_if_le K dX11_takesWords_76 (tgt := 83) (by decide) hr (fun hr => ?_) (fun hr => ?_)
      · refine j_iconst K dX11_takesWords_83 (v := 0) rfl ?_
        exact j_sub [1, 2, 0, 4] rfl (jb_X11_takesWords_84 K _ _ _ _ _ _ F rec19 hrec19 hr)
      · refine j_iconst K dX11_takesWords_79 (v := -1) rfl ?_
        refine j_goto K dX11_takesWords_80 (tgt := 84) (by decide) ?_
        exact j_sub [1, 2, 0, 4] rfl (jb_X11_takesWords_84 K _ _ _ _ _ _ F rec19 hrec19 hr)
  · refine j_iconst K dX11_takesWords_64 (v := 1) rfl ?_
    refine j_goto K dX11_takesWords_65 (tgt := 84) (by decide) ?_
    exact j_sub [1, 2, 0, 4] rfl (jb_X11_takesWords_84 K _ _ _ _ _ _ F rec19 hrec19 hr)
theorem jl_X11_takesWords_19 {κ : JK} (K : jOk 7 cX11_takesWords RX11 none 0 κ) (X : JX) (v1 : Int32) {r : JX} (F : jFin LY false (oU r) κ) : ∀ (v2 : Int32) (v3 : Int32) (v4 : Int32), l_X11_takesWords_19 X v1 v2 v3 v4 = some r → J LY 7 κ X 19 [(0, .ref (jad κ (0))), (1, .int v1), (2, .int v2), (3, .int v3), (4, .int v4)] [] := by
  refine j_loop3 (P := fun v2 v3 v4 => J LY 7 κ X 19 [(0, .ref (jad κ (0))), (1, .int v1), (2, .int v2), (3, .int v3), (4, .int v4)] []) (fun rec19 hrec19 v2 v3 v4 hr => ?_) 1000
  unfold lb_X11_takesWords_19 at hr
  refine j_iload K dX11_takesWords_19 4 rfl ?_
  refine j_if_lt K dX11_takesWords_21 (tgt := 92) (by decide) hr (fun hr => ?_) (fun hr => ?_)
  · refine j_aload_n K dX11_takesWords_92 0 rfl ?_
    refine j_iconst K dX11_takesWords_93 (v := 0) rfl ?_
    refine j_putiV K fp_X11_195 rfl (Nat.le_of_ble_eq_true rfl) (by decide) (fun _ => Nat.le_of_ble_eq_true rfl) (fun _ => rfl) dX11_takesWords_94 hr (fun X3 hr => ?_)
    refine j_iconst K dX11_takesWords_97 (v := 0) rfl ?_
    refine j_istore K dX11_takesWords_98 (by decide) ?_
    refine j_iconst K dX11_takesWords_100 (v := 0) rfl ?_
    refine j_istore K dX11_takesWords_101 (by decide) ?_
    exact j_sub [2, 3, 5, 1, 0] rfl (jl_X11_takesWords_103 K _ _ F _ _ _ hr)
  · refine j_aload_n K dX11_takesWords_24 0 rfl ?_
    refine j_get K (v := .ref (jad κ (7))) fl_X11_30 rfl (Nat.le_of_ble_eq_true rfl) (by decide) rfl dX11_takesWords_25 ?_
    refine j_bipush K dX11_takesWords_28 (v := 20) rfl ?_
    refine j_iload_n K dX11_takesWords_30 1 rfl ?_
    refine j_imul K dX11_takesWords_31 ?_
    refine j_iload K dX11_takesWords_32 4 rfl ?_
    refine j_iadd K dX11_takesWords_34 ?_
    refine j_iaload K (z := 1200) rfl (Nat.le_of_ble_eq_true rfl) dX11_takesWords_35 hr (fun hr => ?_)
    refine j_istoreV K dX11_takesWords_36 (by decide) hr (fun t4 hr => ?_)
    refine j_iload K dX11_takesWords_38 0 rfl ?_
    refine j_bipush K dX11_takesWords_40 (v := -2) rfl ?_
    refine j_icmp_ne K dX11_takesWords_42 (tgt := 54) (by decide) hr (fun hr => ?_) (fun hr => ?_)
    · refine j_iload_n K dX11_takesWords_54 4 rfl ?_
      exact j_sub [1, 2, 3, 5, 0] rfl (jb_X11_takesWords_55 K _ _ _ _ _ _ F rec19 hrec19 hr)
    · refine j_iload_n K dX11_takesWords_45 3 rfl ?_
      refine j_if_ne K dX11_takesWords_46 (tgt := 54) (by decide) hr (fun hr => ?_) (fun hr => ?_)
      · refine j_iload_n K dX11_takesWords_54 4 rfl ?_
        exact j_sub [1, 2, 3, 5, 0] rfl (jb_X11_takesWords_55 K _ _ _ _ _ _ F rec19 hrec19 hr)
      · refine j_iload K dX11_takesWords_49 5 rfl ?_
        refine j_goto K dX11_takesWords_51 (tgt := 55) (by decide) ?_
        exact j_sub [1, 2, 3, 5, 0] rfl (jb_X11_takesWords_55 K _ _ _ _ _ _ F rec19 hrec19 hr)
theorem jf_X11_takesWords {κ : JK} (K : jOk 7 cX11_takesWords RX11 none 0 κ) (X : JX) (v1 : Int32) {r : JX} (F : jFin LY false (oU r) κ) (hr : f_X11_takesWords X v1 = some r) : J LY 7 κ X 0 [(0, .ref (jad κ (0))), (1, .int v1)] [] := by
  unfold f_X11_takesWords at hr
  refine j_iconst K dX11_takesWords_0 (v := 0) rfl ?_
  refine j_istore_n K dX11_takesWords_1 (by decide) ?_
  refine j_aload_n K dX11_takesWords_2 1 rfl ?_
  refine j_get K (v := .ref (jad κ (6))) fl_X11_27 rfl (Nat.le_of_ble_eq_true rfl) (by decide) rfl dX11_takesWords_3 ?_
  refine j_iload_n K dX11_takesWords_6 2 rfl ?_
  refine j_iaload K (z := 60) rfl (Nat.le_of_ble_eq_true rfl) dX11_takesWords_7 hr (fun hr => ?_)
  refine j_istoreV_n K dX11_takesWords_8 (by decide) hr (fun t1 hr => ?_)
  refine j_aload_n K dX11_takesWords_9 2 rfl ?_
  refine j_get K (v := .ref (jad κ (6))) fl_X11_27 rfl (Nat.le_of_ble_eq_true rfl) (by decide) rfl dX11_takesWords_10 ?_
  refine j_iload_n K dX11_takesWords_13 3 rfl ?_
  refine j_iaload K (z := 60) rfl (Nat.le_of_ble_eq_true rfl) dX11_takesWords_14 hr (fun hr => ?_)
  refine j_iconst K dX11_takesWords_15 (v := 1) rfl ?_
  refine j_isub K dX11_takesWords_16 ?_
  refine j_istoreV K dX11_takesWords_17 (by decide) hr (fun t2 hr => ?_)
  exact j_sub [3, 4, 2, 1, 0] rfl (jl_X11_takesWords_19 K _ _ F _ _ _ hr)
theorem c_X11_takesWords (X : JX) (v1 : Int32) {r : JX} (hr : f_X11_takesWords X v1 = some r) : Cal LY yX11_takesWords cX11_takesWords 7 none 0 (fun ad => [.ref (ad (0)), .int v1]) X (fun ad => oU r) :=
  Cal.of (own := RX11) (fun ad => [(0, .ref (ad (0))), (1, .int v1)]) (by decide) rfl (fun _ => Nat.le_of_ble_eq_true rfl) (fun _ => rfl) (fun κ K F => jf_X11_takesWords K X v1 F hr)
theorem jl_X11_reads_29 {κ : JK} (K : jOk 3 cX11_reads RX11 none 1 κ) (v1 : Int32) {r : JX} (F : jFin LY false (oU r) κ) : ∀ (X : JX) (v2 : Int32), l_X11_reads_29 v1 X v2 = some r → J LY 3 κ X 29 [(0, .ref (jad κ (0))), (1, .int v1), (2, .int v2)] [] := by
  refine j_loop2 (P := fun X v2 => J LY 3 κ X 29 [(0, .ref (jad κ (0))), (1, .int v1), (2, .int v2)] []) (fun rec29 hrec29 X v2 hr => ?_) 1000
  unfold lb_X11_reads_29 at hr
  refine j_iload_n K dX11_reads_29 2 rfl ?_
  refine j_aload_n K dX11_reads_30 0 rfl ?_
  refine j_get K (v := .int (X (0) 44)) fl_X11_195 rfl (Nat.le_of_ble_eq_true rfl) (by decide) rfl dX11_reads_31 ?_
  refine j_icmp_ge K dX11_reads_34 (tgt := 60) (by decide) hr (fun hr => ?_) (fun hr => ?_)
  · refine j_aload_n K dX11_reads_60 0 rfl ?_
    refine j_iload_n K dX11_reads_61 1 rfl ?_
    refine j_vU1 K (ci := 11) hr (fun v h => c_X11_kills X v1 h) ml_X11_189 ⟨_, rfl, rfl⟩ rfl (Nat.le_of_ble_eq_true rfl) (by decide) rfl (by decide) (by decide) (Nat.le_of_ble_eq_true rfl) dX11_reads_62 (fun X4 h hr => ?_)
    refine j_aload_n K dX11_reads_65 0 rfl ?_
    refine j_get K (v := .ref (jad κ (31))) fl_X11_109 rfl (Nat.le_of_ble_eq_true rfl) (by decide) rfl dX11_reads_66 ?_
    refine j_iload_n K dX11_reads_69 1 rfl ?_
    refine j_iconst K dX11_reads_70 (v := 1) rfl ?_
    refine j_bastoreV K (z := 60) rfl (Nat.le_of_ble_eq_true rfl) dX11_reads_71 hr (fun X5 hr => ?_)
    exact j_return K dX11_reads_72 rfl F hr rfl
  · refine j_aload_n K dX11_reads_37 0 rfl ?_
    refine j_get K (v := .ref (jad κ (24))) fl_X11_81 rfl (Nat.le_of_ble_eq_true rfl) (by decide) rfl dX11_reads_38 ?_
    refine j_bipush K dX11_reads_41 (v := 20) rfl ?_
    refine j_iload_n K dX11_reads_43 1 rfl ?_
    refine j_imul K dX11_reads_44 ?_
    refine j_iload_n K dX11_reads_45 2 rfl ?_
    refine j_iadd K dX11_reads_46 ?_
    refine j_aload_n K dX11_reads_47 0 rfl ?_
    refine j_get K (v := .ref (jad κ (33))) fl_X11_115 rfl (Nat.le_of_ble_eq_true rfl) (by decide) rfl dX11_reads_48 ?_
    refine j_iload_n K dX11_reads_51 2 rfl ?_
    refine j_iaload K (z := 20) rfl (Nat.le_of_ble_eq_true rfl) dX11_reads_52 hr (fun hr => ?_)
    refine j_iastoreV K (z := 1200) rfl (Nat.le_of_ble_eq_true rfl) dX11_reads_53 hr (fun X6 hr => ?_)
    refine j_iincV K dX11_reads_54 (v := 1) 2 rfl rfl (by decide) hr (fun t7 hr => ?_)
    refine j_goto K dX11_reads_57 (tgt := 29) (by decide) ?_
    exact j_sub [1, 2, 0] rfl (hrec29 _ _ hr)
theorem jf_X11_reads {κ : JK} (K : jOk 3 cX11_reads RX11 none 1 κ) (X : JX) (v1 : Int32) {r : JX} (F : jFin LY false (oU r) κ) (hr : f_X11_reads X v1 = some r) : J LY 3 κ X 0 [(0, .ref (jad κ (0))), (1, .int v1)] [] := by
  unfold f_X11_reads at hr
  refine j_aload_n K dX11_reads_0 0 rfl ?_
  refine j_iload_n K dX11_reads_1 1 rfl ?_
  refine j_vU1 K (ci := 11) hr (fun v h => c_X11_takesWords X v1 h) ml_X11_210 ⟨_, rfl, rfl⟩ rfl (Nat.le_of_ble_eq_true rfl) (by decide) rfl (by decide) (by decide) (Nat.le_of_ble_eq_true rfl) dX11_reads_2 (fun X1 h hr => ?_)
  refine j_aload_n K dX11_reads_5 0 rfl ?_
  refine j_get K (v := .ref (jad κ (22))) fl_X11_75 rfl (Nat.le_of_ble_eq_true rfl) (by decide) rfl dX11_reads_6 ?_
  refine j_iload_n K dX11_reads_9 1 rfl ?_
  refine j_aload_n K dX11_reads_10 0 rfl ?_
  refine j_get K (v := .ref (jad κ (5))) fl_X11_24 rfl (Nat.le_of_ble_eq_true rfl) (by decide) rfl dX11_reads_11 ?_
  refine j_iload_n K dX11_reads_14 1 rfl ?_
  refine j_iaload K (z := 60) rfl (Nat.le_of_ble_eq_true rfl) dX11_reads_15 hr (fun hr => ?_)
  refine j_iastoreV K (z := 60) rfl (Nat.le_of_ble_eq_true rfl) dX11_reads_16 hr (fun X2 hr => ?_)
  refine j_aload_n K dX11_reads_17 0 rfl ?_
  refine j_get K (v := .ref (jad κ (23))) fl_X11_78 rfl (Nat.le_of_ble_eq_true rfl) (by decide) rfl dX11_reads_18 ?_
  refine j_iload_n K dX11_reads_21 1 rfl ?_
  refine j_aload_n K dX11_reads_22 0 rfl ?_
  refine j_get K (v := .int (X2 (0) 44)) fl_X11_195 rfl (Nat.le_of_ble_eq_true rfl) (by decide) rfl dX11_reads_23 ?_
  refine j_iastoreV K (z := 60) rfl (Nat.le_of_ble_eq_true rfl) dX11_reads_26 hr (fun X3 hr => ?_)
  refine j_iconst K dX11_reads_27 (v := 0) rfl ?_
  refine j_istore_n K dX11_reads_28 (by decide) ?_
  exact j_sub [1, 2, 0] rfl (jl_X11_reads_29 K _ F _ _ hr)
theorem c_X11_reads (X : JX) (v1 : Int32) {r : JX} (hr : f_X11_reads X v1 = some r) : Cal LY yX11_reads cX11_reads 3 none 1 (fun ad => [.ref (ad (0)), .int v1]) X (fun ad => oU r) :=
  Cal.of (own := RX11) (fun ad => [(0, .ref (ad (0))), (1, .int v1)]) (by decide) rfl (fun _ => Nat.le_of_ble_eq_true rfl) (fun _ => rfl) (fun κ K F => jf_X11_reads K X v1 F hr)
theorem jb_X11_acts_179 {κ : JK} (K : jOk 5 cX11_acts RX11 none 3 κ) (X : JX) (v2 : Int32) (s0 : Int32) {r : JX} (F : jFin LY false (oU r) κ) (hr : b_X11_acts_179 X v2 s0 = some r) : J LY 5 κ X 179 [(0, .ref (jad κ (0))), (2, .int v2)] [.int s0] := by
  unfold b_X11_acts_179 at hr
  refine j_istore K dX11_acts_179 (by decide) ?_
  refine j_aload_n K dX11_acts_181 1 rfl ?_
  refine j_iload_n K dX11_acts_182 2 rfl ?_
  refine j_vU1 K (ci := 11) hr (fun v h => c_X11_places X v2 h) ml_X11_204 ⟨_, rfl, rfl⟩ rfl (Nat.le_of_ble_eq_true rfl) (by decide) rfl (by decide) (by decide) (Nat.le_of_ble_eq_true rfl) dX11_acts_183 (fun X11 h hr => ?_)
  refine j_iload K dX11_acts_186 0 rfl ?_
  refine j_if_ne K dX11_acts_188 (tgt := 196) (by decide) hr (fun hr => ?_) (fun hr => ?_)
  · exact j_return K dX11_acts_196 rfl F hr rfl
  · refine j_aload_n K dX11_acts_191 1 rfl ?_
    refine j_iload_n K dX11_acts_192 2 rfl ?_
    refine j_vU1 K (ci := 11) hr (fun v h => c_X11_reads X11 v2 h) ml_X11_207 ⟨_, rfl, rfl⟩ rfl (Nat.le_of_ble_eq_true rfl) (by decide) rfl (by decide) (by decide) (Nat.le_of_ble_eq_true rfl) dX11_acts_193 (fun X12 h hr => ?_)
    exact j_return K dX11_acts_196 rfl F hr rfl
theorem jb_X11_acts_111 {κ : JK} (K : jOk 5 cX11_acts RX11 none 3 κ) (X : JX) (v2 : Int32) (v4 : Int32) {r : JX} (F : jFin LY false (oU r) κ) (rec74 : JX → Int32 → Option JX) (hrec74 : ∀ (X : JX) (v4 : Int32), rec74 X v4 = some r → J LY 5 κ X 74 [(0, .ref (jad κ (0))), (2, .int v2), (4, .int v4)] []) (hr : b_X11_acts_111 rec74 X v2 v4 = some r) : J LY 5 κ X 111 [(0, .ref (jad κ (0))), (2, .int v2), (4, .int v4)] [] := by
  unfold b_X11_acts_111 at hr
  refine j_iincV K dX11_acts_111 (v := 1) 2 rfl rfl (by decide) hr (fun t14 hr => ?_)
  refine j_goto K dX11_acts_114 (tgt := 74) (by decide) ?_
  exact j_sub [1, 2, 0] rfl (hrec74 _ _ hr)
theorem jl_X11_acts_74 {κ : JK} (K : jOk 5 cX11_acts RX11 none 3 κ) (v2 : Int32) {r : JX} (F : jFin LY false (oU r) κ) : ∀ (X : JX) (v4 : Int32), l_X11_acts_74 v2 X v4 = some r → J LY 5 κ X 74 [(0, .ref (jad κ (0))), (2, .int v2), (4, .int v4)] [] := by
  refine j_loop2 (P := fun X v4 => J LY 5 κ X 74 [(0, .ref (jad κ (0))), (2, .int v2), (4, .int v4)] []) (fun rec74 hrec74 X v4 hr => ?_) 1000
  unfold lb_X11_acts_74 at hr
  refine j_iload K dX11_acts_74 2 rfl ?_
  refine j_aload_n K dX11_acts_76 0 rfl ?_
  refine j_get K (v := .int (X (0) 2)) fl_X11_118 rfl (Nat.le_of_ble_eq_true rfl) (by decide) rfl dX11_acts_77 ?_
  refine j_icmp_ge K dX11_acts_80 (tgt := 117) (by decide) hr (fun hr => ?_) (fun hr => ?_)
  · refine j_goto K dX11_acts_117 (tgt := 196) (by decide) ?_
    exact j_return K dX11_acts_196 rfl F hr rfl
  · refine j_aload_n K dX11_acts_83 0 rfl ?_
    refine j_get K (v := .ref (jad κ (1))) fl_X11_7 rfl (Nat.le_of_ble_eq_true rfl) (by decide) rfl dX11_acts_84 ?_
    refine j_iload K dX11_acts_87 2 rfl ?_
    refine j_baload K (z := 60) rfl (Nat.le_of_ble_eq_true rfl) dX11_acts_89 hr (fun hr => ?_)
    refine j_if_eq K dX11_acts_90 (tgt := 111) (by decide) hr (fun hr => ?_) (fun hr => ?_)
    · exact j_sub [0, 1, 2] rfl (jb_X11_acts_111 K _ _ _ F rec74 hrec74 hr)
    · refine j_aload_n K dX11_acts_93 0 rfl ?_
      refine j_get K (v := .ref (jad κ (3))) fl_X11_16 rfl (Nat.le_of_ble_eq_true rfl) (by decide) rfl dX11_acts_94 ?_
      refine j_iload K dX11_acts_97 2 rfl ?_
      refine j_iaload K (z := 60) rfl (Nat.le_of_ble_eq_true rfl) dX11_acts_99 hr (fun hr => ?_)
      refine j_iload_n K dX11_acts_100 1 rfl ?_
      refine j_icmp_ne K dX11_acts_101 (tgt := 111) (by decide) hr (fun hr => ?_) (fun hr => ?_)
      · exact j_sub [0, 1, 2] rfl (jb_X11_acts_111 K _ _ _ F rec74 hrec74 hr)
      · refine j_aload_n K dX11_acts_104 0 rfl ?_
        refine j_iload K dX11_acts_105 2 rfl ?_
        refine j_iconst K dX11_acts_107 (v := 1) rfl ?_
        refine j_vU2 K (ci := 11) hr (fun v h => c_X11_adds X v4 (1) h) ml_X11_176 ⟨_, rfl, rfl⟩ rfl (Nat.le_of_ble_eq_true rfl) (by decide) rfl (by decide) (by decide) (Nat.le_of_ble_eq_true rfl) dX11_acts_108 (fun X13 h hr => ?_)
        exact j_sub [0, 1, 2] rfl (jb_X11_acts_111 K _ _ _ F rec74 hrec74 hr)
theorem jf_X11_acts {κ : JK} (K : jOk 5 cX11_acts RX11 none 3 κ) (X : JX) (v1 : Int32) {r : JX} (F : jFin LY false (oU r) κ) (hr : f_X11_acts X v1 = some r) : J LY 5 κ X 0 [(0, .ref (jad κ (0))), (1, .int v1)] [] := by
  unfold f_X11_acts at hr
  refine j_aload_n K dX11_acts_0 0 rfl ?_
  refine j_get K (v := .ref (jad κ (25))) fl_X11_91 rfl (Nat.le_of_ble_eq_true rfl) (by decide) rfl dX11_acts_1 ?_
  refine j_iload_n K dX11_acts_4 1 rfl ?_
  refine j_iaload K (z := 60) rfl (Nat.le_of_ble_eq_true rfl) dX11_acts_5 hr (fun hr => ?_)
  refine j_istoreV_n K dX11_acts_6 (by decide) hr (fun t1 hr => ?_)
  refine j_aload_n K dX11_acts_7 1 rfl ?_
  refine j_get K (v := .ref (jad κ (26))) fl_X11_94 rfl (Nat.le_of_ble_eq_true rfl) (by decide) rfl dX11_acts_8 ?_
  refine j_iload_n K dX11_acts_11 2 rfl ?_
  refine j_iaload K (z := 60) rfl (Nat.le_of_ble_eq_true rfl) dX11_acts_12 hr (fun hr => ?_)
  refine j_istoreV_n K dX11_acts_13 (by decide) hr (fun t2 hr => ?_)
  refine j_aload_n K dX11_acts_14 2 rfl ?_
  refine j_iload_n K dX11_acts_15 3 rfl ?_
  refine j_vU1 K (ci := 11) hr (fun v h => c_X11_takesAct X v1 h) ml_X11_198 ⟨_, rfl, rfl⟩ rfl (Nat.le_of_ble_eq_true rfl) (by decide) rfl (by decide) (by decide) (Nat.le_of_ble_eq_true rfl) dX11_acts_16 (fun X3 h hr => ?_)
  refine j_aload_n K dX11_acts_19 2 rfl ?_
  refine j_iload_n K dX11_acts_20 1 rfl ?_
  refine j_vI1 K (ci := 11) hr (fun v h => c_X11_over X3 t1 h) ml_X11_150 ⟨_, rfl, rfl⟩ rfl (Nat.le_of_ble_eq_true rfl) (by decide) rfl (by decide) (by decide) (Nat.le_of_ble_eq_true rfl) dX11_acts_21 (fun t4 h hr => ?_)
  refine j_iconst K dX11_acts_24 (v := -1) rfl ?_
  refine j_icmp_ne K dX11_acts_25 (tgt := 36) (by decide) hr (fun hr => ?_) (fun hr => ?_)
  · refine j_iload_n K dX11_acts_36 0 rfl ?_
    refine j_iconst K dX11_acts_37 (v := 2) rfl ?_
    refine j_icmp_ne K dX11_acts_38 (tgt := 50) (by decide) hr (fun hr => ?_) (fun hr => ?_)
    · refine j_aload_n K dX11_acts_50 2 rfl ?_
      refine j_get K (v := .ref (jad κ (2))) fl_X11_13 rfl (Nat.le_of_ble_eq_true rfl) (by decide) rfl dX11_acts_51 ?_
      refine j_iload_n K dX11_acts_54 1 rfl ?_
      refine j_baload K (z := 60) rfl (Nat.le_of_ble_eq_true rfl) dX11_acts_55 hr (fun hr => ?_)
      refine j_if_eq K dX11_acts_56 (tgt := 120) (by decide) hr (fun hr => ?_) (fun hr => ?_)
      · refine j_aload_n K dX11_acts_120 2 rfl ?_
        refine j_get K (v := .ref (jad κ (8))) fl_X11_33 rfl (Nat.le_of_ble_eq_true rfl) (by decide) rfl dX11_acts_121 ?_
        refine j_iload_n K dX11_acts_124 1 rfl ?_
        refine j_baload K (z := 60) rfl (Nat.le_of_ble_eq_true rfl) dX11_acts_125 hr (fun hr => ?_)
        refine j_if_eq K dX11_acts_126 (tgt := 150) (by decide) hr (fun hr => ?_) (fun hr => ?_)
        · refine j_aload_n K dX11_acts_150 2 rfl ?_
          refine j_get K (v := .ref (jad κ (19))) fl_X11_66 rfl (Nat.le_of_ble_eq_true rfl) (by decide) rfl dX11_acts_151 ?_
          refine j_iload_n K dX11_acts_154 1 rfl ?_
          refine j_baload K (z := 60) rfl (Nat.le_of_ble_eq_true rfl) dX11_acts_155 hr (fun hr => ?_)
          refine j_if_eq K dX11_acts_156 (tgt := 178) (by decide) hr (fun hr => ?_) (fun hr => ?_)
          · refine j_iconst K dX11_acts_178 (v := 0) rfl ?_
            exact j_sub [2, 1] rfl (jb_X11_acts_179 K _ _ _ F hr)
          · refine j_aload_n K dX11_acts_159 2 rfl ?_
            refine j_get K (v := .ref (jad κ (22))) fl_X11_75 rfl (Nat.le_of_ble_eq_true rfl) (by decide) rfl dX11_acts_160 ?_
            refine j_iload_n K dX11_acts_163 1 rfl ?_
            refine j_iaload K (z := 60) rfl (Nat.le_of_ble_eq_true rfl) dX11_acts_164 hr (fun hr => ?_)
            refine j_aload_n K dX11_acts_165 2 rfl ?_
            refine j_get K (v := .ref (jad κ (5))) fl_X11_24 rfl (Nat.le_of_ble_eq_true rfl) (by decide) rfl dX11_acts_166 ?_
            refine j_iload_n K dX11_acts_169 1 rfl ?_
            refine j_iaload K (z := 60) rfl (Nat.le_of_ble_eq_true rfl) dX11_acts_170 hr (fun hr => ?_)
            refine j_icmp_ne K dX11_acts_171 (tgt := 178) (by decide) hr (fun hr => ?_) (fun hr => ?_)
            · refine j_iconst K dX11_acts_178 (v := 0) rfl ?_
              exact j_sub [2, 1] rfl (jb_X11_acts_179 K _ _ _ F hr)
            · refine j_iconst K dX11_acts_174 (v := 1) rfl ?_
              refine j_goto K dX11_acts_175 (tgt := 179) (by decide) ?_
              exact j_sub [2, 1] rfl (jb_X11_acts_179 K _ _ _ F hr)
        · refine j_aload_n K dX11_acts_129 2 rfl ?_
          refine j_iload_n K dX11_acts_130 1 rfl ?_
          refine j_iconst K dX11_acts_131 (v := 1) rfl ?_
          refine j_vU2 K (ci := 11) hr (fun v h => c_X11_adds X3 t1 (1) h) ml_X11_176 ⟨_, rfl, rfl⟩ rfl (Nat.le_of_ble_eq_true rfl) (by decide) rfl (by decide) (by decide) (Nat.le_of_ble_eq_true rfl) dX11_acts_132 (fun X5 h hr => ?_)
          refine j_aload_n K dX11_acts_135 2 rfl ?_
          refine j_get K (v := .ref (jad κ (27))) fl_X11_97 rfl (Nat.le_of_ble_eq_true rfl) (by decide) rfl dX11_acts_136 ?_
          refine j_aload_n K dX11_acts_139 2 rfl ?_
          refine j_get K (v := .int (X5 (0) 30)) fl_X11_183 rfl (Nat.le_of_ble_eq_true rfl) (by decide) rfl dX11_acts_140 ?_
          refine j_iconst K dX11_acts_143 (v := 1) rfl ?_
          refine j_isub K dX11_acts_144 ?_
          refine j_iconst K dX11_acts_145 (v := 1) rfl ?_
          refine j_bastoreV K (z := 60) rfl (Nat.le_of_ble_eq_true rfl) dX11_acts_146 hr (fun X6 hr => ?_)
          refine j_goto K dX11_acts_147 (tgt := 196) (by decide) ?_
          exact j_return K dX11_acts_196 rfl F hr rfl
      · refine j_aload_n K dX11_acts_59 2 rfl ?_
        refine j_iload_n K dX11_acts_60 1 rfl ?_
        refine j_vU1 K (ci := 11) hr (fun v h => c_X11_places X3 t1 h) ml_X11_204 ⟨_, rfl, rfl⟩ rfl (Nat.le_of_ble_eq_true rfl) (by decide) rfl (by decide) (by decide) (Nat.le_of_ble_eq_true rfl) dX11_acts_61 (fun X7 h hr => ?_)
        refine j_aload_n K dX11_acts_64 2 rfl ?_
        refine j_get K (v := .ref (jad κ (22))) fl_X11_75 rfl (Nat.le_of_ble_eq_true rfl) (by decide) rfl dX11_acts_65 ?_
        refine j_iload_n K dX11_acts_68 1 rfl ?_
        refine j_iconst K dX11_acts_69 (v := 0) rfl ?_
        refine j_iastoreV K (z := 60) rfl (Nat.le_of_ble_eq_true rfl) dX11_acts_70 hr (fun X8 hr => ?_)
        refine j_iconst K dX11_acts_71 (v := 0) rfl ?_
        refine j_istore K dX11_acts_72 (by decide) ?_
        exact j_sub [3, 2, 0] rfl (jl_X11_acts_74 K _ F _ _ hr)
    · refine j_aload_n K dX11_acts_41 2 rfl ?_
      refine j_iload_n K dX11_acts_42 1 rfl ?_
      refine j_iconst K dX11_acts_43 (v := 1) rfl ?_
      refine j_vU2 K (ci := 11) hr (fun v h => c_X11_adds X3 t1 (1) h) ml_X11_176 ⟨_, rfl, rfl⟩ rfl (Nat.le_of_ble_eq_true rfl) (by decide) rfl (by decide) (by decide) (Nat.le_of_ble_eq_true rfl) dX11_acts_44 (fun X9 h hr => ?_)
      refine j_goto K dX11_acts_47 (tgt := 196) (by decide) ?_
      exact j_return K dX11_acts_196 rfl F hr rfl
  · refine j_aload_n K dX11_acts_28 2 rfl ?_
    refine j_iload_n K dX11_acts_29 1 rfl ?_
    refine j_vU1 K (ci := 11) hr (fun v h => c_X11_forgets X3 t1 h) ml_X11_201 ⟨_, rfl, rfl⟩ rfl (Nat.le_of_ble_eq_true rfl) (by decide) rfl (by decide) (by decide) (Nat.le_of_ble_eq_true rfl) dX11_acts_30 (fun X10 h hr => ?_)
    refine j_goto K dX11_acts_33 (tgt := 196) (by decide) ?_
    exact j_return K dX11_acts_196 rfl F hr rfl
theorem c_X11_acts (X : JX) (v1 : Int32) {r : JX} (hr : f_X11_acts X v1 = some r) : Cal LY yX11_acts cX11_acts 5 none 3 (fun ad => [.ref (ad (0)), .int v1]) X (fun ad => oU r) :=
  Cal.of (own := RX11) (fun ad => [(0, .ref (ad (0))), (1, .int v1)]) (by decide) rfl (fun _ => Nat.le_of_ble_eq_true rfl) (fun _ => rfl) (fun κ K F => jf_X11_acts K X v1 F hr)
theorem jf_X11_acts_ {κ : JK} (K : jOk 1 cX11_acts_ RX11 (some .int) 0 κ) (X : JX) {r : (Int32 × JX)} (F : jFin LY false (oM r) κ) (hr : f_X11_acts_ X = some r) : J LY 1 κ X 0 [(0, .ref (jad κ (0)))] [] := by
  unfold f_X11_acts_ at hr
  refine j_aload_n K dX11_acts__0 0 rfl ?_
  refine j_iconst K dX11_acts__1 (v := 0) rfl ?_
  refine j_putiV K fp_X11_121 rfl (Nat.le_of_ble_eq_true rfl) (by decide) (fun _ => Nat.le_of_ble_eq_true rfl) (fun _ => rfl) dX11_acts__2 hr (fun X1 hr => ?_)
  refine j_aload_n K dX11_acts__5 0 rfl ?_
  refine j_get K (v := .int (X1 (0) 30)) fl_X11_183 rfl (Nat.le_of_ble_eq_true rfl) (by decide) rfl dX11_acts__6 ?_
  exact j_ireturn K dX11_acts__9 rfl F hr rfl
theorem c_X11_acts_ (X : JX) {r : (Int32 × JX)} (hr : f_X11_acts_ X = some r) : Cal LY yX11_acts_ cX11_acts_ 1 (some .int) 0 (fun ad => [.ref (ad (0))]) X (fun ad => oM r) :=
  Cal.of (own := RX11) (fun ad => [(0, .ref (ad (0)))]) (by decide) rfl (fun _ => Nat.le_of_ble_eq_true rfl) (fun _ => rfl) (fun κ K F => jf_X11_acts_ K X F hr)
theorem jf_X11_in {κ : JK} (K : jOk 3 cX11_in RX11 (some .boolean) 0 κ) (X : JX) (v0 : Int32) (v1 : Int32) (v2 : Int32) {r : Int32} (F : jFin LY false (oI X r) κ) (hr : f_X11_in X v0 v1 v2 = some r) : J LY 3 κ X 0 [(0, .int v0), (1, .int v1), (2, .int v2)] [] := by
  unfold f_X11_in at hr
  refine j_iload_n K dX11_in_0 0 rfl ?_
  refine j_iload_n K dX11_in_1 1 rfl ?_
  refine j_icmp_lt K dX11_in_2 (tgt := 14) (by decide) hr (fun hr => ?_) (fun hr => ?_)
  · refine j_iconst K dX11_in_14 (v := 0) rfl ?_
    exact j_zreturn K dX11_in_15 rfl rfl F hr rfl
  · refine j_iload_n K dX11_in_5 0 rfl ?_
    refine j_iload_n K dX11_in_6 2 rfl ?_
    refine j_icmp_gt K dX11_in_7 (tgt := 14) (by decide) hr (fun hr => ?_) (fun hr => ?_)
    · refine j_iconst K dX11_in_14 (v := 0) rfl ?_
      exact j_zreturn K dX11_in_15 rfl rfl F hr rfl
    · refine j_iconst K dX11_in_10 (v := 1) rfl ?_
      refine j_goto K dX11_in_11 (tgt := 15) (by decide) ?_
      exact j_zreturn K dX11_in_15 rfl rfl F hr rfl
theorem c_X11_in (X : JX) (v0 : Int32) (v1 : Int32) (v2 : Int32) {r : Int32} (hr : f_X11_in X v0 v1 v2 = some r) : Cal LY yX11_in cX11_in 3 (some .boolean) 0 (fun ad => [.int v0, .int v1, .int v2]) X (fun ad => oI X r) :=
  Cal.of (own := RX11) (fun ad => [(0, .int v0), (1, .int v1), (2, .int v2)]) (by decide) rfl (fun _ => Nat.le_of_ble_eq_true rfl) (fun _ => rfl) (fun κ K F => jf_X11_in K X v0 v1 v2 F hr)
theorem jf_X11_fails {κ : JK} (K : jOk 2 cX11_fails RX11 (some .int) 0 κ) (X : JX) (v1 : Int32) {r : (Int32 × JX)} (F : jFin LY false (oM r) κ) (hr : f_X11_fails X v1 = some r) : J LY 2 κ X 0 [(0, .ref (jad κ (0))), (1, .int v1)] [] := by
  unfold f_X11_fails at hr
  refine j_aload_n K dX11_fails_0 0 rfl ?_
  refine j_iload_n K dX11_fails_1 1 rfl ?_
  refine j_putiV K fp_X11_121 rfl (Nat.le_of_ble_eq_true rfl) (by decide) (fun _ => Nat.le_of_ble_eq_true rfl) (fun _ => rfl) dX11_fails_2 hr (fun X1 hr => ?_)
  refine j_iconst K dX11_fails_5 (v := 0) rfl ?_
  exact j_ireturn K dX11_fails_6 rfl F hr rfl
theorem c_X11_fails (X : JX) (v1 : Int32) {r : (Int32 × JX)} (hr : f_X11_fails X v1 = some r) : Cal LY yX11_fails cX11_fails 2 (some .int) 0 (fun ad => [.ref (ad (0)), .int v1]) X (fun ad => oM r) :=
  Cal.of (own := RX11) (fun ad => [(0, .ref (ad (0))), (1, .int v1)]) (by decide) rfl (fun _ => Nat.le_of_ble_eq_true rfl) (fun _ => rfl) (fun κ K F => jf_X11_fails K X v1 F hr)
theorem jf_X11_areWords {κ : JK} (K : jOk 3 cX11_areWords RX11 (some .boolean) 1 κ) (X : JX) (v1 : Int32) (v2 : Int32) {r : Int32} (F : jFin LY false (oI X r) κ) (hr : f_X11_areWords X v1 v2 = some r) : J LY 3 κ X 0 [(0, .ref (jad κ (0))), (1, .int v1), (2, .int v2)] [] := by
  unfold f_X11_areWords at hr
  refine j_iload_n K dX11_areWords_0 1 rfl ?_
  refine j_iconst K dX11_areWords_1 (v := 0) rfl ?_
  refine j_bipush K dX11_areWords_2 (v := 99) rfl ?_
  refine j_sI3 K hr (fun v h => c_X11_in X v1 (0) (99) h) ms_X11_124 rfl (by decide) (by decide) (Nat.le_of_ble_eq_true rfl) dX11_areWords_4 (fun t1 h hr => ?_)
  refine j_if_eq K dX11_areWords_7 (tgt := 24) (by decide) hr (fun hr => ?_) (fun hr => ?_)
  · refine j_iconst K dX11_areWords_24 (v := 0) rfl ?_
    exact j_zreturn K dX11_areWords_25 rfl rfl F hr rfl
  · refine j_iload_n K dX11_areWords_10 2 rfl ?_
    refine j_iconst K dX11_areWords_11 (v := -1) rfl ?_
    refine j_bipush K dX11_areWords_12 (v := 99) rfl ?_
    refine j_sI3 K hr (fun v h => c_X11_in X v2 (-1) (99) h) ms_X11_124 rfl (by decide) (by decide) (Nat.le_of_ble_eq_true rfl) dX11_areWords_14 (fun t2 h hr => ?_)
    refine j_if_eq K dX11_areWords_17 (tgt := 24) (by decide) hr (fun hr => ?_) (fun hr => ?_)
    · refine j_iconst K dX11_areWords_24 (v := 0) rfl ?_
      exact j_zreturn K dX11_areWords_25 rfl rfl F hr rfl
    · refine j_iconst K dX11_areWords_20 (v := 1) rfl ?_
      refine j_goto K dX11_areWords_21 (tgt := 25) (by decide) ?_
      exact j_zreturn K dX11_areWords_25 rfl rfl F hr rfl
theorem c_X11_areWords (X : JX) (v1 : Int32) (v2 : Int32) {r : Int32} (hr : f_X11_areWords X v1 v2 = some r) : Cal LY yX11_areWords cX11_areWords 3 (some .boolean) 1 (fun ad => [.ref (ad (0)), .int v1, .int v2]) X (fun ad => oI X r) :=
  Cal.of (own := RX11) (fun ad => [(0, .ref (ad (0))), (1, .int v1), (2, .int v2)]) (by decide) rfl (fun _ => Nat.le_of_ble_eq_true rfl) (fun _ => rfl) (fun κ K F => jf_X11_areWords K X v1 v2 F hr)
theorem jb_X11_often_38 {κ : JK} (K : jOk 5 cX11_often RX11 (some .int) 0 κ) (X : JX) (v1 : Int32) (v2 : Int32) (v4 : Int32) (s0 : Int32) (s1 : Int32) {r : Int32} (F : jFin LY false (oI X r) κ) (rec5 : Int32 → Int32 → Option Int32) (hrec5 : ∀ (v3 : Int32) (v4 : Int32), rec5 v3 v4 = some r → J LY 5 κ X 5 [(0, .ref (jad κ (0))), (1, .int v1), (2, .int v2), (3, .int v3), (4, .int v4)] []) (hr : b_X11_often_38 rec5 X v1 v2 v4 s0 s1 = some r) : J LY 5 κ X 38 [(0, .ref (jad κ (0))), (1, .int v1), (2, .int v2), (4, .int v4)] [.int s0, .int s1] := by
  unfold b_X11_often_38 at hr
  refine j_iadd K dX11_often_38 ?_
  refine j_istoreV_n K dX11_often_39 (by decide) hr (fun t1 hr => ?_)
  refine j_iincV K dX11_often_40 (v := 1) 4 rfl rfl (by decide) hr (fun t2 hr => ?_)
  refine j_goto K dX11_often_43 (tgt := 5) (by decide) ?_
  exact j_sub [2, 3, 4, 1, 0] rfl (hrec5 _ _ hr)
theorem jl_X11_often_5 {κ : JK} (K : jOk 5 cX11_often RX11 (some .int) 0 κ) (X : JX) (v1 : Int32) (v2 : Int32) {r : Int32} (F : jFin LY false (oI X r) κ) : ∀ (v3 : Int32) (v4 : Int32), l_X11_often_5 X v1 v2 v3 v4 = some r → J LY 5 κ X 5 [(0, .ref (jad κ (0))), (1, .int v1), (2, .int v2), (3, .int v3), (4, .int v4)] [] := by
  refine j_loop2 (P := fun v3 v4 => J LY 5 κ X 5 [(0, .ref (jad κ (0))), (1, .int v1), (2, .int v2), (3, .int v3), (4, .int v4)] []) (fun rec5 hrec5 v3 v4 hr => ?_) 1000
  unfold lb_X11_often_5 at hr
  refine j_iload K dX11_often_5 4 rfl ?_
  refine j_aload_n K dX11_often_7 0 rfl ?_
  refine j_get K (v := .ref (jad κ (23))) fl_X11_78 rfl (Nat.le_of_ble_eq_true rfl) (by decide) rfl dX11_often_8 ?_
  refine j_iload_n K dX11_often_11 1 rfl ?_
  refine j_iaload K (z := 60) rfl (Nat.le_of_ble_eq_true rfl) dX11_often_12 hr (fun hr => ?_)
  refine j_icmp_ge K dX11_often_13 (tgt := 46) (by decide) hr (fun hr => ?_) (fun hr => ?_)
  · refine j_iload_n K dX11_often_46 3 rfl ?_
    exact j_ireturn K dX11_often_47 rfl F hr rfl
  · refine j_iload_n K dX11_often_16 3 rfl ?_
    refine j_aload_n K dX11_often_17 0 rfl ?_
    refine j_get K (v := .ref (jad κ (24))) fl_X11_81 rfl (Nat.le_of_ble_eq_true rfl) (by decide) rfl dX11_often_18 ?_
    refine j_bipush K dX11_often_21 (v := 20) rfl ?_
    refine j_iload_n K dX11_often_23 1 rfl ?_
    refine j_imul K dX11_often_24 ?_
    refine j_iload K dX11_often_25 4 rfl ?_
    refine j_iadd K dX11_often_27 ?_
    refine j_iaload K (z := 1200) rfl (Nat.le_of_ble_eq_true rfl) dX11_often_28 hr (fun hr => ?_)
    refine j_iload_n K dX11_often_29 2 rfl ?_
    refine j_icmp_ne K dX11_often_30 (tgt := 37) (by decide) hr (fun hr => ?_) (fun hr => ?_)
    · refine j_iconst K dX11_often_37 (v := 0) rfl ?_
      exact j_sub [0, 1, 2, 4] rfl (jb_X11_often_38 K _ _ _ _ _ _ F rec5 hrec5 hr)
    · refine j_iconst K dX11_often_33 (v := 1) rfl ?_
      refine j_goto K dX11_often_34 (tgt := 38) (by decide) ?_
      exact j_sub [0, 1, 2, 4] rfl (jb_X11_often_38 K _ _ _ _ _ _ F rec5 hrec5 hr)
theorem jf_X11_often {κ : JK} (K : jOk 5 cX11_often RX11 (some .int) 0 κ) (X : JX) (v1 : Int32) (v2 : Int32) {r : Int32} (F : jFin LY false (oI X r) κ) (hr : f_X11_often X v1 v2 = some r) : J LY 5 κ X 0 [(0, .ref (jad κ (0))), (1, .int v1), (2, .int v2)] [] := by
  unfold f_X11_often at hr
  refine j_iconst K dX11_often_0 (v := 0) rfl ?_
  refine j_istore_n K dX11_often_1 (by decide) ?_
  refine j_iconst K dX11_often_2 (v := 0) rfl ?_
  refine j_istore K dX11_often_3 (by decide) ?_
  exact j_sub [2, 3, 4, 1, 0] rfl (jl_X11_often_5 K _ _ _ F _ _ hr)
theorem c_X11_often (X : JX) (v1 : Int32) (v2 : Int32) {r : Int32} (hr : f_X11_often X v1 v2 = some r) : Cal LY yX11_often cX11_often 5 (some .int) 0 (fun ad => [.ref (ad (0)), .int v1, .int v2]) X (fun ad => oI X r) :=
  Cal.of (own := RX11) (fun ad => [(0, .ref (ad (0))), (1, .int v1), (2, .int v2)]) (by decide) rfl (fun _ => Nat.le_of_ble_eq_true rfl) (fun _ => rfl) (fun κ K F => jf_X11_often K X v1 v2 F hr)
theorem jb_X11_has_41 {κ : JK} (K : jOk 4 cX11_has RX11 (some .boolean) 1 κ) (X : JX) {r : Int32} (F : jFin LY false (oI X r) κ) (hr : b_X11_has_41 X = some r) : J LY 4 κ X 41 [] [] := by
  unfold b_X11_has_41 at hr
  refine j_iconst K dX11_has_41 (v := 1) rfl ?_
  refine j_goto K dX11_has_42 (tgt := 46) (by decide) ?_
  exact j_zreturn K dX11_has_46 rfl rfl F hr rfl
theorem jf_X11_has {κ : JK} (K : jOk 4 cX11_has RX11 (some .boolean) 1 κ) (X : JX) (v1 : Int32) (v2 : Int32) (v3 : Int32) {r : Int32} (F : jFin LY false (oI X r) κ) (hr : f_X11_has X v1 v2 v3 = some r) : J LY 4 κ X 0 [(0, .ref (jad κ (0))), (1, .int v1), (2, .int v2), (3, .int v3)] [] := by
  unfold f_X11_has at hr
  refine j_aload_n K dX11_has_0 0 rfl ?_
  refine j_get K (v := .ref (jad κ (19))) fl_X11_66 rfl (Nat.le_of_ble_eq_true rfl) (by decide) rfl dX11_has_1 ?_
  refine j_iload_n K dX11_has_4 1 rfl ?_
  refine j_baload K (z := 60) rfl (Nat.le_of_ble_eq_true rfl) dX11_has_5 hr (fun hr => ?_)
  refine j_if_eq K dX11_has_6 (tgt := 45) (by decide) hr (fun hr => ?_) (fun hr => ?_)
  · refine j_iconst K dX11_has_45 (v := 0) rfl ?_
    exact j_zreturn K dX11_has_46 rfl rfl F hr rfl
  · refine j_aload_n K dX11_has_9 0 rfl ?_
    refine j_get K (v := .ref (jad κ (2))) fl_X11_13 rfl (Nat.le_of_ble_eq_true rfl) (by decide) rfl dX11_has_10 ?_
    refine j_iload_n K dX11_has_13 1 rfl ?_
    refine j_baload K (z := 60) rfl (Nat.le_of_ble_eq_true rfl) dX11_has_14 hr (fun hr => ?_)
    refine j_if_ne K dX11_has_15 (tgt := 45) (by decide) hr (fun hr => ?_) (fun hr => ?_)
    · refine j_iconst K dX11_has_45 (v := 0) rfl ?_
      exact j_zreturn K dX11_has_46 rfl rfl F hr rfl
    · refine j_aload_n K dX11_has_18 0 rfl ?_
      refine j_iload_n K dX11_has_19 1 rfl ?_
      refine j_iload_n K dX11_has_20 2 rfl ?_
      refine j_vI2 K (ci := 11) hr (fun v h => c_X11_often X v1 v2 h) ml_X11_277 ⟨_, rfl, rfl⟩ rfl (Nat.le_of_ble_eq_true rfl) (by decide) rfl (by decide) (by decide) (Nat.le_of_ble_eq_true rfl) dX11_has_21 (fun t1 h hr => ?_)
      refine j_if_le K dX11_has_24 (tgt := 45) (by decide) hr (fun hr => ?_) (fun hr => ?_)
      · refine j_iconst K dX11_has_45 (v := 0) rfl ?_
        exact j_zreturn K dX11_has_46 rfl rfl F hr rfl
      · refine j_iload_n K dX11_has_27 3 rfl ?_
        refine j_iconst K dX11_has_28 (v := -1) rfl ?_
        refine j_icmp_eq K dX11_has_29 (tgt := 41) (by decide) hr (fun hr => ?_) (fun hr => ?_)
        · exact j_sub [] rfl (jb_X11_has_41 K _ F hr)
        · refine j_aload_n K dX11_has_32 0 rfl ?_
          refine j_iload_n K dX11_has_33 1 rfl ?_
          refine j_iload_n K dX11_has_34 3 rfl ?_
          refine j_vI2 K (ci := 11) hr (fun v h => c_X11_often X v1 v3 h) ml_X11_277 ⟨_, rfl, rfl⟩ rfl (Nat.le_of_ble_eq_true rfl) (by decide) rfl (by decide) (by decide) (Nat.le_of_ble_eq_true rfl) dX11_has_35 (fun t2 h hr => ?_)
          refine j_if_le K dX11_has_38 (tgt := 45) (by decide) hr (fun hr => ?_) (fun hr => ?_)
          · refine j_iconst K dX11_has_45 (v := 0) rfl ?_
            exact j_zreturn K dX11_has_46 rfl rfl F hr rfl
          · exact j_sub [] rfl (jb_X11_has_41 K _ F hr)
theorem c_X11_has (X : JX) (v1 : Int32) (v2 : Int32) (v3 : Int32) {r : Int32} (hr : f_X11_has X v1 v2 v3 = some r) : Cal LY yX11_has cX11_has 4 (some .boolean) 1 (fun ad => [.ref (ad (0)), .int v1, .int v2, .int v3]) X (fun ad => oI X r) :=
  Cal.of (own := RX11) (fun ad => [(0, .ref (ad (0))), (1, .int v1), (2, .int v2), (3, .int v3)]) (by decide) rfl (fun _ => Nat.le_of_ble_eq_true rfl) (fun _ => rfl) (fun κ K F => jf_X11_has K X v1 v2 v3 F hr)
theorem jb_X11_mayReadAt_35 {κ : JK} (K : jOk 5 cX11_mayReadAt RX11 (some .boolean) 0 κ) (X : JX) (v1 : Int32) (v4 : Int32) (s0 : Int32) {r : Int32} (F : jFin LY false (oI X r) κ) (rec5 : Int32 → Int32 → Option Int32) (hrec5 : ∀ (v3 : Int32) (v4 : Int32), rec5 v3 v4 = some r → J LY 5 κ X 5 [(0, .ref (jad κ (0))), (1, .int v1), (3, .int v3), (4, .int v4)] []) (hr : b_X11_mayReadAt_35 rec5 X v1 v4 s0 = some r) : J LY 5 κ X 35 [(0, .ref (jad κ (0))), (1, .int v1), (4, .int v4)] [.int s0] := by
  unfold b_X11_mayReadAt_35 at hr
  refine j_istore_n K dX11_mayReadAt_35 (by decide) ?_
  refine j_aload_n K dX11_mayReadAt_36 1 rfl ?_
  refine j_get K (v := .ref (jad κ (3))) fl_X11_16 rfl (Nat.le_of_ble_eq_true rfl) (by decide) rfl dX11_mayReadAt_37 ?_
  refine j_iload K dX11_mayReadAt_40 3 rfl ?_
  refine j_iaload K (z := 60) rfl (Nat.le_of_ble_eq_true rfl) dX11_mayReadAt_42 hr (fun hr => ?_)
  refine j_istoreV K dX11_mayReadAt_43 (by decide) hr (fun t1 hr => ?_)
  refine j_goto K dX11_mayReadAt_45 (tgt := 5) (by decide) ?_
  exact j_sub [2, 3, 1, 0] rfl (hrec5 _ _ hr)
theorem jl_X11_mayReadAt_5 {κ : JK} (K : jOk 5 cX11_mayReadAt RX11 (some .boolean) 0 κ) (X : JX) (v1 : Int32) {r : Int32} (F : jFin LY false (oI X r) κ) : ∀ (v3 : Int32) (v4 : Int32), l_X11_mayReadAt_5 X v1 v3 v4 = some r → J LY 5 κ X 5 [(0, .ref (jad κ (0))), (1, .int v1), (3, .int v3), (4, .int v4)] [] := by
  refine j_loop2 (P := fun v3 v4 => J LY 5 κ X 5 [(0, .ref (jad κ (0))), (1, .int v1), (3, .int v3), (4, .int v4)] []) (fun rec5 hrec5 v3 v4 hr => ?_) 1000
  unfold lb_X11_mayReadAt_5 at hr
  refine j_iload K dX11_mayReadAt_5 3 rfl ?_
  refine j_iconst K dX11_mayReadAt_7 (v := -1) rfl ?_
  refine j_icmp_eq K dX11_mayReadAt_8 (tgt := 48) (by decide) hr (fun hr => ?_) (fun hr => ?_)
  · refine j_iload_n K dX11_mayReadAt_48 2 rfl ?_
    exact j_guard hr (fun hz hr => j_zreturn K dX11_mayReadAt_49 rfl hz F hr rfl)
  · refine j_iload_n K dX11_mayReadAt_11 2 rfl ?_
    refine j_if_eq K dX11_mayReadAt_12 (tgt := 34) (by decide) hr (fun hr => ?_) (fun hr => ?_)
    · refine j_iconst K dX11_mayReadAt_34 (v := 0) rfl ?_
      exact j_sub [0, 1, 3] rfl (jb_X11_mayReadAt_35 K _ _ _ _ F rec5 hrec5 hr)
    · refine j_aload_n K dX11_mayReadAt_15 0 rfl ?_
      refine j_get K (v := .ref (jad κ (9))) fl_X11_36 rfl (Nat.le_of_ble_eq_true rfl) (by decide) rfl dX11_mayReadAt_16 ?_
      refine j_iload K dX11_mayReadAt_19 3 rfl ?_
      refine j_iaload K (z := 60) rfl (Nat.le_of_ble_eq_true rfl) dX11_mayReadAt_21 hr (fun hr => ?_)
      refine j_iload_n K dX11_mayReadAt_22 1 rfl ?_
      refine j_ishr K dX11_mayReadAt_23 ?_
      refine j_iconst K dX11_mayReadAt_24 (v := 1) rfl ?_
      refine j_iand K dX11_mayReadAt_25 ?_
      refine j_iconst K dX11_mayReadAt_26 (v := 1) rfl ?_
      refine j_icmp_ne K dX11_mayReadAt_27 (tgt := 34) (by decide) hr (fun hr => ?_) (fun hr => ?_)
      · refine j_iconst K dX11_mayReadAt_34 (v := 0) rfl ?_
        exact j_sub [0, 1, 3] rfl (jb_X11_mayReadAt_35 K _ _ _ _ F rec5 hrec5 hr)
      · refine j_iconst K dX11_mayReadAt_30 (v := 1) rfl ?_
        refine j_goto K dX11_mayReadAt_31 (tgt := 35) (by decide) ?_
        exact j_sub [0, 1, 3] rfl (jb_X11_mayReadAt_35 K _ _ _ _ F rec5 hrec5 hr)
theorem jf_X11_mayReadAt {κ : JK} (K : jOk 5 cX11_mayReadAt RX11 (some .boolean) 0 κ) (X : JX) (v1 : Int32) (v2 : Int32) {r : Int32} (F : jFin LY false (oI X r) κ) (hr : f_X11_mayReadAt X v1 v2 = some r) : J LY 5 κ X 0 [(0, .ref (jad κ (0))), (1, .int v1), (2, .int v2)] [] := by
  unfold f_X11_mayReadAt at hr
  refine j_iconst K dX11_mayReadAt_0 (v := 1) rfl ?_
  refine j_istore_n K dX11_mayReadAt_1 (by decide) ?_
  refine j_iload_n K dX11_mayReadAt_2 3 rfl ?_
  refine j_istore K dX11_mayReadAt_3 (by decide) ?_
  exact j_sub [2, 3, 1, 0] rfl (jl_X11_mayReadAt_5 K _ _ F _ _ hr)
theorem c_X11_mayReadAt (X : JX) (v1 : Int32) (v2 : Int32) {r : Int32} (hr : f_X11_mayReadAt X v1 v2 = some r) : Cal LY yX11_mayReadAt cX11_mayReadAt 5 (some .boolean) 0 (fun ad => [.ref (ad (0)), .int v1, .int v2]) X (fun ad => oI X r) :=
  Cal.of (own := RX11) (fun ad => [(0, .ref (ad (0))), (1, .int v1), (2, .int v2)]) (by decide) rfl (fun _ => Nat.le_of_ble_eq_true rfl) (fun _ => rfl) (fun κ K F => jf_X11_mayReadAt K X v1 v2 F hr)
theorem jb_X11_isAnswer_36 {κ : JK} (K : jOk 6 cX11_isAnswer RX11 (some .boolean) 2 κ) (X : JX) (v1 : Int32) (v2 : Int32) {r : Int32} (F : jFin LY false (oI X r) κ) (hr : b_X11_isAnswer_36 X v1 v2 = some r) : J LY 6 κ X 36 [(0, .ref (jad κ (0))), (1, .int v1), (2, .int v2)] [] := by
  unfold b_X11_isAnswer_36 at hr
  refine j_aload_n K dX11_isAnswer_36 0 rfl ?_
  refine j_iload_n K dX11_isAnswer_37 2 rfl ?_
  refine j_iload_n K dX11_isAnswer_38 1 rfl ?_
  refine j_vI2 K (ci := 11) hr (fun v h => c_X11_mayReadAt X v2 v1 h) ml_X11_173 ⟨_, rfl, rfl⟩ rfl (Nat.le_of_ble_eq_true rfl) (by decide) rfl (by decide) (by decide) (Nat.le_of_ble_eq_true rfl) dX11_isAnswer_39 (fun t3 h hr => ?_)
  refine j_if_eq K dX11_isAnswer_42 (tgt := 49) (by decide) hr (fun hr => ?_) (fun hr => ?_)
  · refine j_iconst K dX11_isAnswer_49 (v := 0) rfl ?_
    exact j_zreturn K dX11_isAnswer_50 rfl rfl F hr rfl
  · refine j_iconst K dX11_isAnswer_45 (v := 1) rfl ?_
    refine j_goto K dX11_isAnswer_46 (tgt := 50) (by decide) ?_
    exact j_zreturn K dX11_isAnswer_50 rfl rfl F hr rfl
theorem jf_X11_isAnswer {κ : JK} (K : jOk 6 cX11_isAnswer RX11 (some .boolean) 2 κ) (X : JX) (v1 : Int32) (v2 : Int32) (v3 : Int32) (v4 : Int32) (v5 : Int32) {r : Int32} (F : jFin LY false (oI X r) κ) (hr : f_X11_isAnswer X v1 v2 v3 v4 v5 = some r) : J LY 6 κ X 0 [(0, .ref (jad κ (0))), (1, .int v1), (2, .int v2), (3, .int v3), (4, .int v4), (5, .int v5)] [] := by
  unfold f_X11_isAnswer at hr
  refine j_aload_n K dX11_isAnswer_0 0 rfl ?_
  refine j_get K (v := .ref (jad κ (1))) fl_X11_7 rfl (Nat.le_of_ble_eq_true rfl) (by decide) rfl dX11_isAnswer_1 ?_
  refine j_iload_n K dX11_isAnswer_4 1 rfl ?_
  refine j_baload K (z := 60) rfl (Nat.le_of_ble_eq_true rfl) dX11_isAnswer_5 hr (fun hr => ?_)
  refine j_if_eq K dX11_isAnswer_6 (tgt := 49) (by decide) hr (fun hr => ?_) (fun hr => ?_)
  · refine j_iconst K dX11_isAnswer_49 (v := 0) rfl ?_
    exact j_zreturn K dX11_isAnswer_50 rfl rfl F hr rfl
  · refine j_aload_n K dX11_isAnswer_9 0 rfl ?_
    refine j_iload_n K dX11_isAnswer_10 1 rfl ?_
    refine j_iload_n K dX11_isAnswer_11 3 rfl ?_
    refine j_iload K dX11_isAnswer_12 4 rfl ?_
    refine j_vI3 K (ci := 11) hr (fun v h => c_X11_has X v1 v3 v4 h) ml_X11_281 ⟨_, rfl, rfl⟩ rfl (Nat.le_of_ble_eq_true rfl) (by decide) rfl (by decide) (by decide) (Nat.le_of_ble_eq_true rfl) dX11_isAnswer_14 (fun t1 h hr => ?_)
    refine j_if_eq K dX11_isAnswer_17 (tgt := 49) (by decide) hr (fun hr => ?_) (fun hr => ?_)
    · refine j_iconst K dX11_isAnswer_49 (v := 0) rfl ?_
      exact j_zreturn K dX11_isAnswer_50 rfl rfl F hr rfl
    · refine j_iload K dX11_isAnswer_20 5 rfl ?_
      refine j_iconst K dX11_isAnswer_22 (v := -1) rfl ?_
      refine j_icmp_eq K dX11_isAnswer_23 (tgt := 36) (by decide) hr (fun hr => ?_) (fun hr => ?_)
      · exact j_sub [0, 1, 2] rfl (jb_X11_isAnswer_36 K _ _ _ F hr)
      · refine j_aload_n K dX11_isAnswer_26 0 rfl ?_
        refine j_iload_n K dX11_isAnswer_27 1 rfl ?_
        refine j_iload K dX11_isAnswer_28 5 rfl ?_
        refine j_vI2 K (ci := 11) hr (fun v h => c_X11_liesBelow X v1 v5 h) ml_X11_186 ⟨_, rfl, rfl⟩ rfl (Nat.le_of_ble_eq_true rfl) (by decide) rfl (by decide) (by decide) (Nat.le_of_ble_eq_true rfl) dX11_isAnswer_30 (fun t2 h hr => ?_)
        refine j_if_eq K dX11_isAnswer_33 (tgt := 49) (by decide) hr (fun hr => ?_) (fun hr => ?_)
        · refine j_iconst K dX11_isAnswer_49 (v := 0) rfl ?_
          exact j_zreturn K dX11_isAnswer_50 rfl rfl F hr rfl
        · exact j_sub [0, 1, 2] rfl (jb_X11_isAnswer_36 K _ _ _ F hr)
theorem c_X11_isAnswer (X : JX) (v1 : Int32) (v2 : Int32) (v3 : Int32) (v4 : Int32) (v5 : Int32) {r : Int32} (hr : f_X11_isAnswer X v1 v2 v3 v4 v5 = some r) : Cal LY yX11_isAnswer cX11_isAnswer 6 (some .boolean) 2 (fun ad => [.ref (ad (0)), .int v1, .int v2, .int v3, .int v4, .int v5]) X (fun ad => oI X r) :=
  Cal.of (own := RX11) (fun ad => [(0, .ref (ad (0))), (1, .int v1), (2, .int v2), (3, .int v3), (4, .int v4), (5, .int v5)]) (by decide) rfl (fun _ => Nat.le_of_ble_eq_true rfl) (fun _ => rfl) (fun κ K F => jf_X11_isAnswer K X v1 v2 v3 v4 v5 F hr)
theorem jb_X11_score_87 {κ : JK} (K : jOk 7 cX11_score RX11 (some .int) 1 κ) (X : JX) (v1 : Int32) (v2 : Int32) (v3 : Int32) (v4 : Int32) (v6 : Int32) (s0 : Int32) {r : Int32} (F : jFin LY false (oI X r) κ) (rec30 : Int32 → Int32 → Option Int32) (hrec30 : ∀ (v5 : Int32) (v6 : Int32), rec30 v5 v6 = some r → J LY 7 κ X 30 [(0, .ref (jad κ (0))), (1, .int v1), (2, .int v2), (3, .int v3), (4, .int v4), (5, .int v5), (6, .int v6)] []) (hr : b_X11_score_87 rec30 X v1 v2 v3 v4 v6 s0 = some r) : J LY 7 κ X 87 [(0, .ref (jad κ (0))), (1, .int v1), (2, .int v2), (3, .int v3), (4, .int v4), (6, .int v6)] [.int s0] := by
  unfold b_X11_score_87 at hr
  refine j_istore K dX11_score_87 (by decide) ?_
  refine j_iincV K dX11_score_89 (v := 1) 6 rfl rfl (by decide) hr (fun t4 hr => ?_)
  refine j_goto K dX11_score_92 (tgt := 30) (by decide) ?_
  exact j_sub [2, 3, 4, 5, 6, 1, 0] rfl (hrec30 _ _ hr)
theorem jl_X11_score_30 {κ : JK} (K : jOk 7 cX11_score RX11 (some .int) 1 κ) (X : JX) (v1 : Int32) (v2 : Int32) (v3 : Int32) (v4 : Int32) {r : Int32} (F : jFin LY false (oI X r) κ) : ∀ (v5 : Int32) (v6 : Int32), l_X11_score_30 X v1 v2 v3 v4 v5 v6 = some r → J LY 7 κ X 30 [(0, .ref (jad κ (0))), (1, .int v1), (2, .int v2), (3, .int v3), (4, .int v4), (5, .int v5), (6, .int v6)] [] := by
  refine j_loop2 (P := fun v5 v6 => J LY 7 κ X 30 [(0, .ref (jad κ (0))), (1, .int v1), (2, .int v2), (3, .int v3), (4, .int v4), (5, .int v5), (6, .int v6)] []) (fun rec30 hrec30 v5 v6 hr => ?_) 1000
  unfold lb_X11_score_30 at hr
  refine j_iload K dX11_score_30 6 rfl ?_
  refine j_iconst K dX11_score_32 (v := 1) rfl ?_
  refine j_iadd K dX11_score_33 ?_
  refine j_aload_n K dX11_score_34 0 rfl ?_
  refine j_get K (v := .ref (jad κ (23))) fl_X11_78 rfl (Nat.le_of_ble_eq_true rfl) (by decide) rfl dX11_score_35 ?_
  refine j_iload_n K dX11_score_38 1 rfl ?_
  refine j_iaload K (z := 60) rfl (Nat.le_of_ble_eq_true rfl) dX11_score_39 hr (fun hr => ?_)
  refine j_icmp_ge K dX11_score_40 (tgt := 95) (by decide) hr (fun hr => ?_) (fun hr => ?_)
  · refine j_iload K dX11_score_95 5 rfl ?_
    refine j_if_eq K dX11_score_97 (tgt := 108) (by decide) hr (fun hr => ?_) (fun hr => ?_)
    · refine j_iload K dX11_score_108 4 rfl ?_
      exact j_ireturn K dX11_score_110 rfl F hr rfl
    · refine j_iload K dX11_score_100 4 rfl ?_
      refine j_bipush K dX11_score_102 (v := 10) rfl ?_
      refine j_iadd K dX11_score_104 ?_
      refine j_goto K dX11_score_105 (tgt := 110) (by decide) ?_
      exact j_ireturn K dX11_score_110 rfl F hr rfl
  · refine j_iload K dX11_score_43 5 rfl ?_
    refine j_if_ne K dX11_score_45 (tgt := 82) (by decide) hr (fun hr => ?_) (fun hr => ?_)
    · refine j_iconst K dX11_score_82 (v := 1) rfl ?_
      refine j_goto K dX11_score_83 (tgt := 87) (by decide) ?_
      exact j_sub [0, 1, 2, 3, 4, 6] rfl (jb_X11_score_87 K _ _ _ _ _ _ _ F rec30 hrec30 hr)
    · refine j_aload_n K dX11_score_48 0 rfl ?_
      refine j_get K (v := .ref (jad κ (24))) fl_X11_81 rfl (Nat.le_of_ble_eq_true rfl) (by decide) rfl dX11_score_49 ?_
      refine j_bipush K dX11_score_52 (v := 20) rfl ?_
      refine j_iload_n K dX11_score_54 1 rfl ?_
      refine j_imul K dX11_score_55 ?_
      refine j_iload K dX11_score_56 6 rfl ?_
      refine j_iadd K dX11_score_58 ?_
      refine j_iaload K (z := 1200) rfl (Nat.le_of_ble_eq_true rfl) dX11_score_59 hr (fun hr => ?_)
      refine j_iload_n K dX11_score_60 2 rfl ?_
      refine j_icmp_ne K dX11_score_61 (tgt := 86) (by decide) hr (fun hr => ?_) (fun hr => ?_)
      · refine j_iconst K dX11_score_86 (v := 0) rfl ?_
        exact j_sub [0, 1, 2, 3, 4, 6] rfl (jb_X11_score_87 K _ _ _ _ _ _ _ F rec30 hrec30 hr)
      · refine j_aload_n K dX11_score_64 0 rfl ?_
        refine j_get K (v := .ref (jad κ (24))) fl_X11_81 rfl (Nat.le_of_ble_eq_true rfl) (by decide) rfl dX11_score_65 ?_
        refine j_bipush K dX11_score_68 (v := 20) rfl ?_
        refine j_iload_n K dX11_score_70 1 rfl ?_
        refine j_imul K dX11_score_71 ?_
        refine j_iload K dX11_score_72 6 rfl ?_
        refine j_iadd K dX11_score_74 ?_
        refine j_iconst K dX11_score_75 (v := 1) rfl ?_
        refine j_iadd K dX11_score_76 ?_
        refine j_iaload K (z := 1200) rfl (Nat.le_of_ble_eq_true rfl) dX11_score_77 hr (fun hr => ?_)
        refine j_iload_n K dX11_score_78 3 rfl ?_
        refine j_icmp_ne K dX11_score_79 (tgt := 86) (by decide) hr (fun hr => ?_) (fun hr => ?_)
        · refine j_iconst K dX11_score_86 (v := 0) rfl ?_
          exact j_sub [0, 1, 2, 3, 4, 6] rfl (jb_X11_score_87 K _ _ _ _ _ _ _ F rec30 hrec30 hr)
        · refine j_iconst K dX11_score_82 (v := 1) rfl ?_
          refine j_goto K dX11_score_83 (tgt := 87) (by decide) ?_
          exact j_sub [0, 1, 2, 3, 4, 6] rfl (jb_X11_score_87 K _ _ _ _ _ _ _ F rec30 hrec30 hr)
theorem jb_X11_score_21 {κ : JK} (K : jOk 7 cX11_score RX11 (some .int) 1 κ) (X : JX) (v1 : Int32) (v2 : Int32) (v3 : Int32) (s0 : Int32) (s1 : Int32) {r : Int32} (F : jFin LY false (oI X r) κ) (hr : b_X11_score_21 X v1 v2 v3 s0 s1 = some r) : J LY 7 κ X 21 [(0, .ref (jad κ (0))), (1, .int v1), (2, .int v2), (3, .int v3)] [.int s0, .int s1] := by
  unfold b_X11_score_21 at hr
  refine j_iadd K dX11_score_21 ?_
  refine j_istoreV K dX11_score_22 (by decide) hr (fun t3 hr => ?_)
  refine j_iconst K dX11_score_24 (v := 0) rfl ?_
  refine j_istore K dX11_score_25 (by decide) ?_
  refine j_iconst K dX11_score_27 (v := 0) rfl ?_
  refine j_istore K dX11_score_28 (by decide) ?_
  exact j_sub [3, 4, 5, 6, 2, 1, 0] rfl (jl_X11_score_30 K _ _ _ _ _ F _ _ hr)
theorem jf_X11_score {κ : JK} (K : jOk 7 cX11_score RX11 (some .int) 1 κ) (X : JX) (v1 : Int32) (v2 : Int32) (v3 : Int32) {r : Int32} (F : jFin LY false (oI X r) κ) (hr : f_X11_score X v1 v2 v3 = some r) : J LY 7 κ X 0 [(0, .ref (jad κ (0))), (1, .int v1), (2, .int v2), (3, .int v3)] [] := by
  unfold f_X11_score at hr
  refine j_aload_n K dX11_score_0 0 rfl ?_
  refine j_iload_n K dX11_score_1 1 rfl ?_
  refine j_iload_n K dX11_score_2 2 rfl ?_
  refine j_vI2 K (ci := 11) hr (fun v h => c_X11_often X v1 v2 h) ml_X11_277 ⟨_, rfl, rfl⟩ rfl (Nat.le_of_ble_eq_true rfl) (by decide) rfl (by decide) (by decide) (Nat.le_of_ble_eq_true rfl) dX11_score_3 (fun t1 h hr => ?_)
  refine j_iload_n K dX11_score_6 3 rfl ?_
  refine j_iconst K dX11_score_7 (v := -1) rfl ?_
  refine j_icmp_ne K dX11_score_8 (tgt := 15) (by decide) hr (fun hr => ?_) (fun hr => ?_)
  · refine j_aload_n K dX11_score_15 0 rfl ?_
    refine j_iload_n K dX11_score_16 1 rfl ?_
    refine j_iload_n K dX11_score_17 3 rfl ?_
    refine j_vI2 K (ci := 11) hr (fun v h => c_X11_often X v1 v3 h) ml_X11_277 ⟨_, rfl, rfl⟩ rfl (Nat.le_of_ble_eq_true rfl) (by decide) rfl (by decide) (by decide) (Nat.le_of_ble_eq_true rfl) dX11_score_18 (fun t2 h hr => ?_)
    exact j_sub [0, 1, 2, 3] rfl (jb_X11_score_21 K _ _ _ _ _ _ F hr)
  · refine j_iconst K dX11_score_11 (v := 0) rfl ?_
    refine j_goto K dX11_score_12 (tgt := 21) (by decide) ?_
    exact j_sub [0, 1, 2, 3] rfl (jb_X11_score_21 K _ _ _ _ _ _ F hr)
theorem c_X11_score (X : JX) (v1 : Int32) (v2 : Int32) (v3 : Int32) {r : Int32} (hr : f_X11_score X v1 v2 v3 = some r) : Cal LY yX11_score cX11_score 7 (some .int) 1 (fun ad => [.ref (ad (0)), .int v1, .int v2, .int v3]) X (fun ad => oI X r) :=
  Cal.of (own := RX11) (fun ad => [(0, .ref (ad (0))), (1, .int v1), (2, .int v2), (3, .int v3)]) (by decide) rfl (fun _ => Nat.le_of_ble_eq_true rfl) (fun _ => rfl) (fun κ K F => jf_X11_score K X v1 v2 v3 F hr)
theorem jb_X11_answer_189 {κ : JK} (K : jOk 10 cX11_answer RX11 (some .int) 3 κ) (X : JX) (v1 : Int32) (v2 : Int32) (v3 : Int32) (v4 : Int32) (v5 : Int32) {r : (Int32 × JX)} (F : jFin LY false (oM r) κ) (rec45 : Int32 → Option (Int32 × JX)) (hrec45 : ∀ (v5 : Int32), rec45 v5 = some r → J LY 10 κ X 45 [(0, .ref (jad κ (0))), (1, .int v1), (2, .int v2), (3, .int v3), (4, .int v4), (5, .int v5)] []) (hr : b_X11_answer_189 rec45 X v1 v2 v3 v4 v5 = some r) : J LY 10 κ X 189 [(0, .ref (jad κ (0))), (1, .int v1), (2, .int v2), (3, .int v3), (4, .int v4), (5, .int v5)] [] := by
  unfold b_X11_answer_189 at hr
  refine j_iincV K dX11_answer_189 (v := 1) 5 rfl rfl (by decide) hr (fun t8 hr => ?_)
  refine j_goto K dX11_answer_192 (tgt := 45) (by decide) ?_
  exact j_sub [1, 2, 3, 4, 5, 0] rfl (hrec45 _ hr)
theorem jb_X11_answer_164 {κ : JK} (K : jOk 10 cX11_answer RX11 (some .int) 3 κ) (X : JX) (v1 : Int32) (v2 : Int32) (v3 : Int32) (v4 : Int32) (v5 : Int32) (v7 : Int32) (v8 : Int32) (s0 : Int32) (s1 : Int32) {r : (Int32 × JX)} (F : jFin LY false (oM r) κ) (rec45 : Int32 → Option (Int32 × JX)) (hrec45 : ∀ (v5 : Int32), rec45 v5 = some r → J LY 10 κ X 45 [(0, .ref (jad κ (0))), (1, .int v1), (2, .int v2), (3, .int v3), (4, .int v4), (5, .int v5)] []) (rec83 : Int32 → Int32 → Option (Int32 × JX)) (hrec83 : ∀ (v6 : Int32) (v8 : Int32), rec83 v6 v8 = some r → J LY 10 κ X 83 [(0, .ref (jad κ (0))), (1, .int v1), (2, .int v2), (3, .int v3), (4, .int v4), (5, .int v5), (6, .int v6), (7, .int v7), (8, .int v8)] []) (hr : b_X11_answer_164 rec45 rec83 X v1 v2 v3 v4 v5 v7 v8 s0 s1 = some r) : J LY 10 κ X 164 [(0, .ref (jad κ (0))), (1, .int v1), (2, .int v2), (3, .int v3), (4, .int v4), (5, .int v5), (7, .int v7), (8, .int v8)] [.int s0, .int s1] := by
  unfold b_X11_answer_164 at hr
  refine j_iadd K dX11_answer_164 ?_
  refine j_istoreV K dX11_answer_165 (by decide) hr (fun t12 hr => ?_)
  refine j_iincV K dX11_answer_167 (v := 1) 8 rfl rfl (by decide) hr (fun t13 hr => ?_)
  refine j_goto K dX11_answer_170 (tgt := 83) (by decide) ?_
  exact j_sub [2, 3, 4, 5, 6, 7, 1, 8, 0] rfl (hrec83 _ _ hr)
theorem jb_X11_answer_117 {κ : JK} (K : jOk 10 cX11_answer RX11 (some .int) 3 κ) (X : JX) (v1 : Int32) (v2 : Int32) (v3 : Int32) (v4 : Int32) (v5 : Int32) (v6 : Int32) (v7 : Int32) (v8 : Int32) (s0 : Int32) {r : (Int32 × JX)} (F : jFin LY false (oM r) κ) (rec45 : Int32 → Option (Int32 × JX)) (hrec45 : ∀ (v5 : Int32), rec45 v5 = some r → J LY 10 κ X 45 [(0, .ref (jad κ (0))), (1, .int v1), (2, .int v2), (3, .int v3), (4, .int v4), (5, .int v5)] []) (rec83 : Int32 → Int32 → Option (Int32 × JX)) (hrec83 : ∀ (v6 : Int32) (v8 : Int32), rec83 v6 v8 = some r → J LY 10 κ X 83 [(0, .ref (jad κ (0))), (1, .int v1), (2, .int v2), (3, .int v3), (4, .int v4), (5, .int v5), (6, .int v6), (7, .int v7), (8, .int v8)] []) (hr : b_X11_answer_117 rec45 rec83 X v1 v2 v3 v4 v5 v6 v7 v8 s0 = some r) : J LY 10 κ X 117 [(0, .ref (jad κ (0))), (1, .int v1), (2, .int v2), (3, .int v3), (4, .int v4), (5, .int v5), (6, .int v6), (7, .int v7), (8, .int v8)] [.int s0] := by
  unfold b_X11_answer_117 at hr
  refine j_istore K dX11_answer_117 (by decide) ?_
  refine j_iload K dX11_answer_119 7 rfl ?_
  refine j_iload K dX11_answer_121 0 rfl ?_
  refine j_if_eq K dX11_answer_123 (tgt := 163) (by decide) hr (fun hr => ?_) (fun hr => ?_)
  · refine j_iconst K dX11_answer_163 (v := 0) rfl ?_
    exact j_sub [1, 2, 3, 4, 5, 6, 8, 9] rfl (jb_X11_answer_164 K _ _ _ _ _ _ _ _ _ _ F rec45 hrec45 rec83 hrec83 hr)
  · refine j_aload_n K dX11_answer_126 1 rfl ?_
    refine j_iload K dX11_answer_127 9 rfl ?_
    refine j_iload_n K dX11_answer_129 3 rfl ?_
    refine j_iload_n K dX11_answer_130 4 rfl ?_
    refine j_vI3 K (ci := 11) hr (fun v h => c_X11_score X v8 v2 v3 h) ml_X11_295 ⟨_, rfl, rfl⟩ rfl (Nat.le_of_ble_eq_true rfl) (by decide) rfl (by decide) (by decide) (Nat.le_of_ble_eq_true rfl) dX11_answer_131 (fun t10 h hr => ?_)
    refine j_iload K dX11_answer_134 8 rfl ?_
    refine j_icmp_gt K dX11_answer_136 (tgt := 159) (by decide) hr (fun hr => ?_) (fun hr => ?_)
    · refine j_iconst K dX11_answer_159 (v := 1) rfl ?_
      refine j_goto K dX11_answer_160 (tgt := 164) (by decide) ?_
      exact j_sub [1, 2, 3, 4, 5, 6, 8, 9] rfl (jb_X11_answer_164 K _ _ _ _ _ _ _ _ _ _ F rec45 hrec45 rec83 hrec83 hr)
    · refine j_aload_n K dX11_answer_139 1 rfl ?_
      refine j_iload K dX11_answer_140 9 rfl ?_
      refine j_iload_n K dX11_answer_142 3 rfl ?_
      refine j_iload_n K dX11_answer_143 4 rfl ?_
      refine j_vI3 K (ci := 11) hr (fun v h => c_X11_score X v8 v2 v3 h) ml_X11_295 ⟨_, rfl, rfl⟩ rfl (Nat.le_of_ble_eq_true rfl) (by decide) rfl (by decide) (by decide) (Nat.le_of_ble_eq_true rfl) dX11_answer_144 (fun t11 h hr => ?_)
      refine j_iload K dX11_answer_147 8 rfl ?_
      refine j_icmp_ne K dX11_answer_149 (tgt := 163) (by decide) hr (fun hr => ?_) (fun hr => ?_)
      · refine j_iconst K dX11_answer_163 (v := 0) rfl ?_
        exact j_sub [1, 2, 3, 4, 5, 6, 8, 9] rfl (jb_X11_answer_164 K _ _ _ _ _ _ _ _ _ _ F rec45 hrec45 rec83 hrec83 hr)
      · refine j_iload K dX11_answer_152 9 rfl ?_
        refine j_iload K dX11_answer_154 6 rfl ?_
        refine j_icmp_ge K dX11_answer_156 (tgt := 163) (by decide) hr (fun hr => ?_) (fun hr => ?_)
        · refine j_iconst K dX11_answer_163 (v := 0) rfl ?_
          exact j_sub [1, 2, 3, 4, 5, 6, 8, 9] rfl (jb_X11_answer_164 K _ _ _ _ _ _ _ _ _ _ F rec45 hrec45 rec83 hrec83 hr)
        · refine j_iconst K dX11_answer_159 (v := 1) rfl ?_
          refine j_goto K dX11_answer_160 (tgt := 164) (by decide) ?_
          exact j_sub [1, 2, 3, 4, 5, 6, 8, 9] rfl (jb_X11_answer_164 K _ _ _ _ _ _ _ _ _ _ F rec45 hrec45 rec83 hrec83 hr)
theorem jl_X11_answer_83 {κ : JK} (K : jOk 10 cX11_answer RX11 (some .int) 3 κ) (X : JX) (v1 : Int32) (v2 : Int32) (v3 : Int32) (v4 : Int32) (v5 : Int32) (v7 : Int32) {r : (Int32 × JX)} (F : jFin LY false (oM r) κ) (rec45 : Int32 → Option (Int32 × JX)) (hrec45 : ∀ (v5 : Int32), rec45 v5 = some r → J LY 10 κ X 45 [(0, .ref (jad κ (0))), (1, .int v1), (2, .int v2), (3, .int v3), (4, .int v4), (5, .int v5)] []) : ∀ (v6 : Int32) (v8 : Int32), l_X11_answer_83 rec45 X v1 v2 v3 v4 v5 v7 v6 v8 = some r → J LY 10 κ X 83 [(0, .ref (jad κ (0))), (1, .int v1), (2, .int v2), (3, .int v3), (4, .int v4), (5, .int v5), (6, .int v6), (7, .int v7), (8, .int v8)] [] := by
  refine j_loop2 (P := fun v6 v8 => J LY 10 κ X 83 [(0, .ref (jad κ (0))), (1, .int v1), (2, .int v2), (3, .int v3), (4, .int v4), (5, .int v5), (6, .int v6), (7, .int v7), (8, .int v8)] []) (fun rec83 hrec83 v6 v8 hr => ?_) 1000
  unfold lb_X11_answer_83 at hr
  refine j_iload K dX11_answer_83 8 rfl ?_
  refine j_aload_n K dX11_answer_85 0 rfl ?_
  refine j_get K (v := .int (X (0) 2)) fl_X11_118 rfl (Nat.le_of_ble_eq_true rfl) (by decide) rfl dX11_answer_86 ?_
  refine j_icmp_ge K dX11_answer_89 (tgt := 173) (by decide) hr (fun hr => ?_) (fun hr => ?_)
  · refine j_iload K dX11_answer_173 6 rfl ?_
    refine j_iload K dX11_answer_175 4 rfl ?_
    refine j_icmp_ne K dX11_answer_177 (tgt := 189) (by decide) hr (fun hr => ?_) (fun hr => ?_)
    · exact j_sub [0, 1, 2, 3, 4, 5] rfl (jb_X11_answer_189 K _ _ _ _ _ _ F rec45 hrec45 hr)
    · refine j_bipush K dX11_answer_180 (v := 100) rfl ?_
      refine j_iload K dX11_answer_182 7 rfl ?_
      refine j_imul K dX11_answer_184 ?_
      refine j_iload K dX11_answer_185 5 rfl ?_
      refine j_iadd K dX11_answer_187 ?_
      exact j_ireturn K dX11_answer_188 rfl F hr rfl
  · refine j_iload K dX11_answer_92 8 rfl ?_
    refine j_iload K dX11_answer_94 5 rfl ?_
    refine j_icmp_eq K dX11_answer_96 (tgt := 116) (by decide) hr (fun hr => ?_) (fun hr => ?_)
    · refine j_iconst K dX11_answer_116 (v := 0) rfl ?_
      exact j_sub [0, 1, 2, 3, 4, 5, 6, 7, 8] rfl (jb_X11_answer_117 K _ _ _ _ _ _ _ _ _ _ F rec45 hrec45 rec83 hrec83 hr)
    · refine j_aload_n K dX11_answer_99 0 rfl ?_
      refine j_iload K dX11_answer_100 8 rfl ?_
      refine j_iload_n K dX11_answer_102 1 rfl ?_
      refine j_iload_n K dX11_answer_103 2 rfl ?_
      refine j_iload_n K dX11_answer_104 3 rfl ?_
      refine j_iconst K dX11_answer_105 (v := -1) rfl ?_
      refine j_vI5 K (ci := 11) hr (fun v h => c_X11_isAnswer X v8 v1 v2 v3 (-1) h) ml_X11_291 ⟨_, rfl, rfl⟩ rfl (Nat.le_of_ble_eq_true rfl) (by decide) rfl (by decide) (by decide) (Nat.le_of_ble_eq_true rfl) dX11_answer_106 (fun t9 h hr => ?_)
      refine j_if_eq K dX11_answer_109 (tgt := 116) (by decide) hr (fun hr => ?_) (fun hr => ?_)
      · refine j_iconst K dX11_answer_116 (v := 0) rfl ?_
        exact j_sub [0, 1, 2, 3, 4, 5, 6, 7, 8] rfl (jb_X11_answer_117 K _ _ _ _ _ _ _ _ _ _ F rec45 hrec45 rec83 hrec83 hr)
      · refine j_iconst K dX11_answer_112 (v := 1) rfl ?_
        refine j_goto K dX11_answer_113 (tgt := 117) (by decide) ?_
        exact j_sub [0, 1, 2, 3, 4, 5, 6, 7, 8] rfl (jb_X11_answer_117 K _ _ _ _ _ _ _ _ _ _ F rec45 hrec45 rec83 hrec83 hr)
theorem jl_X11_answer_45 {κ : JK} (K : jOk 10 cX11_answer RX11 (some .int) 3 κ) (X : JX) (v1 : Int32) (v2 : Int32) (v3 : Int32) (v4 : Int32) {r : (Int32 × JX)} (F : jFin LY false (oM r) κ) : ∀ (v5 : Int32), l_X11_answer_45 X v1 v2 v3 v4 v5 = some r → J LY 10 κ X 45 [(0, .ref (jad κ (0))), (1, .int v1), (2, .int v2), (3, .int v3), (4, .int v4), (5, .int v5)] [] := by
  refine j_loop1 (P := fun v5 => J LY 10 κ X 45 [(0, .ref (jad κ (0))), (1, .int v1), (2, .int v2), (3, .int v3), (4, .int v4), (5, .int v5)] []) (fun rec45 hrec45 v5 hr => ?_) 1000
  unfold lb_X11_answer_45 at hr
  refine j_iload K dX11_answer_45 5 rfl ?_
  refine j_aload_n K dX11_answer_47 0 rfl ?_
  refine j_get K (v := .int (X (0) 2)) fl_X11_118 rfl (Nat.le_of_ble_eq_true rfl) (by decide) rfl dX11_answer_48 ?_
  refine j_icmp_ge K dX11_answer_51 (tgt := 195) (by decide) hr (fun hr => ?_) (fun hr => ?_)
  · refine j_aload_n K dX11_answer_195 0 rfl ?_
    refine j_iconst K dX11_answer_196 (v := 1) rfl ?_
    refine j_vM1 K (ci := 11) hr (fun v h => c_X11_fails X (1) h) ml_X11_142 ⟨_, rfl, rfl⟩ rfl (Nat.le_of_ble_eq_true rfl) (by decide) rfl (by decide) (by decide) (Nat.le_of_ble_eq_true rfl) dX11_answer_197 (fun t5 h hr => ?_)
    exact j_ireturn K dX11_answer_200 rfl F hr rfl
  · refine j_aload_n K dX11_answer_54 0 rfl ?_
    refine j_iload K dX11_answer_55 5 rfl ?_
    refine j_iload_n K dX11_answer_57 1 rfl ?_
    refine j_iload_n K dX11_answer_58 2 rfl ?_
    refine j_iload_n K dX11_answer_59 3 rfl ?_
    refine j_iconst K dX11_answer_60 (v := -1) rfl ?_
    refine j_vI5 K (ci := 11) hr (fun v h => c_X11_isAnswer X v5 v1 v2 v3 (-1) h) ml_X11_291 ⟨_, rfl, rfl⟩ rfl (Nat.le_of_ble_eq_true rfl) (by decide) rfl (by decide) (by decide) (Nat.le_of_ble_eq_true rfl) dX11_answer_61 (fun t6 h hr => ?_)
    refine j_if_eq K dX11_answer_64 (tgt := 189) (by decide) hr (fun hr => ?_) (fun hr => ?_)
    · exact j_sub [0, 1, 2, 3, 4, 5] rfl (jb_X11_answer_189 K _ _ _ _ _ _ F rec45 hrec45 hr)
    · refine j_iconst K dX11_answer_67 (v := 0) rfl ?_
      refine j_istore K dX11_answer_68 (by decide) ?_
      refine j_aload_n K dX11_answer_70 1 rfl ?_
      refine j_iload K dX11_answer_71 6 rfl ?_
      refine j_iload_n K dX11_answer_73 3 rfl ?_
      refine j_iload_n K dX11_answer_74 4 rfl ?_
      refine j_vI3 K (ci := 11) hr (fun v h => c_X11_score X v5 v2 v3 h) ml_X11_295 ⟨_, rfl, rfl⟩ rfl (Nat.le_of_ble_eq_true rfl) (by decide) rfl (by decide) (by decide) (Nat.le_of_ble_eq_true rfl) dX11_answer_75 (fun t7 h hr => ?_)
      refine j_istore K dX11_answer_78 (by decide) ?_
      refine j_iconst K dX11_answer_80 (v := 0) rfl ?_
      refine j_istore K dX11_answer_81 (by decide) ?_
      exact j_sub [3, 4, 5, 6, 7, 8, 2, 1, 0] rfl (jl_X11_answer_83 K _ _ _ _ _ _ _ F rec45 hrec45 _ _ hr)
theorem jb_X11_answer_30 {κ : JK} (K : jOk 10 cX11_answer RX11 (some .int) 3 κ) (X : JX) (v1 : Int32) (v2 : Int32) (v3 : Int32) (v4 : Int32) (s0 : Int32) {r : (Int32 × JX)} (F : jFin LY false (oM r) κ) (hr : b_X11_answer_30 X v1 v2 v3 v4 s0 = some r) : J LY 10 κ X 30 [(0, .ref (jad κ (0))), (1, .int v1), (2, .int v2), (3, .int v3), (4, .int v4)] [.int s0, .ref (jad κ (0))] := by
  unfold b_X11_answer_30 at hr
  refine j_putiV K fp_X11_121 rfl (Nat.le_of_ble_eq_true rfl) (by decide) (fun _ => Nat.le_of_ble_eq_true rfl) (fun _ => rfl) dX11_answer_30 hr (fun X4 hr => ?_)
  refine j_aload_n K dX11_answer_33 0 rfl ?_
  refine j_get K (v := .int (X4 (0) 0)) fl_X11_121 rfl (Nat.le_of_ble_eq_true rfl) (by decide) rfl dX11_answer_34 ?_
  refine j_if_le K dX11_answer_37 (tgt := 42) (by decide) hr (fun hr => ?_) (fun hr => ?_)
  · refine j_iconst K dX11_answer_42 (v := 0) rfl ?_
    refine j_istore K dX11_answer_43 (by decide) ?_
    exact j_sub [1, 2, 3, 4, 5, 0] rfl (jl_X11_answer_45 K _ _ _ _ _ F _ hr)
  · refine j_iconst K dX11_answer_40 (v := 0) rfl ?_
    exact j_ireturn K dX11_answer_41 rfl F hr rfl
theorem jf_X11_answer {κ : JK} (K : jOk 10 cX11_answer RX11 (some .int) 3 κ) (X : JX) (v1 : Int32) (v2 : Int32) (v3 : Int32) (v4 : Int32) {r : (Int32 × JX)} (F : jFin LY false (oM r) κ) (hr : f_X11_answer X v1 v2 v3 v4 = some r) : J LY 10 κ X 0 [(0, .ref (jad κ (0))), (1, .int v1), (2, .int v2), (3, .int v3), (4, .int v4)] [] := by
  unfold f_X11_answer at hr
  refine j_iload_n K dX11_answer_0 1 rfl ?_
  refine j_iconst K dX11_answer_1 (v := 0) rfl ?_
  refine j_iconst K dX11_answer_2 (v := 3) rfl ?_
  refine j_sI3 K hr (fun v h => c_X11_in X v1 (0) (3) h) ms_X11_124 rfl (by decide) (by decide) (Nat.le_of_ble_eq_true rfl) dX11_answer_3 (fun t1 h hr => ?_)
  refine j_if_ne K dX11_answer_6 (tgt := 15) (by decide) hr (fun hr => ?_) (fun hr => ?_)
  · refine j_aload_n K dX11_answer_15 0 rfl ?_
    refine j_aload_n K dX11_answer_16 0 rfl ?_
    refine j_iload_n K dX11_answer_17 2 rfl ?_
    refine j_iload_n K dX11_answer_18 3 rfl ?_
    refine j_vI2 K (ci := 11) hr (fun v h => c_X11_areWords X v2 v3 h) ml_X11_284 ⟨_, rfl, rfl⟩ rfl (Nat.le_of_ble_eq_true rfl) (by decide) rfl (by decide) (by decide) (Nat.le_of_ble_eq_true rfl) dX11_answer_19 (fun t2 h hr => ?_)
    refine j_if_eq K dX11_answer_22 (tgt := 29) (by decide) hr (fun hr => ?_) (fun hr => ?_)
    · refine j_iconst K dX11_answer_29 (v := 2) rfl ?_
      exact j_sub [0, 1, 2, 3, 4] rfl (jb_X11_answer_30 K _ _ _ _ _ _ F hr)
    · refine j_iconst K dX11_answer_25 (v := 0) rfl ?_
      refine j_goto K dX11_answer_26 (tgt := 30) (by decide) ?_
      exact j_sub [0, 1, 2, 3, 4] rfl (jb_X11_answer_30 K _ _ _ _ _ _ F hr)
  · refine j_aload_n K dX11_answer_9 0 rfl ?_
    refine j_iconst K dX11_answer_10 (v := 1) rfl ?_
    refine j_vM1 K (ci := 11) hr (fun v h => c_X11_fails X (1) h) ml_X11_142 ⟨_, rfl, rfl⟩ rfl (Nat.le_of_ble_eq_true rfl) (by decide) rfl (by decide) (by decide) (Nat.le_of_ble_eq_true rfl) dX11_answer_11 (fun t3 h hr => ?_)
    exact j_ireturn K dX11_answer_14 rfl F hr rfl
theorem c_X11_answer (X : JX) (v1 : Int32) (v2 : Int32) (v3 : Int32) (v4 : Int32) {r : (Int32 × JX)} (hr : f_X11_answer X v1 v2 v3 v4 = some r) : Cal LY yX11_answer cX11_answer 10 (some .int) 3 (fun ad => [.ref (ad (0)), .int v1, .int v2, .int v3, .int v4]) X (fun ad => oM r) :=
  Cal.of (own := RX11) (fun ad => [(0, .ref (ad (0))), (1, .int v1), (2, .int v2), (3, .int v3), (4, .int v4)]) (by decide) rfl (fun _ => Nat.le_of_ble_eq_true rfl) (fun _ => rfl) (fun κ K F => jf_X11_answer K X v1 v2 v3 v4 F hr)
theorem jb_X11_canAsk_55 {κ : JK} (K : jOk 6 cX11_canAsk RX11 (some .boolean) 2 κ) (X : JX) (s0 : Int32) {r : (Int32 × JX)} (F : jFin LY false (oM r) κ) (hr : b_X11_canAsk_55 X s0 = some r) : J LY 6 κ X 55 [(0, .ref (jad κ (0)))] [.int s0, .ref (jad κ (0))] := by
  unfold b_X11_canAsk_55 at hr
  refine j_putiV K fp_X11_121 rfl (Nat.le_of_ble_eq_true rfl) (by decide) (fun _ => Nat.le_of_ble_eq_true rfl) (fun _ => rfl) dX11_canAsk_55 hr (fun X4 hr => ?_)
  refine j_aload_n K dX11_canAsk_58 0 rfl ?_
  refine j_get K (v := .int (X4 (0) 0)) fl_X11_121 rfl (Nat.le_of_ble_eq_true rfl) (by decide) rfl dX11_canAsk_59 ?_
  refine j_if_ne K dX11_canAsk_62 (tgt := 69) (by decide) hr (fun hr => ?_) (fun hr => ?_)
  · refine j_iconst K dX11_canAsk_69 (v := 0) rfl ?_
    exact j_zreturn K dX11_canAsk_70 rfl rfl F hr rfl
  · refine j_iconst K dX11_canAsk_65 (v := 1) rfl ?_
    refine j_goto K dX11_canAsk_66 (tgt := 70) (by decide) ?_
    exact j_zreturn K dX11_canAsk_70 rfl rfl F hr rfl
theorem jb_X11_canAsk_29 {κ : JK} (K : jOk 6 cX11_canAsk RX11 (some .boolean) 2 κ) (X : JX) (v2 : Int32) (v3 : Int32) (s0 : Int32) {r : (Int32 × JX)} (F : jFin LY false (oM r) κ) (hr : b_X11_canAsk_29 X v2 v3 s0 = some r) : J LY 6 κ X 29 [(0, .ref (jad κ (0))), (2, .int v2), (3, .int v3)] [.int s0] := by
  unfold b_X11_canAsk_29 at hr
  refine j_istore K dX11_canAsk_29 (by decide) ?_
  refine j_aload_n K dX11_canAsk_31 1 rfl ?_
  refine j_iload K dX11_canAsk_32 0 rfl ?_
  refine j_if_ne K dX11_canAsk_34 (tgt := 41) (by decide) hr (fun hr => ?_) (fun hr => ?_)
  · refine j_aload_n K dX11_canAsk_41 1 rfl ?_
    refine j_iload_n K dX11_canAsk_42 2 rfl ?_
    refine j_iload_n K dX11_canAsk_43 3 rfl ?_
    refine j_vI2 K (ci := 11) hr (fun v h => c_X11_areWords X v2 v3 h) ml_X11_284 ⟨_, rfl, rfl⟩ rfl (Nat.le_of_ble_eq_true rfl) (by decide) rfl (by decide) (by decide) (Nat.le_of_ble_eq_true rfl) dX11_canAsk_44 (fun t3 h hr => ?_)
    refine j_if_eq K dX11_canAsk_47 (tgt := 54) (by decide) hr (fun hr => ?_) (fun hr => ?_)
    · refine j_iconst K dX11_canAsk_54 (v := 2) rfl ?_
      exact j_sub [1] rfl (jb_X11_canAsk_55 K _ _ F hr)
    · refine j_iconst K dX11_canAsk_50 (v := 0) rfl ?_
      refine j_goto K dX11_canAsk_51 (tgt := 55) (by decide) ?_
      exact j_sub [1] rfl (jb_X11_canAsk_55 K _ _ F hr)
  · refine j_iconst K dX11_canAsk_37 (v := 1) rfl ?_
    refine j_goto K dX11_canAsk_38 (tgt := 55) (by decide) ?_
    exact j_sub [1] rfl (jb_X11_canAsk_55 K _ _ F hr)
theorem jf_X11_canAsk {κ : JK} (K : jOk 6 cX11_canAsk RX11 (some .boolean) 2 κ) (X : JX) (v1 : Int32) (v2 : Int32) (v3 : Int32) (v4 : Int32) {r : (Int32 × JX)} (F : jFin LY false (oM r) κ) (hr : f_X11_canAsk X v1 v2 v3 v4 = some r) : J LY 6 κ X 0 [(0, .ref (jad κ (0))), (1, .int v1), (2, .int v2), (3, .int v3), (4, .int v4)] [] := by
  unfold f_X11_canAsk at hr
  refine j_iload_n K dX11_canAsk_0 1 rfl ?_
  refine j_iconst K dX11_canAsk_1 (v := 0) rfl ?_
  refine j_iconst K dX11_canAsk_2 (v := 3) rfl ?_
  refine j_sI3 K hr (fun v h => c_X11_in X v1 (0) (3) h) ms_X11_124 rfl (by decide) (by decide) (Nat.le_of_ble_eq_true rfl) dX11_canAsk_3 (fun t1 h hr => ?_)
  refine j_if_eq K dX11_canAsk_6 (tgt := 28) (by decide) hr (fun hr => ?_) (fun hr => ?_)
  · refine j_iconst K dX11_canAsk_28 (v := 0) rfl ?_
    exact j_sub [0, 2, 3] rfl (jb_X11_canAsk_29 K _ _ _ _ F hr)
  · refine j_iload K dX11_canAsk_9 4 rfl ?_
    refine j_iconst K dX11_canAsk_11 (v := -1) rfl ?_
    refine j_aload_n K dX11_canAsk_12 0 rfl ?_
    refine j_get K (v := .int (X (0) 2)) fl_X11_118 rfl (Nat.le_of_ble_eq_true rfl) (by decide) rfl dX11_canAsk_13 ?_
    refine j_iconst K dX11_canAsk_16 (v := 1) rfl ?_
    refine j_isub K dX11_canAsk_17 ?_
    refine j_sI3 K hr (fun v h => c_X11_in X v4 (-1) ((X (0) 2) - (1)) h) ms_X11_124 rfl (by decide) (by decide) (Nat.le_of_ble_eq_true rfl) dX11_canAsk_18 (fun t2 h hr => ?_)
    refine j_if_eq K dX11_canAsk_21 (tgt := 28) (by decide) hr (fun hr => ?_) (fun hr => ?_)
    · refine j_iconst K dX11_canAsk_28 (v := 0) rfl ?_
      exact j_sub [0, 2, 3] rfl (jb_X11_canAsk_29 K _ _ _ _ F hr)
    · refine j_iconst K dX11_canAsk_24 (v := 1) rfl ?_
      refine j_goto K dX11_canAsk_25 (tgt := 29) (by decide) ?_
      exact j_sub [0, 2, 3] rfl (jb_X11_canAsk_29 K _ _ _ _ F hr)
theorem c_X11_canAsk (X : JX) (v1 : Int32) (v2 : Int32) (v3 : Int32) (v4 : Int32) {r : (Int32 × JX)} (hr : f_X11_canAsk X v1 v2 v3 v4 = some r) : Cal LY yX11_canAsk cX11_canAsk 6 (some .boolean) 2 (fun ad => [.ref (ad (0)), .int v1, .int v2, .int v3, .int v4]) X (fun ad => oM r) :=
  Cal.of (own := RX11) (fun ad => [(0, .ref (ad (0))), (1, .int v1), (2, .int v2), (3, .int v3), (4, .int v4)]) (by decide) rfl (fun _ => Nat.le_of_ble_eq_true rfl) (fun _ => rfl) (fun κ K F => jf_X11_canAsk K X v1 v2 v3 v4 F hr)
theorem jb_X11_answers_52 {κ : JK} (K : jOk 8 cX11_answers RX11 (some .int) 3 κ) (X : JX) (v1 : Int32) (v2 : Int32) (v3 : Int32) (v4 : Int32) (v5 : Int32) (v7 : Int32) (s0 : Int32) (s1 : Int32) {r : (Int32 × JX)} (F : jFin LY false (oM r) κ) (rec17 : Int32 → Int32 → Option (Int32 × JX)) (hrec17 : ∀ (v6 : Int32) (v7 : Int32), rec17 v6 v7 = some r → J LY 8 κ X 17 [(0, .ref (jad κ (0))), (1, .int v1), (2, .int v2), (3, .int v3), (4, .int v4), (5, .int v5), (6, .int v6), (7, .int v7)] []) (hr : b_X11_answers_52 rec17 X v1 v2 v3 v4 v5 v7 s0 s1 = some r) : J LY 8 κ X 52 [(0, .ref (jad κ (0))), (1, .int v1), (2, .int v2), (3, .int v3), (4, .int v4), (5, .int v5), (7, .int v7)] [.int s0, .int s1] := by
  unfold b_X11_answers_52 at hr
  refine j_iadd K dX11_answers_52 ?_
  refine j_istoreV K dX11_answers_53 (by decide) hr (fun t3 hr => ?_)
  refine j_iincV K dX11_answers_55 (v := 1) 7 rfl rfl (by decide) hr (fun t4 hr => ?_)
  refine j_goto K dX11_answers_58 (tgt := 17) (by decide) ?_
  exact j_sub [2, 3, 4, 5, 6, 7, 1, 0] rfl (hrec17 _ _ hr)
theorem jl_X11_answers_17 {κ : JK} (K : jOk 8 cX11_answers RX11 (some .int) 3 κ) (X : JX) (v1 : Int32) (v2 : Int32) (v3 : Int32) (v4 : Int32) (v5 : Int32) {r : (Int32 × JX)} (F : jFin LY false (oM r) κ) : ∀ (v6 : Int32) (v7 : Int32), l_X11_answers_17 X v1 v2 v3 v4 v5 v6 v7 = some r → J LY 8 κ X 17 [(0, .ref (jad κ (0))), (1, .int v1), (2, .int v2), (3, .int v3), (4, .int v4), (5, .int v5), (6, .int v6), (7, .int v7)] [] := by
  refine j_loop2 (P := fun v6 v7 => J LY 8 κ X 17 [(0, .ref (jad κ (0))), (1, .int v1), (2, .int v2), (3, .int v3), (4, .int v4), (5, .int v5), (6, .int v6), (7, .int v7)] []) (fun rec17 hrec17 v6 v7 hr => ?_) 1000
  unfold lb_X11_answers_17 at hr
  refine j_iload K dX11_answers_17 7 rfl ?_
  refine j_aload_n K dX11_answers_19 0 rfl ?_
  refine j_get K (v := .int (X (0) 2)) fl_X11_118 rfl (Nat.le_of_ble_eq_true rfl) (by decide) rfl dX11_answers_20 ?_
  refine j_icmp_ge K dX11_answers_23 (tgt := 61) (by decide) hr (fun hr => ?_) (fun hr => ?_)
  · refine j_iload K dX11_answers_61 6 rfl ?_
    exact j_ireturn K dX11_answers_63 rfl F hr rfl
  · refine j_iload K dX11_answers_26 5 rfl ?_
    refine j_if_eq K dX11_answers_28 (tgt := 61) (by decide) hr (fun hr => ?_) (fun hr => ?_)
    · refine j_iload K dX11_answers_61 6 rfl ?_
      exact j_ireturn K dX11_answers_63 rfl F hr rfl
    · refine j_iload K dX11_answers_31 6 rfl ?_
      refine j_aload_n K dX11_answers_33 0 rfl ?_
      refine j_iload K dX11_answers_34 7 rfl ?_
      refine j_iload_n K dX11_answers_36 1 rfl ?_
      refine j_iload_n K dX11_answers_37 2 rfl ?_
      refine j_iload_n K dX11_answers_38 3 rfl ?_
      refine j_iload K dX11_answers_39 4 rfl ?_
      refine j_vI5 K (ci := 11) hr (fun v h => c_X11_isAnswer X v7 v1 v2 v3 v4 h) ml_X11_291 ⟨_, rfl, rfl⟩ rfl (Nat.le_of_ble_eq_true rfl) (by decide) rfl (by decide) (by decide) (Nat.le_of_ble_eq_true rfl) dX11_answers_41 (fun t2 h hr => ?_)
      refine j_if_eq K dX11_answers_44 (tgt := 51) (by decide) hr (fun hr => ?_) (fun hr => ?_)
      · refine j_iconst K dX11_answers_51 (v := 0) rfl ?_
        exact j_sub [0, 1, 2, 3, 4, 5, 7] rfl (jb_X11_answers_52 K _ _ _ _ _ _ _ _ _ F rec17 hrec17 hr)
      · refine j_iconst K dX11_answers_47 (v := 1) rfl ?_
        refine j_goto K dX11_answers_48 (tgt := 52) (by decide) ?_
        exact j_sub [0, 1, 2, 3, 4, 5, 7] rfl (jb_X11_answers_52 K _ _ _ _ _ _ _ _ _ F rec17 hrec17 hr)
theorem jf_X11_answers {κ : JK} (K : jOk 8 cX11_answers RX11 (some .int) 3 κ) (X : JX) (v1 : Int32) (v2 : Int32) (v3 : Int32) (v4 : Int32) {r : (Int32 × JX)} (F : jFin LY false (oM r) κ) (hr : f_X11_answers X v1 v2 v3 v4 = some r) : J LY 8 κ X 0 [(0, .ref (jad κ (0))), (1, .int v1), (2, .int v2), (3, .int v3), (4, .int v4)] [] := by
  unfold f_X11_answers at hr
  refine j_aload_n K dX11_answers_0 0 rfl ?_
  refine j_iload_n K dX11_answers_1 1 rfl ?_
  refine j_iload_n K dX11_answers_2 2 rfl ?_
  refine j_iload_n K dX11_answers_3 3 rfl ?_
  refine j_iload K dX11_answers_4 4 rfl ?_
  refine j_vM4 K (ci := 11) hr (fun v h => c_X11_canAsk X v1 v2 v3 v4 h) ml_X11_287 ⟨_, rfl, rfl⟩ rfl (Nat.le_of_ble_eq_true rfl) (by decide) rfl (by decide) (by decide) (Nat.le_of_ble_eq_true rfl) dX11_answers_6 (fun t1 h hr => ?_)
  refine j_istore K dX11_answers_9 (by decide) ?_
  refine j_iconst K dX11_answers_11 (v := 0) rfl ?_
  refine j_istore K dX11_answers_12 (by decide) ?_
  refine j_iconst K dX11_answers_14 (v := 0) rfl ?_
  refine j_istore K dX11_answers_15 (by decide) ?_
  exact j_sub [3, 4, 5, 6, 7, 2, 1, 0] rfl (jl_X11_answers_17 K _ _ _ _ _ _ F _ _ hr)
theorem c_X11_answers (X : JX) (v1 : Int32) (v2 : Int32) (v3 : Int32) (v4 : Int32) {r : (Int32 × JX)} (hr : f_X11_answers X v1 v2 v3 v4 = some r) : Cal LY yX11_answers cX11_answers 8 (some .int) 3 (fun ad => [.ref (ad (0)), .int v1, .int v2, .int v3, .int v4]) X (fun ad => oM r) :=
  Cal.of (own := RX11) (fun ad => [(0, .ref (ad (0))), (1, .int v1), (2, .int v2), (3, .int v3), (4, .int v4)]) (by decide) rfl (fun _ => Nat.le_of_ble_eq_true rfl) (fun _ => rfl) (fun κ K F => jf_X11_answers K X v1 v2 v3 v4 F hr)
theorem jb_X11_answersAnew_227 {κ : JK} (K : jOk 13 cX11_answersAnew RX11 (some .int) 3 κ) (X : JX) (v1 : Int32) (v2 : Int32) (v3 : Int32) (v4 : Int32) (v5 : Int32) (v6 : Int32) (v7 : Int32) {r : (Int32 × JX)} (F : jFin LY false (oM r) κ) (rec17 : JX → Int32 → Int32 → Option (Int32 × JX)) (hrec17 : ∀ (X : JX) (v6 : Int32) (v7 : Int32), rec17 X v6 v7 = some r → J LY 13 κ X 17 [(0, .ref (jad κ (0))), (1, .int v1), (2, .int v2), (3, .int v3), (4, .int v4), (5, .int v5), (6, .int v6), (7, .int v7)] []) (hr : b_X11_answersAnew_227 rec17 X v1 v2 v3 v4 v5 v6 v7 = some r) : J LY 13 κ X 227 [(0, .ref (jad κ (0))), (1, .int v1), (2, .int v2), (3, .int v3), (4, .int v4), (5, .int v5), (6, .int v6), (7, .int v7)] [] := by
  unfold b_X11_answersAnew_227 at hr
  refine j_iincV K dX11_answersAnew_227 (v := 1) 7 rfl rfl (by decide) hr (fun t7 hr => ?_)
  refine j_goto K dX11_answersAnew_230 (tgt := 17) (by decide) ?_
  exact j_sub [1, 2, 3, 4, 5, 6, 7, 0] rfl (hrec17 _ _ _ hr)
theorem jb_X11_answersAnew_224 {κ : JK} (K : jOk 13 cX11_answersAnew RX11 (some .int) 3 κ) (X : JX) (v1 : Int32) (v2 : Int32) (v3 : Int32) (v4 : Int32) (v5 : Int32) (v7 : Int32) (s0 : Int32) (s1 : Int32) {r : (Int32 × JX)} (F : jFin LY false (oM r) κ) (rec17 : JX → Int32 → Int32 → Option (Int32 × JX)) (hrec17 : ∀ (X : JX) (v6 : Int32) (v7 : Int32), rec17 X v6 v7 = some r → J LY 13 κ X 17 [(0, .ref (jad κ (0))), (1, .int v1), (2, .int v2), (3, .int v3), (4, .int v4), (5, .int v5), (6, .int v6), (7, .int v7)] []) (hr : b_X11_answersAnew_224 rec17 X v1 v2 v3 v4 v5 v7 s0 s1 = some r) : J LY 13 κ X 224 [(0, .ref (jad κ (0))), (1, .int v1), (2, .int v2), (3, .int v3), (4, .int v4), (5, .int v5), (7, .int v7)] [.int s0, .int s1] := by
  unfold b_X11_answersAnew_224 at hr
  refine j_iadd K dX11_answersAnew_224 ?_
  refine j_istoreV K dX11_answersAnew_225 (by decide) hr (fun t8 hr => ?_)
  exact j_sub [1, 2, 3, 4, 5, 6, 0, 7] rfl (jb_X11_answersAnew_227 K _ _ _ _ _ _ _ _ F rec17 hrec17 hr)
theorem jb_X11_answersAnew_199 {κ : JK} (K : jOk 13 cX11_answersAnew RX11 (some .int) 3 κ) (X : JX) (v1 : Int32) (v2 : Int32) (v3 : Int32) (v4 : Int32) (v5 : Int32) (v6 : Int32) (v7 : Int32) (v10 : Int32) (v12 : Int32) (s0 : Int32) {r : (Int32 × JX)} (F : jFin LY false (oM r) κ) (rec17 : JX → Int32 → Int32 → Option (Int32 × JX)) (hrec17 : ∀ (X : JX) (v6 : Int32) (v7 : Int32), rec17 X v6 v7 = some r → J LY 13 κ X 17 [(0, .ref (jad κ (0))), (1, .int v1), (2, .int v2), (3, .int v3), (4, .int v4), (5, .int v5), (6, .int v6), (7, .int v7)] []) (rec146 : Int32 → Int32 → Int32 → Option (Int32 × JX)) (hrec146 : ∀ (v10 : Int32) (v11 : Int32) (v12 : Int32), rec146 v10 v11 v12 = some r → J LY 13 κ X 146 [(0, .ref (jad κ (0))), (1, .int v1), (2, .int v2), (3, .int v3), (4, .int v4), (5, .int v5), (6, .int v6), (7, .int v7), (10, .int v10), (11, .int v11), (12, .int v12)] []) (hr : b_X11_answersAnew_199 rec17 rec146 X v1 v2 v3 v4 v5 v6 v7 v10 v12 s0 = some r) : J LY 13 κ X 199 [(0, .ref (jad κ (0))), (1, .int v1), (2, .int v2), (3, .int v3), (4, .int v4), (5, .int v5), (6, .int v6), (7, .int v7), (10, .int v10), (12, .int v12)] [.int s0] := by
  unfold b_X11_answersAnew_199 at hr
  refine j_istore K dX11_answersAnew_199 (by decide) ?_
  refine j_iincV K dX11_answersAnew_201 (v := 1) 10 rfl rfl (by decide) hr (fun t9 hr => ?_)
  refine j_goto K dX11_answersAnew_204 (tgt := 146) (by decide) ?_
  exact j_sub [2, 3, 4, 5, 6, 7, 8, 9, 10, 1, 0] rfl (hrec146 _ _ _ hr)
theorem jb_X11_answersAnew_176 {κ : JK} (K : jOk 13 cX11_answersAnew RX11 (some .int) 3 κ) (X : JX) (v1 : Int32) (v2 : Int32) (v3 : Int32) (v4 : Int32) (v5 : Int32) (v6 : Int32) (v7 : Int32) (v11 : Int32) (v12 : Int32) (s0 : Int32) {r : (Int32 × JX)} (F : jFin LY false (oM r) κ) (rec17 : JX → Int32 → Int32 → Option (Int32 × JX)) (hrec17 : ∀ (X : JX) (v6 : Int32) (v7 : Int32), rec17 X v6 v7 = some r → J LY 13 κ X 17 [(0, .ref (jad κ (0))), (1, .int v1), (2, .int v2), (3, .int v3), (4, .int v4), (5, .int v5), (6, .int v6), (7, .int v7)] []) (rec146 : Int32 → Int32 → Int32 → Option (Int32 × JX)) (hrec146 : ∀ (v10 : Int32) (v11 : Int32) (v12 : Int32), rec146 v10 v11 v12 = some r → J LY 13 κ X 146 [(0, .ref (jad κ (0))), (1, .int v1), (2, .int v2), (3, .int v3), (4, .int v4), (5, .int v5), (6, .int v6), (7, .int v7), (10, .int v10), (11, .int v11), (12, .int v12)] []) (hr : b_X11_answersAnew_176 rec17 rec146 X v1 v2 v3 v4 v5 v6 v7 v11 v12 s0 = some r) : J LY 13 κ X 176 [(0, .ref (jad κ (0))), (1, .int v1), (2, .int v2), (3, .int v3), (4, .int v4), (5, .int v5), (6, .int v6), (7, .int v7), (11, .int v11), (12, .int v12)] [.int s0] := by
  unfold b_X11_answersAnew_176 at hr
  refine j_istore K dX11_answersAnew_176 (by decide) ?_
  refine j_iload K dX11_answersAnew_178 9 rfl ?_
  refine j_if_ne K dX11_answersAnew_180 (tgt := 194) (by decide) hr (fun hr => ?_) (fun hr => ?_)
  · refine j_iconst K dX11_answersAnew_194 (v := 1) rfl ?_
    refine j_goto K dX11_answersAnew_195 (tgt := 199) (by decide) ?_
    exact j_sub [1, 2, 3, 4, 5, 6, 7, 8, 0, 10] rfl (jb_X11_answersAnew_199 K _ _ _ _ _ _ _ _ _ _ _ F rec17 hrec17 rec146 hrec146 hr)
  · refine j_aload_n K dX11_answersAnew_183 1 rfl ?_
    refine j_get K (v := .ref (jad κ (33))) fl_X11_115 rfl (Nat.le_of_ble_eq_true rfl) (by decide) rfl dX11_answersAnew_184 ?_
    refine j_iload K dX11_answersAnew_187 10 rfl ?_
    refine j_iaload K (z := 20) rfl (Nat.le_of_ble_eq_true rfl) dX11_answersAnew_189 hr (fun hr => ?_)
    refine j_iload_n K dX11_answersAnew_190 4 rfl ?_
    refine j_icmp_ne K dX11_answersAnew_191 (tgt := 198) (by decide) hr (fun hr => ?_) (fun hr => ?_)
    · refine j_iconst K dX11_answersAnew_198 (v := 0) rfl ?_
      exact j_sub [1, 2, 3, 4, 5, 6, 7, 8, 0, 10] rfl (jb_X11_answersAnew_199 K _ _ _ _ _ _ _ _ _ _ _ F rec17 hrec17 rec146 hrec146 hr)
    · refine j_iconst K dX11_answersAnew_194 (v := 1) rfl ?_
      refine j_goto K dX11_answersAnew_195 (tgt := 199) (by decide) ?_
      exact j_sub [1, 2, 3, 4, 5, 6, 7, 8, 0, 10] rfl (jb_X11_answersAnew_199 K _ _ _ _ _ _ _ _ _ _ _ F rec17 hrec17 rec146 hrec146 hr)
theorem jl_X11_answersAnew_146 {κ : JK} (K : jOk 13 cX11_answersAnew RX11 (some .int) 3 κ) (X : JX) (v1 : Int32) (v2 : Int32) (v3 : Int32) (v4 : Int32) (v5 : Int32) (v6 : Int32) (v7 : Int32) {r : (Int32 × JX)} (F : jFin LY false (oM r) κ) (rec17 : JX → Int32 → Int32 → Option (Int32 × JX)) (hrec17 : ∀ (X : JX) (v6 : Int32) (v7 : Int32), rec17 X v6 v7 = some r → J LY 13 κ X 17 [(0, .ref (jad κ (0))), (1, .int v1), (2, .int v2), (3, .int v3), (4, .int v4), (5, .int v5), (6, .int v6), (7, .int v7)] []) : ∀ (v10 : Int32) (v11 : Int32) (v12 : Int32), l_X11_answersAnew_146 rec17 X v1 v2 v3 v4 v5 v6 v7 v10 v11 v12 = some r → J LY 13 κ X 146 [(0, .ref (jad κ (0))), (1, .int v1), (2, .int v2), (3, .int v3), (4, .int v4), (5, .int v5), (6, .int v6), (7, .int v7), (10, .int v10), (11, .int v11), (12, .int v12)] [] := by
  refine j_loop3 (P := fun v10 v11 v12 => J LY 13 κ X 146 [(0, .ref (jad κ (0))), (1, .int v1), (2, .int v2), (3, .int v3), (4, .int v4), (5, .int v5), (6, .int v6), (7, .int v7), (10, .int v10), (11, .int v11), (12, .int v12)] []) (fun rec146 hrec146 v10 v11 v12 hr => ?_) 1000
  unfold lb_X11_answersAnew_146 at hr
  refine j_iload K dX11_answersAnew_146 10 rfl ?_
  refine j_aload_n K dX11_answersAnew_148 0 rfl ?_
  refine j_get K (v := .int (X (0) 44)) fl_X11_195 rfl (Nat.le_of_ble_eq_true rfl) (by decide) rfl dX11_answersAnew_149 ?_
  refine j_icmp_ge K dX11_answersAnew_152 (tgt := 207) (by decide) hr (fun hr => ?_) (fun hr => ?_)
  · refine j_iload K dX11_answersAnew_207 6 rfl ?_
    refine j_iload K dX11_answersAnew_209 8 rfl ?_
    refine j_if_eq K dX11_answersAnew_211 (tgt := 223) (by decide) hr (fun hr => ?_) (fun hr => ?_)
    · refine j_iconst K dX11_answersAnew_223 (v := 0) rfl ?_
      exact j_sub [0, 1, 2, 3, 4, 5, 7] rfl (jb_X11_answersAnew_224 K _ _ _ _ _ _ _ _ _ F rec17 hrec17 hr)
    · refine j_iload K dX11_answersAnew_214 9 rfl ?_
      refine j_if_eq K dX11_answersAnew_216 (tgt := 223) (by decide) hr (fun hr => ?_) (fun hr => ?_)
      · refine j_iconst K dX11_answersAnew_223 (v := 0) rfl ?_
        exact j_sub [0, 1, 2, 3, 4, 5, 7] rfl (jb_X11_answersAnew_224 K _ _ _ _ _ _ _ _ _ F rec17 hrec17 hr)
      · refine j_iconst K dX11_answersAnew_219 (v := 1) rfl ?_
        refine j_goto K dX11_answersAnew_220 (tgt := 224) (by decide) ?_
        exact j_sub [0, 1, 2, 3, 4, 5, 7] rfl (jb_X11_answersAnew_224 K _ _ _ _ _ _ _ _ _ F rec17 hrec17 hr)
  · refine j_iload K dX11_answersAnew_155 8 rfl ?_
    refine j_if_ne K dX11_answersAnew_157 (tgt := 171) (by decide) hr (fun hr => ?_) (fun hr => ?_)
    · refine j_iconst K dX11_answersAnew_171 (v := 1) rfl ?_
      refine j_goto K dX11_answersAnew_172 (tgt := 176) (by decide) ?_
      exact j_sub [0, 1, 2, 3, 4, 5, 6, 7, 9, 10] rfl (jb_X11_answersAnew_176 K _ _ _ _ _ _ _ _ _ _ _ F rec17 hrec17 rec146 hrec146 hr)
    · refine j_aload_n K dX11_answersAnew_160 0 rfl ?_
      refine j_get K (v := .ref (jad κ (33))) fl_X11_115 rfl (Nat.le_of_ble_eq_true rfl) (by decide) rfl dX11_answersAnew_161 ?_
      refine j_iload K dX11_answersAnew_164 10 rfl ?_
      refine j_iaload K (z := 20) rfl (Nat.le_of_ble_eq_true rfl) dX11_answersAnew_166 hr (fun hr => ?_)
      refine j_iload_n K dX11_answersAnew_167 2 rfl ?_
      refine j_icmp_ne K dX11_answersAnew_168 (tgt := 175) (by decide) hr (fun hr => ?_) (fun hr => ?_)
      · refine j_iconst K dX11_answersAnew_175 (v := 0) rfl ?_
        exact j_sub [0, 1, 2, 3, 4, 5, 6, 7, 9, 10] rfl (jb_X11_answersAnew_176 K _ _ _ _ _ _ _ _ _ _ _ F rec17 hrec17 rec146 hrec146 hr)
      · refine j_iconst K dX11_answersAnew_171 (v := 1) rfl ?_
        refine j_goto K dX11_answersAnew_172 (tgt := 176) (by decide) ?_
        exact j_sub [0, 1, 2, 3, 4, 5, 6, 7, 9, 10] rfl (jb_X11_answersAnew_176 K _ _ _ _ _ _ _ _ _ _ _ F rec17 hrec17 rec146 hrec146 hr)
theorem jb_X11_answersAnew_141 {κ : JK} (K : jOk 13 cX11_answersAnew RX11 (some .int) 3 κ) (X : JX) (v1 : Int32) (v2 : Int32) (v3 : Int32) (v4 : Int32) (v5 : Int32) (v6 : Int32) (v7 : Int32) (v10 : Int32) (s0 : Int32) {r : (Int32 × JX)} (F : jFin LY false (oM r) κ) (rec17 : JX → Int32 → Int32 → Option (Int32 × JX)) (hrec17 : ∀ (X : JX) (v6 : Int32) (v7 : Int32), rec17 X v6 v7 = some r → J LY 13 κ X 17 [(0, .ref (jad κ (0))), (1, .int v1), (2, .int v2), (3, .int v3), (4, .int v4), (5, .int v5), (6, .int v6), (7, .int v7)] []) (hr : b_X11_answersAnew_141 rec17 X v1 v2 v3 v4 v5 v6 v7 v10 s0 = some r) : J LY 13 κ X 141 [(0, .ref (jad κ (0))), (1, .int v1), (2, .int v2), (3, .int v3), (4, .int v4), (5, .int v5), (6, .int v6), (7, .int v7), (10, .int v10)] [.int s0] := by
  unfold b_X11_answersAnew_141 at hr
  refine j_istore K dX11_answersAnew_141 (by decide) ?_
  refine j_iconst K dX11_answersAnew_143 (v := 0) rfl ?_
  refine j_istore K dX11_answersAnew_144 (by decide) ?_
  exact j_sub [2, 3, 4, 5, 6, 7, 8, 9, 10, 1, 0] rfl (jl_X11_answersAnew_146 K _ _ _ _ _ _ _ _ F rec17 hrec17 _ _ _ hr)
theorem jb_X11_answersAnew_105 {κ : JK} (K : jOk 13 cX11_answersAnew RX11 (some .int) 3 κ) (X : JX) (v1 : Int32) (v2 : Int32) (v3 : Int32) (v4 : Int32) (v5 : Int32) (v6 : Int32) (v7 : Int32) (s0 : Int32) {r : (Int32 × JX)} (F : jFin LY false (oM r) κ) (rec17 : JX → Int32 → Int32 → Option (Int32 × JX)) (hrec17 : ∀ (X : JX) (v6 : Int32) (v7 : Int32), rec17 X v6 v7 = some r → J LY 13 κ X 17 [(0, .ref (jad κ (0))), (1, .int v1), (2, .int v2), (3, .int v3), (4, .int v4), (5, .int v5), (6, .int v6), (7, .int v7)] []) (hr : b_X11_answersAnew_105 rec17 X v1 v2 v3 v4 v5 v6 v7 s0 = some r) : J LY 13 κ X 105 [(0, .ref (jad κ (0))), (1, .int v1), (2, .int v2), (3, .int v3), (4, .int v4), (5, .int v5), (6, .int v6), (7, .int v7)] [.int s0] := by
  unfold b_X11_answersAnew_105 at hr
  refine j_istore K dX11_answersAnew_105 (by decide) ?_
  refine j_iload K dX11_answersAnew_107 0 rfl ?_
  refine j_if_eq K dX11_answersAnew_109 (tgt := 227) (by decide) hr (fun hr => ?_) (fun hr => ?_)
  · exact j_sub [1, 2, 3, 4, 5, 6, 7, 8] rfl (jb_X11_answersAnew_227 K _ _ _ _ _ _ _ _ F rec17 hrec17 hr)
  · refine j_aload_n K dX11_answersAnew_112 1 rfl ?_
    refine j_iload_n K dX11_answersAnew_113 2 rfl ?_
    refine j_iload K dX11_answersAnew_114 8 rfl ?_
    refine j_vI2 K (ci := 11) hr (fun v h => c_X11_mayReadAt X v1 v7 h) ml_X11_173 ⟨_, rfl, rfl⟩ rfl (Nat.le_of_ble_eq_true rfl) (by decide) rfl (by decide) (by decide) (Nat.le_of_ble_eq_true rfl) dX11_answersAnew_116 (fun t5 h hr => ?_)
    refine j_if_eq K dX11_answersAnew_119 (tgt := 227) (by decide) hr (fun hr => ?_) (fun hr => ?_)
    · exact j_sub [1, 2, 3, 4, 5, 6, 7, 8] rfl (jb_X11_answersAnew_227 K _ _ _ _ _ _ _ _ F rec17 hrec17 hr)
    · refine j_aload_n K dX11_answersAnew_122 1 rfl ?_
      refine j_iload K dX11_answersAnew_123 8 rfl ?_
      refine j_vU1 K (ci := 11) hr (fun v h => c_X11_takesWords X v7 h) ml_X11_210 ⟨_, rfl, rfl⟩ rfl (Nat.le_of_ble_eq_true rfl) (by decide) rfl (by decide) (by decide) (Nat.le_of_ble_eq_true rfl) dX11_answersAnew_125 (fun X6 h hr => ?_)
      refine j_iconst K dX11_answersAnew_128 (v := 0) rfl ?_
      refine j_istore K dX11_answersAnew_129 (by decide) ?_
      refine j_iload_n K dX11_answersAnew_131 5 rfl ?_
      refine j_iconst K dX11_answersAnew_132 (v := -1) rfl ?_
      refine j_icmp_ne K dX11_answersAnew_133 (tgt := 140) (by decide) hr (fun hr => ?_) (fun hr => ?_)
      · refine j_iconst K dX11_answersAnew_140 (v := 0) rfl ?_
        exact j_sub [2, 3, 4, 5, 6, 7, 8, 9, 0] rfl (jb_X11_answersAnew_141 K _ _ _ _ _ _ _ _ _ _ F rec17 hrec17 hr)
      · refine j_iconst K dX11_answersAnew_136 (v := 1) rfl ?_
        refine j_goto K dX11_answersAnew_137 (tgt := 141) (by decide) ?_
        exact j_sub [2, 3, 4, 5, 6, 7, 8, 9, 0] rfl (jb_X11_answersAnew_141 K _ _ _ _ _ _ _ _ _ _ F rec17 hrec17 hr)
theorem jl_X11_answersAnew_17 {κ : JK} (K : jOk 13 cX11_answersAnew RX11 (some .int) 3 κ) (v1 : Int32) (v2 : Int32) (v3 : Int32) (v4 : Int32) (v5 : Int32) {r : (Int32 × JX)} (F : jFin LY false (oM r) κ) : ∀ (X : JX) (v6 : Int32) (v7 : Int32), l_X11_answersAnew_17 v1 v2 v3 v4 v5 X v6 v7 = some r → J LY 13 κ X 17 [(0, .ref (jad κ (0))), (1, .int v1), (2, .int v2), (3, .int v3), (4, .int v4), (5, .int v5), (6, .int v6), (7, .int v7)] [] := by
  refine j_loop3 (P := fun X v6 v7 => J LY 13 κ X 17 [(0, .ref (jad κ (0))), (1, .int v1), (2, .int v2), (3, .int v3), (4, .int v4), (5, .int v5), (6, .int v6), (7, .int v7)] []) (fun rec17 hrec17 X v6 v7 hr => ?_) 1000
  unfold lb_X11_answersAnew_17 at hr
  refine j_iload K dX11_answersAnew_17 7 rfl ?_
  refine j_aload_n K dX11_answersAnew_19 0 rfl ?_
  refine j_get K (v := .int (X (0) 2)) fl_X11_118 rfl (Nat.le_of_ble_eq_true rfl) (by decide) rfl dX11_answersAnew_20 ?_
  refine j_icmp_ge K dX11_answersAnew_23 (tgt := 233) (by decide) hr (fun hr => ?_) (fun hr => ?_)
  · refine j_iload K dX11_answersAnew_233 6 rfl ?_
    exact j_ireturn K dX11_answersAnew_235 rfl F hr rfl
  · refine j_iload K dX11_answersAnew_26 5 rfl ?_
    refine j_if_eq K dX11_answersAnew_28 (tgt := 233) (by decide) hr (fun hr => ?_) (fun hr => ?_)
    · refine j_iload K dX11_answersAnew_233 6 rfl ?_
      exact j_ireturn K dX11_answersAnew_235 rfl F hr rfl
    · refine j_aload_n K dX11_answersAnew_31 0 rfl ?_
      refine j_iload K dX11_answersAnew_32 7 rfl ?_
      refine j_vI1 K (ci := 11) hr (fun v h => c_X11_over X v7 h) ml_X11_150 ⟨_, rfl, rfl⟩ rfl (Nat.le_of_ble_eq_true rfl) (by decide) rfl (by decide) (by decide) (Nat.le_of_ble_eq_true rfl) dX11_answersAnew_34 (fun t2 h hr => ?_)
      refine j_istore K dX11_answersAnew_37 (by decide) ?_
      refine j_iload K dX11_answersAnew_39 0 rfl ?_
      refine j_iconst K dX11_answersAnew_41 (v := -1) rfl ?_
      refine j_icmp_eq K dX11_answersAnew_42 (tgt := 104) (by decide) hr (fun hr => ?_) (fun hr => ?_)
      · refine j_iconst K dX11_answersAnew_104 (v := 0) rfl ?_
        exact j_sub [1, 2, 3, 4, 5, 6, 7, 8] rfl (jb_X11_answersAnew_105 K _ _ _ _ _ _ _ _ _ F rec17 hrec17 hr)
      · refine j_aload_n K dX11_answersAnew_45 1 rfl ?_
        refine j_get K (v := .ref (jad κ (2))) fl_X11_13 rfl (Nat.le_of_ble_eq_true rfl) (by decide) rfl dX11_answersAnew_46 ?_
        refine j_iload K dX11_answersAnew_49 8 rfl ?_
        refine j_baload K (z := 60) rfl (Nat.le_of_ble_eq_true rfl) dX11_answersAnew_51 hr (fun hr => ?_)
        refine j_if_ne K dX11_answersAnew_52 (tgt := 104) (by decide) hr (fun hr => ?_) (fun hr => ?_)
        · refine j_iconst K dX11_answersAnew_104 (v := 0) rfl ?_
          exact j_sub [1, 2, 3, 4, 5, 6, 7, 8] rfl (jb_X11_answersAnew_105 K _ _ _ _ _ _ _ _ _ F rec17 hrec17 hr)
        · refine j_iload K dX11_answersAnew_55 5 rfl ?_
          refine j_iconst K dX11_answersAnew_57 (v := -1) rfl ?_
          refine j_icmp_eq K dX11_answersAnew_58 (tgt := 100) (by decide) hr (fun hr => ?_) (fun hr => ?_)
          · refine j_iconst K dX11_answersAnew_100 (v := 1) rfl ?_
            refine j_goto K dX11_answersAnew_101 (tgt := 105) (by decide) ?_
            exact j_sub [1, 2, 3, 4, 5, 6, 7, 8] rfl (jb_X11_answersAnew_105 K _ _ _ _ _ _ _ _ _ F rec17 hrec17 hr)
          · refine j_aload_n K dX11_answersAnew_61 1 rfl ?_
            refine j_iload K dX11_answersAnew_62 8 rfl ?_
            refine j_iload K dX11_answersAnew_64 5 rfl ?_
            refine j_vI2 K (ci := 11) hr (fun v h => c_X11_isBelow X v7 v4 h) ml_X11_135 ⟨_, rfl, rfl⟩ rfl (Nat.le_of_ble_eq_true rfl) (by decide) rfl (by decide) (by decide) (Nat.le_of_ble_eq_true rfl) dX11_answersAnew_66 (fun t3 h hr => ?_)
            refine j_if_eq K dX11_answersAnew_69 (tgt := 104) (by decide) hr (fun hr => ?_) (fun hr => ?_)
            · refine j_iconst K dX11_answersAnew_104 (v := 0) rfl ?_
              exact j_sub [1, 2, 3, 4, 5, 6, 7, 8] rfl (jb_X11_answersAnew_105 K _ _ _ _ _ _ _ _ _ F rec17 hrec17 hr)
            · refine j_iload K dX11_answersAnew_72 5 rfl ?_
              refine j_aload_n K dX11_answersAnew_74 1 rfl ?_
              refine j_get K (v := .ref (jad κ (10))) fl_X11_39 rfl (Nat.le_of_ble_eq_true rfl) (by decide) rfl dX11_answersAnew_75 ?_
              refine j_iload K dX11_answersAnew_78 0 rfl ?_
              refine j_iaload K (z := 4) rfl (Nat.le_of_ble_eq_true rfl) dX11_answersAnew_80 hr (fun hr => ?_)
              refine j_icmp_eq K dX11_answersAnew_81 (tgt := 100) (by decide) hr (fun hr => ?_) (fun hr => ?_)
              · refine j_iconst K dX11_answersAnew_100 (v := 1) rfl ?_
                refine j_goto K dX11_answersAnew_101 (tgt := 105) (by decide) ?_
                exact j_sub [1, 2, 3, 4, 5, 6, 7, 8] rfl (jb_X11_answersAnew_105 K _ _ _ _ _ _ _ _ _ F rec17 hrec17 hr)
              · refine j_aload_n K dX11_answersAnew_84 1 rfl ?_
                refine j_iload K dX11_answersAnew_85 5 rfl ?_
                refine j_aload_n K dX11_answersAnew_87 1 rfl ?_
                refine j_get K (v := .ref (jad κ (10))) fl_X11_39 rfl (Nat.le_of_ble_eq_true rfl) (by decide) rfl dX11_answersAnew_88 ?_
                refine j_iload K dX11_answersAnew_91 0 rfl ?_
                refine j_iaload K (z := 4) rfl (Nat.le_of_ble_eq_true rfl) dX11_answersAnew_93 hr (fun hr => ?_)
                refine j_vI2 K (ci := 11) hr (fun v h => c_X11_isBelow X v4 (X (10) t2.toNatClampNeg) h) ml_X11_135 ⟨_, rfl, rfl⟩ rfl (Nat.le_of_ble_eq_true rfl) (by decide) rfl (by decide) (by decide) (Nat.le_of_ble_eq_true rfl) dX11_answersAnew_94 (fun t4 h hr => ?_)
                refine j_if_eq K dX11_answersAnew_97 (tgt := 104) (by decide) hr (fun hr => ?_) (fun hr => ?_)
                · refine j_iconst K dX11_answersAnew_104 (v := 0) rfl ?_
                  exact j_sub [1, 2, 3, 4, 5, 6, 7, 8] rfl (jb_X11_answersAnew_105 K _ _ _ _ _ _ _ _ _ F rec17 hrec17 hr)
                · refine j_iconst K dX11_answersAnew_100 (v := 1) rfl ?_
                  refine j_goto K dX11_answersAnew_101 (tgt := 105) (by decide) ?_
                  exact j_sub [1, 2, 3, 4, 5, 6, 7, 8] rfl (jb_X11_answersAnew_105 K _ _ _ _ _ _ _ _ _ F rec17 hrec17 hr)
theorem jf_X11_answersAnew {κ : JK} (K : jOk 13 cX11_answersAnew RX11 (some .int) 3 κ) (X : JX) (v1 : Int32) (v2 : Int32) (v3 : Int32) (v4 : Int32) {r : (Int32 × JX)} (F : jFin LY false (oM r) κ) (hr : f_X11_answersAnew X v1 v2 v3 v4 = some r) : J LY 13 κ X 0 [(0, .ref (jad κ (0))), (1, .int v1), (2, .int v2), (3, .int v3), (4, .int v4)] [] := by
  unfold f_X11_answersAnew at hr
  refine j_aload_n K dX11_answersAnew_0 0 rfl ?_
  refine j_iload_n K dX11_answersAnew_1 1 rfl ?_
  refine j_iload_n K dX11_answersAnew_2 2 rfl ?_
  refine j_iload_n K dX11_answersAnew_3 3 rfl ?_
  refine j_iload K dX11_answersAnew_4 4 rfl ?_
  refine j_vM4 K (ci := 11) hr (fun v h => c_X11_canAsk X v1 v2 v3 v4 h) ml_X11_287 ⟨_, rfl, rfl⟩ rfl (Nat.le_of_ble_eq_true rfl) (by decide) rfl (by decide) (by decide) (Nat.le_of_ble_eq_true rfl) dX11_answersAnew_6 (fun t1 h hr => ?_)
  refine j_istore K dX11_answersAnew_9 (by decide) ?_
  refine j_iconst K dX11_answersAnew_11 (v := 0) rfl ?_
  refine j_istore K dX11_answersAnew_12 (by decide) ?_
  refine j_iconst K dX11_answersAnew_14 (v := 0) rfl ?_
  refine j_istore K dX11_answersAnew_15 (by decide) ?_
  exact j_sub [3, 4, 5, 6, 7, 2, 1, 0] rfl (jl_X11_answersAnew_17 K _ _ _ _ _ F _ _ _ hr)
theorem c_X11_answersAnew (X : JX) (v1 : Int32) (v2 : Int32) (v3 : Int32) (v4 : Int32) {r : (Int32 × JX)} (hr : f_X11_answersAnew X v1 v2 v3 v4 = some r) : Cal LY yX11_answersAnew cX11_answersAnew 13 (some .int) 3 (fun ad => [.ref (ad (0)), .int v1, .int v2, .int v3, .int v4]) X (fun ad => oM r) :=
  Cal.of (own := RX11) (fun ad => [(0, .ref (ad (0))), (1, .int v1), (2, .int v2), (3, .int v3), (4, .int v4)]) (by decide) rfl (fun _ => Nat.le_of_ble_eq_true rfl) (fun _ => rfl) (fun κ K F => jf_X11_answersAnew K X v1 v2 v3 v4 F hr)
theorem jf_X11_battery {κ : JK} (K : jOk 3 cX11_battery RX11 (some .boolean) 0 κ) (X : JX) (v1 : Int32) {r : (Int32 × JX)} (F : jFin LY false (oM r) κ) (hr : f_X11_battery X v1 = some r) : J LY 3 κ X 0 [(0, .ref (jad κ (0))), (1, .int v1)] [] := by
  unfold f_X11_battery at hr
  refine j_aload_n K dX11_battery_0 0 rfl ?_
  refine j_iconst K dX11_battery_1 (v := 0) rfl ?_
  refine j_putiV K fp_X11_121 rfl (Nat.le_of_ble_eq_true rfl) (by decide) (fun _ => Nat.le_of_ble_eq_true rfl) (fun _ => rfl) dX11_battery_2 hr (fun X1 hr => ?_)
  refine j_aload_n K dX11_battery_5 0 rfl ?_
  refine j_get K (v := .int (X1 (0) 34)) fl_X11_245 rfl (Nat.le_of_ble_eq_true rfl) (by decide) rfl dX11_battery_6 ?_
  refine j_istoreV_n K dX11_battery_9 (by decide) hr (fun t2 hr => ?_)
  refine j_aload_n K dX11_battery_10 1 rfl ?_
  refine j_iload_n K dX11_battery_11 2 rfl ?_
  refine j_putzV K fp_X11_245 rfl (Nat.le_of_ble_eq_true rfl) (by decide) (fun _ => Nat.le_of_ble_eq_true rfl) (fun _ => rfl) dX11_battery_12 hr (fun X3 hr => ?_)
  refine j_iload_n K dX11_battery_15 0 rfl ?_
  exact j_guard hr (fun hz hr => j_zreturn K dX11_battery_16 rfl hz F hr rfl)
theorem c_X11_battery (X : JX) (v1 : Int32) {r : (Int32 × JX)} (hr : f_X11_battery X v1 = some r) : Cal LY yX11_battery cX11_battery 3 (some .boolean) 0 (fun ad => [.ref (ad (0)), .int v1]) X (fun ad => oM r) :=
  Cal.of (own := RX11) (fun ad => [(0, .ref (ad (0))), (1, .int v1)]) (by decide) rfl (fun _ => Nat.le_of_ble_eq_true rfl) (fun _ => rfl) (fun κ K F => jf_X11_battery K X v1 F hr)
theorem jl_X11_beginsCrawl_31 {κ : JK} (K : jOk 3 cX11_beginsCrawl RX11 none 0 κ) (v1 : Int32) {r : JX} (F : jFin LY false (oU r) κ) : ∀ (X : JX) (v2 : Int32), l_X11_beginsCrawl_31 v1 X v2 = some r → J LY 3 κ X 31 [(0, .ref (jad κ (0))), (1, .int v1), (2, .int v2)] [] := by
  refine j_loop2 (P := fun X v2 => J LY 3 κ X 31 [(0, .ref (jad κ (0))), (1, .int v1), (2, .int v2)] []) (fun rec31 hrec31 X v2 hr => ?_) 1000
  unfold lb_X11_beginsCrawl_31 at hr
  refine j_iload_n K dX11_beginsCrawl_31 2 rfl ?_
  refine j_bipush K dX11_beginsCrawl_32 (v := 60) rfl ?_
  refine j_icmp_ge K dX11_beginsCrawl_34 (tgt := 55) (by decide) hr (fun hr => ?_) (fun hr => ?_)
  · exact j_return K dX11_beginsCrawl_55 rfl F hr rfl
  · refine j_aload_n K dX11_beginsCrawl_37 0 rfl ?_
    refine j_get K (v := .ref (jad κ (18))) fl_X11_63 rfl (Nat.le_of_ble_eq_true rfl) (by decide) rfl dX11_beginsCrawl_38 ?_
    refine j_bipush K dX11_beginsCrawl_41 (v := 60) rfl ?_
    refine j_iload_n K dX11_beginsCrawl_43 1 rfl ?_
    refine j_imul K dX11_beginsCrawl_44 ?_
    refine j_iload_n K dX11_beginsCrawl_45 2 rfl ?_
    refine j_iadd K dX11_beginsCrawl_46 ?_
    refine j_iconst K dX11_beginsCrawl_47 (v := 0) rfl ?_
    refine j_bastoreV K (z := 240) rfl (Nat.le_of_ble_eq_true rfl) dX11_beginsCrawl_48 hr (fun X4 hr => ?_)
    refine j_iincV K dX11_beginsCrawl_49 (v := 1) 2 rfl rfl (by decide) hr (fun t5 hr => ?_)
    refine j_goto K dX11_beginsCrawl_52 (tgt := 31) (by decide) ?_
    exact j_sub [1, 2, 0] rfl (hrec31 _ _ hr)
theorem jf_X11_beginsCrawl {κ : JK} (K : jOk 3 cX11_beginsCrawl RX11 none 0 κ) (X : JX) (v1 : Int32) {r : JX} (F : jFin LY false (oU r) κ) (hr : f_X11_beginsCrawl X v1 = some r) : J LY 3 κ X 0 [(0, .ref (jad κ (0))), (1, .int v1)] [] := by
  unfold f_X11_beginsCrawl at hr
  refine j_aload_n K dX11_beginsCrawl_0 0 rfl ?_
  refine j_get K (v := .ref (jad κ (15))) fl_X11_54 rfl (Nat.le_of_ble_eq_true rfl) (by decide) rfl dX11_beginsCrawl_1 ?_
  refine j_iload_n K dX11_beginsCrawl_4 1 rfl ?_
  refine j_iconst K dX11_beginsCrawl_5 (v := 1) rfl ?_
  refine j_bastoreV K (z := 4) rfl (Nat.le_of_ble_eq_true rfl) dX11_beginsCrawl_6 hr (fun X1 hr => ?_)
  refine j_aload_n K dX11_beginsCrawl_7 0 rfl ?_
  refine j_get K (v := .ref (jad κ (16))) fl_X11_57 rfl (Nat.le_of_ble_eq_true rfl) (by decide) rfl dX11_beginsCrawl_8 ?_
  refine j_iload_n K dX11_beginsCrawl_11 1 rfl ?_
  refine j_iconst K dX11_beginsCrawl_12 (v := 1) rfl ?_
  refine j_iastoreV K (z := 4) rfl (Nat.le_of_ble_eq_true rfl) dX11_beginsCrawl_13 hr (fun X2 hr => ?_)
  refine j_aload_n K dX11_beginsCrawl_14 0 rfl ?_
  refine j_get K (v := .ref (jad κ (17))) fl_X11_60 rfl (Nat.le_of_ble_eq_true rfl) (by decide) rfl dX11_beginsCrawl_15 ?_
  refine j_bipush K dX11_beginsCrawl_18 (v := 60) rfl ?_
  refine j_iload_n K dX11_beginsCrawl_20 1 rfl ?_
  refine j_imul K dX11_beginsCrawl_21 ?_
  refine j_aload_n K dX11_beginsCrawl_22 0 rfl ?_
  refine j_get K (v := .ref (jad κ (10))) fl_X11_39 rfl (Nat.le_of_ble_eq_true rfl) (by decide) rfl dX11_beginsCrawl_23 ?_
  refine j_iload_n K dX11_beginsCrawl_26 1 rfl ?_
  refine j_iaload K (z := 4) rfl (Nat.le_of_ble_eq_true rfl) dX11_beginsCrawl_27 hr (fun hr => ?_)
  refine j_iastoreV K (z := 240) rfl (Nat.le_of_ble_eq_true rfl) dX11_beginsCrawl_28 hr (fun X3 hr => ?_)
  refine j_iconst K dX11_beginsCrawl_29 (v := 0) rfl ?_
  refine j_istore_n K dX11_beginsCrawl_30 (by decide) ?_
  exact j_sub [1, 2, 0] rfl (jl_X11_beginsCrawl_31 K _ F _ _ hr)
theorem c_X11_beginsCrawl (X : JX) (v1 : Int32) {r : JX} (hr : f_X11_beginsCrawl X v1 = some r) : Cal LY yX11_beginsCrawl cX11_beginsCrawl 3 none 0 (fun ad => [.ref (ad (0)), .int v1]) X (fun ad => oU r) :=
  Cal.of (own := RX11) (fun ad => [(0, .ref (ad (0))), (1, .int v1)]) (by decide) rfl (fun _ => Nat.le_of_ble_eq_true rfl) (fun _ => rfl) (fun κ K F => jf_X11_beginsCrawl K X v1 F hr)
theorem jl_X11_takesPlace_12 {κ : JK} (K : jOk 3 cX11_takesPlace RX11 none 0 κ) {r : JX} (F : jFin LY false (oU r) κ) : ∀ (X : JX) (v2 : Int32), l_X11_takesPlace_12 X v2 = some r → J LY 3 κ X 12 [(0, .ref (jad κ (0))), (2, .int v2)] [] := by
  refine j_loop2 (P := fun X v2 => J LY 3 κ X 12 [(0, .ref (jad κ (0))), (2, .int v2)] []) (fun rec12 hrec12 X v2 hr => ?_) 1000
  unfold lb_X11_takesPlace_12 at hr
  refine j_iload_n K dX11_takesPlace_12 1 rfl ?_
  refine j_aload_n K dX11_takesPlace_13 0 rfl ?_
  refine j_get K (v := .int (X (0) 37)) fl_X11_192 rfl (Nat.le_of_ble_eq_true rfl) (by decide) rfl dX11_takesPlace_14 ?_
  refine j_icmp_ge K dX11_takesPlace_17 (tgt := 68) (by decide) hr (fun hr => ?_) (fun hr => ?_)
  · exact j_return K dX11_takesPlace_68 rfl F hr rfl
  · refine j_aload_n K dX11_takesPlace_20 0 rfl ?_
    refine j_get K (v := .ref (jad κ (28))) fl_X11_100 rfl (Nat.le_of_ble_eq_true rfl) (by decide) rfl dX11_takesPlace_21 ?_
    refine j_iload_n K dX11_takesPlace_24 1 rfl ?_
    refine j_aload_n K dX11_takesPlace_25 0 rfl ?_
    refine j_get K (v := .ref (jad κ (28))) fl_X11_100 rfl (Nat.le_of_ble_eq_true rfl) (by decide) rfl dX11_takesPlace_26 ?_
    refine j_iload_n K dX11_takesPlace_29 1 rfl ?_
    refine j_iconst K dX11_takesPlace_30 (v := 1) rfl ?_
    refine j_iadd K dX11_takesPlace_31 ?_
    refine j_iaload K (z := 600) rfl (Nat.le_of_ble_eq_true rfl) dX11_takesPlace_32 hr (fun hr => ?_)
    refine j_iastoreV K (z := 600) rfl (Nat.le_of_ble_eq_true rfl) dX11_takesPlace_33 hr (fun X2 hr => ?_)
    refine j_aload_n K dX11_takesPlace_34 0 rfl ?_
    refine j_get K (v := .ref (jad κ (29))) fl_X11_103 rfl (Nat.le_of_ble_eq_true rfl) (by decide) rfl dX11_takesPlace_35 ?_
    refine j_iload_n K dX11_takesPlace_38 1 rfl ?_
    refine j_aload_n K dX11_takesPlace_39 0 rfl ?_
    refine j_get K (v := .ref (jad κ (29))) fl_X11_103 rfl (Nat.le_of_ble_eq_true rfl) (by decide) rfl dX11_takesPlace_40 ?_
    refine j_iload_n K dX11_takesPlace_43 1 rfl ?_
    refine j_iconst K dX11_takesPlace_44 (v := 1) rfl ?_
    refine j_iadd K dX11_takesPlace_45 ?_
    refine j_iaload K (z := 600) rfl (Nat.le_of_ble_eq_true rfl) dX11_takesPlace_46 hr (fun hr => ?_)
    refine j_iastoreV K (z := 600) rfl (Nat.le_of_ble_eq_true rfl) dX11_takesPlace_47 hr (fun X3 hr => ?_)
    refine j_aload_n K dX11_takesPlace_48 0 rfl ?_
    refine j_get K (v := .ref (jad κ (30))) fl_X11_106 rfl (Nat.le_of_ble_eq_true rfl) (by decide) rfl dX11_takesPlace_49 ?_
    refine j_iload_n K dX11_takesPlace_52 1 rfl ?_
    refine j_aload_n K dX11_takesPlace_53 0 rfl ?_
    refine j_get K (v := .ref (jad κ (30))) fl_X11_106 rfl (Nat.le_of_ble_eq_true rfl) (by decide) rfl dX11_takesPlace_54 ?_
    refine j_iload_n K dX11_takesPlace_57 1 rfl ?_
    refine j_iconst K dX11_takesPlace_58 (v := 1) rfl ?_
    refine j_iadd K dX11_takesPlace_59 ?_
    refine j_baload K (z := 600) rfl (Nat.le_of_ble_eq_true rfl) dX11_takesPlace_60 hr (fun hr => ?_)
    refine j_bastoreV K (z := 600) rfl (Nat.le_of_ble_eq_true rfl) dX11_takesPlace_61 hr (fun X4 hr => ?_)
    refine j_iincV K dX11_takesPlace_62 (v := 1) 1 rfl rfl (by decide) hr (fun t5 hr => ?_)
    refine j_goto K dX11_takesPlace_65 (tgt := 12) (by decide) ?_
    exact j_sub [1, 0] rfl (hrec12 _ _ hr)
theorem jf_X11_takesPlace {κ : JK} (K : jOk 3 cX11_takesPlace RX11 none 0 κ) (X : JX) (v1 : Int32) {r : JX} (F : jFin LY false (oU r) κ) (hr : f_X11_takesPlace X v1 = some r) : J LY 3 κ X 0 [(0, .ref (jad κ (0))), (1, .int v1)] [] := by
  unfold f_X11_takesPlace at hr
  refine j_aload_n K dX11_takesPlace_0 0 rfl ?_
  refine j_dup K dX11_takesPlace_1 rfl ?_
  refine j_get K (v := .int (X (0) 37)) fl_X11_192 rfl (Nat.le_of_ble_eq_true rfl) (by decide) rfl dX11_takesPlace_2 ?_
  refine j_iconst K dX11_takesPlace_5 (v := 1) rfl ?_
  refine j_isub K dX11_takesPlace_6 ?_
  refine j_putiV K fp_X11_192 rfl (Nat.le_of_ble_eq_true rfl) (by decide) (fun _ => Nat.le_of_ble_eq_true rfl) (fun _ => rfl) dX11_takesPlace_7 hr (fun X1 hr => ?_)
  refine j_iload_n K dX11_takesPlace_10 1 rfl ?_
  refine j_istore_n K dX11_takesPlace_11 (by decide) ?_
  exact j_sub [1, 0] rfl (jl_X11_takesPlace_12 K F _ _ hr)
theorem c_X11_takesPlace (X : JX) (v1 : Int32) {r : JX} (hr : f_X11_takesPlace X v1 = some r) : Cal LY yX11_takesPlace cX11_takesPlace 3 none 0 (fun ad => [.ref (ad (0)), .int v1]) X (fun ad => oU r) :=
  Cal.of (own := RX11) (fun ad => [(0, .ref (ad (0))), (1, .int v1)]) (by decide) rfl (fun _ => Nat.le_of_ble_eq_true rfl) (fun _ => rfl) (fun κ K F => jf_X11_takesPlace K X v1 F hr)
theorem jb_X11_cleans_35 {κ : JK} (K : jOk 3 cX11_cleans RX11 none 1 κ) (X : JX) (v1 : Int32) (v2 : Int32) {r : JX} (F : jFin LY false (oU r) κ) (rec7 : JX → Int32 → Option JX) (hrec7 : ∀ (X : JX) (v2 : Int32), rec7 X v2 = some r → J LY 3 κ X 7 [(0, .ref (jad κ (0))), (1, .int v1), (2, .int v2)] []) (hr : b_X11_cleans_35 rec7 X v1 v2 = some r) : J LY 3 κ X 35 [(0, .ref (jad κ (0))), (1, .int v1), (2, .int v2)] [] := by
  unfold b_X11_cleans_35 at hr
  refine j_iincV K dX11_cleans_35 (v := -1) 2 rfl rfl (by decide) hr (fun t3 hr => ?_)
  refine j_goto K dX11_cleans_38 (tgt := 7) (by decide) ?_
  exact j_sub [1, 2, 0] rfl (hrec7 _ _ hr)
theorem jl_X11_cleans_7 {κ : JK} (K : jOk 3 cX11_cleans RX11 none 1 κ) (v1 : Int32) {r : JX} (F : jFin LY false (oU r) κ) : ∀ (X : JX) (v2 : Int32), l_X11_cleans_7 v1 X v2 = some r → J LY 3 κ X 7 [(0, .ref (jad κ (0))), (1, .int v1), (2, .int v2)] [] := by
  refine j_loop2 (P := fun X v2 => J LY 3 κ X 7 [(0, .ref (jad κ (0))), (1, .int v1), (2, .int v2)] []) (fun rec7 hrec7 X v2 hr => ?_) 1000
  unfold lb_X11_cleans_7 at hr
  refine j_iload_n K dX11_cleans_7 2 rfl ?_
  refine j_if_lt K dX11_cleans_8 (tgt := 41) (by decide) hr (fun hr => ?_) (fun hr => ?_)
  · exact j_return K dX11_cleans_41 rfl F hr rfl
  · refine j_aload_n K dX11_cleans_11 0 rfl ?_
    refine j_get K (v := .ref (jad κ (28))) fl_X11_100 rfl (Nat.le_of_ble_eq_true rfl) (by decide) rfl dX11_cleans_12 ?_
    refine j_iload_n K dX11_cleans_15 2 rfl ?_
    refine j_iaload K (z := 600) rfl (Nat.le_of_ble_eq_true rfl) dX11_cleans_16 hr (fun hr => ?_)
    refine j_iload_n K dX11_cleans_17 1 rfl ?_
    refine j_icmp_ne K dX11_cleans_18 (tgt := 35) (by decide) hr (fun hr => ?_) (fun hr => ?_)
    · exact j_sub [0, 1, 2] rfl (jb_X11_cleans_35 K _ _ _ F rec7 hrec7 hr)
    · refine j_aload_n K dX11_cleans_21 0 rfl ?_
      refine j_get K (v := .ref (jad κ (30))) fl_X11_106 rfl (Nat.le_of_ble_eq_true rfl) (by decide) rfl dX11_cleans_22 ?_
      refine j_iload_n K dX11_cleans_25 2 rfl ?_
      refine j_baload K (z := 600) rfl (Nat.le_of_ble_eq_true rfl) dX11_cleans_26 hr (fun hr => ?_)
      refine j_if_eq K dX11_cleans_27 (tgt := 35) (by decide) hr (fun hr => ?_) (fun hr => ?_)
      · exact j_sub [0, 1, 2] rfl (jb_X11_cleans_35 K _ _ _ F rec7 hrec7 hr)
      · refine j_aload_n K dX11_cleans_30 0 rfl ?_
        refine j_iload_n K dX11_cleans_31 2 rfl ?_
        refine j_vU1 K (ci := 11) hr (fun v h => c_X11_takesPlace X v2 h) ml_X11_261 ⟨_, rfl, rfl⟩ rfl (Nat.le_of_ble_eq_true rfl) (by decide) rfl (by decide) (by decide) (Nat.le_of_ble_eq_true rfl) dX11_cleans_32 (fun X2 h hr => ?_)
        exact j_sub [0, 1, 2] rfl (jb_X11_cleans_35 K _ _ _ F rec7 hrec7 hr)
theorem jf_X11_cleans {κ : JK} (K : jOk 3 cX11_cleans RX11 none 1 κ) (X : JX) (v1 : Int32) {r : JX} (F : jFin LY false (oU r) κ) (hr : f_X11_cleans X v1 = some r) : J LY 3 κ X 0 [(0, .ref (jad κ (0))), (1, .int v1)] [] := by
  unfold f_X11_cleans at hr
  refine j_aload_n K dX11_cleans_0 0 rfl ?_
  refine j_get K (v := .int (X (0) 37)) fl_X11_192 rfl (Nat.le_of_ble_eq_true rfl) (by decide) rfl dX11_cleans_1 ?_
  refine j_iconst K dX11_cleans_4 (v := 1) rfl ?_
  refine j_isub K dX11_cleans_5 ?_
  refine j_istoreV_n K dX11_cleans_6 (by decide) hr (fun t1 hr => ?_)
  exact j_sub [1, 2, 0] rfl (jl_X11_cleans_7 K _ F _ _ hr)
theorem c_X11_cleans (X : JX) (v1 : Int32) {r : JX} (hr : f_X11_cleans X v1 = some r) : Cal LY yX11_cleans cX11_cleans 3 none 1 (fun ad => [.ref (ad (0)), .int v1]) X (fun ad => oU r) :=
  Cal.of (own := RX11) (fun ad => [(0, .ref (ad (0))), (1, .int v1)]) (by decide) rfl (fun _ => Nat.le_of_ble_eq_true rfl) (fun _ => rfl) (fun κ K F => jf_X11_cleans K X v1 F hr)
theorem jf_X11_isNode {κ : JK} (K : jOk 2 cX11_isNode RX11 (some .boolean) 1 κ) (X : JX) (v1 : Int32) {r : Int32} (F : jFin LY false (oI X r) κ) (hr : f_X11_isNode X v1 = some r) : J LY 2 κ X 0 [(0, .ref (jad κ (0))), (1, .int v1)] [] := by
  unfold f_X11_isNode at hr
  refine j_iload_n K dX11_isNode_0 1 rfl ?_
  refine j_iconst K dX11_isNode_1 (v := 0) rfl ?_
  refine j_aload_n K dX11_isNode_2 0 rfl ?_
  refine j_get K (v := .int (X (0) 2)) fl_X11_118 rfl (Nat.le_of_ble_eq_true rfl) (by decide) rfl dX11_isNode_3 ?_
  refine j_iconst K dX11_isNode_6 (v := 1) rfl ?_
  refine j_isub K dX11_isNode_7 ?_
  refine j_sI3 K hr (fun v h => c_X11_in X v1 (0) ((X (0) 2) - (1)) h) ms_X11_124 rfl (by decide) (by decide) (Nat.le_of_ble_eq_true rfl) dX11_isNode_8 (fun t1 h hr => ?_)
  refine j_if_eq K dX11_isNode_11 (tgt := 27) (by decide) hr (fun hr => ?_) (fun hr => ?_)
  · refine j_iconst K dX11_isNode_27 (v := 0) rfl ?_
    exact j_zreturn K dX11_isNode_28 rfl rfl F hr rfl
  · refine j_aload_n K dX11_isNode_14 0 rfl ?_
    refine j_get K (v := .ref (jad κ (1))) fl_X11_7 rfl (Nat.le_of_ble_eq_true rfl) (by decide) rfl dX11_isNode_15 ?_
    refine j_iload_n K dX11_isNode_18 1 rfl ?_
    refine j_baload K (z := 60) rfl (Nat.le_of_ble_eq_true rfl) dX11_isNode_19 hr (fun hr => ?_)
    refine j_if_eq K dX11_isNode_20 (tgt := 27) (by decide) hr (fun hr => ?_) (fun hr => ?_)
    · refine j_iconst K dX11_isNode_27 (v := 0) rfl ?_
      exact j_zreturn K dX11_isNode_28 rfl rfl F hr rfl
    · refine j_iconst K dX11_isNode_23 (v := 1) rfl ?_
      refine j_goto K dX11_isNode_24 (tgt := 28) (by decide) ?_
      exact j_zreturn K dX11_isNode_28 rfl rfl F hr rfl
theorem c_X11_isNode (X : JX) (v1 : Int32) {r : Int32} (hr : f_X11_isNode X v1 = some r) : Cal LY yX11_isNode cX11_isNode 2 (some .boolean) 1 (fun ad => [.ref (ad (0)), .int v1]) X (fun ad => oI X r) :=
  Cal.of (own := RX11) (fun ad => [(0, .ref (ad (0))), (1, .int v1)]) (by decide) rfl (fun _ => Nat.le_of_ble_eq_true rfl) (fun _ => rfl) (fun κ K F => jf_X11_isNode K X v1 F hr)
theorem jf_X11_isFileAt {κ : JK} (K : jOk 2 cX11_isFileAt RX11 (some .boolean) 2 κ) (X : JX) (v1 : Int32) {r : Int32} (F : jFin LY false (oI X r) κ) (hr : f_X11_isFileAt X v1 = some r) : J LY 2 κ X 0 [(0, .ref (jad κ (0))), (1, .int v1)] [] := by
  unfold f_X11_isFileAt at hr
  refine j_aload_n K dX11_isFileAt_0 0 rfl ?_
  refine j_iload_n K dX11_isFileAt_1 1 rfl ?_
  refine j_vI1 K (ci := 11) hr (fun v h => c_X11_isNode X v1 h) ml_X11_128 ⟨_, rfl, rfl⟩ rfl (Nat.le_of_ble_eq_true rfl) (by decide) rfl (by decide) (by decide) (Nat.le_of_ble_eq_true rfl) dX11_isFileAt_2 (fun t1 h hr => ?_)
  refine j_if_eq K dX11_isFileAt_5 (tgt := 21) (by decide) hr (fun hr => ?_) (fun hr => ?_)
  · refine j_iconst K dX11_isFileAt_21 (v := 0) rfl ?_
    exact j_zreturn K dX11_isFileAt_22 rfl rfl F hr rfl
  · refine j_aload_n K dX11_isFileAt_8 0 rfl ?_
    refine j_get K (v := .ref (jad κ (2))) fl_X11_13 rfl (Nat.le_of_ble_eq_true rfl) (by decide) rfl dX11_isFileAt_9 ?_
    refine j_iload_n K dX11_isFileAt_12 1 rfl ?_
    refine j_baload K (z := 60) rfl (Nat.le_of_ble_eq_true rfl) dX11_isFileAt_13 hr (fun hr => ?_)
    refine j_if_ne K dX11_isFileAt_14 (tgt := 21) (by decide) hr (fun hr => ?_) (fun hr => ?_)
    · refine j_iconst K dX11_isFileAt_21 (v := 0) rfl ?_
      exact j_zreturn K dX11_isFileAt_22 rfl rfl F hr rfl
    · refine j_iconst K dX11_isFileAt_17 (v := 1) rfl ?_
      refine j_goto K dX11_isFileAt_18 (tgt := 22) (by decide) ?_
      exact j_zreturn K dX11_isFileAt_22 rfl rfl F hr rfl
theorem c_X11_isFileAt (X : JX) (v1 : Int32) {r : Int32} (hr : f_X11_isFileAt X v1 = some r) : Cal LY yX11_isFileAt cX11_isFileAt 2 (some .boolean) 2 (fun ad => [.ref (ad (0)), .int v1]) X (fun ad => oI X r) :=
  Cal.of (own := RX11) (fun ad => [(0, .ref (ad (0))), (1, .int v1)]) (by decide) rfl (fun _ => Nat.le_of_ble_eq_true rfl) (fun _ => rfl) (fun κ K F => jf_X11_isFileAt K X v1 F hr)
theorem jb_X11_isCloser_54 {κ : JK} (K : jOk 8 cX11_isCloser RX11 (some .boolean) 0 κ) (X : JX) (v0 : Int32) (v2 : Int32) (v4 : Int32) (v5 : Int32) (v6 : Int32) (s0 : Int32) {r : Int32} (F : jFin LY false (oI X r) κ) (hr : b_X11_isCloser_54 X v0 v2 v4 v5 v6 s0 = some r) : J LY 8 κ X 54 [(0, .int v0), (2, .int v2), (4, .int v4), (5, .int v5), (6, .int v6)] [.int s0] := by
  unfold b_X11_isCloser_54 at hr
  refine j_istore K dX11_isCloser_54 (by decide) ?_
  refine j_iload K dX11_isCloser_56 3 rfl ?_
  refine j_iload K dX11_isCloser_58 4 rfl ?_
  refine j_icmp_eq K dX11_isCloser_60 (tgt := 78) (by decide) hr (fun hr => ?_) (fun hr => ?_)
  · refine j_iload K dX11_isCloser_78 5 rfl ?_
    refine j_iload K dX11_isCloser_80 0 rfl ?_
    refine j_icmp_eq K dX11_isCloser_82 (tgt := 100) (by decide) hr (fun hr => ?_) (fun hr => ?_)
    · refine j_iload_n K dX11_isCloser_100 1 rfl ?_
      refine j_iload_n K dX11_isCloser_101 2 rfl ?_
      refine j_icmp_ge K dX11_isCloser_102 (tgt := 109) (by decide) hr (fun hr => ?_) (fun hr => ?_)
      · refine j_iconst K dX11_isCloser_109 (v := 0) rfl ?_
        exact j_zreturn K dX11_isCloser_110 rfl rfl F hr rfl
      · refine j_iconst K dX11_isCloser_105 (v := 1) rfl ?_
        refine j_goto K dX11_isCloser_106 (tgt := 110) (by decide) ?_
        exact j_zreturn K dX11_isCloser_110 rfl rfl F hr rfl
    · refine j_iload K dX11_isCloser_85 5 rfl ?_
      refine j_iload K dX11_isCloser_87 0 rfl ?_
      refine j_icmp_ge K dX11_isCloser_89 (tgt := 96) (by decide) hr (fun hr => ?_) (fun hr => ?_)
      · refine j_iconst K dX11_isCloser_96 (v := 0) rfl ?_
        refine j_goto K dX11_isCloser_97 (tgt := 110) (by decide) ?_
        exact j_zreturn K dX11_isCloser_110 rfl rfl F hr rfl
      · refine j_iconst K dX11_isCloser_92 (v := 1) rfl ?_
        refine j_goto K dX11_isCloser_93 (tgt := 110) (by decide) ?_
        exact j_zreturn K dX11_isCloser_110 rfl rfl F hr rfl
  · refine j_iload K dX11_isCloser_63 3 rfl ?_
    refine j_iload K dX11_isCloser_65 4 rfl ?_
    refine j_icmp_ge K dX11_isCloser_67 (tgt := 74) (by decide) hr (fun hr => ?_) (fun hr => ?_)
    · refine j_iconst K dX11_isCloser_74 (v := 0) rfl ?_
      refine j_goto K dX11_isCloser_75 (tgt := 110) (by decide) ?_
      exact j_zreturn K dX11_isCloser_110 rfl rfl F hr rfl
    · refine j_iconst K dX11_isCloser_70 (v := 1) rfl ?_
      refine j_goto K dX11_isCloser_71 (tgt := 110) (by decide) ?_
      exact j_zreturn K dX11_isCloser_110 rfl rfl F hr rfl
theorem jb_X11_isCloser_42 {κ : JK} (K : jOk 8 cX11_isCloser RX11 (some .boolean) 0 κ) (X : JX) (v0 : Int32) (v2 : Int32) (v3 : Int32) (v4 : Int32) (v5 : Int32) (s0 : Int32) {r : Int32} (F : jFin LY false (oI X r) κ) (hr : b_X11_isCloser_42 X v0 v2 v3 v4 v5 s0 = some r) : J LY 8 κ X 42 [(0, .int v0), (2, .int v2), (3, .int v3), (4, .int v4), (5, .int v5)] [.int s0] := by
  unfold b_X11_isCloser_42 at hr
  refine j_istore K dX11_isCloser_42 (by decide) ?_
  refine j_iload_n K dX11_isCloser_44 2 rfl ?_
  refine j_iload_n K dX11_isCloser_45 3 rfl ?_
  refine j_icmp_ge K dX11_isCloser_46 (tgt := 53) (by decide) hr (fun hr => ?_) (fun hr => ?_)
  · refine j_iload_n K dX11_isCloser_53 3 rfl ?_
    exact j_sub [1, 2, 4, 5, 0] rfl (jb_X11_isCloser_54 K _ _ _ _ _ _ _ F hr)
  · refine j_iload_n K dX11_isCloser_49 2 rfl ?_
    refine j_goto K dX11_isCloser_50 (tgt := 54) (by decide) ?_
    exact j_sub [1, 2, 4, 5, 0] rfl (jb_X11_isCloser_54 K _ _ _ _ _ _ _ F hr)
theorem jb_X11_isCloser_30 {κ : JK} (K : jOk 8 cX11_isCloser RX11 (some .boolean) 0 κ) (X : JX) (v0 : Int32) (v1 : Int32) (v2 : Int32) (v3 : Int32) (v4 : Int32) (s0 : Int32) {r : Int32} (F : jFin LY false (oI X r) κ) (hr : b_X11_isCloser_30 X v0 v1 v2 v3 v4 s0 = some r) : J LY 8 κ X 30 [(0, .int v0), (1, .int v1), (2, .int v2), (3, .int v3), (4, .int v4)] [.int s0] := by
  unfold b_X11_isCloser_30 at hr
  refine j_istore K dX11_isCloser_30 (by decide) ?_
  refine j_iload_n K dX11_isCloser_32 1 rfl ?_
  refine j_iload_n K dX11_isCloser_33 2 rfl ?_
  refine j_icmp_ge K dX11_isCloser_34 (tgt := 41) (by decide) hr (fun hr => ?_) (fun hr => ?_)
  · refine j_iload_n K dX11_isCloser_41 2 rfl ?_
    exact j_sub [1, 3, 4, 5, 0] rfl (jb_X11_isCloser_42 K _ _ _ _ _ _ _ F hr)
  · refine j_iload_n K dX11_isCloser_37 1 rfl ?_
    refine j_goto K dX11_isCloser_38 (tgt := 42) (by decide) ?_
    exact j_sub [1, 3, 4, 5, 0] rfl (jb_X11_isCloser_42 K _ _ _ _ _ _ _ F hr)
theorem jb_X11_isCloser_14 {κ : JK} (K : jOk 8 cX11_isCloser RX11 (some .boolean) 0 κ) (X : JX) (v0 : Int32) (v1 : Int32) (v2 : Int32) (v3 : Int32) (s0 : Int32) {r : Int32} (F : jFin LY false (oI X r) κ) (hr : b_X11_isCloser_14 X v0 v1 v2 v3 s0 = some r) : J LY 8 κ X 14 [(0, .int v0), (1, .int v1), (2, .int v2), (3, .int v3)] [.int s0] := by
  unfold b_X11_isCloser_14 at hr
  refine j_istore K dX11_isCloser_14 (by decide) ?_
  refine j_iload_n K dX11_isCloser_16 3 rfl ?_
  refine j_iload_n K dX11_isCloser_17 4 rfl ?_
  refine j_icmp_ge K dX11_isCloser_18 (tgt := 27) (by decide) hr (fun hr => ?_) (fun hr => ?_)
  · refine j_iload_n K dX11_isCloser_27 3 rfl ?_
    refine j_iload_n K dX11_isCloser_28 4 rfl ?_
    refine j_isub K dX11_isCloser_29 ?_
    exact j_sub [1, 2, 3, 4, 0] rfl (jb_X11_isCloser_30 K _ _ _ _ _ _ _ F hr)
  · refine j_iload_n K dX11_isCloser_21 4 rfl ?_
    refine j_iload_n K dX11_isCloser_22 3 rfl ?_
    refine j_isub K dX11_isCloser_23 ?_
    refine j_goto K dX11_isCloser_24 (tgt := 30) (by decide) ?_
    exact j_sub [1, 2, 3, 4, 0] rfl (jb_X11_isCloser_30 K _ _ _ _ _ _ _ F hr)
theorem jf_X11_isCloser {κ : JK} (K : jOk 8 cX11_isCloser RX11 (some .boolean) 0 κ) (X : JX) (v0 : Int32) (v1 : Int32) (v2 : Int32) (v3 : Int32) {r : Int32} (F : jFin LY false (oI X r) κ) (hr : f_X11_isCloser X v0 v1 v2 v3 = some r) : J LY 8 κ X 0 [(0, .int v0), (1, .int v1), (2, .int v2), (3, .int v3)] [] := by
  unfold f_X11_isCloser at hr
  refine j_iload_n K dX11_isCloser_0 0 rfl ?_
  refine j_iload_n K dX11_isCloser_1 1 rfl ?_
  refine j_icmp_ge K dX11_isCloser_2 (tgt := 11) (by decide) hr (fun hr => ?_) (fun hr => ?_)
  · refine j_iload_n K dX11_isCloser_11 0 rfl ?_
    refine j_iload_n K dX11_isCloser_12 1 rfl ?_
    refine j_isub K dX11_isCloser_13 ?_
    exact j_sub [0, 1, 2, 3] rfl (jb_X11_isCloser_14 K _ _ _ _ _ _ F hr)
  · refine j_iload_n K dX11_isCloser_5 1 rfl ?_
    refine j_iload_n K dX11_isCloser_6 0 rfl ?_
    refine j_isub K dX11_isCloser_7 ?_
    refine j_goto K dX11_isCloser_8 (tgt := 14) (by decide) ?_
    exact j_sub [0, 1, 2, 3] rfl (jb_X11_isCloser_14 K _ _ _ _ _ _ F hr)
theorem c_X11_isCloser (X : JX) (v0 : Int32) (v1 : Int32) (v2 : Int32) (v3 : Int32) {r : Int32} (hr : f_X11_isCloser X v0 v1 v2 v3 = some r) : Cal LY yX11_isCloser cX11_isCloser 8 (some .boolean) 0 (fun ad => [.int v0, .int v1, .int v2, .int v3]) X (fun ad => oI X r) :=
  Cal.of (own := RX11) (fun ad => [(0, .int v0), (1, .int v1), (2, .int v2), (3, .int v3)]) (by decide) rfl (fun _ => Nat.le_of_ble_eq_true rfl) (fun _ => rfl) (fun κ K F => jf_X11_isCloser K X v0 v1 v2 v3 F hr)
theorem jb_X11_closest_26 {κ : JK} (K : jOk 10 cX11_closest RX11 (some .int) 3 κ) (X : JX) {r : (Int32 × JX)} (F : jFin LY false (oM r) κ) (hr : b_X11_closest_26 X = some r) : J LY 10 κ X 26 [(0, .ref (jad κ (0)))] [] := by
  unfold b_X11_closest_26 at hr
  refine j_aload_n K dX11_closest_26 0 rfl ?_
  refine j_iconst K dX11_closest_27 (v := 1) rfl ?_
  refine j_vM1 K (ci := 11) hr (fun v h => c_X11_fails X (1) h) ml_X11_142 ⟨_, rfl, rfl⟩ rfl (Nat.le_of_ble_eq_true rfl) (by decide) rfl (by decide) (by decide) (Nat.le_of_ble_eq_true rfl) dX11_closest_28 (fun t6 h hr => ?_)
  exact j_ireturn K dX11_closest_31 rfl F hr rfl
theorem jb_X11_closest_203 {κ : JK} (K : jOk 10 cX11_closest RX11 (some .int) 3 κ) (X : JX) (v2 : Int32) (v3 : Int32) (v4 : Int32) (v5 : Int32) (v6 : Int32) (v7 : Int32) (v8 : Int32) {r : (Int32 × JX)} (F : jFin LY false (oM r) κ) (rec98 : Int32 → Int32 → Option (Int32 × JX)) (hrec98 : ∀ (v5 : Int32) (v7 : Int32), rec98 v5 v7 = some r → J LY 10 κ X 98 [(0, .ref (jad κ (0))), (2, .int v2), (3, .int v3), (4, .int v4), (5, .int v5), (6, .int v6), (7, .int v7)] []) (rec108 : Int32 → Int32 → Option (Int32 × JX)) (hrec108 : ∀ (v5 : Int32) (v8 : Int32), rec108 v5 v8 = some r → J LY 10 κ X 108 [(0, .ref (jad κ (0))), (2, .int v2), (3, .int v3), (4, .int v4), (5, .int v5), (6, .int v6), (7, .int v7), (8, .int v8)] []) (hr : b_X11_closest_203 rec98 rec108 X v2 v3 v4 v5 v6 v7 v8 = some r) : J LY 10 κ X 203 [(0, .ref (jad κ (0))), (2, .int v2), (3, .int v3), (4, .int v4), (5, .int v5), (6, .int v6), (7, .int v7), (8, .int v8)] [] := by
  unfold b_X11_closest_203 at hr
  refine j_iincV K dX11_closest_203 (v := 1) 7 rfl rfl (by decide) hr (fun t11 hr => ?_)
  refine j_goto K dX11_closest_206 (tgt := 108) (by decide) ?_
  exact j_sub [1, 2, 3, 4, 5, 6, 7, 0] rfl (hrec108 _ _ hr)
theorem jb_X11_closest_193 {κ : JK} (K : jOk 10 cX11_closest RX11 (some .int) 3 κ) (X : JX) (v2 : Int32) (v3 : Int32) (v4 : Int32) (v6 : Int32) (v7 : Int32) (v8 : Int32) {r : (Int32 × JX)} (F : jFin LY false (oM r) κ) (rec98 : Int32 → Int32 → Option (Int32 × JX)) (hrec98 : ∀ (v5 : Int32) (v7 : Int32), rec98 v5 v7 = some r → J LY 10 κ X 98 [(0, .ref (jad κ (0))), (2, .int v2), (3, .int v3), (4, .int v4), (5, .int v5), (6, .int v6), (7, .int v7)] []) (rec108 : Int32 → Int32 → Option (Int32 × JX)) (hrec108 : ∀ (v5 : Int32) (v8 : Int32), rec108 v5 v8 = some r → J LY 10 κ X 108 [(0, .ref (jad κ (0))), (2, .int v2), (3, .int v3), (4, .int v4), (5, .int v5), (6, .int v6), (7, .int v7), (8, .int v8)] []) (hr : b_X11_closest_193 rec98 rec108 X v2 v3 v4 v6 v7 v8 = some r) : J LY 10 κ X 193 [(0, .ref (jad κ (0))), (2, .int v2), (3, .int v3), (4, .int v4), (6, .int v6), (7, .int v7), (8, .int v8)] [] := by
  unfold b_X11_closest_193 at hr
  refine j_bipush K dX11_closest_193 (v := 100) rfl ?_
  refine j_iload K dX11_closest_195 5 rfl ?_
  refine j_imul K dX11_closest_197 ?_
  refine j_iload K dX11_closest_198 6 rfl ?_
  refine j_iadd K dX11_closest_200 ?_
  refine j_istoreV K dX11_closest_201 (by decide) hr (fun t12 hr => ?_)
  exact j_sub [1, 2, 3, 4, 0, 5, 6, 7] rfl (jb_X11_closest_203 K _ _ _ _ _ _ _ _ F rec98 hrec98 rec108 hrec108 hr)
theorem jb_X11_closest_160 {κ : JK} (K : jOk 10 cX11_closest RX11 (some .int) 3 κ) (X : JX) (v2 : Int32) (v3 : Int32) (v4 : Int32) (v5 : Int32) (v6 : Int32) (v7 : Int32) (v8 : Int32) (s0 : Int32) {r : (Int32 × JX)} (F : jFin LY false (oM r) κ) (rec98 : Int32 → Int32 → Option (Int32 × JX)) (hrec98 : ∀ (v5 : Int32) (v7 : Int32), rec98 v5 v7 = some r → J LY 10 κ X 98 [(0, .ref (jad κ (0))), (2, .int v2), (3, .int v3), (4, .int v4), (5, .int v5), (6, .int v6), (7, .int v7)] []) (rec108 : Int32 → Int32 → Option (Int32 × JX)) (hrec108 : ∀ (v5 : Int32) (v8 : Int32), rec108 v5 v8 = some r → J LY 10 κ X 108 [(0, .ref (jad κ (0))), (2, .int v2), (3, .int v3), (4, .int v4), (5, .int v5), (6, .int v6), (7, .int v7), (8, .int v8)] []) (hr : b_X11_closest_160 rec98 rec108 X v2 v3 v4 v5 v6 v7 v8 s0 = some r) : J LY 10 κ X 160 [(0, .ref (jad κ (0))), (2, .int v2), (3, .int v3), (4, .int v4), (5, .int v5), (6, .int v6), (7, .int v7), (8, .int v8)] [.int s0] := by
  unfold b_X11_closest_160 at hr
  refine j_istore K dX11_closest_160 (by decide) ?_
  refine j_iload K dX11_closest_162 0 rfl ?_
  refine j_if_eq K dX11_closest_164 (tgt := 203) (by decide) hr (fun hr => ?_) (fun hr => ?_)
  · exact j_sub [1, 2, 3, 4, 5, 6, 7, 8] rfl (jb_X11_closest_203 K _ _ _ _ _ _ _ _ F rec98 hrec98 rec108 hrec108 hr)
  · refine j_iload K dX11_closest_167 5 rfl ?_
    refine j_iconst K dX11_closest_169 (v := -1) rfl ?_
    refine j_icmp_eq K dX11_closest_170 (tgt := 193) (by decide) hr (fun hr => ?_) (fun hr => ?_)
    · exact j_sub [1, 2, 3, 4, 6, 7, 8] rfl (jb_X11_closest_193 K _ _ _ _ _ _ _ F rec98 hrec98 rec108 hrec108 hr)
    · refine j_iload K dX11_closest_173 7 rfl ?_
      refine j_iload K dX11_closest_175 8 rfl ?_
      refine j_iload K dX11_closest_177 5 rfl ?_
      refine j_bipush K dX11_closest_179 (v := 100) rfl ?_
      refine j_idiv K dX11_closest_181 (by decide) ?_
      refine j_iload K dX11_closest_182 5 rfl ?_
      refine j_bipush K dX11_closest_184 (v := 100) rfl ?_
      refine j_irem K dX11_closest_186 (by decide) ?_
      refine j_sI4 K hr (fun v h => c_X11_isCloser X v7 v8 (v5 / (100)) (v5 - v5 / (100) * (100)) h) ms_X11_299 rfl (by decide) (by decide) (Nat.le_of_ble_eq_true rfl) dX11_closest_187 (fun t10 h hr => ?_)
      refine j_if_eq K dX11_closest_190 (tgt := 203) (by decide) hr (fun hr => ?_) (fun hr => ?_)
      · exact j_sub [1, 2, 3, 4, 5, 6, 7, 8] rfl (jb_X11_closest_203 K _ _ _ _ _ _ _ _ F rec98 hrec98 rec108 hrec108 hr)
      · exact j_sub [1, 2, 3, 4, 6, 7, 8] rfl (jb_X11_closest_193 K _ _ _ _ _ _ _ F rec98 hrec98 rec108 hrec108 hr)
theorem jl_X11_closest_108 {κ : JK} (K : jOk 10 cX11_closest RX11 (some .int) 3 κ) (X : JX) (v2 : Int32) (v3 : Int32) (v4 : Int32) (v6 : Int32) (v7 : Int32) {r : (Int32 × JX)} (F : jFin LY false (oM r) κ) (rec98 : Int32 → Int32 → Option (Int32 × JX)) (hrec98 : ∀ (v5 : Int32) (v7 : Int32), rec98 v5 v7 = some r → J LY 10 κ X 98 [(0, .ref (jad κ (0))), (2, .int v2), (3, .int v3), (4, .int v4), (5, .int v5), (6, .int v6), (7, .int v7)] []) : ∀ (v5 : Int32) (v8 : Int32), l_X11_closest_108 rec98 X v2 v3 v4 v6 v7 v5 v8 = some r → J LY 10 κ X 108 [(0, .ref (jad κ (0))), (2, .int v2), (3, .int v3), (4, .int v4), (5, .int v5), (6, .int v6), (7, .int v7), (8, .int v8)] [] := by
  refine j_loop2 (P := fun v5 v8 => J LY 10 κ X 108 [(0, .ref (jad κ (0))), (2, .int v2), (3, .int v3), (4, .int v4), (5, .int v5), (6, .int v6), (7, .int v7), (8, .int v8)] []) (fun rec108 hrec108 v5 v8 hr => ?_) 1000
  unfold lb_X11_closest_108 at hr
  refine j_iload K dX11_closest_108 7 rfl ?_
  refine j_iload K dX11_closest_110 5 rfl ?_
  refine j_icmp_ge K dX11_closest_112 (tgt := 209) (by decide) hr (fun hr => ?_) (fun hr => ?_)
  · refine j_iincV K dX11_closest_209 (v := 1) 6 rfl rfl (by decide) hr (fun t9 hr => ?_)
    refine j_goto K dX11_closest_212 (tgt := 98) (by decide) ?_
    exact j_sub [1, 2, 3, 4, 5, 6, 0] rfl (hrec98 _ _ hr)
  · refine j_iload K dX11_closest_115 6 rfl ?_
    refine j_iload K dX11_closest_117 7 rfl ?_
    refine j_icmp_eq K dX11_closest_119 (tgt := 159) (by decide) hr (fun hr => ?_) (fun hr => ?_)
    · refine j_iconst K dX11_closest_159 (v := 0) rfl ?_
      exact j_sub [0, 1, 2, 3, 4, 5, 6, 7] rfl (jb_X11_closest_160 K _ _ _ _ _ _ _ _ _ F rec98 hrec98 rec108 hrec108 hr)
    · refine j_aload_n K dX11_closest_122 0 rfl ?_
      refine j_get K (v := .ref (jad κ (24))) fl_X11_81 rfl (Nat.le_of_ble_eq_true rfl) (by decide) rfl dX11_closest_123 ?_
      refine j_bipush K dX11_closest_126 (v := 20) rfl ?_
      refine j_iload_n K dX11_closest_128 1 rfl ?_
      refine j_imul K dX11_closest_129 ?_
      refine j_iload K dX11_closest_130 6 rfl ?_
      refine j_iadd K dX11_closest_132 ?_
      refine j_iaload K (z := 1200) rfl (Nat.le_of_ble_eq_true rfl) dX11_closest_133 hr (fun hr => ?_)
      refine j_iload_n K dX11_closest_134 2 rfl ?_
      refine j_icmp_ne K dX11_closest_135 (tgt := 159) (by decide) hr (fun hr => ?_) (fun hr => ?_)
      · refine j_iconst K dX11_closest_159 (v := 0) rfl ?_
        exact j_sub [0, 1, 2, 3, 4, 5, 6, 7] rfl (jb_X11_closest_160 K _ _ _ _ _ _ _ _ _ F rec98 hrec98 rec108 hrec108 hr)
      · refine j_aload_n K dX11_closest_138 0 rfl ?_
        refine j_get K (v := .ref (jad κ (24))) fl_X11_81 rfl (Nat.le_of_ble_eq_true rfl) (by decide) rfl dX11_closest_139 ?_
        refine j_bipush K dX11_closest_142 (v := 20) rfl ?_
        refine j_iload_n K dX11_closest_144 1 rfl ?_
        refine j_imul K dX11_closest_145 ?_
        refine j_iload K dX11_closest_146 7 rfl ?_
        refine j_iadd K dX11_closest_148 ?_
        refine j_iaload K (z := 1200) rfl (Nat.le_of_ble_eq_true rfl) dX11_closest_149 hr (fun hr => ?_)
        refine j_iload K dX11_closest_150 3 rfl ?_
        refine j_icmp_ne K dX11_closest_152 (tgt := 159) (by decide) hr (fun hr => ?_) (fun hr => ?_)
        · refine j_iconst K dX11_closest_159 (v := 0) rfl ?_
          exact j_sub [0, 1, 2, 3, 4, 5, 6, 7] rfl (jb_X11_closest_160 K _ _ _ _ _ _ _ _ _ F rec98 hrec98 rec108 hrec108 hr)
        · refine j_iconst K dX11_closest_155 (v := 1) rfl ?_
          refine j_goto K dX11_closest_156 (tgt := 160) (by decide) ?_
          exact j_sub [0, 1, 2, 3, 4, 5, 6, 7] rfl (jb_X11_closest_160 K _ _ _ _ _ _ _ _ _ F rec98 hrec98 rec108 hrec108 hr)
theorem jl_X11_closest_98 {κ : JK} (K : jOk 10 cX11_closest RX11 (some .int) 3 κ) (X : JX) (v2 : Int32) (v3 : Int32) (v4 : Int32) (v6 : Int32) {r : (Int32 × JX)} (F : jFin LY false (oM r) κ) : ∀ (v5 : Int32) (v7 : Int32), l_X11_closest_98 X v2 v3 v4 v6 v5 v7 = some r → J LY 10 κ X 98 [(0, .ref (jad κ (0))), (2, .int v2), (3, .int v3), (4, .int v4), (5, .int v5), (6, .int v6), (7, .int v7)] [] := by
  refine j_loop2 (P := fun v5 v7 => J LY 10 κ X 98 [(0, .ref (jad κ (0))), (2, .int v2), (3, .int v3), (4, .int v4), (5, .int v5), (6, .int v6), (7, .int v7)] []) (fun rec98 hrec98 v5 v7 hr => ?_) 1000
  unfold lb_X11_closest_98 at hr
  refine j_iload K dX11_closest_98 6 rfl ?_
  refine j_iload K dX11_closest_100 5 rfl ?_
  refine j_icmp_ge K dX11_closest_102 (tgt := 215) (by decide) hr (fun hr => ?_) (fun hr => ?_)
  · refine j_iload K dX11_closest_215 4 rfl ?_
    exact j_ireturn K dX11_closest_217 rfl F hr rfl
  · refine j_iconst K dX11_closest_105 (v := 0) rfl ?_
    refine j_istore K dX11_closest_106 (by decide) ?_
    exact j_sub [1, 2, 3, 4, 5, 6, 7, 0] rfl (jl_X11_closest_108 K _ _ _ _ _ _ F rec98 hrec98 _ _ hr)
theorem jb_X11_closest_93 {κ : JK} (K : jOk 10 cX11_closest RX11 (some .int) 3 κ) (X : JX) (v2 : Int32) (v3 : Int32) (v4 : Int32) (v5 : Int32) (s0 : Int32) {r : (Int32 × JX)} (F : jFin LY false (oM r) κ) (hr : b_X11_closest_93 X v2 v3 v4 v5 s0 = some r) : J LY 10 κ X 93 [(0, .ref (jad κ (0))), (2, .int v2), (3, .int v3), (4, .int v4), (5, .int v5)] [.int s0] := by
  unfold b_X11_closest_93 at hr
  refine j_istore K dX11_closest_93 (by decide) ?_
  refine j_iconst K dX11_closest_95 (v := 0) rfl ?_
  refine j_istore K dX11_closest_96 (by decide) ?_
  exact j_sub [2, 3, 4, 5, 6, 1, 0] rfl (jl_X11_closest_98 K _ _ _ _ _ F _ _ hr)
theorem jb_X11_closest_59 {κ : JK} (K : jOk 10 cX11_closest RX11 (some .int) 3 κ) (X : JX) (v2 : Int32) (v3 : Int32) (v4 : Int32) (s0 : Int32) {r : (Int32 × JX)} (F : jFin LY false (oM r) κ) (hr : b_X11_closest_59 X v2 v3 v4 s0 = some r) : J LY 10 κ X 59 [(0, .ref (jad κ (0))), (2, .int v2), (3, .int v3), (4, .int v4)] [.int s0, .ref (jad κ (0))] := by
  unfold b_X11_closest_59 at hr
  refine j_putiV K fp_X11_121 rfl (Nat.le_of_ble_eq_true rfl) (by decide) (fun _ => Nat.le_of_ble_eq_true rfl) (fun _ => rfl) dX11_closest_59 hr (fun X7 hr => ?_)
  refine j_aload_n K dX11_closest_62 0 rfl ?_
  refine j_get K (v := .int (X7 (0) 0)) fl_X11_121 rfl (Nat.le_of_ble_eq_true rfl) (by decide) rfl dX11_closest_63 ?_
  refine j_if_le K dX11_closest_66 (tgt := 71) (by decide) hr (fun hr => ?_) (fun hr => ?_)
  · refine j_iconst K dX11_closest_71 (v := -1) rfl ?_
    refine j_istoreV K dX11_closest_72 (by decide) hr (fun t8 hr => ?_)
    refine j_aload_n K dX11_closest_74 1 rfl ?_
    refine j_get K (v := .ref (jad κ (19))) fl_X11_66 rfl (Nat.le_of_ble_eq_true rfl) (by decide) rfl dX11_closest_75 ?_
    refine j_iload_n K dX11_closest_78 2 rfl ?_
    refine j_baload K (z := 60) rfl (Nat.le_of_ble_eq_true rfl) dX11_closest_79 hr (fun hr => ?_)
    refine j_if_eq K dX11_closest_80 (tgt := 92) (by decide) hr (fun hr => ?_) (fun hr => ?_)
    · refine j_iconst K dX11_closest_92 (v := 0) rfl ?_
      exact j_sub [1, 2, 3, 4, 0] rfl (jb_X11_closest_93 K _ _ _ _ _ _ F hr)
    · refine j_aload_n K dX11_closest_83 1 rfl ?_
      refine j_get K (v := .ref (jad κ (23))) fl_X11_78 rfl (Nat.le_of_ble_eq_true rfl) (by decide) rfl dX11_closest_84 ?_
      refine j_iload_n K dX11_closest_87 2 rfl ?_
      refine j_iaload K (z := 60) rfl (Nat.le_of_ble_eq_true rfl) dX11_closest_88 hr (fun hr => ?_)
      refine j_goto K dX11_closest_89 (tgt := 93) (by decide) ?_
      exact j_sub [1, 2, 3, 4, 0] rfl (jb_X11_closest_93 K _ _ _ _ _ _ F hr)
  · refine j_iconst K dX11_closest_69 (v := 0) rfl ?_
    exact j_ireturn K dX11_closest_70 rfl F hr rfl
theorem jf_X11_closest {κ : JK} (K : jOk 10 cX11_closest RX11 (some .int) 3 κ) (X : JX) (v1 : Int32) (v2 : Int32) (v3 : Int32) (v4 : Int32) {r : (Int32 × JX)} (F : jFin LY false (oM r) κ) (hr : f_X11_closest X v1 v2 v3 v4 = some r) : J LY 10 κ X 0 [(0, .ref (jad κ (0))), (1, .int v1), (2, .int v2), (3, .int v3), (4, .int v4)] [] := by
  unfold f_X11_closest at hr
  refine j_iload_n K dX11_closest_0 1 rfl ?_
  refine j_iconst K dX11_closest_1 (v := 0) rfl ?_
  refine j_iconst K dX11_closest_2 (v := 3) rfl ?_
  refine j_sI3 K hr (fun v h => c_X11_in X v1 (0) (3) h) ms_X11_124 rfl (by decide) (by decide) (Nat.le_of_ble_eq_true rfl) dX11_closest_3 (fun t1 h hr => ?_)
  refine j_if_eq K dX11_closest_6 (tgt := 26) (by decide) hr (fun hr => ?_) (fun hr => ?_)
  · exact j_sub [0] rfl (jb_X11_closest_26 K _ F hr)
  · refine j_aload_n K dX11_closest_9 0 rfl ?_
    refine j_iload_n K dX11_closest_10 2 rfl ?_
    refine j_vI1 K (ci := 11) hr (fun v h => c_X11_isFileAt X v2 h) ml_X11_157 ⟨_, rfl, rfl⟩ rfl (Nat.le_of_ble_eq_true rfl) (by decide) rfl (by decide) (by decide) (Nat.le_of_ble_eq_true rfl) dX11_closest_11 (fun t2 h hr => ?_)
    refine j_if_eq K dX11_closest_14 (tgt := 26) (by decide) hr (fun hr => ?_) (fun hr => ?_)
    · exact j_sub [0] rfl (jb_X11_closest_26 K _ F hr)
    · refine j_aload_n K dX11_closest_17 0 rfl ?_
      refine j_iload_n K dX11_closest_18 1 rfl ?_
      refine j_iload_n K dX11_closest_19 2 rfl ?_
      refine j_vI2 K (ci := 11) hr (fun v h => c_X11_mayReadAt X v1 v2 h) ml_X11_173 ⟨_, rfl, rfl⟩ rfl (Nat.le_of_ble_eq_true rfl) (by decide) rfl (by decide) (by decide) (Nat.le_of_ble_eq_true rfl) dX11_closest_20 (fun t3 h hr => ?_)
      refine j_if_ne K dX11_closest_23 (tgt := 32) (by decide) hr (fun hr => ?_) (fun hr => ?_)
      · refine j_aload_n K dX11_closest_32 0 rfl ?_
        refine j_iload_n K dX11_closest_33 3 rfl ?_
        refine j_iconst K dX11_closest_34 (v := 0) rfl ?_
        refine j_bipush K dX11_closest_35 (v := 99) rfl ?_
        refine j_sI3 K hr (fun v h => c_X11_in X v3 (0) (99) h) ms_X11_124 rfl (by decide) (by decide) (Nat.le_of_ble_eq_true rfl) dX11_closest_37 (fun t4 h hr => ?_)
        refine j_if_eq K dX11_closest_40 (tgt := 58) (by decide) hr (fun hr => ?_) (fun hr => ?_)
        · refine j_iconst K dX11_closest_58 (v := 2) rfl ?_
          exact j_sub [0, 2, 3, 4] rfl (jb_X11_closest_59 K _ _ _ _ _ F hr)
        · refine j_iload K dX11_closest_43 4 rfl ?_
          refine j_iconst K dX11_closest_45 (v := 0) rfl ?_
          refine j_bipush K dX11_closest_46 (v := 99) rfl ?_
          refine j_sI3 K hr (fun v h => c_X11_in X v4 (0) (99) h) ms_X11_124 rfl (by decide) (by decide) (Nat.le_of_ble_eq_true rfl) dX11_closest_48 (fun t5 h hr => ?_)
          refine j_if_eq K dX11_closest_51 (tgt := 58) (by decide) hr (fun hr => ?_) (fun hr => ?_)
          · refine j_iconst K dX11_closest_58 (v := 2) rfl ?_
            exact j_sub [0, 2, 3, 4] rfl (jb_X11_closest_59 K _ _ _ _ _ F hr)
          · refine j_iconst K dX11_closest_54 (v := 0) rfl ?_
            refine j_goto K dX11_closest_55 (tgt := 59) (by decide) ?_
            exact j_sub [0, 2, 3, 4] rfl (jb_X11_closest_59 K _ _ _ _ _ F hr)
      · exact j_sub [0] rfl (jb_X11_closest_26 K _ F hr)
theorem c_X11_closest (X : JX) (v1 : Int32) (v2 : Int32) (v3 : Int32) (v4 : Int32) {r : (Int32 × JX)} (hr : f_X11_closest X v1 v2 v3 v4 = some r) : Cal LY yX11_closest cX11_closest 10 (some .int) 3 (fun ad => [.ref (ad (0)), .int v1, .int v2, .int v3, .int v4]) X (fun ad => oM r) :=
  Cal.of (own := RX11) (fun ad => [(0, .ref (ad (0))), (1, .int v1), (2, .int v2), (3, .int v3), (4, .int v4)]) (by decide) rfl (fun _ => Nat.le_of_ble_eq_true rfl) (fun _ => rfl) (fun κ K F => jf_X11_closest K X v1 v2 v3 v4 F hr)
theorem jf_X11_comes {κ : JK} (K : jOk 4 cX11_comes RX11 none 0 κ) (X : JX) (v1 : Int32) (v2 : Int32) (v3 : Int32) {r : JX} (F : jFin LY false (oU r) κ) (hr : f_X11_comes X v1 v2 v3 = some r) : J LY 4 κ X 0 [(0, .ref (jad κ (0))), (1, .int v1), (2, .int v2), (3, .int v3)] [] := by
  unfold f_X11_comes at hr
  refine j_iload_n K dX11_comes_0 1 rfl ?_
  refine j_iconst K dX11_comes_1 (v := -1) rfl ?_
  refine j_icmp_eq K dX11_comes_2 (tgt := 14) (by decide) hr (fun hr => ?_) (fun hr => ?_)
  · exact j_return K dX11_comes_14 rfl F hr rfl
  · refine j_aload_n K dX11_comes_5 0 rfl ?_
    refine j_get K (v := .ref (jad κ (14))) fl_X11_51 rfl (Nat.le_of_ble_eq_true rfl) (by decide) rfl dX11_comes_6 ?_
    refine j_iload_n K dX11_comes_9 1 rfl ?_
    refine j_baload K (z := 4) rfl (Nat.le_of_ble_eq_true rfl) dX11_comes_10 hr (fun hr => ?_)
    refine j_if_eq K dX11_comes_11 (tgt := 15) (by decide) hr (fun hr => ?_) (fun hr => ?_)
    · refine j_aload_n K dX11_comes_15 0 rfl ?_
      refine j_get K (v := .ref (jad κ (11))) fl_X11_42 rfl (Nat.le_of_ble_eq_true rfl) (by decide) rfl dX11_comes_16 ?_
      refine j_iload_n K dX11_comes_19 1 rfl ?_
      refine j_iaload K (z := 4) rfl (Nat.le_of_ble_eq_true rfl) dX11_comes_20 hr (fun hr => ?_)
      refine j_bipush K dX11_comes_21 (v := 8) rfl ?_
      refine j_icmp_ne K dX11_comes_23 (tgt := 41) (by decide) hr (fun hr => ?_) (fun hr => ?_)
      · refine j_aload_n K dX11_comes_41 0 rfl ?_
        refine j_get K (v := .ref (jad κ (12))) fl_X11_45 rfl (Nat.le_of_ble_eq_true rfl) (by decide) rfl dX11_comes_42 ?_
        refine j_bipush K dX11_comes_45 (v := 8) rfl ?_
        refine j_iload_n K dX11_comes_47 1 rfl ?_
        refine j_imul K dX11_comes_48 ?_
        refine j_aload_n K dX11_comes_49 0 rfl ?_
        refine j_get K (v := .ref (jad κ (11))) fl_X11_42 rfl (Nat.le_of_ble_eq_true rfl) (by decide) rfl dX11_comes_50 ?_
        refine j_iload_n K dX11_comes_53 1 rfl ?_
        refine j_iaload K (z := 4) rfl (Nat.le_of_ble_eq_true rfl) dX11_comes_54 hr (fun hr => ?_)
        refine j_iadd K dX11_comes_55 ?_
        refine j_iload_n K dX11_comes_56 2 rfl ?_
        refine j_iastoreV K (z := 32) rfl (Nat.le_of_ble_eq_true rfl) dX11_comes_57 hr (fun X1 hr => ?_)
        refine j_aload_n K dX11_comes_58 0 rfl ?_
        refine j_get K (v := .ref (jad κ (13))) fl_X11_48 rfl (Nat.le_of_ble_eq_true rfl) (by decide) rfl dX11_comes_59 ?_
        refine j_bipush K dX11_comes_62 (v := 8) rfl ?_
        refine j_iload_n K dX11_comes_64 1 rfl ?_
        refine j_imul K dX11_comes_65 ?_
        refine j_aload_n K dX11_comes_66 0 rfl ?_
        refine j_get K (v := .ref (jad κ (11))) fl_X11_42 rfl (Nat.le_of_ble_eq_true rfl) (by decide) rfl dX11_comes_67 ?_
        refine j_iload_n K dX11_comes_70 1 rfl ?_
        refine j_iaload K (z := 4) rfl (Nat.le_of_ble_eq_true rfl) dX11_comes_71 hr (fun hr => ?_)
        refine j_iadd K dX11_comes_72 ?_
        refine j_iload_n K dX11_comes_73 3 rfl ?_
        refine j_iastoreV K (z := 32) rfl (Nat.le_of_ble_eq_true rfl) dX11_comes_74 hr (fun X2 hr => ?_)
        refine j_aload_n K dX11_comes_75 0 rfl ?_
        refine j_get K (v := .ref (jad κ (11))) fl_X11_42 rfl (Nat.le_of_ble_eq_true rfl) (by decide) rfl dX11_comes_76 ?_
        refine j_iload_n K dX11_comes_79 1 rfl ?_
        refine j_dup2 K dX11_comes_80 rfl rfl ?_
        refine j_iaload K (z := 4) rfl (Nat.le_of_ble_eq_true rfl) dX11_comes_81 hr (fun hr => ?_)
        refine j_iconst K dX11_comes_82 (v := 1) rfl ?_
        refine j_iadd K dX11_comes_83 ?_
        refine j_iastoreV K (z := 4) rfl (Nat.le_of_ble_eq_true rfl) dX11_comes_84 hr (fun X3 hr => ?_)
        exact j_return K dX11_comes_85 rfl F hr rfl
      · refine j_aload_n K dX11_comes_26 0 rfl ?_
        refine j_get K (v := .ref (jad κ (11))) fl_X11_42 rfl (Nat.le_of_ble_eq_true rfl) (by decide) rfl dX11_comes_27 ?_
        refine j_iload_n K dX11_comes_30 1 rfl ?_
        refine j_iconst K dX11_comes_31 (v := 0) rfl ?_
        refine j_iastoreV K (z := 4) rfl (Nat.le_of_ble_eq_true rfl) dX11_comes_32 hr (fun X4 hr => ?_)
        refine j_aload_n K dX11_comes_33 0 rfl ?_
        refine j_get K (v := .ref (jad κ (14))) fl_X11_51 rfl (Nat.le_of_ble_eq_true rfl) (by decide) rfl dX11_comes_34 ?_
        refine j_iload_n K dX11_comes_37 1 rfl ?_
        refine j_iconst K dX11_comes_38 (v := 1) rfl ?_
        refine j_bastoreV K (z := 4) rfl (Nat.le_of_ble_eq_true rfl) dX11_comes_39 hr (fun X5 hr => ?_)
        exact j_return K dX11_comes_40 rfl F hr rfl
    · exact j_return K dX11_comes_14 rfl F hr rfl
theorem c_X11_comes (X : JX) (v1 : Int32) (v2 : Int32) (v3 : Int32) {r : JX} (hr : f_X11_comes X v1 v2 v3 = some r) : Cal LY yX11_comes cX11_comes 4 none 0 (fun ad => [.ref (ad (0)), .int v1, .int v2, .int v3]) X (fun ad => oU r) :=
  Cal.of (own := RX11) (fun ad => [(0, .ref (ad (0))), (1, .int v1), (2, .int v2), (3, .int v3)]) (by decide) rfl (fun _ => Nat.le_of_ble_eq_true rfl) (fun _ => rfl) (fun κ K F => jf_X11_comes K X v1 v2 v3 F hr)
theorem jb_X11_cost_78 {κ : JK} (K : jOk 4 cX11_cost RX11 (some .int) 2 κ) (X : JX) (v2 : Int32) {r : Int32} (F : jFin LY false (oI X r) κ) (hr : b_X11_cost_78 X v2 = some r) : J LY 4 κ X 78 [(0, .ref (jad κ (0))), (2, .int v2)] [] := by
  unfold b_X11_cost_78 at hr
  refine j_iconst K dX11_cost_78 (v := 1) rfl ?_
  refine j_aload_n K dX11_cost_79 0 rfl ?_
  refine j_get K (v := .ref (jad κ (6))) fl_X11_27 rfl (Nat.le_of_ble_eq_true rfl) (by decide) rfl dX11_cost_80 ?_
  refine j_iload_n K dX11_cost_83 1 rfl ?_
  refine j_iaload K (z := 60) rfl (Nat.le_of_ble_eq_true rfl) dX11_cost_84 hr (fun hr => ?_)
  refine j_iadd K dX11_cost_85 ?_
  refine j_goto K dX11_cost_86 (tgt := 90) (by decide) ?_
  exact j_ireturn K dX11_cost_90 rfl F hr rfl
theorem jb_X11_cost_49 {κ : JK} (K : jOk 4 cX11_cost RX11 (some .int) 2 κ) (X : JX) (v2 : Int32) (s0 : Int32) {r : Int32} (F : jFin LY false (oI X r) κ) (hr : b_X11_cost_49 X v2 s0 = some r) : J LY 4 κ X 49 [(0, .ref (jad κ (0))), (2, .int v2)] [.int s0] := by
  unfold b_X11_cost_49 at hr
  refine j_istore_n K dX11_cost_49 (by decide) ?_
  refine j_iload_n K dX11_cost_50 0 rfl ?_
  refine j_if_eq K dX11_cost_51 (tgt := 89) (by decide) hr (fun hr => ?_) (fun hr => ?_)
  · refine j_iconst K dX11_cost_89 (v := 1) rfl ?_
    exact j_ireturn K dX11_cost_90 rfl F hr rfl
  · refine j_aload_n K dX11_cost_54 1 rfl ?_
    refine j_get K (v := .ref (jad κ (19))) fl_X11_66 rfl (Nat.le_of_ble_eq_true rfl) (by decide) rfl dX11_cost_55 ?_
    refine j_iload_n K dX11_cost_58 2 rfl ?_
    refine j_baload K (z := 60) rfl (Nat.le_of_ble_eq_true rfl) dX11_cost_59 hr (fun hr => ?_)
    refine j_if_eq K dX11_cost_60 (tgt := 78) (by decide) hr (fun hr => ?_) (fun hr => ?_)
    · exact j_sub [1, 2] rfl (jb_X11_cost_78 K _ _ F hr)
    · refine j_aload_n K dX11_cost_63 1 rfl ?_
      refine j_get K (v := .ref (jad κ (22))) fl_X11_75 rfl (Nat.le_of_ble_eq_true rfl) (by decide) rfl dX11_cost_64 ?_
      refine j_iload_n K dX11_cost_67 2 rfl ?_
      refine j_iaload K (z := 60) rfl (Nat.le_of_ble_eq_true rfl) dX11_cost_68 hr (fun hr => ?_)
      refine j_aload_n K dX11_cost_69 1 rfl ?_
      refine j_get K (v := .ref (jad κ (5))) fl_X11_24 rfl (Nat.le_of_ble_eq_true rfl) (by decide) rfl dX11_cost_70 ?_
      refine j_iload_n K dX11_cost_73 2 rfl ?_
      refine j_iaload K (z := 60) rfl (Nat.le_of_ble_eq_true rfl) dX11_cost_74 hr (fun hr => ?_)
      refine j_icmp_eq K dX11_cost_75 (tgt := 89) (by decide) hr (fun hr => ?_) (fun hr => ?_)
      · refine j_iconst K dX11_cost_89 (v := 1) rfl ?_
        exact j_ireturn K dX11_cost_90 rfl F hr rfl
      · exact j_sub [1, 2] rfl (jb_X11_cost_78 K _ _ F hr)
theorem jf_X11_cost {κ : JK} (K : jOk 4 cX11_cost RX11 (some .int) 2 κ) (X : JX) (v1 : Int32) {r : Int32} (F : jFin LY false (oI X r) κ) (hr : f_X11_cost X v1 = some r) : J LY 4 κ X 0 [(0, .ref (jad κ (0))), (1, .int v1)] [] := by
  unfold f_X11_cost at hr
  refine j_aload_n K dX11_cost_0 0 rfl ?_
  refine j_get K (v := .ref (jad κ (25))) fl_X11_91 rfl (Nat.le_of_ble_eq_true rfl) (by decide) rfl dX11_cost_1 ?_
  refine j_iload_n K dX11_cost_4 1 rfl ?_
  refine j_iaload K (z := 60) rfl (Nat.le_of_ble_eq_true rfl) dX11_cost_5 hr (fun hr => ?_)
  refine j_istoreV_n K dX11_cost_6 (by decide) hr (fun t1 hr => ?_)
  refine j_aload_n K dX11_cost_7 1 rfl ?_
  refine j_get K (v := .ref (jad κ (26))) fl_X11_94 rfl (Nat.le_of_ble_eq_true rfl) (by decide) rfl dX11_cost_8 ?_
  refine j_iload_n K dX11_cost_11 2 rfl ?_
  refine j_iaload K (z := 60) rfl (Nat.le_of_ble_eq_true rfl) dX11_cost_12 hr (fun hr => ?_)
  refine j_iconst K dX11_cost_13 (v := 1) rfl ?_
  refine j_icmp_ne K dX11_cost_14 (tgt := 48) (by decide) hr (fun hr => ?_) (fun hr => ?_)
  · refine j_iconst K dX11_cost_48 (v := 0) rfl ?_
    exact j_sub [1, 0] rfl (jb_X11_cost_49 K _ _ _ F hr)
  · refine j_aload_n K dX11_cost_17 1 rfl ?_
    refine j_iload_n K dX11_cost_18 0 rfl ?_
    refine j_vI1 K (ci := 11) hr (fun v h => c_X11_over X t1 h) ml_X11_150 ⟨_, rfl, rfl⟩ rfl (Nat.le_of_ble_eq_true rfl) (by decide) rfl (by decide) (by decide) (Nat.le_of_ble_eq_true rfl) dX11_cost_19 (fun t2 h hr => ?_)
    refine j_iconst K dX11_cost_22 (v := -1) rfl ?_
    refine j_icmp_eq K dX11_cost_23 (tgt := 48) (by decide) hr (fun hr => ?_) (fun hr => ?_)
    · refine j_iconst K dX11_cost_48 (v := 0) rfl ?_
      exact j_sub [1, 0] rfl (jb_X11_cost_49 K _ _ _ F hr)
    · refine j_aload_n K dX11_cost_26 1 rfl ?_
      refine j_get K (v := .ref (jad κ (2))) fl_X11_13 rfl (Nat.le_of_ble_eq_true rfl) (by decide) rfl dX11_cost_27 ?_
      refine j_iload_n K dX11_cost_30 0 rfl ?_
      refine j_baload K (z := 60) rfl (Nat.le_of_ble_eq_true rfl) dX11_cost_31 hr (fun hr => ?_)
      refine j_if_ne K dX11_cost_32 (tgt := 48) (by decide) hr (fun hr => ?_) (fun hr => ?_)
      · refine j_iconst K dX11_cost_48 (v := 0) rfl ?_
        exact j_sub [1, 0] rfl (jb_X11_cost_49 K _ _ _ F hr)
      · refine j_aload_n K dX11_cost_35 1 rfl ?_
        refine j_get K (v := .ref (jad κ (8))) fl_X11_33 rfl (Nat.le_of_ble_eq_true rfl) (by decide) rfl dX11_cost_36 ?_
        refine j_iload_n K dX11_cost_39 0 rfl ?_
        refine j_baload K (z := 60) rfl (Nat.le_of_ble_eq_true rfl) dX11_cost_40 hr (fun hr => ?_)
        refine j_if_ne K dX11_cost_41 (tgt := 48) (by decide) hr (fun hr => ?_) (fun hr => ?_)
        · refine j_iconst K dX11_cost_48 (v := 0) rfl ?_
          exact j_sub [1, 0] rfl (jb_X11_cost_49 K _ _ _ F hr)
        · refine j_iconst K dX11_cost_44 (v := 1) rfl ?_
          refine j_goto K dX11_cost_45 (tgt := 49) (by decide) ?_
          exact j_sub [1, 0] rfl (jb_X11_cost_49 K _ _ _ F hr)
theorem c_X11_cost (X : JX) (v1 : Int32) {r : Int32} (hr : f_X11_cost X v1 = some r) : Cal LY yX11_cost cX11_cost 4 (some .int) 2 (fun ad => [.ref (ad (0)), .int v1]) X (fun ad => oI X r) :=
  Cal.of (own := RX11) (fun ad => [(0, .ref (ad (0))), (1, .int v1)]) (by decide) rfl (fun _ => Nat.le_of_ble_eq_true rfl) (fun _ => rfl) (fun κ K F => jf_X11_cost K X v1 F hr)
theorem jb_X11_count_45 {κ : JK} (K : jOk 5 cX11_count RX11 (some .int) 0 κ) (X : JX) (v1 : Int32) (v2 : Int32) (v4 : Int32) (s0 : Int32) (s1 : Int32) {r : Int32} (F : jFin LY false (oI X r) κ) (rec5 : Int32 → Int32 → Option Int32) (hrec5 : ∀ (v3 : Int32) (v4 : Int32), rec5 v3 v4 = some r → J LY 5 κ X 5 [(0, .ref (jad κ (0))), (1, .int v1), (2, .int v2), (3, .int v3), (4, .int v4)] []) (hr : b_X11_count_45 rec5 X v1 v2 v4 s0 s1 = some r) : J LY 5 κ X 45 [(0, .ref (jad κ (0))), (1, .int v1), (2, .int v2), (4, .int v4)] [.int s0, .int s1] := by
  unfold b_X11_count_45 at hr
  refine j_iadd K dX11_count_45 ?_
  refine j_istoreV_n K dX11_count_46 (by decide) hr (fun t1 hr => ?_)
  refine j_iincV K dX11_count_47 (v := 1) 4 rfl rfl (by decide) hr (fun t2 hr => ?_)
  refine j_goto K dX11_count_50 (tgt := 5) (by decide) ?_
  exact j_sub [2, 3, 4, 1, 0] rfl (hrec5 _ _ hr)
theorem jl_X11_count_5 {κ : JK} (K : jOk 5 cX11_count RX11 (some .int) 0 κ) (X : JX) (v1 : Int32) (v2 : Int32) {r : Int32} (F : jFin LY false (oI X r) κ) : ∀ (v3 : Int32) (v4 : Int32), l_X11_count_5 X v1 v2 v3 v4 = some r → J LY 5 κ X 5 [(0, .ref (jad κ (0))), (1, .int v1), (2, .int v2), (3, .int v3), (4, .int v4)] [] := by
  refine j_loop2 (P := fun v3 v4 => J LY 5 κ X 5 [(0, .ref (jad κ (0))), (1, .int v1), (2, .int v2), (3, .int v3), (4, .int v4)] []) (fun rec5 hrec5 v3 v4 hr => ?_) 1000
  unfold lb_X11_count_5 at hr
  refine j_iload K dX11_count_5 4 rfl ?_
  refine j_aload_n K dX11_count_7 0 rfl ?_
  refine j_get K (v := .int (X (0) 37)) fl_X11_192 rfl (Nat.le_of_ble_eq_true rfl) (by decide) rfl dX11_count_8 ?_
  refine j_icmp_ge K dX11_count_11 (tgt := 53) (by decide) hr (fun hr => ?_) (fun hr => ?_)
  · refine j_iload_n K dX11_count_53 3 rfl ?_
    exact j_ireturn K dX11_count_54 rfl F hr rfl
  · refine j_iload_n K dX11_count_14 3 rfl ?_
    refine j_aload_n K dX11_count_15 0 rfl ?_
    refine j_get K (v := .ref (jad κ (28))) fl_X11_100 rfl (Nat.le_of_ble_eq_true rfl) (by decide) rfl dX11_count_16 ?_
    refine j_iload K dX11_count_19 4 rfl ?_
    refine j_iaload K (z := 600) rfl (Nat.le_of_ble_eq_true rfl) dX11_count_21 hr (fun hr => ?_)
    refine j_iload_n K dX11_count_22 1 rfl ?_
    refine j_icmp_ne K dX11_count_23 (tgt := 44) (by decide) hr (fun hr => ?_) (fun hr => ?_)
    · refine j_iconst K dX11_count_44 (v := 0) rfl ?_
      exact j_sub [0, 1, 2, 4] rfl (jb_X11_count_45 K _ _ _ _ _ _ F rec5 hrec5 hr)
    · refine j_aload_n K dX11_count_26 0 rfl ?_
      refine j_get K (v := .ref (jad κ (30))) fl_X11_106 rfl (Nat.le_of_ble_eq_true rfl) (by decide) rfl dX11_count_27 ?_
      refine j_iload K dX11_count_30 4 rfl ?_
      refine j_baload K (z := 600) rfl (Nat.le_of_ble_eq_true rfl) dX11_count_32 hr (fun hr => ?_)
      refine j_if_ne K dX11_count_33 (tgt := 40) (by decide) hr (fun hr => ?_) (fun hr => ?_)
      · refine j_iconst K dX11_count_40 (v := 1) rfl ?_
        refine j_goto K dX11_count_41 (tgt := 45) (by decide) ?_
        exact j_sub [0, 1, 2, 4] rfl (jb_X11_count_45 K _ _ _ _ _ _ F rec5 hrec5 hr)
      · refine j_iload_n K dX11_count_36 2 rfl ?_
        refine j_if_ne K dX11_count_37 (tgt := 44) (by decide) hr (fun hr => ?_) (fun hr => ?_)
        · refine j_iconst K dX11_count_44 (v := 0) rfl ?_
          exact j_sub [0, 1, 2, 4] rfl (jb_X11_count_45 K _ _ _ _ _ _ F rec5 hrec5 hr)
        · refine j_iconst K dX11_count_40 (v := 1) rfl ?_
          refine j_goto K dX11_count_41 (tgt := 45) (by decide) ?_
          exact j_sub [0, 1, 2, 4] rfl (jb_X11_count_45 K _ _ _ _ _ _ F rec5 hrec5 hr)
theorem jf_X11_count {κ : JK} (K : jOk 5 cX11_count RX11 (some .int) 0 κ) (X : JX) (v1 : Int32) (v2 : Int32) {r : Int32} (F : jFin LY false (oI X r) κ) (hr : f_X11_count X v1 v2 = some r) : J LY 5 κ X 0 [(0, .ref (jad κ (0))), (1, .int v1), (2, .int v2)] [] := by
  unfold f_X11_count at hr
  refine j_iconst K dX11_count_0 (v := 0) rfl ?_
  refine j_istore_n K dX11_count_1 (by decide) ?_
  refine j_iconst K dX11_count_2 (v := 0) rfl ?_
  refine j_istore K dX11_count_3 (by decide) ?_
  exact j_sub [2, 3, 4, 1, 0] rfl (jl_X11_count_5 K _ _ _ F _ _ hr)
theorem c_X11_count (X : JX) (v1 : Int32) (v2 : Int32) {r : Int32} (hr : f_X11_count X v1 v2 = some r) : Cal LY yX11_count cX11_count 5 (some .int) 0 (fun ad => [.ref (ad (0)), .int v1, .int v2]) X (fun ad => oI X r) :=
  Cal.of (own := RX11) (fun ad => [(0, .ref (ad (0))), (1, .int v1), (2, .int v2)]) (by decide) rfl (fun _ => Nat.le_of_ble_eq_true rfl) (fun _ => rfl) (fun κ K F => jf_X11_count K X v1 v2 F hr)
theorem jb_X11_crawl_64 {κ : JK} (K : jOk 5 cX11_crawl RX11 (some .int) 1 κ) (X : JX) (v4 : Int32) (s0 : Int32) (s1 : Int32) {r : (Int32 × JX)} (F : jFin LY false (oM r) κ) (rec39 : Int32 → Int32 → Option (Int32 × JX)) (hrec39 : ∀ (v3 : Int32) (v4 : Int32), rec39 v3 v4 = some r → J LY 5 κ X 39 [(0, .ref (jad κ (0))), (3, .int v3), (4, .int v4)] []) (hr : b_X11_crawl_64 rec39 X v4 s0 s1 = some r) : J LY 5 κ X 64 [(0, .ref (jad κ (0))), (4, .int v4)] [.int s0, .int s1] := by
  unfold b_X11_crawl_64 at hr
  refine j_iadd K dX11_crawl_64 ?_
  refine j_istoreV_n K dX11_crawl_65 (by decide) hr (fun t4 hr => ?_)
  refine j_iincV K dX11_crawl_66 (v := 1) 2 rfl rfl (by decide) hr (fun t5 hr => ?_)
  refine j_goto K dX11_crawl_69 (tgt := 39) (by decide) ?_
  exact j_sub [2, 1, 0] rfl (hrec39 _ _ hr)
theorem jl_X11_crawl_39 {κ : JK} (K : jOk 5 cX11_crawl RX11 (some .int) 1 κ) (X : JX) {r : (Int32 × JX)} (F : jFin LY false (oM r) κ) : ∀ (v3 : Int32) (v4 : Int32), l_X11_crawl_39 X v3 v4 = some r → J LY 5 κ X 39 [(0, .ref (jad κ (0))), (3, .int v3), (4, .int v4)] [] := by
  refine j_loop2 (P := fun v3 v4 => J LY 5 κ X 39 [(0, .ref (jad κ (0))), (3, .int v3), (4, .int v4)] []) (fun rec39 hrec39 v3 v4 hr => ?_) 1000
  unfold lb_X11_crawl_39 at hr
  refine j_iload K dX11_crawl_39 2 rfl ?_
  refine j_aload_n K dX11_crawl_41 0 rfl ?_
  refine j_get K (v := .int (X (0) 12)) fl_X11_132 rfl (Nat.le_of_ble_eq_true rfl) (by decide) rfl dX11_crawl_42 ?_
  refine j_icmp_ge K dX11_crawl_45 (tgt := 72) (by decide) hr (fun hr => ?_) (fun hr => ?_)
  · refine j_iload_n K dX11_crawl_72 1 rfl ?_
    exact j_ireturn K dX11_crawl_73 rfl F hr rfl
  · refine j_iload_n K dX11_crawl_48 1 rfl ?_
    refine j_aload_n K dX11_crawl_49 0 rfl ?_
    refine j_get K (v := .ref (jad κ (15))) fl_X11_54 rfl (Nat.le_of_ble_eq_true rfl) (by decide) rfl dX11_crawl_50 ?_
    refine j_iload K dX11_crawl_53 2 rfl ?_
    refine j_baload K (z := 4) rfl (Nat.le_of_ble_eq_true rfl) dX11_crawl_55 hr (fun hr => ?_)
    refine j_if_eq K dX11_crawl_56 (tgt := 63) (by decide) hr (fun hr => ?_) (fun hr => ?_)
    · refine j_iconst K dX11_crawl_63 (v := 0) rfl ?_
      exact j_sub [0, 2] rfl (jb_X11_crawl_64 K _ _ _ _ F rec39 hrec39 hr)
    · refine j_iconst K dX11_crawl_59 (v := 1) rfl ?_
      refine j_goto K dX11_crawl_60 (tgt := 64) (by decide) ?_
      exact j_sub [0, 2] rfl (jb_X11_crawl_64 K _ _ _ _ F rec39 hrec39 hr)
theorem jb_X11_crawl_17 {κ : JK} (K : jOk 5 cX11_crawl RX11 (some .int) 1 κ) (X : JX) (v2 : Int32) (s0 : Int32) {r : (Int32 × JX)} (F : jFin LY false (oM r) κ) (hr : b_X11_crawl_17 X v2 s0 = some r) : J LY 5 κ X 17 [(0, .ref (jad κ (0))), (2, .int v2)] [.int s0, .ref (jad κ (0))] := by
  unfold b_X11_crawl_17 at hr
  refine j_putiV K fp_X11_121 rfl (Nat.le_of_ble_eq_true rfl) (by decide) (fun _ => Nat.le_of_ble_eq_true rfl) (fun _ => rfl) dX11_crawl_17 hr (fun X2 hr => ?_)
  refine j_aload_n K dX11_crawl_20 0 rfl ?_
  refine j_get K (v := .int (X2 (0) 0)) fl_X11_121 rfl (Nat.le_of_ble_eq_true rfl) (by decide) rfl dX11_crawl_21 ?_
  refine j_if_le K dX11_crawl_24 (tgt := 29) (by decide) hr (fun hr => ?_) (fun hr => ?_)
  · refine j_aload_n K dX11_crawl_29 0 rfl ?_
    refine j_iload_n K dX11_crawl_30 1 rfl ?_
    refine j_vU1 K (ci := 11) hr (fun v h => c_X11_beginsCrawl X2 v2 h) ml_X11_180 ⟨_, rfl, rfl⟩ rfl (Nat.le_of_ble_eq_true rfl) (by decide) rfl (by decide) (by decide) (Nat.le_of_ble_eq_true rfl) dX11_crawl_31 (fun X3 h hr => ?_)
    refine j_iconst K dX11_crawl_34 (v := 0) rfl ?_
    refine j_istore_n K dX11_crawl_35 (by decide) ?_
    refine j_iconst K dX11_crawl_36 (v := 0) rfl ?_
    refine j_istore K dX11_crawl_37 (by decide) ?_
    exact j_sub [2, 1, 0] rfl (jl_X11_crawl_39 K _ F _ _ hr)
  · refine j_iconst K dX11_crawl_27 (v := 0) rfl ?_
    exact j_ireturn K dX11_crawl_28 rfl F hr rfl
theorem jf_X11_crawl {κ : JK} (K : jOk 5 cX11_crawl RX11 (some .int) 1 κ) (X : JX) (v1 : Int32) {r : (Int32 × JX)} (F : jFin LY false (oM r) κ) (hr : f_X11_crawl X v1 = some r) : J LY 5 κ X 0 [(0, .ref (jad κ (0))), (1, .int v1)] [] := by
  unfold f_X11_crawl at hr
  refine j_aload_n K dX11_crawl_0 0 rfl ?_
  refine j_iload_n K dX11_crawl_1 1 rfl ?_
  refine j_vI1 K (ci := 11) hr (fun v h => c_X11_rootAt X v1 h) ml_X11_163 ⟨_, rfl, rfl⟩ rfl (Nat.le_of_ble_eq_true rfl) (by decide) rfl (by decide) (by decide) (Nat.le_of_ble_eq_true rfl) dX11_crawl_2 (fun t1 h hr => ?_)
  refine j_istore_n K dX11_crawl_5 (by decide) ?_
  refine j_aload_n K dX11_crawl_6 1 rfl ?_
  refine j_iload_n K dX11_crawl_7 0 rfl ?_
  refine j_iconst K dX11_crawl_8 (v := -1) rfl ?_
  refine j_icmp_ne K dX11_crawl_9 (tgt := 16) (by decide) hr (fun hr => ?_) (fun hr => ?_)
  · refine j_iconst K dX11_crawl_16 (v := 0) rfl ?_
    exact j_sub [1, 0] rfl (jb_X11_crawl_17 K _ _ _ F hr)
  · refine j_iconst K dX11_crawl_12 (v := 1) rfl ?_
    refine j_goto K dX11_crawl_13 (tgt := 17) (by decide) ?_
    exact j_sub [1, 0] rfl (jb_X11_crawl_17 K _ _ _ F hr)
theorem c_X11_crawl (X : JX) (v1 : Int32) {r : (Int32 × JX)} (hr : f_X11_crawl X v1 = some r) : Cal LY yX11_crawl cX11_crawl 5 (some .int) 1 (fun ad => [.ref (ad (0)), .int v1]) X (fun ad => oM r) :=
  Cal.of (own := RX11) (fun ad => [(0, .ref (ad (0))), (1, .int v1)]) (by decide) rfl (fun _ => Nat.le_of_ble_eq_true rfl) (fun _ => rfl) (fun κ K F => jf_X11_crawl K X v1 F hr)
theorem jb_X11_dead_32 {κ : JK} (K : jOk 3 cX11_dead RX11 (some .int) 0 κ) (X : JX) (v2 : Int32) (s0 : Int32) (s1 : Int32) {r : (Int32 × JX)} (F : jFin LY false (oM r) κ) (rec9 : Int32 → Int32 → Option (Int32 × JX)) (hrec9 : ∀ (v1 : Int32) (v2 : Int32), rec9 v1 v2 = some r → J LY 3 κ X 9 [(0, .ref (jad κ (0))), (1, .int v1), (2, .int v2)] []) (hr : b_X11_dead_32 rec9 X v2 s0 s1 = some r) : J LY 3 κ X 32 [(0, .ref (jad κ (0))), (2, .int v2)] [.int s0, .int s1] := by
  unfold b_X11_dead_32 at hr
  refine j_iadd K dX11_dead_32 ?_
  refine j_istoreV_n K dX11_dead_33 (by decide) hr (fun t2 hr => ?_)
  refine j_iincV K dX11_dead_34 (v := 1) 2 rfl rfl (by decide) hr (fun t3 hr => ?_)
  refine j_goto K dX11_dead_37 (tgt := 9) (by decide) ?_
  exact j_sub [2, 1, 0] rfl (hrec9 _ _ hr)
theorem jl_X11_dead_9 {κ : JK} (K : jOk 3 cX11_dead RX11 (some .int) 0 κ) (X : JX) {r : (Int32 × JX)} (F : jFin LY false (oM r) κ) : ∀ (v1 : Int32) (v2 : Int32), l_X11_dead_9 X v1 v2 = some r → J LY 3 κ X 9 [(0, .ref (jad κ (0))), (1, .int v1), (2, .int v2)] [] := by
  refine j_loop2 (P := fun v1 v2 => J LY 3 κ X 9 [(0, .ref (jad κ (0))), (1, .int v1), (2, .int v2)] []) (fun rec9 hrec9 v1 v2 hr => ?_) 1000
  unfold lb_X11_dead_9 at hr
  refine j_iload_n K dX11_dead_9 2 rfl ?_
  refine j_aload_n K dX11_dead_10 0 rfl ?_
  refine j_get K (v := .int (X (0) 37)) fl_X11_192 rfl (Nat.le_of_ble_eq_true rfl) (by decide) rfl dX11_dead_11 ?_
  refine j_icmp_ge K dX11_dead_14 (tgt := 40) (by decide) hr (fun hr => ?_) (fun hr => ?_)
  · refine j_iload_n K dX11_dead_40 1 rfl ?_
    exact j_ireturn K dX11_dead_41 rfl F hr rfl
  · refine j_iload_n K dX11_dead_17 1 rfl ?_
    refine j_aload_n K dX11_dead_18 0 rfl ?_
    refine j_get K (v := .ref (jad κ (30))) fl_X11_106 rfl (Nat.le_of_ble_eq_true rfl) (by decide) rfl dX11_dead_19 ?_
    refine j_iload_n K dX11_dead_22 2 rfl ?_
    refine j_baload K (z := 600) rfl (Nat.le_of_ble_eq_true rfl) dX11_dead_23 hr (fun hr => ?_)
    refine j_if_eq K dX11_dead_24 (tgt := 31) (by decide) hr (fun hr => ?_) (fun hr => ?_)
    · refine j_iconst K dX11_dead_31 (v := 0) rfl ?_
      exact j_sub [0, 2] rfl (jb_X11_dead_32 K _ _ _ _ F rec9 hrec9 hr)
    · refine j_iconst K dX11_dead_27 (v := 1) rfl ?_
      refine j_goto K dX11_dead_28 (tgt := 32) (by decide) ?_
      exact j_sub [0, 2] rfl (jb_X11_dead_32 K _ _ _ _ F rec9 hrec9 hr)
theorem jf_X11_dead {κ : JK} (K : jOk 3 cX11_dead RX11 (some .int) 0 κ) (X : JX) {r : (Int32 × JX)} (F : jFin LY false (oM r) κ) (hr : f_X11_dead X = some r) : J LY 3 κ X 0 [(0, .ref (jad κ (0)))] [] := by
  unfold f_X11_dead at hr
  refine j_aload_n K dX11_dead_0 0 rfl ?_
  refine j_iconst K dX11_dead_1 (v := 0) rfl ?_
  refine j_putiV K fp_X11_121 rfl (Nat.le_of_ble_eq_true rfl) (by decide) (fun _ => Nat.le_of_ble_eq_true rfl) (fun _ => rfl) dX11_dead_2 hr (fun X1 hr => ?_)
  refine j_iconst K dX11_dead_5 (v := 0) rfl ?_
  refine j_istore_n K dX11_dead_6 (by decide) ?_
  refine j_iconst K dX11_dead_7 (v := 0) rfl ?_
  refine j_istore_n K dX11_dead_8 (by decide) ?_
  exact j_sub [2, 1, 0] rfl (jl_X11_dead_9 K _ F _ _ hr)
theorem c_X11_dead (X : JX) {r : (Int32 × JX)} (hr : f_X11_dead X = some r) : Cal LY yX11_dead cX11_dead 3 (some .int) 0 (fun ad => [.ref (ad (0))]) X (fun ad => oM r) :=
  Cal.of (own := RX11) (fun ad => [(0, .ref (ad (0)))]) (by decide) rfl (fun _ => Nat.le_of_ble_eq_true rfl) (fun _ => rfl) (fun κ K F => jf_X11_dead K X F hr)
theorem jb_X11_firstNoticed_36 {κ : JK} (K : jOk 3 cX11_firstNoticed RX11 (some .int) 0 κ) (X : JX) (v2 : Int32) (s0 : Int32) {r : Int32} (F : jFin LY false (oI X r) κ) (rec9 : Int32 → Int32 → Option Int32) (hrec9 : ∀ (v1 : Int32) (v2 : Int32), rec9 v1 v2 = some r → J LY 3 κ X 9 [(0, .ref (jad κ (0))), (1, .int v1), (2, .int v2)] []) (hr : b_X11_firstNoticed_36 rec9 X v2 s0 = some r) : J LY 3 κ X 36 [(0, .ref (jad κ (0))), (2, .int v2)] [.int s0] := by
  unfold b_X11_firstNoticed_36 at hr
  refine j_istore_n K dX11_firstNoticed_36 (by decide) ?_
  refine j_iincV K dX11_firstNoticed_37 (v := -1) 2 rfl rfl (by decide) hr (fun t3 hr => ?_)
  refine j_goto K dX11_firstNoticed_40 (tgt := 9) (by decide) ?_
  exact j_sub [2, 1, 0] rfl (hrec9 _ _ hr)
theorem jl_X11_firstNoticed_9 {κ : JK} (K : jOk 3 cX11_firstNoticed RX11 (some .int) 0 κ) (X : JX) {r : Int32} (F : jFin LY false (oI X r) κ) : ∀ (v1 : Int32) (v2 : Int32), l_X11_firstNoticed_9 X v1 v2 = some r → J LY 3 κ X 9 [(0, .ref (jad κ (0))), (1, .int v1), (2, .int v2)] [] := by
  refine j_loop2 (P := fun v1 v2 => J LY 3 κ X 9 [(0, .ref (jad κ (0))), (1, .int v1), (2, .int v2)] []) (fun rec9 hrec9 v1 v2 hr => ?_) 1000
  unfold lb_X11_firstNoticed_9 at hr
  refine j_iload_n K dX11_firstNoticed_9 2 rfl ?_
  refine j_if_lt K dX11_firstNoticed_10 (tgt := 43) (by decide) hr (fun hr => ?_) (fun hr => ?_)
  · refine j_iload_n K dX11_firstNoticed_43 1 rfl ?_
    exact j_ireturn K dX11_firstNoticed_44 rfl F hr rfl
  · refine j_aload_n K dX11_firstNoticed_13 0 rfl ?_
    refine j_get K (v := .ref (jad κ (14))) fl_X11_51 rfl (Nat.le_of_ble_eq_true rfl) (by decide) rfl dX11_firstNoticed_14 ?_
    refine j_iload_n K dX11_firstNoticed_17 2 rfl ?_
    refine j_baload K (z := 4) rfl (Nat.le_of_ble_eq_true rfl) dX11_firstNoticed_18 hr (fun hr => ?_)
    refine j_if_ne K dX11_firstNoticed_19 (tgt := 31) (by decide) hr (fun hr => ?_) (fun hr => ?_)
    · refine j_iload_n K dX11_firstNoticed_31 2 rfl ?_
      refine j_goto K dX11_firstNoticed_32 (tgt := 36) (by decide) ?_
      exact j_sub [0, 2] rfl (jb_X11_firstNoticed_36 K _ _ _ F rec9 hrec9 hr)
    · refine j_aload_n K dX11_firstNoticed_22 0 rfl ?_
      refine j_get K (v := .ref (jad κ (11))) fl_X11_42 rfl (Nat.le_of_ble_eq_true rfl) (by decide) rfl dX11_firstNoticed_23 ?_
      refine j_iload_n K dX11_firstNoticed_26 2 rfl ?_
      refine j_iaload K (z := 4) rfl (Nat.le_of_ble_eq_true rfl) dX11_firstNoticed_27 hr (fun hr => ?_)
      refine j_if_le K dX11_firstNoticed_28 (tgt := 35) (by decide) hr (fun hr => ?_) (fun hr => ?_)
      · refine j_iload_n K dX11_firstNoticed_35 1 rfl ?_
        exact j_sub [0, 2] rfl (jb_X11_firstNoticed_36 K _ _ _ F rec9 hrec9 hr)
      · refine j_iload_n K dX11_firstNoticed_31 2 rfl ?_
        refine j_goto K dX11_firstNoticed_32 (tgt := 36) (by decide) ?_
        exact j_sub [0, 2] rfl (jb_X11_firstNoticed_36 K _ _ _ F rec9 hrec9 hr)
theorem jf_X11_firstNoticed {κ : JK} (K : jOk 3 cX11_firstNoticed RX11 (some .int) 0 κ) (X : JX) {r : Int32} (F : jFin LY false (oI X r) κ) (hr : f_X11_firstNoticed X = some r) : J LY 3 κ X 0 [(0, .ref (jad κ (0)))] [] := by
  unfold f_X11_firstNoticed at hr
  refine j_iconst K dX11_firstNoticed_0 (v := -1) rfl ?_
  refine j_istoreV_n K dX11_firstNoticed_1 (by decide) hr (fun t1 hr => ?_)
  refine j_aload_n K dX11_firstNoticed_2 1 rfl ?_
  refine j_get K (v := .int (X (0) 12)) fl_X11_132 rfl (Nat.le_of_ble_eq_true rfl) (by decide) rfl dX11_firstNoticed_3 ?_
  refine j_iconst K dX11_firstNoticed_6 (v := 1) rfl ?_
  refine j_isub K dX11_firstNoticed_7 ?_
  refine j_istoreV_n K dX11_firstNoticed_8 (by decide) hr (fun t2 hr => ?_)
  exact j_sub [2, 1, 0] rfl (jl_X11_firstNoticed_9 K _ F _ _ hr)
theorem c_X11_firstNoticed (X : JX) {r : Int32} (hr : f_X11_firstNoticed X = some r) : Cal LY yX11_firstNoticed cX11_firstNoticed 3 (some .int) 0 (fun ad => [.ref (ad (0))]) X (fun ad => oI X r) :=
  Cal.of (own := RX11) (fun ad => [(0, .ref (ad (0)))]) (by decide) rfl (fun _ => Nat.le_of_ble_eq_true rfl) (fun _ => rfl) (fun κ K F => jf_X11_firstNoticed K X F hr)
theorem jb_X11_firstAct_27 {κ : JK} (K : jOk 3 cX11_firstAct RX11 (some .int) 0 κ) (X : JX) (v2 : Int32) (s0 : Int32) {r : Int32} (F : jFin LY false (oI X r) κ) (rec9 : Int32 → Int32 → Option Int32) (hrec9 : ∀ (v1 : Int32) (v2 : Int32), rec9 v1 v2 = some r → J LY 3 κ X 9 [(0, .ref (jad κ (0))), (1, .int v1), (2, .int v2)] []) (hr : b_X11_firstAct_27 rec9 X v2 s0 = some r) : J LY 3 κ X 27 [(0, .ref (jad κ (0))), (2, .int v2)] [.int s0] := by
  unfold b_X11_firstAct_27 at hr
  refine j_istore_n K dX11_firstAct_27 (by decide) ?_
  refine j_iincV K dX11_firstAct_28 (v := -1) 2 rfl rfl (by decide) hr (fun t3 hr => ?_)
  refine j_goto K dX11_firstAct_31 (tgt := 9) (by decide) ?_
  exact j_sub [2, 1, 0] rfl (hrec9 _ _ hr)
theorem jl_X11_firstAct_9 {κ : JK} (K : jOk 3 cX11_firstAct RX11 (some .int) 0 κ) (X : JX) {r : Int32} (F : jFin LY false (oI X r) κ) : ∀ (v1 : Int32) (v2 : Int32), l_X11_firstAct_9 X v1 v2 = some r → J LY 3 κ X 9 [(0, .ref (jad κ (0))), (1, .int v1), (2, .int v2)] [] := by
  refine j_loop2 (P := fun v1 v2 => J LY 3 κ X 9 [(0, .ref (jad κ (0))), (1, .int v1), (2, .int v2)] []) (fun rec9 hrec9 v1 v2 hr => ?_) 1000
  unfold lb_X11_firstAct_9 at hr
  refine j_iload_n K dX11_firstAct_9 2 rfl ?_
  refine j_if_lt K dX11_firstAct_10 (tgt := 34) (by decide) hr (fun hr => ?_) (fun hr => ?_)
  · refine j_iload_n K dX11_firstAct_34 1 rfl ?_
    exact j_ireturn K dX11_firstAct_35 rfl F hr rfl
  · refine j_aload_n K dX11_firstAct_13 0 rfl ?_
    refine j_get K (v := .ref (jad κ (27))) fl_X11_97 rfl (Nat.le_of_ble_eq_true rfl) (by decide) rfl dX11_firstAct_14 ?_
    refine j_iload_n K dX11_firstAct_17 2 rfl ?_
    refine j_baload K (z := 60) rfl (Nat.le_of_ble_eq_true rfl) dX11_firstAct_18 hr (fun hr => ?_)
    refine j_if_eq K dX11_firstAct_19 (tgt := 26) (by decide) hr (fun hr => ?_) (fun hr => ?_)
    · refine j_iload_n K dX11_firstAct_26 2 rfl ?_
      exact j_sub [0, 2] rfl (jb_X11_firstAct_27 K _ _ _ F rec9 hrec9 hr)
    · refine j_iload_n K dX11_firstAct_22 1 rfl ?_
      refine j_goto K dX11_firstAct_23 (tgt := 27) (by decide) ?_
      exact j_sub [0, 2] rfl (jb_X11_firstAct_27 K _ _ _ F rec9 hrec9 hr)
theorem jf_X11_firstAct {κ : JK} (K : jOk 3 cX11_firstAct RX11 (some .int) 0 κ) (X : JX) {r : Int32} (F : jFin LY false (oI X r) κ) (hr : f_X11_firstAct X = some r) : J LY 3 κ X 0 [(0, .ref (jad κ (0)))] [] := by
  unfold f_X11_firstAct at hr
  refine j_iconst K dX11_firstAct_0 (v := -1) rfl ?_
  refine j_istoreV_n K dX11_firstAct_1 (by decide) hr (fun t1 hr => ?_)
  refine j_aload_n K dX11_firstAct_2 1 rfl ?_
  refine j_get K (v := .int (X (0) 30)) fl_X11_183 rfl (Nat.le_of_ble_eq_true rfl) (by decide) rfl dX11_firstAct_3 ?_
  refine j_iconst K dX11_firstAct_6 (v := 1) rfl ?_
  refine j_isub K dX11_firstAct_7 ?_
  refine j_istoreV_n K dX11_firstAct_8 (by decide) hr (fun t2 hr => ?_)
  exact j_sub [2, 1, 0] rfl (jl_X11_firstAct_9 K _ F _ _ hr)
theorem c_X11_firstAct (X : JX) {r : Int32} (hr : f_X11_firstAct X = some r) : Cal LY yX11_firstAct cX11_firstAct 3 (some .int) 0 (fun ad => [.ref (ad (0))]) X (fun ad => oI X r) :=
  Cal.of (own := RX11) (fun ad => [(0, .ref (ad (0)))]) (by decide) rfl (fun _ => Nat.le_of_ble_eq_true rfl) (fun _ => rfl) (fun κ K F => jf_X11_firstAct K X F hr)
theorem jb_X11_firstCrawl_27 {κ : JK} (K : jOk 3 cX11_firstCrawl RX11 (some .int) 0 κ) (X : JX) (v2 : Int32) (s0 : Int32) {r : Int32} (F : jFin LY false (oI X r) κ) (rec9 : Int32 → Int32 → Option Int32) (hrec9 : ∀ (v1 : Int32) (v2 : Int32), rec9 v1 v2 = some r → J LY 3 κ X 9 [(0, .ref (jad κ (0))), (1, .int v1), (2, .int v2)] []) (hr : b_X11_firstCrawl_27 rec9 X v2 s0 = some r) : J LY 3 κ X 27 [(0, .ref (jad κ (0))), (2, .int v2)] [.int s0] := by
  unfold b_X11_firstCrawl_27 at hr
  refine j_istore_n K dX11_firstCrawl_27 (by decide) ?_
  refine j_iincV K dX11_firstCrawl_28 (v := -1) 2 rfl rfl (by decide) hr (fun t3 hr => ?_)
  refine j_goto K dX11_firstCrawl_31 (tgt := 9) (by decide) ?_
  exact j_sub [2, 1, 0] rfl (hrec9 _ _ hr)
theorem jl_X11_firstCrawl_9 {κ : JK} (K : jOk 3 cX11_firstCrawl RX11 (some .int) 0 κ) (X : JX) {r : Int32} (F : jFin LY false (oI X r) κ) : ∀ (v1 : Int32) (v2 : Int32), l_X11_firstCrawl_9 X v1 v2 = some r → J LY 3 κ X 9 [(0, .ref (jad κ (0))), (1, .int v1), (2, .int v2)] [] := by
  refine j_loop2 (P := fun v1 v2 => J LY 3 κ X 9 [(0, .ref (jad κ (0))), (1, .int v1), (2, .int v2)] []) (fun rec9 hrec9 v1 v2 hr => ?_) 1000
  unfold lb_X11_firstCrawl_9 at hr
  refine j_iload_n K dX11_firstCrawl_9 2 rfl ?_
  refine j_if_lt K dX11_firstCrawl_10 (tgt := 34) (by decide) hr (fun hr => ?_) (fun hr => ?_)
  · refine j_iload_n K dX11_firstCrawl_34 1 rfl ?_
    exact j_ireturn K dX11_firstCrawl_35 rfl F hr rfl
  · refine j_aload_n K dX11_firstCrawl_13 0 rfl ?_
    refine j_get K (v := .ref (jad κ (15))) fl_X11_54 rfl (Nat.le_of_ble_eq_true rfl) (by decide) rfl dX11_firstCrawl_14 ?_
    refine j_iload_n K dX11_firstCrawl_17 2 rfl ?_
    refine j_baload K (z := 4) rfl (Nat.le_of_ble_eq_true rfl) dX11_firstCrawl_18 hr (fun hr => ?_)
    refine j_if_eq K dX11_firstCrawl_19 (tgt := 26) (by decide) hr (fun hr => ?_) (fun hr => ?_)
    · refine j_iload_n K dX11_firstCrawl_26 1 rfl ?_
      exact j_sub [0, 2] rfl (jb_X11_firstCrawl_27 K _ _ _ F rec9 hrec9 hr)
    · refine j_iload_n K dX11_firstCrawl_22 2 rfl ?_
      refine j_goto K dX11_firstCrawl_23 (tgt := 27) (by decide) ?_
      exact j_sub [0, 2] rfl (jb_X11_firstCrawl_27 K _ _ _ F rec9 hrec9 hr)
theorem jf_X11_firstCrawl {κ : JK} (K : jOk 3 cX11_firstCrawl RX11 (some .int) 0 κ) (X : JX) {r : Int32} (F : jFin LY false (oI X r) κ) (hr : f_X11_firstCrawl X = some r) : J LY 3 κ X 0 [(0, .ref (jad κ (0)))] [] := by
  unfold f_X11_firstCrawl at hr
  refine j_iconst K dX11_firstCrawl_0 (v := -1) rfl ?_
  refine j_istoreV_n K dX11_firstCrawl_1 (by decide) hr (fun t1 hr => ?_)
  refine j_aload_n K dX11_firstCrawl_2 1 rfl ?_
  refine j_get K (v := .int (X (0) 12)) fl_X11_132 rfl (Nat.le_of_ble_eq_true rfl) (by decide) rfl dX11_firstCrawl_3 ?_
  refine j_iconst K dX11_firstCrawl_6 (v := 1) rfl ?_
  refine j_isub K dX11_firstCrawl_7 ?_
  refine j_istoreV_n K dX11_firstCrawl_8 (by decide) hr (fun t2 hr => ?_)
  exact j_sub [2, 1, 0] rfl (jl_X11_firstCrawl_9 K _ F _ _ hr)
theorem c_X11_firstCrawl (X : JX) {r : Int32} (hr : f_X11_firstCrawl X = some r) : Cal LY yX11_firstCrawl cX11_firstCrawl 3 (some .int) 0 (fun ad => [.ref (ad (0))]) X (fun ad => oI X r) :=
  Cal.of (own := RX11) (fun ad => [(0, .ref (ad (0)))]) (by decide) rfl (fun _ => Nat.le_of_ble_eq_true rfl) (fun _ => rfl) (fun κ K F => jf_X11_firstCrawl K X F hr)
theorem jl_X11_notes_65 {κ : JK} (K : jOk 3 cX11_notes RX11 none 1 κ) (v1 : Int32) {r : JX} (F : jFin LY false (oU r) κ) : ∀ (X : JX) (v2 : Int32), l_X11_notes_65 v1 X v2 = some r → J LY 3 κ X 65 [(0, .ref (jad κ (0))), (1, .int v1), (2, .int v2)] [] := by
  refine j_loop2 (P := fun X v2 => J LY 3 κ X 65 [(0, .ref (jad κ (0))), (1, .int v1), (2, .int v2)] []) (fun rec65 hrec65 X v2 hr => ?_) 1000
  unfold lb_X11_notes_65 at hr
  refine j_iload_n K dX11_notes_65 2 rfl ?_
  refine j_aload_n K dX11_notes_66 0 rfl ?_
  refine j_get K (v := .ref (jad κ (11))) fl_X11_42 rfl (Nat.le_of_ble_eq_true rfl) (by decide) rfl dX11_notes_67 ?_
  refine j_iload_n K dX11_notes_70 1 rfl ?_
  refine j_iaload K (z := 4) rfl (Nat.le_of_ble_eq_true rfl) dX11_notes_71 hr (fun hr => ?_)
  refine j_icmp_ge K dX11_notes_72 (tgt := 129) (by decide) hr (fun hr => ?_) (fun hr => ?_)
  · exact j_return K dX11_notes_129 rfl F hr rfl
  · refine j_aload_n K dX11_notes_75 0 rfl ?_
    refine j_get K (v := .ref (jad κ (12))) fl_X11_45 rfl (Nat.le_of_ble_eq_true rfl) (by decide) rfl dX11_notes_76 ?_
    refine j_bipush K dX11_notes_79 (v := 8) rfl ?_
    refine j_iload_n K dX11_notes_81 1 rfl ?_
    refine j_imul K dX11_notes_82 ?_
    refine j_iload_n K dX11_notes_83 2 rfl ?_
    refine j_iadd K dX11_notes_84 ?_
    refine j_aload_n K dX11_notes_85 0 rfl ?_
    refine j_get K (v := .ref (jad κ (12))) fl_X11_45 rfl (Nat.le_of_ble_eq_true rfl) (by decide) rfl dX11_notes_86 ?_
    refine j_bipush K dX11_notes_89 (v := 8) rfl ?_
    refine j_iload_n K dX11_notes_91 1 rfl ?_
    refine j_imul K dX11_notes_92 ?_
    refine j_iload_n K dX11_notes_93 2 rfl ?_
    refine j_iadd K dX11_notes_94 ?_
    refine j_iconst K dX11_notes_95 (v := 1) rfl ?_
    refine j_iadd K dX11_notes_96 ?_
    refine j_iaload K (z := 32) rfl (Nat.le_of_ble_eq_true rfl) dX11_notes_97 hr (fun hr => ?_)
    refine j_iastoreV K (z := 32) rfl (Nat.le_of_ble_eq_true rfl) dX11_notes_98 hr (fun X5 hr => ?_)
    refine j_aload_n K dX11_notes_99 0 rfl ?_
    refine j_get K (v := .ref (jad κ (13))) fl_X11_48 rfl (Nat.le_of_ble_eq_true rfl) (by decide) rfl dX11_notes_100 ?_
    refine j_bipush K dX11_notes_103 (v := 8) rfl ?_
    refine j_iload_n K dX11_notes_105 1 rfl ?_
    refine j_imul K dX11_notes_106 ?_
    refine j_iload_n K dX11_notes_107 2 rfl ?_
    refine j_iadd K dX11_notes_108 ?_
    refine j_aload_n K dX11_notes_109 0 rfl ?_
    refine j_get K (v := .ref (jad κ (13))) fl_X11_48 rfl (Nat.le_of_ble_eq_true rfl) (by decide) rfl dX11_notes_110 ?_
    refine j_bipush K dX11_notes_113 (v := 8) rfl ?_
    refine j_iload_n K dX11_notes_115 1 rfl ?_
    refine j_imul K dX11_notes_116 ?_
    refine j_iload_n K dX11_notes_117 2 rfl ?_
    refine j_iadd K dX11_notes_118 ?_
    refine j_iconst K dX11_notes_119 (v := 1) rfl ?_
    refine j_iadd K dX11_notes_120 ?_
    refine j_iaload K (z := 32) rfl (Nat.le_of_ble_eq_true rfl) dX11_notes_121 hr (fun hr => ?_)
    refine j_iastoreV K (z := 32) rfl (Nat.le_of_ble_eq_true rfl) dX11_notes_122 hr (fun X6 hr => ?_)
    refine j_iincV K dX11_notes_123 (v := 1) 2 rfl rfl (by decide) hr (fun t7 hr => ?_)
    refine j_goto K dX11_notes_126 (tgt := 65) (by decide) ?_
    exact j_sub [1, 2, 0] rfl (hrec65 _ _ hr)
theorem jb_X11_notes_50 {κ : JK} (K : jOk 3 cX11_notes RX11 none 1 κ) (X : JX) (v1 : Int32) (s0 : Int32) (s1 : Int32) {r : JX} (F : jFin LY false (oU r) κ) (hr : b_X11_notes_50 X v1 s0 s1 = some r) : J LY 3 κ X 50 [(0, .ref (jad κ (0))), (1, .int v1)] [.int s0, .int s1, .ref (jad κ (0))] := by
  unfold b_X11_notes_50 at hr
  refine j_vU2 K (ci := 11) hr (fun v h => c_X11_adds X s1 s0 h) ml_X11_176 ⟨_, rfl, rfl⟩ rfl (Nat.le_of_ble_eq_true rfl) (by decide) rfl (by decide) (by decide) (Nat.le_of_ble_eq_true rfl) dX11_notes_50 (fun X3 h hr => ?_)
  refine j_aload_n K dX11_notes_53 0 rfl ?_
  refine j_get K (v := .ref (jad κ (11))) fl_X11_42 rfl (Nat.le_of_ble_eq_true rfl) (by decide) rfl dX11_notes_54 ?_
  refine j_iload_n K dX11_notes_57 1 rfl ?_
  refine j_dup2 K dX11_notes_58 rfl rfl ?_
  refine j_iaload K (z := 4) rfl (Nat.le_of_ble_eq_true rfl) dX11_notes_59 hr (fun hr => ?_)
  refine j_iconst K dX11_notes_60 (v := 1) rfl ?_
  refine j_isub K dX11_notes_61 ?_
  refine j_iastoreV K (z := 4) rfl (Nat.le_of_ble_eq_true rfl) dX11_notes_62 hr (fun X4 hr => ?_)
  refine j_iconst K dX11_notes_63 (v := 0) rfl ?_
  refine j_istore_n K dX11_notes_64 (by decide) ?_
  exact j_sub [1, 2, 0] rfl (jl_X11_notes_65 K _ F _ _ hr)
theorem jf_X11_notes {κ : JK} (K : jOk 3 cX11_notes RX11 none 1 κ) (X : JX) (v1 : Int32) {r : JX} (F : jFin LY false (oU r) κ) (hr : f_X11_notes X v1 = some r) : J LY 3 κ X 0 [(0, .ref (jad κ (0))), (1, .int v1)] [] := by
  unfold f_X11_notes at hr
  refine j_aload_n K dX11_notes_0 0 rfl ?_
  refine j_get K (v := .ref (jad κ (14))) fl_X11_51 rfl (Nat.le_of_ble_eq_true rfl) (by decide) rfl dX11_notes_1 ?_
  refine j_iload_n K dX11_notes_4 1 rfl ?_
  refine j_baload K (z := 4) rfl (Nat.le_of_ble_eq_true rfl) dX11_notes_5 hr (fun hr => ?_)
  refine j_if_eq K dX11_notes_6 (tgt := 22) (by decide) hr (fun hr => ?_) (fun hr => ?_)
  · refine j_aload_n K dX11_notes_22 0 rfl ?_
    refine j_aload_n K dX11_notes_23 0 rfl ?_
    refine j_get K (v := .ref (jad κ (13))) fl_X11_48 rfl (Nat.le_of_ble_eq_true rfl) (by decide) rfl dX11_notes_24 ?_
    refine j_bipush K dX11_notes_27 (v := 8) rfl ?_
    refine j_iload_n K dX11_notes_29 1 rfl ?_
    refine j_imul K dX11_notes_30 ?_
    refine j_iaload K (z := 32) rfl (Nat.le_of_ble_eq_true rfl) dX11_notes_31 hr (fun hr => ?_)
    refine j_aload_n K dX11_notes_32 0 rfl ?_
    refine j_get K (v := .ref (jad κ (12))) fl_X11_45 rfl (Nat.le_of_ble_eq_true rfl) (by decide) rfl dX11_notes_33 ?_
    refine j_bipush K dX11_notes_36 (v := 8) rfl ?_
    refine j_iload_n K dX11_notes_38 1 rfl ?_
    refine j_imul K dX11_notes_39 ?_
    refine j_iaload K (z := 32) rfl (Nat.le_of_ble_eq_true rfl) dX11_notes_40 hr (fun hr => ?_)
    refine j_iconst K dX11_notes_41 (v := 2) rfl ?_
    refine j_icmp_ne K dX11_notes_42 (tgt := 49) (by decide) hr (fun hr => ?_) (fun hr => ?_)
    · refine j_iconst K dX11_notes_49 (v := 1) rfl ?_
      exact j_sub [0, 1] rfl (jb_X11_notes_50 K _ _ _ _ F hr)
    · refine j_iconst K dX11_notes_45 (v := 2) rfl ?_
      refine j_goto K dX11_notes_46 (tgt := 50) (by decide) ?_
      exact j_sub [0, 1] rfl (jb_X11_notes_50 K _ _ _ _ F hr)
  · refine j_aload_n K dX11_notes_9 0 rfl ?_
    refine j_get K (v := .ref (jad κ (14))) fl_X11_51 rfl (Nat.le_of_ble_eq_true rfl) (by decide) rfl dX11_notes_10 ?_
    refine j_iload_n K dX11_notes_13 1 rfl ?_
    refine j_iconst K dX11_notes_14 (v := 0) rfl ?_
    refine j_bastoreV K (z := 4) rfl (Nat.le_of_ble_eq_true rfl) dX11_notes_15 hr (fun X1 hr => ?_)
    refine j_aload_n K dX11_notes_16 0 rfl ?_
    refine j_iload_n K dX11_notes_17 1 rfl ?_
    refine j_vU1 K (ci := 11) hr (fun v h => c_X11_beginsCrawl X1 v1 h) ml_X11_180 ⟨_, rfl, rfl⟩ rfl (Nat.le_of_ble_eq_true rfl) (by decide) rfl (by decide) (by decide) (Nat.le_of_ble_eq_true rfl) dX11_notes_18 (fun X2 h hr => ?_)
    exact j_return K dX11_notes_21 rfl F hr rfl
theorem c_X11_notes (X : JX) (v1 : Int32) {r : JX} (hr : f_X11_notes X v1 = some r) : Cal LY yX11_notes cX11_notes 3 none 1 (fun ad => [.ref (ad (0)), .int v1]) X (fun ad => oU r) :=
  Cal.of (own := RX11) (fun ad => [(0, .ref (ad (0))), (1, .int v1)]) (by decide) rfl (fun _ => Nat.le_of_ble_eq_true rfl) (fun _ => rfl) (fun κ K F => jf_X11_notes K X v1 F hr)
theorem jb_X11_isKnown_63 {κ : JK} (K : jOk 2 cX11_isKnown RX11 (some .boolean) 0 κ) (X : JX) {r : Int32} (F : jFin LY false (oI X r) κ) (hr : b_X11_isKnown_63 X = some r) : J LY 2 κ X 63 [] [] := by
  unfold b_X11_isKnown_63 at hr
  refine j_iconst K dX11_isKnown_63 (v := 1) rfl ?_
  refine j_goto K dX11_isKnown_64 (tgt := 68) (by decide) ?_
  exact j_zreturn K dX11_isKnown_68 rfl rfl F hr rfl
theorem jf_X11_isKnown {κ : JK} (K : jOk 2 cX11_isKnown RX11 (some .boolean) 0 κ) (X : JX) (v1 : Int32) {r : Int32} (F : jFin LY false (oI X r) κ) (hr : f_X11_isKnown X v1 = some r) : J LY 2 κ X 0 [(0, .ref (jad κ (0))), (1, .int v1)] [] := by
  unfold f_X11_isKnown at hr
  refine j_aload_n K dX11_isKnown_0 0 rfl ?_
  refine j_get K (v := .ref (jad κ (19))) fl_X11_66 rfl (Nat.le_of_ble_eq_true rfl) (by decide) rfl dX11_isKnown_1 ?_
  refine j_iload_n K dX11_isKnown_4 1 rfl ?_
  refine j_baload K (z := 60) rfl (Nat.le_of_ble_eq_true rfl) dX11_isKnown_5 hr (fun hr => ?_)
  refine j_if_eq K dX11_isKnown_6 (tgt := 67) (by decide) hr (fun hr => ?_) (fun hr => ?_)
  · refine j_iconst K dX11_isKnown_67 (v := 0) rfl ?_
    exact j_zreturn K dX11_isKnown_68 rfl rfl F hr rfl
  · refine j_aload_n K dX11_isKnown_9 0 rfl ?_
    refine j_get K (v := .ref (jad κ (20))) fl_X11_69 rfl (Nat.le_of_ble_eq_true rfl) (by decide) rfl dX11_isKnown_10 ?_
    refine j_iload_n K dX11_isKnown_13 1 rfl ?_
    refine j_iaload K (z := 60) rfl (Nat.le_of_ble_eq_true rfl) dX11_isKnown_14 hr (fun hr => ?_)
    refine j_aload_n K dX11_isKnown_15 0 rfl ?_
    refine j_get K (v := .ref (jad κ (3))) fl_X11_16 rfl (Nat.le_of_ble_eq_true rfl) (by decide) rfl dX11_isKnown_16 ?_
    refine j_iload_n K dX11_isKnown_19 1 rfl ?_
    refine j_iaload K (z := 60) rfl (Nat.le_of_ble_eq_true rfl) dX11_isKnown_20 hr (fun hr => ?_)
    refine j_icmp_ne K dX11_isKnown_21 (tgt := 67) (by decide) hr (fun hr => ?_) (fun hr => ?_)
    · refine j_iconst K dX11_isKnown_67 (v := 0) rfl ?_
      exact j_zreturn K dX11_isKnown_68 rfl rfl F hr rfl
    · refine j_aload_n K dX11_isKnown_24 0 rfl ?_
      refine j_get K (v := .ref (jad κ (21))) fl_X11_72 rfl (Nat.le_of_ble_eq_true rfl) (by decide) rfl dX11_isKnown_25 ?_
      refine j_iload_n K dX11_isKnown_28 1 rfl ?_
      refine j_caload K (z := 60) rfl (Nat.le_of_ble_eq_true rfl) dX11_isKnown_29 hr (fun hr => ?_)
      refine j_aload_n K dX11_isKnown_30 0 rfl ?_
      refine j_get K (v := .ref (jad κ (4))) fl_X11_20 rfl (Nat.le_of_ble_eq_true rfl) (by decide) rfl dX11_isKnown_31 ?_
      refine j_iload_n K dX11_isKnown_34 1 rfl ?_
      refine j_caload K (z := 60) rfl (Nat.le_of_ble_eq_true rfl) dX11_isKnown_35 hr (fun hr => ?_)
      refine j_icmp_ne K dX11_isKnown_36 (tgt := 67) (by decide) hr (fun hr => ?_) (fun hr => ?_)
      · refine j_iconst K dX11_isKnown_67 (v := 0) rfl ?_
        exact j_zreturn K dX11_isKnown_68 rfl rfl F hr rfl
      · refine j_aload_n K dX11_isKnown_39 0 rfl ?_
        refine j_get K (v := .ref (jad κ (2))) fl_X11_13 rfl (Nat.le_of_ble_eq_true rfl) (by decide) rfl dX11_isKnown_40 ?_
        refine j_iload_n K dX11_isKnown_43 1 rfl ?_
        refine j_baload K (z := 60) rfl (Nat.le_of_ble_eq_true rfl) dX11_isKnown_44 hr (fun hr => ?_)
        refine j_if_ne K dX11_isKnown_45 (tgt := 63) (by decide) hr (fun hr => ?_) (fun hr => ?_)
        · exact j_sub [] rfl (jb_X11_isKnown_63 K _ F hr)
        · refine j_aload_n K dX11_isKnown_48 0 rfl ?_
          refine j_get K (v := .ref (jad κ (22))) fl_X11_75 rfl (Nat.le_of_ble_eq_true rfl) (by decide) rfl dX11_isKnown_49 ?_
          refine j_iload_n K dX11_isKnown_52 1 rfl ?_
          refine j_iaload K (z := 60) rfl (Nat.le_of_ble_eq_true rfl) dX11_isKnown_53 hr (fun hr => ?_)
          refine j_aload_n K dX11_isKnown_54 0 rfl ?_
          refine j_get K (v := .ref (jad κ (5))) fl_X11_24 rfl (Nat.le_of_ble_eq_true rfl) (by decide) rfl dX11_isKnown_55 ?_
          refine j_iload_n K dX11_isKnown_58 1 rfl ?_
          refine j_iaload K (z := 60) rfl (Nat.le_of_ble_eq_true rfl) dX11_isKnown_59 hr (fun hr => ?_)
          refine j_icmp_ne K dX11_isKnown_60 (tgt := 67) (by decide) hr (fun hr => ?_) (fun hr => ?_)
          · refine j_iconst K dX11_isKnown_67 (v := 0) rfl ?_
            exact j_zreturn K dX11_isKnown_68 rfl rfl F hr rfl
          · exact j_sub [] rfl (jb_X11_isKnown_63 K _ F hr)
theorem c_X11_isKnown (X : JX) (v1 : Int32) {r : Int32} (hr : f_X11_isKnown X v1 = some r) : Cal LY yX11_isKnown cX11_isKnown 2 (some .boolean) 0 (fun ad => [.ref (ad (0)), .int v1]) X (fun ad => oI X r) :=
  Cal.of (own := RX11) (fun ad => [(0, .ref (ad (0))), (1, .int v1)]) (by decide) rfl (fun _ => Nat.le_of_ble_eq_true rfl) (fun _ => rfl) (fun κ K F => jf_X11_isKnown K X v1 F hr)
theorem jb_X11_isWaiting_41 {κ : JK} (K : jOk 5 cX11_isWaiting RX11 (some .boolean) 0 κ) (X : JX) (v1 : Int32) (v2 : Int32) (v4 : Int32) (s0 : Int32) {r : Int32} (F : jFin LY false (oI X r) κ) (rec5 : Int32 → Int32 → Option Int32) (hrec5 : ∀ (v3 : Int32) (v4 : Int32), rec5 v3 v4 = some r → J LY 5 κ X 5 [(0, .ref (jad κ (0))), (1, .int v1), (2, .int v2), (3, .int v3), (4, .int v4)] []) (hr : b_X11_isWaiting_41 rec5 X v1 v2 v4 s0 = some r) : J LY 5 κ X 41 [(0, .ref (jad κ (0))), (1, .int v1), (2, .int v2), (4, .int v4)] [.int s0] := by
  unfold b_X11_isWaiting_41 at hr
  refine j_istore_n K dX11_isWaiting_41 (by decide) ?_
  refine j_iincV K dX11_isWaiting_42 (v := 1) 4 rfl rfl (by decide) hr (fun t1 hr => ?_)
  refine j_goto K dX11_isWaiting_45 (tgt := 5) (by decide) ?_
  exact j_sub [2, 3, 4, 1, 0] rfl (hrec5 _ _ hr)
theorem jl_X11_isWaiting_5 {κ : JK} (K : jOk 5 cX11_isWaiting RX11 (some .boolean) 0 κ) (X : JX) (v1 : Int32) (v2 : Int32) {r : Int32} (F : jFin LY false (oI X r) κ) : ∀ (v3 : Int32) (v4 : Int32), l_X11_isWaiting_5 X v1 v2 v3 v4 = some r → J LY 5 κ X 5 [(0, .ref (jad κ (0))), (1, .int v1), (2, .int v2), (3, .int v3), (4, .int v4)] [] := by
  refine j_loop2 (P := fun v3 v4 => J LY 5 κ X 5 [(0, .ref (jad κ (0))), (1, .int v1), (2, .int v2), (3, .int v3), (4, .int v4)] []) (fun rec5 hrec5 v3 v4 hr => ?_) 1000
  unfold lb_X11_isWaiting_5 at hr
  refine j_iload K dX11_isWaiting_5 4 rfl ?_
  refine j_aload_n K dX11_isWaiting_7 0 rfl ?_
  refine j_get K (v := .ref (jad κ (16))) fl_X11_57 rfl (Nat.le_of_ble_eq_true rfl) (by decide) rfl dX11_isWaiting_8 ?_
  refine j_iload_n K dX11_isWaiting_11 1 rfl ?_
  refine j_iaload K (z := 4) rfl (Nat.le_of_ble_eq_true rfl) dX11_isWaiting_12 hr (fun hr => ?_)
  refine j_icmp_ge K dX11_isWaiting_13 (tgt := 48) (by decide) hr (fun hr => ?_) (fun hr => ?_)
  · refine j_iload_n K dX11_isWaiting_48 3 rfl ?_
    exact j_guard hr (fun hz hr => j_zreturn K dX11_isWaiting_49 rfl hz F hr rfl)
  · refine j_iload_n K dX11_isWaiting_16 3 rfl ?_
    refine j_if_ne K dX11_isWaiting_17 (tgt := 36) (by decide) hr (fun hr => ?_) (fun hr => ?_)
    · refine j_iconst K dX11_isWaiting_36 (v := 1) rfl ?_
      refine j_goto K dX11_isWaiting_37 (tgt := 41) (by decide) ?_
      exact j_sub [0, 1, 2, 4] rfl (jb_X11_isWaiting_41 K _ _ _ _ _ F rec5 hrec5 hr)
    · refine j_aload_n K dX11_isWaiting_20 0 rfl ?_
      refine j_get K (v := .ref (jad κ (17))) fl_X11_60 rfl (Nat.le_of_ble_eq_true rfl) (by decide) rfl dX11_isWaiting_21 ?_
      refine j_bipush K dX11_isWaiting_24 (v := 60) rfl ?_
      refine j_iload_n K dX11_isWaiting_26 1 rfl ?_
      refine j_imul K dX11_isWaiting_27 ?_
      refine j_iload K dX11_isWaiting_28 4 rfl ?_
      refine j_iadd K dX11_isWaiting_30 ?_
      refine j_iaload K (z := 240) rfl (Nat.le_of_ble_eq_true rfl) dX11_isWaiting_31 hr (fun hr => ?_)
      refine j_iload_n K dX11_isWaiting_32 2 rfl ?_
      refine j_icmp_ne K dX11_isWaiting_33 (tgt := 40) (by decide) hr (fun hr => ?_) (fun hr => ?_)
      · refine j_iconst K dX11_isWaiting_40 (v := 0) rfl ?_
        exact j_sub [0, 1, 2, 4] rfl (jb_X11_isWaiting_41 K _ _ _ _ _ F rec5 hrec5 hr)
      · refine j_iconst K dX11_isWaiting_36 (v := 1) rfl ?_
        refine j_goto K dX11_isWaiting_37 (tgt := 41) (by decide) ?_
        exact j_sub [0, 1, 2, 4] rfl (jb_X11_isWaiting_41 K _ _ _ _ _ F rec5 hrec5 hr)
theorem jf_X11_isWaiting {κ : JK} (K : jOk 5 cX11_isWaiting RX11 (some .boolean) 0 κ) (X : JX) (v1 : Int32) (v2 : Int32) {r : Int32} (F : jFin LY false (oI X r) κ) (hr : f_X11_isWaiting X v1 v2 = some r) : J LY 5 κ X 0 [(0, .ref (jad κ (0))), (1, .int v1), (2, .int v2)] [] := by
  unfold f_X11_isWaiting at hr
  refine j_iconst K dX11_isWaiting_0 (v := 0) rfl ?_
  refine j_istore_n K dX11_isWaiting_1 (by decide) ?_
  refine j_iconst K dX11_isWaiting_2 (v := 0) rfl ?_
  refine j_istore K dX11_isWaiting_3 (by decide) ?_
  exact j_sub [2, 3, 4, 1, 0] rfl (jl_X11_isWaiting_5 K _ _ _ F _ _ hr)
theorem c_X11_isWaiting (X : JX) (v1 : Int32) (v2 : Int32) {r : Int32} (hr : f_X11_isWaiting X v1 v2 = some r) : Cal LY yX11_isWaiting cX11_isWaiting 5 (some .boolean) 0 (fun ad => [.ref (ad (0)), .int v1, .int v2]) X (fun ad => oI X r) :=
  Cal.of (own := RX11) (fun ad => [(0, .ref (ad (0))), (1, .int v1), (2, .int v2)]) (by decide) rfl (fun _ => Nat.le_of_ble_eq_true rfl) (fun _ => rfl) (fun κ K F => jf_X11_isWaiting K X v1 v2 F hr)
theorem jb_X11_goesOn_256 {κ : JK} (K : jOk 4 cX11_goesOn RX11 none 1 κ) (X : JX) (v1 : Int32) (v3 : Int32) {r : JX} (F : jFin LY false (oU r) κ) (rec219 : JX → Int32 → Option JX) (hrec219 : ∀ (X : JX) (v3 : Int32), rec219 X v3 = some r → J LY 4 κ X 219 [(0, .ref (jad κ (0))), (1, .int v1), (3, .int v3)] []) (hr : b_X11_goesOn_256 rec219 X v1 v3 = some r) : J LY 4 κ X 256 [(0, .ref (jad κ (0))), (1, .int v1), (3, .int v3)] [] := by
  unfold b_X11_goesOn_256 at hr
  refine j_iincV K dX11_goesOn_256 (v := 1) 2 rfl rfl (by decide) hr (fun t11 hr => ?_)
  refine j_goto K dX11_goesOn_259 (tgt := 219) (by decide) ?_
  exact j_sub [1, 2, 0] rfl (hrec219 _ _ hr)
theorem jl_X11_goesOn_219 {κ : JK} (K : jOk 4 cX11_goesOn RX11 none 1 κ) (v1 : Int32) {r : JX} (F : jFin LY false (oU r) κ) : ∀ (X : JX) (v3 : Int32), l_X11_goesOn_219 v1 X v3 = some r → J LY 4 κ X 219 [(0, .ref (jad κ (0))), (1, .int v1), (3, .int v3)] [] := by
  refine j_loop2 (P := fun X v3 => J LY 4 κ X 219 [(0, .ref (jad κ (0))), (1, .int v1), (3, .int v3)] []) (fun rec219 hrec219 X v3 hr => ?_) 1000
  unfold lb_X11_goesOn_219 at hr
  refine j_iload_n K dX11_goesOn_219 2 rfl ?_
  refine j_aload_n K dX11_goesOn_220 0 rfl ?_
  refine j_get K (v := .int (X (0) 2)) fl_X11_118 rfl (Nat.le_of_ble_eq_true rfl) (by decide) rfl dX11_goesOn_221 ?_
  refine j_icmp_ge K dX11_goesOn_224 (tgt := 262) (by decide) hr (fun hr => ?_) (fun hr => ?_)
  · exact j_return K dX11_goesOn_262 rfl F hr rfl
  · refine j_aload_n K dX11_goesOn_227 0 rfl ?_
    refine j_get K (v := .ref (jad κ (19))) fl_X11_66 rfl (Nat.le_of_ble_eq_true rfl) (by decide) rfl dX11_goesOn_228 ?_
    refine j_iload_n K dX11_goesOn_231 2 rfl ?_
    refine j_baload K (z := 60) rfl (Nat.le_of_ble_eq_true rfl) dX11_goesOn_232 hr (fun hr => ?_)
    refine j_if_eq K dX11_goesOn_233 (tgt := 256) (by decide) hr (fun hr => ?_) (fun hr => ?_)
    · exact j_sub [0, 1, 2] rfl (jb_X11_goesOn_256 K _ _ _ F rec219 hrec219 hr)
    · refine j_aload_n K dX11_goesOn_236 0 rfl ?_
      refine j_get K (v := .ref (jad κ (18))) fl_X11_63 rfl (Nat.le_of_ble_eq_true rfl) (by decide) rfl dX11_goesOn_237 ?_
      refine j_bipush K dX11_goesOn_240 (v := 60) rfl ?_
      refine j_iload_n K dX11_goesOn_242 1 rfl ?_
      refine j_imul K dX11_goesOn_243 ?_
      refine j_iload_n K dX11_goesOn_244 2 rfl ?_
      refine j_iadd K dX11_goesOn_245 ?_
      refine j_baload K (z := 240) rfl (Nat.le_of_ble_eq_true rfl) dX11_goesOn_246 hr (fun hr => ?_)
      refine j_if_ne K dX11_goesOn_247 (tgt := 256) (by decide) hr (fun hr => ?_) (fun hr => ?_)
      · exact j_sub [0, 1, 2] rfl (jb_X11_goesOn_256 K _ _ _ F rec219 hrec219 hr)
      · refine j_aload_n K dX11_goesOn_250 0 rfl ?_
        refine j_iload_n K dX11_goesOn_251 2 rfl ?_
        refine j_iconst K dX11_goesOn_252 (v := 1) rfl ?_
        refine j_vU2 K (ci := 11) hr (fun v h => c_X11_adds X v3 (1) h) ml_X11_176 ⟨_, rfl, rfl⟩ rfl (Nat.le_of_ble_eq_true rfl) (by decide) rfl (by decide) (by decide) (Nat.le_of_ble_eq_true rfl) dX11_goesOn_253 (fun X7 h hr => ?_)
        exact j_sub [0, 1, 2] rfl (jb_X11_goesOn_256 K _ _ _ F rec219 hrec219 hr)
theorem jb_X11_goesOn_201 {κ : JK} (K : jOk 4 cX11_goesOn RX11 none 1 κ) (X : JX) (v1 : Int32) {r : JX} (F : jFin LY false (oU r) κ) (hr : b_X11_goesOn_201 X v1 = some r) : J LY 4 κ X 201 [(0, .ref (jad κ (0))), (1, .int v1)] [] := by
  unfold b_X11_goesOn_201 at hr
  refine j_aload_n K dX11_goesOn_201 0 rfl ?_
  refine j_get K (v := .ref (jad κ (16))) fl_X11_57 rfl (Nat.le_of_ble_eq_true rfl) (by decide) rfl dX11_goesOn_202 ?_
  refine j_iload_n K dX11_goesOn_205 1 rfl ?_
  refine j_iaload K (z := 4) rfl (Nat.le_of_ble_eq_true rfl) dX11_goesOn_206 hr (fun hr => ?_)
  refine j_if_ne K dX11_goesOn_207 (tgt := 262) (by decide) hr (fun hr => ?_) (fun hr => ?_)
  · exact j_return K dX11_goesOn_262 rfl F hr rfl
  · refine j_aload_n K dX11_goesOn_210 0 rfl ?_
    refine j_get K (v := .ref (jad κ (15))) fl_X11_54 rfl (Nat.le_of_ble_eq_true rfl) (by decide) rfl dX11_goesOn_211 ?_
    refine j_iload_n K dX11_goesOn_214 1 rfl ?_
    refine j_iconst K dX11_goesOn_215 (v := 0) rfl ?_
    refine j_bastoreV K (z := 4) rfl (Nat.le_of_ble_eq_true rfl) dX11_goesOn_216 hr (fun X6 hr => ?_)
    refine j_iconst K dX11_goesOn_217 (v := 0) rfl ?_
    refine j_istore_n K dX11_goesOn_218 (by decide) ?_
    exact j_sub [1, 2, 0] rfl (jl_X11_goesOn_219 K _ F _ _ hr)
theorem jb_X11_goesOn_195 {κ : JK} (K : jOk 4 cX11_goesOn RX11 none 1 κ) (X : JX) (v1 : Int32) (v2 : Int32) (v3 : Int32) {r : JX} (F : jFin LY false (oU r) κ) (rec97 : JX → Int32 → Option JX) (hrec97 : ∀ (X : JX) (v3 : Int32), rec97 X v3 = some r → J LY 4 κ X 97 [(0, .ref (jad κ (0))), (1, .int v1), (2, .int v2), (3, .int v3)] []) (hr : b_X11_goesOn_195 rec97 X v1 v2 v3 = some r) : J LY 4 κ X 195 [(0, .ref (jad κ (0))), (1, .int v1), (2, .int v2), (3, .int v3)] [] := by
  unfold b_X11_goesOn_195 at hr
  refine j_iincV K dX11_goesOn_195 (v := 1) 3 rfl rfl (by decide) hr (fun t12 hr => ?_)
  refine j_goto K dX11_goesOn_198 (tgt := 97) (by decide) ?_
  exact j_sub [1, 2, 3, 0] rfl (hrec97 _ _ hr)
theorem jb_X11_goesOn_150 {κ : JK} (K : jOk 4 cX11_goesOn RX11 none 1 κ) (X : JX) (v1 : Int32) (v2 : Int32) (v3 : Int32) {r : JX} (F : jFin LY false (oU r) κ) (rec97 : JX → Int32 → Option JX) (hrec97 : ∀ (X : JX) (v3 : Int32), rec97 X v3 = some r → J LY 4 κ X 97 [(0, .ref (jad κ (0))), (1, .int v1), (2, .int v2), (3, .int v3)] []) (hr : b_X11_goesOn_150 rec97 X v1 v2 v3 = some r) : J LY 4 κ X 150 [(0, .ref (jad κ (0))), (1, .int v1), (2, .int v2), (3, .int v3)] [] := by
  unfold b_X11_goesOn_150 at hr
  refine j_aload_n K dX11_goesOn_150 0 rfl ?_
  refine j_get K (v := .ref (jad κ (2))) fl_X11_13 rfl (Nat.le_of_ble_eq_true rfl) (by decide) rfl dX11_goesOn_151 ?_
  refine j_iload_n K dX11_goesOn_154 3 rfl ?_
  refine j_baload K (z := 60) rfl (Nat.le_of_ble_eq_true rfl) dX11_goesOn_155 hr (fun hr => ?_)
  refine j_if_eq K dX11_goesOn_156 (tgt := 195) (by decide) hr (fun hr => ?_) (fun hr => ?_)
  · exact j_sub [0, 1, 2, 3] rfl (jb_X11_goesOn_195 K _ _ _ _ F rec97 hrec97 hr)
  · refine j_aload_n K dX11_goesOn_159 0 rfl ?_
    refine j_iload_n K dX11_goesOn_160 1 rfl ?_
    refine j_iload_n K dX11_goesOn_161 3 rfl ?_
    refine j_vI2 K (ci := 11) hr (fun v h => c_X11_isWaiting X v1 v3 h) ml_X11_216 ⟨_, rfl, rfl⟩ rfl (Nat.le_of_ble_eq_true rfl) (by decide) rfl (by decide) (by decide) (Nat.le_of_ble_eq_true rfl) dX11_goesOn_162 (fun t13 h hr => ?_)
    refine j_if_ne K dX11_goesOn_165 (tgt := 195) (by decide) hr (fun hr => ?_) (fun hr => ?_)
    · exact j_sub [0, 1, 2, 3] rfl (jb_X11_goesOn_195 K _ _ _ _ F rec97 hrec97 hr)
    · refine j_aload_n K dX11_goesOn_168 0 rfl ?_
      refine j_get K (v := .ref (jad κ (17))) fl_X11_60 rfl (Nat.le_of_ble_eq_true rfl) (by decide) rfl dX11_goesOn_169 ?_
      refine j_bipush K dX11_goesOn_172 (v := 60) rfl ?_
      refine j_iload_n K dX11_goesOn_174 1 rfl ?_
      refine j_imul K dX11_goesOn_175 ?_
      refine j_aload_n K dX11_goesOn_176 0 rfl ?_
      refine j_get K (v := .ref (jad κ (16))) fl_X11_57 rfl (Nat.le_of_ble_eq_true rfl) (by decide) rfl dX11_goesOn_177 ?_
      refine j_iload_n K dX11_goesOn_180 1 rfl ?_
      refine j_iaload K (z := 4) rfl (Nat.le_of_ble_eq_true rfl) dX11_goesOn_181 hr (fun hr => ?_)
      refine j_iadd K dX11_goesOn_182 ?_
      refine j_iload_n K dX11_goesOn_183 3 rfl ?_
      refine j_iastoreV K (z := 240) rfl (Nat.le_of_ble_eq_true rfl) dX11_goesOn_184 hr (fun X14 hr => ?_)
      refine j_aload_n K dX11_goesOn_185 0 rfl ?_
      refine j_get K (v := .ref (jad κ (16))) fl_X11_57 rfl (Nat.le_of_ble_eq_true rfl) (by decide) rfl dX11_goesOn_186 ?_
      refine j_iload_n K dX11_goesOn_189 1 rfl ?_
      refine j_dup2 K dX11_goesOn_190 rfl rfl ?_
      refine j_iaload K (z := 4) rfl (Nat.le_of_ble_eq_true rfl) dX11_goesOn_191 hr (fun hr => ?_)
      refine j_iconst K dX11_goesOn_192 (v := 1) rfl ?_
      refine j_iadd K dX11_goesOn_193 ?_
      refine j_iastoreV K (z := 4) rfl (Nat.le_of_ble_eq_true rfl) dX11_goesOn_194 hr (fun X15 hr => ?_)
      exact j_sub [0, 1, 2, 3] rfl (jb_X11_goesOn_195 K _ _ _ _ F rec97 hrec97 hr)
theorem jl_X11_goesOn_97 {κ : JK} (K : jOk 4 cX11_goesOn RX11 none 1 κ) (v1 : Int32) (v2 : Int32) {r : JX} (F : jFin LY false (oU r) κ) : ∀ (X : JX) (v3 : Int32), l_X11_goesOn_97 v1 v2 X v3 = some r → J LY 4 κ X 97 [(0, .ref (jad κ (0))), (1, .int v1), (2, .int v2), (3, .int v3)] [] := by
  refine j_loop2 (P := fun X v3 => J LY 4 κ X 97 [(0, .ref (jad κ (0))), (1, .int v1), (2, .int v2), (3, .int v3)] []) (fun rec97 hrec97 X v3 hr => ?_) 1000
  unfold lb_X11_goesOn_97 at hr
  refine j_iload_n K dX11_goesOn_97 3 rfl ?_
  refine j_aload_n K dX11_goesOn_98 0 rfl ?_
  refine j_get K (v := .int (X (0) 2)) fl_X11_118 rfl (Nat.le_of_ble_eq_true rfl) (by decide) rfl dX11_goesOn_99 ?_
  refine j_icmp_ge K dX11_goesOn_102 (tgt := 201) (by decide) hr (fun hr => ?_) (fun hr => ?_)
  · exact j_sub [0, 1] rfl (jb_X11_goesOn_201 K _ _ F hr)
  · refine j_aload_n K dX11_goesOn_105 0 rfl ?_
    refine j_get K (v := .ref (jad κ (1))) fl_X11_7 rfl (Nat.le_of_ble_eq_true rfl) (by decide) rfl dX11_goesOn_106 ?_
    refine j_iload_n K dX11_goesOn_109 3 rfl ?_
    refine j_baload K (z := 60) rfl (Nat.le_of_ble_eq_true rfl) dX11_goesOn_110 hr (fun hr => ?_)
    refine j_if_eq K dX11_goesOn_111 (tgt := 195) (by decide) hr (fun hr => ?_) (fun hr => ?_)
    · exact j_sub [0, 1, 2, 3] rfl (jb_X11_goesOn_195 K _ _ _ _ F rec97 hrec97 hr)
    · refine j_aload_n K dX11_goesOn_114 0 rfl ?_
      refine j_get K (v := .ref (jad κ (3))) fl_X11_16 rfl (Nat.le_of_ble_eq_true rfl) (by decide) rfl dX11_goesOn_115 ?_
      refine j_iload_n K dX11_goesOn_118 3 rfl ?_
      refine j_iaload K (z := 60) rfl (Nat.le_of_ble_eq_true rfl) dX11_goesOn_119 hr (fun hr => ?_)
      refine j_iload_n K dX11_goesOn_120 2 rfl ?_
      refine j_icmp_ne K dX11_goesOn_121 (tgt := 195) (by decide) hr (fun hr => ?_) (fun hr => ?_)
      · exact j_sub [0, 1, 2, 3] rfl (jb_X11_goesOn_195 K _ _ _ _ F rec97 hrec97 hr)
      · refine j_aload_n K dX11_goesOn_124 0 rfl ?_
        refine j_get K (v := .ref (jad κ (18))) fl_X11_63 rfl (Nat.le_of_ble_eq_true rfl) (by decide) rfl dX11_goesOn_125 ?_
        refine j_bipush K dX11_goesOn_128 (v := 60) rfl ?_
        refine j_iload_n K dX11_goesOn_130 1 rfl ?_
        refine j_imul K dX11_goesOn_131 ?_
        refine j_iload_n K dX11_goesOn_132 3 rfl ?_
        refine j_iadd K dX11_goesOn_133 ?_
        refine j_iconst K dX11_goesOn_134 (v := 1) rfl ?_
        refine j_bastoreV K (z := 240) rfl (Nat.le_of_ble_eq_true rfl) dX11_goesOn_135 hr (fun X8 hr => ?_)
        refine j_aload_n K dX11_goesOn_136 0 rfl ?_
        refine j_iload_n K dX11_goesOn_137 3 rfl ?_
        refine j_vI1 K (ci := 11) hr (fun v h => c_X11_isKnown X8 v3 h) ml_X11_213 ⟨_, rfl, rfl⟩ rfl (Nat.le_of_ble_eq_true rfl) (by decide) rfl (by decide) (by decide) (Nat.le_of_ble_eq_true rfl) dX11_goesOn_138 (fun t9 h hr => ?_)
        refine j_if_ne K dX11_goesOn_141 (tgt := 150) (by decide) hr (fun hr => ?_) (fun hr => ?_)
        · exact j_sub [0, 1, 2, 3] rfl (jb_X11_goesOn_150 K _ _ _ _ F rec97 hrec97 hr)
        · refine j_aload_n K dX11_goesOn_144 0 rfl ?_
          refine j_iload_n K dX11_goesOn_145 3 rfl ?_
          refine j_iconst K dX11_goesOn_146 (v := 1) rfl ?_
          refine j_vU2 K (ci := 11) hr (fun v h => c_X11_adds X8 v3 (1) h) ml_X11_176 ⟨_, rfl, rfl⟩ rfl (Nat.le_of_ble_eq_true rfl) (by decide) rfl (by decide) (by decide) (Nat.le_of_ble_eq_true rfl) dX11_goesOn_147 (fun X10 h hr => ?_)
          exact j_sub [0, 1, 2, 3] rfl (jb_X11_goesOn_150 K _ _ _ _ F rec97 hrec97 hr)
theorem jb_X11_goesOn_95 {κ : JK} (K : jOk 4 cX11_goesOn RX11 none 1 κ) (X : JX) (v1 : Int32) (v2 : Int32) {r : JX} (F : jFin LY false (oU r) κ) (hr : b_X11_goesOn_95 X v1 v2 = some r) : J LY 4 κ X 95 [(0, .ref (jad κ (0))), (1, .int v1), (2, .int v2)] [] := by
  unfold b_X11_goesOn_95 at hr
  refine j_iconst K dX11_goesOn_95 (v := 0) rfl ?_
  refine j_istore_n K dX11_goesOn_96 (by decide) ?_
  exact j_sub [1, 2, 3, 0] rfl (jl_X11_goesOn_97 K _ _ F _ _ hr)
theorem jl_X11_goesOn_22 {κ : JK} (K : jOk 4 cX11_goesOn RX11 none 1 κ) (v1 : Int32) (v2 : Int32) {r : JX} (F : jFin LY false (oU r) κ) : ∀ (X : JX) (v3 : Int32), l_X11_goesOn_22 v1 v2 X v3 = some r → J LY 4 κ X 22 [(0, .ref (jad κ (0))), (1, .int v1), (2, .int v2), (3, .int v3)] [] := by
  refine j_loop2 (P := fun X v3 => J LY 4 κ X 22 [(0, .ref (jad κ (0))), (1, .int v1), (2, .int v2), (3, .int v3)] []) (fun rec22 hrec22 X v3 hr => ?_) 1000
  unfold lb_X11_goesOn_22 at hr
  refine j_iload_n K dX11_goesOn_22 3 rfl ?_
  refine j_aload_n K dX11_goesOn_23 0 rfl ?_
  refine j_get K (v := .ref (jad κ (16))) fl_X11_57 rfl (Nat.le_of_ble_eq_true rfl) (by decide) rfl dX11_goesOn_24 ?_
  refine j_iload_n K dX11_goesOn_27 1 rfl ?_
  refine j_iaload K (z := 4) rfl (Nat.le_of_ble_eq_true rfl) dX11_goesOn_28 hr (fun hr => ?_)
  refine j_icmp_ge K dX11_goesOn_29 (tgt := 62) (by decide) hr (fun hr => ?_) (fun hr => ?_)
  · refine j_aload_n K dX11_goesOn_62 0 rfl ?_
    refine j_get K (v := .ref (jad κ (1))) fl_X11_7 rfl (Nat.le_of_ble_eq_true rfl) (by decide) rfl dX11_goesOn_63 ?_
    refine j_iload_n K dX11_goesOn_66 2 rfl ?_
    refine j_baload K (z := 60) rfl (Nat.le_of_ble_eq_true rfl) dX11_goesOn_67 hr (fun hr => ?_)
    refine j_if_eq K dX11_goesOn_68 (tgt := 201) (by decide) hr (fun hr => ?_) (fun hr => ?_)
    · exact j_sub [0, 1] rfl (jb_X11_goesOn_201 K _ _ F hr)
    · refine j_iload_n K dX11_goesOn_71 2 rfl ?_
      refine j_aload_n K dX11_goesOn_72 0 rfl ?_
      refine j_get K (v := .ref (jad κ (10))) fl_X11_39 rfl (Nat.le_of_ble_eq_true rfl) (by decide) rfl dX11_goesOn_73 ?_
      refine j_iload_n K dX11_goesOn_76 1 rfl ?_
      refine j_iaload K (z := 4) rfl (Nat.le_of_ble_eq_true rfl) dX11_goesOn_77 hr (fun hr => ?_)
      refine j_icmp_eq K dX11_goesOn_78 (tgt := 95) (by decide) hr (fun hr => ?_) (fun hr => ?_)
      · exact j_sub [0, 1, 2] rfl (jb_X11_goesOn_95 K _ _ _ F hr)
      · refine j_aload_n K dX11_goesOn_81 0 rfl ?_
        refine j_iload_n K dX11_goesOn_82 2 rfl ?_
        refine j_aload_n K dX11_goesOn_83 0 rfl ?_
        refine j_get K (v := .ref (jad κ (10))) fl_X11_39 rfl (Nat.le_of_ble_eq_true rfl) (by decide) rfl dX11_goesOn_84 ?_
        refine j_iload_n K dX11_goesOn_87 1 rfl ?_
        refine j_iaload K (z := 4) rfl (Nat.le_of_ble_eq_true rfl) dX11_goesOn_88 hr (fun hr => ?_)
        refine j_vI2 K (ci := 11) hr (fun v h => c_X11_isBelow X v2 (X (10) v1.toNatClampNeg) h) ml_X11_135 ⟨_, rfl, rfl⟩ rfl (Nat.le_of_ble_eq_true rfl) (by decide) rfl (by decide) (by decide) (Nat.le_of_ble_eq_true rfl) dX11_goesOn_89 (fun t3 h hr => ?_)
        refine j_if_eq K dX11_goesOn_92 (tgt := 201) (by decide) hr (fun hr => ?_) (fun hr => ?_)
        · exact j_sub [0, 1] rfl (jb_X11_goesOn_201 K _ _ F hr)
        · exact j_sub [0, 1, 2] rfl (jb_X11_goesOn_95 K _ _ _ F hr)
  · refine j_aload_n K dX11_goesOn_32 0 rfl ?_
    refine j_get K (v := .ref (jad κ (17))) fl_X11_60 rfl (Nat.le_of_ble_eq_true rfl) (by decide) rfl dX11_goesOn_33 ?_
    refine j_bipush K dX11_goesOn_36 (v := 60) rfl ?_
    refine j_iload_n K dX11_goesOn_38 1 rfl ?_
    refine j_imul K dX11_goesOn_39 ?_
    refine j_iload_n K dX11_goesOn_40 3 rfl ?_
    refine j_iadd K dX11_goesOn_41 ?_
    refine j_aload_n K dX11_goesOn_42 0 rfl ?_
    refine j_get K (v := .ref (jad κ (17))) fl_X11_60 rfl (Nat.le_of_ble_eq_true rfl) (by decide) rfl dX11_goesOn_43 ?_
    refine j_bipush K dX11_goesOn_46 (v := 60) rfl ?_
    refine j_iload_n K dX11_goesOn_48 1 rfl ?_
    refine j_imul K dX11_goesOn_49 ?_
    refine j_iload_n K dX11_goesOn_50 3 rfl ?_
    refine j_iadd K dX11_goesOn_51 ?_
    refine j_iconst K dX11_goesOn_52 (v := 1) rfl ?_
    refine j_iadd K dX11_goesOn_53 ?_
    refine j_iaload K (z := 240) rfl (Nat.le_of_ble_eq_true rfl) dX11_goesOn_54 hr (fun hr => ?_)
    refine j_iastoreV K (z := 240) rfl (Nat.le_of_ble_eq_true rfl) dX11_goesOn_55 hr (fun X4 hr => ?_)
    refine j_iincV K dX11_goesOn_56 (v := 1) 3 rfl rfl (by decide) hr (fun t5 hr => ?_)
    refine j_goto K dX11_goesOn_59 (tgt := 22) (by decide) ?_
    exact j_sub [1, 2, 3, 0] rfl (hrec22 _ _ hr)
theorem jf_X11_goesOn {κ : JK} (K : jOk 4 cX11_goesOn RX11 none 1 κ) (X : JX) (v1 : Int32) {r : JX} (F : jFin LY false (oU r) κ) (hr : f_X11_goesOn X v1 = some r) : J LY 4 κ X 0 [(0, .ref (jad κ (0))), (1, .int v1)] [] := by
  unfold f_X11_goesOn at hr
  refine j_aload_n K dX11_goesOn_0 0 rfl ?_
  refine j_get K (v := .ref (jad κ (17))) fl_X11_60 rfl (Nat.le_of_ble_eq_true rfl) (by decide) rfl dX11_goesOn_1 ?_
  refine j_bipush K dX11_goesOn_4 (v := 60) rfl ?_
  refine j_iload_n K dX11_goesOn_6 1 rfl ?_
  refine j_imul K dX11_goesOn_7 ?_
  refine j_iaload K (z := 240) rfl (Nat.le_of_ble_eq_true rfl) dX11_goesOn_8 hr (fun hr => ?_)
  refine j_istoreV_n K dX11_goesOn_9 (by decide) hr (fun t1 hr => ?_)
  refine j_aload_n K dX11_goesOn_10 1 rfl ?_
  refine j_get K (v := .ref (jad κ (16))) fl_X11_57 rfl (Nat.le_of_ble_eq_true rfl) (by decide) rfl dX11_goesOn_11 ?_
  refine j_iload_n K dX11_goesOn_14 2 rfl ?_
  refine j_dup2 K dX11_goesOn_15 rfl rfl ?_
  refine j_iaload K (z := 4) rfl (Nat.le_of_ble_eq_true rfl) dX11_goesOn_16 hr (fun hr => ?_)
  refine j_iconst K dX11_goesOn_17 (v := 1) rfl ?_
  refine j_isub K dX11_goesOn_18 ?_
  refine j_iastoreV K (z := 4) rfl (Nat.le_of_ble_eq_true rfl) dX11_goesOn_19 hr (fun X2 hr => ?_)
  refine j_iconst K dX11_goesOn_20 (v := 0) rfl ?_
  refine j_istore_n K dX11_goesOn_21 (by decide) ?_
  exact j_sub [2, 3, 1, 0] rfl (jl_X11_goesOn_22 K _ _ F _ _ hr)
theorem c_X11_goesOn (X : JX) (v1 : Int32) {r : JX} (hr : f_X11_goesOn X v1 = some r) : Cal LY yX11_goesOn cX11_goesOn 4 none 1 (fun ad => [.ref (ad (0)), .int v1]) X (fun ad => oU r) :=
  Cal.of (own := RX11) (fun ad => [(0, .ref (ad (0))), (1, .int v1)]) (by decide) rfl (fun _ => Nat.le_of_ble_eq_true rfl) (fun _ => rfl) (fun κ K F => jf_X11_goesOn K X v1 F hr)
theorem jb_X11_does_61 {κ : JK} (K : jOk 6 cX11_does RX11 (some .int) 4 κ) (X : JX) (v2 : Int32) (v3 : Int32) (v4 : Int32) (v5 : Int32) {r : (Int32 × JX)} (F : jFin LY false (oM r) κ) (hr : b_X11_does_61 X v2 v3 v4 v5 = some r) : J LY 6 κ X 61 [(0, .ref (jad κ (0))), (2, .int v2), (3, .int v3), (4, .int v4), (5, .int v5)] [] := by
  unfold b_X11_does_61 at hr
  refine j_iload_n K dX11_does_61 1 rfl ?_
  refine j_iconst K dX11_does_62 (v := -1) rfl ?_
  refine j_icmp_eq K dX11_does_63 (tgt := 74) (by decide) hr (fun hr => ?_) (fun hr => ?_)
  · refine j_iload_n K dX11_does_74 2 rfl ?_
    refine j_iconst K dX11_does_75 (v := -1) rfl ?_
    refine j_icmp_eq K dX11_does_76 (tgt := 87) (by decide) hr (fun hr => ?_) (fun hr => ?_)
    · refine j_aload_n K dX11_does_87 0 rfl ?_
      refine j_iload K dX11_does_88 3 rfl ?_
      refine j_vU1 K (ci := 11) hr (fun v h => c_X11_goesOn X v4 h) ml_X11_238 ⟨_, rfl, rfl⟩ rfl (Nat.le_of_ble_eq_true rfl) (by decide) rfl (by decide) (by decide) (Nat.le_of_ble_eq_true rfl) dX11_does_90 (fun X5 h hr => ?_)
      refine j_iload K dX11_does_93 4 rfl ?_
      exact j_ireturn K dX11_does_95 rfl F hr rfl
    · refine j_aload_n K dX11_does_79 0 rfl ?_
      refine j_iload_n K dX11_does_80 2 rfl ?_
      refine j_vU1 K (ci := 11) hr (fun v h => c_X11_acts X v3 h) ml_X11_235 ⟨_, rfl, rfl⟩ rfl (Nat.le_of_ble_eq_true rfl) (by decide) rfl (by decide) (by decide) (Nat.le_of_ble_eq_true rfl) dX11_does_81 (fun X6 h hr => ?_)
      refine j_goto K dX11_does_84 (tgt := 93) (by decide) ?_
      refine j_iload K dX11_does_93 4 rfl ?_
      exact j_ireturn K dX11_does_95 rfl F hr rfl
  · refine j_aload_n K dX11_does_66 0 rfl ?_
    refine j_iload_n K dX11_does_67 1 rfl ?_
    refine j_vU1 K (ci := 11) hr (fun v h => c_X11_notes X v2 h) ml_X11_232 ⟨_, rfl, rfl⟩ rfl (Nat.le_of_ble_eq_true rfl) (by decide) rfl (by decide) (by decide) (Nat.le_of_ble_eq_true rfl) dX11_does_68 (fun X7 h hr => ?_)
    refine j_goto K dX11_does_71 (tgt := 93) (by decide) ?_
    refine j_iload K dX11_does_93 4 rfl ?_
    exact j_ireturn K dX11_does_95 rfl F hr rfl
theorem jb_X11_does_35 {κ : JK} (K : jOk 6 cX11_does RX11 (some .int) 4 κ) (X : JX) (v1 : Int32) (v2 : Int32) (v3 : Int32) (v4 : Int32) (s0 : Int32) {r : (Int32 × JX)} (F : jFin LY false (oM r) κ) (hr : b_X11_does_35 X v1 v2 v3 v4 s0 = some r) : J LY 6 κ X 35 [(0, .ref (jad κ (0))), (1, .int v1), (2, .int v2), (3, .int v3), (4, .int v4)] [.int s0] := by
  unfold b_X11_does_35 at hr
  refine j_istore K dX11_does_35 (by decide) ?_
  refine j_iload K dX11_does_37 0 rfl ?_
  refine j_iload_n K dX11_does_39 2 rfl ?_
  refine j_icmp_gt K dX11_does_40 (tgt := 59) (by decide) hr (fun hr => ?_) (fun hr => ?_)
  · refine j_iconst K dX11_does_59 (v := 0) rfl ?_
    exact j_ireturn K dX11_does_60 rfl F hr rfl
  · refine j_iload_n K dX11_does_43 3 rfl ?_
    refine j_iconst K dX11_does_44 (v := -1) rfl ?_
    refine j_icmp_ne K dX11_does_45 (tgt := 61) (by decide) hr (fun hr => ?_) (fun hr => ?_)
    · exact j_sub [1, 3, 4, 5, 0] rfl (jb_X11_does_61 K _ _ _ _ _ F hr)
    · refine j_iload_n K dX11_does_48 4 rfl ?_
      refine j_iconst K dX11_does_49 (v := -1) rfl ?_
      refine j_icmp_ne K dX11_does_50 (tgt := 61) (by decide) hr (fun hr => ?_) (fun hr => ?_)
      · exact j_sub [1, 3, 4, 5, 0] rfl (jb_X11_does_61 K _ _ _ _ _ F hr)
      · refine j_iload K dX11_does_53 5 rfl ?_
        refine j_iconst K dX11_does_55 (v := -1) rfl ?_
        refine j_icmp_ne K dX11_does_56 (tgt := 61) (by decide) hr (fun hr => ?_) (fun hr => ?_)
        · exact j_sub [1, 3, 4, 5, 0] rfl (jb_X11_does_61 K _ _ _ _ _ F hr)
        · refine j_iconst K dX11_does_59 (v := 0) rfl ?_
          exact j_ireturn K dX11_does_60 rfl F hr rfl
theorem jf_X11_does {κ : JK} (K : jOk 6 cX11_does RX11 (some .int) 4 κ) (X : JX) (v1 : Int32) {r : (Int32 × JX)} (F : jFin LY false (oM r) κ) (hr : f_X11_does X v1 = some r) : J LY 6 κ X 0 [(0, .ref (jad κ (0))), (1, .int v1)] [] := by
  unfold f_X11_does at hr
  refine j_aload_n K dX11_does_0 0 rfl ?_
  refine j_vI0 K (ci := 11) hr (fun v h => c_X11_firstNoticed X h) ml_X11_219 ⟨_, rfl, rfl⟩ rfl (Nat.le_of_ble_eq_true rfl) (by decide) rfl (by decide) (by decide) (Nat.le_of_ble_eq_true rfl) dX11_does_1 (fun t1 h hr => ?_)
  refine j_istore_n K dX11_does_4 (by decide) ?_
  refine j_aload_n K dX11_does_5 1 rfl ?_
  refine j_vI0 K (ci := 11) hr (fun v h => c_X11_firstAct X h) ml_X11_223 ⟨_, rfl, rfl⟩ rfl (Nat.le_of_ble_eq_true rfl) (by decide) rfl (by decide) (by decide) (Nat.le_of_ble_eq_true rfl) dX11_does_6 (fun t2 h hr => ?_)
  refine j_istore_n K dX11_does_9 (by decide) ?_
  refine j_aload_n K dX11_does_10 2 rfl ?_
  refine j_vI0 K (ci := 11) hr (fun v h => c_X11_firstCrawl X h) ml_X11_226 ⟨_, rfl, rfl⟩ rfl (Nat.le_of_ble_eq_true rfl) (by decide) rfl (by decide) (by decide) (Nat.le_of_ble_eq_true rfl) dX11_does_11 (fun t3 h hr => ?_)
  refine j_istore K dX11_does_14 (by decide) ?_
  refine j_iload_n K dX11_does_16 2 rfl ?_
  refine j_iconst K dX11_does_17 (v := -1) rfl ?_
  refine j_icmp_ne K dX11_does_18 (tgt := 34) (by decide) hr (fun hr => ?_) (fun hr => ?_)
  · refine j_iconst K dX11_does_34 (v := 1) rfl ?_
    exact j_sub [3, 4, 2, 1, 0] rfl (jb_X11_does_35 K _ _ _ _ _ _ F hr)
  · refine j_iload_n K dX11_does_21 1 rfl ?_
    refine j_iconst K dX11_does_22 (v := -1) rfl ?_
    refine j_icmp_eq K dX11_does_23 (tgt := 34) (by decide) hr (fun hr => ?_) (fun hr => ?_)
    · refine j_iconst K dX11_does_34 (v := 1) rfl ?_
      exact j_sub [3, 4, 2, 1, 0] rfl (jb_X11_does_35 K _ _ _ _ _ _ F hr)
    · refine j_aload_n K dX11_does_26 3 rfl ?_
      refine j_iload_n K dX11_does_27 1 rfl ?_
      refine j_vI1 K (ci := 11) hr (fun v h => c_X11_cost X t2 h) ml_X11_229 ⟨_, rfl, rfl⟩ rfl (Nat.le_of_ble_eq_true rfl) (by decide) rfl (by decide) (by decide) (Nat.le_of_ble_eq_true rfl) dX11_does_28 (fun t4 h hr => ?_)
      refine j_goto K dX11_does_31 (tgt := 35) (by decide) ?_
      exact j_sub [3, 4, 2, 1, 0] rfl (jb_X11_does_35 K _ _ _ _ _ _ F hr)
theorem c_X11_does (X : JX) (v1 : Int32) {r : (Int32 × JX)} (hr : f_X11_does X v1 = some r) : Cal LY yX11_does cX11_does 6 (some .int) 4 (fun ad => [.ref (ad (0)), .int v1]) X (fun ad => oM r) :=
  Cal.of (own := RX11) (fun ad => [(0, .ref (ad (0))), (1, .int v1)]) (by decide) rfl (fun _ => Nat.le_of_ble_eq_true rfl) (fun _ => rfl) (fun κ K F => jf_X11_does K X v1 F hr)
theorem jl_X11_drops_192 {κ : JK} (K : jOk 4 cX11_drops RX11 none 0 κ) (v2 : Int32) {r : JX} (F : jFin LY false (oU r) κ) (rec12 : JX → Int32 → Option JX) (hrec12 : ∀ (X : JX) (v2 : Int32), rec12 X v2 = some r → J LY 4 κ X 12 [(0, .ref (jad κ (0))), (2, .int v2)] []) : ∀ (X : JX) (v3 : Int32), l_X11_drops_192 rec12 v2 X v3 = some r → J LY 4 κ X 192 [(0, .ref (jad κ (0))), (2, .int v2), (3, .int v3)] [] := by
  refine j_loop2 (P := fun X v3 => J LY 4 κ X 192 [(0, .ref (jad κ (0))), (2, .int v2), (3, .int v3)] []) (fun rec192 hrec192 X v3 hr => ?_) 1000
  unfold lb_X11_drops_192 at hr
  refine j_iload_n K dX11_drops_192 2 rfl ?_
  refine j_bipush K dX11_drops_193 (v := 60) rfl ?_
  refine j_icmp_ge K dX11_drops_195 (tgt := 228) (by decide) hr (fun hr => ?_) (fun hr => ?_)
  · refine j_iincV K dX11_drops_228 (v := 1) 1 rfl rfl (by decide) hr (fun t12 hr => ?_)
    refine j_goto K dX11_drops_231 (tgt := 12) (by decide) ?_
    exact j_sub [1, 0] rfl (hrec12 _ _ hr)
  · refine j_aload_n K dX11_drops_198 0 rfl ?_
    refine j_get K (v := .ref (jad κ (18))) fl_X11_63 rfl (Nat.le_of_ble_eq_true rfl) (by decide) rfl dX11_drops_199 ?_
    refine j_bipush K dX11_drops_202 (v := 60) rfl ?_
    refine j_iload_n K dX11_drops_204 1 rfl ?_
    refine j_imul K dX11_drops_205 ?_
    refine j_iload_n K dX11_drops_206 2 rfl ?_
    refine j_iadd K dX11_drops_207 ?_
    refine j_aload_n K dX11_drops_208 0 rfl ?_
    refine j_get K (v := .ref (jad κ (18))) fl_X11_63 rfl (Nat.le_of_ble_eq_true rfl) (by decide) rfl dX11_drops_209 ?_
    refine j_bipush K dX11_drops_212 (v := 60) rfl ?_
    refine j_iload_n K dX11_drops_214 1 rfl ?_
    refine j_iconst K dX11_drops_215 (v := 1) rfl ?_
    refine j_iadd K dX11_drops_216 ?_
    refine j_imul K dX11_drops_217 ?_
    refine j_iload_n K dX11_drops_218 2 rfl ?_
    refine j_iadd K dX11_drops_219 ?_
    refine j_baload K (z := 240) rfl (Nat.le_of_ble_eq_true rfl) dX11_drops_220 hr (fun hr => ?_)
    refine j_bastoreV K (z := 240) rfl (Nat.le_of_ble_eq_true rfl) dX11_drops_221 hr (fun X13 hr => ?_)
    refine j_iincV K dX11_drops_222 (v := 1) 2 rfl rfl (by decide) hr (fun t14 hr => ?_)
    refine j_goto K dX11_drops_225 (tgt := 192) (by decide) ?_
    exact j_sub [1, 2, 0] rfl (hrec192 _ _ hr)
theorem jl_X11_drops_154 {κ : JK} (K : jOk 4 cX11_drops RX11 none 0 κ) (v2 : Int32) {r : JX} (F : jFin LY false (oU r) κ) (rec12 : JX → Int32 → Option JX) (hrec12 : ∀ (X : JX) (v2 : Int32), rec12 X v2 = some r → J LY 4 κ X 12 [(0, .ref (jad κ (0))), (2, .int v2)] []) : ∀ (X : JX) (v3 : Int32), l_X11_drops_154 rec12 v2 X v3 = some r → J LY 4 κ X 154 [(0, .ref (jad κ (0))), (2, .int v2), (3, .int v3)] [] := by
  refine j_loop2 (P := fun X v3 => J LY 4 κ X 154 [(0, .ref (jad κ (0))), (2, .int v2), (3, .int v3)] []) (fun rec154 hrec154 X v3 hr => ?_) 1000
  unfold lb_X11_drops_154 at hr
  refine j_iload_n K dX11_drops_154 2 rfl ?_
  refine j_bipush K dX11_drops_155 (v := 60) rfl ?_
  refine j_icmp_ge K dX11_drops_157 (tgt := 190) (by decide) hr (fun hr => ?_) (fun hr => ?_)
  · refine j_iconst K dX11_drops_190 (v := 0) rfl ?_
    refine j_istore_n K dX11_drops_191 (by decide) ?_
    exact j_sub [1, 2, 0] rfl (jl_X11_drops_192 K _ F rec12 hrec12 _ _ hr)
  · refine j_aload_n K dX11_drops_160 0 rfl ?_
    refine j_get K (v := .ref (jad κ (17))) fl_X11_60 rfl (Nat.le_of_ble_eq_true rfl) (by decide) rfl dX11_drops_161 ?_
    refine j_bipush K dX11_drops_164 (v := 60) rfl ?_
    refine j_iload_n K dX11_drops_166 1 rfl ?_
    refine j_imul K dX11_drops_167 ?_
    refine j_iload_n K dX11_drops_168 2 rfl ?_
    refine j_iadd K dX11_drops_169 ?_
    refine j_aload_n K dX11_drops_170 0 rfl ?_
    refine j_get K (v := .ref (jad κ (17))) fl_X11_60 rfl (Nat.le_of_ble_eq_true rfl) (by decide) rfl dX11_drops_171 ?_
    refine j_bipush K dX11_drops_174 (v := 60) rfl ?_
    refine j_iload_n K dX11_drops_176 1 rfl ?_
    refine j_iconst K dX11_drops_177 (v := 1) rfl ?_
    refine j_iadd K dX11_drops_178 ?_
    refine j_imul K dX11_drops_179 ?_
    refine j_iload_n K dX11_drops_180 2 rfl ?_
    refine j_iadd K dX11_drops_181 ?_
    refine j_iaload K (z := 240) rfl (Nat.le_of_ble_eq_true rfl) dX11_drops_182 hr (fun hr => ?_)
    refine j_iastoreV K (z := 240) rfl (Nat.le_of_ble_eq_true rfl) dX11_drops_183 hr (fun X10 hr => ?_)
    refine j_iincV K dX11_drops_184 (v := 1) 2 rfl rfl (by decide) hr (fun t11 hr => ?_)
    refine j_goto K dX11_drops_187 (tgt := 154) (by decide) ?_
    exact j_sub [1, 2, 0] rfl (hrec154 _ _ hr)
theorem jl_X11_drops_92 {κ : JK} (K : jOk 4 cX11_drops RX11 none 0 κ) (v2 : Int32) {r : JX} (F : jFin LY false (oU r) κ) (rec12 : JX → Int32 → Option JX) (hrec12 : ∀ (X : JX) (v2 : Int32), rec12 X v2 = some r → J LY 4 κ X 12 [(0, .ref (jad κ (0))), (2, .int v2)] []) : ∀ (X : JX) (v3 : Int32), l_X11_drops_92 rec12 v2 X v3 = some r → J LY 4 κ X 92 [(0, .ref (jad κ (0))), (2, .int v2), (3, .int v3)] [] := by
  refine j_loop2 (P := fun X v3 => J LY 4 κ X 92 [(0, .ref (jad κ (0))), (2, .int v2), (3, .int v3)] []) (fun rec92 hrec92 X v3 hr => ?_) 1000
  unfold lb_X11_drops_92 at hr
  refine j_iload_n K dX11_drops_92 2 rfl ?_
  refine j_bipush K dX11_drops_93 (v := 8) rfl ?_
  refine j_icmp_ge K dX11_drops_95 (tgt := 152) (by decide) hr (fun hr => ?_) (fun hr => ?_)
  · refine j_iconst K dX11_drops_152 (v := 0) rfl ?_
    refine j_istore_n K dX11_drops_153 (by decide) ?_
    exact j_sub [1, 2, 0] rfl (jl_X11_drops_154 K _ F rec12 hrec12 _ _ hr)
  · refine j_aload_n K dX11_drops_98 0 rfl ?_
    refine j_get K (v := .ref (jad κ (12))) fl_X11_45 rfl (Nat.le_of_ble_eq_true rfl) (by decide) rfl dX11_drops_99 ?_
    refine j_bipush K dX11_drops_102 (v := 8) rfl ?_
    refine j_iload_n K dX11_drops_104 1 rfl ?_
    refine j_imul K dX11_drops_105 ?_
    refine j_iload_n K dX11_drops_106 2 rfl ?_
    refine j_iadd K dX11_drops_107 ?_
    refine j_aload_n K dX11_drops_108 0 rfl ?_
    refine j_get K (v := .ref (jad κ (12))) fl_X11_45 rfl (Nat.le_of_ble_eq_true rfl) (by decide) rfl dX11_drops_109 ?_
    refine j_bipush K dX11_drops_112 (v := 8) rfl ?_
    refine j_iload_n K dX11_drops_114 1 rfl ?_
    refine j_iconst K dX11_drops_115 (v := 1) rfl ?_
    refine j_iadd K dX11_drops_116 ?_
    refine j_imul K dX11_drops_117 ?_
    refine j_iload_n K dX11_drops_118 2 rfl ?_
    refine j_iadd K dX11_drops_119 ?_
    refine j_iaload K (z := 32) rfl (Nat.le_of_ble_eq_true rfl) dX11_drops_120 hr (fun hr => ?_)
    refine j_iastoreV K (z := 32) rfl (Nat.le_of_ble_eq_true rfl) dX11_drops_121 hr (fun X7 hr => ?_)
    refine j_aload_n K dX11_drops_122 0 rfl ?_
    refine j_get K (v := .ref (jad κ (13))) fl_X11_48 rfl (Nat.le_of_ble_eq_true rfl) (by decide) rfl dX11_drops_123 ?_
    refine j_bipush K dX11_drops_126 (v := 8) rfl ?_
    refine j_iload_n K dX11_drops_128 1 rfl ?_
    refine j_imul K dX11_drops_129 ?_
    refine j_iload_n K dX11_drops_130 2 rfl ?_
    refine j_iadd K dX11_drops_131 ?_
    refine j_aload_n K dX11_drops_132 0 rfl ?_
    refine j_get K (v := .ref (jad κ (13))) fl_X11_48 rfl (Nat.le_of_ble_eq_true rfl) (by decide) rfl dX11_drops_133 ?_
    refine j_bipush K dX11_drops_136 (v := 8) rfl ?_
    refine j_iload_n K dX11_drops_138 1 rfl ?_
    refine j_iconst K dX11_drops_139 (v := 1) rfl ?_
    refine j_iadd K dX11_drops_140 ?_
    refine j_imul K dX11_drops_141 ?_
    refine j_iload_n K dX11_drops_142 2 rfl ?_
    refine j_iadd K dX11_drops_143 ?_
    refine j_iaload K (z := 32) rfl (Nat.le_of_ble_eq_true rfl) dX11_drops_144 hr (fun hr => ?_)
    refine j_iastoreV K (z := 32) rfl (Nat.le_of_ble_eq_true rfl) dX11_drops_145 hr (fun X8 hr => ?_)
    refine j_iincV K dX11_drops_146 (v := 1) 2 rfl rfl (by decide) hr (fun t9 hr => ?_)
    refine j_goto K dX11_drops_149 (tgt := 92) (by decide) ?_
    exact j_sub [1, 2, 0] rfl (hrec92 _ _ hr)
theorem jl_X11_drops_12 {κ : JK} (K : jOk 4 cX11_drops RX11 none 0 κ) {r : JX} (F : jFin LY false (oU r) κ) : ∀ (X : JX) (v2 : Int32), l_X11_drops_12 X v2 = some r → J LY 4 κ X 12 [(0, .ref (jad κ (0))), (2, .int v2)] [] := by
  refine j_loop2 (P := fun X v2 => J LY 4 κ X 12 [(0, .ref (jad κ (0))), (2, .int v2)] []) (fun rec12 hrec12 X v2 hr => ?_) 1000
  unfold lb_X11_drops_12 at hr
  refine j_iload_n K dX11_drops_12 1 rfl ?_
  refine j_aload_n K dX11_drops_13 0 rfl ?_
  refine j_get K (v := .int (X (0) 12)) fl_X11_132 rfl (Nat.le_of_ble_eq_true rfl) (by decide) rfl dX11_drops_14 ?_
  refine j_icmp_ge K dX11_drops_17 (tgt := 234) (by decide) hr (fun hr => ?_) (fun hr => ?_)
  · exact j_return K dX11_drops_234 rfl F hr rfl
  · refine j_aload_n K dX11_drops_20 0 rfl ?_
    refine j_get K (v := .ref (jad κ (10))) fl_X11_39 rfl (Nat.le_of_ble_eq_true rfl) (by decide) rfl dX11_drops_21 ?_
    refine j_iload_n K dX11_drops_24 1 rfl ?_
    refine j_aload_n K dX11_drops_25 0 rfl ?_
    refine j_get K (v := .ref (jad κ (10))) fl_X11_39 rfl (Nat.le_of_ble_eq_true rfl) (by decide) rfl dX11_drops_26 ?_
    refine j_iload_n K dX11_drops_29 1 rfl ?_
    refine j_iconst K dX11_drops_30 (v := 1) rfl ?_
    refine j_iadd K dX11_drops_31 ?_
    refine j_iaload K (z := 4) rfl (Nat.le_of_ble_eq_true rfl) dX11_drops_32 hr (fun hr => ?_)
    refine j_iastoreV K (z := 4) rfl (Nat.le_of_ble_eq_true rfl) dX11_drops_33 hr (fun X2 hr => ?_)
    refine j_aload_n K dX11_drops_34 0 rfl ?_
    refine j_get K (v := .ref (jad κ (11))) fl_X11_42 rfl (Nat.le_of_ble_eq_true rfl) (by decide) rfl dX11_drops_35 ?_
    refine j_iload_n K dX11_drops_38 1 rfl ?_
    refine j_aload_n K dX11_drops_39 0 rfl ?_
    refine j_get K (v := .ref (jad κ (11))) fl_X11_42 rfl (Nat.le_of_ble_eq_true rfl) (by decide) rfl dX11_drops_40 ?_
    refine j_iload_n K dX11_drops_43 1 rfl ?_
    refine j_iconst K dX11_drops_44 (v := 1) rfl ?_
    refine j_iadd K dX11_drops_45 ?_
    refine j_iaload K (z := 4) rfl (Nat.le_of_ble_eq_true rfl) dX11_drops_46 hr (fun hr => ?_)
    refine j_iastoreV K (z := 4) rfl (Nat.le_of_ble_eq_true rfl) dX11_drops_47 hr (fun X3 hr => ?_)
    refine j_aload_n K dX11_drops_48 0 rfl ?_
    refine j_get K (v := .ref (jad κ (14))) fl_X11_51 rfl (Nat.le_of_ble_eq_true rfl) (by decide) rfl dX11_drops_49 ?_
    refine j_iload_n K dX11_drops_52 1 rfl ?_
    refine j_aload_n K dX11_drops_53 0 rfl ?_
    refine j_get K (v := .ref (jad κ (14))) fl_X11_51 rfl (Nat.le_of_ble_eq_true rfl) (by decide) rfl dX11_drops_54 ?_
    refine j_iload_n K dX11_drops_57 1 rfl ?_
    refine j_iconst K dX11_drops_58 (v := 1) rfl ?_
    refine j_iadd K dX11_drops_59 ?_
    refine j_baload K (z := 4) rfl (Nat.le_of_ble_eq_true rfl) dX11_drops_60 hr (fun hr => ?_)
    refine j_bastoreV K (z := 4) rfl (Nat.le_of_ble_eq_true rfl) dX11_drops_61 hr (fun X4 hr => ?_)
    refine j_aload_n K dX11_drops_62 0 rfl ?_
    refine j_get K (v := .ref (jad κ (15))) fl_X11_54 rfl (Nat.le_of_ble_eq_true rfl) (by decide) rfl dX11_drops_63 ?_
    refine j_iload_n K dX11_drops_66 1 rfl ?_
    refine j_aload_n K dX11_drops_67 0 rfl ?_
    refine j_get K (v := .ref (jad κ (15))) fl_X11_54 rfl (Nat.le_of_ble_eq_true rfl) (by decide) rfl dX11_drops_68 ?_
    refine j_iload_n K dX11_drops_71 1 rfl ?_
    refine j_iconst K dX11_drops_72 (v := 1) rfl ?_
    refine j_iadd K dX11_drops_73 ?_
    refine j_baload K (z := 4) rfl (Nat.le_of_ble_eq_true rfl) dX11_drops_74 hr (fun hr => ?_)
    refine j_bastoreV K (z := 4) rfl (Nat.le_of_ble_eq_true rfl) dX11_drops_75 hr (fun X5 hr => ?_)
    refine j_aload_n K dX11_drops_76 0 rfl ?_
    refine j_get K (v := .ref (jad κ (16))) fl_X11_57 rfl (Nat.le_of_ble_eq_true rfl) (by decide) rfl dX11_drops_77 ?_
    refine j_iload_n K dX11_drops_80 1 rfl ?_
    refine j_aload_n K dX11_drops_81 0 rfl ?_
    refine j_get K (v := .ref (jad κ (16))) fl_X11_57 rfl (Nat.le_of_ble_eq_true rfl) (by decide) rfl dX11_drops_82 ?_
    refine j_iload_n K dX11_drops_85 1 rfl ?_
    refine j_iconst K dX11_drops_86 (v := 1) rfl ?_
    refine j_iadd K dX11_drops_87 ?_
    refine j_iaload K (z := 4) rfl (Nat.le_of_ble_eq_true rfl) dX11_drops_88 hr (fun hr => ?_)
    refine j_iastoreV K (z := 4) rfl (Nat.le_of_ble_eq_true rfl) dX11_drops_89 hr (fun X6 hr => ?_)
    refine j_iconst K dX11_drops_90 (v := 0) rfl ?_
    refine j_istore_n K dX11_drops_91 (by decide) ?_
    exact j_sub [1, 2, 0] rfl (jl_X11_drops_92 K _ F rec12 hrec12 _ _ hr)
theorem jf_X11_drops {κ : JK} (K : jOk 4 cX11_drops RX11 none 0 κ) (X : JX) (v1 : Int32) {r : JX} (F : jFin LY false (oU r) κ) (hr : f_X11_drops X v1 = some r) : J LY 4 κ X 0 [(0, .ref (jad κ (0))), (1, .int v1)] [] := by
  unfold f_X11_drops at hr
  refine j_aload_n K dX11_drops_0 0 rfl ?_
  refine j_dup K dX11_drops_1 rfl ?_
  refine j_get K (v := .int (X (0) 12)) fl_X11_132 rfl (Nat.le_of_ble_eq_true rfl) (by decide) rfl dX11_drops_2 ?_
  refine j_iconst K dX11_drops_5 (v := 1) rfl ?_
  refine j_isub K dX11_drops_6 ?_
  refine j_putiV K fp_X11_132 rfl (Nat.le_of_ble_eq_true rfl) (by decide) (fun _ => Nat.le_of_ble_eq_true rfl) (fun _ => rfl) dX11_drops_7 hr (fun X1 hr => ?_)
  refine j_iload_n K dX11_drops_10 1 rfl ?_
  refine j_istore_n K dX11_drops_11 (by decide) ?_
  exact j_sub [1, 0] rfl (jl_X11_drops_12 K F _ _ hr)
theorem c_X11_drops (X : JX) (v1 : Int32) {r : JX} (hr : f_X11_drops X v1 = some r) : Cal LY yX11_drops cX11_drops 4 none 0 (fun ad => [.ref (ad (0)), .int v1]) X (fun ad => oU r) :=
  Cal.of (own := RX11) (fun ad => [(0, .ref (ad (0))), (1, .int v1)]) (by decide) rfl (fun _ => Nat.le_of_ble_eq_true rfl) (fun _ => rfl) (fun κ K F => jf_X11_drops K X v1 F hr)
theorem jb_X11_edition_20 {κ : JK} (K : jOk 2 cX11_edition RX11 (some .int) 1 κ) (X : JX) (v1 : Int32) (s0 : Int32) {r : (Int32 × JX)} (F : jFin LY false (oM r) κ) (hr : b_X11_edition_20 X v1 s0 = some r) : J LY 2 κ X 20 [(0, .ref (jad κ (0))), (1, .int v1)] [.int s0, .ref (jad κ (0))] := by
  unfold b_X11_edition_20 at hr
  refine j_putiV K fp_X11_121 rfl (Nat.le_of_ble_eq_true rfl) (by decide) (fun _ => Nat.le_of_ble_eq_true rfl) (fun _ => rfl) dX11_edition_20 hr (fun X2 hr => ?_)
  refine j_aload_n K dX11_edition_23 0 rfl ?_
  refine j_get K (v := .int (X2 (0) 0)) fl_X11_121 rfl (Nat.le_of_ble_eq_true rfl) (by decide) rfl dX11_edition_24 ?_
  refine j_if_le K dX11_edition_27 (tgt := 34) (by decide) hr (fun hr => ?_) (fun hr => ?_)
  · refine j_aload_n K dX11_edition_34 0 rfl ?_
    refine j_get K (v := .ref (jad κ (19))) fl_X11_66 rfl (Nat.le_of_ble_eq_true rfl) (by decide) rfl dX11_edition_35 ?_
    refine j_iload_n K dX11_edition_38 1 rfl ?_
    refine j_baload K (z := 60) rfl (Nat.le_of_ble_eq_true rfl) dX11_edition_39 hr (fun hr => ?_)
    refine j_if_eq K dX11_edition_40 (tgt := 52) (by decide) hr (fun hr => ?_) (fun hr => ?_)
    · refine j_iconst K dX11_edition_52 (v := -1) rfl ?_
      exact j_ireturn K dX11_edition_53 rfl F hr rfl
    · refine j_aload_n K dX11_edition_43 0 rfl ?_
      refine j_get K (v := .ref (jad κ (22))) fl_X11_75 rfl (Nat.le_of_ble_eq_true rfl) (by decide) rfl dX11_edition_44 ?_
      refine j_iload_n K dX11_edition_47 1 rfl ?_
      refine j_iaload K (z := 60) rfl (Nat.le_of_ble_eq_true rfl) dX11_edition_48 hr (fun hr => ?_)
      refine j_goto K dX11_edition_49 (tgt := 53) (by decide) ?_
      exact j_ireturn K dX11_edition_53 rfl F hr rfl
  · refine j_iconst K dX11_edition_30 (v := 0) rfl ?_
    refine j_goto K dX11_edition_31 (tgt := 53) (by decide) ?_
    exact j_ireturn K dX11_edition_53 rfl F hr rfl
theorem jf_X11_edition {κ : JK} (K : jOk 2 cX11_edition RX11 (some .int) 1 κ) (X : JX) (v1 : Int32) {r : (Int32 × JX)} (F : jFin LY false (oM r) κ) (hr : f_X11_edition X v1 = some r) : J LY 2 κ X 0 [(0, .ref (jad κ (0))), (1, .int v1)] [] := by
  unfold f_X11_edition at hr
  refine j_aload_n K dX11_edition_0 0 rfl ?_
  refine j_iload_n K dX11_edition_1 1 rfl ?_
  refine j_iconst K dX11_edition_2 (v := 0) rfl ?_
  refine j_aload_n K dX11_edition_3 0 rfl ?_
  refine j_get K (v := .int (X (0) 2)) fl_X11_118 rfl (Nat.le_of_ble_eq_true rfl) (by decide) rfl dX11_edition_4 ?_
  refine j_iconst K dX11_edition_7 (v := 1) rfl ?_
  refine j_isub K dX11_edition_8 ?_
  refine j_sI3 K hr (fun v h => c_X11_in X v1 (0) ((X (0) 2) - (1)) h) ms_X11_124 rfl (by decide) (by decide) (Nat.le_of_ble_eq_true rfl) dX11_edition_9 (fun t1 h hr => ?_)
  refine j_if_eq K dX11_edition_12 (tgt := 19) (by decide) hr (fun hr => ?_) (fun hr => ?_)
  · refine j_iconst K dX11_edition_19 (v := 1) rfl ?_
    exact j_sub [0, 1] rfl (jb_X11_edition_20 K _ _ _ F hr)
  · refine j_iconst K dX11_edition_15 (v := 0) rfl ?_
    refine j_goto K dX11_edition_16 (tgt := 20) (by decide) ?_
    exact j_sub [0, 1] rfl (jb_X11_edition_20 K _ _ _ F hr)
theorem c_X11_edition (X : JX) (v1 : Int32) {r : (Int32 × JX)} (hr : f_X11_edition X v1 = some r) : Cal LY yX11_edition cX11_edition 2 (some .int) 1 (fun ad => [.ref (ad (0)), .int v1]) X (fun ad => oM r) :=
  Cal.of (own := RX11) (fun ad => [(0, .ref (ad (0))), (1, .int v1)]) (by decide) rfl (fun _ => Nat.le_of_ble_eq_true rfl) (fun _ => rfl) (fun κ K F => jf_X11_edition K X v1 F hr)
theorem jb_X11_empty_27 {κ : JK} (K : jOk 3 cX11_empty RX11 (some .int) 3 κ) (X : JX) (v1 : Int32) (s0 : Int32) {r : (Int32 × JX)} (F : jFin LY false (oM r) κ) (hr : b_X11_empty_27 X v1 s0 = some r) : J LY 3 κ X 27 [(0, .ref (jad κ (0))), (1, .int v1)] [.int s0, .ref (jad κ (0))] := by
  unfold b_X11_empty_27 at hr
  refine j_putiV K fp_X11_121 rfl (Nat.le_of_ble_eq_true rfl) (by decide) (fun _ => Nat.le_of_ble_eq_true rfl) (fun _ => rfl) dX11_empty_27 hr (fun X2 hr => ?_)
  refine j_aload_n K dX11_empty_30 0 rfl ?_
  refine j_get K (v := .int (X2 (0) 0)) fl_X11_121 rfl (Nat.le_of_ble_eq_true rfl) (by decide) rfl dX11_empty_31 ?_
  refine j_if_le K dX11_empty_34 (tgt := 39) (by decide) hr (fun hr => ?_) (fun hr => ?_)
  · refine j_aload_n K dX11_empty_39 0 rfl ?_
    refine j_get K (v := .ref (jad κ (6))) fl_X11_27 rfl (Nat.le_of_ble_eq_true rfl) (by decide) rfl dX11_empty_40 ?_
    refine j_iload_n K dX11_empty_43 1 rfl ?_
    refine j_iaload K (z := 60) rfl (Nat.le_of_ble_eq_true rfl) dX11_empty_44 hr (fun hr => ?_)
    refine j_istoreV_n K dX11_empty_45 (by decide) hr (fun t3 hr => ?_)
    refine j_aload_n K dX11_empty_46 1 rfl ?_
    refine j_get K (v := .ref (jad κ (6))) fl_X11_27 rfl (Nat.le_of_ble_eq_true rfl) (by decide) rfl dX11_empty_47 ?_
    refine j_iload_n K dX11_empty_50 2 rfl ?_
    refine j_iconst K dX11_empty_51 (v := 0) rfl ?_
    refine j_iastoreV K (z := 60) rfl (Nat.le_of_ble_eq_true rfl) dX11_empty_52 hr (fun X4 hr => ?_)
    refine j_aload_n K dX11_empty_53 1 rfl ?_
    refine j_get K (v := .ref (jad κ (5))) fl_X11_24 rfl (Nat.le_of_ble_eq_true rfl) (by decide) rfl dX11_empty_54 ?_
    refine j_iload_n K dX11_empty_57 2 rfl ?_
    refine j_dup2 K dX11_empty_58 rfl rfl ?_
    refine j_iaload K (z := 60) rfl (Nat.le_of_ble_eq_true rfl) dX11_empty_59 hr (fun hr => ?_)
    refine j_iconst K dX11_empty_60 (v := 1) rfl ?_
    refine j_iadd K dX11_empty_61 ?_
    refine j_iastoreV K (z := 60) rfl (Nat.le_of_ble_eq_true rfl) dX11_empty_62 hr (fun X5 hr => ?_)
    refine j_aload_n K dX11_empty_63 1 rfl ?_
    refine j_aload_n K dX11_empty_64 1 rfl ?_
    refine j_iload_n K dX11_empty_65 2 rfl ?_
    refine j_vI1 K (ci := 11) hr (fun v h => c_X11_over X5 v1 h) ml_X11_150 ⟨_, rfl, rfl⟩ rfl (Nat.le_of_ble_eq_true rfl) (by decide) rfl (by decide) (by decide) (Nat.le_of_ble_eq_true rfl) dX11_empty_66 (fun t6 h hr => ?_)
    refine j_iconst K dX11_empty_69 (v := 1) rfl ?_
    refine j_iload_n K dX11_empty_70 2 rfl ?_
    refine j_vU3 K (ci := 11) hr (fun v h => c_X11_comes X5 t6 (1) v1 h) ml_X11_153 ⟨_, rfl, rfl⟩ rfl (Nat.le_of_ble_eq_true rfl) (by decide) rfl (by decide) (by decide) (Nat.le_of_ble_eq_true rfl) dX11_empty_71 (fun X7 h hr => ?_)
    refine j_iload_n K dX11_empty_74 0 rfl ?_
    exact j_ireturn K dX11_empty_75 rfl F hr rfl
  · refine j_iconst K dX11_empty_37 (v := 0) rfl ?_
    exact j_ireturn K dX11_empty_38 rfl F hr rfl
theorem jf_X11_empty {κ : JK} (K : jOk 3 cX11_empty RX11 (some .int) 3 κ) (X : JX) (v1 : Int32) {r : (Int32 × JX)} (F : jFin LY false (oM r) κ) (hr : f_X11_empty X v1 = some r) : J LY 3 κ X 0 [(0, .ref (jad κ (0))), (1, .int v1)] [] := by
  unfold f_X11_empty at hr
  refine j_aload_n K dX11_empty_0 0 rfl ?_
  refine j_aload_n K dX11_empty_1 0 rfl ?_
  refine j_iload_n K dX11_empty_2 1 rfl ?_
  refine j_vI1 K (ci := 11) hr (fun v h => c_X11_isFileAt X v1 h) ml_X11_157 ⟨_, rfl, rfl⟩ rfl (Nat.le_of_ble_eq_true rfl) (by decide) rfl (by decide) (by decide) (Nat.le_of_ble_eq_true rfl) dX11_empty_3 (fun t1 h hr => ?_)
  refine j_if_ne K dX11_empty_6 (tgt := 13) (by decide) hr (fun hr => ?_) (fun hr => ?_)
  · refine j_aload_n K dX11_empty_13 0 rfl ?_
    refine j_get K (v := .ref (jad κ (8))) fl_X11_33 rfl (Nat.le_of_ble_eq_true rfl) (by decide) rfl dX11_empty_14 ?_
    refine j_iload_n K dX11_empty_17 1 rfl ?_
    refine j_baload K (z := 60) rfl (Nat.le_of_ble_eq_true rfl) dX11_empty_18 hr (fun hr => ?_)
    refine j_if_eq K dX11_empty_19 (tgt := 26) (by decide) hr (fun hr => ?_) (fun hr => ?_)
    · refine j_iconst K dX11_empty_26 (v := 0) rfl ?_
      exact j_sub [0, 1] rfl (jb_X11_empty_27 K _ _ _ F hr)
    · refine j_iconst K dX11_empty_22 (v := 2) rfl ?_
      refine j_goto K dX11_empty_23 (tgt := 27) (by decide) ?_
      exact j_sub [0, 1] rfl (jb_X11_empty_27 K _ _ _ F hr)
  · refine j_iconst K dX11_empty_9 (v := 1) rfl ?_
    refine j_goto K dX11_empty_10 (tgt := 27) (by decide) ?_
    exact j_sub [0, 1] rfl (jb_X11_empty_27 K _ _ _ F hr)
theorem c_X11_empty (X : JX) (v1 : Int32) {r : (Int32 × JX)} (hr : f_X11_empty X v1 = some r) : Cal LY yX11_empty cX11_empty 3 (some .int) 3 (fun ad => [.ref (ad (0)), .int v1]) X (fun ad => oM r) :=
  Cal.of (own := RX11) (fun ad => [(0, .ref (ad (0))), (1, .int v1)]) (by decide) rfl (fun _ => Nat.le_of_ble_eq_true rfl) (fun _ => rfl) (fun κ K F => jf_X11_empty K X v1 F hr)
theorem jb_X11_entries_32 {κ : JK} (K : jOk 3 cX11_entries RX11 (some .int) 0 κ) (X : JX) (v2 : Int32) (s0 : Int32) (s1 : Int32) {r : (Int32 × JX)} (F : jFin LY false (oM r) κ) (rec9 : Int32 → Int32 → Option (Int32 × JX)) (hrec9 : ∀ (v1 : Int32) (v2 : Int32), rec9 v1 v2 = some r → J LY 3 κ X 9 [(0, .ref (jad κ (0))), (1, .int v1), (2, .int v2)] []) (hr : b_X11_entries_32 rec9 X v2 s0 s1 = some r) : J LY 3 κ X 32 [(0, .ref (jad κ (0))), (2, .int v2)] [.int s0, .int s1] := by
  unfold b_X11_entries_32 at hr
  refine j_iadd K dX11_entries_32 ?_
  refine j_istoreV_n K dX11_entries_33 (by decide) hr (fun t2 hr => ?_)
  refine j_iincV K dX11_entries_34 (v := 1) 2 rfl rfl (by decide) hr (fun t3 hr => ?_)
  refine j_goto K dX11_entries_37 (tgt := 9) (by decide) ?_
  exact j_sub [2, 1, 0] rfl (hrec9 _ _ hr)
theorem jl_X11_entries_9 {κ : JK} (K : jOk 3 cX11_entries RX11 (some .int) 0 κ) (X : JX) {r : (Int32 × JX)} (F : jFin LY false (oM r) κ) : ∀ (v1 : Int32) (v2 : Int32), l_X11_entries_9 X v1 v2 = some r → J LY 3 κ X 9 [(0, .ref (jad κ (0))), (1, .int v1), (2, .int v2)] [] := by
  refine j_loop2 (P := fun v1 v2 => J LY 3 κ X 9 [(0, .ref (jad κ (0))), (1, .int v1), (2, .int v2)] []) (fun rec9 hrec9 v1 v2 hr => ?_) 1000
  unfold lb_X11_entries_9 at hr
  refine j_iload_n K dX11_entries_9 2 rfl ?_
  refine j_aload_n K dX11_entries_10 0 rfl ?_
  refine j_get K (v := .int (X (0) 2)) fl_X11_118 rfl (Nat.le_of_ble_eq_true rfl) (by decide) rfl dX11_entries_11 ?_
  refine j_icmp_ge K dX11_entries_14 (tgt := 40) (by decide) hr (fun hr => ?_) (fun hr => ?_)
  · refine j_iload_n K dX11_entries_40 1 rfl ?_
    exact j_ireturn K dX11_entries_41 rfl F hr rfl
  · refine j_iload_n K dX11_entries_17 1 rfl ?_
    refine j_aload_n K dX11_entries_18 0 rfl ?_
    refine j_get K (v := .ref (jad κ (19))) fl_X11_66 rfl (Nat.le_of_ble_eq_true rfl) (by decide) rfl dX11_entries_19 ?_
    refine j_iload_n K dX11_entries_22 2 rfl ?_
    refine j_baload K (z := 60) rfl (Nat.le_of_ble_eq_true rfl) dX11_entries_23 hr (fun hr => ?_)
    refine j_if_eq K dX11_entries_24 (tgt := 31) (by decide) hr (fun hr => ?_) (fun hr => ?_)
    · refine j_iconst K dX11_entries_31 (v := 0) rfl ?_
      exact j_sub [0, 2] rfl (jb_X11_entries_32 K _ _ _ _ F rec9 hrec9 hr)
    · refine j_iconst K dX11_entries_27 (v := 1) rfl ?_
      refine j_goto K dX11_entries_28 (tgt := 32) (by decide) ?_
      exact j_sub [0, 2] rfl (jb_X11_entries_32 K _ _ _ _ F rec9 hrec9 hr)
theorem jf_X11_entries {κ : JK} (K : jOk 3 cX11_entries RX11 (some .int) 0 κ) (X : JX) {r : (Int32 × JX)} (F : jFin LY false (oM r) κ) (hr : f_X11_entries X = some r) : J LY 3 κ X 0 [(0, .ref (jad κ (0)))] [] := by
  unfold f_X11_entries at hr
  refine j_aload_n K dX11_entries_0 0 rfl ?_
  refine j_iconst K dX11_entries_1 (v := 0) rfl ?_
  refine j_putiV K fp_X11_121 rfl (Nat.le_of_ble_eq_true rfl) (by decide) (fun _ => Nat.le_of_ble_eq_true rfl) (fun _ => rfl) dX11_entries_2 hr (fun X1 hr => ?_)
  refine j_iconst K dX11_entries_5 (v := 0) rfl ?_
  refine j_istore_n K dX11_entries_6 (by decide) ?_
  refine j_iconst K dX11_entries_7 (v := 0) rfl ?_
  refine j_istore_n K dX11_entries_8 (by decide) ?_
  exact j_sub [2, 1, 0] rfl (jl_X11_entries_9 K _ F _ _ hr)
theorem c_X11_entries (X : JX) {r : (Int32 × JX)} (hr : f_X11_entries X = some r) : Cal LY yX11_entries cX11_entries 3 (some .int) 0 (fun ad => [.ref (ad (0))]) X (fun ad => oM r) :=
  Cal.of (own := RX11) (fun ad => [(0, .ref (ad (0)))]) (by decide) rfl (fun _ => Nat.le_of_ble_eq_true rfl) (fun _ => rfl) (fun κ K F => jf_X11_entries K X F hr)
theorem jb_X11_holdsRoot_45 {κ : JK} (K : jOk 4 cX11_holdsRoot RX11 (some .boolean) 1 κ) (X : JX) (v1 : Int32) (v3 : Int32) (s0 : Int32) {r : Int32} (F : jFin LY false (oI X r) κ) (rec4 : Int32 → Int32 → Option Int32) (hrec4 : ∀ (v2 : Int32) (v3 : Int32), rec4 v2 v3 = some r → J LY 4 κ X 4 [(0, .ref (jad κ (0))), (1, .int v1), (2, .int v2), (3, .int v3)] []) (hr : b_X11_holdsRoot_45 rec4 X v1 v3 s0 = some r) : J LY 4 κ X 45 [(0, .ref (jad κ (0))), (1, .int v1), (3, .int v3)] [.int s0] := by
  unfold b_X11_holdsRoot_45 at hr
  refine j_istore_n K dX11_holdsRoot_45 (by decide) ?_
  refine j_iincV K dX11_holdsRoot_46 (v := 1) 3 rfl rfl (by decide) hr (fun t2 hr => ?_)
  refine j_goto K dX11_holdsRoot_49 (tgt := 4) (by decide) ?_
  exact j_sub [2, 3, 1, 0] rfl (hrec4 _ _ hr)
theorem jl_X11_holdsRoot_4 {κ : JK} (K : jOk 4 cX11_holdsRoot RX11 (some .boolean) 1 κ) (X : JX) (v1 : Int32) {r : Int32} (F : jFin LY false (oI X r) κ) : ∀ (v2 : Int32) (v3 : Int32), l_X11_holdsRoot_4 X v1 v2 v3 = some r → J LY 4 κ X 4 [(0, .ref (jad κ (0))), (1, .int v1), (2, .int v2), (3, .int v3)] [] := by
  refine j_loop2 (P := fun v2 v3 => J LY 4 κ X 4 [(0, .ref (jad κ (0))), (1, .int v1), (2, .int v2), (3, .int v3)] []) (fun rec4 hrec4 v2 v3 hr => ?_) 1000
  unfold lb_X11_holdsRoot_4 at hr
  refine j_iload_n K dX11_holdsRoot_4 3 rfl ?_
  refine j_aload_n K dX11_holdsRoot_5 0 rfl ?_
  refine j_get K (v := .int (X (0) 12)) fl_X11_132 rfl (Nat.le_of_ble_eq_true rfl) (by decide) rfl dX11_holdsRoot_6 ?_
  refine j_icmp_ge K dX11_holdsRoot_9 (tgt := 52) (by decide) hr (fun hr => ?_) (fun hr => ?_)
  · refine j_iload_n K dX11_holdsRoot_52 2 rfl ?_
    exact j_guard hr (fun hz hr => j_zreturn K dX11_holdsRoot_53 rfl hz F hr rfl)
  · refine j_iload_n K dX11_holdsRoot_12 2 rfl ?_
    refine j_if_ne K dX11_holdsRoot_13 (tgt := 40) (by decide) hr (fun hr => ?_) (fun hr => ?_)
    · refine j_iconst K dX11_holdsRoot_40 (v := 1) rfl ?_
      refine j_goto K dX11_holdsRoot_41 (tgt := 45) (by decide) ?_
      exact j_sub [0, 1, 3] rfl (jb_X11_holdsRoot_45 K _ _ _ _ F rec4 hrec4 hr)
    · refine j_aload_n K dX11_holdsRoot_16 0 rfl ?_
      refine j_get K (v := .ref (jad κ (10))) fl_X11_39 rfl (Nat.le_of_ble_eq_true rfl) (by decide) rfl dX11_holdsRoot_17 ?_
      refine j_iload_n K dX11_holdsRoot_20 3 rfl ?_
      refine j_iaload K (z := 4) rfl (Nat.le_of_ble_eq_true rfl) dX11_holdsRoot_21 hr (fun hr => ?_)
      refine j_iload_n K dX11_holdsRoot_22 1 rfl ?_
      refine j_icmp_eq K dX11_holdsRoot_23 (tgt := 40) (by decide) hr (fun hr => ?_) (fun hr => ?_)
      · refine j_iconst K dX11_holdsRoot_40 (v := 1) rfl ?_
        refine j_goto K dX11_holdsRoot_41 (tgt := 45) (by decide) ?_
        exact j_sub [0, 1, 3] rfl (jb_X11_holdsRoot_45 K _ _ _ _ F rec4 hrec4 hr)
      · refine j_aload_n K dX11_holdsRoot_26 0 rfl ?_
        refine j_aload_n K dX11_holdsRoot_27 0 rfl ?_
        refine j_get K (v := .ref (jad κ (10))) fl_X11_39 rfl (Nat.le_of_ble_eq_true rfl) (by decide) rfl dX11_holdsRoot_28 ?_
        refine j_iload_n K dX11_holdsRoot_31 3 rfl ?_
        refine j_iaload K (z := 4) rfl (Nat.le_of_ble_eq_true rfl) dX11_holdsRoot_32 hr (fun hr => ?_)
        refine j_iload_n K dX11_holdsRoot_33 1 rfl ?_
        refine j_vI2 K (ci := 11) hr (fun v h => c_X11_isBelow X (X (10) v3.toNatClampNeg) v1 h) ml_X11_135 ⟨_, rfl, rfl⟩ rfl (Nat.le_of_ble_eq_true rfl) (by decide) rfl (by decide) (by decide) (Nat.le_of_ble_eq_true rfl) dX11_holdsRoot_34 (fun t1 h hr => ?_)
        refine j_if_eq K dX11_holdsRoot_37 (tgt := 44) (by decide) hr (fun hr => ?_) (fun hr => ?_)
        · refine j_iconst K dX11_holdsRoot_44 (v := 0) rfl ?_
          exact j_sub [0, 1, 3] rfl (jb_X11_holdsRoot_45 K _ _ _ _ F rec4 hrec4 hr)
        · refine j_iconst K dX11_holdsRoot_40 (v := 1) rfl ?_
          refine j_goto K dX11_holdsRoot_41 (tgt := 45) (by decide) ?_
          exact j_sub [0, 1, 3] rfl (jb_X11_holdsRoot_45 K _ _ _ _ F rec4 hrec4 hr)
theorem jf_X11_holdsRoot {κ : JK} (K : jOk 4 cX11_holdsRoot RX11 (some .boolean) 1 κ) (X : JX) (v1 : Int32) {r : Int32} (F : jFin LY false (oI X r) κ) (hr : f_X11_holdsRoot X v1 = some r) : J LY 4 κ X 0 [(0, .ref (jad κ (0))), (1, .int v1)] [] := by
  unfold f_X11_holdsRoot at hr
  refine j_iconst K dX11_holdsRoot_0 (v := 0) rfl ?_
  refine j_istore_n K dX11_holdsRoot_1 (by decide) ?_
  refine j_iconst K dX11_holdsRoot_2 (v := 0) rfl ?_
  refine j_istore_n K dX11_holdsRoot_3 (by decide) ?_
  exact j_sub [2, 3, 1, 0] rfl (jl_X11_holdsRoot_4 K _ _ F _ _ hr)
theorem c_X11_holdsRoot (X : JX) (v1 : Int32) {r : Int32} (hr : f_X11_holdsRoot X v1 = some r) : Cal LY yX11_holdsRoot cX11_holdsRoot 4 (some .boolean) 1 (fun ad => [.ref (ad (0)), .int v1]) X (fun ad => oI X r) :=
  Cal.of (own := RX11) (fun ad => [(0, .ref (ad (0))), (1, .int v1)]) (by decide) rfl (fun _ => Nat.le_of_ble_eq_true rfl) (fun _ => rfl) (fun κ K F => jf_X11_holdsRoot K X v1 F hr)
theorem jb_X11_joins_42 {κ : JK} (K : jOk 3 cX11_joins RX11 none 0 κ) (X : JX) (v1 : Int32) (v2 : Int32) (s0 : Int32) (s1 : Int32) (s2 : Int32) {r : JX} (F : jFin LY false (oU r) κ) (rec12 : JX → Int32 → Option JX) (hrec12 : ∀ (X : JX) (v2 : Int32), rec12 X v2 = some r → J LY 3 κ X 12 [(0, .ref (jad κ (0))), (1, .int v1), (2, .int v2)] []) (hr : b_X11_joins_42 rec12 X v1 v2 s0 s1 s2 = some r) : J LY 3 κ X 42 [(0, .ref (jad κ (0))), (1, .int v1), (2, .int v2)] [.int s0, .int s1, .int s2, .ref (jad κ (28))] := by
  unfold b_X11_joins_42 at hr
  refine j_isub K dX11_joins_42 ?_
  refine j_iastoreV K (z := 600) rfl (Nat.le_of_ble_eq_true rfl) dX11_joins_43 hr (fun X2 hr => ?_)
  refine j_iincV K dX11_joins_44 (v := 1) 2 rfl rfl (by decide) hr (fun t3 hr => ?_)
  refine j_goto K dX11_joins_47 (tgt := 12) (by decide) ?_
  exact j_sub [1, 2, 0] rfl (hrec12 _ _ hr)
theorem jl_X11_joins_12 {κ : JK} (K : jOk 3 cX11_joins RX11 none 0 κ) (v1 : Int32) {r : JX} (F : jFin LY false (oU r) κ) : ∀ (X : JX) (v2 : Int32), l_X11_joins_12 v1 X v2 = some r → J LY 3 κ X 12 [(0, .ref (jad κ (0))), (1, .int v1), (2, .int v2)] [] := by
  refine j_loop2 (P := fun X v2 => J LY 3 κ X 12 [(0, .ref (jad κ (0))), (1, .int v1), (2, .int v2)] []) (fun rec12 hrec12 X v2 hr => ?_) 1000
  unfold lb_X11_joins_12 at hr
  refine j_iload_n K dX11_joins_12 2 rfl ?_
  refine j_aload_n K dX11_joins_13 0 rfl ?_
  refine j_get K (v := .int (X (0) 37)) fl_X11_192 rfl (Nat.le_of_ble_eq_true rfl) (by decide) rfl dX11_joins_14 ?_
  refine j_icmp_ge K dX11_joins_17 (tgt := 50) (by decide) hr (fun hr => ?_) (fun hr => ?_)
  · exact j_return K dX11_joins_50 rfl F hr rfl
  · refine j_aload_n K dX11_joins_20 0 rfl ?_
    refine j_get K (v := .ref (jad κ (28))) fl_X11_100 rfl (Nat.le_of_ble_eq_true rfl) (by decide) rfl dX11_joins_21 ?_
    refine j_iload_n K dX11_joins_24 2 rfl ?_
    refine j_dup2 K dX11_joins_25 rfl rfl ?_
    refine j_iaload K (z := 600) rfl (Nat.le_of_ble_eq_true rfl) dX11_joins_26 hr (fun hr => ?_)
    refine j_aload_n K dX11_joins_27 0 rfl ?_
    refine j_get K (v := .ref (jad κ (28))) fl_X11_100 rfl (Nat.le_of_ble_eq_true rfl) (by decide) rfl dX11_joins_28 ?_
    refine j_iload_n K dX11_joins_31 2 rfl ?_
    refine j_iaload K (z := 600) rfl (Nat.le_of_ble_eq_true rfl) dX11_joins_32 hr (fun hr => ?_)
    refine j_iload_n K dX11_joins_33 1 rfl ?_
    refine j_icmp_le K dX11_joins_34 (tgt := 41) (by decide) hr (fun hr => ?_) (fun hr => ?_)
    · refine j_iconst K dX11_joins_41 (v := 0) rfl ?_
      exact j_sub [0, 1, 2] rfl (jb_X11_joins_42 K _ _ _ _ _ _ F rec12 hrec12 hr)
    · refine j_iconst K dX11_joins_37 (v := 1) rfl ?_
      refine j_goto K dX11_joins_38 (tgt := 42) (by decide) ?_
      exact j_sub [0, 1, 2] rfl (jb_X11_joins_42 K _ _ _ _ _ _ F rec12 hrec12 hr)
theorem jf_X11_joins {κ : JK} (K : jOk 3 cX11_joins RX11 none 0 κ) (X : JX) (v1 : Int32) {r : JX} (F : jFin LY false (oU r) κ) (hr : f_X11_joins X v1 = some r) : J LY 3 κ X 0 [(0, .ref (jad κ (0))), (1, .int v1)] [] := by
  unfold f_X11_joins at hr
  refine j_aload_n K dX11_joins_0 0 rfl ?_
  refine j_dup K dX11_joins_1 rfl ?_
  refine j_get K (v := .int (X (0) 41)) fl_X11_264 rfl (Nat.le_of_ble_eq_true rfl) (by decide) rfl dX11_joins_2 ?_
  refine j_iconst K dX11_joins_5 (v := 1) rfl ?_
  refine j_isub K dX11_joins_6 ?_
  refine j_putiV K fp_X11_264 rfl (Nat.le_of_ble_eq_true rfl) (by decide) (fun _ => Nat.le_of_ble_eq_true rfl) (fun _ => rfl) dX11_joins_7 hr (fun X1 hr => ?_)
  refine j_iconst K dX11_joins_10 (v := 0) rfl ?_
  refine j_istore_n K dX11_joins_11 (by decide) ?_
  exact j_sub [1, 2, 0] rfl (jl_X11_joins_12 K _ F _ _ hr)
theorem c_X11_joins (X : JX) (v1 : Int32) {r : JX} (hr : f_X11_joins X v1 = some r) : Cal LY yX11_joins cX11_joins 3 none 0 (fun ad => [.ref (ad (0)), .int v1]) X (fun ad => oU r) :=
  Cal.of (own := RX11) (fun ad => [(0, .ref (ad (0))), (1, .int v1)]) (by decide) rfl (fun _ => Nat.le_of_ble_eq_true rfl) (fun _ => rfl) (fun κ K F => jf_X11_joins K X v1 F hr)
theorem jb_X11_indexes_199 {κ : JK} (K : jOk 4 cX11_indexes RX11 none 2 κ) (X : JX) (v3 : Int32) (s0 : Int32) {r : JX} (F : jFin LY false (oU r) κ) (rec139 : JX → Option JX) (hrec139 : ∀ (X : JX), rec139 X = some r → J LY 4 κ X 139 [(0, .ref (jad κ (0)))] []) (rec151 : Int32 → Int32 → Option JX) (hrec151 : ∀ (v2 : Int32) (v3 : Int32), rec151 v2 v3 = some r → J LY 4 κ X 151 [(0, .ref (jad κ (0))), (2, .int v2), (3, .int v3)] []) (hr : b_X11_indexes_199 rec139 rec151 X v3 s0 = some r) : J LY 4 κ X 199 [(0, .ref (jad κ (0))), (3, .int v3)] [.int s0] := by
  unfold b_X11_indexes_199 at hr
  refine j_istore_n K dX11_indexes_199 (by decide) ?_
  refine j_iincV K dX11_indexes_200 (v := 1) 2 rfl rfl (by decide) hr (fun t21 hr => ?_)
  refine j_goto K dX11_indexes_203 (tgt := 151) (by decide) ?_
  exact j_sub [2, 1, 0] rfl (hrec151 _ _ hr)
theorem jl_X11_indexes_151 {κ : JK} (K : jOk 4 cX11_indexes RX11 none 2 κ) (X : JX) {r : JX} (F : jFin LY false (oU r) κ) (rec139 : JX → Option JX) (hrec139 : ∀ (X : JX), rec139 X = some r → J LY 4 κ X 139 [(0, .ref (jad κ (0)))] []) : ∀ (v2 : Int32) (v3 : Int32), l_X11_indexes_151 rec139 X v2 v3 = some r → J LY 4 κ X 151 [(0, .ref (jad κ (0))), (2, .int v2), (3, .int v3)] [] := by
  refine j_loop2 (P := fun v2 v3 => J LY 4 κ X 151 [(0, .ref (jad κ (0))), (2, .int v2), (3, .int v3)] []) (fun rec151 hrec151 v2 v3 hr => ?_) 1000
  unfold lb_X11_indexes_151 at hr
  refine j_iload_n K dX11_indexes_151 2 rfl ?_
  refine j_iconst K dX11_indexes_152 (v := 1) rfl ?_
  refine j_iadd K dX11_indexes_153 ?_
  refine j_aload_n K dX11_indexes_154 0 rfl ?_
  refine j_get K (v := .int (X (0) 41)) fl_X11_264 rfl (Nat.le_of_ble_eq_true rfl) (by decide) rfl dX11_indexes_155 ?_
  refine j_icmp_ge K dX11_indexes_158 (tgt := 206) (by decide) hr (fun hr => ?_) (fun hr => ?_)
  · refine j_aload_n K dX11_indexes_206 0 rfl ?_
    refine j_iload_n K dX11_indexes_207 1 rfl ?_
    refine j_vU1 K (ci := 11) hr (fun v h => c_X11_cleans X v2 h) ml_X11_271 ⟨_, rfl, rfl⟩ rfl (Nat.le_of_ble_eq_true rfl) (by decide) rfl (by decide) (by decide) (Nat.le_of_ble_eq_true rfl) dX11_indexes_208 (fun X14 h hr => ?_)
    refine j_aload_n K dX11_indexes_211 0 rfl ?_
    refine j_iload_n K dX11_indexes_212 1 rfl ?_
    refine j_iconst K dX11_indexes_213 (v := 1) rfl ?_
    refine j_iadd K dX11_indexes_214 ?_
    refine j_vU1 K (ci := 11) hr (fun v h => c_X11_cleans X14 (v2 + (1)) h) ml_X11_271 ⟨_, rfl, rfl⟩ rfl (Nat.le_of_ble_eq_true rfl) (by decide) rfl (by decide) (by decide) (Nat.le_of_ble_eq_true rfl) dX11_indexes_215 (fun X15 h hr => ?_)
    refine j_aload_n K dX11_indexes_218 0 rfl ?_
    refine j_iload_n K dX11_indexes_219 1 rfl ?_
    refine j_vU1 K (ci := 11) hr (fun v h => c_X11_joins X15 v2 h) ml_X11_274 ⟨_, rfl, rfl⟩ rfl (Nat.le_of_ble_eq_true rfl) (by decide) rfl (by decide) (by decide) (Nat.le_of_ble_eq_true rfl) dX11_indexes_220 (fun X16 h hr => ?_)
    refine j_goto K dX11_indexes_223 (tgt := 139) (by decide) ?_
    exact j_sub [0] rfl (hrec139 _ hr)
  · refine j_aload_n K dX11_indexes_161 0 rfl ?_
    refine j_iload_n K dX11_indexes_162 2 rfl ?_
    refine j_iconst K dX11_indexes_163 (v := 0) rfl ?_
    refine j_vI2 K (ci := 11) hr (fun v h => c_X11_count X v3 (0) h) ml_X11_267 ⟨_, rfl, rfl⟩ rfl (Nat.le_of_ble_eq_true rfl) (by decide) rfl (by decide) (by decide) (Nat.le_of_ble_eq_true rfl) dX11_indexes_164 (fun t17 h hr => ?_)
    refine j_aload_n K dX11_indexes_167 0 rfl ?_
    refine j_iload_n K dX11_indexes_168 2 rfl ?_
    refine j_iconst K dX11_indexes_169 (v := 1) rfl ?_
    refine j_iadd K dX11_indexes_170 ?_
    refine j_iconst K dX11_indexes_171 (v := 0) rfl ?_
    refine j_vI2 K (ci := 11) hr (fun v h => c_X11_count X (v3 + (1)) (0) h) ml_X11_267 ⟨_, rfl, rfl⟩ rfl (Nat.le_of_ble_eq_true rfl) (by decide) rfl (by decide) (by decide) (Nat.le_of_ble_eq_true rfl) dX11_indexes_172 (fun t18 h hr => ?_)
    refine j_iadd K dX11_indexes_175 ?_
    refine j_aload_n K dX11_indexes_176 0 rfl ?_
    refine j_iload_n K dX11_indexes_177 1 rfl ?_
    refine j_iconst K dX11_indexes_178 (v := 0) rfl ?_
    refine j_vI2 K (ci := 11) hr (fun v h => c_X11_count X v2 (0) h) ml_X11_267 ⟨_, rfl, rfl⟩ rfl (Nat.le_of_ble_eq_true rfl) (by decide) rfl (by decide) (by decide) (Nat.le_of_ble_eq_true rfl) dX11_indexes_179 (fun t19 h hr => ?_)
    refine j_aload_n K dX11_indexes_182 0 rfl ?_
    refine j_iload_n K dX11_indexes_183 1 rfl ?_
    refine j_iconst K dX11_indexes_184 (v := 1) rfl ?_
    refine j_iadd K dX11_indexes_185 ?_
    refine j_iconst K dX11_indexes_186 (v := 0) rfl ?_
    refine j_vI2 K (ci := 11) hr (fun v h => c_X11_count X (v2 + (1)) (0) h) ml_X11_267 ⟨_, rfl, rfl⟩ rfl (Nat.le_of_ble_eq_true rfl) (by decide) rfl (by decide) (by decide) (Nat.le_of_ble_eq_true rfl) dX11_indexes_187 (fun t20 h hr => ?_)
    refine j_iadd K dX11_indexes_190 ?_
    refine j_icmp_ge K dX11_indexes_191 (tgt := 198) (by decide) hr (fun hr => ?_) (fun hr => ?_)
    · refine j_iload_n K dX11_indexes_198 1 rfl ?_
      exact j_sub [0, 2] rfl (jb_X11_indexes_199 K _ _ _ F rec139 hrec139 rec151 hrec151 hr)
    · refine j_iload_n K dX11_indexes_194 2 rfl ?_
      refine j_goto K dX11_indexes_195 (tgt := 199) (by decide) ?_
      exact j_sub [0, 2] rfl (jb_X11_indexes_199 K _ _ _ F rec139 hrec139 rec151 hrec151 hr)
theorem jl_X11_indexes_139 {κ : JK} (K : jOk 4 cX11_indexes RX11 none 2 κ) {r : JX} (F : jFin LY false (oU r) κ) : ∀ (X : JX), l_X11_indexes_139 X = some r → J LY 4 κ X 139 [(0, .ref (jad κ (0)))] [] := by
  refine j_loop1 (P := fun X => J LY 4 κ X 139 [(0, .ref (jad κ (0)))] []) (fun rec139 hrec139 X hr => ?_) 1000
  unfold lb_X11_indexes_139 at hr
  refine j_aload_n K dX11_indexes_139 0 rfl ?_
  refine j_get K (v := .int (X (0) 41)) fl_X11_264 rfl (Nat.le_of_ble_eq_true rfl) (by decide) rfl dX11_indexes_140 ?_
  refine j_iconst K dX11_indexes_143 (v := 3) rfl ?_
  refine j_icmp_le K dX11_indexes_144 (tgt := 226) (by decide) hr (fun hr => ?_) (fun hr => ?_)
  · exact j_return K dX11_indexes_226 rfl F hr rfl
  · refine j_iconst K dX11_indexes_147 (v := 0) rfl ?_
    refine j_istore_n K dX11_indexes_148 (by decide) ?_
    refine j_iconst K dX11_indexes_149 (v := 1) rfl ?_
    refine j_istore_n K dX11_indexes_150 (by decide) ?_
    exact j_sub [2, 1, 0] rfl (jl_X11_indexes_151 K _ F rec139 hrec139 _ _ hr)
theorem jb_X11_indexes_133 {κ : JK} (K : jOk 4 cX11_indexes RX11 none 2 κ) (X : JX) (v2 : Int32) {r : JX} (F : jFin LY false (oU r) κ) (rec104 : JX → Int32 → Option JX) (hrec104 : ∀ (X : JX) (v2 : Int32), rec104 X v2 = some r → J LY 4 κ X 104 [(0, .ref (jad κ (0))), (2, .int v2)] []) (hr : b_X11_indexes_133 rec104 X v2 = some r) : J LY 4 κ X 133 [(0, .ref (jad κ (0))), (2, .int v2)] [] := by
  unfold b_X11_indexes_133 at hr
  refine j_iincV K dX11_indexes_133 (v := -1) 1 rfl rfl (by decide) hr (fun t13 hr => ?_)
  refine j_goto K dX11_indexes_136 (tgt := 104) (by decide) ?_
  exact j_sub [1, 0] rfl (hrec104 _ _ hr)
theorem jl_X11_indexes_104 {κ : JK} (K : jOk 4 cX11_indexes RX11 none 2 κ) {r : JX} (F : jFin LY false (oU r) κ) : ∀ (X : JX) (v2 : Int32), l_X11_indexes_104 X v2 = some r → J LY 4 κ X 104 [(0, .ref (jad κ (0))), (2, .int v2)] [] := by
  refine j_loop2 (P := fun X v2 => J LY 4 κ X 104 [(0, .ref (jad κ (0))), (2, .int v2)] []) (fun rec104 hrec104 X v2 hr => ?_) 1000
  unfold lb_X11_indexes_104 at hr
  refine j_iload_n K dX11_indexes_104 1 rfl ?_
  refine j_if_lt K dX11_indexes_105 (tgt := 139) (by decide) hr (fun hr => ?_) (fun hr => ?_)
  · exact j_sub [0] rfl (jl_X11_indexes_139 K F _ hr)
  · refine j_aload_n K dX11_indexes_108 0 rfl ?_
    refine j_iload_n K dX11_indexes_109 1 rfl ?_
    refine j_iconst K dX11_indexes_110 (v := 0) rfl ?_
    refine j_vI2 K (ci := 11) hr (fun v h => c_X11_count X v2 (0) h) ml_X11_267 ⟨_, rfl, rfl⟩ rfl (Nat.le_of_ble_eq_true rfl) (by decide) rfl (by decide) (by decide) (Nat.le_of_ble_eq_true rfl) dX11_indexes_111 (fun t9 h hr => ?_)
    refine j_aload_n K dX11_indexes_114 0 rfl ?_
    refine j_iload_n K dX11_indexes_115 1 rfl ?_
    refine j_iconst K dX11_indexes_116 (v := 1) rfl ?_
    refine j_vI2 K (ci := 11) hr (fun v h => c_X11_count X v2 (1) h) ml_X11_267 ⟨_, rfl, rfl⟩ rfl (Nat.le_of_ble_eq_true rfl) (by decide) rfl (by decide) (by decide) (Nat.le_of_ble_eq_true rfl) dX11_indexes_117 (fun t10 h hr => ?_)
    refine j_icmp_ne K dX11_indexes_120 (tgt := 133) (by decide) hr (fun hr => ?_) (fun hr => ?_)
    · exact j_sub [0, 1] rfl (jb_X11_indexes_133 K _ _ F rec104 hrec104 hr)
    · refine j_aload_n K dX11_indexes_123 0 rfl ?_
      refine j_iload_n K dX11_indexes_124 1 rfl ?_
      refine j_vU1 K (ci := 11) hr (fun v h => c_X11_cleans X v2 h) ml_X11_271 ⟨_, rfl, rfl⟩ rfl (Nat.le_of_ble_eq_true rfl) (by decide) rfl (by decide) (by decide) (Nat.le_of_ble_eq_true rfl) dX11_indexes_125 (fun X11 h hr => ?_)
      refine j_aload_n K dX11_indexes_128 0 rfl ?_
      refine j_iload_n K dX11_indexes_129 1 rfl ?_
      refine j_vU1 K (ci := 11) hr (fun v h => c_X11_joins X11 v2 h) ml_X11_274 ⟨_, rfl, rfl⟩ rfl (Nat.le_of_ble_eq_true rfl) (by decide) rfl (by decide) (by decide) (Nat.le_of_ble_eq_true rfl) dX11_indexes_130 (fun X12 h hr => ?_)
      exact j_sub [0, 1] rfl (jb_X11_indexes_133 K _ _ F rec104 hrec104 hr)
theorem jb_X11_indexes_93 {κ : JK} (K : jOk 4 cX11_indexes RX11 none 2 κ) (X : JX) (s0 : Int32) (s1 : Int32) {r : JX} (F : jFin LY false (oU r) κ) (hr : b_X11_indexes_93 X s0 s1 = some r) : J LY 4 κ X 93 [(0, .ref (jad κ (0)))] [.int s0, .int s1, .ref (jad κ (0))] := by
  unfold b_X11_indexes_93 at hr
  refine j_iadd K dX11_indexes_93 ?_
  refine j_putiV K fp_X11_264 rfl (Nat.le_of_ble_eq_true rfl) (by decide) (fun _ => Nat.le_of_ble_eq_true rfl) (fun _ => rfl) dX11_indexes_94 hr (fun X6 hr => ?_)
  refine j_aload_n K dX11_indexes_97 0 rfl ?_
  refine j_get K (v := .int (X6 (0) 41)) fl_X11_264 rfl (Nat.le_of_ble_eq_true rfl) (by decide) rfl dX11_indexes_98 ?_
  refine j_iconst K dX11_indexes_101 (v := 1) rfl ?_
  refine j_isub K dX11_indexes_102 ?_
  refine j_istoreV_n K dX11_indexes_103 (by decide) hr (fun t7 hr => ?_)
  exact j_sub [1, 0] rfl (jl_X11_indexes_104 K F _ _ hr)
theorem jb_X11_indexes_73 {κ : JK} (K : jOk 4 cX11_indexes RX11 none 2 κ) (X : JX) (v1 : Int32) (v2 : Int32) {r : JX} (F : jFin LY false (oU r) κ) (rec4 : JX → Int32 → Int32 → Option JX) (hrec4 : ∀ (X : JX) (v1 : Int32) (v2 : Int32), rec4 X v1 v2 = some r → J LY 4 κ X 4 [(0, .ref (jad κ (0))), (1, .int v1), (2, .int v2)] []) (hr : b_X11_indexes_73 rec4 X v1 v2 = some r) : J LY 4 κ X 73 [(0, .ref (jad κ (0))), (1, .int v1), (2, .int v2)] [] := by
  unfold b_X11_indexes_73 at hr
  refine j_iincV K dX11_indexes_73 (v := 1) 2 rfl rfl (by decide) hr (fun t8 hr => ?_)
  refine j_goto K dX11_indexes_76 (tgt := 4) (by decide) ?_
  exact j_sub [1, 2, 0] rfl (hrec4 _ _ _ hr)
theorem jl_X11_indexes_4 {κ : JK} (K : jOk 4 cX11_indexes RX11 none 2 κ) {r : JX} (F : jFin LY false (oU r) κ) : ∀ (X : JX) (v1 : Int32) (v2 : Int32), l_X11_indexes_4 X v1 v2 = some r → J LY 4 κ X 4 [(0, .ref (jad κ (0))), (1, .int v1), (2, .int v2)] [] := by
  refine j_loop3 (P := fun X v1 v2 => J LY 4 κ X 4 [(0, .ref (jad κ (0))), (1, .int v1), (2, .int v2)] []) (fun rec4 hrec4 X v1 v2 hr => ?_) 1000
  unfold lb_X11_indexes_4 at hr
  refine j_iload_n K dX11_indexes_4 2 rfl ?_
  refine j_aload_n K dX11_indexes_5 0 rfl ?_
  refine j_get K (v := .int (X (0) 2)) fl_X11_118 rfl (Nat.le_of_ble_eq_true rfl) (by decide) rfl dX11_indexes_6 ?_
  refine j_icmp_ge K dX11_indexes_9 (tgt := 79) (by decide) hr (fun hr => ?_) (fun hr => ?_)
  · refine j_aload_n K dX11_indexes_79 0 rfl ?_
    refine j_dup K dX11_indexes_80 rfl ?_
    refine j_get K (v := .int (X (0) 41)) fl_X11_264 rfl (Nat.le_of_ble_eq_true rfl) (by decide) rfl dX11_indexes_81 ?_
    refine j_iload_n K dX11_indexes_84 1 rfl ?_
    refine j_if_eq K dX11_indexes_85 (tgt := 92) (by decide) hr (fun hr => ?_) (fun hr => ?_)
    · refine j_iconst K dX11_indexes_92 (v := 0) rfl ?_
      exact j_sub [0] rfl (jb_X11_indexes_93 K _ _ _ F hr)
    · refine j_iconst K dX11_indexes_88 (v := 1) rfl ?_
      refine j_goto K dX11_indexes_89 (tgt := 93) (by decide) ?_
      exact j_sub [0] rfl (jb_X11_indexes_93 K _ _ _ F hr)
  · refine j_aload_n K dX11_indexes_12 0 rfl ?_
    refine j_get K (v := .ref (jad κ (31))) fl_X11_109 rfl (Nat.le_of_ble_eq_true rfl) (by decide) rfl dX11_indexes_13 ?_
    refine j_iload_n K dX11_indexes_16 2 rfl ?_
    refine j_baload K (z := 60) rfl (Nat.le_of_ble_eq_true rfl) dX11_indexes_17 hr (fun hr => ?_)
    refine j_if_eq K dX11_indexes_18 (tgt := 73) (by decide) hr (fun hr => ?_) (fun hr => ?_)
    · exact j_sub [0, 1, 2] rfl (jb_X11_indexes_73 K _ _ _ F rec4 hrec4 hr)
    · refine j_aload_n K dX11_indexes_21 0 rfl ?_
      refine j_get K (v := .ref (jad κ (28))) fl_X11_100 rfl (Nat.le_of_ble_eq_true rfl) (by decide) rfl dX11_indexes_22 ?_
      refine j_aload_n K dX11_indexes_25 0 rfl ?_
      refine j_get K (v := .int (X (0) 37)) fl_X11_192 rfl (Nat.le_of_ble_eq_true rfl) (by decide) rfl dX11_indexes_26 ?_
      refine j_aload_n K dX11_indexes_29 0 rfl ?_
      refine j_get K (v := .int (X (0) 41)) fl_X11_264 rfl (Nat.le_of_ble_eq_true rfl) (by decide) rfl dX11_indexes_30 ?_
      refine j_iastoreV K (z := 600) rfl (Nat.le_of_ble_eq_true rfl) dX11_indexes_33 hr (fun X1 hr => ?_)
      refine j_aload_n K dX11_indexes_34 0 rfl ?_
      refine j_get K (v := .ref (jad κ (29))) fl_X11_103 rfl (Nat.le_of_ble_eq_true rfl) (by decide) rfl dX11_indexes_35 ?_
      refine j_aload_n K dX11_indexes_38 0 rfl ?_
      refine j_get K (v := .int (X1 (0) 37)) fl_X11_192 rfl (Nat.le_of_ble_eq_true rfl) (by decide) rfl dX11_indexes_39 ?_
      refine j_iload_n K dX11_indexes_42 2 rfl ?_
      refine j_iastoreV K (z := 600) rfl (Nat.le_of_ble_eq_true rfl) dX11_indexes_43 hr (fun X2 hr => ?_)
      refine j_aload_n K dX11_indexes_44 0 rfl ?_
      refine j_get K (v := .ref (jad κ (30))) fl_X11_106 rfl (Nat.le_of_ble_eq_true rfl) (by decide) rfl dX11_indexes_45 ?_
      refine j_aload_n K dX11_indexes_48 0 rfl ?_
      refine j_get K (v := .int (X2 (0) 37)) fl_X11_192 rfl (Nat.le_of_ble_eq_true rfl) (by decide) rfl dX11_indexes_49 ?_
      refine j_iconst K dX11_indexes_52 (v := 0) rfl ?_
      refine j_bastoreV K (z := 600) rfl (Nat.le_of_ble_eq_true rfl) dX11_indexes_53 hr (fun X3 hr => ?_)
      refine j_aload_n K dX11_indexes_54 0 rfl ?_
      refine j_dup K dX11_indexes_55 rfl ?_
      refine j_get K (v := .int (X3 (0) 37)) fl_X11_192 rfl (Nat.le_of_ble_eq_true rfl) (by decide) rfl dX11_indexes_56 ?_
      refine j_iconst K dX11_indexes_59 (v := 1) rfl ?_
      refine j_iadd K dX11_indexes_60 ?_
      refine j_putiV K fp_X11_192 rfl (Nat.le_of_ble_eq_true rfl) (by decide) (fun _ => Nat.le_of_ble_eq_true rfl) (fun _ => rfl) dX11_indexes_61 hr (fun X4 hr => ?_)
      refine j_iconst K dX11_indexes_64 (v := 1) rfl ?_
      refine j_istore_n K dX11_indexes_65 (by decide) ?_
      refine j_aload_n K dX11_indexes_66 1 rfl ?_
      refine j_get K (v := .ref (jad κ (31))) fl_X11_109 rfl (Nat.le_of_ble_eq_true rfl) (by decide) rfl dX11_indexes_67 ?_
      refine j_iload_n K dX11_indexes_70 2 rfl ?_
      refine j_iconst K dX11_indexes_71 (v := 0) rfl ?_
      refine j_bastoreV K (z := 60) rfl (Nat.le_of_ble_eq_true rfl) dX11_indexes_72 hr (fun X5 hr => ?_)
      exact j_sub [1, 0, 2] rfl (jb_X11_indexes_73 K _ _ _ F rec4 hrec4 hr)
theorem jf_X11_indexes {κ : JK} (K : jOk 4 cX11_indexes RX11 none 2 κ) (X : JX) {r : JX} (F : jFin LY false (oU r) κ) (hr : f_X11_indexes X = some r) : J LY 4 κ X 0 [(0, .ref (jad κ (0)))] [] := by
  unfold f_X11_indexes at hr
  refine j_iconst K dX11_indexes_0 (v := 0) rfl ?_
  refine j_istore_n K dX11_indexes_1 (by decide) ?_
  refine j_iconst K dX11_indexes_2 (v := 0) rfl ?_
  refine j_istore_n K dX11_indexes_3 (by decide) ?_
  exact j_sub [2, 1, 0] rfl (jl_X11_indexes_4 K F _ _ _ hr)
theorem c_X11_indexes (X : JX) {r : JX} (hr : f_X11_indexes X = some r) : Cal LY yX11_indexes cX11_indexes 4 none 2 (fun ad => [.ref (ad (0))]) X (fun ad => oU r) :=
  Cal.of (own := RX11) (fun ad => [(0, .ref (ad (0)))]) (by decide) rfl (fun _ => Nat.le_of_ble_eq_true rfl) (fun _ => rfl) (fun κ K F => jf_X11_indexes K X F hr)
theorem jf_X11_isFolderAt {κ : JK} (K : jOk 2 cX11_isFolderAt RX11 (some .boolean) 2 κ) (X : JX) (v1 : Int32) {r : Int32} (F : jFin LY false (oI X r) κ) (hr : f_X11_isFolderAt X v1 = some r) : J LY 2 κ X 0 [(0, .ref (jad κ (0))), (1, .int v1)] [] := by
  unfold f_X11_isFolderAt at hr
  refine j_aload_n K dX11_isFolderAt_0 0 rfl ?_
  refine j_iload_n K dX11_isFolderAt_1 1 rfl ?_
  refine j_vI1 K (ci := 11) hr (fun v h => c_X11_isNode X v1 h) ml_X11_128 ⟨_, rfl, rfl⟩ rfl (Nat.le_of_ble_eq_true rfl) (by decide) rfl (by decide) (by decide) (Nat.le_of_ble_eq_true rfl) dX11_isFolderAt_2 (fun t1 h hr => ?_)
  refine j_if_eq K dX11_isFolderAt_5 (tgt := 21) (by decide) hr (fun hr => ?_) (fun hr => ?_)
  · refine j_iconst K dX11_isFolderAt_21 (v := 0) rfl ?_
    exact j_zreturn K dX11_isFolderAt_22 rfl rfl F hr rfl
  · refine j_aload_n K dX11_isFolderAt_8 0 rfl ?_
    refine j_get K (v := .ref (jad κ (2))) fl_X11_13 rfl (Nat.le_of_ble_eq_true rfl) (by decide) rfl dX11_isFolderAt_9 ?_
    refine j_iload_n K dX11_isFolderAt_12 1 rfl ?_
    refine j_baload K (z := 60) rfl (Nat.le_of_ble_eq_true rfl) dX11_isFolderAt_13 hr (fun hr => ?_)
    refine j_if_eq K dX11_isFolderAt_14 (tgt := 21) (by decide) hr (fun hr => ?_) (fun hr => ?_)
    · refine j_iconst K dX11_isFolderAt_21 (v := 0) rfl ?_
      exact j_zreturn K dX11_isFolderAt_22 rfl rfl F hr rfl
    · refine j_iconst K dX11_isFolderAt_17 (v := 1) rfl ?_
      refine j_goto K dX11_isFolderAt_18 (tgt := 22) (by decide) ?_
      exact j_zreturn K dX11_isFolderAt_22 rfl rfl F hr rfl
theorem c_X11_isFolderAt (X : JX) (v1 : Int32) {r : Int32} (hr : f_X11_isFolderAt X v1 = some r) : Cal LY yX11_isFolderAt cX11_isFolderAt 2 (some .boolean) 2 (fun ad => [.ref (ad (0)), .int v1]) X (fun ad => oI X r) :=
  Cal.of (own := RX11) (fun ad => [(0, .ref (ad (0))), (1, .int v1)]) (by decide) rfl (fun _ => Nat.le_of_ble_eq_true rfl) (fun _ => rfl) (fun κ K F => jf_X11_isFolderAt K X v1 F hr)
theorem jf_X11_isQuiet {κ : JK} (K : jOk 1 cX11_isQuiet RX11 (some .boolean) 1 κ) (X : JX) {r : (Int32 × JX)} (F : jFin LY false (oM r) κ) (hr : f_X11_isQuiet X = some r) : J LY 1 κ X 0 [(0, .ref (jad κ (0)))] [] := by
  unfold f_X11_isQuiet at hr
  refine j_aload_n K dX11_isQuiet_0 0 rfl ?_
  refine j_iconst K dX11_isQuiet_1 (v := 0) rfl ?_
  refine j_putiV K fp_X11_121 rfl (Nat.le_of_ble_eq_true rfl) (by decide) (fun _ => Nat.le_of_ble_eq_true rfl) (fun _ => rfl) dX11_isQuiet_2 hr (fun X1 hr => ?_)
  refine j_aload_n K dX11_isQuiet_5 0 rfl ?_
  refine j_get K (v := .int (X1 (0) 30)) fl_X11_183 rfl (Nat.le_of_ble_eq_true rfl) (by decide) rfl dX11_isQuiet_6 ?_
  refine j_if_ne K dX11_isQuiet_9 (tgt := 32) (by decide) hr (fun hr => ?_) (fun hr => ?_)
  · refine j_iconst K dX11_isQuiet_32 (v := 0) rfl ?_
    exact j_zreturn K dX11_isQuiet_33 rfl rfl F hr rfl
  · refine j_aload_n K dX11_isQuiet_12 0 rfl ?_
    refine j_vI0 K (ci := 11) hr (fun v h => c_X11_firstNoticed X1 h) ml_X11_219 ⟨_, rfl, rfl⟩ rfl (Nat.le_of_ble_eq_true rfl) (by decide) rfl (by decide) (by decide) (Nat.le_of_ble_eq_true rfl) dX11_isQuiet_13 (fun t2 h hr => ?_)
    refine j_iconst K dX11_isQuiet_16 (v := -1) rfl ?_
    refine j_icmp_ne K dX11_isQuiet_17 (tgt := 32) (by decide) hr (fun hr => ?_) (fun hr => ?_)
    · refine j_iconst K dX11_isQuiet_32 (v := 0) rfl ?_
      exact j_zreturn K dX11_isQuiet_33 rfl rfl F hr rfl
    · refine j_aload_n K dX11_isQuiet_20 0 rfl ?_
      refine j_vI0 K (ci := 11) hr (fun v h => c_X11_firstCrawl X1 h) ml_X11_226 ⟨_, rfl, rfl⟩ rfl (Nat.le_of_ble_eq_true rfl) (by decide) rfl (by decide) (by decide) (Nat.le_of_ble_eq_true rfl) dX11_isQuiet_21 (fun t3 h hr => ?_)
      refine j_iconst K dX11_isQuiet_24 (v := -1) rfl ?_
      refine j_icmp_ne K dX11_isQuiet_25 (tgt := 32) (by decide) hr (fun hr => ?_) (fun hr => ?_)
      · refine j_iconst K dX11_isQuiet_32 (v := 0) rfl ?_
        exact j_zreturn K dX11_isQuiet_33 rfl rfl F hr rfl
      · refine j_iconst K dX11_isQuiet_28 (v := 1) rfl ?_
        refine j_goto K dX11_isQuiet_29 (tgt := 33) (by decide) ?_
        exact j_zreturn K dX11_isQuiet_33 rfl rfl F hr rfl
theorem c_X11_isQuiet (X : JX) {r : (Int32 × JX)} (hr : f_X11_isQuiet X = some r) : Cal LY yX11_isQuiet cX11_isQuiet 1 (some .boolean) 1 (fun ad => [.ref (ad (0))]) X (fun ad => oM r) :=
  Cal.of (own := RX11) (fun ad => [(0, .ref (ad (0)))]) (by decide) rfl (fun _ => Nat.le_of_ble_eq_true rfl) (fun _ => rfl) (fun κ K F => jf_X11_isQuiet K X F hr)
theorem jb_X11_isTaken_63 {κ : JK} (K : jOk 6 cX11_isTaken RX11 (some .boolean) 0 κ) (X : JX) (v1 : Int32) (v2 : Int32) (v3 : Int32) (v5 : Int32) (s0 : Int32) {r : Int32} (F : jFin LY false (oI X r) κ) (rec6 : Int32 → Int32 → Option Int32) (hrec6 : ∀ (v4 : Int32) (v5 : Int32), rec6 v4 v5 = some r → J LY 6 κ X 6 [(0, .ref (jad κ (0))), (1, .int v1), (2, .int v2), (3, .int v3), (4, .int v4), (5, .int v5)] []) (hr : b_X11_isTaken_63 rec6 X v1 v2 v3 v5 s0 = some r) : J LY 6 κ X 63 [(0, .ref (jad κ (0))), (1, .int v1), (2, .int v2), (3, .int v3), (5, .int v5)] [.int s0] := by
  unfold b_X11_isTaken_63 at hr
  refine j_istore K dX11_isTaken_63 (by decide) ?_
  refine j_iincV K dX11_isTaken_65 (v := 1) 5 rfl rfl (by decide) hr (fun t1 hr => ?_)
  refine j_goto K dX11_isTaken_68 (tgt := 6) (by decide) ?_
  exact j_sub [2, 3, 4, 5, 1, 0] rfl (hrec6 _ _ hr)
theorem jl_X11_isTaken_6 {κ : JK} (K : jOk 6 cX11_isTaken RX11 (some .boolean) 0 κ) (X : JX) (v1 : Int32) (v2 : Int32) (v3 : Int32) {r : Int32} (F : jFin LY false (oI X r) κ) : ∀ (v4 : Int32) (v5 : Int32), l_X11_isTaken_6 X v1 v2 v3 v4 v5 = some r → J LY 6 κ X 6 [(0, .ref (jad κ (0))), (1, .int v1), (2, .int v2), (3, .int v3), (4, .int v4), (5, .int v5)] [] := by
  refine j_loop2 (P := fun v4 v5 => J LY 6 κ X 6 [(0, .ref (jad κ (0))), (1, .int v1), (2, .int v2), (3, .int v3), (4, .int v4), (5, .int v5)] []) (fun rec6 hrec6 v4 v5 hr => ?_) 1000
  unfold lb_X11_isTaken_6 at hr
  refine j_iload K dX11_isTaken_6 5 rfl ?_
  refine j_aload_n K dX11_isTaken_8 0 rfl ?_
  refine j_get K (v := .int (X (0) 2)) fl_X11_118 rfl (Nat.le_of_ble_eq_true rfl) (by decide) rfl dX11_isTaken_9 ?_
  refine j_icmp_ge K dX11_isTaken_12 (tgt := 71) (by decide) hr (fun hr => ?_) (fun hr => ?_)
  · refine j_iload K dX11_isTaken_71 4 rfl ?_
    exact j_guard hr (fun hz hr => j_zreturn K dX11_isTaken_73 rfl hz F hr rfl)
  · refine j_iload K dX11_isTaken_15 4 rfl ?_
    refine j_if_ne K dX11_isTaken_17 (tgt := 58) (by decide) hr (fun hr => ?_) (fun hr => ?_)
    · refine j_iconst K dX11_isTaken_58 (v := 1) rfl ?_
      refine j_goto K dX11_isTaken_59 (tgt := 63) (by decide) ?_
      exact j_sub [0, 1, 2, 3, 5] rfl (jb_X11_isTaken_63 K _ _ _ _ _ _ F rec6 hrec6 hr)
    · refine j_iload K dX11_isTaken_20 5 rfl ?_
      refine j_iload_n K dX11_isTaken_22 3 rfl ?_
      refine j_icmp_eq K dX11_isTaken_23 (tgt := 62) (by decide) hr (fun hr => ?_) (fun hr => ?_)
      · refine j_iconst K dX11_isTaken_62 (v := 0) rfl ?_
        exact j_sub [0, 1, 2, 3, 5] rfl (jb_X11_isTaken_63 K _ _ _ _ _ _ F rec6 hrec6 hr)
      · refine j_aload_n K dX11_isTaken_26 0 rfl ?_
        refine j_get K (v := .ref (jad κ (1))) fl_X11_7 rfl (Nat.le_of_ble_eq_true rfl) (by decide) rfl dX11_isTaken_27 ?_
        refine j_iload K dX11_isTaken_30 5 rfl ?_
        refine j_baload K (z := 60) rfl (Nat.le_of_ble_eq_true rfl) dX11_isTaken_32 hr (fun hr => ?_)
        refine j_if_eq K dX11_isTaken_33 (tgt := 62) (by decide) hr (fun hr => ?_) (fun hr => ?_)
        · refine j_iconst K dX11_isTaken_62 (v := 0) rfl ?_
          exact j_sub [0, 1, 2, 3, 5] rfl (jb_X11_isTaken_63 K _ _ _ _ _ _ F rec6 hrec6 hr)
        · refine j_aload_n K dX11_isTaken_36 0 rfl ?_
          refine j_get K (v := .ref (jad κ (3))) fl_X11_16 rfl (Nat.le_of_ble_eq_true rfl) (by decide) rfl dX11_isTaken_37 ?_
          refine j_iload K dX11_isTaken_40 5 rfl ?_
          refine j_iaload K (z := 60) rfl (Nat.le_of_ble_eq_true rfl) dX11_isTaken_42 hr (fun hr => ?_)
          refine j_iload_n K dX11_isTaken_43 1 rfl ?_
          refine j_icmp_ne K dX11_isTaken_44 (tgt := 62) (by decide) hr (fun hr => ?_) (fun hr => ?_)
          · refine j_iconst K dX11_isTaken_62 (v := 0) rfl ?_
            exact j_sub [0, 1, 2, 3, 5] rfl (jb_X11_isTaken_63 K _ _ _ _ _ _ F rec6 hrec6 hr)
          · refine j_aload_n K dX11_isTaken_47 0 rfl ?_
            refine j_get K (v := .ref (jad κ (4))) fl_X11_20 rfl (Nat.le_of_ble_eq_true rfl) (by decide) rfl dX11_isTaken_48 ?_
            refine j_iload K dX11_isTaken_51 5 rfl ?_
            refine j_caload K (z := 60) rfl (Nat.le_of_ble_eq_true rfl) dX11_isTaken_53 hr (fun hr => ?_)
            refine j_iload_n K dX11_isTaken_54 2 rfl ?_
            refine j_icmp_ne K dX11_isTaken_55 (tgt := 62) (by decide) hr (fun hr => ?_) (fun hr => ?_)
            · refine j_iconst K dX11_isTaken_62 (v := 0) rfl ?_
              exact j_sub [0, 1, 2, 3, 5] rfl (jb_X11_isTaken_63 K _ _ _ _ _ _ F rec6 hrec6 hr)
            · refine j_iconst K dX11_isTaken_58 (v := 1) rfl ?_
              refine j_goto K dX11_isTaken_59 (tgt := 63) (by decide) ?_
              exact j_sub [0, 1, 2, 3, 5] rfl (jb_X11_isTaken_63 K _ _ _ _ _ _ F rec6 hrec6 hr)
theorem jf_X11_isTaken {κ : JK} (K : jOk 6 cX11_isTaken RX11 (some .boolean) 0 κ) (X : JX) (v1 : Int32) (v2 : Int32) (v3 : Int32) {r : Int32} (F : jFin LY false (oI X r) κ) (hr : f_X11_isTaken X v1 v2 v3 = some r) : J LY 6 κ X 0 [(0, .ref (jad κ (0))), (1, .int v1), (2, .int v2), (3, .int v3)] [] := by
  unfold f_X11_isTaken at hr
  refine j_iconst K dX11_isTaken_0 (v := 0) rfl ?_
  refine j_istore K dX11_isTaken_1 (by decide) ?_
  refine j_iconst K dX11_isTaken_3 (v := 0) rfl ?_
  refine j_istore K dX11_isTaken_4 (by decide) ?_
  exact j_sub [2, 3, 4, 5, 1, 0] rfl (jl_X11_isTaken_6 K _ _ _ _ F _ _ hr)
theorem c_X11_isTaken (X : JX) (v1 : Int32) (v2 : Int32) (v3 : Int32) {r : Int32} (hr : f_X11_isTaken X v1 v2 v3 = some r) : Cal LY yX11_isTaken cX11_isTaken 6 (some .boolean) 0 (fun ad => [.ref (ad (0)), .int v1, .int v2, .int v3]) X (fun ad => oI X r) :=
  Cal.of (own := RX11) (fun ad => [(0, .ref (ad (0))), (1, .int v1), (2, .int v2), (3, .int v3)]) (by decide) rfl (fun _ => Nat.le_of_ble_eq_true rfl) (fun _ => rfl) (fun κ K F => jf_X11_isTaken K X v1 v2 v3 F hr)
theorem jb_X11_limits_25 {κ : JK} (K : jOk 4 cX11_limits RX11 (some .int) 1 κ) (X : JX) (v1 : Int32) (v2 : Int32) (s0 : Int32) {r : (Int32 × JX)} (F : jFin LY false (oM r) κ) (hr : b_X11_limits_25 X v1 v2 s0 = some r) : J LY 4 κ X 25 [(0, .ref (jad κ (0))), (1, .int v1), (2, .int v2)] [.int s0, .ref (jad κ (0))] := by
  unfold b_X11_limits_25 at hr
  refine j_putiV K fp_X11_121 rfl (Nat.le_of_ble_eq_true rfl) (by decide) (fun _ => Nat.le_of_ble_eq_true rfl) (fun _ => rfl) dX11_limits_25 hr (fun X3 hr => ?_)
  refine j_aload_n K dX11_limits_28 0 rfl ?_
  refine j_get K (v := .int (X3 (0) 0)) fl_X11_121 rfl (Nat.le_of_ble_eq_true rfl) (by decide) rfl dX11_limits_29 ?_
  refine j_if_le K dX11_limits_32 (tgt := 37) (by decide) hr (fun hr => ?_) (fun hr => ?_)
  · refine j_aload_n K dX11_limits_37 0 rfl ?_
    refine j_get K (v := .int (X3 (0) 29)) fl_X11_88 rfl (Nat.le_of_ble_eq_true rfl) (by decide) rfl dX11_limits_38 ?_
    refine j_istoreV_n K dX11_limits_41 (by decide) hr (fun t4 hr => ?_)
    refine j_aload_n K dX11_limits_42 1 rfl ?_
    refine j_iload_n K dX11_limits_43 2 rfl ?_
    refine j_putiV K fp_X11_84 rfl (Nat.le_of_ble_eq_true rfl) (by decide) (fun _ => Nat.le_of_ble_eq_true rfl) (fun _ => rfl) dX11_limits_44 hr (fun X5 hr => ?_)
    refine j_aload_n K dX11_limits_47 1 rfl ?_
    refine j_iload_n K dX11_limits_48 3 rfl ?_
    refine j_putiV K fp_X11_88 rfl (Nat.le_of_ble_eq_true rfl) (by decide) (fun _ => Nat.le_of_ble_eq_true rfl) (fun _ => rfl) dX11_limits_49 hr (fun X6 hr => ?_)
    refine j_iload_n K dX11_limits_52 0 rfl ?_
    exact j_ireturn K dX11_limits_53 rfl F hr rfl
  · refine j_iconst K dX11_limits_35 (v := 0) rfl ?_
    exact j_ireturn K dX11_limits_36 rfl F hr rfl
theorem jf_X11_limits {κ : JK} (K : jOk 4 cX11_limits RX11 (some .int) 1 κ) (X : JX) (v1 : Int32) (v2 : Int32) {r : (Int32 × JX)} (F : jFin LY false (oM r) κ) (hr : f_X11_limits X v1 v2 = some r) : J LY 4 κ X 0 [(0, .ref (jad κ (0))), (1, .int v1), (2, .int v2)] [] := by
  unfold f_X11_limits at hr
  refine j_aload_n K dX11_limits_0 0 rfl ?_
  refine j_iload_n K dX11_limits_1 1 rfl ?_
  refine j_iconst K dX11_limits_2 (v := 0) rfl ?_
  refine j_iconst K dX11_limits_3 (v := 3) rfl ?_
  refine j_sI3 K hr (fun v h => c_X11_in X v1 (0) (3) h) ms_X11_124 rfl (by decide) (by decide) (Nat.le_of_ble_eq_true rfl) dX11_limits_4 (fun t1 h hr => ?_)
  refine j_if_eq K dX11_limits_7 (tgt := 24) (by decide) hr (fun hr => ?_) (fun hr => ?_)
  · refine j_iconst K dX11_limits_24 (v := 1) rfl ?_
    exact j_sub [0, 1, 2] rfl (jb_X11_limits_25 K _ _ _ _ F hr)
  · refine j_iload_n K dX11_limits_10 2 rfl ?_
    refine j_iconst K dX11_limits_11 (v := 1) rfl ?_
    refine j_bipush K dX11_limits_12 (v := 20) rfl ?_
    refine j_sI3 K hr (fun v h => c_X11_in X v2 (1) (20) h) ms_X11_124 rfl (by decide) (by decide) (Nat.le_of_ble_eq_true rfl) dX11_limits_14 (fun t2 h hr => ?_)
    refine j_if_eq K dX11_limits_17 (tgt := 24) (by decide) hr (fun hr => ?_) (fun hr => ?_)
    · refine j_iconst K dX11_limits_24 (v := 1) rfl ?_
      exact j_sub [0, 1, 2] rfl (jb_X11_limits_25 K _ _ _ _ F hr)
    · refine j_iconst K dX11_limits_20 (v := 0) rfl ?_
      refine j_goto K dX11_limits_21 (tgt := 25) (by decide) ?_
      exact j_sub [0, 1, 2] rfl (jb_X11_limits_25 K _ _ _ _ F hr)
theorem c_X11_limits (X : JX) (v1 : Int32) (v2 : Int32) {r : (Int32 × JX)} (hr : f_X11_limits X v1 v2 = some r) : Cal LY yX11_limits cX11_limits 4 (some .int) 1 (fun ad => [.ref (ad (0)), .int v1, .int v2]) X (fun ad => oM r) :=
  Cal.of (own := RX11) (fun ad => [(0, .ref (ad (0))), (1, .int v1), (2, .int v2)]) (by decide) rfl (fun _ => Nat.le_of_ble_eq_true rfl) (fun _ => rfl) (fun κ K F => jf_X11_limits K X v1 v2 F hr)
theorem jb_X11_lock_14 {κ : JK} (K : jOk 4 cX11_lock RX11 (some .boolean) 3 κ) (X : JX) (v1 : Int32) (v2 : Int32) (s0 : Int32) {r : (Int32 × JX)} (F : jFin LY false (oM r) κ) (hr : b_X11_lock_14 X v1 v2 s0 = some r) : J LY 4 κ X 14 [(0, .ref (jad κ (0))), (1, .int v1), (2, .int v2)] [.int s0, .ref (jad κ (0))] := by
  unfold b_X11_lock_14 at hr
  refine j_putiV K fp_X11_121 rfl (Nat.le_of_ble_eq_true rfl) (by decide) (fun _ => Nat.le_of_ble_eq_true rfl) (fun _ => rfl) dX11_lock_14 hr (fun X2 hr => ?_)
  refine j_aload_n K dX11_lock_17 0 rfl ?_
  refine j_get K (v := .int (X2 (0) 0)) fl_X11_121 rfl (Nat.le_of_ble_eq_true rfl) (by decide) rfl dX11_lock_18 ?_
  refine j_if_le K dX11_lock_21 (tgt := 26) (by decide) hr (fun hr => ?_) (fun hr => ?_)
  · refine j_aload_n K dX11_lock_26 0 rfl ?_
    refine j_get K (v := .ref (jad κ (8))) fl_X11_33 rfl (Nat.le_of_ble_eq_true rfl) (by decide) rfl dX11_lock_27 ?_
    refine j_iload_n K dX11_lock_30 1 rfl ?_
    refine j_baload K (z := 60) rfl (Nat.le_of_ble_eq_true rfl) dX11_lock_31 hr (fun hr => ?_)
    refine j_istoreV_n K dX11_lock_32 (by decide) hr (fun t3 hr => ?_)
    refine j_aload_n K dX11_lock_33 1 rfl ?_
    refine j_get K (v := .ref (jad κ (8))) fl_X11_33 rfl (Nat.le_of_ble_eq_true rfl) (by decide) rfl dX11_lock_34 ?_
    refine j_iload_n K dX11_lock_37 2 rfl ?_
    refine j_iload_n K dX11_lock_38 3 rfl ?_
    refine j_bastoreV K (z := 60) rfl (Nat.le_of_ble_eq_true rfl) dX11_lock_39 hr (fun X4 hr => ?_)
    refine j_iload_n K dX11_lock_40 0 rfl ?_
    exact j_guard hr (fun hz hr => j_zreturn K dX11_lock_41 rfl hz F hr rfl)
  · refine j_iconst K dX11_lock_24 (v := 0) rfl ?_
    exact j_zreturn K dX11_lock_25 rfl rfl F hr rfl
theorem jf_X11_lock {κ : JK} (K : jOk 4 cX11_lock RX11 (some .boolean) 3 κ) (X : JX) (v1 : Int32) (v2 : Int32) {r : (Int32 × JX)} (F : jFin LY false (oM r) κ) (hr : f_X11_lock X v1 v2 = some r) : J LY 4 κ X 0 [(0, .ref (jad κ (0))), (1, .int v1), (2, .int v2)] [] := by
  unfold f_X11_lock at hr
  refine j_aload_n K dX11_lock_0 0 rfl ?_
  refine j_aload_n K dX11_lock_1 0 rfl ?_
  refine j_iload_n K dX11_lock_2 1 rfl ?_
  refine j_vI1 K (ci := 11) hr (fun v h => c_X11_isFileAt X v1 h) ml_X11_157 ⟨_, rfl, rfl⟩ rfl (Nat.le_of_ble_eq_true rfl) (by decide) rfl (by decide) (by decide) (Nat.le_of_ble_eq_true rfl) dX11_lock_3 (fun t1 h hr => ?_)
  refine j_if_eq K dX11_lock_6 (tgt := 13) (by decide) hr (fun hr => ?_) (fun hr => ?_)
  · refine j_iconst K dX11_lock_13 (v := 1) rfl ?_
    exact j_sub [0, 1, 2] rfl (jb_X11_lock_14 K _ _ _ _ F hr)
  · refine j_iconst K dX11_lock_9 (v := 0) rfl ?_
    refine j_goto K dX11_lock_10 (tgt := 14) (by decide) ?_
    exact j_sub [0, 1, 2] rfl (jb_X11_lock_14 K _ _ _ _ F hr)
theorem c_X11_lock (X : JX) (v1 : Int32) (v2 : Int32) {r : (Int32 × JX)} (hr : f_X11_lock X v1 v2 = some r) : Cal LY yX11_lock cX11_lock 4 (some .boolean) 3 (fun ad => [.ref (ad (0)), .int v1, .int v2]) X (fun ad => oM r) :=
  Cal.of (own := RX11) (fun ad => [(0, .ref (ad (0))), (1, .int v1), (2, .int v2)]) (by decide) rfl (fun _ => Nat.le_of_ble_eq_true rfl) (fun _ => rfl) (fun κ K F => jf_X11_lock K X v1 v2 F hr)
theorem jb_X11_looksAtLost_25 {κ : JK} (K : jOk 2 cX11_looksAtLost RX11 none 1 κ) (X : JX) (v1 : Int32) {r : JX} (F : jFin LY false (oU r) κ) (rec2 : JX → Int32 → Option JX) (hrec2 : ∀ (X : JX) (v1 : Int32), rec2 X v1 = some r → J LY 2 κ X 2 [(0, .ref (jad κ (0))), (1, .int v1)] []) (hr : b_X11_looksAtLost_25 rec2 X v1 = some r) : J LY 2 κ X 25 [(0, .ref (jad κ (0))), (1, .int v1)] [] := by
  unfold b_X11_looksAtLost_25 at hr
  refine j_iincV K dX11_looksAtLost_25 (v := 1) 1 rfl rfl (by decide) hr (fun t2 hr => ?_)
  refine j_goto K dX11_looksAtLost_28 (tgt := 2) (by decide) ?_
  exact j_sub [1, 0] rfl (hrec2 _ _ hr)
theorem jl_X11_looksAtLost_2 {κ : JK} (K : jOk 2 cX11_looksAtLost RX11 none 1 κ) {r : JX} (F : jFin LY false (oU r) κ) : ∀ (X : JX) (v1 : Int32), l_X11_looksAtLost_2 X v1 = some r → J LY 2 κ X 2 [(0, .ref (jad κ (0))), (1, .int v1)] [] := by
  refine j_loop2 (P := fun X v1 => J LY 2 κ X 2 [(0, .ref (jad κ (0))), (1, .int v1)] []) (fun rec2 hrec2 X v1 hr => ?_) 1000
  unfold lb_X11_looksAtLost_2 at hr
  refine j_iload_n K dX11_looksAtLost_2 1 rfl ?_
  refine j_aload_n K dX11_looksAtLost_3 0 rfl ?_
  refine j_get K (v := .int (X (0) 2)) fl_X11_118 rfl (Nat.le_of_ble_eq_true rfl) (by decide) rfl dX11_looksAtLost_4 ?_
  refine j_icmp_ge K dX11_looksAtLost_7 (tgt := 31) (by decide) hr (fun hr => ?_) (fun hr => ?_)
  · exact j_return K dX11_looksAtLost_31 rfl F hr rfl
  · refine j_aload_n K dX11_looksAtLost_10 0 rfl ?_
    refine j_get K (v := .ref (jad κ (19))) fl_X11_66 rfl (Nat.le_of_ble_eq_true rfl) (by decide) rfl dX11_looksAtLost_11 ?_
    refine j_iload_n K dX11_looksAtLost_14 1 rfl ?_
    refine j_baload K (z := 60) rfl (Nat.le_of_ble_eq_true rfl) dX11_looksAtLost_15 hr (fun hr => ?_)
    refine j_if_eq K dX11_looksAtLost_16 (tgt := 25) (by decide) hr (fun hr => ?_) (fun hr => ?_)
    · exact j_sub [0, 1] rfl (jb_X11_looksAtLost_25 K _ _ F rec2 hrec2 hr)
    · refine j_aload_n K dX11_looksAtLost_19 0 rfl ?_
      refine j_iload_n K dX11_looksAtLost_20 1 rfl ?_
      refine j_iconst K dX11_looksAtLost_21 (v := 1) rfl ?_
      refine j_vU2 K (ci := 11) hr (fun v h => c_X11_adds X v1 (1) h) ml_X11_176 ⟨_, rfl, rfl⟩ rfl (Nat.le_of_ble_eq_true rfl) (by decide) rfl (by decide) (by decide) (Nat.le_of_ble_eq_true rfl) dX11_looksAtLost_22 (fun X1 h hr => ?_)
      exact j_sub [0, 1] rfl (jb_X11_looksAtLost_25 K _ _ F rec2 hrec2 hr)
theorem jf_X11_looksAtLost {κ : JK} (K : jOk 2 cX11_looksAtLost RX11 none 1 κ) (X : JX) {r : JX} (F : jFin LY false (oU r) κ) (hr : f_X11_looksAtLost X = some r) : J LY 2 κ X 0 [(0, .ref (jad κ (0)))] [] := by
  unfold f_X11_looksAtLost at hr
  refine j_iconst K dX11_looksAtLost_0 (v := 0) rfl ?_
  refine j_istore_n K dX11_looksAtLost_1 (by decide) ?_
  exact j_sub [1, 0] rfl (jl_X11_looksAtLost_2 K F _ _ hr)
theorem c_X11_looksAtLost (X : JX) {r : JX} (hr : f_X11_looksAtLost X = some r) : Cal LY yX11_looksAtLost cX11_looksAtLost 2 none 1 (fun ad => [.ref (ad (0))]) X (fun ad => oU r) :=
  Cal.of (own := RX11) (fun ad => [(0, .ref (ad (0)))]) (by decide) rfl (fun _ => Nat.le_of_ble_eq_true rfl) (fun _ => rfl) (fun κ K F => jf_X11_looksAtLost K X F hr)
theorem jb_X11_lose_70 {κ : JK} (K : jOk 4 cX11_lose RX11 (some .int) 1 κ) (X : JX) (v3 : Int32) (s0 : Int32) (s1 : Int32) (s2 : Int32) {r : (Int32 × JX)} (F : jFin LY false (oM r) κ) (hr : b_X11_lose_70 X v3 s0 s1 s2 = some r) : J LY 4 κ X 70 [(0, .ref (jad κ (0))), (3, .int v3)] [.int s0, .int s1, .int s2, .ref (jad κ (11))] := by
  unfold b_X11_lose_70 at hr
  refine j_isub K dX11_lose_70 ?_
  refine j_iastoreV K (z := 4) rfl (Nat.le_of_ble_eq_true rfl) dX11_lose_71 hr (fun X4 hr => ?_)
  refine j_aload_n K dX11_lose_72 0 rfl ?_
  refine j_get K (v := .ref (jad κ (11))) fl_X11_42 rfl (Nat.le_of_ble_eq_true rfl) (by decide) rfl dX11_lose_73 ?_
  refine j_iload_n K dX11_lose_76 1 rfl ?_
  refine j_iaload K (z := 4) rfl (Nat.le_of_ble_eq_true rfl) dX11_lose_77 hr (fun hr => ?_)
  exact j_ireturn K dX11_lose_78 rfl F hr rfl
theorem jb_X11_lose_31 {κ : JK} (K : jOk 4 cX11_lose RX11 (some .int) 1 κ) (X : JX) (v2 : Int32) (v3 : Int32) (s0 : Int32) {r : (Int32 × JX)} (F : jFin LY false (oM r) κ) (hr : b_X11_lose_31 X v2 v3 s0 = some r) : J LY 4 κ X 31 [(0, .ref (jad κ (0))), (2, .int v2), (3, .int v3)] [.int s0, .ref (jad κ (0))] := by
  unfold b_X11_lose_31 at hr
  refine j_putiV K fp_X11_121 rfl (Nat.le_of_ble_eq_true rfl) (by decide) (fun _ => Nat.le_of_ble_eq_true rfl) (fun _ => rfl) dX11_lose_31 hr (fun X3 hr => ?_)
  refine j_aload_n K dX11_lose_34 0 rfl ?_
  refine j_get K (v := .int (X3 (0) 0)) fl_X11_121 rfl (Nat.le_of_ble_eq_true rfl) (by decide) rfl dX11_lose_35 ?_
  refine j_if_le K dX11_lose_38 (tgt := 43) (by decide) hr (fun hr => ?_) (fun hr => ?_)
  · refine j_aload_n K dX11_lose_43 0 rfl ?_
    refine j_get K (v := .ref (jad κ (11))) fl_X11_42 rfl (Nat.le_of_ble_eq_true rfl) (by decide) rfl dX11_lose_44 ?_
    refine j_iload_n K dX11_lose_47 2 rfl ?_
    refine j_dup2 K dX11_lose_48 rfl rfl ?_
    refine j_iaload K (z := 4) rfl (Nat.le_of_ble_eq_true rfl) dX11_lose_49 hr (fun hr => ?_)
    refine j_iload_n K dX11_lose_50 1 rfl ?_
    refine j_aload_n K dX11_lose_51 0 rfl ?_
    refine j_get K (v := .ref (jad κ (11))) fl_X11_42 rfl (Nat.le_of_ble_eq_true rfl) (by decide) rfl dX11_lose_52 ?_
    refine j_iload_n K dX11_lose_55 2 rfl ?_
    refine j_iaload K (z := 4) rfl (Nat.le_of_ble_eq_true rfl) dX11_lose_56 hr (fun hr => ?_)
    refine j_icmp_ge K dX11_lose_57 (tgt := 64) (by decide) hr (fun hr => ?_) (fun hr => ?_)
    · refine j_aload_n K dX11_lose_64 0 rfl ?_
      refine j_get K (v := .ref (jad κ (11))) fl_X11_42 rfl (Nat.le_of_ble_eq_true rfl) (by decide) rfl dX11_lose_65 ?_
      refine j_iload_n K dX11_lose_68 2 rfl ?_
      refine j_iaload K (z := 4) rfl (Nat.le_of_ble_eq_true rfl) dX11_lose_69 hr (fun hr => ?_)
      exact j_sub [0, 2] rfl (jb_X11_lose_70 K _ _ _ _ _ F hr)
    · refine j_iload_n K dX11_lose_60 1 rfl ?_
      refine j_goto K dX11_lose_61 (tgt := 70) (by decide) ?_
      exact j_sub [0, 2] rfl (jb_X11_lose_70 K _ _ _ _ _ F hr)
  · refine j_iconst K dX11_lose_41 (v := 0) rfl ?_
    exact j_ireturn K dX11_lose_42 rfl F hr rfl
theorem jf_X11_lose {κ : JK} (K : jOk 4 cX11_lose RX11 (some .int) 1 κ) (X : JX) (v1 : Int32) (v2 : Int32) {r : (Int32 × JX)} (F : jFin LY false (oM r) κ) (hr : f_X11_lose X v1 v2 = some r) : J LY 4 κ X 0 [(0, .ref (jad κ (0))), (1, .int v1), (2, .int v2)] [] := by
  unfold f_X11_lose at hr
  refine j_aload_n K dX11_lose_0 0 rfl ?_
  refine j_iload_n K dX11_lose_1 1 rfl ?_
  refine j_vI1 K (ci := 11) hr (fun v h => c_X11_rootAt X v1 h) ml_X11_163 ⟨_, rfl, rfl⟩ rfl (Nat.le_of_ble_eq_true rfl) (by decide) rfl (by decide) (by decide) (Nat.le_of_ble_eq_true rfl) dX11_lose_2 (fun t1 h hr => ?_)
  refine j_istore_n K dX11_lose_5 (by decide) ?_
  refine j_aload_n K dX11_lose_6 1 rfl ?_
  refine j_iload_n K dX11_lose_7 0 rfl ?_
  refine j_iconst K dX11_lose_8 (v := -1) rfl ?_
  refine j_icmp_ne K dX11_lose_9 (tgt := 16) (by decide) hr (fun hr => ?_) (fun hr => ?_)
  · refine j_iload_n K dX11_lose_16 3 rfl ?_
    refine j_iconst K dX11_lose_17 (v := 1) rfl ?_
    refine j_bipush K dX11_lose_18 (v := 8) rfl ?_
    refine j_sI3 K hr (fun v h => c_X11_in X v2 (1) (8) h) ms_X11_124 rfl (by decide) (by decide) (Nat.le_of_ble_eq_true rfl) dX11_lose_20 (fun t2 h hr => ?_)
    refine j_if_eq K dX11_lose_23 (tgt := 30) (by decide) hr (fun hr => ?_) (fun hr => ?_)
    · refine j_iconst K dX11_lose_30 (v := 2) rfl ?_
      exact j_sub [1, 3, 0] rfl (jb_X11_lose_31 K _ _ _ _ F hr)
    · refine j_iconst K dX11_lose_26 (v := 0) rfl ?_
      refine j_goto K dX11_lose_27 (tgt := 31) (by decide) ?_
      exact j_sub [1, 3, 0] rfl (jb_X11_lose_31 K _ _ _ _ F hr)
  · refine j_iconst K dX11_lose_12 (v := 1) rfl ?_
    refine j_goto K dX11_lose_13 (tgt := 31) (by decide) ?_
    exact j_sub [1, 3, 0] rfl (jb_X11_lose_31 K _ _ _ _ F hr)
theorem c_X11_lose (X : JX) (v1 : Int32) (v2 : Int32) {r : (Int32 × JX)} (hr : f_X11_lose X v1 v2 = some r) : Cal LY yX11_lose cX11_lose 4 (some .int) 1 (fun ad => [.ref (ad (0)), .int v1, .int v2]) X (fun ad => oM r) :=
  Cal.of (own := RX11) (fun ad => [(0, .ref (ad (0))), (1, .int v1), (2, .int v2)]) (by decide) rfl (fun _ => Nat.le_of_ble_eq_true rfl) (fun _ => rfl) (fun κ K F => jf_X11_lose K X v1 v2 F hr)
theorem jb_X11_make_54 {κ : JK} (K : jOk 5 cX11_make RX11 (some .int) 3 κ) (X : JX) (v1 : Int32) (v2 : Int32) (v3 : Int32) (s0 : Int32) {r : (Int32 × JX)} (F : jFin LY false (oM r) κ) (hr : b_X11_make_54 X v1 v2 v3 s0 = some r) : J LY 5 κ X 54 [(0, .ref (jad κ (0))), (1, .int v1), (2, .int v2), (3, .int v3)] [.int s0, .ref (jad κ (0))] := by
  unfold b_X11_make_54 at hr
  refine j_putiV K fp_X11_121 rfl (Nat.le_of_ble_eq_true rfl) (by decide) (fun _ => Nat.le_of_ble_eq_true rfl) (fun _ => rfl) dX11_make_54 hr (fun X5 hr => ?_)
  refine j_aload_n K dX11_make_57 0 rfl ?_
  refine j_get K (v := .int (X5 (0) 0)) fl_X11_121 rfl (Nat.le_of_ble_eq_true rfl) (by decide) rfl dX11_make_58 ?_
  refine j_if_le K dX11_make_61 (tgt := 66) (by decide) hr (fun hr => ?_) (fun hr => ?_)
  · refine j_aload_n K dX11_make_66 0 rfl ?_
    refine j_get K (v := .int (X5 (0) 2)) fl_X11_118 rfl (Nat.le_of_ble_eq_true rfl) (by decide) rfl dX11_make_67 ?_
    refine j_istoreV K dX11_make_70 (by decide) hr (fun t6 hr => ?_)
    refine j_aload_n K dX11_make_72 1 rfl ?_
    refine j_get K (v := .ref (jad κ (1))) fl_X11_7 rfl (Nat.le_of_ble_eq_true rfl) (by decide) rfl dX11_make_73 ?_
    refine j_iload K dX11_make_76 0 rfl ?_
    refine j_iconst K dX11_make_78 (v := 1) rfl ?_
    refine j_bastoreV K (z := 60) rfl (Nat.le_of_ble_eq_true rfl) dX11_make_79 hr (fun X7 hr => ?_)
    refine j_aload_n K dX11_make_80 1 rfl ?_
    refine j_get K (v := .ref (jad κ (2))) fl_X11_13 rfl (Nat.le_of_ble_eq_true rfl) (by decide) rfl dX11_make_81 ?_
    refine j_iload K dX11_make_84 0 rfl ?_
    refine j_iload_n K dX11_make_86 4 rfl ?_
    refine j_bastoreV K (z := 60) rfl (Nat.le_of_ble_eq_true rfl) dX11_make_87 hr (fun X8 hr => ?_)
    refine j_aload_n K dX11_make_88 1 rfl ?_
    refine j_get K (v := .ref (jad κ (3))) fl_X11_16 rfl (Nat.le_of_ble_eq_true rfl) (by decide) rfl dX11_make_89 ?_
    refine j_iload K dX11_make_92 0 rfl ?_
    refine j_iload_n K dX11_make_94 2 rfl ?_
    refine j_iastoreV K (z := 60) rfl (Nat.le_of_ble_eq_true rfl) dX11_make_95 hr (fun X9 hr => ?_)
    refine j_aload_n K dX11_make_96 1 rfl ?_
    refine j_get K (v := .ref (jad κ (4))) fl_X11_20 rfl (Nat.le_of_ble_eq_true rfl) (by decide) rfl dX11_make_97 ?_
    refine j_iload K dX11_make_100 0 rfl ?_
    refine j_iload_n K dX11_make_102 3 rfl ?_
    refine j_castoreV K (z := 60) rfl (Nat.le_of_ble_eq_true rfl) dX11_make_103 hr (fun X10 hr => ?_)
    refine j_aload_n K dX11_make_104 1 rfl ?_
    refine j_get K (v := .ref (jad κ (5))) fl_X11_24 rfl (Nat.le_of_ble_eq_true rfl) (by decide) rfl dX11_make_105 ?_
    refine j_iload K dX11_make_108 0 rfl ?_
    refine j_iconst K dX11_make_110 (v := 1) rfl ?_
    refine j_iastoreV K (z := 60) rfl (Nat.le_of_ble_eq_true rfl) dX11_make_111 hr (fun X11 hr => ?_)
    refine j_aload_n K dX11_make_112 1 rfl ?_
    refine j_get K (v := .ref (jad κ (9))) fl_X11_36 rfl (Nat.le_of_ble_eq_true rfl) (by decide) rfl dX11_make_113 ?_
    refine j_iload K dX11_make_116 0 rfl ?_
    refine j_bipush K dX11_make_118 (v := 15) rfl ?_
    refine j_iastoreV K (z := 60) rfl (Nat.le_of_ble_eq_true rfl) dX11_make_120 hr (fun X12 hr => ?_)
    refine j_aload_n K dX11_make_121 1 rfl ?_
    refine j_dup K dX11_make_122 rfl ?_
    refine j_get K (v := .int (X12 (0) 2)) fl_X11_118 rfl (Nat.le_of_ble_eq_true rfl) (by decide) rfl dX11_make_123 ?_
    refine j_iconst K dX11_make_126 (v := 1) rfl ?_
    refine j_iadd K dX11_make_127 ?_
    refine j_putiV K fp_X11_118 rfl (Nat.le_of_ble_eq_true rfl) (by decide) (fun _ => Nat.le_of_ble_eq_true rfl) (fun _ => rfl) dX11_make_128 hr (fun X13 hr => ?_)
    refine j_aload_n K dX11_make_131 1 rfl ?_
    refine j_aload_n K dX11_make_132 1 rfl ?_
    refine j_iload K dX11_make_133 0 rfl ?_
    refine j_vI1 K (ci := 11) hr (fun v h => c_X11_over X13 t6 h) ml_X11_150 ⟨_, rfl, rfl⟩ rfl (Nat.le_of_ble_eq_true rfl) (by decide) rfl (by decide) (by decide) (Nat.le_of_ble_eq_true rfl) dX11_make_135 (fun t14 h hr => ?_)
    refine j_iconst K dX11_make_138 (v := 0) rfl ?_
    refine j_iload K dX11_make_139 0 rfl ?_
    refine j_vU3 K (ci := 11) hr (fun v h => c_X11_comes X13 t14 (0) t6 h) ml_X11_153 ⟨_, rfl, rfl⟩ rfl (Nat.le_of_ble_eq_true rfl) (by decide) rfl (by decide) (by decide) (Nat.le_of_ble_eq_true rfl) dX11_make_141 (fun X15 h hr => ?_)
    refine j_iload K dX11_make_144 0 rfl ?_
    exact j_ireturn K dX11_make_146 rfl F hr rfl
  · refine j_iconst K dX11_make_64 (v := 0) rfl ?_
    exact j_ireturn K dX11_make_65 rfl F hr rfl
theorem jf_X11_make {κ : JK} (K : jOk 5 cX11_make RX11 (some .int) 3 κ) (X : JX) (v1 : Int32) (v2 : Int32) (v3 : Int32) {r : (Int32 × JX)} (F : jFin LY false (oM r) κ) (hr : f_X11_make X v1 v2 v3 = some r) : J LY 5 κ X 0 [(0, .ref (jad κ (0))), (1, .int v1), (2, .int v2), (3, .int v3)] [] := by
  unfold f_X11_make at hr
  refine j_aload_n K dX11_make_0 0 rfl ?_
  refine j_iload_n K dX11_make_1 1 rfl ?_
  refine j_vI1 K (ci := 11) hr (fun v h => c_X11_isFolderAt X v1 h) ml_X11_139 ⟨_, rfl, rfl⟩ rfl (Nat.le_of_ble_eq_true rfl) (by decide) rfl (by decide) (by decide) (Nat.le_of_ble_eq_true rfl) dX11_make_2 (fun t1 h hr => ?_)
  refine j_if_ne K dX11_make_5 (tgt := 14) (by decide) hr (fun hr => ?_) (fun hr => ?_)
  · refine j_aload_n K dX11_make_14 0 rfl ?_
    refine j_iload_n K dX11_make_15 2 rfl ?_
    refine j_bipush K dX11_make_16 (v := 97) rfl ?_
    refine j_bipush K dX11_make_18 (v := 122) rfl ?_
    refine j_sI3 K hr (fun v h => c_X11_in X v2 (97) (122) h) ms_X11_124 rfl (by decide) (by decide) (Nat.le_of_ble_eq_true rfl) dX11_make_20 (fun t2 h hr => ?_)
    refine j_if_ne K dX11_make_23 (tgt := 30) (by decide) hr (fun hr => ?_) (fun hr => ?_)
    · refine j_aload_n K dX11_make_30 0 rfl ?_
      refine j_iload_n K dX11_make_31 1 rfl ?_
      refine j_iload_n K dX11_make_32 2 rfl ?_
      refine j_iconst K dX11_make_33 (v := -1) rfl ?_
      refine j_vI3 K (ci := 11) hr (fun v h => c_X11_isTaken X v1 v2 (-1) h) ml_X11_146 ⟨_, rfl, rfl⟩ rfl (Nat.le_of_ble_eq_true rfl) (by decide) rfl (by decide) (by decide) (Nat.le_of_ble_eq_true rfl) dX11_make_34 (fun t3 h hr => ?_)
      refine j_if_ne K dX11_make_37 (tgt := 49) (by decide) hr (fun hr => ?_) (fun hr => ?_)
      · refine j_iconst K dX11_make_49 (v := 3) rfl ?_
        refine j_goto K dX11_make_50 (tgt := 54) (by decide) ?_
        exact j_sub [0, 1, 2, 3] rfl (jb_X11_make_54 K _ _ _ _ _ F hr)
      · refine j_aload_n K dX11_make_40 0 rfl ?_
        refine j_get K (v := .int (X (0) 2)) fl_X11_118 rfl (Nat.le_of_ble_eq_true rfl) (by decide) rfl dX11_make_41 ?_
        refine j_bipush K dX11_make_44 (v := 60) rfl ?_
        refine j_icmp_ne K dX11_make_46 (tgt := 53) (by decide) hr (fun hr => ?_) (fun hr => ?_)
        · refine j_iconst K dX11_make_53 (v := 0) rfl ?_
          exact j_sub [0, 1, 2, 3] rfl (jb_X11_make_54 K _ _ _ _ _ F hr)
        · refine j_iconst K dX11_make_49 (v := 3) rfl ?_
          refine j_goto K dX11_make_50 (tgt := 54) (by decide) ?_
          exact j_sub [0, 1, 2, 3] rfl (jb_X11_make_54 K _ _ _ _ _ F hr)
    · refine j_iconst K dX11_make_26 (v := 2) rfl ?_
      refine j_goto K dX11_make_27 (tgt := 54) (by decide) ?_
      exact j_sub [0, 1, 2, 3] rfl (jb_X11_make_54 K _ _ _ _ _ F hr)
  · refine j_aload_n K dX11_make_8 0 rfl ?_
    refine j_iconst K dX11_make_9 (v := 1) rfl ?_
    refine j_vM1 K (ci := 11) hr (fun v h => c_X11_fails X (1) h) ml_X11_142 ⟨_, rfl, rfl⟩ rfl (Nat.le_of_ble_eq_true rfl) (by decide) rfl (by decide) (by decide) (Nat.le_of_ble_eq_true rfl) dX11_make_10 (fun t4 h hr => ?_)
    exact j_ireturn K dX11_make_13 rfl F hr rfl
theorem c_X11_make (X : JX) (v1 : Int32) (v2 : Int32) (v3 : Int32) {r : (Int32 × JX)} (hr : f_X11_make X v1 v2 v3 = some r) : Cal LY yX11_make cX11_make 5 (some .int) 3 (fun ad => [.ref (ad (0)), .int v1, .int v2, .int v3]) X (fun ad => oM r) :=
  Cal.of (own := RX11) (fun ad => [(0, .ref (ad (0))), (1, .int v1), (2, .int v2), (3, .int v3)]) (by decide) rfl (fun _ => Nat.le_of_ble_eq_true rfl) (fun _ => rfl) (fun κ K F => jf_X11_make K X v1 v2 v3 F hr)
theorem jb_X11_mayRead_23 {κ : JK} (K : jOk 3 cX11_mayRead RX11 (some .boolean) 2 κ) (X : JX) (v1 : Int32) (v2 : Int32) (s0 : Int32) {r : (Int32 × JX)} (F : jFin LY false (oM r) κ) (hr : b_X11_mayRead_23 X v1 v2 s0 = some r) : J LY 3 κ X 23 [(0, .ref (jad κ (0))), (1, .int v1), (2, .int v2)] [.int s0, .ref (jad κ (0))] := by
  unfold b_X11_mayRead_23 at hr
  refine j_putiV K fp_X11_121 rfl (Nat.le_of_ble_eq_true rfl) (by decide) (fun _ => Nat.le_of_ble_eq_true rfl) (fun _ => rfl) dX11_mayRead_23 hr (fun X3 hr => ?_)
  refine j_aload_n K dX11_mayRead_26 0 rfl ?_
  refine j_get K (v := .int (X3 (0) 0)) fl_X11_121 rfl (Nat.le_of_ble_eq_true rfl) (by decide) rfl dX11_mayRead_27 ?_
  refine j_if_ne K dX11_mayRead_30 (tgt := 46) (by decide) hr (fun hr => ?_) (fun hr => ?_)
  · refine j_iconst K dX11_mayRead_46 (v := 0) rfl ?_
    exact j_zreturn K dX11_mayRead_47 rfl rfl F hr rfl
  · refine j_aload_n K dX11_mayRead_33 0 rfl ?_
    refine j_iload_n K dX11_mayRead_34 1 rfl ?_
    refine j_iload_n K dX11_mayRead_35 2 rfl ?_
    refine j_vI2 K (ci := 11) hr (fun v h => c_X11_mayReadAt X3 v1 v2 h) ml_X11_173 ⟨_, rfl, rfl⟩ rfl (Nat.le_of_ble_eq_true rfl) (by decide) rfl (by decide) (by decide) (Nat.le_of_ble_eq_true rfl) dX11_mayRead_36 (fun t4 h hr => ?_)
    refine j_if_eq K dX11_mayRead_39 (tgt := 46) (by decide) hr (fun hr => ?_) (fun hr => ?_)
    · refine j_iconst K dX11_mayRead_46 (v := 0) rfl ?_
      exact j_zreturn K dX11_mayRead_47 rfl rfl F hr rfl
    · refine j_iconst K dX11_mayRead_42 (v := 1) rfl ?_
      refine j_goto K dX11_mayRead_43 (tgt := 47) (by decide) ?_
      exact j_zreturn K dX11_mayRead_47 rfl rfl F hr rfl
theorem jf_X11_mayRead {κ : JK} (K : jOk 3 cX11_mayRead RX11 (some .boolean) 2 κ) (X : JX) (v1 : Int32) (v2 : Int32) {r : (Int32 × JX)} (F : jFin LY false (oM r) κ) (hr : f_X11_mayRead X v1 v2 = some r) : J LY 3 κ X 0 [(0, .ref (jad κ (0))), (1, .int v1), (2, .int v2)] [] := by
  unfold f_X11_mayRead at hr
  refine j_aload_n K dX11_mayRead_0 0 rfl ?_
  refine j_iload_n K dX11_mayRead_1 1 rfl ?_
  refine j_iconst K dX11_mayRead_2 (v := 0) rfl ?_
  refine j_iconst K dX11_mayRead_3 (v := 3) rfl ?_
  refine j_sI3 K hr (fun v h => c_X11_in X v1 (0) (3) h) ms_X11_124 rfl (by decide) (by decide) (Nat.le_of_ble_eq_true rfl) dX11_mayRead_4 (fun t1 h hr => ?_)
  refine j_if_eq K dX11_mayRead_7 (tgt := 22) (by decide) hr (fun hr => ?_) (fun hr => ?_)
  · refine j_iconst K dX11_mayRead_22 (v := 1) rfl ?_
    exact j_sub [0, 1, 2] rfl (jb_X11_mayRead_23 K _ _ _ _ F hr)
  · refine j_aload_n K dX11_mayRead_10 0 rfl ?_
    refine j_iload_n K dX11_mayRead_11 2 rfl ?_
    refine j_vI1 K (ci := 11) hr (fun v h => c_X11_isNode X v2 h) ml_X11_128 ⟨_, rfl, rfl⟩ rfl (Nat.le_of_ble_eq_true rfl) (by decide) rfl (by decide) (by decide) (Nat.le_of_ble_eq_true rfl) dX11_mayRead_12 (fun t2 h hr => ?_)
    refine j_if_eq K dX11_mayRead_15 (tgt := 22) (by decide) hr (fun hr => ?_) (fun hr => ?_)
    · refine j_iconst K dX11_mayRead_22 (v := 1) rfl ?_
      exact j_sub [0, 1, 2] rfl (jb_X11_mayRead_23 K _ _ _ _ F hr)
    · refine j_iconst K dX11_mayRead_18 (v := 0) rfl ?_
      refine j_goto K dX11_mayRead_19 (tgt := 23) (by decide) ?_
      exact j_sub [0, 1, 2] rfl (jb_X11_mayRead_23 K _ _ _ _ F hr)
theorem c_X11_mayRead (X : JX) (v1 : Int32) (v2 : Int32) {r : (Int32 × JX)} (hr : f_X11_mayRead X v1 v2 = some r) : Cal LY yX11_mayRead cX11_mayRead 3 (some .boolean) 2 (fun ad => [.ref (ad (0)), .int v1, .int v2]) X (fun ad => oM r) :=
  Cal.of (own := RX11) (fun ad => [(0, .ref (ad (0))), (1, .int v1), (2, .int v2)]) (by decide) rfl (fun _ => Nat.le_of_ble_eq_true rfl) (fun _ => rfl) (fun κ K F => jf_X11_mayRead K X v1 v2 F hr)
theorem jb_X11_move_20 {κ : JK} (K : jOk 9 cX11_move RX11 (some .int) 3 κ) (X : JX) {r : (Int32 × JX)} (F : jFin LY false (oM r) κ) (hr : b_X11_move_20 X = some r) : J LY 9 κ X 20 [(0, .ref (jad κ (0)))] [] := by
  unfold b_X11_move_20 at hr
  refine j_aload_n K dX11_move_20 0 rfl ?_
  refine j_iconst K dX11_move_21 (v := 1) rfl ?_
  refine j_vM1 K (ci := 11) hr (fun v h => c_X11_fails X (1) h) ml_X11_142 ⟨_, rfl, rfl⟩ rfl (Nat.le_of_ble_eq_true rfl) (by decide) rfl (by decide) (by decide) (Nat.le_of_ble_eq_true rfl) dX11_move_22 (fun t4 h hr => ?_)
  exact j_ireturn K dX11_move_25 rfl F hr rfl
theorem jb_X11_move_184 {κ : JK} (K : jOk 9 cX11_move RX11 (some .int) 3 κ) (X : JX) (v1 : Int32) (v6 : Int32) (v8 : Int32) {r : (Int32 × JX)} (F : jFin LY false (oM r) κ) (hr : b_X11_move_184 X v1 v6 v8 = some r) : J LY 9 κ X 184 [(0, .ref (jad κ (0))), (1, .int v1), (6, .int v6), (8, .int v8)] [] := by
  unfold b_X11_move_184 at hr
  refine j_aload_n K dX11_move_184 0 rfl ?_
  refine j_iload K dX11_move_185 3 rfl ?_
  refine j_iconst K dX11_move_187 (v := 0) rfl ?_
  refine j_iload_n K dX11_move_188 1 rfl ?_
  refine j_vU3 K (ci := 11) hr (fun v h => c_X11_comes X v8 (0) v1 h) ml_X11_153 ⟨_, rfl, rfl⟩ rfl (Nat.le_of_ble_eq_true rfl) (by decide) rfl (by decide) (by decide) (Nat.le_of_ble_eq_true rfl) dX11_move_189 (fun X17 h hr => ?_)
  refine j_iload K dX11_move_192 2 rfl ?_
  exact j_ireturn K dX11_move_194 rfl F hr rfl
theorem jb_X11_move_121 {κ : JK} (K : jOk 9 cX11_move RX11 (some .int) 3 κ) (X : JX) (v1 : Int32) (v2 : Int32) (v3 : Int32) (s0 : Int32) {r : (Int32 × JX)} (F : jFin LY false (oM r) κ) (hr : b_X11_move_121 X v1 v2 v3 s0 = some r) : J LY 9 κ X 121 [(0, .ref (jad κ (0))), (1, .int v1), (2, .int v2), (3, .int v3)] [.int s0, .ref (jad κ (0))] := by
  unfold b_X11_move_121 at hr
  refine j_putiV K fp_X11_121 rfl (Nat.le_of_ble_eq_true rfl) (by decide) (fun _ => Nat.le_of_ble_eq_true rfl) (fun _ => rfl) dX11_move_121 hr (fun X10 hr => ?_)
  refine j_aload_n K dX11_move_124 0 rfl ?_
  refine j_get K (v := .int (X10 (0) 0)) fl_X11_121 rfl (Nat.le_of_ble_eq_true rfl) (by decide) rfl dX11_move_125 ?_
  refine j_if_le K dX11_move_128 (tgt := 133) (by decide) hr (fun hr => ?_) (fun hr => ?_)
  · refine j_aload_n K dX11_move_133 0 rfl ?_
    refine j_get K (v := .ref (jad κ (3))) fl_X11_16 rfl (Nat.le_of_ble_eq_true rfl) (by decide) rfl dX11_move_134 ?_
    refine j_iload_n K dX11_move_137 1 rfl ?_
    refine j_iaload K (z := 60) rfl (Nat.le_of_ble_eq_true rfl) dX11_move_138 hr (fun hr => ?_)
    refine j_istoreV K dX11_move_139 (by decide) hr (fun t11 hr => ?_)
    refine j_aload_n K dX11_move_141 1 rfl ?_
    refine j_iload_n K dX11_move_142 2 rfl ?_
    refine j_vI1 K (ci := 11) hr (fun v h => c_X11_over X10 v1 h) ml_X11_150 ⟨_, rfl, rfl⟩ rfl (Nat.le_of_ble_eq_true rfl) (by decide) rfl (by decide) (by decide) (Nat.le_of_ble_eq_true rfl) dX11_move_143 (fun t12 h hr => ?_)
    refine j_istore K dX11_move_146 (by decide) ?_
    refine j_aload_n K dX11_move_148 2 rfl ?_
    refine j_get K (v := .ref (jad κ (3))) fl_X11_16 rfl (Nat.le_of_ble_eq_true rfl) (by decide) rfl dX11_move_149 ?_
    refine j_iload_n K dX11_move_152 3 rfl ?_
    refine j_iload_n K dX11_move_153 4 rfl ?_
    refine j_iastoreV K (z := 60) rfl (Nat.le_of_ble_eq_true rfl) dX11_move_154 hr (fun X13 hr => ?_)
    refine j_aload_n K dX11_move_155 2 rfl ?_
    refine j_get K (v := .ref (jad κ (4))) fl_X11_20 rfl (Nat.le_of_ble_eq_true rfl) (by decide) rfl dX11_move_156 ?_
    refine j_iload_n K dX11_move_159 3 rfl ?_
    refine j_iload_n K dX11_move_160 5 rfl ?_
    refine j_castoreV K (z := 60) rfl (Nat.le_of_ble_eq_true rfl) dX11_move_161 hr (fun X14 hr => ?_)
    refine j_aload_n K dX11_move_162 2 rfl ?_
    refine j_iload_n K dX11_move_163 3 rfl ?_
    refine j_vI1 K (ci := 11) hr (fun v h => c_X11_over X14 v1 h) ml_X11_150 ⟨_, rfl, rfl⟩ rfl (Nat.le_of_ble_eq_true rfl) (by decide) rfl (by decide) (by decide) (Nat.le_of_ble_eq_true rfl) dX11_move_164 (fun t15 h hr => ?_)
    refine j_istore K dX11_move_167 (by decide) ?_
    refine j_iload K dX11_move_169 1 rfl ?_
    refine j_iload K dX11_move_171 0 rfl ?_
    refine j_icmp_eq K dX11_move_173 (tgt := 184) (by decide) hr (fun hr => ?_) (fun hr => ?_)
    · exact j_sub [3, 4, 2, 0] rfl (jb_X11_move_184 K _ _ _ _ F hr)
    · refine j_aload_n K dX11_move_176 3 rfl ?_
      refine j_iload K dX11_move_177 1 rfl ?_
      refine j_iconst K dX11_move_179 (v := 2) rfl ?_
      refine j_iload_n K dX11_move_180 4 rfl ?_
      refine j_vU3 K (ci := 11) hr (fun v h => c_X11_comes X14 t12 (2) v1 h) ml_X11_153 ⟨_, rfl, rfl⟩ rfl (Nat.le_of_ble_eq_true rfl) (by decide) rfl (by decide) (by decide) (Nat.le_of_ble_eq_true rfl) dX11_move_181 (fun X16 h hr => ?_)
      exact j_sub [3, 4, 2, 0] rfl (jb_X11_move_184 K _ _ _ _ F hr)
  · refine j_iconst K dX11_move_131 (v := 0) rfl ?_
    exact j_ireturn K dX11_move_132 rfl F hr rfl
theorem jb_X11_move_78 {κ : JK} (K : jOk 9 cX11_move RX11 (some .int) 3 κ) (X : JX) (v1 : Int32) (v2 : Int32) (v3 : Int32) (v4 : Int32) (s0 : Int32) {r : (Int32 × JX)} (F : jFin LY false (oM r) κ) (hr : b_X11_move_78 X v1 v2 v3 v4 s0 = some r) : J LY 9 κ X 78 [(0, .ref (jad κ (0))), (1, .int v1), (2, .int v2), (3, .int v3), (4, .int v4)] [.int s0] := by
  unfold b_X11_move_78 at hr
  refine j_istore K dX11_move_78 (by decide) ?_
  refine j_aload_n K dX11_move_80 1 rfl ?_
  refine j_iload_n K dX11_move_81 4 rfl ?_
  refine j_bipush K dX11_move_82 (v := 97) rfl ?_
  refine j_bipush K dX11_move_84 (v := 122) rfl ?_
  refine j_sI3 K hr (fun v h => c_X11_in X v3 (97) (122) h) ms_X11_124 rfl (by decide) (by decide) (Nat.le_of_ble_eq_true rfl) dX11_move_86 (fun t8 h hr => ?_)
  refine j_if_ne K dX11_move_89 (tgt := 96) (by decide) hr (fun hr => ?_) (fun hr => ?_)
  · refine j_iload K dX11_move_96 5 rfl ?_
    refine j_if_ne K dX11_move_98 (tgt := 116) (by decide) hr (fun hr => ?_) (fun hr => ?_)
    · refine j_iconst K dX11_move_116 (v := 3) rfl ?_
      refine j_goto K dX11_move_117 (tgt := 121) (by decide) ?_
      exact j_sub [1, 2, 3, 4] rfl (jb_X11_move_121 K _ _ _ _ _ F hr)
    · refine j_aload_n K dX11_move_101 1 rfl ?_
      refine j_iload_n K dX11_move_102 3 rfl ?_
      refine j_iload_n K dX11_move_103 4 rfl ?_
      refine j_iload_n K dX11_move_104 2 rfl ?_
      refine j_vI3 K (ci := 11) hr (fun v h => c_X11_isTaken X v2 v3 v1 h) ml_X11_146 ⟨_, rfl, rfl⟩ rfl (Nat.le_of_ble_eq_true rfl) (by decide) rfl (by decide) (by decide) (Nat.le_of_ble_eq_true rfl) dX11_move_105 (fun t9 h hr => ?_)
      refine j_if_ne K dX11_move_108 (tgt := 116) (by decide) hr (fun hr => ?_) (fun hr => ?_)
      · refine j_iconst K dX11_move_116 (v := 3) rfl ?_
        refine j_goto K dX11_move_117 (tgt := 121) (by decide) ?_
        exact j_sub [1, 2, 3, 4] rfl (jb_X11_move_121 K _ _ _ _ _ F hr)
      · refine j_iload K dX11_move_111 0 rfl ?_
        refine j_if_eq K dX11_move_113 (tgt := 120) (by decide) hr (fun hr => ?_) (fun hr => ?_)
        · refine j_iconst K dX11_move_120 (v := 0) rfl ?_
          exact j_sub [1, 2, 3, 4] rfl (jb_X11_move_121 K _ _ _ _ _ F hr)
        · refine j_iconst K dX11_move_116 (v := 3) rfl ?_
          refine j_goto K dX11_move_117 (tgt := 121) (by decide) ?_
          exact j_sub [1, 2, 3, 4] rfl (jb_X11_move_121 K _ _ _ _ _ F hr)
  · refine j_iconst K dX11_move_92 (v := 2) rfl ?_
    refine j_goto K dX11_move_93 (tgt := 121) (by decide) ?_
    exact j_sub [1, 2, 3, 4] rfl (jb_X11_move_121 K _ _ _ _ _ F hr)
theorem jb_X11_move_45 {κ : JK} (K : jOk 9 cX11_move RX11 (some .int) 3 κ) (X : JX) (v1 : Int32) (v2 : Int32) (v3 : Int32) (s0 : Int32) {r : (Int32 × JX)} (F : jFin LY false (oM r) κ) (hr : b_X11_move_45 X v1 v2 v3 s0 = some r) : J LY 9 κ X 45 [(0, .ref (jad κ (0))), (1, .int v1), (2, .int v2), (3, .int v3)] [.int s0] := by
  unfold b_X11_move_45 at hr
  refine j_istore K dX11_move_45 (by decide) ?_
  refine j_aload_n K dX11_move_47 1 rfl ?_
  refine j_iload_n K dX11_move_48 2 rfl ?_
  refine j_vI1 K (ci := 11) hr (fun v h => c_X11_holdsRoot X v1 h) ml_X11_160 ⟨_, rfl, rfl⟩ rfl (Nat.le_of_ble_eq_true rfl) (by decide) rfl (by decide) (by decide) (Nat.le_of_ble_eq_true rfl) dX11_move_49 (fun t5 h hr => ?_)
  refine j_if_eq K dX11_move_52 (tgt := 77) (by decide) hr (fun hr => ?_) (fun hr => ?_)
  · refine j_iconst K dX11_move_77 (v := 0) rfl ?_
    exact j_sub [1, 2, 3, 4, 0] rfl (jb_X11_move_78 K _ _ _ _ _ _ F hr)
  · refine j_aload_n K dX11_move_55 1 rfl ?_
    refine j_iload_n K dX11_move_56 3 rfl ?_
    refine j_vI1 K (ci := 11) hr (fun v h => c_X11_rootAt X v2 h) ml_X11_163 ⟨_, rfl, rfl⟩ rfl (Nat.le_of_ble_eq_true rfl) (by decide) rfl (by decide) (by decide) (Nat.le_of_ble_eq_true rfl) dX11_move_57 (fun t6 h hr => ?_)
    refine j_iconst K dX11_move_60 (v := -1) rfl ?_
    refine j_icmp_ne K dX11_move_61 (tgt := 73) (by decide) hr (fun hr => ?_) (fun hr => ?_)
    · refine j_iconst K dX11_move_73 (v := 1) rfl ?_
      refine j_goto K dX11_move_74 (tgt := 78) (by decide) ?_
      exact j_sub [1, 2, 3, 4, 0] rfl (jb_X11_move_78 K _ _ _ _ _ _ F hr)
    · refine j_aload_n K dX11_move_64 1 rfl ?_
      refine j_iload_n K dX11_move_65 3 rfl ?_
      refine j_vI1 K (ci := 11) hr (fun v h => c_X11_over X v2 h) ml_X11_150 ⟨_, rfl, rfl⟩ rfl (Nat.le_of_ble_eq_true rfl) (by decide) rfl (by decide) (by decide) (Nat.le_of_ble_eq_true rfl) dX11_move_66 (fun t7 h hr => ?_)
      refine j_iconst K dX11_move_69 (v := -1) rfl ?_
      refine j_icmp_eq K dX11_move_70 (tgt := 77) (by decide) hr (fun hr => ?_) (fun hr => ?_)
      · refine j_iconst K dX11_move_77 (v := 0) rfl ?_
        exact j_sub [1, 2, 3, 4, 0] rfl (jb_X11_move_78 K _ _ _ _ _ _ F hr)
      · refine j_iconst K dX11_move_73 (v := 1) rfl ?_
        refine j_goto K dX11_move_74 (tgt := 78) (by decide) ?_
        exact j_sub [1, 2, 3, 4, 0] rfl (jb_X11_move_78 K _ _ _ _ _ _ F hr)
theorem jf_X11_move {κ : JK} (K : jOk 9 cX11_move RX11 (some .int) 3 κ) (X : JX) (v1 : Int32) (v2 : Int32) (v3 : Int32) {r : (Int32 × JX)} (F : jFin LY false (oM r) κ) (hr : f_X11_move X v1 v2 v3 = some r) : J LY 9 κ X 0 [(0, .ref (jad κ (0))), (1, .int v1), (2, .int v2), (3, .int v3)] [] := by
  unfold f_X11_move at hr
  refine j_aload_n K dX11_move_0 0 rfl ?_
  refine j_iload_n K dX11_move_1 1 rfl ?_
  refine j_vI1 K (ci := 11) hr (fun v h => c_X11_isNode X v1 h) ml_X11_128 ⟨_, rfl, rfl⟩ rfl (Nat.le_of_ble_eq_true rfl) (by decide) rfl (by decide) (by decide) (Nat.le_of_ble_eq_true rfl) dX11_move_2 (fun t1 h hr => ?_)
  refine j_if_eq K dX11_move_5 (tgt := 20) (by decide) hr (fun hr => ?_) (fun hr => ?_)
  · exact j_sub [0] rfl (jb_X11_move_20 K _ F hr)
  · refine j_iload_n K dX11_move_8 1 rfl ?_
    refine j_if_eq K dX11_move_9 (tgt := 20) (by decide) hr (fun hr => ?_) (fun hr => ?_)
    · exact j_sub [0] rfl (jb_X11_move_20 K _ F hr)
    · refine j_aload_n K dX11_move_12 0 rfl ?_
      refine j_iload_n K dX11_move_13 2 rfl ?_
      refine j_vI1 K (ci := 11) hr (fun v h => c_X11_isFolderAt X v2 h) ml_X11_139 ⟨_, rfl, rfl⟩ rfl (Nat.le_of_ble_eq_true rfl) (by decide) rfl (by decide) (by decide) (Nat.le_of_ble_eq_true rfl) dX11_move_14 (fun t2 h hr => ?_)
      refine j_if_ne K dX11_move_17 (tgt := 26) (by decide) hr (fun hr => ?_) (fun hr => ?_)
      · refine j_iload_n K dX11_move_26 2 rfl ?_
        refine j_iload_n K dX11_move_27 1 rfl ?_
        refine j_icmp_eq K dX11_move_28 (tgt := 40) (by decide) hr (fun hr => ?_) (fun hr => ?_)
        · refine j_iconst K dX11_move_40 (v := 1) rfl ?_
          refine j_goto K dX11_move_41 (tgt := 45) (by decide) ?_
          exact j_sub [0, 1, 2, 3] rfl (jb_X11_move_45 K _ _ _ _ _ F hr)
        · refine j_aload_n K dX11_move_31 0 rfl ?_
          refine j_iload_n K dX11_move_32 2 rfl ?_
          refine j_iload_n K dX11_move_33 1 rfl ?_
          refine j_vI2 K (ci := 11) hr (fun v h => c_X11_isBelow X v2 v1 h) ml_X11_135 ⟨_, rfl, rfl⟩ rfl (Nat.le_of_ble_eq_true rfl) (by decide) rfl (by decide) (by decide) (Nat.le_of_ble_eq_true rfl) dX11_move_34 (fun t3 h hr => ?_)
          refine j_if_eq K dX11_move_37 (tgt := 44) (by decide) hr (fun hr => ?_) (fun hr => ?_)
          · refine j_iconst K dX11_move_44 (v := 0) rfl ?_
            exact j_sub [0, 1, 2, 3] rfl (jb_X11_move_45 K _ _ _ _ _ F hr)
          · refine j_iconst K dX11_move_40 (v := 1) rfl ?_
            refine j_goto K dX11_move_41 (tgt := 45) (by decide) ?_
            exact j_sub [0, 1, 2, 3] rfl (jb_X11_move_45 K _ _ _ _ _ F hr)
      · exact j_sub [0] rfl (jb_X11_move_20 K _ F hr)
theorem c_X11_move (X : JX) (v1 : Int32) (v2 : Int32) (v3 : Int32) {r : (Int32 × JX)} (hr : f_X11_move X v1 v2 v3 = some r) : Cal LY yX11_move cX11_move 9 (some .int) 3 (fun ad => [.ref (ad (0)), .int v1, .int v2, .int v3]) X (fun ad => oM r) :=
  Cal.of (own := RX11) (fun ad => [(0, .ref (ad (0))), (1, .int v1), (2, .int v2), (3, .int v3)]) (by decide) rfl (fun _ => Nat.le_of_ble_eq_true rfl) (fun _ => rfl) (fun κ K F => jf_X11_move K X v1 v2 v3 F hr)
theorem jb_X11_nodes_32 {κ : JK} (K : jOk 3 cX11_nodes RX11 (some .int) 0 κ) (X : JX) (v2 : Int32) (s0 : Int32) (s1 : Int32) {r : (Int32 × JX)} (F : jFin LY false (oM r) κ) (rec9 : Int32 → Int32 → Option (Int32 × JX)) (hrec9 : ∀ (v1 : Int32) (v2 : Int32), rec9 v1 v2 = some r → J LY 3 κ X 9 [(0, .ref (jad κ (0))), (1, .int v1), (2, .int v2)] []) (hr : b_X11_nodes_32 rec9 X v2 s0 s1 = some r) : J LY 3 κ X 32 [(0, .ref (jad κ (0))), (2, .int v2)] [.int s0, .int s1] := by
  unfold b_X11_nodes_32 at hr
  refine j_iadd K dX11_nodes_32 ?_
  refine j_istoreV_n K dX11_nodes_33 (by decide) hr (fun t2 hr => ?_)
  refine j_iincV K dX11_nodes_34 (v := 1) 2 rfl rfl (by decide) hr (fun t3 hr => ?_)
  refine j_goto K dX11_nodes_37 (tgt := 9) (by decide) ?_
  exact j_sub [2, 1, 0] rfl (hrec9 _ _ hr)
theorem jl_X11_nodes_9 {κ : JK} (K : jOk 3 cX11_nodes RX11 (some .int) 0 κ) (X : JX) {r : (Int32 × JX)} (F : jFin LY false (oM r) κ) : ∀ (v1 : Int32) (v2 : Int32), l_X11_nodes_9 X v1 v2 = some r → J LY 3 κ X 9 [(0, .ref (jad κ (0))), (1, .int v1), (2, .int v2)] [] := by
  refine j_loop2 (P := fun v1 v2 => J LY 3 κ X 9 [(0, .ref (jad κ (0))), (1, .int v1), (2, .int v2)] []) (fun rec9 hrec9 v1 v2 hr => ?_) 1000
  unfold lb_X11_nodes_9 at hr
  refine j_iload_n K dX11_nodes_9 2 rfl ?_
  refine j_aload_n K dX11_nodes_10 0 rfl ?_
  refine j_get K (v := .int (X (0) 2)) fl_X11_118 rfl (Nat.le_of_ble_eq_true rfl) (by decide) rfl dX11_nodes_11 ?_
  refine j_icmp_ge K dX11_nodes_14 (tgt := 40) (by decide) hr (fun hr => ?_) (fun hr => ?_)
  · refine j_iload_n K dX11_nodes_40 1 rfl ?_
    exact j_ireturn K dX11_nodes_41 rfl F hr rfl
  · refine j_iload_n K dX11_nodes_17 1 rfl ?_
    refine j_aload_n K dX11_nodes_18 0 rfl ?_
    refine j_get K (v := .ref (jad κ (1))) fl_X11_7 rfl (Nat.le_of_ble_eq_true rfl) (by decide) rfl dX11_nodes_19 ?_
    refine j_iload_n K dX11_nodes_22 2 rfl ?_
    refine j_baload K (z := 60) rfl (Nat.le_of_ble_eq_true rfl) dX11_nodes_23 hr (fun hr => ?_)
    refine j_if_eq K dX11_nodes_24 (tgt := 31) (by decide) hr (fun hr => ?_) (fun hr => ?_)
    · refine j_iconst K dX11_nodes_31 (v := 0) rfl ?_
      exact j_sub [0, 2] rfl (jb_X11_nodes_32 K _ _ _ _ F rec9 hrec9 hr)
    · refine j_iconst K dX11_nodes_27 (v := 1) rfl ?_
      refine j_goto K dX11_nodes_28 (tgt := 32) (by decide) ?_
      exact j_sub [0, 2] rfl (jb_X11_nodes_32 K _ _ _ _ F rec9 hrec9 hr)
theorem jf_X11_nodes {κ : JK} (K : jOk 3 cX11_nodes RX11 (some .int) 0 κ) (X : JX) {r : (Int32 × JX)} (F : jFin LY false (oM r) κ) (hr : f_X11_nodes X = some r) : J LY 3 κ X 0 [(0, .ref (jad κ (0)))] [] := by
  unfold f_X11_nodes at hr
  refine j_aload_n K dX11_nodes_0 0 rfl ?_
  refine j_iconst K dX11_nodes_1 (v := 0) rfl ?_
  refine j_putiV K fp_X11_121 rfl (Nat.le_of_ble_eq_true rfl) (by decide) (fun _ => Nat.le_of_ble_eq_true rfl) (fun _ => rfl) dX11_nodes_2 hr (fun X1 hr => ?_)
  refine j_iconst K dX11_nodes_5 (v := 0) rfl ?_
  refine j_istore_n K dX11_nodes_6 (by decide) ?_
  refine j_iconst K dX11_nodes_7 (v := 0) rfl ?_
  refine j_istore_n K dX11_nodes_8 (by decide) ?_
  exact j_sub [2, 1, 0] rfl (jl_X11_nodes_9 K _ F _ _ hr)
theorem c_X11_nodes (X : JX) {r : (Int32 × JX)} (hr : f_X11_nodes X = some r) : Cal LY yX11_nodes cX11_nodes 3 (some .int) 0 (fun ad => [.ref (ad (0))]) X (fun ad => oM r) :=
  Cal.of (own := RX11) (fun ad => [(0, .ref (ad (0)))]) (by decide) rfl (fun _ => Nat.le_of_ble_eq_true rfl) (fun _ => rfl) (fun κ K F => jf_X11_nodes K X F hr)
theorem jb_X11_notices_35 {κ : JK} (K : jOk 3 cX11_notices RX11 (some .int) 1 κ) (X : JX) (v2 : Int32) (s0 : Int32) {r : (Int32 × JX)} (F : jFin LY false (oM r) κ) (hr : b_X11_notices_35 X v2 s0 = some r) : J LY 3 κ X 35 [(0, .ref (jad κ (0))), (2, .int v2)] [.int s0, .ref (jad κ (0))] := by
  unfold b_X11_notices_35 at hr
  refine j_putiV K fp_X11_121 rfl (Nat.le_of_ble_eq_true rfl) (by decide) (fun _ => Nat.le_of_ble_eq_true rfl) (fun _ => rfl) dX11_notices_35 hr (fun X3 hr => ?_)
  refine j_aload_n K dX11_notices_38 0 rfl ?_
  refine j_get K (v := .int (X3 (0) 0)) fl_X11_121 rfl (Nat.le_of_ble_eq_true rfl) (by decide) rfl dX11_notices_39 ?_
  refine j_if_le K dX11_notices_42 (tgt := 49) (by decide) hr (fun hr => ?_) (fun hr => ?_)
  · refine j_aload_n K dX11_notices_49 0 rfl ?_
    refine j_get K (v := .ref (jad κ (14))) fl_X11_51 rfl (Nat.le_of_ble_eq_true rfl) (by decide) rfl dX11_notices_50 ?_
    refine j_iload_n K dX11_notices_53 1 rfl ?_
    refine j_baload K (z := 4) rfl (Nat.le_of_ble_eq_true rfl) dX11_notices_54 hr (fun hr => ?_)
    refine j_if_eq K dX11_notices_55 (tgt := 62) (by decide) hr (fun hr => ?_) (fun hr => ?_)
    · refine j_aload_n K dX11_notices_62 0 rfl ?_
      refine j_get K (v := .ref (jad κ (11))) fl_X11_42 rfl (Nat.le_of_ble_eq_true rfl) (by decide) rfl dX11_notices_63 ?_
      refine j_iload_n K dX11_notices_66 1 rfl ?_
      refine j_iaload K (z := 4) rfl (Nat.le_of_ble_eq_true rfl) dX11_notices_67 hr (fun hr => ?_)
      exact j_ireturn K dX11_notices_68 rfl F hr rfl
    · refine j_iconst K dX11_notices_58 (v := -1) rfl ?_
      refine j_goto K dX11_notices_59 (tgt := 68) (by decide) ?_
      exact j_ireturn K dX11_notices_68 rfl F hr rfl
  · refine j_iconst K dX11_notices_45 (v := 0) rfl ?_
    refine j_goto K dX11_notices_46 (tgt := 68) (by decide) ?_
    exact j_ireturn K dX11_notices_68 rfl F hr rfl
theorem jb_X11_notices_23 {κ : JK} (K : jOk 3 cX11_notices RX11 (some .int) 1 κ) (X : JX) (s0 : Int32) {r : (Int32 × JX)} (F : jFin LY false (oM r) κ) (hr : b_X11_notices_23 X s0 = some r) : J LY 3 κ X 23 [(0, .ref (jad κ (0)))] [.int s0] := by
  unfold b_X11_notices_23 at hr
  refine j_istore_n K dX11_notices_23 (by decide) ?_
  refine j_aload_n K dX11_notices_24 1 rfl ?_
  refine j_iload_n K dX11_notices_25 0 rfl ?_
  refine j_iconst K dX11_notices_26 (v := -1) rfl ?_
  refine j_icmp_ne K dX11_notices_27 (tgt := 34) (by decide) hr (fun hr => ?_) (fun hr => ?_)
  · refine j_iconst K dX11_notices_34 (v := 0) rfl ?_
    exact j_sub [1, 0] rfl (jb_X11_notices_35 K _ _ _ F hr)
  · refine j_iconst K dX11_notices_30 (v := 1) rfl ?_
    refine j_goto K dX11_notices_31 (tgt := 35) (by decide) ?_
    exact j_sub [1, 0] rfl (jb_X11_notices_35 K _ _ _ F hr)
theorem jf_X11_notices {κ : JK} (K : jOk 3 cX11_notices RX11 (some .int) 1 κ) (X : JX) (v1 : Int32) {r : (Int32 × JX)} (F : jFin LY false (oM r) κ) (hr : f_X11_notices X v1 = some r) : J LY 3 κ X 0 [(0, .ref (jad κ (0))), (1, .int v1)] [] := by
  unfold f_X11_notices at hr
  refine j_iload_n K dX11_notices_0 1 rfl ?_
  refine j_iconst K dX11_notices_1 (v := 0) rfl ?_
  refine j_aload_n K dX11_notices_2 0 rfl ?_
  refine j_get K (v := .int (X (0) 2)) fl_X11_118 rfl (Nat.le_of_ble_eq_true rfl) (by decide) rfl dX11_notices_3 ?_
  refine j_iconst K dX11_notices_6 (v := 1) rfl ?_
  refine j_isub K dX11_notices_7 ?_
  refine j_sI3 K hr (fun v h => c_X11_in X v1 (0) ((X (0) 2) - (1)) h) ms_X11_124 rfl (by decide) (by decide) (Nat.le_of_ble_eq_true rfl) dX11_notices_8 (fun t1 h hr => ?_)
  refine j_if_eq K dX11_notices_11 (tgt := 22) (by decide) hr (fun hr => ?_) (fun hr => ?_)
  · refine j_iconst K dX11_notices_22 (v := -1) rfl ?_
    exact j_sub [0] rfl (jb_X11_notices_23 K _ _ F hr)
  · refine j_aload_n K dX11_notices_14 0 rfl ?_
    refine j_iload_n K dX11_notices_15 1 rfl ?_
    refine j_vI1 K (ci := 11) hr (fun v h => c_X11_rootAt X v1 h) ml_X11_163 ⟨_, rfl, rfl⟩ rfl (Nat.le_of_ble_eq_true rfl) (by decide) rfl (by decide) (by decide) (Nat.le_of_ble_eq_true rfl) dX11_notices_16 (fun t2 h hr => ?_)
    refine j_goto K dX11_notices_19 (tgt := 23) (by decide) ?_
    exact j_sub [0] rfl (jb_X11_notices_23 K _ _ F hr)
theorem c_X11_notices (X : JX) (v1 : Int32) {r : (Int32 × JX)} (hr : f_X11_notices X v1 = some r) : Cal LY yX11_notices cX11_notices 3 (some .int) 1 (fun ad => [.ref (ad (0)), .int v1]) X (fun ad => oM r) :=
  Cal.of (own := RX11) (fun ad => [(0, .ref (ad (0))), (1, .int v1)]) (by decide) rfl (fun _ => Nat.le_of_ble_eq_true rfl) (fun _ => rfl) (fun κ K F => jf_X11_notices K X v1 F hr)
theorem jb_X11_pass_52 {κ : JK} (K : jOk 2 cX11_pass RX11 (some .int) 1 κ) (X : JX) (s0 : Int32) (s1 : Int32) {r : (Int32 × JX)} (F : jFin LY false (oM r) κ) (hr : b_X11_pass_52 X s0 s1 = some r) : J LY 2 κ X 52 [(0, .ref (jad κ (0)))] [.int s0, .int s1, .ref (jad κ (0))] := by
  unfold b_X11_pass_52 at hr
  refine j_iadd K dX11_pass_52 ?_
  refine j_putiV K fp_X11_241 rfl (Nat.le_of_ble_eq_true rfl) (by decide) (fun _ => Nat.le_of_ble_eq_true rfl) (fun _ => rfl) dX11_pass_53 hr (fun X3 hr => ?_)
  refine j_aload_n K dX11_pass_56 0 rfl ?_
  refine j_get K (v := .int (X3 (0) 0)) fl_X11_121 rfl (Nat.le_of_ble_eq_true rfl) (by decide) rfl dX11_pass_57 ?_
  refine j_if_le K dX11_pass_60 (tgt := 67) (by decide) hr (fun hr => ?_) (fun hr => ?_)
  · refine j_aload_n K dX11_pass_67 0 rfl ?_
    refine j_get K (v := .int (X3 (0) 1)) fl_X11_241 rfl (Nat.le_of_ble_eq_true rfl) (by decide) rfl dX11_pass_68 ?_
    exact j_ireturn K dX11_pass_71 rfl F hr rfl
  · refine j_iconst K dX11_pass_63 (v := 0) rfl ?_
    refine j_goto K dX11_pass_64 (tgt := 71) (by decide) ?_
    exact j_ireturn K dX11_pass_71 rfl F hr rfl
theorem jb_X11_pass_32 {κ : JK} (K : jOk 2 cX11_pass RX11 (some .int) 1 κ) (X : JX) (v1 : Int32) (s0 : Int32) {r : (Int32 × JX)} (F : jFin LY false (oM r) κ) (hr : b_X11_pass_32 X v1 s0 = some r) : J LY 2 κ X 32 [(0, .ref (jad κ (0))), (1, .int v1)] [.int s0, .ref (jad κ (0))] := by
  unfold b_X11_pass_32 at hr
  refine j_putiV K fp_X11_121 rfl (Nat.le_of_ble_eq_true rfl) (by decide) (fun _ => Nat.le_of_ble_eq_true rfl) (fun _ => rfl) dX11_pass_32 hr (fun X2 hr => ?_)
  refine j_aload_n K dX11_pass_35 0 rfl ?_
  refine j_dup K dX11_pass_36 rfl ?_
  refine j_get K (v := .int (X2 (0) 1)) fl_X11_241 rfl (Nat.le_of_ble_eq_true rfl) (by decide) rfl dX11_pass_37 ?_
  refine j_aload_n K dX11_pass_40 0 rfl ?_
  refine j_get K (v := .int (X2 (0) 0)) fl_X11_121 rfl (Nat.le_of_ble_eq_true rfl) (by decide) rfl dX11_pass_41 ?_
  refine j_if_ne K dX11_pass_44 (tgt := 51) (by decide) hr (fun hr => ?_) (fun hr => ?_)
  · refine j_iconst K dX11_pass_51 (v := 0) rfl ?_
    exact j_sub [0] rfl (jb_X11_pass_52 K _ _ _ F hr)
  · refine j_iload_n K dX11_pass_47 1 rfl ?_
    refine j_goto K dX11_pass_48 (tgt := 52) (by decide) ?_
    exact j_sub [0] rfl (jb_X11_pass_52 K _ _ _ F hr)
theorem jf_X11_pass {κ : JK} (K : jOk 2 cX11_pass RX11 (some .int) 1 κ) (X : JX) (v1 : Int32) {r : (Int32 × JX)} (F : jFin LY false (oM r) κ) (hr : f_X11_pass X v1 = some r) : J LY 2 κ X 0 [(0, .ref (jad κ (0))), (1, .int v1)] [] := by
  unfold f_X11_pass at hr
  refine j_aload_n K dX11_pass_0 0 rfl ?_
  refine j_iload_n K dX11_pass_1 1 rfl ?_
  refine j_iconst K dX11_pass_2 (v := 1) rfl ?_
  refine j_sipush K dX11_pass_3 (v := 1000) rfl ?_
  refine j_sI3 K hr (fun v h => c_X11_in X v1 (1) (1000) h) ms_X11_124 rfl (by decide) (by decide) (Nat.le_of_ble_eq_true rfl) dX11_pass_6 (fun t1 h hr => ?_)
  refine j_if_ne K dX11_pass_9 (tgt := 16) (by decide) hr (fun hr => ?_) (fun hr => ?_)
  · refine j_aload_n K dX11_pass_16 0 rfl ?_
    refine j_get K (v := .int (X (0) 1)) fl_X11_241 rfl (Nat.le_of_ble_eq_true rfl) (by decide) rfl dX11_pass_17 ?_
    refine j_iload_n K dX11_pass_20 1 rfl ?_
    refine j_iadd K dX11_pass_21 ?_
    refine j_ldc K (v := 100000) kc_X11_244 dX11_pass_22 ?_
    refine j_icmp_le K dX11_pass_24 (tgt := 31) (by decide) hr (fun hr => ?_) (fun hr => ?_)
    · refine j_iconst K dX11_pass_31 (v := 0) rfl ?_
      exact j_sub [0, 1] rfl (jb_X11_pass_32 K _ _ _ F hr)
    · refine j_iconst K dX11_pass_27 (v := 2) rfl ?_
      refine j_goto K dX11_pass_28 (tgt := 32) (by decide) ?_
      exact j_sub [0, 1] rfl (jb_X11_pass_32 K _ _ _ F hr)
  · refine j_iconst K dX11_pass_12 (v := 1) rfl ?_
    refine j_goto K dX11_pass_13 (tgt := 32) (by decide) ?_
    exact j_sub [0, 1] rfl (jb_X11_pass_32 K _ _ _ F hr)
theorem c_X11_pass (X : JX) (v1 : Int32) {r : (Int32 × JX)} (hr : f_X11_pass X v1 = some r) : Cal LY yX11_pass cX11_pass 2 (some .int) 1 (fun ad => [.ref (ad (0)), .int v1]) X (fun ad => oM r) :=
  Cal.of (own := RX11) (fun ad => [(0, .ref (ad (0))), (1, .int v1)]) (by decide) rfl (fun _ => Nat.le_of_ble_eq_true rfl) (fun _ => rfl) (fun κ K F => jf_X11_pass K X v1 F hr)
theorem jb_X11_people_28 {κ : JK} (K : jOk 4 cX11_people RX11 (some .int) 2 κ) (X : JX) (v1 : Int32) (v2 : Int32) (s0 : Int32) {r : (Int32 × JX)} (F : jFin LY false (oM r) κ) (hr : b_X11_people_28 X v1 v2 s0 = some r) : J LY 4 κ X 28 [(0, .ref (jad κ (0))), (1, .int v1), (2, .int v2)] [.int s0, .ref (jad κ (0))] := by
  unfold b_X11_people_28 at hr
  refine j_putiV K fp_X11_121 rfl (Nat.le_of_ble_eq_true rfl) (by decide) (fun _ => Nat.le_of_ble_eq_true rfl) (fun _ => rfl) dX11_people_28 hr (fun X3 hr => ?_)
  refine j_aload_n K dX11_people_31 0 rfl ?_
  refine j_get K (v := .int (X3 (0) 0)) fl_X11_121 rfl (Nat.le_of_ble_eq_true rfl) (by decide) rfl dX11_people_32 ?_
  refine j_if_le K dX11_people_35 (tgt := 40) (by decide) hr (fun hr => ?_) (fun hr => ?_)
  · refine j_aload_n K dX11_people_40 0 rfl ?_
    refine j_get K (v := .ref (jad κ (9))) fl_X11_36 rfl (Nat.le_of_ble_eq_true rfl) (by decide) rfl dX11_people_41 ?_
    refine j_iload_n K dX11_people_44 1 rfl ?_
    refine j_iaload K (z := 60) rfl (Nat.le_of_ble_eq_true rfl) dX11_people_45 hr (fun hr => ?_)
    refine j_istoreV_n K dX11_people_46 (by decide) hr (fun t4 hr => ?_)
    refine j_aload_n K dX11_people_47 1 rfl ?_
    refine j_get K (v := .ref (jad κ (9))) fl_X11_36 rfl (Nat.le_of_ble_eq_true rfl) (by decide) rfl dX11_people_48 ?_
    refine j_iload_n K dX11_people_51 2 rfl ?_
    refine j_iload_n K dX11_people_52 3 rfl ?_
    refine j_iastoreV K (z := 60) rfl (Nat.le_of_ble_eq_true rfl) dX11_people_53 hr (fun X5 hr => ?_)
    refine j_iload_n K dX11_people_54 0 rfl ?_
    exact j_ireturn K dX11_people_55 rfl F hr rfl
  · refine j_iconst K dX11_people_38 (v := 0) rfl ?_
    exact j_ireturn K dX11_people_39 rfl F hr rfl
theorem jf_X11_people {κ : JK} (K : jOk 4 cX11_people RX11 (some .int) 2 κ) (X : JX) (v1 : Int32) (v2 : Int32) {r : (Int32 × JX)} (F : jFin LY false (oM r) κ) (hr : f_X11_people X v1 v2 = some r) : J LY 4 κ X 0 [(0, .ref (jad κ (0))), (1, .int v1), (2, .int v2)] [] := by
  unfold f_X11_people at hr
  refine j_aload_n K dX11_people_0 0 rfl ?_
  refine j_aload_n K dX11_people_1 0 rfl ?_
  refine j_iload_n K dX11_people_2 1 rfl ?_
  refine j_vI1 K (ci := 11) hr (fun v h => c_X11_isNode X v1 h) ml_X11_128 ⟨_, rfl, rfl⟩ rfl (Nat.le_of_ble_eq_true rfl) (by decide) rfl (by decide) (by decide) (Nat.le_of_ble_eq_true rfl) dX11_people_3 (fun t1 h hr => ?_)
  refine j_if_ne K dX11_people_6 (tgt := 13) (by decide) hr (fun hr => ?_) (fun hr => ?_)
  · refine j_iload_n K dX11_people_13 2 rfl ?_
    refine j_iconst K dX11_people_14 (v := 0) rfl ?_
    refine j_bipush K dX11_people_15 (v := 15) rfl ?_
    refine j_sI3 K hr (fun v h => c_X11_in X v2 (0) (15) h) ms_X11_124 rfl (by decide) (by decide) (Nat.le_of_ble_eq_true rfl) dX11_people_17 (fun t2 h hr => ?_)
    refine j_if_eq K dX11_people_20 (tgt := 27) (by decide) hr (fun hr => ?_) (fun hr => ?_)
    · refine j_iconst K dX11_people_27 (v := 2) rfl ?_
      exact j_sub [0, 1, 2] rfl (jb_X11_people_28 K _ _ _ _ F hr)
    · refine j_iconst K dX11_people_23 (v := 0) rfl ?_
      refine j_goto K dX11_people_24 (tgt := 28) (by decide) ?_
      exact j_sub [0, 1, 2] rfl (jb_X11_people_28 K _ _ _ _ F hr)
  · refine j_iconst K dX11_people_9 (v := 1) rfl ?_
    refine j_goto K dX11_people_10 (tgt := 28) (by decide) ?_
    exact j_sub [0, 1, 2] rfl (jb_X11_people_28 K _ _ _ _ F hr)
theorem c_X11_people (X : JX) (v1 : Int32) (v2 : Int32) {r : (Int32 × JX)} (hr : f_X11_people X v1 v2 = some r) : Cal LY yX11_people cX11_people 4 (some .int) 2 (fun ad => [.ref (ad (0)), .int v1, .int v2]) X (fun ad => oM r) :=
  Cal.of (own := RX11) (fun ad => [(0, .ref (ad (0))), (1, .int v1), (2, .int v2)]) (by decide) rfl (fun _ => Nat.le_of_ble_eq_true rfl) (fun _ => rfl) (fun κ K F => jf_X11_people K X v1 v2 F hr)
theorem jb_X11_remove_194 {κ : JK} (K : jOk 5 cX11_remove RX11 (some .int) 2 κ) (X : JX) (v2 : Int32) (v3 : Int32) (v4 : Int32) {r : (Int32 × JX)} (F : jFin LY false (oM r) κ) (rec168 : JX → Int32 → Option (Int32 × JX)) (hrec168 : ∀ (X : JX) (v4 : Int32), rec168 X v4 = some r → J LY 5 κ X 168 [(0, .ref (jad κ (0))), (2, .int v2), (3, .int v3), (4, .int v4)] []) (hr : b_X11_remove_194 rec168 X v2 v3 v4 = some r) : J LY 5 κ X 194 [(0, .ref (jad κ (0))), (2, .int v2), (3, .int v3), (4, .int v4)] [] := by
  unfold b_X11_remove_194 at hr
  refine j_iincV K dX11_remove_194 (v := -1) 3 rfl rfl (by decide) hr (fun t15 hr => ?_)
  refine j_goto K dX11_remove_197 (tgt := 168) (by decide) ?_
  exact j_sub [1, 2, 3, 0] rfl (hrec168 _ _ hr)
theorem jl_X11_remove_168 {κ : JK} (K : jOk 5 cX11_remove RX11 (some .int) 2 κ) (v2 : Int32) (v3 : Int32) {r : (Int32 × JX)} (F : jFin LY false (oM r) κ) : ∀ (X : JX) (v4 : Int32), l_X11_remove_168 v2 v3 X v4 = some r → J LY 5 κ X 168 [(0, .ref (jad κ (0))), (2, .int v2), (3, .int v3), (4, .int v4)] [] := by
  refine j_loop2 (P := fun X v4 => J LY 5 κ X 168 [(0, .ref (jad κ (0))), (2, .int v2), (3, .int v3), (4, .int v4)] []) (fun rec168 hrec168 X v4 hr => ?_) 1000
  unfold lb_X11_remove_168 at hr
  refine j_iload K dX11_remove_168 3 rfl ?_
  refine j_if_lt K dX11_remove_170 (tgt := 200) (by decide) hr (fun hr => ?_) (fun hr => ?_)
  · refine j_aload_n K dX11_remove_200 0 rfl ?_
    refine j_get K (v := .int (X (0) 12)) fl_X11_132 rfl (Nat.le_of_ble_eq_true rfl) (by decide) rfl dX11_remove_201 ?_
    refine j_iload_n K dX11_remove_204 2 rfl ?_
    refine j_icmp_ge K dX11_remove_205 (tgt := 212) (by decide) hr (fun hr => ?_) (fun hr => ?_)
    · refine j_iload_n K dX11_remove_212 1 rfl ?_
      exact j_ireturn K dX11_remove_213 rfl F hr rfl
    · refine j_aload_n K dX11_remove_208 0 rfl ?_
      refine j_vU0 K (ci := 11) hr (fun v h => c_X11_looksAtLost X h) ml_X11_170 ⟨_, rfl, rfl⟩ rfl (Nat.le_of_ble_eq_true rfl) (by decide) rfl (by decide) (by decide) (Nat.le_of_ble_eq_true rfl) dX11_remove_209 (fun X9 h hr => ?_)
      refine j_iload_n K dX11_remove_212 1 rfl ?_
      exact j_ireturn K dX11_remove_213 rfl F hr rfl
  · refine j_aload_n K dX11_remove_173 0 rfl ?_
    refine j_get K (v := .ref (jad κ (1))) fl_X11_7 rfl (Nat.le_of_ble_eq_true rfl) (by decide) rfl dX11_remove_174 ?_
    refine j_aload_n K dX11_remove_177 0 rfl ?_
    refine j_get K (v := .ref (jad κ (10))) fl_X11_39 rfl (Nat.le_of_ble_eq_true rfl) (by decide) rfl dX11_remove_178 ?_
    refine j_iload K dX11_remove_181 3 rfl ?_
    refine j_iaload K (z := 4) rfl (Nat.le_of_ble_eq_true rfl) dX11_remove_183 hr (fun hr => ?_)
    refine j_baload K (z := 60) rfl (Nat.le_of_ble_eq_true rfl) dX11_remove_184 hr (fun hr => ?_)
    refine j_if_ne K dX11_remove_185 (tgt := 194) (by decide) hr (fun hr => ?_) (fun hr => ?_)
    · exact j_sub [0, 1, 2, 3] rfl (jb_X11_remove_194 K _ _ _ _ F rec168 hrec168 hr)
    · refine j_aload_n K dX11_remove_188 0 rfl ?_
      refine j_iload K dX11_remove_189 3 rfl ?_
      refine j_vU1 K (ci := 11) hr (fun v h => c_X11_drops X v4 h) ml_X11_166 ⟨_, rfl, rfl⟩ rfl (Nat.le_of_ble_eq_true rfl) (by decide) rfl (by decide) (by decide) (Nat.le_of_ble_eq_true rfl) dX11_remove_191 (fun X10 h hr => ?_)
      exact j_sub [0, 1, 2, 3] rfl (jb_X11_remove_194 K _ _ _ _ F rec168 hrec168 hr)
theorem jb_X11_remove_148 {κ : JK} (K : jOk 5 cX11_remove RX11 (some .int) 2 κ) (X : JX) (v2 : Int32) (v3 : Int32) (s0 : Int32) (s1 : Int32) {r : (Int32 × JX)} (F : jFin LY false (oM r) κ) (rec112 : JX → Int32 → Option (Int32 × JX)) (hrec112 : ∀ (X : JX) (v3 : Int32), rec112 X v3 = some r → J LY 5 κ X 112 [(0, .ref (jad κ (0))), (2, .int v2), (3, .int v3)] []) (hr : b_X11_remove_148 rec112 X v2 v3 s0 s1 = some r) : J LY 5 κ X 148 [(0, .ref (jad κ (0))), (2, .int v2), (3, .int v3)] [.int s0, .int s1, .ref (jad κ (1))] := by
  unfold b_X11_remove_148 at hr
  refine j_bastoreV K (z := 60) rfl (Nat.le_of_ble_eq_true rfl) dX11_remove_148 hr (fun X11 hr => ?_)
  refine j_iincV K dX11_remove_149 (v := 1) 2 rfl rfl (by decide) hr (fun t12 hr => ?_)
  refine j_goto K dX11_remove_152 (tgt := 112) (by decide) ?_
  exact j_sub [1, 2, 0] rfl (hrec112 _ _ hr)
theorem jl_X11_remove_112 {κ : JK} (K : jOk 5 cX11_remove RX11 (some .int) 2 κ) (v2 : Int32) {r : (Int32 × JX)} (F : jFin LY false (oM r) κ) : ∀ (X : JX) (v3 : Int32), l_X11_remove_112 v2 X v3 = some r → J LY 5 κ X 112 [(0, .ref (jad κ (0))), (2, .int v2), (3, .int v3)] [] := by
  refine j_loop2 (P := fun X v3 => J LY 5 κ X 112 [(0, .ref (jad κ (0))), (2, .int v2), (3, .int v3)] []) (fun rec112 hrec112 X v3 hr => ?_) 1000
  unfold lb_X11_remove_112 at hr
  refine j_iload_n K dX11_remove_112 2 rfl ?_
  refine j_aload_n K dX11_remove_113 0 rfl ?_
  refine j_get K (v := .int (X (0) 2)) fl_X11_118 rfl (Nat.le_of_ble_eq_true rfl) (by decide) rfl dX11_remove_114 ?_
  refine j_icmp_ge K dX11_remove_117 (tgt := 155) (by decide) hr (fun hr => ?_) (fun hr => ?_)
  · refine j_aload_n K dX11_remove_155 0 rfl ?_
    refine j_get K (v := .int (X (0) 12)) fl_X11_132 rfl (Nat.le_of_ble_eq_true rfl) (by decide) rfl dX11_remove_156 ?_
    refine j_istoreV_n K dX11_remove_159 (by decide) hr (fun t6 hr => ?_)
    refine j_aload_n K dX11_remove_160 1 rfl ?_
    refine j_get K (v := .int (X (0) 12)) fl_X11_132 rfl (Nat.le_of_ble_eq_true rfl) (by decide) rfl dX11_remove_161 ?_
    refine j_iconst K dX11_remove_164 (v := 1) rfl ?_
    refine j_isub K dX11_remove_165 ?_
    refine j_istoreV K dX11_remove_166 (by decide) hr (fun t7 hr => ?_)
    exact j_sub [2, 3, 1, 0] rfl (jl_X11_remove_168 K _ _ F _ _ hr)
  · refine j_aload_n K dX11_remove_120 0 rfl ?_
    refine j_get K (v := .ref (jad κ (1))) fl_X11_7 rfl (Nat.le_of_ble_eq_true rfl) (by decide) rfl dX11_remove_121 ?_
    refine j_iload_n K dX11_remove_124 2 rfl ?_
    refine j_aload_n K dX11_remove_125 0 rfl ?_
    refine j_get K (v := .ref (jad κ (1))) fl_X11_7 rfl (Nat.le_of_ble_eq_true rfl) (by decide) rfl dX11_remove_126 ?_
    refine j_iload_n K dX11_remove_129 2 rfl ?_
    refine j_baload K (z := 60) rfl (Nat.le_of_ble_eq_true rfl) dX11_remove_130 hr (fun hr => ?_)
    refine j_if_eq K dX11_remove_131 (tgt := 147) (by decide) hr (fun hr => ?_) (fun hr => ?_)
    · refine j_iconst K dX11_remove_147 (v := 0) rfl ?_
      exact j_sub [0, 1, 2] rfl (jb_X11_remove_148 K _ _ _ _ _ F rec112 hrec112 hr)
    · refine j_aload_n K dX11_remove_134 0 rfl ?_
      refine j_get K (v := .ref (jad κ (32))) fl_X11_112 rfl (Nat.le_of_ble_eq_true rfl) (by decide) rfl dX11_remove_135 ?_
      refine j_iload_n K dX11_remove_138 2 rfl ?_
      refine j_baload K (z := 60) rfl (Nat.le_of_ble_eq_true rfl) dX11_remove_139 hr (fun hr => ?_)
      refine j_if_ne K dX11_remove_140 (tgt := 147) (by decide) hr (fun hr => ?_) (fun hr => ?_)
      · refine j_iconst K dX11_remove_147 (v := 0) rfl ?_
        exact j_sub [0, 1, 2] rfl (jb_X11_remove_148 K _ _ _ _ _ F rec112 hrec112 hr)
      · refine j_iconst K dX11_remove_143 (v := 1) rfl ?_
        refine j_goto K dX11_remove_144 (tgt := 148) (by decide) ?_
        exact j_sub [0, 1, 2] rfl (jb_X11_remove_148 K _ _ _ _ _ F rec112 hrec112 hr)
theorem jb_X11_remove_102 {κ : JK} (K : jOk 5 cX11_remove RX11 (some .int) 2 κ) (X : JX) (v1 : Int32) (v3 : Int32) (s0 : Int32) (s1 : Int32) {r : (Int32 × JX)} (F : jFin LY false (oM r) κ) (rec45 : JX → Int32 → Int32 → Option (Int32 × JX)) (hrec45 : ∀ (X : JX) (v2 : Int32) (v3 : Int32), rec45 X v2 v3 = some r → J LY 5 κ X 45 [(0, .ref (jad κ (0))), (1, .int v1), (2, .int v2), (3, .int v3)] []) (hr : b_X11_remove_102 rec45 X v1 v3 s0 s1 = some r) : J LY 5 κ X 102 [(0, .ref (jad κ (0))), (1, .int v1), (3, .int v3)] [.int s0, .int s1] := by
  unfold b_X11_remove_102 at hr
  refine j_iadd K dX11_remove_102 ?_
  refine j_istoreV_n K dX11_remove_103 (by decide) hr (fun t13 hr => ?_)
  refine j_iincV K dX11_remove_104 (v := 1) 3 rfl rfl (by decide) hr (fun t14 hr => ?_)
  refine j_goto K dX11_remove_107 (tgt := 45) (by decide) ?_
  exact j_sub [2, 3, 1, 0] rfl (hrec45 _ _ _ hr)
theorem jb_X11_remove_86 {κ : JK} (K : jOk 5 cX11_remove RX11 (some .int) 2 κ) (X : JX) (v1 : Int32) (v2 : Int32) (v3 : Int32) (s0 : Int32) (s1 : Int32) {r : (Int32 × JX)} (F : jFin LY false (oM r) κ) (rec45 : JX → Int32 → Int32 → Option (Int32 × JX)) (hrec45 : ∀ (X : JX) (v2 : Int32) (v3 : Int32), rec45 X v2 v3 = some r → J LY 5 κ X 45 [(0, .ref (jad κ (0))), (1, .int v1), (2, .int v2), (3, .int v3)] []) (hr : b_X11_remove_86 rec45 X v1 v2 v3 s0 s1 = some r) : J LY 5 κ X 86 [(0, .ref (jad κ (0))), (1, .int v1), (2, .int v2), (3, .int v3)] [.int s0, .int s1, .ref (jad κ (32))] := by
  unfold b_X11_remove_86 at hr
  refine j_bastoreV K (z := 60) rfl (Nat.le_of_ble_eq_true rfl) dX11_remove_86 hr (fun X8 hr => ?_)
  refine j_iload_n K dX11_remove_87 2 rfl ?_
  refine j_aload_n K dX11_remove_88 0 rfl ?_
  refine j_get K (v := .ref (jad κ (32))) fl_X11_112 rfl (Nat.le_of_ble_eq_true rfl) (by decide) rfl dX11_remove_89 ?_
  refine j_iload_n K dX11_remove_92 3 rfl ?_
  refine j_baload K (z := 60) rfl (Nat.le_of_ble_eq_true rfl) dX11_remove_93 hr (fun hr => ?_)
  refine j_if_eq K dX11_remove_94 (tgt := 101) (by decide) hr (fun hr => ?_) (fun hr => ?_)
  · refine j_iconst K dX11_remove_101 (v := 0) rfl ?_
    exact j_sub [0, 1, 3] rfl (jb_X11_remove_102 K _ _ _ _ _ F rec45 hrec45 hr)
  · refine j_iconst K dX11_remove_97 (v := 1) rfl ?_
    refine j_goto K dX11_remove_98 (tgt := 102) (by decide) ?_
    exact j_sub [0, 1, 3] rfl (jb_X11_remove_102 K _ _ _ _ _ F rec45 hrec45 hr)
theorem jl_X11_remove_45 {κ : JK} (K : jOk 5 cX11_remove RX11 (some .int) 2 κ) (v1 : Int32) {r : (Int32 × JX)} (F : jFin LY false (oM r) κ) : ∀ (X : JX) (v2 : Int32) (v3 : Int32), l_X11_remove_45 v1 X v2 v3 = some r → J LY 5 κ X 45 [(0, .ref (jad κ (0))), (1, .int v1), (2, .int v2), (3, .int v3)] [] := by
  refine j_loop3 (P := fun X v2 v3 => J LY 5 κ X 45 [(0, .ref (jad κ (0))), (1, .int v1), (2, .int v2), (3, .int v3)] []) (fun rec45 hrec45 X v2 v3 hr => ?_) 1000
  unfold lb_X11_remove_45 at hr
  refine j_iload_n K dX11_remove_45 3 rfl ?_
  refine j_aload_n K dX11_remove_46 0 rfl ?_
  refine j_get K (v := .int (X (0) 2)) fl_X11_118 rfl (Nat.le_of_ble_eq_true rfl) (by decide) rfl dX11_remove_47 ?_
  refine j_icmp_ge K dX11_remove_50 (tgt := 110) (by decide) hr (fun hr => ?_) (fun hr => ?_)
  · refine j_iconst K dX11_remove_110 (v := 0) rfl ?_
    refine j_istore_n K dX11_remove_111 (by decide) ?_
    exact j_sub [1, 3, 0] rfl (jl_X11_remove_112 K _ F _ _ hr)
  · refine j_aload_n K dX11_remove_53 0 rfl ?_
    refine j_get K (v := .ref (jad κ (32))) fl_X11_112 rfl (Nat.le_of_ble_eq_true rfl) (by decide) rfl dX11_remove_54 ?_
    refine j_iload_n K dX11_remove_57 3 rfl ?_
    refine j_aload_n K dX11_remove_58 0 rfl ?_
    refine j_get K (v := .ref (jad κ (1))) fl_X11_7 rfl (Nat.le_of_ble_eq_true rfl) (by decide) rfl dX11_remove_59 ?_
    refine j_iload_n K dX11_remove_62 3 rfl ?_
    refine j_baload K (z := 60) rfl (Nat.le_of_ble_eq_true rfl) dX11_remove_63 hr (fun hr => ?_)
    refine j_if_eq K dX11_remove_64 (tgt := 85) (by decide) hr (fun hr => ?_) (fun hr => ?_)
    · refine j_iconst K dX11_remove_85 (v := 0) rfl ?_
      exact j_sub [0, 1, 2, 3] rfl (jb_X11_remove_86 K _ _ _ _ _ _ F rec45 hrec45 hr)
    · refine j_iload_n K dX11_remove_67 3 rfl ?_
      refine j_iload_n K dX11_remove_68 1 rfl ?_
      refine j_icmp_eq K dX11_remove_69 (tgt := 81) (by decide) hr (fun hr => ?_) (fun hr => ?_)
      · refine j_iconst K dX11_remove_81 (v := 1) rfl ?_
        refine j_goto K dX11_remove_82 (tgt := 86) (by decide) ?_
        exact j_sub [0, 1, 2, 3] rfl (jb_X11_remove_86 K _ _ _ _ _ _ F rec45 hrec45 hr)
      · refine j_aload_n K dX11_remove_72 0 rfl ?_
        refine j_iload_n K dX11_remove_73 3 rfl ?_
        refine j_iload_n K dX11_remove_74 1 rfl ?_
        refine j_vI2 K (ci := 11) hr (fun v h => c_X11_isBelow X v3 v1 h) ml_X11_135 ⟨_, rfl, rfl⟩ rfl (Nat.le_of_ble_eq_true rfl) (by decide) rfl (by decide) (by decide) (Nat.le_of_ble_eq_true rfl) dX11_remove_75 (fun t5 h hr => ?_)
        refine j_if_eq K dX11_remove_78 (tgt := 85) (by decide) hr (fun hr => ?_) (fun hr => ?_)
        · refine j_iconst K dX11_remove_85 (v := 0) rfl ?_
          exact j_sub [0, 1, 2, 3] rfl (jb_X11_remove_86 K _ _ _ _ _ _ F rec45 hrec45 hr)
        · refine j_iconst K dX11_remove_81 (v := 1) rfl ?_
          refine j_goto K dX11_remove_82 (tgt := 86) (by decide) ?_
          exact j_sub [0, 1, 2, 3] rfl (jb_X11_remove_86 K _ _ _ _ _ _ F rec45 hrec45 hr)
theorem jb_X11_remove_18 {κ : JK} (K : jOk 5 cX11_remove RX11 (some .int) 2 κ) (X : JX) (v1 : Int32) (s0 : Int32) {r : (Int32 × JX)} (F : jFin LY false (oM r) κ) (hr : b_X11_remove_18 X v1 s0 = some r) : J LY 5 κ X 18 [(0, .ref (jad κ (0))), (1, .int v1)] [.int s0, .ref (jad κ (0))] := by
  unfold b_X11_remove_18 at hr
  refine j_putiV K fp_X11_121 rfl (Nat.le_of_ble_eq_true rfl) (by decide) (fun _ => Nat.le_of_ble_eq_true rfl) (fun _ => rfl) dX11_remove_18 hr (fun X2 hr => ?_)
  refine j_aload_n K dX11_remove_21 0 rfl ?_
  refine j_get K (v := .int (X2 (0) 0)) fl_X11_121 rfl (Nat.le_of_ble_eq_true rfl) (by decide) rfl dX11_remove_22 ?_
  refine j_if_le K dX11_remove_25 (tgt := 30) (by decide) hr (fun hr => ?_) (fun hr => ?_)
  · refine j_aload_n K dX11_remove_30 0 rfl ?_
    refine j_aload_n K dX11_remove_31 0 rfl ?_
    refine j_iload_n K dX11_remove_32 1 rfl ?_
    refine j_vI1 K (ci := 11) hr (fun v h => c_X11_over X2 v1 h) ml_X11_150 ⟨_, rfl, rfl⟩ rfl (Nat.le_of_ble_eq_true rfl) (by decide) rfl (by decide) (by decide) (Nat.le_of_ble_eq_true rfl) dX11_remove_33 (fun t3 h hr => ?_)
    refine j_iconst K dX11_remove_36 (v := 2) rfl ?_
    refine j_iload_n K dX11_remove_37 1 rfl ?_
    refine j_vU3 K (ci := 11) hr (fun v h => c_X11_comes X2 t3 (2) v1 h) ml_X11_153 ⟨_, rfl, rfl⟩ rfl (Nat.le_of_ble_eq_true rfl) (by decide) rfl (by decide) (by decide) (Nat.le_of_ble_eq_true rfl) dX11_remove_38 (fun X4 h hr => ?_)
    refine j_iconst K dX11_remove_41 (v := 0) rfl ?_
    refine j_istore_n K dX11_remove_42 (by decide) ?_
    refine j_iconst K dX11_remove_43 (v := 0) rfl ?_
    refine j_istore_n K dX11_remove_44 (by decide) ?_
    exact j_sub [2, 3, 1, 0] rfl (jl_X11_remove_45 K _ F _ _ _ hr)
  · refine j_iconst K dX11_remove_28 (v := 0) rfl ?_
    exact j_ireturn K dX11_remove_29 rfl F hr rfl
theorem jf_X11_remove {κ : JK} (K : jOk 5 cX11_remove RX11 (some .int) 2 κ) (X : JX) (v1 : Int32) {r : (Int32 × JX)} (F : jFin LY false (oM r) κ) (hr : f_X11_remove X v1 = some r) : J LY 5 κ X 0 [(0, .ref (jad κ (0))), (1, .int v1)] [] := by
  unfold f_X11_remove at hr
  refine j_aload_n K dX11_remove_0 0 rfl ?_
  refine j_aload_n K dX11_remove_1 0 rfl ?_
  refine j_iload_n K dX11_remove_2 1 rfl ?_
  refine j_vI1 K (ci := 11) hr (fun v h => c_X11_isNode X v1 h) ml_X11_128 ⟨_, rfl, rfl⟩ rfl (Nat.le_of_ble_eq_true rfl) (by decide) rfl (by decide) (by decide) (Nat.le_of_ble_eq_true rfl) dX11_remove_3 (fun t1 h hr => ?_)
  refine j_if_eq K dX11_remove_6 (tgt := 17) (by decide) hr (fun hr => ?_) (fun hr => ?_)
  · refine j_iconst K dX11_remove_17 (v := 1) rfl ?_
    exact j_sub [0, 1] rfl (jb_X11_remove_18 K _ _ _ F hr)
  · refine j_iload_n K dX11_remove_9 1 rfl ?_
    refine j_if_eq K dX11_remove_10 (tgt := 17) (by decide) hr (fun hr => ?_) (fun hr => ?_)
    · refine j_iconst K dX11_remove_17 (v := 1) rfl ?_
      exact j_sub [0, 1] rfl (jb_X11_remove_18 K _ _ _ F hr)
    · refine j_iconst K dX11_remove_13 (v := 0) rfl ?_
      refine j_goto K dX11_remove_14 (tgt := 18) (by decide) ?_
      exact j_sub [0, 1] rfl (jb_X11_remove_18 K _ _ _ F hr)
theorem c_X11_remove (X : JX) (v1 : Int32) {r : (Int32 × JX)} (hr : f_X11_remove X v1 = some r) : Cal LY yX11_remove cX11_remove 5 (some .int) 2 (fun ad => [.ref (ad (0)), .int v1]) X (fun ad => oM r) :=
  Cal.of (own := RX11) (fun ad => [(0, .ref (ad (0))), (1, .int v1)]) (by decide) rfl (fun _ => Nat.le_of_ble_eq_true rfl) (fun _ => rfl) (fun κ K F => jf_X11_remove K X v1 F hr)
theorem jf_X11_segments {κ : JK} (K : jOk 1 cX11_segments RX11 (some .int) 0 κ) (X : JX) {r : (Int32 × JX)} (F : jFin LY false (oM r) κ) (hr : f_X11_segments X = some r) : J LY 1 κ X 0 [(0, .ref (jad κ (0)))] [] := by
  unfold f_X11_segments at hr
  refine j_aload_n K dX11_segments_0 0 rfl ?_
  refine j_iconst K dX11_segments_1 (v := 0) rfl ?_
  refine j_putiV K fp_X11_121 rfl (Nat.le_of_ble_eq_true rfl) (by decide) (fun _ => Nat.le_of_ble_eq_true rfl) (fun _ => rfl) dX11_segments_2 hr (fun X1 hr => ?_)
  refine j_aload_n K dX11_segments_5 0 rfl ?_
  refine j_get K (v := .int (X1 (0) 41)) fl_X11_264 rfl (Nat.le_of_ble_eq_true rfl) (by decide) rfl dX11_segments_6 ?_
  exact j_ireturn K dX11_segments_9 rfl F hr rfl
theorem c_X11_segments (X : JX) {r : (Int32 × JX)} (hr : f_X11_segments X = some r) : Cal LY yX11_segments cX11_segments 1 (some .int) 0 (fun ad => [.ref (ad (0))]) X (fun ad => oM r) :=
  Cal.of (own := RX11) (fun ad => [(0, .ref (ad (0)))]) (by decide) rfl (fun _ => Nat.le_of_ble_eq_true rfl) (fun _ => rfl) (fun κ K F => jf_X11_segments K X F hr)
theorem jb_X11_stale_80 {κ : JK} (K : jOk 4 cX11_stale RX11 (some .int) 2 κ) (X : JX) (v2 : Int32) (s0 : Int32) (s1 : Int32) {r : (Int32 × JX)} (F : jFin LY false (oM r) κ) (rec9 : Int32 → Int32 → Option (Int32 × JX)) (hrec9 : ∀ (v1 : Int32) (v2 : Int32), rec9 v1 v2 = some r → J LY 4 κ X 9 [(0, .ref (jad κ (0))), (1, .int v1), (2, .int v2)] []) (hr : b_X11_stale_80 rec9 X v2 s0 s1 = some r) : J LY 4 κ X 80 [(0, .ref (jad κ (0))), (2, .int v2)] [.int s0, .int s1] := by
  unfold b_X11_stale_80 at hr
  refine j_iadd K dX11_stale_80 ?_
  refine j_istoreV_n K dX11_stale_81 (by decide) hr (fun t5 hr => ?_)
  refine j_iincV K dX11_stale_82 (v := 1) 2 rfl rfl (by decide) hr (fun t6 hr => ?_)
  refine j_goto K dX11_stale_85 (tgt := 9) (by decide) ?_
  exact j_sub [2, 1, 0] rfl (hrec9 _ _ hr)
theorem jb_X11_stale_59 {κ : JK} (K : jOk 4 cX11_stale RX11 (some .int) 2 κ) (X : JX) (v2 : Int32) (v3 : Int32) (s0 : Int32) (s1 : Int32) {r : (Int32 × JX)} (F : jFin LY false (oM r) κ) (rec9 : Int32 → Int32 → Option (Int32 × JX)) (hrec9 : ∀ (v1 : Int32) (v2 : Int32), rec9 v1 v2 = some r → J LY 4 κ X 9 [(0, .ref (jad κ (0))), (1, .int v1), (2, .int v2)] []) (hr : b_X11_stale_59 rec9 X v2 v3 s0 s1 = some r) : J LY 4 κ X 59 [(0, .ref (jad κ (0))), (2, .int v2), (3, .int v3)] [.int s0, .int s1] := by
  unfold b_X11_stale_59 at hr
  refine j_iadd K dX11_stale_59 ?_
  refine j_istoreV_n K dX11_stale_60 (by decide) hr (fun t4 hr => ?_)
  refine j_iload_n K dX11_stale_61 0 rfl ?_
  refine j_aload_n K dX11_stale_62 1 rfl ?_
  refine j_get K (v := .ref (jad κ (19))) fl_X11_66 rfl (Nat.le_of_ble_eq_true rfl) (by decide) rfl dX11_stale_63 ?_
  refine j_iload_n K dX11_stale_66 2 rfl ?_
  refine j_baload K (z := 60) rfl (Nat.le_of_ble_eq_true rfl) dX11_stale_67 hr (fun hr => ?_)
  refine j_if_eq K dX11_stale_68 (tgt := 79) (by decide) hr (fun hr => ?_) (fun hr => ?_)
  · refine j_iconst K dX11_stale_79 (v := 0) rfl ?_
    exact j_sub [1, 2] rfl (jb_X11_stale_80 K _ _ _ _ F rec9 hrec9 hr)
  · refine j_iload_n K dX11_stale_71 3 rfl ?_
    refine j_if_ne K dX11_stale_72 (tgt := 79) (by decide) hr (fun hr => ?_) (fun hr => ?_)
    · refine j_iconst K dX11_stale_79 (v := 0) rfl ?_
      exact j_sub [1, 2] rfl (jb_X11_stale_80 K _ _ _ _ F rec9 hrec9 hr)
    · refine j_iconst K dX11_stale_75 (v := 1) rfl ?_
      refine j_goto K dX11_stale_76 (tgt := 80) (by decide) ?_
      exact j_sub [1, 2] rfl (jb_X11_stale_80 K _ _ _ _ F rec9 hrec9 hr)
theorem jb_X11_stale_31 {κ : JK} (K : jOk 4 cX11_stale RX11 (some .int) 2 κ) (X : JX) (v1 : Int32) (v2 : Int32) (s0 : Int32) {r : (Int32 × JX)} (F : jFin LY false (oM r) κ) (rec9 : Int32 → Int32 → Option (Int32 × JX)) (hrec9 : ∀ (v1 : Int32) (v2 : Int32), rec9 v1 v2 = some r → J LY 4 κ X 9 [(0, .ref (jad κ (0))), (1, .int v1), (2, .int v2)] []) (hr : b_X11_stale_31 rec9 X v1 v2 s0 = some r) : J LY 4 κ X 31 [(0, .ref (jad κ (0))), (1, .int v1), (2, .int v2)] [.int s0] := by
  unfold b_X11_stale_31 at hr
  refine j_istore_n K dX11_stale_31 (by decide) ?_
  refine j_iload_n K dX11_stale_32 2 rfl ?_
  refine j_iload_n K dX11_stale_33 0 rfl ?_
  refine j_if_eq K dX11_stale_34 (tgt := 58) (by decide) hr (fun hr => ?_) (fun hr => ?_)
  · refine j_iconst K dX11_stale_58 (v := 0) rfl ?_
    exact j_sub [1, 3, 0] rfl (jb_X11_stale_59 K _ _ _ _ _ F rec9 hrec9 hr)
  · refine j_aload_n K dX11_stale_37 1 rfl ?_
    refine j_get K (v := .ref (jad κ (2))) fl_X11_13 rfl (Nat.le_of_ble_eq_true rfl) (by decide) rfl dX11_stale_38 ?_
    refine j_iload_n K dX11_stale_41 3 rfl ?_
    refine j_baload K (z := 60) rfl (Nat.le_of_ble_eq_true rfl) dX11_stale_42 hr (fun hr => ?_)
    refine j_if_ne K dX11_stale_43 (tgt := 58) (by decide) hr (fun hr => ?_) (fun hr => ?_)
    · refine j_iconst K dX11_stale_58 (v := 0) rfl ?_
      exact j_sub [1, 3, 0] rfl (jb_X11_stale_59 K _ _ _ _ _ F rec9 hrec9 hr)
    · refine j_aload_n K dX11_stale_46 1 rfl ?_
      refine j_iload_n K dX11_stale_47 3 rfl ?_
      refine j_vI1 K (ci := 11) hr (fun v h => c_X11_isKnown X v2 h) ml_X11_213 ⟨_, rfl, rfl⟩ rfl (Nat.le_of_ble_eq_true rfl) (by decide) rfl (by decide) (by decide) (Nat.le_of_ble_eq_true rfl) dX11_stale_48 (fun t3 h hr => ?_)
      refine j_if_ne K dX11_stale_51 (tgt := 58) (by decide) hr (fun hr => ?_) (fun hr => ?_)
      · refine j_iconst K dX11_stale_58 (v := 0) rfl ?_
        exact j_sub [1, 3, 0] rfl (jb_X11_stale_59 K _ _ _ _ _ F rec9 hrec9 hr)
      · refine j_iconst K dX11_stale_54 (v := 1) rfl ?_
        refine j_goto K dX11_stale_55 (tgt := 59) (by decide) ?_
        exact j_sub [1, 3, 0] rfl (jb_X11_stale_59 K _ _ _ _ _ F rec9 hrec9 hr)
theorem jl_X11_stale_9 {κ : JK} (K : jOk 4 cX11_stale RX11 (some .int) 2 κ) (X : JX) {r : (Int32 × JX)} (F : jFin LY false (oM r) κ) : ∀ (v1 : Int32) (v2 : Int32), l_X11_stale_9 X v1 v2 = some r → J LY 4 κ X 9 [(0, .ref (jad κ (0))), (1, .int v1), (2, .int v2)] [] := by
  refine j_loop2 (P := fun v1 v2 => J LY 4 κ X 9 [(0, .ref (jad κ (0))), (1, .int v1), (2, .int v2)] []) (fun rec9 hrec9 v1 v2 hr => ?_) 1000
  unfold lb_X11_stale_9 at hr
  refine j_iload_n K dX11_stale_9 2 rfl ?_
  refine j_aload_n K dX11_stale_10 0 rfl ?_
  refine j_get K (v := .int (X (0) 2)) fl_X11_118 rfl (Nat.le_of_ble_eq_true rfl) (by decide) rfl dX11_stale_11 ?_
  refine j_icmp_ge K dX11_stale_14 (tgt := 88) (by decide) hr (fun hr => ?_) (fun hr => ?_)
  · refine j_iload_n K dX11_stale_88 1 rfl ?_
    exact j_ireturn K dX11_stale_89 rfl F hr rfl
  · refine j_aload_n K dX11_stale_17 0 rfl ?_
    refine j_iload_n K dX11_stale_18 2 rfl ?_
    refine j_vI1 K (ci := 11) hr (fun v h => c_X11_over X v2 h) ml_X11_150 ⟨_, rfl, rfl⟩ rfl (Nat.le_of_ble_eq_true rfl) (by decide) rfl (by decide) (by decide) (Nat.le_of_ble_eq_true rfl) dX11_stale_19 (fun t2 h hr => ?_)
    refine j_iconst K dX11_stale_22 (v := -1) rfl ?_
    refine j_icmp_eq K dX11_stale_23 (tgt := 30) (by decide) hr (fun hr => ?_) (fun hr => ?_)
    · refine j_iconst K dX11_stale_30 (v := 0) rfl ?_
      exact j_sub [0, 1, 2] rfl (jb_X11_stale_31 K _ _ _ _ F rec9 hrec9 hr)
    · refine j_iconst K dX11_stale_26 (v := 1) rfl ?_
      refine j_goto K dX11_stale_27 (tgt := 31) (by decide) ?_
      exact j_sub [0, 1, 2] rfl (jb_X11_stale_31 K _ _ _ _ F rec9 hrec9 hr)
theorem jf_X11_stale {κ : JK} (K : jOk 4 cX11_stale RX11 (some .int) 2 κ) (X : JX) {r : (Int32 × JX)} (F : jFin LY false (oM r) κ) (hr : f_X11_stale X = some r) : J LY 4 κ X 0 [(0, .ref (jad κ (0)))] [] := by
  unfold f_X11_stale at hr
  refine j_aload_n K dX11_stale_0 0 rfl ?_
  refine j_iconst K dX11_stale_1 (v := 0) rfl ?_
  refine j_putiV K fp_X11_121 rfl (Nat.le_of_ble_eq_true rfl) (by decide) (fun _ => Nat.le_of_ble_eq_true rfl) (fun _ => rfl) dX11_stale_2 hr (fun X1 hr => ?_)
  refine j_iconst K dX11_stale_5 (v := 0) rfl ?_
  refine j_istore_n K dX11_stale_6 (by decide) ?_
  refine j_iconst K dX11_stale_7 (v := 0) rfl ?_
  refine j_istore_n K dX11_stale_8 (by decide) ?_
  exact j_sub [2, 1, 0] rfl (jl_X11_stale_9 K _ F _ _ hr)
theorem c_X11_stale (X : JX) {r : (Int32 × JX)} (hr : f_X11_stale X = some r) : Cal LY yX11_stale cX11_stale 4 (some .int) 2 (fun ad => [.ref (ad (0))]) X (fun ad => oM r) :=
  Cal.of (own := RX11) (fun ad => [(0, .ref (ad (0)))]) (by decide) rfl (fun _ => Nat.le_of_ble_eq_true rfl) (fun _ => rfl) (fun κ K F => jf_X11_stale K X F hr)
theorem jf_X11_thrown {κ : JK} (K : jOk 1 cX11_thrown RX11 (some .int) 0 κ) (X : JX) {r : Int32} (F : jFin LY false (oI X r) κ) (hr : f_X11_thrown X = some r) : J LY 1 κ X 0 [(0, .ref (jad κ (0)))] [] := by
  unfold f_X11_thrown at hr
  refine j_aload_n K dX11_thrown_0 0 rfl ?_
  refine j_get K (v := .int (X (0) 0)) fl_X11_121 rfl (Nat.le_of_ble_eq_true rfl) (by decide) rfl dX11_thrown_1 ?_
  exact j_ireturn K dX11_thrown_4 rfl F hr rfl
theorem c_X11_thrown (X : JX) {r : Int32} (hr : f_X11_thrown X = some r) : Cal LY yX11_thrown cX11_thrown 1 (some .int) 0 (fun ad => [.ref (ad (0))]) X (fun ad => oI X r) :=
  Cal.of (own := RX11) (fun ad => [(0, .ref (ad (0)))]) (by decide) rfl (fun _ => Nat.le_of_ble_eq_true rfl) (fun _ => rfl) (fun κ K F => jf_X11_thrown K X F hr)
theorem jb_X11_twice_30 {κ : JK} (K : jOk 3 cX11_twice RX11 (some .int) 1 κ) (X : JX) (v2 : Int32) (s0 : Int32) {r : (Int32 × JX)} (F : jFin LY false (oM r) κ) (hr : b_X11_twice_30 X v2 s0 = some r) : J LY 3 κ X 30 [(0, .ref (jad κ (0))), (2, .int v2)] [.int s0, .ref (jad κ (0))] := by
  unfold b_X11_twice_30 at hr
  refine j_putiV K fp_X11_121 rfl (Nat.le_of_ble_eq_true rfl) (by decide) (fun _ => Nat.le_of_ble_eq_true rfl) (fun _ => rfl) dX11_twice_30 hr (fun X2 hr => ?_)
  refine j_aload_n K dX11_twice_33 0 rfl ?_
  refine j_get K (v := .int (X2 (0) 0)) fl_X11_121 rfl (Nat.le_of_ble_eq_true rfl) (by decide) rfl dX11_twice_34 ?_
  refine j_if_le K dX11_twice_37 (tgt := 42) (by decide) hr (fun hr => ?_) (fun hr => ?_)
  · refine j_aload_n K dX11_twice_42 0 rfl ?_
    refine j_iload_n K dX11_twice_43 1 rfl ?_
    refine j_aload_n K dX11_twice_44 0 rfl ?_
    refine j_get K (v := .ref (jad κ (12))) fl_X11_45 rfl (Nat.le_of_ble_eq_true rfl) (by decide) rfl dX11_twice_45 ?_
    refine j_bipush K dX11_twice_48 (v := 8) rfl ?_
    refine j_iload_n K dX11_twice_50 1 rfl ?_
    refine j_imul K dX11_twice_51 ?_
    refine j_aload_n K dX11_twice_52 0 rfl ?_
    refine j_get K (v := .ref (jad κ (11))) fl_X11_42 rfl (Nat.le_of_ble_eq_true rfl) (by decide) rfl dX11_twice_53 ?_
    refine j_iload_n K dX11_twice_56 1 rfl ?_
    refine j_iaload K (z := 4) rfl (Nat.le_of_ble_eq_true rfl) dX11_twice_57 hr (fun hr => ?_)
    refine j_iadd K dX11_twice_58 ?_
    refine j_iconst K dX11_twice_59 (v := 1) rfl ?_
    refine j_isub K dX11_twice_60 ?_
    refine j_iaload K (z := 32) rfl (Nat.le_of_ble_eq_true rfl) dX11_twice_61 hr (fun hr => ?_)
    refine j_aload_n K dX11_twice_62 0 rfl ?_
    refine j_get K (v := .ref (jad κ (13))) fl_X11_48 rfl (Nat.le_of_ble_eq_true rfl) (by decide) rfl dX11_twice_63 ?_
    refine j_bipush K dX11_twice_66 (v := 8) rfl ?_
    refine j_iload_n K dX11_twice_68 1 rfl ?_
    refine j_imul K dX11_twice_69 ?_
    refine j_aload_n K dX11_twice_70 0 rfl ?_
    refine j_get K (v := .ref (jad κ (11))) fl_X11_42 rfl (Nat.le_of_ble_eq_true rfl) (by decide) rfl dX11_twice_71 ?_
    refine j_iload_n K dX11_twice_74 1 rfl ?_
    refine j_iaload K (z := 4) rfl (Nat.le_of_ble_eq_true rfl) dX11_twice_75 hr (fun hr => ?_)
    refine j_iadd K dX11_twice_76 ?_
    refine j_iconst K dX11_twice_77 (v := 1) rfl ?_
    refine j_isub K dX11_twice_78 ?_
    refine j_iaload K (z := 32) rfl (Nat.le_of_ble_eq_true rfl) dX11_twice_79 hr (fun hr => ?_)
    refine j_vU3 K (ci := 11) hr (fun v h => c_X11_comes X2 v2 (X2 (12) ((((8) * v2) + (X2 (11) v2.toNatClampNeg)) - (1)).toNatClampNeg) (X2 (13) ((((8) * v2) + (X2 (11) v2.toNatClampNeg)) - (1)).toNatClampNeg) h) ml_X11_153 ⟨_, rfl, rfl⟩ rfl (Nat.le_of_ble_eq_true rfl) (by decide) rfl (by decide) (by decide) (Nat.le_of_ble_eq_true rfl) dX11_twice_80 (fun X3 h hr => ?_)
    refine j_aload_n K dX11_twice_83 0 rfl ?_
    refine j_get K (v := .ref (jad κ (14))) fl_X11_51 rfl (Nat.le_of_ble_eq_true rfl) (by decide) rfl dX11_twice_84 ?_
    refine j_iload_n K dX11_twice_87 1 rfl ?_
    refine j_baload K (z := 4) rfl (Nat.le_of_ble_eq_true rfl) dX11_twice_88 hr (fun hr => ?_)
    refine j_if_eq K dX11_twice_89 (tgt := 96) (by decide) hr (fun hr => ?_) (fun hr => ?_)
    · refine j_aload_n K dX11_twice_96 0 rfl ?_
      refine j_get K (v := .ref (jad κ (11))) fl_X11_42 rfl (Nat.le_of_ble_eq_true rfl) (by decide) rfl dX11_twice_97 ?_
      refine j_iload_n K dX11_twice_100 1 rfl ?_
      refine j_iaload K (z := 4) rfl (Nat.le_of_ble_eq_true rfl) dX11_twice_101 hr (fun hr => ?_)
      exact j_ireturn K dX11_twice_102 rfl F hr rfl
    · refine j_iconst K dX11_twice_92 (v := -1) rfl ?_
      refine j_goto K dX11_twice_93 (tgt := 102) (by decide) ?_
      exact j_ireturn K dX11_twice_102 rfl F hr rfl
  · refine j_iconst K dX11_twice_40 (v := 0) rfl ?_
    exact j_ireturn K dX11_twice_41 rfl F hr rfl
theorem jf_X11_twice {κ : JK} (K : jOk 3 cX11_twice RX11 (some .int) 1 κ) (X : JX) (v1 : Int32) {r : (Int32 × JX)} (F : jFin LY false (oM r) κ) (hr : f_X11_twice X v1 = some r) : J LY 3 κ X 0 [(0, .ref (jad κ (0))), (1, .int v1)] [] := by
  unfold f_X11_twice at hr
  refine j_aload_n K dX11_twice_0 0 rfl ?_
  refine j_iload_n K dX11_twice_1 1 rfl ?_
  refine j_vI1 K (ci := 11) hr (fun v h => c_X11_rootAt X v1 h) ml_X11_163 ⟨_, rfl, rfl⟩ rfl (Nat.le_of_ble_eq_true rfl) (by decide) rfl (by decide) (by decide) (Nat.le_of_ble_eq_true rfl) dX11_twice_2 (fun t1 h hr => ?_)
  refine j_istore_n K dX11_twice_5 (by decide) ?_
  refine j_aload_n K dX11_twice_6 1 rfl ?_
  refine j_iload_n K dX11_twice_7 0 rfl ?_
  refine j_iconst K dX11_twice_8 (v := -1) rfl ?_
  refine j_icmp_ne K dX11_twice_9 (tgt := 16) (by decide) hr (fun hr => ?_) (fun hr => ?_)
  · refine j_aload_n K dX11_twice_16 1 rfl ?_
    refine j_get K (v := .ref (jad κ (11))) fl_X11_42 rfl (Nat.le_of_ble_eq_true rfl) (by decide) rfl dX11_twice_17 ?_
    refine j_iload_n K dX11_twice_20 0 rfl ?_
    refine j_iaload K (z := 4) rfl (Nat.le_of_ble_eq_true rfl) dX11_twice_21 hr (fun hr => ?_)
    refine j_if_ne K dX11_twice_22 (tgt := 29) (by decide) hr (fun hr => ?_) (fun hr => ?_)
    · refine j_iconst K dX11_twice_29 (v := 0) rfl ?_
      exact j_sub [1, 0] rfl (jb_X11_twice_30 K _ _ _ F hr)
    · refine j_iconst K dX11_twice_25 (v := 2) rfl ?_
      refine j_goto K dX11_twice_26 (tgt := 30) (by decide) ?_
      exact j_sub [1, 0] rfl (jb_X11_twice_30 K _ _ _ F hr)
  · refine j_iconst K dX11_twice_12 (v := 1) rfl ?_
    refine j_goto K dX11_twice_13 (tgt := 30) (by decide) ?_
    exact j_sub [1, 0] rfl (jb_X11_twice_30 K _ _ _ F hr)
theorem c_X11_twice (X : JX) (v1 : Int32) {r : (Int32 × JX)} (hr : f_X11_twice X v1 = some r) : Cal LY yX11_twice cX11_twice 3 (some .int) 1 (fun ad => [.ref (ad (0)), .int v1]) X (fun ad => oM r) :=
  Cal.of (own := RX11) (fun ad => [(0, .ref (ad (0))), (1, .int v1)]) (by decide) rfl (fun _ => Nat.le_of_ble_eq_true rfl) (fun _ => rfl) (fun κ K F => jf_X11_twice K X v1 F hr)
theorem jb_X11_watch_56 {κ : JK} (K : jOk 3 cX11_watch RX11 (some .int) 3 κ) (X : JX) (v1 : Int32) (v2 : Int32) (s0 : Int32) {r : (Int32 × JX)} (F : jFin LY false (oM r) κ) (hr : b_X11_watch_56 X v1 v2 s0 = some r) : J LY 3 κ X 56 [(0, .ref (jad κ (0))), (1, .int v1), (2, .int v2)] [.int s0, .ref (jad κ (0))] := by
  unfold b_X11_watch_56 at hr
  refine j_putiV K fp_X11_121 rfl (Nat.le_of_ble_eq_true rfl) (by decide) (fun _ => Nat.le_of_ble_eq_true rfl) (fun _ => rfl) dX11_watch_56 hr (fun X6 hr => ?_)
  refine j_aload_n K dX11_watch_59 0 rfl ?_
  refine j_get K (v := .int (X6 (0) 0)) fl_X11_121 rfl (Nat.le_of_ble_eq_true rfl) (by decide) rfl dX11_watch_60 ?_
  refine j_if_le K dX11_watch_63 (tgt := 68) (by decide) hr (fun hr => ?_) (fun hr => ?_)
  · refine j_iload_n K dX11_watch_68 2 rfl ?_
    refine j_iconst K dX11_watch_69 (v := -1) rfl ?_
    refine j_icmp_ne K dX11_watch_70 (tgt := 126) (by decide) hr (fun hr => ?_) (fun hr => ?_)
    · refine j_aload_n K dX11_watch_126 0 rfl ?_
      refine j_iload_n K dX11_watch_127 2 rfl ?_
      refine j_vU1 K (ci := 11) hr (fun v h => c_X11_drops X6 v2 h) ml_X11_166 ⟨_, rfl, rfl⟩ rfl (Nat.le_of_ble_eq_true rfl) (by decide) rfl (by decide) (by decide) (Nat.le_of_ble_eq_true rfl) dX11_watch_128 (fun X7 h hr => ?_)
      refine j_aload_n K dX11_watch_131 0 rfl ?_
      refine j_vU0 K (ci := 11) hr (fun v h => c_X11_looksAtLost X7 h) ml_X11_170 ⟨_, rfl, rfl⟩ rfl (Nat.le_of_ble_eq_true rfl) (by decide) rfl (by decide) (by decide) (Nat.le_of_ble_eq_true rfl) dX11_watch_132 (fun X8 h hr => ?_)
      refine j_aload_n K dX11_watch_135 0 rfl ?_
      refine j_get K (v := .int (X8 (0) 12)) fl_X11_132 rfl (Nat.le_of_ble_eq_true rfl) (by decide) rfl dX11_watch_136 ?_
      exact j_ireturn K dX11_watch_139 rfl F hr rfl
    · refine j_aload_n K dX11_watch_73 0 rfl ?_
      refine j_get K (v := .ref (jad κ (10))) fl_X11_39 rfl (Nat.le_of_ble_eq_true rfl) (by decide) rfl dX11_watch_74 ?_
      refine j_aload_n K dX11_watch_77 0 rfl ?_
      refine j_get K (v := .int (X6 (0) 12)) fl_X11_132 rfl (Nat.le_of_ble_eq_true rfl) (by decide) rfl dX11_watch_78 ?_
      refine j_iload_n K dX11_watch_81 1 rfl ?_
      refine j_iastoreV K (z := 4) rfl (Nat.le_of_ble_eq_true rfl) dX11_watch_82 hr (fun X9 hr => ?_)
      refine j_aload_n K dX11_watch_83 0 rfl ?_
      refine j_get K (v := .ref (jad κ (11))) fl_X11_42 rfl (Nat.le_of_ble_eq_true rfl) (by decide) rfl dX11_watch_84 ?_
      refine j_aload_n K dX11_watch_87 0 rfl ?_
      refine j_get K (v := .int (X9 (0) 12)) fl_X11_132 rfl (Nat.le_of_ble_eq_true rfl) (by decide) rfl dX11_watch_88 ?_
      refine j_iconst K dX11_watch_91 (v := 0) rfl ?_
      refine j_iastoreV K (z := 4) rfl (Nat.le_of_ble_eq_true rfl) dX11_watch_92 hr (fun X10 hr => ?_)
      refine j_aload_n K dX11_watch_93 0 rfl ?_
      refine j_get K (v := .ref (jad κ (14))) fl_X11_51 rfl (Nat.le_of_ble_eq_true rfl) (by decide) rfl dX11_watch_94 ?_
      refine j_aload_n K dX11_watch_97 0 rfl ?_
      refine j_get K (v := .int (X10 (0) 12)) fl_X11_132 rfl (Nat.le_of_ble_eq_true rfl) (by decide) rfl dX11_watch_98 ?_
      refine j_iconst K dX11_watch_101 (v := 0) rfl ?_
      refine j_bastoreV K (z := 4) rfl (Nat.le_of_ble_eq_true rfl) dX11_watch_102 hr (fun X11 hr => ?_)
      refine j_aload_n K dX11_watch_103 0 rfl ?_
      refine j_dup K dX11_watch_104 rfl ?_
      refine j_get K (v := .int (X11 (0) 12)) fl_X11_132 rfl (Nat.le_of_ble_eq_true rfl) (by decide) rfl dX11_watch_105 ?_
      refine j_iconst K dX11_watch_108 (v := 1) rfl ?_
      refine j_iadd K dX11_watch_109 ?_
      refine j_putiV K fp_X11_132 rfl (Nat.le_of_ble_eq_true rfl) (by decide) (fun _ => Nat.le_of_ble_eq_true rfl) (fun _ => rfl) dX11_watch_110 hr (fun X12 hr => ?_)
      refine j_aload_n K dX11_watch_113 0 rfl ?_
      refine j_aload_n K dX11_watch_114 0 rfl ?_
      refine j_get K (v := .int (X12 (0) 12)) fl_X11_132 rfl (Nat.le_of_ble_eq_true rfl) (by decide) rfl dX11_watch_115 ?_
      refine j_iconst K dX11_watch_118 (v := 1) rfl ?_
      refine j_isub K dX11_watch_119 ?_
      refine j_vU1 K (ci := 11) hr (fun v h => c_X11_beginsCrawl X12 ((X12 (0) 12) - (1)) h) ml_X11_180 ⟨_, rfl, rfl⟩ rfl (Nat.le_of_ble_eq_true rfl) (by decide) rfl (by decide) (by decide) (Nat.le_of_ble_eq_true rfl) dX11_watch_120 (fun X13 h hr => ?_)
      refine j_goto K dX11_watch_123 (tgt := 135) (by decide) ?_
      refine j_aload_n K dX11_watch_135 0 rfl ?_
      refine j_get K (v := .int (X13 (0) 12)) fl_X11_132 rfl (Nat.le_of_ble_eq_true rfl) (by decide) rfl dX11_watch_136 ?_
      exact j_ireturn K dX11_watch_139 rfl F hr rfl
  · refine j_iconst K dX11_watch_66 (v := 0) rfl ?_
    exact j_ireturn K dX11_watch_67 rfl F hr rfl
theorem jf_X11_watch {κ : JK} (K : jOk 3 cX11_watch RX11 (some .int) 3 κ) (X : JX) (v1 : Int32) {r : (Int32 × JX)} (F : jFin LY false (oM r) κ) (hr : f_X11_watch X v1 = some r) : J LY 3 κ X 0 [(0, .ref (jad κ (0))), (1, .int v1)] [] := by
  unfold f_X11_watch at hr
  refine j_aload_n K dX11_watch_0 0 rfl ?_
  refine j_iload_n K dX11_watch_1 1 rfl ?_
  refine j_vI1 K (ci := 11) hr (fun v h => c_X11_isFolderAt X v1 h) ml_X11_139 ⟨_, rfl, rfl⟩ rfl (Nat.le_of_ble_eq_true rfl) (by decide) rfl (by decide) (by decide) (Nat.le_of_ble_eq_true rfl) dX11_watch_2 (fun t1 h hr => ?_)
  refine j_if_ne K dX11_watch_5 (tgt := 14) (by decide) hr (fun hr => ?_) (fun hr => ?_)
  · refine j_aload_n K dX11_watch_14 0 rfl ?_
    refine j_iload_n K dX11_watch_15 1 rfl ?_
    refine j_vI1 K (ci := 11) hr (fun v h => c_X11_rootAt X v1 h) ml_X11_163 ⟨_, rfl, rfl⟩ rfl (Nat.le_of_ble_eq_true rfl) (by decide) rfl (by decide) (by decide) (Nat.le_of_ble_eq_true rfl) dX11_watch_16 (fun t2 h hr => ?_)
    refine j_istore_n K dX11_watch_19 (by decide) ?_
    refine j_aload_n K dX11_watch_20 1 rfl ?_
    refine j_iload_n K dX11_watch_21 0 rfl ?_
    refine j_iconst K dX11_watch_22 (v := -1) rfl ?_
    refine j_icmp_ne K dX11_watch_23 (tgt := 55) (by decide) hr (fun hr => ?_) (fun hr => ?_)
    · refine j_iconst K dX11_watch_55 (v := 0) rfl ?_
      exact j_sub [1, 2, 0] rfl (jb_X11_watch_56 K _ _ _ _ F hr)
    · refine j_aload_n K dX11_watch_26 1 rfl ?_
      refine j_get K (v := .int (X (0) 12)) fl_X11_132 rfl (Nat.le_of_ble_eq_true rfl) (by decide) rfl dX11_watch_27 ?_
      refine j_iconst K dX11_watch_30 (v := 3) rfl ?_
      refine j_icmp_eq K dX11_watch_31 (tgt := 51) (by decide) hr (fun hr => ?_) (fun hr => ?_)
      · refine j_iconst K dX11_watch_51 (v := 2) rfl ?_
        refine j_goto K dX11_watch_52 (tgt := 56) (by decide) ?_
        exact j_sub [1, 2, 0] rfl (jb_X11_watch_56 K _ _ _ _ F hr)
      · refine j_aload_n K dX11_watch_34 1 rfl ?_
        refine j_iload_n K dX11_watch_35 2 rfl ?_
        refine j_vI1 K (ci := 11) hr (fun v h => c_X11_holdsRoot X v1 h) ml_X11_160 ⟨_, rfl, rfl⟩ rfl (Nat.le_of_ble_eq_true rfl) (by decide) rfl (by decide) (by decide) (Nat.le_of_ble_eq_true rfl) dX11_watch_36 (fun t3 h hr => ?_)
        refine j_if_ne K dX11_watch_39 (tgt := 51) (by decide) hr (fun hr => ?_) (fun hr => ?_)
        · refine j_iconst K dX11_watch_51 (v := 2) rfl ?_
          refine j_goto K dX11_watch_52 (tgt := 56) (by decide) ?_
          exact j_sub [1, 2, 0] rfl (jb_X11_watch_56 K _ _ _ _ F hr)
        · refine j_aload_n K dX11_watch_42 1 rfl ?_
          refine j_iload_n K dX11_watch_43 2 rfl ?_
          refine j_vI1 K (ci := 11) hr (fun v h => c_X11_over X v1 h) ml_X11_150 ⟨_, rfl, rfl⟩ rfl (Nat.le_of_ble_eq_true rfl) (by decide) rfl (by decide) (by decide) (Nat.le_of_ble_eq_true rfl) dX11_watch_44 (fun t4 h hr => ?_)
          refine j_iconst K dX11_watch_47 (v := -1) rfl ?_
          refine j_icmp_eq K dX11_watch_48 (tgt := 55) (by decide) hr (fun hr => ?_) (fun hr => ?_)
          · refine j_iconst K dX11_watch_55 (v := 0) rfl ?_
            exact j_sub [1, 2, 0] rfl (jb_X11_watch_56 K _ _ _ _ F hr)
          · refine j_iconst K dX11_watch_51 (v := 2) rfl ?_
            refine j_goto K dX11_watch_52 (tgt := 56) (by decide) ?_
            exact j_sub [1, 2, 0] rfl (jb_X11_watch_56 K _ _ _ _ F hr)
  · refine j_aload_n K dX11_watch_8 0 rfl ?_
    refine j_iconst K dX11_watch_9 (v := 1) rfl ?_
    refine j_vM1 K (ci := 11) hr (fun v h => c_X11_fails X (1) h) ml_X11_142 ⟨_, rfl, rfl⟩ rfl (Nat.le_of_ble_eq_true rfl) (by decide) rfl (by decide) (by decide) (Nat.le_of_ble_eq_true rfl) dX11_watch_10 (fun t5 h hr => ?_)
    exact j_ireturn K dX11_watch_13 rfl F hr rfl
theorem c_X11_watch (X : JX) (v1 : Int32) {r : (Int32 × JX)} (hr : f_X11_watch X v1 = some r) : Cal LY yX11_watch cX11_watch 3 (some .int) 3 (fun ad => [.ref (ad (0)), .int v1]) X (fun ad => oM r) :=
  Cal.of (own := RX11) (fun ad => [(0, .ref (ad (0))), (1, .int v1)]) (by decide) rfl (fun _ => Nat.le_of_ble_eq_true rfl) (fun _ => rfl) (fun κ K F => jf_X11_watch K X v1 F hr)
theorem jl_X11_work_151 {κ : JK} (K : jOk 6 cX11_work RX11 (some .int) 5 κ) (v3 : Int32) {r : (Int32 × JX)} (F : jFin LY false (oM r) κ) : ∀ (X : JX) (v5 : Int32), l_X11_work_151 v3 X v5 = some r → J LY 6 κ X 151 [(0, .ref (jad κ (0))), (3, .int v3), (5, .int v5)] [] := by
  refine j_loop2 (P := fun X v5 => J LY 6 κ X 151 [(0, .ref (jad κ (0))), (3, .int v3), (5, .int v5)] []) (fun rec151 hrec151 X v5 hr => ?_) 1000
  unfold lb_X11_work_151 at hr
  refine j_iload K dX11_work_151 2 rfl ?_
  refine j_aload_n K dX11_work_153 0 rfl ?_
  refine j_get K (v := .int (X (0) 30)) fl_X11_183 rfl (Nat.le_of_ble_eq_true rfl) (by decide) rfl dX11_work_154 ?_
  refine j_icmp_ge K dX11_work_157 (tgt := 174) (by decide) hr (fun hr => ?_) (fun hr => ?_)
  · refine j_aload_n K dX11_work_174 0 rfl ?_
    refine j_vU0 K (ci := 11) hr (fun v h => c_X11_indexes X h) ml_X11_258 ⟨_, rfl, rfl⟩ rfl (Nat.le_of_ble_eq_true rfl) (by decide) rfl (by decide) (by decide) (Nat.le_of_ble_eq_true rfl) dX11_work_175 (fun X9 h hr => ?_)
    refine j_iload_n K dX11_work_178 1 rfl ?_
    exact j_ireturn K dX11_work_179 rfl F hr rfl
  · refine j_aload_n K dX11_work_160 0 rfl ?_
    refine j_get K (v := .ref (jad κ (27))) fl_X11_97 rfl (Nat.le_of_ble_eq_true rfl) (by decide) rfl dX11_work_161 ?_
    refine j_iload K dX11_work_164 2 rfl ?_
    refine j_iconst K dX11_work_166 (v := 0) rfl ?_
    refine j_bastoreV K (z := 60) rfl (Nat.le_of_ble_eq_true rfl) dX11_work_167 hr (fun X10 hr => ?_)
    refine j_iincV K dX11_work_168 (v := 1) 2 rfl rfl (by decide) hr (fun t11 hr => ?_)
    refine j_goto K dX11_work_171 (tgt := 151) (by decide) ?_
    exact j_sub [1, 2, 0] rfl (hrec151 _ _ hr)
theorem jb_X11_work_144 {κ : JK} (K : jOk 6 cX11_work RX11 (some .int) 5 κ) (X : JX) (v3 : Int32) (s0 : Int32) (s1 : Int32) {r : (Int32 × JX)} (F : jFin LY false (oM r) κ) (hr : b_X11_work_144 X v3 s0 s1 = some r) : J LY 6 κ X 144 [(0, .ref (jad κ (0))), (3, .int v3)] [.int s0, .int s1, .ref (jad κ (0))] := by
  unfold b_X11_work_144 at hr
  refine j_iadd K dX11_work_144 ?_
  refine j_putiV K fp_X11_252 rfl (Nat.le_of_ble_eq_true rfl) (by decide) (fun _ => Nat.le_of_ble_eq_true rfl) (fun _ => rfl) dX11_work_145 hr (fun X8 hr => ?_)
  refine j_iconst K dX11_work_148 (v := 0) rfl ?_
  refine j_istore K dX11_work_149 (by decide) ?_
  exact j_sub [1, 2, 0] rfl (jl_X11_work_151 K _ F _ _ hr)
theorem jl_X11_work_105 {κ : JK} (K : jOk 6 cX11_work RX11 (some .int) 5 κ) (v2 : Int32) {r : (Int32 × JX)} (F : jFin LY false (oM r) κ) : ∀ (X : JX) (v3 : Int32) (v4 : Int32), l_X11_work_105 v2 X v3 v4 = some r → J LY 6 κ X 105 [(0, .ref (jad κ (0))), (2, .int v2), (3, .int v3), (4, .int v4)] [] := by
  refine j_loop3 (P := fun X v3 v4 => J LY 6 κ X 105 [(0, .ref (jad κ (0))), (2, .int v2), (3, .int v3), (4, .int v4)] []) (fun rec105 hrec105 X v3 v4 hr => ?_) 1000
  unfold lb_X11_work_105 at hr
  refine j_iload K dX11_work_105 3 rfl ?_
  refine j_if_le K dX11_work_107 (tgt := 127) (by decide) hr (fun hr => ?_) (fun hr => ?_)
  · refine j_aload_n K dX11_work_127 0 rfl ?_
    refine j_dup K dX11_work_128 rfl ?_
    refine j_get K (v := .int (X (0) 36)) fl_X11_252 rfl (Nat.le_of_ble_eq_true rfl) (by decide) rfl dX11_work_129 ?_
    refine j_aload_n K dX11_work_132 0 rfl ?_
    refine j_get K (v := .int (X (0) 34)) fl_X11_245 rfl (Nat.le_of_ble_eq_true rfl) (by decide) rfl dX11_work_133 ?_
    refine j_if_eq K dX11_work_136 (tgt := 143) (by decide) hr (fun hr => ?_) (fun hr => ?_)
    · refine j_iconst K dX11_work_143 (v := 0) rfl ?_
      exact j_sub [0, 2] rfl (jb_X11_work_144 K _ _ _ _ F hr)
    · refine j_iload_n K dX11_work_139 2 rfl ?_
      refine j_goto K dX11_work_140 (tgt := 144) (by decide) ?_
      exact j_sub [0, 2] rfl (jb_X11_work_144 K _ _ _ _ F hr)
  · refine j_iload_n K dX11_work_110 2 rfl ?_
    refine j_iload K dX11_work_111 3 rfl ?_
    refine j_iadd K dX11_work_113 ?_
    refine j_istoreV_n K dX11_work_114 (by decide) hr (fun t6 hr => ?_)
    refine j_aload_n K dX11_work_115 1 rfl ?_
    refine j_iload_n K dX11_work_116 2 rfl ?_
    refine j_iload_n K dX11_work_117 0 rfl ?_
    refine j_isub K dX11_work_118 ?_
    refine j_vM1 K (ci := 11) hr (fun v h => c_X11_does X (v2 - t6) h) ml_X11_255 ⟨_, rfl, rfl⟩ rfl (Nat.le_of_ble_eq_true rfl) (by decide) rfl (by decide) (by decide) (Nat.le_of_ble_eq_true rfl) dX11_work_119 (fun t7 h hr => ?_)
    refine j_istore K dX11_work_122 (by decide) ?_
    refine j_goto K dX11_work_124 (tgt := 105) (by decide) ?_
    exact j_sub [2, 3, 1, 0] rfl (hrec105 _ _ _ hr)
theorem jb_X11_work_95 {κ : JK} (K : jOk 6 cX11_work RX11 (some .int) 5 κ) (X : JX) (s0 : Int32) {r : (Int32 × JX)} (F : jFin LY false (oM r) κ) (hr : b_X11_work_95 X s0 = some r) : J LY 6 κ X 95 [(0, .ref (jad κ (0)))] [.int s0] := by
  unfold b_X11_work_95 at hr
  refine j_istore_n K dX11_work_95 (by decide) ?_
  refine j_iconst K dX11_work_96 (v := 0) rfl ?_
  refine j_istore_n K dX11_work_97 (by decide) ?_
  refine j_aload_n K dX11_work_98 2 rfl ?_
  refine j_iload_n K dX11_work_99 1 rfl ?_
  refine j_vM1 K (ci := 11) hr (fun v h => c_X11_does X s0 h) ml_X11_255 ⟨_, rfl, rfl⟩ rfl (Nat.le_of_ble_eq_true rfl) (by decide) rfl (by decide) (by decide) (Nat.le_of_ble_eq_true rfl) dX11_work_100 (fun t5 h hr => ?_)
  refine j_istore K dX11_work_103 (by decide) ?_
  exact j_sub [3, 2, 1, 0] rfl (jl_X11_work_105 K _ F _ _ _ hr)
theorem jb_X11_work_52 {κ : JK} (K : jOk 6 cX11_work RX11 (some .int) 5 κ) (X : JX) (v1 : Int32) (s0 : Int32) {r : (Int32 × JX)} (F : jFin LY false (oM r) κ) (hr : b_X11_work_52 X v1 s0 = some r) : J LY 6 κ X 52 [(0, .ref (jad κ (0))), (1, .int v1)] [.int s0, .ref (jad κ (0))] := by
  unfold b_X11_work_52 at hr
  refine j_putiV K fp_X11_252 rfl (Nat.le_of_ble_eq_true rfl) (by decide) (fun _ => Nat.le_of_ble_eq_true rfl) (fun _ => rfl) dX11_work_52 hr (fun X3 hr => ?_)
  refine j_aload_n K dX11_work_55 0 rfl ?_
  refine j_aload_n K dX11_work_56 0 rfl ?_
  refine j_get K (v := .int (X3 (0) 1)) fl_X11_241 rfl (Nat.le_of_ble_eq_true rfl) (by decide) rfl dX11_work_57 ?_
  refine j_bipush K dX11_work_60 (v := 60) rfl ?_
  refine j_idiv K dX11_work_62 (by decide) ?_
  refine j_putiV K fp_X11_249 rfl (Nat.le_of_ble_eq_true rfl) (by decide) (fun _ => Nat.le_of_ble_eq_true rfl) (fun _ => rfl) dX11_work_63 hr (fun X4 hr => ?_)
  refine j_aload_n K dX11_work_66 0 rfl ?_
  refine j_get K (v := .int (X4 (0) 34)) fl_X11_245 rfl (Nat.le_of_ble_eq_true rfl) (by decide) rfl dX11_work_67 ?_
  refine j_if_eq K dX11_work_70 (tgt := 94) (by decide) hr (fun hr => ?_) (fun hr => ?_)
  · refine j_iload_n K dX11_work_94 1 rfl ?_
    exact j_sub [0] rfl (jb_X11_work_95 K _ _ F hr)
  · refine j_bipush K dX11_work_73 (v := 20) rfl ?_
    refine j_aload_n K dX11_work_75 0 rfl ?_
    refine j_get K (v := .int (X4 (0) 36)) fl_X11_252 rfl (Nat.le_of_ble_eq_true rfl) (by decide) rfl dX11_work_76 ?_
    refine j_isub K dX11_work_79 ?_
    refine j_iload_n K dX11_work_80 1 rfl ?_
    refine j_icmp_ge K dX11_work_81 (tgt := 94) (by decide) hr (fun hr => ?_) (fun hr => ?_)
    · refine j_iload_n K dX11_work_94 1 rfl ?_
      exact j_sub [0] rfl (jb_X11_work_95 K _ _ F hr)
    · refine j_bipush K dX11_work_84 (v := 20) rfl ?_
      refine j_aload_n K dX11_work_86 0 rfl ?_
      refine j_get K (v := .int (X4 (0) 36)) fl_X11_252 rfl (Nat.le_of_ble_eq_true rfl) (by decide) rfl dX11_work_87 ?_
      refine j_isub K dX11_work_90 ?_
      refine j_goto K dX11_work_91 (tgt := 95) (by decide) ?_
      exact j_sub [0] rfl (jb_X11_work_95 K _ _ F hr)
theorem jb_X11_work_17 {κ : JK} (K : jOk 6 cX11_work RX11 (some .int) 5 κ) (X : JX) (v1 : Int32) (s0 : Int32) {r : (Int32 × JX)} (F : jFin LY false (oM r) κ) (hr : b_X11_work_17 X v1 s0 = some r) : J LY 6 κ X 17 [(0, .ref (jad κ (0))), (1, .int v1)] [.int s0, .ref (jad κ (0))] := by
  unfold b_X11_work_17 at hr
  refine j_putiV K fp_X11_121 rfl (Nat.le_of_ble_eq_true rfl) (by decide) (fun _ => Nat.le_of_ble_eq_true rfl) (fun _ => rfl) dX11_work_17 hr (fun X2 hr => ?_)
  refine j_aload_n K dX11_work_20 0 rfl ?_
  refine j_get K (v := .int (X2 (0) 0)) fl_X11_121 rfl (Nat.le_of_ble_eq_true rfl) (by decide) rfl dX11_work_21 ?_
  refine j_if_le K dX11_work_24 (tgt := 29) (by decide) hr (fun hr => ?_) (fun hr => ?_)
  · refine j_aload_n K dX11_work_29 0 rfl ?_
    refine j_aload_n K dX11_work_30 0 rfl ?_
    refine j_get K (v := .int (X2 (0) 35)) fl_X11_249 rfl (Nat.le_of_ble_eq_true rfl) (by decide) rfl dX11_work_31 ?_
    refine j_aload_n K dX11_work_34 0 rfl ?_
    refine j_get K (v := .int (X2 (0) 1)) fl_X11_241 rfl (Nat.le_of_ble_eq_true rfl) (by decide) rfl dX11_work_35 ?_
    refine j_bipush K dX11_work_38 (v := 60) rfl ?_
    refine j_idiv K dX11_work_40 (by decide) ?_
    refine j_icmp_ne K dX11_work_41 (tgt := 51) (by decide) hr (fun hr => ?_) (fun hr => ?_)
    · refine j_iconst K dX11_work_51 (v := 0) rfl ?_
      exact j_sub [0, 1] rfl (jb_X11_work_52 K _ _ _ F hr)
    · refine j_aload_n K dX11_work_44 0 rfl ?_
      refine j_get K (v := .int (X2 (0) 36)) fl_X11_252 rfl (Nat.le_of_ble_eq_true rfl) (by decide) rfl dX11_work_45 ?_
      refine j_goto K dX11_work_48 (tgt := 52) (by decide) ?_
      exact j_sub [0, 1] rfl (jb_X11_work_52 K _ _ _ F hr)
  · refine j_iconst K dX11_work_27 (v := 0) rfl ?_
    exact j_ireturn K dX11_work_28 rfl F hr rfl
theorem jf_X11_work {κ : JK} (K : jOk 6 cX11_work RX11 (some .int) 5 κ) (X : JX) (v1 : Int32) {r : (Int32 × JX)} (F : jFin LY false (oM r) κ) (hr : f_X11_work X v1 = some r) : J LY 6 κ X 0 [(0, .ref (jad κ (0))), (1, .int v1)] [] := by
  unfold f_X11_work at hr
  refine j_aload_n K dX11_work_0 0 rfl ?_
  refine j_iload_n K dX11_work_1 1 rfl ?_
  refine j_iconst K dX11_work_2 (v := 1) rfl ?_
  refine j_sipush K dX11_work_3 (v := 500) rfl ?_
  refine j_sI3 K hr (fun v h => c_X11_in X v1 (1) (500) h) ms_X11_124 rfl (by decide) (by decide) (Nat.le_of_ble_eq_true rfl) dX11_work_6 (fun t1 h hr => ?_)
  refine j_if_eq K dX11_work_9 (tgt := 16) (by decide) hr (fun hr => ?_) (fun hr => ?_)
  · refine j_iconst K dX11_work_16 (v := 1) rfl ?_
    exact j_sub [0, 1] rfl (jb_X11_work_17 K _ _ _ F hr)
  · refine j_iconst K dX11_work_12 (v := 0) rfl ?_
    refine j_goto K dX11_work_13 (tgt := 17) (by decide) ?_
    exact j_sub [0, 1] rfl (jb_X11_work_17 K _ _ _ F hr)
theorem c_X11_work (X : JX) (v1 : Int32) {r : (Int32 × JX)} (hr : f_X11_work X v1 = some r) : Cal LY yX11_work cX11_work 6 (some .int) 5 (fun ad => [.ref (ad (0)), .int v1]) X (fun ad => oM r) :=
  Cal.of (own := RX11) (fun ad => [(0, .ref (ad (0))), (1, .int v1)]) (by decide) rfl (fun _ => Nat.le_of_ble_eq_true rfl) (fun _ => rfl) (fun κ K F => jf_X11_work K X v1 F hr)
theorem jb_X11_write_58 {κ : JK} (K : jOk 3 cX11_write RX11 (some .int) 3 κ) (X : JX) (v1 : Int32) (v2 : Int32) (s0 : Int32) {r : (Int32 × JX)} (F : jFin LY false (oM r) κ) (hr : b_X11_write_58 X v1 v2 s0 = some r) : J LY 3 κ X 58 [(0, .ref (jad κ (0))), (1, .int v1), (2, .int v2)] [.int s0, .ref (jad κ (0))] := by
  unfold b_X11_write_58 at hr
  refine j_putiV K fp_X11_121 rfl (Nat.le_of_ble_eq_true rfl) (by decide) (fun _ => Nat.le_of_ble_eq_true rfl) (fun _ => rfl) dX11_write_58 hr (fun X3 hr => ?_)
  refine j_aload_n K dX11_write_61 0 rfl ?_
  refine j_get K (v := .int (X3 (0) 0)) fl_X11_121 rfl (Nat.le_of_ble_eq_true rfl) (by decide) rfl dX11_write_62 ?_
  refine j_if_le K dX11_write_65 (tgt := 70) (by decide) hr (fun hr => ?_) (fun hr => ?_)
  · refine j_aload_n K dX11_write_70 0 rfl ?_
    refine j_get K (v := .ref (jad κ (7))) fl_X11_30 rfl (Nat.le_of_ble_eq_true rfl) (by decide) rfl dX11_write_71 ?_
    refine j_bipush K dX11_write_74 (v := 20) rfl ?_
    refine j_iload_n K dX11_write_76 1 rfl ?_
    refine j_imul K dX11_write_77 ?_
    refine j_aload_n K dX11_write_78 0 rfl ?_
    refine j_get K (v := .ref (jad κ (6))) fl_X11_27 rfl (Nat.le_of_ble_eq_true rfl) (by decide) rfl dX11_write_79 ?_
    refine j_iload_n K dX11_write_82 1 rfl ?_
    refine j_iaload K (z := 60) rfl (Nat.le_of_ble_eq_true rfl) dX11_write_83 hr (fun hr => ?_)
    refine j_iadd K dX11_write_84 ?_
    refine j_iload_n K dX11_write_85 2 rfl ?_
    refine j_iastoreV K (z := 1200) rfl (Nat.le_of_ble_eq_true rfl) dX11_write_86 hr (fun X4 hr => ?_)
    refine j_aload_n K dX11_write_87 0 rfl ?_
    refine j_get K (v := .ref (jad κ (6))) fl_X11_27 rfl (Nat.le_of_ble_eq_true rfl) (by decide) rfl dX11_write_88 ?_
    refine j_iload_n K dX11_write_91 1 rfl ?_
    refine j_dup2 K dX11_write_92 rfl rfl ?_
    refine j_iaload K (z := 60) rfl (Nat.le_of_ble_eq_true rfl) dX11_write_93 hr (fun hr => ?_)
    refine j_iconst K dX11_write_94 (v := 1) rfl ?_
    refine j_iadd K dX11_write_95 ?_
    refine j_iastoreV K (z := 60) rfl (Nat.le_of_ble_eq_true rfl) dX11_write_96 hr (fun X5 hr => ?_)
    refine j_aload_n K dX11_write_97 0 rfl ?_
    refine j_get K (v := .ref (jad κ (5))) fl_X11_24 rfl (Nat.le_of_ble_eq_true rfl) (by decide) rfl dX11_write_98 ?_
    refine j_iload_n K dX11_write_101 1 rfl ?_
    refine j_dup2 K dX11_write_102 rfl rfl ?_
    refine j_iaload K (z := 60) rfl (Nat.le_of_ble_eq_true rfl) dX11_write_103 hr (fun hr => ?_)
    refine j_iconst K dX11_write_104 (v := 1) rfl ?_
    refine j_iadd K dX11_write_105 ?_
    refine j_iastoreV K (z := 60) rfl (Nat.le_of_ble_eq_true rfl) dX11_write_106 hr (fun X6 hr => ?_)
    refine j_aload_n K dX11_write_107 0 rfl ?_
    refine j_aload_n K dX11_write_108 0 rfl ?_
    refine j_iload_n K dX11_write_109 1 rfl ?_
    refine j_vI1 K (ci := 11) hr (fun v h => c_X11_over X6 v1 h) ml_X11_150 ⟨_, rfl, rfl⟩ rfl (Nat.le_of_ble_eq_true rfl) (by decide) rfl (by decide) (by decide) (Nat.le_of_ble_eq_true rfl) dX11_write_110 (fun t7 h hr => ?_)
    refine j_iconst K dX11_write_113 (v := 1) rfl ?_
    refine j_iload_n K dX11_write_114 1 rfl ?_
    refine j_vU3 K (ci := 11) hr (fun v h => c_X11_comes X6 t7 (1) v1 h) ml_X11_153 ⟨_, rfl, rfl⟩ rfl (Nat.le_of_ble_eq_true rfl) (by decide) rfl (by decide) (by decide) (Nat.le_of_ble_eq_true rfl) dX11_write_115 (fun X8 h hr => ?_)
    refine j_aload_n K dX11_write_118 0 rfl ?_
    refine j_get K (v := .ref (jad κ (5))) fl_X11_24 rfl (Nat.le_of_ble_eq_true rfl) (by decide) rfl dX11_write_119 ?_
    refine j_iload_n K dX11_write_122 1 rfl ?_
    refine j_iaload K (z := 60) rfl (Nat.le_of_ble_eq_true rfl) dX11_write_123 hr (fun hr => ?_)
    exact j_ireturn K dX11_write_124 rfl F hr rfl
  · refine j_iconst K dX11_write_68 (v := 0) rfl ?_
    exact j_ireturn K dX11_write_69 rfl F hr rfl
theorem jf_X11_write {κ : JK} (K : jOk 3 cX11_write RX11 (some .int) 3 κ) (X : JX) (v1 : Int32) (v2 : Int32) {r : (Int32 × JX)} (F : jFin LY false (oM r) κ) (hr : f_X11_write X v1 v2 = some r) : J LY 3 κ X 0 [(0, .ref (jad κ (0))), (1, .int v1), (2, .int v2)] [] := by
  unfold f_X11_write at hr
  refine j_aload_n K dX11_write_0 0 rfl ?_
  refine j_aload_n K dX11_write_1 0 rfl ?_
  refine j_iload_n K dX11_write_2 1 rfl ?_
  refine j_vI1 K (ci := 11) hr (fun v h => c_X11_isFileAt X v1 h) ml_X11_157 ⟨_, rfl, rfl⟩ rfl (Nat.le_of_ble_eq_true rfl) (by decide) rfl (by decide) (by decide) (Nat.le_of_ble_eq_true rfl) dX11_write_3 (fun t1 h hr => ?_)
  refine j_if_ne K dX11_write_6 (tgt := 13) (by decide) hr (fun hr => ?_) (fun hr => ?_)
  · refine j_iload_n K dX11_write_13 2 rfl ?_
    refine j_bipush K dX11_write_14 (v := -3) rfl ?_
    refine j_bipush K dX11_write_16 (v := 99) rfl ?_
    refine j_sI3 K hr (fun v h => c_X11_in X v2 (-3) (99) h) ms_X11_124 rfl (by decide) (by decide) (Nat.le_of_ble_eq_true rfl) dX11_write_18 (fun t2 h hr => ?_)
    refine j_if_eq K dX11_write_21 (tgt := 29) (by decide) hr (fun hr => ?_) (fun hr => ?_)
    · refine j_iconst K dX11_write_29 (v := 2) rfl ?_
      refine j_goto K dX11_write_30 (tgt := 58) (by decide) ?_
      exact j_sub [0, 1, 2] rfl (jb_X11_write_58 K _ _ _ _ F hr)
    · refine j_iload_n K dX11_write_24 2 rfl ?_
      refine j_iconst K dX11_write_25 (v := -1) rfl ?_
      refine j_icmp_ne K dX11_write_26 (tgt := 33) (by decide) hr (fun hr => ?_) (fun hr => ?_)
      · refine j_aload_n K dX11_write_33 0 rfl ?_
        refine j_get K (v := .ref (jad κ (8))) fl_X11_33 rfl (Nat.le_of_ble_eq_true rfl) (by decide) rfl dX11_write_34 ?_
        refine j_iload_n K dX11_write_37 1 rfl ?_
        refine j_baload K (z := 60) rfl (Nat.le_of_ble_eq_true rfl) dX11_write_38 hr (fun hr => ?_)
        refine j_if_ne K dX11_write_39 (tgt := 53) (by decide) hr (fun hr => ?_) (fun hr => ?_)
        · refine j_iconst K dX11_write_53 (v := 3) rfl ?_
          refine j_goto K dX11_write_54 (tgt := 58) (by decide) ?_
          exact j_sub [0, 1, 2] rfl (jb_X11_write_58 K _ _ _ _ F hr)
        · refine j_aload_n K dX11_write_42 0 rfl ?_
          refine j_get K (v := .ref (jad κ (6))) fl_X11_27 rfl (Nat.le_of_ble_eq_true rfl) (by decide) rfl dX11_write_43 ?_
          refine j_iload_n K dX11_write_46 1 rfl ?_
          refine j_iaload K (z := 60) rfl (Nat.le_of_ble_eq_true rfl) dX11_write_47 hr (fun hr => ?_)
          refine j_bipush K dX11_write_48 (v := 20) rfl ?_
          refine j_icmp_ne K dX11_write_50 (tgt := 57) (by decide) hr (fun hr => ?_) (fun hr => ?_)
          · refine j_iconst K dX11_write_57 (v := 0) rfl ?_
            exact j_sub [0, 1, 2] rfl (jb_X11_write_58 K _ _ _ _ F hr)
          · refine j_iconst K dX11_write_53 (v := 3) rfl ?_
            refine j_goto K dX11_write_54 (tgt := 58) (by decide) ?_
            exact j_sub [0, 1, 2] rfl (jb_X11_write_58 K _ _ _ _ F hr)
      · refine j_iconst K dX11_write_29 (v := 2) rfl ?_
        refine j_goto K dX11_write_30 (tgt := 58) (by decide) ?_
        exact j_sub [0, 1, 2] rfl (jb_X11_write_58 K _ _ _ _ F hr)
  · refine j_iconst K dX11_write_9 (v := 1) rfl ?_
    refine j_goto K dX11_write_10 (tgt := 58) (by decide) ?_
    exact j_sub [0, 1, 2] rfl (jb_X11_write_58 K _ _ _ _ F hr)
theorem c_X11_write (X : JX) (v1 : Int32) (v2 : Int32) {r : (Int32 × JX)} (hr : f_X11_write X v1 v2 = some r) : Cal LY yX11_write cX11_write 3 (some .int) 3 (fun ad => [.ref (ad (0)), .int v1, .int v2]) X (fun ad => oM r) :=
  Cal.of (own := RX11) (fun ad => [(0, .ref (ad (0))), (1, .int v1), (2, .int v2)]) (by decide) rfl (fun _ => Nat.le_of_ble_eq_true rfl) (fun _ => rfl) (fun κ K F => jf_X11_write K X v1 v2 F hr)

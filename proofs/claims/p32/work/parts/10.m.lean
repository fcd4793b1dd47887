theorem jf_X9_parentOf {κ : JK} (K : jOk 2 cX9_parentOf RX9 (some .int) 0 κ) (X : JX) (v1 : Int32) {r : Int32} (F : jFin LX false (oI X r) κ) (hr : f_X9_parentOf X v1 = some r) : J LX 2 κ X 0 [(0, .ref (jad κ (1))), (1, .int v1)] [] := by
  unfold f_X9_parentOf at hr
  refine j_iload_n K dX9_parentOf_0 1 rfl ?_
  refine j_if_lt K dX9_parentOf_1 (tgt := 19) (by decide) hr (fun hr => ?_) (fun hr => ?_)
  · refine j_iconst K dX9_parentOf_19 (v := -1) rfl ?_
    exact j_ireturn K dX9_parentOf_20 rfl F hr rfl
  · refine j_iload_n K dX9_parentOf_4 1 rfl ?_
    refine j_bipush K dX9_parentOf_5 (v := 60) rfl ?_
    refine j_icmp_ge K dX9_parentOf_7 (tgt := 19) (by decide) hr (fun hr => ?_) (fun hr => ?_)
    · refine j_iconst K dX9_parentOf_19 (v := -1) rfl ?_
      exact j_ireturn K dX9_parentOf_20 rfl F hr rfl
    · refine j_aload_n K dX9_parentOf_10 0 rfl ?_
      refine j_get K (v := .ref (jad κ (2))) fl_X9_9 rfl (Nat.le_of_ble_eq_true rfl) (by decide) rfl dX9_parentOf_11 ?_
      refine j_iload_n K dX9_parentOf_14 1 rfl ?_
      refine j_iaload K (z := 60) rfl (Nat.le_of_ble_eq_true rfl) dX9_parentOf_15 hr (fun hr => ?_)
      refine j_goto K dX9_parentOf_16 (tgt := 20) (by decide) ?_
      exact j_ireturn K dX9_parentOf_20 rfl F hr rfl
theorem c_X9_parentOf (X : JX) (v1 : Int32) {r : Int32} (hr : f_X9_parentOf X v1 = some r) : Cal LX yX9_parentOf cX9_parentOf 2 (some .int) 0 (fun ad => [.ref (ad (1)), .int v1]) X (fun ad => oI X r) :=
  Cal.of (own := RX9) (fun ad => [(0, .ref (ad (1))), (1, .int v1)]) (by decide) rfl (fun _ => Nat.le_of_ble_eq_true rfl) (fun _ => rfl) (fun κ K F => jf_X9_parentOf K X v1 F hr)
theorem jf_X9_isFile {κ : JK} (K : jOk 2 cX9_isFile RX9 (some .boolean) 0 κ) (X : JX) (v1 : Int32) {r : Int32} (F : jFin LX false (oI X r) κ) (hr : f_X9_isFile X v1 = some r) : J LX 2 κ X 0 [(0, .ref (jad κ (1))), (1, .int v1)] [] := by
  unfold f_X9_isFile at hr
  refine j_iload_n K dX9_isFile_0 1 rfl ?_
  refine j_if_lt K dX9_isFile_1 (tgt := 32) (by decide) hr (fun hr => ?_) (fun hr => ?_)
  · refine j_iconst K dX9_isFile_32 (v := 0) rfl ?_
    exact j_zreturn K dX9_isFile_33 rfl rfl F hr rfl
  · refine j_iload_n K dX9_isFile_4 1 rfl ?_
    refine j_bipush K dX9_isFile_5 (v := 60) rfl ?_
    refine j_icmp_ge K dX9_isFile_7 (tgt := 32) (by decide) hr (fun hr => ?_) (fun hr => ?_)
    · refine j_iconst K dX9_isFile_32 (v := 0) rfl ?_
      exact j_zreturn K dX9_isFile_33 rfl rfl F hr rfl
    · refine j_aload_n K dX9_isFile_10 0 rfl ?_
      refine j_get K (v := .ref (jad κ (5))) fl_X9_23 rfl (Nat.le_of_ble_eq_true rfl) (by decide) rfl dX9_isFile_11 ?_
      refine j_iload_n K dX9_isFile_14 1 rfl ?_
      refine j_baload K (z := 60) rfl (Nat.le_of_ble_eq_true rfl) dX9_isFile_15 hr (fun hr => ?_)
      refine j_if_eq K dX9_isFile_16 (tgt := 32) (by decide) hr (fun hr => ?_) (fun hr => ?_)
      · refine j_iconst K dX9_isFile_32 (v := 0) rfl ?_
        exact j_zreturn K dX9_isFile_33 rfl rfl F hr rfl
      · refine j_aload_n K dX9_isFile_19 0 rfl ?_
        refine j_get K (v := .ref (jad κ (4))) fl_X9_19 rfl (Nat.le_of_ble_eq_true rfl) (by decide) rfl dX9_isFile_20 ?_
        refine j_iload_n K dX9_isFile_23 1 rfl ?_
        refine j_baload K (z := 60) rfl (Nat.le_of_ble_eq_true rfl) dX9_isFile_24 hr (fun hr => ?_)
        refine j_if_ne K dX9_isFile_25 (tgt := 32) (by decide) hr (fun hr => ?_) (fun hr => ?_)
        · refine j_iconst K dX9_isFile_32 (v := 0) rfl ?_
          exact j_zreturn K dX9_isFile_33 rfl rfl F hr rfl
        · refine j_iconst K dX9_isFile_28 (v := 1) rfl ?_
          refine j_goto K dX9_isFile_29 (tgt := 33) (by decide) ?_
          exact j_zreturn K dX9_isFile_33 rfl rfl F hr rfl
theorem c_X9_isFile (X : JX) (v1 : Int32) {r : Int32} (hr : f_X9_isFile X v1 = some r) : Cal LX yX9_isFile cX9_isFile 2 (some .boolean) 0 (fun ad => [.ref (ad (1)), .int v1]) X (fun ad => oI X r) :=
  Cal.of (own := RX9) (fun ad => [(0, .ref (ad (1))), (1, .int v1)]) (by decide) rfl (fun _ => Nat.le_of_ble_eq_true rfl) (fun _ => rfl) (fun κ K F => jf_X9_isFile K X v1 F hr)
theorem jf_X9_nameOf {κ : JK} (K : jOk 2 cX9_nameOf RX9 (some .char) 0 κ) (X : JX) (v1 : Int32) {r : Int32} (F : jFin LX false (oI X r) κ) (hr : f_X9_nameOf X v1 = some r) : J LX 2 κ X 0 [(0, .ref (jad κ (1))), (1, .int v1)] [] := by
  unfold f_X9_nameOf at hr
  refine j_iload_n K dX9_nameOf_0 1 rfl ?_
  refine j_if_lt K dX9_nameOf_1 (tgt := 19) (by decide) hr (fun hr => ?_) (fun hr => ?_)
  · refine j_bipush K dX9_nameOf_19 (v := 32) rfl ?_
    exact j_guard hr (fun hz hr => j_creturn K dX9_nameOf_21 rfl hz F hr rfl)
  · refine j_iload_n K dX9_nameOf_4 1 rfl ?_
    refine j_bipush K dX9_nameOf_5 (v := 60) rfl ?_
    refine j_icmp_ge K dX9_nameOf_7 (tgt := 19) (by decide) hr (fun hr => ?_) (fun hr => ?_)
    · refine j_bipush K dX9_nameOf_19 (v := 32) rfl ?_
      exact j_guard hr (fun hz hr => j_creturn K dX9_nameOf_21 rfl hz F hr rfl)
    · refine j_aload_n K dX9_nameOf_10 0 rfl ?_
      refine j_get K (v := .ref (jad κ (3))) fl_X9_15 rfl (Nat.le_of_ble_eq_true rfl) (by decide) rfl dX9_nameOf_11 ?_
      refine j_iload_n K dX9_nameOf_14 1 rfl ?_
      refine j_caload K (z := 60) rfl (Nat.le_of_ble_eq_true rfl) dX9_nameOf_15 hr (fun hr => ?_)
      refine j_goto K dX9_nameOf_16 (tgt := 21) (by decide) ?_
      exact j_guard hr (fun hz hr => j_creturn K dX9_nameOf_21 rfl hz F hr rfl)
theorem c_X9_nameOf (X : JX) (v1 : Int32) {r : Int32} (hr : f_X9_nameOf X v1 = some r) : Cal LX yX9_nameOf cX9_nameOf 2 (some .char) 0 (fun ad => [.ref (ad (1)), .int v1]) X (fun ad => oI X r) :=
  Cal.of (own := RX9) (fun ad => [(0, .ref (ad (1))), (1, .int v1)]) (by decide) rfl (fun _ => Nat.le_of_ble_eq_true rfl) (fun _ => rfl) (fun κ K F => jf_X9_nameOf K X v1 F hr)
theorem jf_X9_editionOf {κ : JK} (K : jOk 2 cX9_editionOf RX9 (some .int) 0 κ) (X : JX) (v1 : Int32) {r : Int32} (F : jFin LX false (oI X r) κ) (hr : f_X9_editionOf X v1 = some r) : J LX 2 κ X 0 [(0, .ref (jad κ (1))), (1, .int v1)] [] := by
  unfold f_X9_editionOf at hr
  refine j_iload_n K dX9_editionOf_0 1 rfl ?_
  refine j_if_lt K dX9_editionOf_1 (tgt := 19) (by decide) hr (fun hr => ?_) (fun hr => ?_)
  · refine j_iconst K dX9_editionOf_19 (v := 0) rfl ?_
    exact j_ireturn K dX9_editionOf_20 rfl F hr rfl
  · refine j_iload_n K dX9_editionOf_4 1 rfl ?_
    refine j_bipush K dX9_editionOf_5 (v := 60) rfl ?_
    refine j_icmp_ge K dX9_editionOf_7 (tgt := 19) (by decide) hr (fun hr => ?_) (fun hr => ?_)
    · refine j_iconst K dX9_editionOf_19 (v := 0) rfl ?_
      exact j_ireturn K dX9_editionOf_20 rfl F hr rfl
    · refine j_aload_n K dX9_editionOf_10 0 rfl ?_
      refine j_get K (v := .ref (jad κ (8))) fl_X9_32 rfl (Nat.le_of_ble_eq_true rfl) (by decide) rfl dX9_editionOf_11 ?_
      refine j_iload_n K dX9_editionOf_14 1 rfl ?_
      refine j_iaload K (z := 60) rfl (Nat.le_of_ble_eq_true rfl) dX9_editionOf_15 hr (fun hr => ?_)
      refine j_goto K dX9_editionOf_16 (tgt := 20) (by decide) ?_
      exact j_ireturn K dX9_editionOf_20 rfl F hr rfl
theorem c_X9_editionOf (X : JX) (v1 : Int32) {r : Int32} (hr : f_X9_editionOf X v1 = some r) : Cal LX yX9_editionOf cX9_editionOf 2 (some .int) 0 (fun ad => [.ref (ad (1)), .int v1]) X (fun ad => oI X r) :=
  Cal.of (own := RX9) (fun ad => [(0, .ref (ad (1))), (1, .int v1)]) (by decide) rfl (fun _ => Nat.le_of_ble_eq_true rfl) (fun _ => rfl) (fun κ K F => jf_X9_editionOf K X v1 F hr)
theorem jf_X9_isLocked {κ : JK} (K : jOk 2 cX9_isLocked RX9 (some .boolean) 0 κ) (X : JX) (v1 : Int32) {r : Int32} (F : jFin LX false (oI X r) κ) (hr : f_X9_isLocked X v1 = some r) : J LX 2 κ X 0 [(0, .ref (jad κ (1))), (1, .int v1)] [] := by
  unfold f_X9_isLocked at hr
  refine j_iload_n K dX9_isLocked_0 1 rfl ?_
  refine j_if_lt K dX9_isLocked_1 (tgt := 23) (by decide) hr (fun hr => ?_) (fun hr => ?_)
  · refine j_iconst K dX9_isLocked_23 (v := 0) rfl ?_
    exact j_zreturn K dX9_isLocked_24 rfl rfl F hr rfl
  · refine j_iload_n K dX9_isLocked_4 1 rfl ?_
    refine j_bipush K dX9_isLocked_5 (v := 60) rfl ?_
    refine j_icmp_ge K dX9_isLocked_7 (tgt := 23) (by decide) hr (fun hr => ?_) (fun hr => ?_)
    · refine j_iconst K dX9_isLocked_23 (v := 0) rfl ?_
      exact j_zreturn K dX9_isLocked_24 rfl rfl F hr rfl
    · refine j_aload_n K dX9_isLocked_10 0 rfl ?_
      refine j_get K (v := .ref (jad κ (6))) fl_X9_26 rfl (Nat.le_of_ble_eq_true rfl) (by decide) rfl dX9_isLocked_11 ?_
      refine j_iload_n K dX9_isLocked_14 1 rfl ?_
      refine j_baload K (z := 60) rfl (Nat.le_of_ble_eq_true rfl) dX9_isLocked_15 hr (fun hr => ?_)
      refine j_if_eq K dX9_isLocked_16 (tgt := 23) (by decide) hr (fun hr => ?_) (fun hr => ?_)
      · refine j_iconst K dX9_isLocked_23 (v := 0) rfl ?_
        exact j_zreturn K dX9_isLocked_24 rfl rfl F hr rfl
      · refine j_iconst K dX9_isLocked_19 (v := 1) rfl ?_
        refine j_goto K dX9_isLocked_20 (tgt := 24) (by decide) ?_
        exact j_zreturn K dX9_isLocked_24 rfl rfl F hr rfl
theorem c_X9_isLocked (X : JX) (v1 : Int32) {r : Int32} (hr : f_X9_isLocked X v1 = some r) : Cal LX yX9_isLocked cX9_isLocked 2 (some .boolean) 0 (fun ad => [.ref (ad (1)), .int v1]) X (fun ad => oI X r) :=
  Cal.of (own := RX9) (fun ad => [(0, .ref (ad (1))), (1, .int v1)]) (by decide) rfl (fun _ => Nat.le_of_ble_eq_true rfl) (fun _ => rfl) (fun κ K F => jf_X9_isLocked K X v1 F hr)
theorem jf_X9_lengthOf {κ : JK} (K : jOk 2 cX9_lengthOf RX9 (some .int) 0 κ) (X : JX) (v1 : Int32) {r : Int32} (F : jFin LX false (oI X r) κ) (hr : f_X9_lengthOf X v1 = some r) : J LX 2 κ X 0 [(0, .ref (jad κ (1))), (1, .int v1)] [] := by
  unfold f_X9_lengthOf at hr
  refine j_iload_n K dX9_lengthOf_0 1 rfl ?_
  refine j_if_lt K dX9_lengthOf_1 (tgt := 19) (by decide) hr (fun hr => ?_) (fun hr => ?_)
  · refine j_iconst K dX9_lengthOf_19 (v := 0) rfl ?_
    exact j_ireturn K dX9_lengthOf_20 rfl F hr rfl
  · refine j_iload_n K dX9_lengthOf_4 1 rfl ?_
    refine j_bipush K dX9_lengthOf_5 (v := 60) rfl ?_
    refine j_icmp_ge K dX9_lengthOf_7 (tgt := 19) (by decide) hr (fun hr => ?_) (fun hr => ?_)
    · refine j_iconst K dX9_lengthOf_19 (v := 0) rfl ?_
      exact j_ireturn K dX9_lengthOf_20 rfl F hr rfl
    · refine j_aload_n K dX9_lengthOf_10 0 rfl ?_
      refine j_get K (v := .ref (jad κ (9))) fl_X9_35 rfl (Nat.le_of_ble_eq_true rfl) (by decide) rfl dX9_lengthOf_11 ?_
      refine j_iload_n K dX9_lengthOf_14 1 rfl ?_
      refine j_iaload K (z := 60) rfl (Nat.le_of_ble_eq_true rfl) dX9_lengthOf_15 hr (fun hr => ?_)
      refine j_goto K dX9_lengthOf_16 (tgt := 20) (by decide) ?_
      exact j_ireturn K dX9_lengthOf_20 rfl F hr rfl
theorem c_X9_lengthOf (X : JX) (v1 : Int32) {r : Int32} (hr : f_X9_lengthOf X v1 = some r) : Cal LX yX9_lengthOf cX9_lengthOf 2 (some .int) 0 (fun ad => [.ref (ad (1)), .int v1]) X (fun ad => oI X r) :=
  Cal.of (own := RX9) (fun ad => [(0, .ref (ad (1))), (1, .int v1)]) (by decide) rfl (fun _ => Nat.le_of_ble_eq_true rfl) (fun _ => rfl) (fun κ K F => jf_X9_lengthOf K X v1 F hr)
theorem jf_X9_textOf {κ : JK} (K : jOk 2 cX9_textOf RX9 (some (.array .int)) 0 κ) (X : JX) (v1 : Int32) {r : Nat} (F : jFin LX false (oR (jad κ) X r) κ) (hr : f_X9_textOf X v1 = some r) : J LX 2 κ X 0 [(0, .ref (jad κ (1))), (1, .int v1)] [] := by
  unfold f_X9_textOf at hr
  refine j_aload_n K dX9_textOf_0 0 rfl ?_
  refine j_get K (v := .ref (jad κ (10))) fl_X9_40 rfl (Nat.le_of_ble_eq_true rfl) (by decide) rfl dX9_textOf_1 ?_
  refine j_iload_n K dX9_textOf_4 1 rfl ?_
  refine j_if_lt K dX9_textOf_5 (tgt := 18) (by decide) hr (fun hr => ?_) (fun hr => ?_)
  · refine j_iconst K dX9_textOf_18 (v := 0) rfl ?_
    refine j_aaload4V K (b := 56) (z := 60) rfl (Nat.le_of_ble_eq_true rfl) dX9_textOf_19 hr (fun q1 hq1 hr => ?_)
    exact j_areturn K dX9_textOf_20 rfl (Or.inr ⟨_, rfl⟩) F hr rfl
  · refine j_iload_n K dX9_textOf_8 1 rfl ?_
    refine j_bipush K dX9_textOf_9 (v := 60) rfl ?_
    refine j_icmp_ge K dX9_textOf_11 (tgt := 18) (by decide) hr (fun hr => ?_) (fun hr => ?_)
    · refine j_iconst K dX9_textOf_18 (v := 0) rfl ?_
      refine j_aaload4V K (b := 56) (z := 60) rfl (Nat.le_of_ble_eq_true rfl) dX9_textOf_19 hr (fun q2 hq2 hr => ?_)
      exact j_areturn K dX9_textOf_20 rfl (Or.inr ⟨_, rfl⟩) F hr rfl
    · refine j_iload_n K dX9_textOf_14 1 rfl ?_
      refine j_goto K dX9_textOf_15 (tgt := 19) (by decide) ?_
      refine j_aaload4V K (b := 56) (z := 60) rfl (Nat.le_of_ble_eq_true rfl) dX9_textOf_19 hr (fun q3 hq3 hr => ?_)
      exact j_areturn K dX9_textOf_20 rfl (Or.inr ⟨_, rfl⟩) F hr rfl
theorem c_X9_textOf (X : JX) (v1 : Int32) {r : Nat} (hr : f_X9_textOf X v1 = some r) : Cal LX yX9_textOf cX9_textOf 2 (some (.array .int)) 0 (fun ad => [.ref (ad (1)), .int v1]) X (fun ad => oR ad X r) :=
  Cal.of (own := RX9) (fun ad => [(0, .ref (ad (1))), (1, .int v1)]) (by decide) rfl (fun _ => Nat.le_of_ble_eq_true rfl) (fun _ => rfl) (fun κ K F => jf_X9_textOf K X v1 F hr)
theorem jl_X9_isBelow_9 {κ : JK} (K : jOk 5 cX9_isBelow RX9 (some .boolean) 1 κ) (X : JX) (v2 : Int32) {r : Int32} (F : jFin LX false (oI X r) κ) : ∀ (v3 : Int32) (v4 : Int32), l_X9_isBelow_9 X v2 v3 v4 = some r → J LX 5 κ X 9 [(0, .ref (jad κ (1))), (2, .int v2), (3, .int v3), (4, .int v4)] [] := by
  refine j_loop2 (P := fun v3 v4 => J LX 5 κ X 9 [(0, .ref (jad κ (1))), (2, .int v2), (3, .int v3), (4, .int v4)] []) (fun rec9 hrec9 v3 v4 hr => ?_) 1000
  unfold lb_X9_isBelow_9 at hr
  refine j_iload K dX9_isBelow_9 3 rfl ?_
  refine j_bipush K dX9_isBelow_11 (v := 60) rfl ?_
  refine j_icmp_ge K dX9_isBelow_13 (tgt := 40) (by decide) hr (fun hr => ?_) (fun hr => ?_)
  · refine j_iconst K dX9_isBelow_40 (v := 0) rfl ?_
    exact j_zreturn K dX9_isBelow_41 rfl rfl F hr rfl
  · refine j_iload_n K dX9_isBelow_16 2 rfl ?_
    refine j_iconst K dX9_isBelow_17 (v := -1) rfl ?_
    refine j_icmp_eq K dX9_isBelow_18 (tgt := 40) (by decide) hr (fun hr => ?_) (fun hr => ?_)
    · refine j_iconst K dX9_isBelow_40 (v := 0) rfl ?_
      exact j_zreturn K dX9_isBelow_41 rfl rfl F hr rfl
    · refine j_iload_n K dX9_isBelow_21 2 rfl ?_
      refine j_iload_n K dX9_isBelow_22 1 rfl ?_
      refine j_icmp_ne K dX9_isBelow_23 (tgt := 28) (by decide) hr (fun hr => ?_) (fun hr => ?_)
      · refine j_aload_n K dX9_isBelow_28 0 rfl ?_
        refine j_iload_n K dX9_isBelow_29 2 rfl ?_
        refine j_vI1 K (ci := 9) hr (fun v h => c_X9_parentOf X v3 h) ml_X9_47 ⟨_, rfl, rfl⟩ rfl (Nat.le_of_ble_eq_true rfl) (by decide) rfl (by decide) (by decide) (Nat.le_of_ble_eq_true rfl) dX9_isBelow_30 (fun t2 h hr => ?_)
        refine j_istore_n K dX9_isBelow_33 (by decide) ?_
        refine j_iincV K dX9_isBelow_34 (v := 1) 3 rfl rfl (by decide) hr (fun t3 hr => ?_)
        refine j_goto K dX9_isBelow_37 (tgt := 9) (by decide) ?_
        exact j_sub [2, 3, 1, 0] rfl (hrec9 _ _ hr)
      · refine j_iconst K dX9_isBelow_26 (v := 1) rfl ?_
        exact j_zreturn K dX9_isBelow_27 rfl rfl F hr rfl
theorem jf_X9_isBelow {κ : JK} (K : jOk 5 cX9_isBelow RX9 (some .boolean) 1 κ) (X : JX) (v1 : Int32) (v2 : Int32) {r : Int32} (F : jFin LX false (oI X r) κ) (hr : f_X9_isBelow X v1 v2 = some r) : J LX 5 κ X 0 [(0, .ref (jad κ (1))), (1, .int v1), (2, .int v2)] [] := by
  unfold f_X9_isBelow at hr
  refine j_aload_n K dX9_isBelow_0 0 rfl ?_
  refine j_iload_n K dX9_isBelow_1 1 rfl ?_
  refine j_vI1 K (ci := 9) hr (fun v h => c_X9_parentOf X v1 h) ml_X9_47 ⟨_, rfl, rfl⟩ rfl (Nat.le_of_ble_eq_true rfl) (by decide) rfl (by decide) (by decide) (Nat.le_of_ble_eq_true rfl) dX9_isBelow_2 (fun t1 h hr => ?_)
  refine j_istore_n K dX9_isBelow_5 (by decide) ?_
  refine j_iconst K dX9_isBelow_6 (v := 0) rfl ?_
  refine j_istore K dX9_isBelow_7 (by decide) ?_
  exact j_sub [2, 4, 1, 0] rfl (jl_X9_isBelow_9 K _ _ F _ _ hr)
theorem c_X9_isBelow (X : JX) (v1 : Int32) (v2 : Int32) {r : Int32} (hr : f_X9_isBelow X v1 v2 = some r) : Cal LX yX9_isBelow cX9_isBelow 5 (some .boolean) 1 (fun ad => [.ref (ad (1)), .int v1, .int v2]) X (fun ad => oI X r) :=
  Cal.of (own := RX9) (fun ad => [(0, .ref (ad (1))), (1, .int v1), (2, .int v2)]) (by decide) rfl (fun _ => Nat.le_of_ble_eq_true rfl) (fun _ => rfl) (fun κ K F => jf_X9_isBelow K X v1 v2 F hr)
theorem jf_X9_isFolder {κ : JK} (K : jOk 2 cX9_isFolder RX9 (some .boolean) 0 κ) (X : JX) (v1 : Int32) {r : Int32} (F : jFin LX false (oI X r) κ) (hr : f_X9_isFolder X v1 = some r) : J LX 2 κ X 0 [(0, .ref (jad κ (1))), (1, .int v1)] [] := by
  unfold f_X9_isFolder at hr
  refine j_iload_n K dX9_isFolder_0 1 rfl ?_
  refine j_if_lt K dX9_isFolder_1 (tgt := 32) (by decide) hr (fun hr => ?_) (fun hr => ?_)
  · refine j_iconst K dX9_isFolder_32 (v := 0) rfl ?_
    exact j_zreturn K dX9_isFolder_33 rfl rfl F hr rfl
  · refine j_iload_n K dX9_isFolder_4 1 rfl ?_
    refine j_bipush K dX9_isFolder_5 (v := 60) rfl ?_
    refine j_icmp_ge K dX9_isFolder_7 (tgt := 32) (by decide) hr (fun hr => ?_) (fun hr => ?_)
    · refine j_iconst K dX9_isFolder_32 (v := 0) rfl ?_
      exact j_zreturn K dX9_isFolder_33 rfl rfl F hr rfl
    · refine j_aload_n K dX9_isFolder_10 0 rfl ?_
      refine j_get K (v := .ref (jad κ (5))) fl_X9_23 rfl (Nat.le_of_ble_eq_true rfl) (by decide) rfl dX9_isFolder_11 ?_
      refine j_iload_n K dX9_isFolder_14 1 rfl ?_
      refine j_baload K (z := 60) rfl (Nat.le_of_ble_eq_true rfl) dX9_isFolder_15 hr (fun hr => ?_)
      refine j_if_eq K dX9_isFolder_16 (tgt := 32) (by decide) hr (fun hr => ?_) (fun hr => ?_)
      · refine j_iconst K dX9_isFolder_32 (v := 0) rfl ?_
        exact j_zreturn K dX9_isFolder_33 rfl rfl F hr rfl
      · refine j_aload_n K dX9_isFolder_19 0 rfl ?_
        refine j_get K (v := .ref (jad κ (4))) fl_X9_19 rfl (Nat.le_of_ble_eq_true rfl) (by decide) rfl dX9_isFolder_20 ?_
        refine j_iload_n K dX9_isFolder_23 1 rfl ?_
        refine j_baload K (z := 60) rfl (Nat.le_of_ble_eq_true rfl) dX9_isFolder_24 hr (fun hr => ?_)
        refine j_if_eq K dX9_isFolder_25 (tgt := 32) (by decide) hr (fun hr => ?_) (fun hr => ?_)
        · refine j_iconst K dX9_isFolder_32 (v := 0) rfl ?_
          exact j_zreturn K dX9_isFolder_33 rfl rfl F hr rfl
        · refine j_iconst K dX9_isFolder_28 (v := 1) rfl ?_
          refine j_goto K dX9_isFolder_29 (tgt := 33) (by decide) ?_
          exact j_zreturn K dX9_isFolder_33 rfl rfl F hr rfl
theorem c_X9_isFolder (X : JX) (v1 : Int32) {r : Int32} (hr : f_X9_isFolder X v1 = some r) : Cal LX yX9_isFolder cX9_isFolder 2 (some .boolean) 0 (fun ad => [.ref (ad (1)), .int v1]) X (fun ad => oI X r) :=
  Cal.of (own := RX9) (fun ad => [(0, .ref (ad (1))), (1, .int v1)]) (by decide) rfl (fun _ => Nat.le_of_ble_eq_true rfl) (fun _ => rfl) (fun κ K F => jf_X9_isFolder K X v1 F hr)
theorem jf_X9_peopleOf {κ : JK} (K : jOk 2 cX9_peopleOf RX9 (some .int) 0 κ) (X : JX) (v1 : Int32) {r : Int32} (F : jFin LX false (oI X r) κ) (hr : f_X9_peopleOf X v1 = some r) : J LX 2 κ X 0 [(0, .ref (jad κ (1))), (1, .int v1)] [] := by
  unfold f_X9_peopleOf at hr
  refine j_iload_n K dX9_peopleOf_0 1 rfl ?_
  refine j_if_lt K dX9_peopleOf_1 (tgt := 19) (by decide) hr (fun hr => ?_) (fun hr => ?_)
  · refine j_iconst K dX9_peopleOf_19 (v := 0) rfl ?_
    exact j_ireturn K dX9_peopleOf_20 rfl F hr rfl
  · refine j_iload_n K dX9_peopleOf_4 1 rfl ?_
    refine j_bipush K dX9_peopleOf_5 (v := 60) rfl ?_
    refine j_icmp_ge K dX9_peopleOf_7 (tgt := 19) (by decide) hr (fun hr => ?_) (fun hr => ?_)
    · refine j_iconst K dX9_peopleOf_19 (v := 0) rfl ?_
      exact j_ireturn K dX9_peopleOf_20 rfl F hr rfl
    · refine j_aload_n K dX9_peopleOf_10 0 rfl ?_
      refine j_get K (v := .ref (jad κ (7))) fl_X9_29 rfl (Nat.le_of_ble_eq_true rfl) (by decide) rfl dX9_peopleOf_11 ?_
      refine j_iload_n K dX9_peopleOf_14 1 rfl ?_
      refine j_iaload K (z := 60) rfl (Nat.le_of_ble_eq_true rfl) dX9_peopleOf_15 hr (fun hr => ?_)
      refine j_goto K dX9_peopleOf_16 (tgt := 20) (by decide) ?_
      exact j_ireturn K dX9_peopleOf_20 rfl F hr rfl
theorem c_X9_peopleOf (X : JX) (v1 : Int32) {r : Int32} (hr : f_X9_peopleOf X v1 = some r) : Cal LX yX9_peopleOf cX9_peopleOf 2 (some .int) 0 (fun ad => [.ref (ad (1)), .int v1]) X (fun ad => oI X r) :=
  Cal.of (own := RX9) (fun ad => [(0, .ref (ad (1))), (1, .int v1)]) (by decide) rfl (fun _ => Nat.le_of_ble_eq_true rfl) (fun _ => rfl) (fun κ K F => jf_X9_peopleOf K X v1 F hr)
theorem jl_X9_isOpenTo_5 {κ : JK} (K : jOk 5 cX9_isOpenTo RX9 (some .boolean) 1 κ) (X : JX) (v1 : Int32) {r : Int32} (F : jFin LX false (oI X r) κ) : ∀ (v3 : Int32) (v4 : Int32), l_X9_isOpenTo_5 X v1 v3 v4 = some r → J LX 5 κ X 5 [(0, .ref (jad κ (1))), (1, .int v1), (3, .int v3), (4, .int v4)] [] := by
  refine j_loop2 (P := fun v3 v4 => J LX 5 κ X 5 [(0, .ref (jad κ (1))), (1, .int v1), (3, .int v3), (4, .int v4)] []) (fun rec5 hrec5 v3 v4 hr => ?_) 1000
  unfold lb_X9_isOpenTo_5 at hr
  refine j_iload K dX9_isOpenTo_5 3 rfl ?_
  refine j_bipush K dX9_isOpenTo_7 (v := 60) rfl ?_
  refine j_icmp_ge K dX9_isOpenTo_9 (tgt := 43) (by decide) hr (fun hr => ?_) (fun hr => ?_)
  · refine j_iconst K dX9_isOpenTo_43 (v := 1) rfl ?_
    exact j_zreturn K dX9_isOpenTo_44 rfl rfl F hr rfl
  · refine j_iload_n K dX9_isOpenTo_12 2 rfl ?_
    refine j_iconst K dX9_isOpenTo_13 (v := -1) rfl ?_
    refine j_icmp_eq K dX9_isOpenTo_14 (tgt := 43) (by decide) hr (fun hr => ?_) (fun hr => ?_)
    · refine j_iconst K dX9_isOpenTo_43 (v := 1) rfl ?_
      exact j_zreturn K dX9_isOpenTo_44 rfl rfl F hr rfl
    · refine j_aload_n K dX9_isOpenTo_17 0 rfl ?_
      refine j_iload_n K dX9_isOpenTo_18 2 rfl ?_
      refine j_vI1 K (ci := 9) hr (fun v h => c_X9_peopleOf X v3 h) ml_X9_51 ⟨_, rfl, rfl⟩ rfl (Nat.le_of_ble_eq_true rfl) (by decide) rfl (by decide) (by decide) (Nat.le_of_ble_eq_true rfl) dX9_isOpenTo_19 (fun t1 h hr => ?_)
      refine j_iload_n K dX9_isOpenTo_22 1 rfl ?_
      refine j_ishr K dX9_isOpenTo_23 ?_
      refine j_iconst K dX9_isOpenTo_24 (v := 1) rfl ?_
      refine j_iand K dX9_isOpenTo_25 ?_
      refine j_if_ne K dX9_isOpenTo_26 (tgt := 31) (by decide) hr (fun hr => ?_) (fun hr => ?_)
      · refine j_aload_n K dX9_isOpenTo_31 0 rfl ?_
        refine j_iload_n K dX9_isOpenTo_32 2 rfl ?_
        refine j_vI1 K (ci := 9) hr (fun v h => c_X9_parentOf X v3 h) ml_X9_47 ⟨_, rfl, rfl⟩ rfl (Nat.le_of_ble_eq_true rfl) (by decide) rfl (by decide) (by decide) (Nat.le_of_ble_eq_true rfl) dX9_isOpenTo_33 (fun t2 h hr => ?_)
        refine j_istore_n K dX9_isOpenTo_36 (by decide) ?_
        refine j_iincV K dX9_isOpenTo_37 (v := 1) 3 rfl rfl (by decide) hr (fun t3 hr => ?_)
        refine j_goto K dX9_isOpenTo_40 (tgt := 5) (by decide) ?_
        exact j_sub [2, 3, 1, 0] rfl (hrec5 _ _ hr)
      · refine j_iconst K dX9_isOpenTo_29 (v := 0) rfl ?_
        exact j_zreturn K dX9_isOpenTo_30 rfl rfl F hr rfl
theorem jf_X9_isOpenTo {κ : JK} (K : jOk 5 cX9_isOpenTo RX9 (some .boolean) 1 κ) (X : JX) (v1 : Int32) (v2 : Int32) {r : Int32} (F : jFin LX false (oI X r) κ) (hr : f_X9_isOpenTo X v1 v2 = some r) : J LX 5 κ X 0 [(0, .ref (jad κ (1))), (1, .int v1), (2, .int v2)] [] := by
  unfold f_X9_isOpenTo at hr
  refine j_iload_n K dX9_isOpenTo_0 2 rfl ?_
  refine j_istore_n K dX9_isOpenTo_1 (by decide) ?_
  refine j_iconst K dX9_isOpenTo_2 (v := 0) rfl ?_
  refine j_istore K dX9_isOpenTo_3 (by decide) ?_
  exact j_sub [2, 3, 1, 0] rfl (jl_X9_isOpenTo_5 K _ _ F _ _ hr)
theorem c_X9_isOpenTo (X : JX) (v1 : Int32) (v2 : Int32) {r : Int32} (hr : f_X9_isOpenTo X v1 v2 = some r) : Cal LX yX9_isOpenTo cX9_isOpenTo 5 (some .boolean) 1 (fun ad => [.ref (ad (1)), .int v1, .int v2]) X (fun ad => oI X r) :=
  Cal.of (own := RX9) (fun ad => [(0, .ref (ad (1))), (1, .int v1), (2, .int v2)]) (by decide) rfl (fun _ => Nat.le_of_ble_eq_true rfl) (fun _ => rfl) (fun κ K F => jf_X9_isOpenTo K X v1 v2 F hr)
theorem jf_X9_isThere {κ : JK} (K : jOk 2 cX9_isThere RX9 (some .boolean) 0 κ) (X : JX) (v1 : Int32) {r : Int32} (F : jFin LX false (oI X r) κ) (hr : f_X9_isThere X v1 = some r) : J LX 2 κ X 0 [(0, .ref (jad κ (1))), (1, .int v1)] [] := by
  unfold f_X9_isThere at hr
  refine j_iload_n K dX9_isThere_0 1 rfl ?_
  refine j_if_lt K dX9_isThere_1 (tgt := 23) (by decide) hr (fun hr => ?_) (fun hr => ?_)
  · refine j_iconst K dX9_isThere_23 (v := 0) rfl ?_
    exact j_zreturn K dX9_isThere_24 rfl rfl F hr rfl
  · refine j_iload_n K dX9_isThere_4 1 rfl ?_
    refine j_bipush K dX9_isThere_5 (v := 60) rfl ?_
    refine j_icmp_ge K dX9_isThere_7 (tgt := 23) (by decide) hr (fun hr => ?_) (fun hr => ?_)
    · refine j_iconst K dX9_isThere_23 (v := 0) rfl ?_
      exact j_zreturn K dX9_isThere_24 rfl rfl F hr rfl
    · refine j_aload_n K dX9_isThere_10 0 rfl ?_
      refine j_get K (v := .ref (jad κ (5))) fl_X9_23 rfl (Nat.le_of_ble_eq_true rfl) (by decide) rfl dX9_isThere_11 ?_
      refine j_iload_n K dX9_isThere_14 1 rfl ?_
      refine j_baload K (z := 60) rfl (Nat.le_of_ble_eq_true rfl) dX9_isThere_15 hr (fun hr => ?_)
      refine j_if_eq K dX9_isThere_16 (tgt := 23) (by decide) hr (fun hr => ?_) (fun hr => ?_)
      · refine j_iconst K dX9_isThere_23 (v := 0) rfl ?_
        exact j_zreturn K dX9_isThere_24 rfl rfl F hr rfl
      · refine j_iconst K dX9_isThere_19 (v := 1) rfl ?_
        refine j_goto K dX9_isThere_20 (tgt := 24) (by decide) ?_
        exact j_zreturn K dX9_isThere_24 rfl rfl F hr rfl
theorem c_X9_isThere (X : JX) (v1 : Int32) {r : Int32} (hr : f_X9_isThere X v1 = some r) : Cal LX yX9_isThere cX9_isThere 2 (some .boolean) 0 (fun ad => [.ref (ad (1)), .int v1]) X (fun ad => oI X r) :=
  Cal.of (own := RX9) (fun ad => [(0, .ref (ad (1))), (1, .int v1)]) (by decide) rfl (fun _ => Nat.le_of_ble_eq_true rfl) (fun _ => rfl) (fun κ K F => jf_X9_isThere K X v1 F hr)
theorem jb_X9_add_80 {κ : JK} (K : jOk 5 cX9_add RX9 (some .int) 0 κ) (X : JX) (v4 : Int32) (s0 : Int32) (s1 : Int32) {r : (Int32 × JX)} (F : jFin LX false (oM r) κ) (hr : b_X9_add_80 X v4 s0 s1 = some r) : J LX 5 κ X 80 [(0, .ref (jad κ (1))), (4, .int v4)] [.int s0, .int s1, .ref (jad κ (8))] := by
  unfold b_X9_add_80 at hr
  refine j_iastoreV K (z := 60) rfl (Nat.le_of_ble_eq_true rfl) dX9_add_80 hr (fun X7 hr => ?_)
  refine j_aload_n K dX9_add_81 0 rfl ?_
  refine j_dup K dX9_add_82 rfl ?_
  refine j_get K (v := .int (X7 (1) 9)) fl_X9_43 rfl (Nat.le_of_ble_eq_true rfl) (by decide) rfl dX9_add_83 ?_
  refine j_iconst K dX9_add_86 (v := 1) rfl ?_
  refine j_iadd K dX9_add_87 ?_
  refine j_putiV K fp_X9_43 rfl (Nat.le_of_ble_eq_true rfl) (by decide) (fun _ => Nat.le_of_ble_eq_true rfl) (fun _ => rfl) dX9_add_88 hr (fun X8 hr => ?_)
  refine j_iload K dX9_add_91 1 rfl ?_
  exact j_ireturn K dX9_add_93 rfl F hr rfl
theorem jf_X9_add {κ : JK} (K : jOk 5 cX9_add RX9 (some .int) 0 κ) (X : JX) (v1 : Int32) (v2 : Int32) (v3 : Int32) {r : (Int32 × JX)} (F : jFin LX false (oM r) κ) (hr : f_X9_add X v1 v2 v3 = some r) : J LX 5 κ X 0 [(0, .ref (jad κ (1))), (1, .int v1), (2, .int v2), (3, .int v3)] [] := by
  unfold f_X9_add at hr
  refine j_aload_n K dX9_add_0 0 rfl ?_
  refine j_get K (v := .int (X (1) 9)) fl_X9_43 rfl (Nat.le_of_ble_eq_true rfl) (by decide) rfl dX9_add_1 ?_
  refine j_if_lt K dX9_add_4 (tgt := 16) (by decide) hr (fun hr => ?_) (fun hr => ?_)
  · refine j_iconst K dX9_add_16 (v := -1) rfl ?_
    exact j_ireturn K dX9_add_17 rfl F hr rfl
  · refine j_aload_n K dX9_add_7 0 rfl ?_
    refine j_get K (v := .int (X (1) 9)) fl_X9_43 rfl (Nat.le_of_ble_eq_true rfl) (by decide) rfl dX9_add_8 ?_
    refine j_bipush K dX9_add_11 (v := 60) rfl ?_
    refine j_icmp_lt K dX9_add_13 (tgt := 18) (by decide) hr (fun hr => ?_) (fun hr => ?_)
    · refine j_aload_n K dX9_add_18 0 rfl ?_
      refine j_get K (v := .int (X (1) 9)) fl_X9_43 rfl (Nat.le_of_ble_eq_true rfl) (by decide) rfl dX9_add_19 ?_
      refine j_istoreV K dX9_add_22 (by decide) hr (fun t1 hr => ?_)
      refine j_aload_n K dX9_add_24 1 rfl ?_
      refine j_get K (v := .ref (jad κ (2))) fl_X9_9 rfl (Nat.le_of_ble_eq_true rfl) (by decide) rfl dX9_add_25 ?_
      refine j_iload K dX9_add_28 0 rfl ?_
      refine j_iload_n K dX9_add_30 2 rfl ?_
      refine j_iastoreV K (z := 60) rfl (Nat.le_of_ble_eq_true rfl) dX9_add_31 hr (fun X2 hr => ?_)
      refine j_aload_n K dX9_add_32 1 rfl ?_
      refine j_get K (v := .ref (jad κ (3))) fl_X9_15 rfl (Nat.le_of_ble_eq_true rfl) (by decide) rfl dX9_add_33 ?_
      refine j_iload K dX9_add_36 0 rfl ?_
      refine j_iload_n K dX9_add_38 3 rfl ?_
      refine j_castoreV K (z := 60) rfl (Nat.le_of_ble_eq_true rfl) dX9_add_39 hr (fun X3 hr => ?_)
      refine j_aload_n K dX9_add_40 1 rfl ?_
      refine j_get K (v := .ref (jad κ (4))) fl_X9_19 rfl (Nat.le_of_ble_eq_true rfl) (by decide) rfl dX9_add_41 ?_
      refine j_iload K dX9_add_44 0 rfl ?_
      refine j_iload_n K dX9_add_46 4 rfl ?_
      refine j_bastoreV K (z := 60) rfl (Nat.le_of_ble_eq_true rfl) dX9_add_47 hr (fun X4 hr => ?_)
      refine j_aload_n K dX9_add_48 1 rfl ?_
      refine j_get K (v := .ref (jad κ (5))) fl_X9_23 rfl (Nat.le_of_ble_eq_true rfl) (by decide) rfl dX9_add_49 ?_
      refine j_iload K dX9_add_52 0 rfl ?_
      refine j_iconst K dX9_add_54 (v := 1) rfl ?_
      refine j_bastoreV K (z := 60) rfl (Nat.le_of_ble_eq_true rfl) dX9_add_55 hr (fun X5 hr => ?_)
      refine j_aload_n K dX9_add_56 1 rfl ?_
      refine j_get K (v := .ref (jad κ (7))) fl_X9_29 rfl (Nat.le_of_ble_eq_true rfl) (by decide) rfl dX9_add_57 ?_
      refine j_iload K dX9_add_60 0 rfl ?_
      refine j_bipush K dX9_add_62 (v := 15) rfl ?_
      refine j_iastoreV K (z := 60) rfl (Nat.le_of_ble_eq_true rfl) dX9_add_64 hr (fun X6 hr => ?_)
      refine j_aload_n K dX9_add_65 1 rfl ?_
      refine j_get K (v := .ref (jad κ (8))) fl_X9_32 rfl (Nat.le_of_ble_eq_true rfl) (by decide) rfl dX9_add_66 ?_
      refine j_iload K dX9_add_69 0 rfl ?_
      refine j_iload_n K dX9_add_71 4 rfl ?_
      refine j_if_eq K dX9_add_72 (tgt := 79) (by decide) hr (fun hr => ?_) (fun hr => ?_)
      · refine j_iconst K dX9_add_79 (v := 1) rfl ?_
        exact j_sub [1, 0] rfl (jb_X9_add_80 K _ _ _ _ F hr)
      · refine j_iconst K dX9_add_75 (v := 0) rfl ?_
        refine j_goto K dX9_add_76 (tgt := 80) (by decide) ?_
        exact j_sub [1, 0] rfl (jb_X9_add_80 K _ _ _ _ F hr)
    · refine j_iconst K dX9_add_16 (v := -1) rfl ?_
      exact j_ireturn K dX9_add_17 rfl F hr rfl
theorem c_X9_add (X : JX) (v1 : Int32) (v2 : Int32) (v3 : Int32) {r : (Int32 × JX)} (hr : f_X9_add X v1 v2 v3 = some r) : Cal LX yX9_add cX9_add 5 (some .int) 0 (fun ad => [.ref (ad (1)), .int v1, .int v2, .int v3]) X (fun ad => oM r) :=
  Cal.of (own := RX9) (fun ad => [(0, .ref (ad (1))), (1, .int v1), (2, .int v2), (3, .int v3)]) (by decide) rfl (fun _ => Nat.le_of_ble_eq_true rfl) (fun _ => rfl) (fun κ K F => jf_X9_add K X v1 v2 v3 F hr)
theorem jf_X9_append {κ : JK} (K : jOk 4 cX9_append RX9 none 1 κ) (X : JX) (v1 : Int32) (v2 : Int32) {r : JX} (F : jFin LX false (oU r) κ) (hr : f_X9_append X v1 v2 = some r) : J LX 4 κ X 0 [(0, .ref (jad κ (1))), (1, .int v1), (2, .int v2)] [] := by
  unfold f_X9_append at hr
  refine j_aload_n K dX9_append_0 0 rfl ?_
  refine j_iload_n K dX9_append_1 1 rfl ?_
  refine j_vI1 K (ci := 9) hr (fun v h => c_X9_lengthOf X v1 h) ml_X9_58 ⟨_, rfl, rfl⟩ rfl (Nat.le_of_ble_eq_true rfl) (by decide) rfl (by decide) (by decide) (Nat.le_of_ble_eq_true rfl) dX9_append_2 (fun t1 h hr => ?_)
  refine j_istore_n K dX9_append_5 (by decide) ?_
  refine j_aload_n K dX9_append_6 1 rfl ?_
  refine j_iload_n K dX9_append_7 2 rfl ?_
  refine j_vI1 K (ci := 9) hr (fun v h => c_X9_isFile X v1 h) ml_X9_61 ⟨_, rfl, rfl⟩ rfl (Nat.le_of_ble_eq_true rfl) (by decide) rfl (by decide) (by decide) (Nat.le_of_ble_eq_true rfl) dX9_append_8 (fun t2 h hr => ?_)
  refine j_if_eq K dX9_append_11 (tgt := 52) (by decide) hr (fun hr => ?_) (fun hr => ?_)
  · exact j_return K dX9_append_52 rfl F hr rfl
  · refine j_iload_n K dX9_append_14 0 rfl ?_
    refine j_if_lt K dX9_append_15 (tgt := 52) (by decide) hr (fun hr => ?_) (fun hr => ?_)
    · exact j_return K dX9_append_52 rfl F hr rfl
    · refine j_iload_n K dX9_append_18 0 rfl ?_
      refine j_bipush K dX9_append_19 (v := 20) rfl ?_
      refine j_icmp_ge K dX9_append_21 (tgt := 52) (by decide) hr (fun hr => ?_) (fun hr => ?_)
      · exact j_return K dX9_append_52 rfl F hr rfl
      · refine j_aload_n K dX9_append_24 1 rfl ?_
        refine j_get K (v := .ref (jad κ (10))) fl_X9_40 rfl (Nat.le_of_ble_eq_true rfl) (by decide) rfl dX9_append_25 ?_
        refine j_iload_n K dX9_append_28 2 rfl ?_
        refine j_aaload4V K (b := 56) (z := 60) rfl (Nat.le_of_ble_eq_true rfl) dX9_append_29 hr (fun q3 hq3 hr => ?_)
        refine j_iload_n K dX9_append_30 0 rfl ?_
        refine j_iload_n K dX9_append_31 3 rfl ?_
        refine j_iastoreV K (z := 20) (i20 hq3) (i20l hq3) dX9_append_32 hr (fun X4 hr => ?_)
        refine j_aload_n K dX9_append_33 1 rfl ?_
        refine j_get K (v := .ref (jad κ (9))) fl_X9_35 rfl (Nat.le_of_ble_eq_true rfl) (by decide) rfl dX9_append_34 ?_
        refine j_iload_n K dX9_append_37 2 rfl ?_
        refine j_iload_n K dX9_append_38 0 rfl ?_
        refine j_iconst K dX9_append_39 (v := 1) rfl ?_
        refine j_iadd K dX9_append_40 ?_
        refine j_iastoreV K (z := 60) rfl (Nat.le_of_ble_eq_true rfl) dX9_append_41 hr (fun X5 hr => ?_)
        refine j_aload_n K dX9_append_42 1 rfl ?_
        refine j_get K (v := .ref (jad κ (8))) fl_X9_32 rfl (Nat.le_of_ble_eq_true rfl) (by decide) rfl dX9_append_43 ?_
        refine j_iload_n K dX9_append_46 2 rfl ?_
        refine j_dup2 K dX9_append_47 rfl rfl ?_
        refine j_iaload K (z := 60) rfl (Nat.le_of_ble_eq_true rfl) dX9_append_48 hr (fun hr => ?_)
        refine j_iconst K dX9_append_49 (v := 1) rfl ?_
        refine j_iadd K dX9_append_50 ?_
        refine j_iastoreV K (z := 60) rfl (Nat.le_of_ble_eq_true rfl) dX9_append_51 hr (fun X6 hr => ?_)
        exact j_return K dX9_append_52 rfl F hr rfl
theorem c_X9_append (X : JX) (v1 : Int32) (v2 : Int32) {r : JX} (hr : f_X9_append X v1 v2 = some r) : Cal LX yX9_append cX9_append 4 none 1 (fun ad => [.ref (ad (1)), .int v1, .int v2]) X (fun ad => oU r) :=
  Cal.of (own := RX9) (fun ad => [(0, .ref (ad (1))), (1, .int v1), (2, .int v2)]) (by decide) rfl (fun _ => Nat.le_of_ble_eq_true rfl) (fun _ => rfl) (fun κ K F => jf_X9_append K X v1 v2 F hr)
theorem jb_X9_countThere_22 {κ : JK} (K : jOk 3 cX9_countThere RX9 (some .int) 0 κ) (X : JX) (v1 : Int32) (v2 : Int32) {r : Int32} (F : jFin LX false (oI X r) κ) (rec4 : Int32 → Int32 → Option Int32) (hrec4 : ∀ (v1 : Int32) (v2 : Int32), rec4 v1 v2 = some r → J LX 3 κ X 4 [(0, .ref (jad κ (1))), (1, .int v1), (2, .int v2)] []) (hr : b_X9_countThere_22 rec4 X v1 v2 = some r) : J LX 3 κ X 22 [(0, .ref (jad κ (1))), (1, .int v1), (2, .int v2)] [] := by
  unfold b_X9_countThere_22 at hr
  refine j_iincV K dX9_countThere_22 (v := 1) 2 rfl rfl (by decide) hr (fun t2 hr => ?_)
  refine j_goto K dX9_countThere_25 (tgt := 4) (by decide) ?_
  exact j_sub [1, 2, 0] rfl (hrec4 _ _ hr)
theorem jl_X9_countThere_4 {κ : JK} (K : jOk 3 cX9_countThere RX9 (some .int) 0 κ) (X : JX) {r : Int32} (F : jFin LX false (oI X r) κ) : ∀ (v1 : Int32) (v2 : Int32), l_X9_countThere_4 X v1 v2 = some r → J LX 3 κ X 4 [(0, .ref (jad κ (1))), (1, .int v1), (2, .int v2)] [] := by
  refine j_loop2 (P := fun v1 v2 => J LX 3 κ X 4 [(0, .ref (jad κ (1))), (1, .int v1), (2, .int v2)] []) (fun rec4 hrec4 v1 v2 hr => ?_) 1000
  unfold lb_X9_countThere_4 at hr
  refine j_iload_n K dX9_countThere_4 2 rfl ?_
  refine j_bipush K dX9_countThere_5 (v := 60) rfl ?_
  refine j_icmp_ge K dX9_countThere_7 (tgt := 28) (by decide) hr (fun hr => ?_) (fun hr => ?_)
  · refine j_iload_n K dX9_countThere_28 1 rfl ?_
    exact j_ireturn K dX9_countThere_29 rfl F hr rfl
  · refine j_aload_n K dX9_countThere_10 0 rfl ?_
    refine j_get K (v := .ref (jad κ (5))) fl_X9_23 rfl (Nat.le_of_ble_eq_true rfl) (by decide) rfl dX9_countThere_11 ?_
    refine j_iload_n K dX9_countThere_14 2 rfl ?_
    refine j_baload K (z := 60) rfl (Nat.le_of_ble_eq_true rfl) dX9_countThere_15 hr (fun hr => ?_)
    refine j_if_eq K dX9_countThere_16 (tgt := 22) (by decide) hr (fun hr => ?_) (fun hr => ?_)
    · exact j_sub [0, 1, 2] rfl (jb_X9_countThere_22 K _ _ _ F rec4 hrec4 hr)
    · refine j_iincV K dX9_countThere_19 (v := 1) 1 rfl rfl (by decide) hr (fun t1 hr => ?_)
      exact j_sub [1, 0, 2] rfl (jb_X9_countThere_22 K _ _ _ F rec4 hrec4 hr)
theorem jf_X9_countThere {κ : JK} (K : jOk 3 cX9_countThere RX9 (some .int) 0 κ) (X : JX) {r : Int32} (F : jFin LX false (oI X r) κ) (hr : f_X9_countThere X = some r) : J LX 3 κ X 0 [(0, .ref (jad κ (1)))] [] := by
  unfold f_X9_countThere at hr
  refine j_iconst K dX9_countThere_0 (v := 0) rfl ?_
  refine j_istore_n K dX9_countThere_1 (by decide) ?_
  refine j_iconst K dX9_countThere_2 (v := 0) rfl ?_
  refine j_istore_n K dX9_countThere_3 (by decide) ?_
  exact j_sub [2, 1, 0] rfl (jl_X9_countThere_4 K _ F _ _ hr)
theorem c_X9_countThere (X : JX) {r : Int32} (hr : f_X9_countThere X = some r) : Cal LX yX9_countThere cX9_countThere 3 (some .int) 0 (fun ad => [.ref (ad (1))]) X (fun ad => oI X r) :=
  Cal.of (own := RX9) (fun ad => [(0, .ref (ad (1)))]) (by decide) rfl (fun _ => Nat.le_of_ble_eq_true rfl) (fun _ => rfl) (fun κ K F => jf_X9_countThere K X F hr)
theorem jb_X9_findIn_39 {κ : JK} (K : jOk 4 cX9_findIn RX9 (some .int) 0 κ) (X : JX) (v1 : Int32) (v2 : Int32) (v3 : Int32) {r : Int32} (F : jFin LX false (oI X r) κ) (rec2 : Int32 → Option Int32) (hrec2 : ∀ (v3 : Int32), rec2 v3 = some r → J LX 4 κ X 2 [(0, .ref (jad κ (1))), (1, .int v1), (2, .int v2), (3, .int v3)] []) (hr : b_X9_findIn_39 rec2 X v1 v2 v3 = some r) : J LX 4 κ X 39 [(0, .ref (jad κ (1))), (1, .int v1), (2, .int v2), (3, .int v3)] [] := by
  unfold b_X9_findIn_39 at hr
  refine j_iincV K dX9_findIn_39 (v := 1) 3 rfl rfl (by decide) hr (fun t1 hr => ?_)
  refine j_goto K dX9_findIn_42 (tgt := 2) (by decide) ?_
  exact j_sub [1, 2, 3, 0] rfl (hrec2 _ hr)
theorem jl_X9_findIn_2 {κ : JK} (K : jOk 4 cX9_findIn RX9 (some .int) 0 κ) (X : JX) (v1 : Int32) (v2 : Int32) {r : Int32} (F : jFin LX false (oI X r) κ) : ∀ (v3 : Int32), l_X9_findIn_2 X v1 v2 v3 = some r → J LX 4 κ X 2 [(0, .ref (jad κ (1))), (1, .int v1), (2, .int v2), (3, .int v3)] [] := by
  refine j_loop1 (P := fun v3 => J LX 4 κ X 2 [(0, .ref (jad κ (1))), (1, .int v1), (2, .int v2), (3, .int v3)] []) (fun rec2 hrec2 v3 hr => ?_) 1000
  unfold lb_X9_findIn_2 at hr
  refine j_iload_n K dX9_findIn_2 3 rfl ?_
  refine j_bipush K dX9_findIn_3 (v := 60) rfl ?_
  refine j_icmp_ge K dX9_findIn_5 (tgt := 45) (by decide) hr (fun hr => ?_) (fun hr => ?_)
  · refine j_iconst K dX9_findIn_45 (v := -1) rfl ?_
    exact j_ireturn K dX9_findIn_46 rfl F hr rfl
  · refine j_aload_n K dX9_findIn_8 0 rfl ?_
    refine j_get K (v := .ref (jad κ (5))) fl_X9_23 rfl (Nat.le_of_ble_eq_true rfl) (by decide) rfl dX9_findIn_9 ?_
    refine j_iload_n K dX9_findIn_12 3 rfl ?_
    refine j_baload K (z := 60) rfl (Nat.le_of_ble_eq_true rfl) dX9_findIn_13 hr (fun hr => ?_)
    refine j_if_eq K dX9_findIn_14 (tgt := 39) (by decide) hr (fun hr => ?_) (fun hr => ?_)
    · exact j_sub [0, 1, 2, 3] rfl (jb_X9_findIn_39 K _ _ _ _ F rec2 hrec2 hr)
    · refine j_aload_n K dX9_findIn_17 0 rfl ?_
      refine j_get K (v := .ref (jad κ (2))) fl_X9_9 rfl (Nat.le_of_ble_eq_true rfl) (by decide) rfl dX9_findIn_18 ?_
      refine j_iload_n K dX9_findIn_21 3 rfl ?_
      refine j_iaload K (z := 60) rfl (Nat.le_of_ble_eq_true rfl) dX9_findIn_22 hr (fun hr => ?_)
      refine j_iload_n K dX9_findIn_23 1 rfl ?_
      refine j_icmp_ne K dX9_findIn_24 (tgt := 39) (by decide) hr (fun hr => ?_) (fun hr => ?_)
      · exact j_sub [0, 1, 2, 3] rfl (jb_X9_findIn_39 K _ _ _ _ F rec2 hrec2 hr)
      · refine j_aload_n K dX9_findIn_27 0 rfl ?_
        refine j_get K (v := .ref (jad κ (3))) fl_X9_15 rfl (Nat.le_of_ble_eq_true rfl) (by decide) rfl dX9_findIn_28 ?_
        refine j_iload_n K dX9_findIn_31 3 rfl ?_
        refine j_caload K (z := 60) rfl (Nat.le_of_ble_eq_true rfl) dX9_findIn_32 hr (fun hr => ?_)
        refine j_iload_n K dX9_findIn_33 2 rfl ?_
        refine j_icmp_ne K dX9_findIn_34 (tgt := 39) (by decide) hr (fun hr => ?_) (fun hr => ?_)
        · exact j_sub [0, 1, 2, 3] rfl (jb_X9_findIn_39 K _ _ _ _ F rec2 hrec2 hr)
        · refine j_iload_n K dX9_findIn_37 3 rfl ?_
          exact j_ireturn K dX9_findIn_38 rfl F hr rfl
theorem jf_X9_findIn {κ : JK} (K : jOk 4 cX9_findIn RX9 (some .int) 0 κ) (X : JX) (v1 : Int32) (v2 : Int32) {r : Int32} (F : jFin LX false (oI X r) κ) (hr : f_X9_findIn X v1 v2 = some r) : J LX 4 κ X 0 [(0, .ref (jad κ (1))), (1, .int v1), (2, .int v2)] [] := by
  unfold f_X9_findIn at hr
  refine j_iconst K dX9_findIn_0 (v := 0) rfl ?_
  refine j_istore_n K dX9_findIn_1 (by decide) ?_
  exact j_sub [1, 2, 3, 0] rfl (jl_X9_findIn_2 K _ _ _ F _ hr)
theorem c_X9_findIn (X : JX) (v1 : Int32) (v2 : Int32) {r : Int32} (hr : f_X9_findIn X v1 v2 = some r) : Cal LX yX9_findIn cX9_findIn 4 (some .int) 0 (fun ad => [.ref (ad (1)), .int v1, .int v2]) X (fun ad => oI X r) :=
  Cal.of (own := RX9) (fun ad => [(0, .ref (ad (1))), (1, .int v1), (2, .int v2)]) (by decide) rfl (fun _ => Nat.le_of_ble_eq_true rfl) (fun _ => rfl) (fun κ K F => jf_X9_findIn K X v1 v2 F hr)
theorem jf_X9_isFull {κ : JK} (K : jOk 1 cX9_isFull RX9 (some .boolean) 0 κ) (X : JX) {r : Int32} (F : jFin LX false (oI X r) κ) (hr : f_X9_isFull X = some r) : J LX 1 κ X 0 [(0, .ref (jad κ (1)))] [] := by
  unfold f_X9_isFull at hr
  refine j_aload_n K dX9_isFull_0 0 rfl ?_
  refine j_get K (v := .int (X (1) 9)) fl_X9_43 rfl (Nat.le_of_ble_eq_true rfl) (by decide) rfl dX9_isFull_1 ?_
  refine j_bipush K dX9_isFull_4 (v := 60) rfl ?_
  refine j_icmp_lt K dX9_isFull_6 (tgt := 13) (by decide) hr (fun hr => ?_) (fun hr => ?_)
  · refine j_iconst K dX9_isFull_13 (v := 0) rfl ?_
    exact j_zreturn K dX9_isFull_14 rfl rfl F hr rfl
  · refine j_iconst K dX9_isFull_9 (v := 1) rfl ?_
    refine j_goto K dX9_isFull_10 (tgt := 14) (by decide) ?_
    exact j_zreturn K dX9_isFull_14 rfl rfl F hr rfl
theorem c_X9_isFull (X : JX) {r : Int32} (hr : f_X9_isFull X = some r) : Cal LX yX9_isFull cX9_isFull 1 (some .boolean) 0 (fun ad => [.ref (ad (1))]) X (fun ad => oI X r) :=
  Cal.of (own := RX9) (fun ad => [(0, .ref (ad (1)))]) (by decide) rfl (fun _ => Nat.le_of_ble_eq_true rfl) (fun _ => rfl) (fun κ K F => jf_X9_isFull K X F hr)
theorem jf_X9_put {κ : JK} (K : jOk 4 cX9_put RX9 none 1 κ) (X : JX) (v1 : Int32) (v2 : Int32) (v3 : Int32) {r : JX} (F : jFin LX false (oU r) κ) (hr : f_X9_put X v1 v2 v3 = some r) : J LX 4 κ X 0 [(0, .ref (jad κ (1))), (1, .int v1), (2, .int v2), (3, .int v3)] [] := by
  unfold f_X9_put at hr
  refine j_aload_n K dX9_put_0 0 rfl ?_
  refine j_iload_n K dX9_put_1 1 rfl ?_
  refine j_vI1 K (ci := 9) hr (fun v h => c_X9_isThere X v1 h) ml_X9_54 ⟨_, rfl, rfl⟩ rfl (Nat.le_of_ble_eq_true rfl) (by decide) rfl (by decide) (by decide) (Nat.le_of_ble_eq_true rfl) dX9_put_2 (fun t1 h hr => ?_)
  refine j_if_eq K dX9_put_5 (tgt := 22) (by decide) hr (fun hr => ?_) (fun hr => ?_)
  · exact j_return K dX9_put_22 rfl F hr rfl
  · refine j_aload_n K dX9_put_8 0 rfl ?_
    refine j_get K (v := .ref (jad κ (2))) fl_X9_9 rfl (Nat.le_of_ble_eq_true rfl) (by decide) rfl dX9_put_9 ?_
    refine j_iload_n K dX9_put_12 1 rfl ?_
    refine j_iload_n K dX9_put_13 2 rfl ?_
    refine j_iastoreV K (z := 60) rfl (Nat.le_of_ble_eq_true rfl) dX9_put_14 hr (fun X2 hr => ?_)
    refine j_aload_n K dX9_put_15 0 rfl ?_
    refine j_get K (v := .ref (jad κ (3))) fl_X9_15 rfl (Nat.le_of_ble_eq_true rfl) (by decide) rfl dX9_put_16 ?_
    refine j_iload_n K dX9_put_19 1 rfl ?_
    refine j_iload_n K dX9_put_20 3 rfl ?_
    refine j_castoreV K (z := 60) rfl (Nat.le_of_ble_eq_true rfl) dX9_put_21 hr (fun X3 hr => ?_)
    exact j_return K dX9_put_22 rfl F hr rfl
theorem c_X9_put (X : JX) (v1 : Int32) (v2 : Int32) (v3 : Int32) {r : JX} (hr : f_X9_put X v1 v2 v3 = some r) : Cal LX yX9_put cX9_put 4 none 1 (fun ad => [.ref (ad (1)), .int v1, .int v2, .int v3]) X (fun ad => oU r) :=
  Cal.of (own := RX9) (fun ad => [(0, .ref (ad (1))), (1, .int v1), (2, .int v2), (3, .int v3)]) (by decide) rfl (fun _ => Nat.le_of_ble_eq_true rfl) (fun _ => rfl) (fun κ K F => jf_X9_put K X v1 v2 v3 F hr)
theorem jf_X9_setLocked {κ : JK} (K : jOk 3 cX9_setLocked RX9 none 1 κ) (X : JX) (v1 : Int32) (v2 : Int32) {r : JX} (F : jFin LX false (oU r) κ) (hr : f_X9_setLocked X v1 v2 = some r) : J LX 3 κ X 0 [(0, .ref (jad κ (1))), (1, .int v1), (2, .int v2)] [] := by
  unfold f_X9_setLocked at hr
  refine j_aload_n K dX9_setLocked_0 0 rfl ?_
  refine j_iload_n K dX9_setLocked_1 1 rfl ?_
  refine j_vI1 K (ci := 9) hr (fun v h => c_X9_isFile X v1 h) ml_X9_61 ⟨_, rfl, rfl⟩ rfl (Nat.le_of_ble_eq_true rfl) (by decide) rfl (by decide) (by decide) (Nat.le_of_ble_eq_true rfl) dX9_setLocked_2 (fun t1 h hr => ?_)
  refine j_if_eq K dX9_setLocked_5 (tgt := 15) (by decide) hr (fun hr => ?_) (fun hr => ?_)
  · exact j_return K dX9_setLocked_15 rfl F hr rfl
  · refine j_aload_n K dX9_setLocked_8 0 rfl ?_
    refine j_get K (v := .ref (jad κ (6))) fl_X9_26 rfl (Nat.le_of_ble_eq_true rfl) (by decide) rfl dX9_setLocked_9 ?_
    refine j_iload_n K dX9_setLocked_12 1 rfl ?_
    refine j_iload_n K dX9_setLocked_13 2 rfl ?_
    refine j_bastoreV K (z := 60) rfl (Nat.le_of_ble_eq_true rfl) dX9_setLocked_14 hr (fun X2 hr => ?_)
    exact j_return K dX9_setLocked_15 rfl F hr rfl
theorem c_X9_setLocked (X : JX) (v1 : Int32) (v2 : Int32) {r : JX} (hr : f_X9_setLocked X v1 v2 = some r) : Cal LX yX9_setLocked cX9_setLocked 3 none 1 (fun ad => [.ref (ad (1)), .int v1, .int v2]) X (fun ad => oU r) :=
  Cal.of (own := RX9) (fun ad => [(0, .ref (ad (1))), (1, .int v1), (2, .int v2)]) (by decide) rfl (fun _ => Nat.le_of_ble_eq_true rfl) (fun _ => rfl) (fun κ K F => jf_X9_setLocked K X v1 v2 F hr)
theorem jf_X9_setPeople {κ : JK} (K : jOk 3 cX9_setPeople RX9 none 1 κ) (X : JX) (v1 : Int32) (v2 : Int32) {r : JX} (F : jFin LX false (oU r) κ) (hr : f_X9_setPeople X v1 v2 = some r) : J LX 3 κ X 0 [(0, .ref (jad κ (1))), (1, .int v1), (2, .int v2)] [] := by
  unfold f_X9_setPeople at hr
  refine j_aload_n K dX9_setPeople_0 0 rfl ?_
  refine j_iload_n K dX9_setPeople_1 1 rfl ?_
  refine j_vI1 K (ci := 9) hr (fun v h => c_X9_isThere X v1 h) ml_X9_54 ⟨_, rfl, rfl⟩ rfl (Nat.le_of_ble_eq_true rfl) (by decide) rfl (by decide) (by decide) (Nat.le_of_ble_eq_true rfl) dX9_setPeople_2 (fun t1 h hr => ?_)
  refine j_if_eq K dX9_setPeople_5 (tgt := 15) (by decide) hr (fun hr => ?_) (fun hr => ?_)
  · exact j_return K dX9_setPeople_15 rfl F hr rfl
  · refine j_aload_n K dX9_setPeople_8 0 rfl ?_
    refine j_get K (v := .ref (jad κ (7))) fl_X9_29 rfl (Nat.le_of_ble_eq_true rfl) (by decide) rfl dX9_setPeople_9 ?_
    refine j_iload_n K dX9_setPeople_12 1 rfl ?_
    refine j_iload_n K dX9_setPeople_13 2 rfl ?_
    refine j_iastoreV K (z := 60) rfl (Nat.le_of_ble_eq_true rfl) dX9_setPeople_14 hr (fun X2 hr => ?_)
    exact j_return K dX9_setPeople_15 rfl F hr rfl
theorem c_X9_setPeople (X : JX) (v1 : Int32) (v2 : Int32) {r : JX} (hr : f_X9_setPeople X v1 v2 = some r) : Cal LX yX9_setPeople cX9_setPeople 3 none 1 (fun ad => [.ref (ad (1)), .int v1, .int v2]) X (fun ad => oU r) :=
  Cal.of (own := RX9) (fun ad => [(0, .ref (ad (1))), (1, .int v1), (2, .int v2)]) (by decide) rfl (fun _ => Nat.le_of_ble_eq_true rfl) (fun _ => rfl) (fun κ K F => jf_X9_setPeople K X v1 v2 F hr)
theorem jb_X9_takeAway_73 {κ : JK} (K : jOk 4 cX9_takeAway RX9 (some .int) 2 κ) (X : JX) (v2 : Int32) (v3 : Int32) {r : (Int32 × JX)} (F : jFin LX false (oM r) κ) (rec51 : JX → Int32 → Option (Int32 × JX)) (hrec51 : ∀ (X : JX) (v3 : Int32), rec51 X v3 = some r → J LX 4 κ X 51 [(0, .ref (jad κ (1))), (2, .int v2), (3, .int v3)] []) (hr : b_X9_takeAway_73 rec51 X v2 v3 = some r) : J LX 4 κ X 73 [(0, .ref (jad κ (1))), (2, .int v2), (3, .int v3)] [] := by
  unfold b_X9_takeAway_73 at hr
  refine j_iincV K dX9_takeAway_73 (v := 1) 2 rfl rfl (by decide) hr (fun t6 hr => ?_)
  refine j_goto K dX9_takeAway_76 (tgt := 51) (by decide) ?_
  exact j_sub [1, 2, 0] rfl (hrec51 _ _ hr)
theorem jl_X9_takeAway_51 {κ : JK} (K : jOk 4 cX9_takeAway RX9 (some .int) 2 κ) (v2 : Int32) {r : (Int32 × JX)} (F : jFin LX false (oM r) κ) : ∀ (X : JX) (v3 : Int32), l_X9_takeAway_51 v2 X v3 = some r → J LX 4 κ X 51 [(0, .ref (jad κ (1))), (2, .int v2), (3, .int v3)] [] := by
  refine j_loop2 (P := fun X v3 => J LX 4 κ X 51 [(0, .ref (jad κ (1))), (2, .int v2), (3, .int v3)] []) (fun rec51 hrec51 X v3 hr => ?_) 1000
  unfold lb_X9_takeAway_51 at hr
  refine j_iload_n K dX9_takeAway_51 2 rfl ?_
  refine j_bipush K dX9_takeAway_52 (v := 60) rfl ?_
  refine j_icmp_ge K dX9_takeAway_54 (tgt := 79) (by decide) hr (fun hr => ?_) (fun hr => ?_)
  · refine j_iload_n K dX9_takeAway_79 1 rfl ?_
    exact j_ireturn K dX9_takeAway_80 rfl F hr rfl
  · refine j_aload_n K dX9_takeAway_57 0 rfl ?_
    refine j_get K (v := .ref (jad κ (5))) fl_X9_23 rfl (Nat.le_of_ble_eq_true rfl) (by decide) rfl dX9_takeAway_58 ?_
    refine j_iload_n K dX9_takeAway_61 2 rfl ?_
    refine j_baload K (z := 60) rfl (Nat.le_of_ble_eq_true rfl) dX9_takeAway_62 hr (fun hr => ?_)
    refine j_if_ne K dX9_takeAway_63 (tgt := 73) (by decide) hr (fun hr => ?_) (fun hr => ?_)
    · exact j_sub [0, 1, 2] rfl (jb_X9_takeAway_73 K _ _ _ F rec51 hrec51 hr)
    · refine j_aload_n K dX9_takeAway_66 0 rfl ?_
      refine j_get K (v := .ref (jad κ (2))) fl_X9_9 rfl (Nat.le_of_ble_eq_true rfl) (by decide) rfl dX9_takeAway_67 ?_
      refine j_iload_n K dX9_takeAway_70 2 rfl ?_
      refine j_iconst K dX9_takeAway_71 (v := -1) rfl ?_
      refine j_iastoreV K (z := 60) rfl (Nat.le_of_ble_eq_true rfl) dX9_takeAway_72 hr (fun X2 hr => ?_)
      exact j_sub [0, 1, 2] rfl (jb_X9_takeAway_73 K _ _ _ F rec51 hrec51 hr)
theorem jb_X9_takeAway_43 {κ : JK} (K : jOk 4 cX9_takeAway RX9 (some .int) 2 κ) (X : JX) (v1 : Int32) (v2 : Int32) (v3 : Int32) {r : (Int32 × JX)} (F : jFin LX false (oM r) κ) (rec4 : JX → Int32 → Int32 → Option (Int32 × JX)) (hrec4 : ∀ (X : JX) (v2 : Int32) (v3 : Int32), rec4 X v2 v3 = some r → J LX 4 κ X 4 [(0, .ref (jad κ (1))), (1, .int v1), (2, .int v2), (3, .int v3)] []) (hr : b_X9_takeAway_43 rec4 X v1 v2 v3 = some r) : J LX 4 κ X 43 [(0, .ref (jad κ (1))), (1, .int v1), (2, .int v2), (3, .int v3)] [] := by
  unfold b_X9_takeAway_43 at hr
  refine j_iincV K dX9_takeAway_43 (v := 1) 3 rfl rfl (by decide) hr (fun t3 hr => ?_)
  refine j_goto K dX9_takeAway_46 (tgt := 4) (by decide) ?_
  exact j_sub [1, 2, 3, 0] rfl (hrec4 _ _ _ hr)
theorem jb_X9_takeAway_33 {κ : JK} (K : jOk 4 cX9_takeAway RX9 (some .int) 2 κ) (X : JX) (v1 : Int32) (v2 : Int32) (v3 : Int32) {r : (Int32 × JX)} (F : jFin LX false (oM r) κ) (rec4 : JX → Int32 → Int32 → Option (Int32 × JX)) (hrec4 : ∀ (X : JX) (v2 : Int32) (v3 : Int32), rec4 X v2 v3 = some r → J LX 4 κ X 4 [(0, .ref (jad κ (1))), (1, .int v1), (2, .int v2), (3, .int v3)] []) (hr : b_X9_takeAway_33 rec4 X v1 v2 v3 = some r) : J LX 4 κ X 33 [(0, .ref (jad κ (1))), (1, .int v1), (2, .int v2), (3, .int v3)] [] := by
  unfold b_X9_takeAway_33 at hr
  refine j_aload_n K dX9_takeAway_33 0 rfl ?_
  refine j_get K (v := .ref (jad κ (5))) fl_X9_23 rfl (Nat.le_of_ble_eq_true rfl) (by decide) rfl dX9_takeAway_34 ?_
  refine j_iload_n K dX9_takeAway_37 3 rfl ?_
  refine j_iconst K dX9_takeAway_38 (v := 0) rfl ?_
  refine j_bastoreV K (z := 60) rfl (Nat.le_of_ble_eq_true rfl) dX9_takeAway_39 hr (fun X4 hr => ?_)
  refine j_iincV K dX9_takeAway_40 (v := 1) 2 rfl rfl (by decide) hr (fun t5 hr => ?_)
  exact j_sub [1, 2, 0, 3] rfl (jb_X9_takeAway_43 K _ _ _ _ F rec4 hrec4 hr)
theorem jl_X9_takeAway_4 {κ : JK} (K : jOk 4 cX9_takeAway RX9 (some .int) 2 κ) (v1 : Int32) {r : (Int32 × JX)} (F : jFin LX false (oM r) κ) : ∀ (X : JX) (v2 : Int32) (v3 : Int32), l_X9_takeAway_4 v1 X v2 v3 = some r → J LX 4 κ X 4 [(0, .ref (jad κ (1))), (1, .int v1), (2, .int v2), (3, .int v3)] [] := by
  refine j_loop3 (P := fun X v2 v3 => J LX 4 κ X 4 [(0, .ref (jad κ (1))), (1, .int v1), (2, .int v2), (3, .int v3)] []) (fun rec4 hrec4 X v2 v3 hr => ?_) 1000
  unfold lb_X9_takeAway_4 at hr
  refine j_iload_n K dX9_takeAway_4 3 rfl ?_
  refine j_bipush K dX9_takeAway_5 (v := 60) rfl ?_
  refine j_icmp_ge K dX9_takeAway_7 (tgt := 49) (by decide) hr (fun hr => ?_) (fun hr => ?_)
  · refine j_iconst K dX9_takeAway_49 (v := 0) rfl ?_
    refine j_istore_n K dX9_takeAway_50 (by decide) ?_
    exact j_sub [1, 3, 0] rfl (jl_X9_takeAway_51 K _ F _ _ hr)
  · refine j_aload_n K dX9_takeAway_10 0 rfl ?_
    refine j_get K (v := .ref (jad κ (5))) fl_X9_23 rfl (Nat.le_of_ble_eq_true rfl) (by decide) rfl dX9_takeAway_11 ?_
    refine j_iload_n K dX9_takeAway_14 3 rfl ?_
    refine j_baload K (z := 60) rfl (Nat.le_of_ble_eq_true rfl) dX9_takeAway_15 hr (fun hr => ?_)
    refine j_if_eq K dX9_takeAway_16 (tgt := 43) (by decide) hr (fun hr => ?_) (fun hr => ?_)
    · exact j_sub [0, 1, 2, 3] rfl (jb_X9_takeAway_43 K _ _ _ _ F rec4 hrec4 hr)
    · refine j_iload_n K dX9_takeAway_19 3 rfl ?_
      refine j_iload_n K dX9_takeAway_20 1 rfl ?_
      refine j_icmp_eq K dX9_takeAway_21 (tgt := 33) (by decide) hr (fun hr => ?_) (fun hr => ?_)
      · exact j_sub [0, 1, 2, 3] rfl (jb_X9_takeAway_33 K _ _ _ _ F rec4 hrec4 hr)
      · refine j_aload_n K dX9_takeAway_24 0 rfl ?_
        refine j_iload_n K dX9_takeAway_25 3 rfl ?_
        refine j_iload_n K dX9_takeAway_26 1 rfl ?_
        refine j_vI2 K (ci := 9) hr (fun v h => c_X9_isBelow X v3 v1 h) ml_X9_64 ⟨_, rfl, rfl⟩ rfl (Nat.le_of_ble_eq_true rfl) (by decide) rfl (by decide) (by decide) (Nat.le_of_ble_eq_true rfl) dX9_takeAway_27 (fun t1 h hr => ?_)
        refine j_if_eq K dX9_takeAway_30 (tgt := 43) (by decide) hr (fun hr => ?_) (fun hr => ?_)
        · exact j_sub [0, 1, 2, 3] rfl (jb_X9_takeAway_43 K _ _ _ _ F rec4 hrec4 hr)
        · exact j_sub [0, 1, 2, 3] rfl (jb_X9_takeAway_33 K _ _ _ _ F rec4 hrec4 hr)
theorem jf_X9_takeAway {κ : JK} (K : jOk 4 cX9_takeAway RX9 (some .int) 2 κ) (X : JX) (v1 : Int32) {r : (Int32 × JX)} (F : jFin LX false (oM r) κ) (hr : f_X9_takeAway X v1 = some r) : J LX 4 κ X 0 [(0, .ref (jad κ (1))), (1, .int v1)] [] := by
  unfold f_X9_takeAway at hr
  refine j_iconst K dX9_takeAway_0 (v := 0) rfl ?_
  refine j_istore_n K dX9_takeAway_1 (by decide) ?_
  refine j_iconst K dX9_takeAway_2 (v := 0) rfl ?_
  refine j_istore_n K dX9_takeAway_3 (by decide) ?_
  exact j_sub [2, 3, 1, 0] rfl (jl_X9_takeAway_4 K _ F _ _ _ hr)
theorem c_X9_takeAway (X : JX) (v1 : Int32) {r : (Int32 × JX)} (hr : f_X9_takeAway X v1 = some r) : Cal LX yX9_takeAway cX9_takeAway 4 (some .int) 2 (fun ad => [.ref (ad (1)), .int v1]) X (fun ad => oM r) :=
  Cal.of (own := RX9) (fun ad => [(0, .ref (ad (1))), (1, .int v1)]) (by decide) rfl (fun _ => Nat.le_of_ble_eq_true rfl) (fun _ => rfl) (fun κ K F => jf_X9_takeAway K X v1 F hr)
theorem jf_X9_wasMade {κ : JK} (K : jOk 2 cX9_wasMade RX9 (some .boolean) 0 κ) (X : JX) (v1 : Int32) {r : Int32} (F : jFin LX false (oI X r) κ) (hr : f_X9_wasMade X v1 = some r) : J LX 2 κ X 0 [(0, .ref (jad κ (1))), (1, .int v1)] [] := by
  unfold f_X9_wasMade at hr
  refine j_iload_n K dX9_wasMade_0 1 rfl ?_
  refine j_if_lt K dX9_wasMade_1 (tgt := 16) (by decide) hr (fun hr => ?_) (fun hr => ?_)
  · refine j_iconst K dX9_wasMade_16 (v := 0) rfl ?_
    exact j_zreturn K dX9_wasMade_17 rfl rfl F hr rfl
  · refine j_iload_n K dX9_wasMade_4 1 rfl ?_
    refine j_aload_n K dX9_wasMade_5 0 rfl ?_
    refine j_get K (v := .int (X (1) 9)) fl_X9_43 rfl (Nat.le_of_ble_eq_true rfl) (by decide) rfl dX9_wasMade_6 ?_
    refine j_icmp_ge K dX9_wasMade_9 (tgt := 16) (by decide) hr (fun hr => ?_) (fun hr => ?_)
    · refine j_iconst K dX9_wasMade_16 (v := 0) rfl ?_
      exact j_zreturn K dX9_wasMade_17 rfl rfl F hr rfl
    · refine j_iconst K dX9_wasMade_12 (v := 1) rfl ?_
      refine j_goto K dX9_wasMade_13 (tgt := 17) (by decide) ?_
      exact j_zreturn K dX9_wasMade_17 rfl rfl F hr rfl
theorem c_X9_wasMade (X : JX) (v1 : Int32) {r : Int32} (hr : f_X9_wasMade X v1 = some r) : Cal LX yX9_wasMade cX9_wasMade 2 (some .boolean) 0 (fun ad => [.ref (ad (1)), .int v1]) X (fun ad => oI X r) :=
  Cal.of (own := RX9) (fun ad => [(0, .ref (ad (1))), (1, .int v1)]) (by decide) rfl (fun _ => Nat.le_of_ble_eq_true rfl) (fun _ => rfl) (fun κ K F => jf_X9_wasMade K X v1 F hr)

theorem jf_X10_acts {κ : JK} (K : jOk 1 cX10_acts RX10 (some .int) 2 κ) (X : JX) {r : Int32} (F : jFin LX false (oI X r) κ) (hr : f_X10_acts X = some r) : J LX 1 κ X 0 [(0, .ref (jad κ (0)))] [] := by
  unfold f_X10_acts at hr
  refine j_aload_n K dX10_acts_0 0 rfl ?_
  refine j_get K (v := .ref (jad κ (44))) fl_X10_46 rfl (Nat.le_of_ble_eq_true rfl) (by decide) rfl dX10_acts_1 ?_
  refine j_vI0 K (ci := 4) hr (fun v h => c_X4_countActs X h) ml_X10_274 ⟨_, rfl, rfl⟩ rfl (Nat.le_of_ble_eq_true rfl) (by decide) rfl (by decide) (by decide) (Nat.le_of_ble_eq_true rfl) dX10_acts_4 (fun t1 h hr => ?_)
  exact j_ireturn K dX10_acts_7 rfl F hr rfl
theorem c_X10_acts (X : JX) {r : Int32} (hr : f_X10_acts X = some r) : Cal LX yX10_acts cX10_acts 1 (some .int) 2 (fun ad => [.ref (ad (0))]) X (fun ad => oI X r) :=
  Cal.of (own := RX10) (fun ad => [(0, .ref (ad (0)))]) (by decide) rfl (fun _ => Nat.le_of_ble_eq_true rfl) (fun _ => rfl) (fun κ K F => jf_X10_acts K X F hr)
theorem jf_X10_isPerson {κ : JK} (K : jOk 1 cX10_isPerson RX10 (some .boolean) 0 κ) (X : JX) (v0 : Int32) {r : Int32} (F : jFin LX false (oI X r) κ) (hr : f_X10_isPerson X v0 = some r) : J LX 1 κ X 0 [(0, .int v0)] [] := by
  unfold f_X10_isPerson at hr
  refine j_iload_n K dX10_isPerson_0 0 rfl ?_
  refine j_if_lt K dX10_isPerson_1 (tgt := 13) (by decide) hr (fun hr => ?_) (fun hr => ?_)
  · refine j_iconst K dX10_isPerson_13 (v := 0) rfl ?_
    exact j_zreturn K dX10_isPerson_14 rfl rfl F hr rfl
  · refine j_iload_n K dX10_isPerson_4 0 rfl ?_
    refine j_iconst K dX10_isPerson_5 (v := 4) rfl ?_
    refine j_icmp_ge K dX10_isPerson_6 (tgt := 13) (by decide) hr (fun hr => ?_) (fun hr => ?_)
    · refine j_iconst K dX10_isPerson_13 (v := 0) rfl ?_
      exact j_zreturn K dX10_isPerson_14 rfl rfl F hr rfl
    · refine j_iconst K dX10_isPerson_9 (v := 1) rfl ?_
      refine j_goto K dX10_isPerson_10 (tgt := 14) (by decide) ?_
      exact j_zreturn K dX10_isPerson_14 rfl rfl F hr rfl
theorem c_X10_isPerson (X : JX) (v0 : Int32) {r : Int32} (hr : f_X10_isPerson X v0 = some r) : Cal LX yX10_isPerson cX10_isPerson 1 (some .boolean) 0 (fun ad => [.int v0]) X (fun ad => oI X r) :=
  Cal.of (own := RX10) (fun ad => [(0, .int v0)]) (by decide) rfl (fun _ => Nat.le_of_ble_eq_true rfl) (fun _ => rfl) (fun κ K F => jf_X10_isPerson K X v0 F hr)
theorem jf_X10_isWord {κ : JK} (K : jOk 1 cX10_isWord RX10 (some .boolean) 0 κ) (X : JX) (v0 : Int32) {r : Int32} (F : jFin LX false (oI X r) κ) (hr : f_X10_isWord X v0 = some r) : J LX 1 κ X 0 [(0, .int v0)] [] := by
  unfold f_X10_isWord at hr
  refine j_iload_n K dX10_isWord_0 0 rfl ?_
  refine j_if_lt K dX10_isWord_1 (tgt := 14) (by decide) hr (fun hr => ?_) (fun hr => ?_)
  · refine j_iconst K dX10_isWord_14 (v := 0) rfl ?_
    exact j_zreturn K dX10_isWord_15 rfl rfl F hr rfl
  · refine j_iload_n K dX10_isWord_4 0 rfl ?_
    refine j_bipush K dX10_isWord_5 (v := 99) rfl ?_
    refine j_icmp_gt K dX10_isWord_7 (tgt := 14) (by decide) hr (fun hr => ?_) (fun hr => ?_)
    · refine j_iconst K dX10_isWord_14 (v := 0) rfl ?_
      exact j_zreturn K dX10_isWord_15 rfl rfl F hr rfl
    · refine j_iconst K dX10_isWord_10 (v := 1) rfl ?_
      refine j_goto K dX10_isWord_11 (tgt := 15) (by decide) ?_
      exact j_zreturn K dX10_isWord_15 rfl rfl F hr rfl
theorem c_X10_isWord (X : JX) (v0 : Int32) {r : Int32} (hr : f_X10_isWord X v0 = some r) : Cal LX yX10_isWord cX10_isWord 1 (some .boolean) 0 (fun ad => [.int v0]) X (fun ad => oI X r) :=
  Cal.of (own := RX10) (fun ad => [(0, .int v0)]) (by decide) rfl (fun _ => Nat.le_of_ble_eq_true rfl) (fun _ => rfl) (fun κ K F => jf_X10_isWord K X v0 F hr)
theorem jb_X10_isWordOrNone_12 {κ : JK} (K : jOk 1 cX10_isWordOrNone RX10 (some .boolean) 1 κ) (X : JX) {r : Int32} (F : jFin LX false (oI X r) κ) (hr : b_X10_isWordOrNone_12 X = some r) : J LX 1 κ X 12 [] [] := by
  unfold b_X10_isWordOrNone_12 at hr
  refine j_iconst K dX10_isWordOrNone_12 (v := 1) rfl ?_
  refine j_goto K dX10_isWordOrNone_13 (tgt := 17) (by decide) ?_
  exact j_zreturn K dX10_isWordOrNone_17 rfl rfl F hr rfl
theorem jf_X10_isWordOrNone {κ : JK} (K : jOk 1 cX10_isWordOrNone RX10 (some .boolean) 1 κ) (X : JX) (v0 : Int32) {r : Int32} (F : jFin LX false (oI X r) κ) (hr : f_X10_isWordOrNone X v0 = some r) : J LX 1 κ X 0 [(0, .int v0)] [] := by
  unfold f_X10_isWordOrNone at hr
  refine j_iload_n K dX10_isWordOrNone_0 0 rfl ?_
  refine j_iconst K dX10_isWordOrNone_1 (v := -1) rfl ?_
  refine j_icmp_eq K dX10_isWordOrNone_2 (tgt := 12) (by decide) hr (fun hr => ?_) (fun hr => ?_)
  · exact j_sub [] rfl (jb_X10_isWordOrNone_12 K _ F hr)
  · refine j_iload_n K dX10_isWordOrNone_5 0 rfl ?_
    refine j_sI1 K hr (fun v h => c_X10_isWord X v0 h) ms_X10_103 rfl (by decide) (by decide) (Nat.le_of_ble_eq_true rfl) dX10_isWordOrNone_6 (fun t1 h hr => ?_)
    refine j_if_eq K dX10_isWordOrNone_9 (tgt := 16) (by decide) hr (fun hr => ?_) (fun hr => ?_)
    · refine j_iconst K dX10_isWordOrNone_16 (v := 0) rfl ?_
      exact j_zreturn K dX10_isWordOrNone_17 rfl rfl F hr rfl
    · exact j_sub [] rfl (jb_X10_isWordOrNone_12 K _ F hr)
theorem c_X10_isWordOrNone (X : JX) (v0 : Int32) {r : Int32} (hr : f_X10_isWordOrNone X v0 = some r) : Cal LX yX10_isWordOrNone cX10_isWordOrNone 1 (some .boolean) 1 (fun ad => [.int v0]) X (fun ad => oI X r) :=
  Cal.of (own := RX10) (fun ad => [(0, .int v0)]) (by decide) rfl (fun _ => Nat.le_of_ble_eq_true rfl) (fun _ => rfl) (fun κ K F => jf_X10_isWordOrNone K X v0 F hr)
theorem jb_X10_answer_32 {κ : JK} (K : jOk 6 cX10_answer RX10 (some .int) 6 κ) (X : JX) {r : (Option Nat × Int32 × JX)} (F : jFin LX true (oT r) κ) (hr : b_X10_answer_32 X = some r) : J LX 6 κ X 32 [] [] := by
  unfold b_X10_answer_32 at hr
  exact j_throwW K (is := 305) th_72_76 st_305 rfl dX10_answer_32 dX10_answer_35 dX10_answer_36 dX10_answer_39 dX10_answer_42 (Nat.le_of_ble_eq_true rfl) (by decide) F hr rfl
theorem jf_X10_answer {κ : JK} (K : jOk 6 cX10_answer RX10 (some .int) 6 κ) (X : JX) (v1 : Int32) (v2 : Int32) (v3 : Int32) (v4 : Int32) {r : (Option Nat × Int32 × JX)} (F : jFin LX true (oT r) κ) (hr : f_X10_answer X v1 v2 v3 v4 = some r) : J LX 6 κ X 0 [(0, .ref (jad κ (0))), (1, .int v1), (2, .int v2), (3, .int v3), (4, .int v4)] [] := by
  unfold f_X10_answer at hr
  refine j_iload_n K dX10_answer_0 1 rfl ?_
  refine j_sI1 K hr (fun v h => c_X10_isPerson X v1 h) ms_X10_189 rfl (by decide) (by decide) (Nat.le_of_ble_eq_true rfl) dX10_answer_1 (fun t1 h hr => ?_)
  refine j_if_ne K dX10_answer_4 (tgt := 18) (by decide) hr (fun hr => ?_) (fun hr => ?_)
  · refine j_iload_n K dX10_answer_18 2 rfl ?_
    refine j_sI1 K hr (fun v h => c_X10_isWord X v2 h) ms_X10_103 rfl (by decide) (by decide) (Nat.le_of_ble_eq_true rfl) dX10_answer_19 (fun t2 h hr => ?_)
    refine j_if_eq K dX10_answer_22 (tgt := 32) (by decide) hr (fun hr => ?_) (fun hr => ?_)
    · exact j_sub [] rfl (jb_X10_answer_32 K _ F hr)
    · refine j_iload_n K dX10_answer_25 3 rfl ?_
      refine j_sI1 K hr (fun v h => c_X10_isWordOrNone X v3 h) ms_X10_302 rfl (by decide) (by decide) (Nat.le_of_ble_eq_true rfl) dX10_answer_26 (fun t3 h hr => ?_)
      refine j_if_ne K dX10_answer_29 (tgt := 43) (by decide) hr (fun hr => ?_) (fun hr => ?_)
      · refine j_aload_n K dX10_answer_43 0 rfl ?_
        refine j_get K (v := .ref (jad κ (53))) fl_X10_53 rfl (Nat.le_of_ble_eq_true rfl) (by decide) rfl dX10_answer_44 ?_
        refine j_iload_n K dX10_answer_47 1 rfl ?_
        refine j_iload_n K dX10_answer_48 2 rfl ?_
        refine j_iload_n K dX10_answer_49 3 rfl ?_
        refine j_iload K dX10_answer_50 4 rfl ?_
        refine j_vM4 K (ci := 5) hr (fun v h => c_X5_fileAt X v1 v2 v3 v4 h) ml_X10_315 ⟨_, rfl, rfl⟩ rfl (Nat.le_of_ble_eq_true rfl) (by decide) rfl (by decide) (by decide) (Nat.le_of_ble_eq_true rfl) dX10_answer_52 (fun t4 h hr => ?_)
        refine j_istore K dX10_answer_55 (by decide) ?_
        refine j_iload K dX10_answer_57 0 rfl ?_
        refine j_iconst K dX10_answer_59 (v := -1) rfl ?_
        refine j_icmp_ne K dX10_answer_60 (tgt := 74) (by decide) hr (fun hr => ?_) (fun hr => ?_)
        · refine j_iload K dX10_answer_74 0 rfl ?_
          exact j_ireturn K dX10_answer_76 rfl F hr rfl
        · exact j_throwW K (is := 318) th_61_65 st_318 rfl dX10_answer_63 dX10_answer_66 dX10_answer_67 dX10_answer_70 dX10_answer_73 (Nat.le_of_ble_eq_true rfl) (by decide) F hr rfl
      · exact j_sub [] rfl (jb_X10_answer_32 K _ F hr)
  · exact j_throwW K (is := 313) th_61_65 st_313 rfl dX10_answer_7 dX10_answer_10 dX10_answer_11 dX10_answer_14 dX10_answer_17 (Nat.le_of_ble_eq_true rfl) (by decide) F hr rfl
theorem c_X10_answer (X : JX) (v1 : Int32) (v2 : Int32) (v3 : Int32) (v4 : Int32) {r : (Option Nat × Int32 × JX)} (hr : f_X10_answer X v1 v2 v3 v4 = some r) : CalX LX yX10_answer cX10_answer 6 (some .int) 6 (fun ad => [.ref (ad (0)), .int v1, .int v2, .int v3, .int v4]) X (fun ad => oT r) :=
  CalX.of (own := RX10) (fun ad => [(0, .ref (ad (0))), (1, .int v1), (2, .int v2), (3, .int v3), (4, .int v4)]) (by decide) rfl (fun _ => Nat.le_of_ble_eq_true rfl) (fun _ => rfl) (fun κ K F => jf_X10_answer K X v1 v2 v3 v4 F hr)
theorem jb_X10_isMadeOrNone_16 {κ : JK} (K : jOk 2 cX10_isMadeOrNone RX10 (some .boolean) 1 κ) (X : JX) {r : Int32} (F : jFin LX false (oI X r) κ) (hr : b_X10_isMadeOrNone_16 X = some r) : J LX 2 κ X 16 [] [] := by
  unfold b_X10_isMadeOrNone_16 at hr
  refine j_iconst K dX10_isMadeOrNone_16 (v := 1) rfl ?_
  refine j_goto K dX10_isMadeOrNone_17 (tgt := 21) (by decide) ?_
  exact j_zreturn K dX10_isMadeOrNone_21 rfl rfl F hr rfl
theorem jf_X10_isMadeOrNone {κ : JK} (K : jOk 2 cX10_isMadeOrNone RX10 (some .boolean) 1 κ) (X : JX) (v1 : Int32) {r : Int32} (F : jFin LX false (oI X r) κ) (hr : f_X10_isMadeOrNone X v1 = some r) : J LX 2 κ X 0 [(0, .ref (jad κ (0))), (1, .int v1)] [] := by
  unfold f_X10_isMadeOrNone at hr
  refine j_iload_n K dX10_isMadeOrNone_0 1 rfl ?_
  refine j_iconst K dX10_isMadeOrNone_1 (v := -1) rfl ?_
  refine j_icmp_eq K dX10_isMadeOrNone_2 (tgt := 16) (by decide) hr (fun hr => ?_) (fun hr => ?_)
  · exact j_sub [] rfl (jb_X10_isMadeOrNone_16 K _ F hr)
  · refine j_aload_n K dX10_isMadeOrNone_5 0 rfl ?_
    refine j_get K (v := .ref (jad κ (1))) fl_X10_10 rfl (Nat.le_of_ble_eq_true rfl) (by decide) rfl dX10_isMadeOrNone_6 ?_
    refine j_iload_n K dX10_isMadeOrNone_9 1 rfl ?_
    refine j_vI1 K (ci := 9) hr (fun v h => c_X9_wasMade X v1 h) ml_X10_282 ⟨_, rfl, rfl⟩ rfl (Nat.le_of_ble_eq_true rfl) (by decide) rfl (by decide) (by decide) (Nat.le_of_ble_eq_true rfl) dX10_isMadeOrNone_10 (fun t1 h hr => ?_)
    refine j_if_eq K dX10_isMadeOrNone_13 (tgt := 20) (by decide) hr (fun hr => ?_) (fun hr => ?_)
    · refine j_iconst K dX10_isMadeOrNone_20 (v := 0) rfl ?_
      exact j_zreturn K dX10_isMadeOrNone_21 rfl rfl F hr rfl
    · exact j_sub [] rfl (jb_X10_isMadeOrNone_16 K _ F hr)
theorem c_X10_isMadeOrNone (X : JX) (v1 : Int32) {r : Int32} (hr : f_X10_isMadeOrNone X v1 = some r) : Cal LX yX10_isMadeOrNone cX10_isMadeOrNone 2 (some .boolean) 1 (fun ad => [.ref (ad (0)), .int v1]) X (fun ad => oI X r) :=
  Cal.of (own := RX10) (fun ad => [(0, .ref (ad (0))), (1, .int v1)]) (by decide) rfl (fun _ => Nat.le_of_ble_eq_true rfl) (fun _ => rfl) (fun κ K F => jf_X10_isMadeOrNone K X v1 F hr)
theorem jb_X10_answers_16 {κ : JK} (K : jOk 5 cX10_answers RX10 (some .int) 6 κ) (X : JX) {r : (Option Nat × Int32 × JX)} (F : jFin LX true (oT r) κ) (hr : b_X10_answers_16 X = some r) : J LX 5 κ X 16 [] [] := by
  unfold b_X10_answers_16 at hr
  exact j_throwW K (is := 300) th_61_65 st_300 rfl dX10_answers_16 dX10_answers_19 dX10_answers_20 dX10_answers_23 dX10_answers_26 (Nat.le_of_ble_eq_true rfl) (by decide) F hr rfl
theorem jb_X10_answers_41 {κ : JK} (K : jOk 5 cX10_answers RX10 (some .int) 6 κ) (X : JX) {r : (Option Nat × Int32 × JX)} (F : jFin LX true (oT r) κ) (hr : b_X10_answers_41 X = some r) : J LX 5 κ X 41 [] [] := by
  unfold b_X10_answers_41 at hr
  exact j_throwW K (is := 305) th_72_76 st_305 rfl dX10_answers_41 dX10_answers_44 dX10_answers_45 dX10_answers_48 dX10_answers_51 (Nat.le_of_ble_eq_true rfl) (by decide) F hr rfl
theorem jf_X10_answers {κ : JK} (K : jOk 5 cX10_answers RX10 (some .int) 6 κ) (X : JX) (v1 : Int32) (v2 : Int32) (v3 : Int32) (v4 : Int32) {r : (Option Nat × Int32 × JX)} (F : jFin LX true (oT r) κ) (hr : f_X10_answers X v1 v2 v3 v4 = some r) : J LX 5 κ X 0 [(0, .ref (jad κ (0))), (1, .int v1), (2, .int v2), (3, .int v3), (4, .int v4)] [] := by
  unfold f_X10_answers at hr
  refine j_iload_n K dX10_answers_0 1 rfl ?_
  refine j_sI1 K hr (fun v h => c_X10_isPerson X v1 h) ms_X10_189 rfl (by decide) (by decide) (Nat.le_of_ble_eq_true rfl) dX10_answers_1 (fun t1 h hr => ?_)
  refine j_if_eq K dX10_answers_4 (tgt := 16) (by decide) hr (fun hr => ?_) (fun hr => ?_)
  · exact j_sub [] rfl (jb_X10_answers_16 K _ F hr)
  · refine j_aload_n K dX10_answers_7 0 rfl ?_
    refine j_iload K dX10_answers_8 4 rfl ?_
    refine j_vI1 K (ci := 10) hr (fun v h => c_X10_isMadeOrNone X v4 h) ml_X10_297 ⟨_, rfl, rfl⟩ rfl (Nat.le_of_ble_eq_true rfl) (by decide) rfl (by decide) (by decide) (Nat.le_of_ble_eq_true rfl) dX10_answers_10 (fun t2 h hr => ?_)
    refine j_if_ne K dX10_answers_13 (tgt := 27) (by decide) hr (fun hr => ?_) (fun hr => ?_)
    · refine j_iload_n K dX10_answers_27 2 rfl ?_
      refine j_sI1 K hr (fun v h => c_X10_isWord X v2 h) ms_X10_103 rfl (by decide) (by decide) (Nat.le_of_ble_eq_true rfl) dX10_answers_28 (fun t3 h hr => ?_)
      refine j_if_eq K dX10_answers_31 (tgt := 41) (by decide) hr (fun hr => ?_) (fun hr => ?_)
      · exact j_sub [] rfl (jb_X10_answers_41 K _ F hr)
      · refine j_iload_n K dX10_answers_34 3 rfl ?_
        refine j_sI1 K hr (fun v h => c_X10_isWordOrNone X v3 h) ms_X10_302 rfl (by decide) (by decide) (Nat.le_of_ble_eq_true rfl) dX10_answers_35 (fun t4 h hr => ?_)
        refine j_if_ne K dX10_answers_38 (tgt := 52) (by decide) hr (fun hr => ?_) (fun hr => ?_)
        · refine j_aload_n K dX10_answers_52 0 rfl ?_
          refine j_get K (v := .ref (jad κ (53))) fl_X10_53 rfl (Nat.le_of_ble_eq_true rfl) (by decide) rfl dX10_answers_53 ?_
          refine j_iload_n K dX10_answers_56 1 rfl ?_
          refine j_iload_n K dX10_answers_57 2 rfl ?_
          refine j_iload_n K dX10_answers_58 3 rfl ?_
          refine j_iload K dX10_answers_59 4 rfl ?_
          refine j_vI4 K (ci := 5) hr (fun v h => c_X5_count X v1 v2 v3 v4 h) ml_X10_307 ⟨_, rfl, rfl⟩ rfl (Nat.le_of_ble_eq_true rfl) (by decide) rfl (by decide) (by decide) (Nat.le_of_ble_eq_true rfl) dX10_answers_61 (fun t5 h hr => ?_)
          exact j_ireturn K dX10_answers_64 rfl F hr rfl
        · exact j_sub [] rfl (jb_X10_answers_41 K _ F hr)
    · exact j_sub [] rfl (jb_X10_answers_16 K _ F hr)
theorem c_X10_answers (X : JX) (v1 : Int32) (v2 : Int32) (v3 : Int32) (v4 : Int32) {r : (Option Nat × Int32 × JX)} (hr : f_X10_answers X v1 v2 v3 v4 = some r) : CalX LX yX10_answers cX10_answers 5 (some .int) 6 (fun ad => [.ref (ad (0)), .int v1, .int v2, .int v3, .int v4]) X (fun ad => oT r) :=
  CalX.of (own := RX10) (fun ad => [(0, .ref (ad (0))), (1, .int v1), (2, .int v2), (3, .int v3), (4, .int v4)]) (by decide) rfl (fun _ => Nat.le_of_ble_eq_true rfl) (fun _ => rfl) (fun κ K F => jf_X10_answers K X v1 v2 v3 v4 F hr)
theorem jb_X10_answersAnew_16 {κ : JK} (K : jOk 5 cX10_answersAnew RX10 (some .int) 6 κ) (X : JX) {r : (Option Nat × Int32 × JX)} (F : jFin LX true (oT r) κ) (hr : b_X10_answersAnew_16 X = some r) : J LX 5 κ X 16 [] [] := by
  unfold b_X10_answersAnew_16 at hr
  exact j_throwW K (is := 300) th_61_65 st_300 rfl dX10_answersAnew_16 dX10_answersAnew_19 dX10_answersAnew_20 dX10_answersAnew_23 dX10_answersAnew_26 (Nat.le_of_ble_eq_true rfl) (by decide) F hr rfl
theorem jb_X10_answersAnew_41 {κ : JK} (K : jOk 5 cX10_answersAnew RX10 (some .int) 6 κ) (X : JX) {r : (Option Nat × Int32 × JX)} (F : jFin LX true (oT r) κ) (hr : b_X10_answersAnew_41 X = some r) : J LX 5 κ X 41 [] [] := by
  unfold b_X10_answersAnew_41 at hr
  exact j_throwW K (is := 305) th_72_76 st_305 rfl dX10_answersAnew_41 dX10_answersAnew_44 dX10_answersAnew_45 dX10_answersAnew_48 dX10_answersAnew_51 (Nat.le_of_ble_eq_true rfl) (by decide) F hr rfl
theorem jf_X10_answersAnew {κ : JK} (K : jOk 5 cX10_answersAnew RX10 (some .int) 6 κ) (X : JX) (v1 : Int32) (v2 : Int32) (v3 : Int32) (v4 : Int32) {r : (Option Nat × Int32 × JX)} (F : jFin LX true (oT r) κ) (hr : f_X10_answersAnew X v1 v2 v3 v4 = some r) : J LX 5 κ X 0 [(0, .ref (jad κ (0))), (1, .int v1), (2, .int v2), (3, .int v3), (4, .int v4)] [] := by
  unfold f_X10_answersAnew at hr
  refine j_iload_n K dX10_answersAnew_0 1 rfl ?_
  refine j_sI1 K hr (fun v h => c_X10_isPerson X v1 h) ms_X10_189 rfl (by decide) (by decide) (Nat.le_of_ble_eq_true rfl) dX10_answersAnew_1 (fun t1 h hr => ?_)
  refine j_if_eq K dX10_answersAnew_4 (tgt := 16) (by decide) hr (fun hr => ?_) (fun hr => ?_)
  · exact j_sub [] rfl (jb_X10_answersAnew_16 K _ F hr)
  · refine j_aload_n K dX10_answersAnew_7 0 rfl ?_
    refine j_iload K dX10_answersAnew_8 4 rfl ?_
    refine j_vI1 K (ci := 10) hr (fun v h => c_X10_isMadeOrNone X v4 h) ml_X10_297 ⟨_, rfl, rfl⟩ rfl (Nat.le_of_ble_eq_true rfl) (by decide) rfl (by decide) (by decide) (Nat.le_of_ble_eq_true rfl) dX10_answersAnew_10 (fun t2 h hr => ?_)
    refine j_if_ne K dX10_answersAnew_13 (tgt := 27) (by decide) hr (fun hr => ?_) (fun hr => ?_)
    · refine j_iload_n K dX10_answersAnew_27 2 rfl ?_
      refine j_sI1 K hr (fun v h => c_X10_isWord X v2 h) ms_X10_103 rfl (by decide) (by decide) (Nat.le_of_ble_eq_true rfl) dX10_answersAnew_28 (fun t3 h hr => ?_)
      refine j_if_eq K dX10_answersAnew_31 (tgt := 41) (by decide) hr (fun hr => ?_) (fun hr => ?_)
      · exact j_sub [] rfl (jb_X10_answersAnew_41 K _ F hr)
      · refine j_iload_n K dX10_answersAnew_34 3 rfl ?_
        refine j_sI1 K hr (fun v h => c_X10_isWordOrNone X v3 h) ms_X10_302 rfl (by decide) (by decide) (Nat.le_of_ble_eq_true rfl) dX10_answersAnew_35 (fun t4 h hr => ?_)
        refine j_if_ne K dX10_answersAnew_38 (tgt := 52) (by decide) hr (fun hr => ?_) (fun hr => ?_)
        · refine j_aload_n K dX10_answersAnew_52 0 rfl ?_
          refine j_get K (v := .ref (jad κ (53))) fl_X10_53 rfl (Nat.le_of_ble_eq_true rfl) (by decide) rfl dX10_answersAnew_53 ?_
          refine j_iload_n K dX10_answersAnew_56 1 rfl ?_
          refine j_iload_n K dX10_answersAnew_57 2 rfl ?_
          refine j_iload_n K dX10_answersAnew_58 3 rfl ?_
          refine j_iload K dX10_answersAnew_59 4 rfl ?_
          refine j_vM4 K (ci := 5) hr (fun v h => c_X5_countAnew X v1 v2 v3 v4 h) ml_X10_310 ⟨_, rfl, rfl⟩ rfl (Nat.le_of_ble_eq_true rfl) (by decide) rfl (by decide) (by decide) (Nat.le_of_ble_eq_true rfl) dX10_answersAnew_61 (fun t5 h hr => ?_)
          exact j_ireturn K dX10_answersAnew_64 rfl F hr rfl
        · exact j_sub [] rfl (jb_X10_answersAnew_41 K _ F hr)
    · exact j_sub [] rfl (jb_X10_answersAnew_16 K _ F hr)
theorem c_X10_answersAnew (X : JX) (v1 : Int32) (v2 : Int32) (v3 : Int32) (v4 : Int32) {r : (Option Nat × Int32 × JX)} (hr : f_X10_answersAnew X v1 v2 v3 v4 = some r) : CalX LX yX10_answersAnew cX10_answersAnew 5 (some .int) 6 (fun ad => [.ref (ad (0)), .int v1, .int v2, .int v3, .int v4]) X (fun ad => oT r) :=
  CalX.of (own := RX10) (fun ad => [(0, .ref (ad (0))), (1, .int v1), (2, .int v2), (3, .int v3), (4, .int v4)]) (by decide) rfl (fun _ => Nat.le_of_ble_eq_true rfl) (fun _ => rfl) (fun κ K F => jf_X10_answersAnew K X v1 v2 v3 v4 F hr)
theorem jf_X10_battery {κ : JK} (K : jOk 3 cX10_battery RX10 (some .boolean) 0 κ) (X : JX) (v1 : Int32) {r : (Int32 × JX)} (F : jFin LX false (oM r) κ) (hr : f_X10_battery X v1 = some r) : J LX 3 κ X 0 [(0, .ref (jad κ (0))), (1, .int v1)] [] := by
  unfold f_X10_battery at hr
  refine j_aload_n K dX10_battery_0 0 rfl ?_
  refine j_get K (v := .int (X (0) 7)) fl_X10_245 rfl (Nat.le_of_ble_eq_true rfl) (by decide) rfl dX10_battery_1 ?_
  refine j_istoreV_n K dX10_battery_4 (by decide) hr (fun t1 hr => ?_)
  refine j_aload_n K dX10_battery_5 1 rfl ?_
  refine j_iload_n K dX10_battery_6 2 rfl ?_
  refine j_putzV K fp_X10_245 rfl (Nat.le_of_ble_eq_true rfl) (by decide) (fun _ => Nat.le_of_ble_eq_true rfl) (fun _ => rfl) dX10_battery_7 hr (fun X2 hr => ?_)
  refine j_iload_n K dX10_battery_10 0 rfl ?_
  exact j_guard hr (fun hz hr => j_zreturn K dX10_battery_11 rfl hz F hr rfl)
theorem c_X10_battery (X : JX) (v1 : Int32) {r : (Int32 × JX)} (hr : f_X10_battery X v1 = some r) : Cal LX yX10_battery cX10_battery 3 (some .boolean) 0 (fun ad => [.ref (ad (0)), .int v1]) X (fun ad => oM r) :=
  Cal.of (own := RX10) (fun ad => [(0, .ref (ad (0))), (1, .int v1)]) (by decide) rfl (fun _ => Nat.le_of_ble_eq_true rfl) (fun _ => rfl) (fun κ K F => jf_X10_battery K X v1 F hr)
theorem jf_X10_crawl {κ : JK} (K : jOk 3 cX10_crawl RX10 (some .int) 6 κ) (X : JX) (v1 : Int32) {r : (Option Nat × Int32 × JX)} (F : jFin LX true (oT r) κ) (hr : f_X10_crawl X v1 = some r) : J LX 3 κ X 0 [(0, .ref (jad κ (0))), (1, .int v1)] [] := by
  unfold f_X10_crawl at hr
  refine j_aload_n K dX10_crawl_0 0 rfl ?_
  refine j_get K (v := .ref (jad κ (11))) fl_X10_21 rfl (Nat.le_of_ble_eq_true rfl) (by decide) rfl dX10_crawl_1 ?_
  refine j_iload_n K dX10_crawl_4 1 rfl ?_
  refine j_vO1 K (ci := 8) hr (fun v h => c_X8_find X v1 h) ml_X10_201 ⟨_, rfl, rfl⟩ rfl (Nat.le_of_ble_eq_true rfl) (by decide) rfl (by decide) (by decide) (Nat.le_of_ble_eq_true rfl) dX10_crawl_5 (fun h hr => ?_) (fun q2 h hr => ?_)
  · refine j_astore_nN K dX10_crawl_8 (by decide) ?_
    refine j_aload_nN K dX10_crawl_9 0 rfl ?_
    refine j_ifnonnullN K dX10_crawl_10 ?_
    exact j_throw K (is := 215) th_61_65 st_215 rfl dX10_crawl_13 dX10_crawl_16 dX10_crawl_17 dX10_crawl_19 dX10_crawl_22 (Nat.le_of_ble_eq_true rfl) (by decide) F hr rfl
  · refine j_guard hr (fun hq2 hr => ?_)
    refine j_astore_n K dX10_crawl_8 (by decide) ?_
    refine j_aload_n K dX10_crawl_9 0 rfl ?_
    refine j_ifnonnull K dX10_crawl_10 (tgt := 23) (by decide) ?_
    refine j_aload_n K dX10_crawl_23 0 rfl ?_
    refine j_vU0 K (ci := 7) hr (fun v h => c_X7_beginCrawl X q2 hq2 h) ml_X10_268 ⟨_, rfl, rfl⟩ (rt0 hq2) (rt0l hq2) (by decide) rfl (by decide) (by decide) (Nat.le_of_ble_eq_true rfl) dX10_crawl_24 (fun X3 h hr => ?_)
    refine j_aload_n K dX10_crawl_27 1 rfl ?_
    refine j_get K (v := .ref (jad κ (11))) fl_X10_21 rfl (Nat.le_of_ble_eq_true rfl) (by decide) rfl dX10_crawl_28 ?_
    refine j_vI0 K (ci := 8) hr (fun v h => c_X8_countCrawls X3 h) ml_X10_271 ⟨_, rfl, rfl⟩ rfl (Nat.le_of_ble_eq_true rfl) (by decide) rfl (by decide) (by decide) (Nat.le_of_ble_eq_true rfl) dX10_crawl_31 (fun t4 h hr => ?_)
    exact j_ireturn K dX10_crawl_34 rfl F hr rfl
theorem c_X10_crawl (X : JX) (v1 : Int32) {r : (Option Nat × Int32 × JX)} (hr : f_X10_crawl X v1 = some r) : CalX LX yX10_crawl cX10_crawl 3 (some .int) 6 (fun ad => [.ref (ad (0)), .int v1]) X (fun ad => oT r) :=
  CalX.of (own := RX10) (fun ad => [(0, .ref (ad (0))), (1, .int v1)]) (by decide) rfl (fun _ => Nat.le_of_ble_eq_true rfl) (fun _ => rfl) (fun κ K F => jf_X10_crawl K X v1 F hr)
theorem jf_X10_dead {κ : JK} (K : jOk 1 cX10_dead RX10 (some .int) 2 κ) (X : JX) {r : Int32} (F : jFin LX false (oI X r) κ) (hr : f_X10_dead X = some r) : J LX 1 κ X 0 [(0, .ref (jad κ (0)))] [] := by
  unfold f_X10_dead at hr
  refine j_aload_n K dX10_dead_0 0 rfl ?_
  refine j_get K (v := .ref (jad κ (44))) fl_X10_46 rfl (Nat.le_of_ble_eq_true rfl) (by decide) rfl dX10_dead_1 ?_
  refine j_vI0 K (ci := 4) hr (fun v h => c_X4_countDead X h) ml_X10_294 ⟨_, rfl, rfl⟩ rfl (Nat.le_of_ble_eq_true rfl) (by decide) rfl (by decide) (by decide) (Nat.le_of_ble_eq_true rfl) dX10_dead_4 (fun t1 h hr => ?_)
  exact j_ireturn K dX10_dead_7 rfl F hr rfl
theorem c_X10_dead (X : JX) {r : Int32} (hr : f_X10_dead X = some r) : Cal LX yX10_dead cX10_dead 1 (some .int) 2 (fun ad => [.ref (ad (0))]) X (fun ad => oI X r) :=
  Cal.of (own := RX10) (fun ad => [(0, .ref (ad (0)))]) (by decide) rfl (fun _ => Nat.le_of_ble_eq_true rfl) (fun _ => rfl) (fun κ K F => jf_X10_dead K X F hr)
theorem jf_X10_entries {κ : JK} (K : jOk 1 cX10_entries RX10 (some .int) 1 κ) (X : JX) {r : Int32} (F : jFin LX false (oI X r) κ) (hr : f_X10_entries X = some r) : J LX 1 κ X 0 [(0, .ref (jad κ (0)))] [] := by
  unfold f_X10_entries at hr
  refine j_aload_n K dX10_entries_0 0 rfl ?_
  refine j_get K (v := .ref (jad κ (35))) fl_X10_37 rfl (Nat.le_of_ble_eq_true rfl) (by decide) rfl dX10_entries_1 ?_
  refine j_vI0 K (ci := 2) hr (fun v h => c_X2_count X h) ml_X10_281 ⟨_, rfl, rfl⟩ rfl (Nat.le_of_ble_eq_true rfl) (by decide) rfl (by decide) (by decide) (Nat.le_of_ble_eq_true rfl) dX10_entries_4 (fun t1 h hr => ?_)
  exact j_ireturn K dX10_entries_7 rfl F hr rfl
theorem c_X10_entries (X : JX) {r : Int32} (hr : f_X10_entries X = some r) : Cal LX yX10_entries cX10_entries 1 (some .int) 1 (fun ad => [.ref (ad (0))]) X (fun ad => oI X r) :=
  Cal.of (own := RX10) (fun ad => [(0, .ref (ad (0)))]) (by decide) rfl (fun _ => Nat.le_of_ble_eq_true rfl) (fun _ => rfl) (fun κ K F => jf_X10_entries K X F hr)
theorem jf_X10_isName {κ : JK} (K : jOk 1 cX10_isName RX10 (some .boolean) 0 κ) (X : JX) (v0 : Int32) {r : Int32} (F : jFin LX false (oI X r) κ) (hr : f_X10_isName X v0 = some r) : J LX 1 κ X 0 [(0, .int v0)] [] := by
  unfold f_X10_isName at hr
  refine j_iload_n K dX10_isName_0 0 rfl ?_
  refine j_bipush K dX10_isName_1 (v := 97) rfl ?_
  refine j_icmp_lt K dX10_isName_3 (tgt := 16) (by decide) hr (fun hr => ?_) (fun hr => ?_)
  · refine j_iconst K dX10_isName_16 (v := 0) rfl ?_
    exact j_zreturn K dX10_isName_17 rfl rfl F hr rfl
  · refine j_iload_n K dX10_isName_6 0 rfl ?_
    refine j_bipush K dX10_isName_7 (v := 122) rfl ?_
    refine j_icmp_gt K dX10_isName_9 (tgt := 16) (by decide) hr (fun hr => ?_) (fun hr => ?_)
    · refine j_iconst K dX10_isName_16 (v := 0) rfl ?_
      exact j_zreturn K dX10_isName_17 rfl rfl F hr rfl
    · refine j_iconst K dX10_isName_12 (v := 1) rfl ?_
      refine j_goto K dX10_isName_13 (tgt := 17) (by decide) ?_
      exact j_zreturn K dX10_isName_17 rfl rfl F hr rfl
theorem c_X10_isName (X : JX) (v0 : Int32) {r : Int32} (hr : f_X10_isName X v0 = some r) : Cal LX yX10_isName cX10_isName 1 (some .boolean) 0 (fun ad => [.int v0]) X (fun ad => oI X r) :=
  Cal.of (own := RX10) (fun ad => [(0, .int v0)]) (by decide) rfl (fun _ => Nat.le_of_ble_eq_true rfl) (fun _ => rfl) (fun κ K F => jf_X10_isName K X v0 F hr)
theorem jf_X10_isQuiet {κ : JK} (K : jOk 1 cX10_isQuiet RX10 (some .boolean) 2 κ) (X : JX) {r : Int32} (F : jFin LX false (oI X r) κ) (hr : f_X10_isQuiet X = some r) : J LX 1 κ X 0 [(0, .ref (jad κ (0)))] [] := by
  unfold f_X10_isQuiet at hr
  refine j_aload_n K dX10_isQuiet_0 0 rfl ?_
  refine j_get K (v := .ref (jad κ (11))) fl_X10_21 rfl (Nat.le_of_ble_eq_true rfl) (by decide) rfl dX10_isQuiet_1 ?_
  refine j_vO0 K (ci := 8) hr (fun v h => c_X8_firstNoisy X h) ml_X10_277 ⟨_, rfl, rfl⟩ rfl (Nat.le_of_ble_eq_true rfl) (by decide) rfl (by decide) (by decide) (Nat.le_of_ble_eq_true rfl) dX10_isQuiet_4 (fun h hr => ?_) (fun q2 h hr => ?_)
  · refine j_ifnonnullN K dX10_isQuiet_7 ?_
    refine j_aload_n K dX10_isQuiet_10 0 rfl ?_
    refine j_get K (v := .ref (jad κ (44))) fl_X10_46 rfl (Nat.le_of_ble_eq_true rfl) (by decide) rfl dX10_isQuiet_11 ?_
    refine j_vI0 K (ci := 4) hr (fun v h => c_X4_countActs X h) ml_X10_274 ⟨_, rfl, rfl⟩ rfl (Nat.le_of_ble_eq_true rfl) (by decide) rfl (by decide) (by decide) (Nat.le_of_ble_eq_true rfl) dX10_isQuiet_14 (fun t3 h hr => ?_)
    refine j_if_ne K dX10_isQuiet_17 (tgt := 34) (by decide) hr (fun hr => ?_) (fun hr => ?_)
    · refine j_iconst K dX10_isQuiet_34 (v := 0) rfl ?_
      exact j_zreturn K dX10_isQuiet_35 rfl rfl F hr rfl
    · refine j_aload_n K dX10_isQuiet_20 0 rfl ?_
      refine j_get K (v := .ref (jad κ (11))) fl_X10_21 rfl (Nat.le_of_ble_eq_true rfl) (by decide) rfl dX10_isQuiet_21 ?_
      refine j_vI0 K (ci := 8) hr (fun v h => c_X8_countCrawls X h) ml_X10_271 ⟨_, rfl, rfl⟩ rfl (Nat.le_of_ble_eq_true rfl) (by decide) rfl (by decide) (by decide) (Nat.le_of_ble_eq_true rfl) dX10_isQuiet_24 (fun t4 h hr => ?_)
      refine j_if_ne K dX10_isQuiet_27 (tgt := 34) (by decide) hr (fun hr => ?_) (fun hr => ?_)
      · refine j_iconst K dX10_isQuiet_34 (v := 0) rfl ?_
        exact j_zreturn K dX10_isQuiet_35 rfl rfl F hr rfl
      · refine j_iconst K dX10_isQuiet_30 (v := 1) rfl ?_
        refine j_goto K dX10_isQuiet_31 (tgt := 35) (by decide) ?_
        exact j_zreturn K dX10_isQuiet_35 rfl rfl F hr rfl
  · refine j_guard hr (fun hq2 hr => ?_)
    refine j_ifnonnull K dX10_isQuiet_7 (tgt := 34) (by decide) ?_
    refine j_iconst K dX10_isQuiet_34 (v := 0) rfl ?_
    exact j_zreturn K dX10_isQuiet_35 rfl rfl F hr rfl
theorem c_X10_isQuiet (X : JX) {r : Int32} (hr : f_X10_isQuiet X = some r) : Cal LX yX10_isQuiet cX10_isQuiet 1 (some .boolean) 2 (fun ad => [.ref (ad (0))]) X (fun ad => oI X r) :=
  Cal.of (own := RX10) (fun ad => [(0, .ref (ad (0)))]) (by decide) rfl (fun _ => Nat.le_of_ble_eq_true rfl) (fun _ => rfl) (fun κ K F => jf_X10_isQuiet K X F hr)
theorem jf_X10_lock {κ : JK} (K : jOk 4 cX10_lock RX10 (some .boolean) 6 κ) (X : JX) (v1 : Int32) (v2 : Int32) {r : (Option Nat × Int32 × JX)} (F : jFin LX true (oT r) κ) (hr : f_X10_lock X v1 v2 = some r) : J LX 4 κ X 0 [(0, .ref (jad κ (0))), (1, .int v1), (2, .int v2)] [] := by
  unfold f_X10_lock at hr
  refine j_aload_n K dX10_lock_0 0 rfl ?_
  refine j_get K (v := .ref (jad κ (1))) fl_X10_10 rfl (Nat.le_of_ble_eq_true rfl) (by decide) rfl dX10_lock_1 ?_
  refine j_iload_n K dX10_lock_4 1 rfl ?_
  refine j_vI1 K (ci := 9) hr (fun v h => c_X9_isFile X v1 h) ml_X10_98 ⟨_, rfl, rfl⟩ rfl (Nat.le_of_ble_eq_true rfl) (by decide) rfl (by decide) (by decide) (Nat.le_of_ble_eq_true rfl) dX10_lock_5 (fun t1 h hr => ?_)
  refine j_if_ne K dX10_lock_8 (tgt := 21) (by decide) hr (fun hr => ?_) (fun hr => ?_)
  · refine j_aload_n K dX10_lock_21 0 rfl ?_
    refine j_get K (v := .ref (jad κ (1))) fl_X10_10 rfl (Nat.le_of_ble_eq_true rfl) (by decide) rfl dX10_lock_22 ?_
    refine j_iload_n K dX10_lock_25 1 rfl ?_
    refine j_vI1 K (ci := 9) hr (fun v h => c_X9_isLocked X v1 h) ml_X10_108 ⟨_, rfl, rfl⟩ rfl (Nat.le_of_ble_eq_true rfl) (by decide) rfl (by decide) (by decide) (Nat.le_of_ble_eq_true rfl) dX10_lock_26 (fun t2 h hr => ?_)
    refine j_istore_n K dX10_lock_29 (by decide) ?_
    refine j_aload_n K dX10_lock_30 1 rfl ?_
    refine j_get K (v := .ref (jad κ (1))) fl_X10_10 rfl (Nat.le_of_ble_eq_true rfl) (by decide) rfl dX10_lock_31 ?_
    refine j_iload_n K dX10_lock_34 2 rfl ?_
    refine j_iload_n K dX10_lock_35 3 rfl ?_
    refine j_vU2 K (ci := 9) hr (fun v h => c_X9_setLocked X v1 v2 h) ml_X10_175 ⟨_, rfl, rfl⟩ rfl (Nat.le_of_ble_eq_true rfl) (by decide) rfl (by decide) (by decide) (Nat.le_of_ble_eq_true rfl) dX10_lock_36 (fun X3 h hr => ?_)
    refine j_iload_n K dX10_lock_39 0 rfl ?_
    exact j_guard hr (fun hz hr => j_zreturn K dX10_lock_40 rfl hz F hr rfl)
  · exact j_throw K (is := 101) th_61_65 st_101 rfl dX10_lock_11 dX10_lock_14 dX10_lock_15 dX10_lock_17 dX10_lock_20 (Nat.le_of_ble_eq_true rfl) (by decide) F hr rfl
theorem c_X10_lock (X : JX) (v1 : Int32) (v2 : Int32) {r : (Option Nat × Int32 × JX)} (hr : f_X10_lock X v1 v2 = some r) : CalX LX yX10_lock cX10_lock 4 (some .boolean) 6 (fun ad => [.ref (ad (0)), .int v1, .int v2]) X (fun ad => oT r) :=
  CalX.of (own := RX10) (fun ad => [(0, .ref (ad (0))), (1, .int v1), (2, .int v2)]) (by decide) rfl (fun _ => Nat.le_of_ble_eq_true rfl) (fun _ => rfl) (fun κ K F => jf_X10_lock K X v1 v2 F hr)
theorem jb_X10_lose_34 {κ : JK} (K : jOk 4 cX10_lose RX10 (some .int) 6 κ) (X : JX) {r : (Option Nat × Int32 × JX)} (F : jFin LX true (oT r) κ) (hr : b_X10_lose_34 X = some r) : J LX 4 κ X 34 [] [] := by
  unfold b_X10_lose_34 at hr
  exact j_throw K (is := 228) th_72_76 st_228 rfl dX10_lose_34 dX10_lose_37 dX10_lose_38 dX10_lose_40 dX10_lose_43 (Nat.le_of_ble_eq_true rfl) (by decide) F hr rfl
theorem jf_X10_lose {κ : JK} (K : jOk 4 cX10_lose RX10 (some .int) 6 κ) (X : JX) (v1 : Int32) (v2 : Int32) {r : (Option Nat × Int32 × JX)} (F : jFin LX true (oT r) κ) (hr : f_X10_lose X v1 v2 = some r) : J LX 4 κ X 0 [(0, .ref (jad κ (0))), (1, .int v1), (2, .int v2)] [] := by
  unfold f_X10_lose at hr
  refine j_aload_n K dX10_lose_0 0 rfl ?_
  refine j_get K (v := .ref (jad κ (11))) fl_X10_21 rfl (Nat.le_of_ble_eq_true rfl) (by decide) rfl dX10_lose_1 ?_
  refine j_iload_n K dX10_lose_4 1 rfl ?_
  refine j_vO1 K (ci := 8) hr (fun v h => c_X8_find X v1 h) ml_X10_201 ⟨_, rfl, rfl⟩ rfl (Nat.le_of_ble_eq_true rfl) (by decide) rfl (by decide) (by decide) (Nat.le_of_ble_eq_true rfl) dX10_lose_5 (fun h hr => ?_) (fun q2 h hr => ?_)
  · refine j_astore_nN K dX10_lose_8 (by decide) ?_
    refine j_aload_nN K dX10_lose_9 0 rfl ?_
    refine j_ifnonnullN K dX10_lose_10 ?_
    exact j_throw K (is := 215) th_61_65 st_215 rfl dX10_lose_13 dX10_lose_16 dX10_lose_17 dX10_lose_19 dX10_lose_22 (Nat.le_of_ble_eq_true rfl) (by decide) F hr rfl
  · refine j_guard hr (fun hq2 hr => ?_)
    refine j_astore_n K dX10_lose_8 (by decide) ?_
    refine j_aload_n K dX10_lose_9 0 rfl ?_
    refine j_ifnonnull K dX10_lose_10 (tgt := 23) (by decide) ?_
    refine j_iload_n K dX10_lose_23 3 rfl ?_
    refine j_iconst K dX10_lose_24 (v := 1) rfl ?_
    refine j_icmp_lt K dX10_lose_25 (tgt := 34) (by decide) hr (fun hr => ?_) (fun hr => ?_)
    · exact j_sub [] rfl (jb_X10_lose_34 K _ F hr)
    · refine j_iload_n K dX10_lose_28 3 rfl ?_
      refine j_bipush K dX10_lose_29 (v := 8) rfl ?_
      refine j_icmp_le K dX10_lose_31 (tgt := 44) (by decide) hr (fun hr => ?_) (fun hr => ?_)
      · refine j_aload_n K dX10_lose_44 0 rfl ?_
        refine j_iload_n K dX10_lose_45 3 rfl ?_
        refine j_vM1 K (ci := 7) hr (fun v h => c_X7_forgetLast X q2 v2 hq2 h) ml_X10_230 ⟨_, rfl, rfl⟩ (rt0 hq2) (rt0l hq2) (by decide) rfl (by decide) (by decide) (Nat.le_of_ble_eq_true rfl) dX10_lose_46 (fun t3 h hr => ?_)
        exact j_ireturn K dX10_lose_49 rfl F hr rfl
      · exact j_sub [] rfl (jb_X10_lose_34 K _ F hr)
theorem c_X10_lose (X : JX) (v1 : Int32) (v2 : Int32) {r : (Option Nat × Int32 × JX)} (hr : f_X10_lose X v1 v2 = some r) : CalX LX yX10_lose cX10_lose 4 (some .int) 6 (fun ad => [.ref (ad (0)), .int v1, .int v2]) X (fun ad => oT r) :=
  CalX.of (own := RX10) (fun ad => [(0, .ref (ad (0))), (1, .int v1), (2, .int v2)]) (by decide) rfl (fun _ => Nat.le_of_ble_eq_true rfl) (fun _ => rfl) (fun κ K F => jf_X10_lose K X v1 v2 F hr)
theorem jb_X10_make_61 {κ : JK} (K : jOk 5 cX10_make RX10 (some .int) 6 κ) (X : JX) {r : (Option Nat × Int32 × JX)} (F : jFin LX true (oT r) κ) (hr : b_X10_make_61 X = some r) : J LX 5 κ X 61 [] [] := by
  unfold b_X10_make_61 at hr
  exact j_throw K (is := 87) th_85_89 st_87 rfl dX10_make_61 dX10_make_64 dX10_make_65 dX10_make_67 dX10_make_70 (Nat.le_of_ble_eq_true rfl) (by decide) F hr rfl
theorem jf_X10_make {κ : JK} (K : jOk 5 cX10_make RX10 (some .int) 6 κ) (X : JX) (v1 : Int32) (v2 : Int32) (v3 : Int32) {r : (Option Nat × Int32 × JX)} (F : jFin LX true (oT r) κ) (hr : f_X10_make X v1 v2 v3 = some r) : J LX 5 κ X 0 [(0, .ref (jad κ (0))), (1, .int v1), (2, .int v2), (3, .int v3)] [] := by
  unfold f_X10_make at hr
  refine j_aload_n K dX10_make_0 0 rfl ?_
  refine j_get K (v := .ref (jad κ (1))) fl_X10_10 rfl (Nat.le_of_ble_eq_true rfl) (by decide) rfl dX10_make_1 ?_
  refine j_iload_n K dX10_make_4 1 rfl ?_
  refine j_vI1 K (ci := 9) hr (fun v h => c_X9_isFolder X v1 h) ml_X10_57 ⟨_, rfl, rfl⟩ rfl (Nat.le_of_ble_eq_true rfl) (by decide) rfl (by decide) (by decide) (Nat.le_of_ble_eq_true rfl) dX10_make_5 (fun t1 h hr => ?_)
  refine j_if_ne K dX10_make_8 (tgt := 21) (by decide) hr (fun hr => ?_) (fun hr => ?_)
  · refine j_iload_n K dX10_make_21 2 rfl ?_
    refine j_sI1 K hr (fun v h => c_X10_isName X v2 h) ms_X10_68 rfl (by decide) (by decide) (Nat.le_of_ble_eq_true rfl) dX10_make_22 (fun t2 h hr => ?_)
    refine j_if_ne K dX10_make_25 (tgt := 38) (by decide) hr (fun hr => ?_) (fun hr => ?_)
    · refine j_aload_n K dX10_make_38 0 rfl ?_
      refine j_get K (v := .ref (jad κ (1))) fl_X10_10 rfl (Nat.le_of_ble_eq_true rfl) (by decide) rfl dX10_make_39 ?_
      refine j_iload_n K dX10_make_42 1 rfl ?_
      refine j_iload_n K dX10_make_43 2 rfl ?_
      refine j_vI2 K (ci := 9) hr (fun v h => c_X9_findIn X v1 v2 h) ml_X10_77 ⟨_, rfl, rfl⟩ rfl (Nat.le_of_ble_eq_true rfl) (by decide) rfl (by decide) (by decide) (Nat.le_of_ble_eq_true rfl) dX10_make_44 (fun t3 h hr => ?_)
      refine j_iconst K dX10_make_47 (v := -1) rfl ?_
      refine j_icmp_ne K dX10_make_48 (tgt := 61) (by decide) hr (fun hr => ?_) (fun hr => ?_)
      · exact j_sub [] rfl (jb_X10_make_61 K _ F hr)
      · refine j_aload_n K dX10_make_51 0 rfl ?_
        refine j_get K (v := .ref (jad κ (1))) fl_X10_10 rfl (Nat.le_of_ble_eq_true rfl) (by decide) rfl dX10_make_52 ?_
        refine j_vI0 K (ci := 9) hr (fun v h => c_X9_isFull X h) ml_X10_81 ⟨_, rfl, rfl⟩ rfl (Nat.le_of_ble_eq_true rfl) (by decide) rfl (by decide) (by decide) (Nat.le_of_ble_eq_true rfl) dX10_make_55 (fun t4 h hr => ?_)
        refine j_if_eq K dX10_make_58 (tgt := 71) (by decide) hr (fun hr => ?_) (fun hr => ?_)
        · refine j_aload_n K dX10_make_71 0 rfl ?_
          refine j_get K (v := .ref (jad κ (1))) fl_X10_10 rfl (Nat.le_of_ble_eq_true rfl) (by decide) rfl dX10_make_72 ?_
          refine j_iload_n K dX10_make_75 1 rfl ?_
          refine j_iload_n K dX10_make_76 2 rfl ?_
          refine j_iload_n K dX10_make_77 3 rfl ?_
          refine j_vM3 K (ci := 9) hr (fun v h => c_X9_add X v1 v2 v3 h) ml_X10_90 ⟨_, rfl, rfl⟩ rfl (Nat.le_of_ble_eq_true rfl) (by decide) rfl (by decide) (by decide) (Nat.le_of_ble_eq_true rfl) dX10_make_78 (fun t5 h hr => ?_)
          refine j_istore K dX10_make_81 (by decide) ?_
          refine j_aload_n K dX10_make_83 1 rfl ?_
          refine j_get K (v := .ref (jad κ (11))) fl_X10_21 rfl (Nat.le_of_ble_eq_true rfl) (by decide) rfl dX10_make_84 ?_
          refine j_iload K dX10_make_87 0 rfl ?_
          refine j_iconst K dX10_make_89 (v := 1) rfl ?_
          refine j_vU2 K (ci := 8) hr (fun v h => c_X8_tellAbove t5.2 t5.1 (1) h) ml_X10_94 ⟨_, rfl, rfl⟩ rfl (Nat.le_of_ble_eq_true rfl) (by decide) rfl (by decide) (by decide) (Nat.le_of_ble_eq_true rfl) dX10_make_90 (fun X6 h hr => ?_)
          refine j_iload K dX10_make_93 0 rfl ?_
          exact j_ireturn K dX10_make_95 rfl F hr rfl
        · exact j_sub [] rfl (jb_X10_make_61 K _ F hr)
    · exact j_throw K (is := 74) th_72_76 st_74 rfl dX10_make_28 dX10_make_31 dX10_make_32 dX10_make_34 dX10_make_37 (Nat.le_of_ble_eq_true rfl) (by decide) F hr rfl
  · exact j_throw K (is := 63) th_61_65 st_63 rfl dX10_make_11 dX10_make_14 dX10_make_15 dX10_make_17 dX10_make_20 (Nat.le_of_ble_eq_true rfl) (by decide) F hr rfl
theorem c_X10_make (X : JX) (v1 : Int32) (v2 : Int32) (v3 : Int32) {r : (Option Nat × Int32 × JX)} (hr : f_X10_make X v1 v2 v3 = some r) : CalX LX yX10_make cX10_make 5 (some .int) 6 (fun ad => [.ref (ad (0)), .int v1, .int v2, .int v3]) X (fun ad => oT r) :=
  CalX.of (own := RX10) (fun ad => [(0, .ref (ad (0))), (1, .int v1), (2, .int v2), (3, .int v3)]) (by decide) rfl (fun _ => Nat.le_of_ble_eq_true rfl) (fun _ => rfl) (fun κ K F => jf_X10_make K X v1 v2 v3 F hr)
theorem jb_X10_move_26 {κ : JK} (K : jOk 8 cX10_move RX10 (some .int) 6 κ) (X : JX) {r : (Option Nat × Int32 × JX)} (F : jFin LX true (oT r) κ) (hr : b_X10_move_26 X = some r) : J LX 8 κ X 26 [] [] := by
  unfold b_X10_move_26 at hr
  exact j_throw K (is := 132) th_61_65 st_132 rfl dX10_move_26 dX10_move_29 dX10_move_30 dX10_move_32 dX10_move_35 (Nat.le_of_ble_eq_true rfl) (by decide) F hr rfl
theorem jb_X10_move_93 {κ : JK} (K : jOk 8 cX10_move RX10 (some .int) 6 κ) (X : JX) {r : (Option Nat × Int32 × JX)} (F : jFin LX true (oT r) κ) (hr : b_X10_move_93 X = some r) : J LX 8 κ X 93 [] [] := by
  unfold b_X10_move_93 at hr
  exact j_throw K (is := 138) th_85_89 st_138 rfl dX10_move_93 dX10_move_96 dX10_move_97 dX10_move_99 dX10_move_102 (Nat.le_of_ble_eq_true rfl) (by decide) F hr rfl
theorem jb_X10_move_188n5 {κ : JK} (K : jOk 8 cX10_move RX10 (some .int) 6 κ) (X : JX) (v1 : Int32) (v7 : Int32) {r : (Option Nat × Int32 × JX)} (F : jFin LX true (oT r) κ) (hr : b_X10_move_188n5 X v1 v7 = some r) : J LX 8 κ X 188 [(1, .int v1), (5, .null), (7, .int v7)] [] := by
  unfold b_X10_move_188n5 at hr
  refine j_aloadN K dX10_move_188 1 rfl ?_
  refine j_ifnullN K dX10_move_190 (tgt := 200) (by decide) ?_
  refine j_iload K dX10_move_200 2 rfl ?_
  exact j_ireturn K dX10_move_202 rfl F hr rfl
theorem jb_X10_move_139n5 {κ : JK} (K : jOk 8 cX10_move RX10 (some .int) 6 κ) (X : JX) (v1 : Int32) (v2 : Int32) (v3 : Int32) {r : (Option Nat × Int32 × JX)} (F : jFin LX true (oT r) κ) (hr : b_X10_move_139n5 X v1 v2 v3 = some r) : J LX 8 κ X 139 [(0, .ref (jad κ (0))), (1, .int v1), (2, .int v2), (3, .int v3), (5, .null)] [] := by
  unfold b_X10_move_139n5 at hr
  refine j_aload_n K dX10_move_139 0 rfl ?_
  refine j_get K (v := .ref (jad κ (11))) fl_X10_21 rfl (Nat.le_of_ble_eq_true rfl) (by decide) rfl dX10_move_140 ?_
  refine j_iload_n K dX10_move_143 1 rfl ?_
  refine j_vO1 K (ci := 8) hr (fun v h => c_X8_above X v1 h) ml_X10_149 ⟨_, rfl, rfl⟩ rfl (Nat.le_of_ble_eq_true rfl) (by decide) rfl (by decide) (by decide) (Nat.le_of_ble_eq_true rfl) dX10_move_144 (fun h hr => ?_) (fun q10 h hr => ?_)
  · refine j_astoreN K dX10_move_147 (by decide) ?_
    refine j_aload_n K dX10_move_149 1 rfl ?_
    refine j_get K (v := .ref (jad κ (1))) fl_X10_10 rfl (Nat.le_of_ble_eq_true rfl) (by decide) rfl dX10_move_150 ?_
    refine j_iload_n K dX10_move_153 2 rfl ?_
    refine j_vI1 K (ci := 9) hr (fun v h => c_X9_parentOf X v1 h) ml_X10_152 ⟨_, rfl, rfl⟩ rfl (Nat.le_of_ble_eq_true rfl) (by decide) rfl (by decide) (by decide) (Nat.le_of_ble_eq_true rfl) dX10_move_154 (fun t11 h hr => ?_)
    refine j_istore K dX10_move_157 (by decide) ?_
    refine j_aload_n K dX10_move_159 2 rfl ?_
    refine j_get K (v := .ref (jad κ (1))) fl_X10_10 rfl (Nat.le_of_ble_eq_true rfl) (by decide) rfl dX10_move_160 ?_
    refine j_iload_n K dX10_move_163 3 rfl ?_
    refine j_iload_n K dX10_move_164 4 rfl ?_
    refine j_iload_n K dX10_move_165 5 rfl ?_
    refine j_vU3 K (ci := 9) hr (fun v h => c_X9_put X v1 v2 v3 h) ml_X10_155 ⟨_, rfl, rfl⟩ rfl (Nat.le_of_ble_eq_true rfl) (by decide) rfl (by decide) (by decide) (Nat.le_of_ble_eq_true rfl) dX10_move_166 (fun X12 h hr => ?_)
    refine j_aloadN K dX10_move_169 1 rfl ?_
    refine j_ifnullN K dX10_move_171 (tgt := 188) (by decide) ?_
    exact j_sub [3, 6, 0] rfl (jb_X10_move_188n5 K _ _ _ F hr)
  · refine j_guard hr (fun hq10 hr => ?_)
    refine j_astore K dX10_move_147 (by decide) ?_
    refine j_aload_n K dX10_move_149 1 rfl ?_
    refine j_get K (v := .ref (jad κ (1))) fl_X10_10 rfl (Nat.le_of_ble_eq_true rfl) (by decide) rfl dX10_move_150 ?_
    refine j_iload_n K dX10_move_153 2 rfl ?_
    refine j_vI1 K (ci := 9) hr (fun v h => c_X9_parentOf X v1 h) ml_X10_152 ⟨_, rfl, rfl⟩ rfl (Nat.le_of_ble_eq_true rfl) (by decide) rfl (by decide) (by decide) (Nat.le_of_ble_eq_true rfl) dX10_move_154 (fun t13 h hr => ?_)
    refine j_istore K dX10_move_157 (by decide) ?_
    refine j_aload_n K dX10_move_159 2 rfl ?_
    refine j_get K (v := .ref (jad κ (1))) fl_X10_10 rfl (Nat.le_of_ble_eq_true rfl) (by decide) rfl dX10_move_160 ?_
    refine j_iload_n K dX10_move_163 3 rfl ?_
    refine j_iload_n K dX10_move_164 4 rfl ?_
    refine j_iload_n K dX10_move_165 5 rfl ?_
    refine j_vU3 K (ci := 9) hr (fun v h => c_X9_put X v1 v2 v3 h) ml_X10_155 ⟨_, rfl, rfl⟩ rfl (Nat.le_of_ble_eq_true rfl) (by decide) rfl (by decide) (by decide) (Nat.le_of_ble_eq_true rfl) dX10_move_166 (fun X14 h hr => ?_)
    refine j_aload K dX10_move_169 1 rfl ?_
    refine j_ifnull K dX10_move_171 ?_
    refine j_aload K dX10_move_174 1 rfl ?_
    refine j_aloadN K dX10_move_176 6 rfl ?_
    refine j_acmp_eqN K dX10_move_178 (tgt := 188) (by decide) ?_
    refine j_aload K dX10_move_181 1 rfl ?_
    refine j_iconst K dX10_move_183 (v := 3) rfl ?_
    refine j_iload_n K dX10_move_184 3 rfl ?_
    refine j_vU2 K (ci := 7) hr (fun v h => c_X7_tell X14 q10 (3) v1 hq10 h) ml_X10_159 ⟨_, rfl, rfl⟩ (rt0 hq10) (rt0l hq10) (by decide) rfl (by decide) (by decide) (Nat.le_of_ble_eq_true rfl) dX10_move_185 (fun X15 h hr => ?_)
    exact j_sub [3, 6, 0] rfl (jb_X10_move_188n5 K _ _ _ F hr)
theorem jb_X10_move_188 {κ : JK} (K : jOk 8 cX10_move RX10 (some .int) 6 κ) (X : JX) (v1 : Int32) (q5 : Nat) (v7 : Int32) {r : (Option Nat × Int32 × JX)} (F : jFin LX true (oT r) κ) (hq5 : isRt q5 = true) (hr : b_X10_move_188 X v1 q5 v7 = some r) : J LX 8 κ X 188 [(1, .int v1), (5, .ref (jad κ q5)), (7, .int v7)] [] := by
  unfold b_X10_move_188 at hr
  refine j_aload K dX10_move_188 1 rfl ?_
  refine j_ifnull K dX10_move_190 ?_
  refine j_aload K dX10_move_193 1 rfl ?_
  refine j_iconst K dX10_move_195 (v := 1) rfl ?_
  refine j_iload_n K dX10_move_196 0 rfl ?_
  refine j_vU2 K (ci := 7) hr (fun v h => c_X7_tell X q5 (1) v1 hq5 h) ml_X10_159 ⟨_, rfl, rfl⟩ (rt0 hq5) (rt0l hq5) (by decide) rfl (by decide) (by decide) (Nat.le_of_ble_eq_true rfl) dX10_move_197 (fun X23 h hr => ?_)
  refine j_iload K dX10_move_200 2 rfl ?_
  exact j_ireturn K dX10_move_202 rfl F hr rfl
theorem jb_X10_move_139 {κ : JK} (K : jOk 8 cX10_move RX10 (some .int) 6 κ) (X : JX) (v1 : Int32) (v2 : Int32) (v3 : Int32) (q5 : Nat) {r : (Option Nat × Int32 × JX)} (F : jFin LX true (oT r) κ) (hq5 : isRt q5 = true) (hr : b_X10_move_139 X v1 v2 v3 q5 = some r) : J LX 8 κ X 139 [(0, .ref (jad κ (0))), (1, .int v1), (2, .int v2), (3, .int v3), (5, .ref (jad κ q5))] [] := by
  unfold b_X10_move_139 at hr
  refine j_aload_n K dX10_move_139 0 rfl ?_
  refine j_get K (v := .ref (jad κ (11))) fl_X10_21 rfl (Nat.le_of_ble_eq_true rfl) (by decide) rfl dX10_move_140 ?_
  refine j_iload_n K dX10_move_143 1 rfl ?_
  refine j_vO1 K (ci := 8) hr (fun v h => c_X8_above X v1 h) ml_X10_149 ⟨_, rfl, rfl⟩ rfl (Nat.le_of_ble_eq_true rfl) (by decide) rfl (by decide) (by decide) (Nat.le_of_ble_eq_true rfl) dX10_move_144 (fun h hr => ?_) (fun q17 h hr => ?_)
  · refine j_astoreN K dX10_move_147 (by decide) ?_
    refine j_aload_n K dX10_move_149 1 rfl ?_
    refine j_get K (v := .ref (jad κ (1))) fl_X10_10 rfl (Nat.le_of_ble_eq_true rfl) (by decide) rfl dX10_move_150 ?_
    refine j_iload_n K dX10_move_153 2 rfl ?_
    refine j_vI1 K (ci := 9) hr (fun v h => c_X9_parentOf X v1 h) ml_X10_152 ⟨_, rfl, rfl⟩ rfl (Nat.le_of_ble_eq_true rfl) (by decide) rfl (by decide) (by decide) (Nat.le_of_ble_eq_true rfl) dX10_move_154 (fun t18 h hr => ?_)
    refine j_istore K dX10_move_157 (by decide) ?_
    refine j_aload_n K dX10_move_159 2 rfl ?_
    refine j_get K (v := .ref (jad κ (1))) fl_X10_10 rfl (Nat.le_of_ble_eq_true rfl) (by decide) rfl dX10_move_160 ?_
    refine j_iload_n K dX10_move_163 3 rfl ?_
    refine j_iload_n K dX10_move_164 4 rfl ?_
    refine j_iload_n K dX10_move_165 5 rfl ?_
    refine j_vU3 K (ci := 9) hr (fun v h => c_X9_put X v1 v2 v3 h) ml_X10_155 ⟨_, rfl, rfl⟩ rfl (Nat.le_of_ble_eq_true rfl) (by decide) rfl (by decide) (by decide) (Nat.le_of_ble_eq_true rfl) dX10_move_166 (fun X19 h hr => ?_)
    refine j_aloadN K dX10_move_169 1 rfl ?_
    refine j_ifnullN K dX10_move_171 (tgt := 188) (by decide) ?_
    exact j_sub [3, 6, 0] rfl (jb_X10_move_188 K _ _ _ _ F hq5 hr)
  · refine j_guard hr (fun hq17 hr => ?_)
    refine j_astore K dX10_move_147 (by decide) ?_
    refine j_aload_n K dX10_move_149 1 rfl ?_
    refine j_get K (v := .ref (jad κ (1))) fl_X10_10 rfl (Nat.le_of_ble_eq_true rfl) (by decide) rfl dX10_move_150 ?_
    refine j_iload_n K dX10_move_153 2 rfl ?_
    refine j_vI1 K (ci := 9) hr (fun v h => c_X9_parentOf X v1 h) ml_X10_152 ⟨_, rfl, rfl⟩ rfl (Nat.le_of_ble_eq_true rfl) (by decide) rfl (by decide) (by decide) (Nat.le_of_ble_eq_true rfl) dX10_move_154 (fun t20 h hr => ?_)
    refine j_istore K dX10_move_157 (by decide) ?_
    refine j_aload_n K dX10_move_159 2 rfl ?_
    refine j_get K (v := .ref (jad κ (1))) fl_X10_10 rfl (Nat.le_of_ble_eq_true rfl) (by decide) rfl dX10_move_160 ?_
    refine j_iload_n K dX10_move_163 3 rfl ?_
    refine j_iload_n K dX10_move_164 4 rfl ?_
    refine j_iload_n K dX10_move_165 5 rfl ?_
    refine j_vU3 K (ci := 9) hr (fun v h => c_X9_put X v1 v2 v3 h) ml_X10_155 ⟨_, rfl, rfl⟩ rfl (Nat.le_of_ble_eq_true rfl) (by decide) rfl (by decide) (by decide) (Nat.le_of_ble_eq_true rfl) dX10_move_166 (fun X21 h hr => ?_)
    refine j_aload K dX10_move_169 1 rfl ?_
    refine j_ifnull K dX10_move_171 ?_
    refine j_aload K dX10_move_174 1 rfl ?_
    refine j_aload K dX10_move_176 6 rfl ?_
    refine j_acmp_eq K dX10_move_178 (tgt := 188) (by decide) (rt0l hq17) (rt0l hq5) hr (fun hr => ?_) (fun hr => ?_)
    · exact j_sub [3, 6, 0] rfl (jb_X10_move_188 K _ _ _ _ F hq5 hr)
    · refine j_aload K dX10_move_181 1 rfl ?_
      refine j_iconst K dX10_move_183 (v := 3) rfl ?_
      refine j_iload_n K dX10_move_184 3 rfl ?_
      refine j_vU2 K (ci := 7) hr (fun v h => c_X7_tell X21 q17 (3) v1 hq17 h) ml_X10_159 ⟨_, rfl, rfl⟩ (rt0 hq17) (rt0l hq17) (by decide) rfl (by decide) (by decide) (Nat.le_of_ble_eq_true rfl) dX10_move_185 (fun X22 h hr => ?_)
      exact j_sub [3, 6, 0] rfl (jb_X10_move_188 K _ _ _ _ F hq5 hr)
theorem jb_X10_move_103 {κ : JK} (K : jOk 8 cX10_move RX10 (some .int) 6 κ) (X : JX) (v1 : Int32) (v2 : Int32) (v3 : Int32) {r : (Option Nat × Int32 × JX)} (F : jFin LX true (oT r) κ) (hr : b_X10_move_103 X v1 v2 v3 = some r) : J LX 8 κ X 103 [(0, .ref (jad κ (0))), (1, .int v1), (2, .int v2), (3, .int v3)] [] := by
  unfold b_X10_move_103 at hr
  refine j_aload_n K dX10_move_103 0 rfl ?_
  refine j_get K (v := .ref (jad κ (11))) fl_X10_21 rfl (Nat.le_of_ble_eq_true rfl) (by decide) rfl dX10_move_104 ?_
  refine j_iload_n K dX10_move_107 2 rfl ?_
  refine j_vO1 K (ci := 8) hr (fun v h => c_X8_holding X v2 h) ml_X10_140 ⟨_, rfl, rfl⟩ rfl (Nat.le_of_ble_eq_true rfl) (by decide) rfl (by decide) (by decide) (Nat.le_of_ble_eq_true rfl) dX10_move_108 (fun h hr => ?_) (fun q7 h hr => ?_)
  · refine j_astoreN K dX10_move_111 (by decide) ?_
    refine j_aloadN K dX10_move_113 0 rfl ?_
    refine j_ifnullN K dX10_move_115 (tgt := 139) (by decide) ?_
    exact j_sub [1, 2, 3, 4, 0] rfl (jb_X10_move_139n5 K _ _ _ _ F hr)
  · refine j_guard hr (fun hq7 hr => ?_)
    refine j_astore K dX10_move_111 (by decide) ?_
    refine j_aload K dX10_move_113 0 rfl ?_
    refine j_ifnull K dX10_move_115 ?_
    refine j_aload_n K dX10_move_118 1 rfl ?_
    refine j_get K (v := .ref (jad κ (11))) fl_X10_21 rfl (Nat.le_of_ble_eq_true rfl) (by decide) rfl dX10_move_119 ?_
    refine j_iload_n K dX10_move_122 2 rfl ?_
    refine j_vI1 K (ci := 8) hr (fun v h => c_X8_hasAtOrBelow X v1 h) ml_X10_144 ⟨_, rfl, rfl⟩ rfl (Nat.le_of_ble_eq_true rfl) (by decide) rfl (by decide) (by decide) (Nat.le_of_ble_eq_true rfl) dX10_move_123 (fun t8 h hr => ?_)
    refine j_if_eq K dX10_move_126 (tgt := 139) (by decide) hr (fun hr => ?_) (fun hr => ?_)
    · exact j_sub [1, 2, 3, 4, 0] rfl (jb_X10_move_139 K _ _ _ _ _ F hq7 hr)
    · exact j_throw K (is := 147) th_85_89 st_147 rfl dX10_move_129 dX10_move_132 dX10_move_133 dX10_move_135 dX10_move_138 (Nat.le_of_ble_eq_true rfl) (by decide) F hr rfl
theorem jf_X10_move {κ : JK} (K : jOk 8 cX10_move RX10 (some .int) 6 κ) (X : JX) (v1 : Int32) (v2 : Int32) (v3 : Int32) {r : (Option Nat × Int32 × JX)} (F : jFin LX true (oT r) κ) (hr : f_X10_move X v1 v2 v3 = some r) : J LX 8 κ X 0 [(0, .ref (jad κ (0))), (1, .int v1), (2, .int v2), (3, .int v3)] [] := by
  unfold f_X10_move at hr
  refine j_iload_n K dX10_move_0 1 rfl ?_
  refine j_if_eq K dX10_move_1 (tgt := 26) (by decide) hr (fun hr => ?_) (fun hr => ?_)
  · exact j_sub [] rfl (jb_X10_move_26 K _ F hr)
  · refine j_aload_n K dX10_move_4 0 rfl ?_
    refine j_get K (v := .ref (jad κ (1))) fl_X10_10 rfl (Nat.le_of_ble_eq_true rfl) (by decide) rfl dX10_move_5 ?_
    refine j_iload_n K dX10_move_8 1 rfl ?_
    refine j_vI1 K (ci := 9) hr (fun v h => c_X9_isThere X v1 h) ml_X10_129 ⟨_, rfl, rfl⟩ rfl (Nat.le_of_ble_eq_true rfl) (by decide) rfl (by decide) (by decide) (Nat.le_of_ble_eq_true rfl) dX10_move_9 (fun t1 h hr => ?_)
    refine j_if_eq K dX10_move_12 (tgt := 26) (by decide) hr (fun hr => ?_) (fun hr => ?_)
    · exact j_sub [] rfl (jb_X10_move_26 K _ F hr)
    · refine j_aload_n K dX10_move_15 0 rfl ?_
      refine j_get K (v := .ref (jad κ (1))) fl_X10_10 rfl (Nat.le_of_ble_eq_true rfl) (by decide) rfl dX10_move_16 ?_
      refine j_iload_n K dX10_move_19 2 rfl ?_
      refine j_vI1 K (ci := 9) hr (fun v h => c_X9_isFolder X v2 h) ml_X10_57 ⟨_, rfl, rfl⟩ rfl (Nat.le_of_ble_eq_true rfl) (by decide) rfl (by decide) (by decide) (Nat.le_of_ble_eq_true rfl) dX10_move_20 (fun t2 h hr => ?_)
      refine j_if_ne K dX10_move_23 (tgt := 36) (by decide) hr (fun hr => ?_) (fun hr => ?_)
      · refine j_iload_n K dX10_move_36 3 rfl ?_
        refine j_sI1 K hr (fun v h => c_X10_isName X v3 h) ms_X10_68 rfl (by decide) (by decide) (Nat.le_of_ble_eq_true rfl) dX10_move_37 (fun t3 h hr => ?_)
        refine j_if_ne K dX10_move_40 (tgt := 53) (by decide) hr (fun hr => ?_) (fun hr => ?_)
        · refine j_aload_n K dX10_move_53 0 rfl ?_
          refine j_get K (v := .ref (jad κ (1))) fl_X10_10 rfl (Nat.le_of_ble_eq_true rfl) (by decide) rfl dX10_move_54 ?_
          refine j_iload_n K dX10_move_57 2 rfl ?_
          refine j_iload_n K dX10_move_58 3 rfl ?_
          refine j_vI2 K (ci := 9) hr (fun v h => c_X9_findIn X v2 v3 h) ml_X10_77 ⟨_, rfl, rfl⟩ rfl (Nat.le_of_ble_eq_true rfl) (by decide) rfl (by decide) (by decide) (Nat.le_of_ble_eq_true rfl) dX10_move_59 (fun t4 h hr => ?_)
          refine j_istore K dX10_move_62 (by decide) ?_
          refine j_iload_n K dX10_move_64 3 rfl ?_
          refine j_iload_n K dX10_move_65 2 rfl ?_
          refine j_icmp_eq K dX10_move_66 (tgt := 93) (by decide) hr (fun hr => ?_) (fun hr => ?_)
          · exact j_sub [] rfl (jb_X10_move_93 K _ F hr)
          · refine j_aload_n K dX10_move_69 1 rfl ?_
            refine j_get K (v := .ref (jad κ (1))) fl_X10_10 rfl (Nat.le_of_ble_eq_true rfl) (by decide) rfl dX10_move_70 ?_
            refine j_iload_n K dX10_move_73 3 rfl ?_
            refine j_iload_n K dX10_move_74 2 rfl ?_
            refine j_vI2 K (ci := 9) hr (fun v h => c_X9_isBelow X v2 v1 h) ml_X10_134 ⟨_, rfl, rfl⟩ rfl (Nat.le_of_ble_eq_true rfl) (by decide) rfl (by decide) (by decide) (Nat.le_of_ble_eq_true rfl) dX10_move_75 (fun t5 h hr => ?_)
            refine j_if_ne K dX10_move_78 (tgt := 93) (by decide) hr (fun hr => ?_) (fun hr => ?_)
            · exact j_sub [] rfl (jb_X10_move_93 K _ F hr)
            · refine j_iload K dX10_move_81 0 rfl ?_
              refine j_iconst K dX10_move_83 (v := -1) rfl ?_
              refine j_icmp_eq K dX10_move_84 (tgt := 103) (by decide) hr (fun hr => ?_) (fun hr => ?_)
              · exact j_sub [1, 2, 3, 4] rfl (jb_X10_move_103 K _ _ _ _ F hr)
              · refine j_iload K dX10_move_87 0 rfl ?_
                refine j_iload_n K dX10_move_89 2 rfl ?_
                refine j_icmp_eq K dX10_move_90 (tgt := 103) (by decide) hr (fun hr => ?_) (fun hr => ?_)
                · exact j_sub [1, 2, 3, 4] rfl (jb_X10_move_103 K _ _ _ _ F hr)
                · exact j_sub [] rfl (jb_X10_move_93 K _ F hr)
        · exact j_throw K (is := 74) th_72_76 st_74 rfl dX10_move_43 dX10_move_46 dX10_move_47 dX10_move_49 dX10_move_52 (Nat.le_of_ble_eq_true rfl) (by decide) F hr rfl
      · exact j_sub [] rfl (jb_X10_move_26 K _ F hr)
theorem c_X10_move (X : JX) (v1 : Int32) (v2 : Int32) (v3 : Int32) {r : (Option Nat × Int32 × JX)} (hr : f_X10_move X v1 v2 v3 = some r) : CalX LX yX10_move cX10_move 8 (some .int) 6 (fun ad => [.ref (ad (0)), .int v1, .int v2, .int v3]) X (fun ad => oT r) :=
  CalX.of (own := RX10) (fun ad => [(0, .ref (ad (0))), (1, .int v1), (2, .int v2), (3, .int v3)]) (by decide) rfl (fun _ => Nat.le_of_ble_eq_true rfl) (fun _ => rfl) (fun κ K F => jf_X10_move K X v1 v2 v3 F hr)
theorem jf_X10_nodes {κ : JK} (K : jOk 1 cX10_nodes RX10 (some .int) 1 κ) (X : JX) {r : Int32} (F : jFin LX false (oI X r) κ) (hr : f_X10_nodes X = some r) : J LX 1 κ X 0 [(0, .ref (jad κ (0)))] [] := by
  unfold f_X10_nodes at hr
  refine j_aload_n K dX10_nodes_0 0 rfl ?_
  refine j_get K (v := .ref (jad κ (1))) fl_X10_10 rfl (Nat.le_of_ble_eq_true rfl) (by decide) rfl dX10_nodes_1 ?_
  refine j_vI0 K (ci := 9) hr (fun v h => c_X9_countThere X h) ml_X10_197 ⟨_, rfl, rfl⟩ rfl (Nat.le_of_ble_eq_true rfl) (by decide) rfl (by decide) (by decide) (Nat.le_of_ble_eq_true rfl) dX10_nodes_4 (fun t1 h hr => ?_)
  exact j_ireturn K dX10_nodes_7 rfl F hr rfl
theorem c_X10_nodes (X : JX) {r : Int32} (hr : f_X10_nodes X = some r) : Cal LX yX10_nodes cX10_nodes 1 (some .int) 1 (fun ad => [.ref (ad (0))]) X (fun ad => oI X r) :=
  Cal.of (own := RX10) (fun ad => [(0, .ref (ad (0)))]) (by decide) rfl (fun _ => Nat.le_of_ble_eq_true rfl) (fun _ => rfl) (fun κ K F => jf_X10_nodes K X F hr)
theorem jf_X10_notices {κ : JK} (K : jOk 3 cX10_notices RX10 (some .int) 6 κ) (X : JX) (v1 : Int32) {r : (Option Nat × Int32 × JX)} (F : jFin LX true (oT r) κ) (hr : f_X10_notices X v1 = some r) : J LX 3 κ X 0 [(0, .ref (jad κ (0))), (1, .int v1)] [] := by
  unfold f_X10_notices at hr
  refine j_aload_n K dX10_notices_0 0 rfl ?_
  refine j_get K (v := .ref (jad κ (11))) fl_X10_21 rfl (Nat.le_of_ble_eq_true rfl) (by decide) rfl dX10_notices_1 ?_
  refine j_iload_n K dX10_notices_4 1 rfl ?_
  refine j_vO1 K (ci := 8) hr (fun v h => c_X8_find X v1 h) ml_X10_201 ⟨_, rfl, rfl⟩ rfl (Nat.le_of_ble_eq_true rfl) (by decide) rfl (by decide) (by decide) (Nat.le_of_ble_eq_true rfl) dX10_notices_5 (fun h hr => ?_) (fun q2 h hr => ?_)
  · refine j_astore_nN K dX10_notices_8 (by decide) ?_
    refine j_aload_nN K dX10_notices_9 0 rfl ?_
    refine j_ifnonnullN K dX10_notices_10 ?_
    exact j_throw K (is := 215) th_61_65 st_215 rfl dX10_notices_13 dX10_notices_16 dX10_notices_17 dX10_notices_19 dX10_notices_22 (Nat.le_of_ble_eq_true rfl) (by decide) F hr rfl
  · refine j_guard hr (fun hq2 hr => ?_)
    refine j_astore_n K dX10_notices_8 (by decide) ?_
    refine j_aload_n K dX10_notices_9 0 rfl ?_
    refine j_ifnonnull K dX10_notices_10 (tgt := 23) (by decide) ?_
    refine j_aload_n K dX10_notices_23 0 rfl ?_
    refine j_vI0 K (ci := 7) hr (fun v h => c_X7_countOrFlood X q2 hq2 h) ml_X10_217 ⟨_, rfl, rfl⟩ (rt0 hq2) (rt0l hq2) (by decide) rfl (by decide) (by decide) (Nat.le_of_ble_eq_true rfl) dX10_notices_24 (fun t3 h hr => ?_)
    exact j_ireturn K dX10_notices_27 rfl F hr rfl
theorem c_X10_notices (X : JX) (v1 : Int32) {r : (Option Nat × Int32 × JX)} (hr : f_X10_notices X v1 = some r) : CalX LX yX10_notices cX10_notices 3 (some .int) 6 (fun ad => [.ref (ad (0)), .int v1]) X (fun ad => oT r) :=
  CalX.of (own := RX10) (fun ad => [(0, .ref (ad (0))), (1, .int v1)]) (by decide) rfl (fun _ => Nat.le_of_ble_eq_true rfl) (fun _ => rfl) (fun κ K F => jf_X10_notices K X v1 F hr)
theorem jb_X10_pass_12 {κ : JK} (K : jOk 3 cX10_pass RX10 (some .int) 6 κ) (X : JX) {r : (Option Nat × Int32 × JX)} (F : jFin LX true (oT r) κ) (hr : b_X10_pass_12 X = some r) : J LX 3 κ X 12 [] [] := by
  unfold b_X10_pass_12 at hr
  exact j_throw K (is := 233) th_72_76 st_233 rfl dX10_pass_12 dX10_pass_15 dX10_pass_16 dX10_pass_18 dX10_pass_21 (Nat.le_of_ble_eq_true rfl) (by decide) F hr rfl
theorem jf_X10_pass {κ : JK} (K : jOk 3 cX10_pass RX10 (some .int) 6 κ) (X : JX) (v1 : Int32) {r : (Option Nat × Int32 × JX)} (F : jFin LX true (oT r) κ) (hr : f_X10_pass X v1 = some r) : J LX 3 κ X 0 [(0, .ref (jad κ (0))), (1, .int v1)] [] := by
  unfold f_X10_pass at hr
  refine j_iload_n K dX10_pass_0 1 rfl ?_
  refine j_iconst K dX10_pass_1 (v := 1) rfl ?_
  refine j_icmp_lt K dX10_pass_2 (tgt := 12) (by decide) hr (fun hr => ?_) (fun hr => ?_)
  · exact j_sub [] rfl (jb_X10_pass_12 K _ F hr)
  · refine j_iload_n K dX10_pass_5 1 rfl ?_
    refine j_sipush K dX10_pass_6 (v := 1000) rfl ?_
    refine j_icmp_le K dX10_pass_9 (tgt := 22) (by decide) hr (fun hr => ?_) (fun hr => ?_)
    · refine j_aload_n K dX10_pass_22 0 rfl ?_
      refine j_get K (v := .int (X (0) 6)) fl_X10_235 rfl (Nat.le_of_ble_eq_true rfl) (by decide) rfl dX10_pass_23 ?_
      refine j_iload_n K dX10_pass_26 1 rfl ?_
      refine j_iadd K dX10_pass_27 ?_
      refine j_ldc K (v := 100000) kc_X10_239 dX10_pass_28 ?_
      refine j_icmp_le K dX10_pass_30 (tgt := 43) (by decide) hr (fun hr => ?_) (fun hr => ?_)
      · refine j_aload_n K dX10_pass_43 0 rfl ?_
        refine j_get K (v := .int (X (0) 6)) fl_X10_235 rfl (Nat.le_of_ble_eq_true rfl) (by decide) rfl dX10_pass_44 ?_
        refine j_bipush K dX10_pass_47 (v := 60) rfl ?_
        refine j_idiv K dX10_pass_49 (by decide) ?_
        refine j_istoreV_n K dX10_pass_50 (by decide) hr (fun t1 hr => ?_)
        refine j_aload_n K dX10_pass_51 1 rfl ?_
        refine j_dup K dX10_pass_52 rfl ?_
        refine j_get K (v := .int (X (0) 6)) fl_X10_235 rfl (Nat.le_of_ble_eq_true rfl) (by decide) rfl dX10_pass_53 ?_
        refine j_iload_n K dX10_pass_56 2 rfl ?_
        refine j_iadd K dX10_pass_57 ?_
        refine j_putiV K fp_X10_235 rfl (Nat.le_of_ble_eq_true rfl) (by decide) (fun _ => Nat.le_of_ble_eq_true rfl) (fun _ => rfl) dX10_pass_58 hr (fun X2 hr => ?_)
        refine j_aload_n K dX10_pass_61 1 rfl ?_
        refine j_get K (v := .int (X2 (0) 6)) fl_X10_235 rfl (Nat.le_of_ble_eq_true rfl) (by decide) rfl dX10_pass_62 ?_
        refine j_bipush K dX10_pass_65 (v := 60) rfl ?_
        refine j_idiv K dX10_pass_67 (by decide) ?_
        refine j_iload_n K dX10_pass_68 0 rfl ?_
        refine j_icmp_eq K dX10_pass_69 (tgt := 77) (by decide) hr (fun hr => ?_) (fun hr => ?_)
        · refine j_aload_n K dX10_pass_77 1 rfl ?_
          refine j_get K (v := .int (X2 (0) 6)) fl_X10_235 rfl (Nat.le_of_ble_eq_true rfl) (by decide) rfl dX10_pass_78 ?_
          exact j_ireturn K dX10_pass_81 rfl F hr rfl
        · refine j_aload_n K dX10_pass_72 1 rfl ?_
          refine j_iconst K dX10_pass_73 (v := 0) rfl ?_
          refine j_putiV K fp_X10_242 rfl (Nat.le_of_ble_eq_true rfl) (by decide) (fun _ => Nat.le_of_ble_eq_true rfl) (fun _ => rfl) dX10_pass_74 hr (fun X3 hr => ?_)
          refine j_aload_n K dX10_pass_77 1 rfl ?_
          refine j_get K (v := .int (X3 (0) 6)) fl_X10_235 rfl (Nat.le_of_ble_eq_true rfl) (by decide) rfl dX10_pass_78 ?_
          exact j_ireturn K dX10_pass_81 rfl F hr rfl
      · exact j_throw K (is := 240) th_85_89 st_240 rfl dX10_pass_33 dX10_pass_36 dX10_pass_37 dX10_pass_39 dX10_pass_42 (Nat.le_of_ble_eq_true rfl) (by decide) F hr rfl
    · exact j_sub [] rfl (jb_X10_pass_12 K _ F hr)
theorem c_X10_pass (X : JX) (v1 : Int32) {r : (Option Nat × Int32 × JX)} (hr : f_X10_pass X v1 = some r) : CalX LX yX10_pass cX10_pass 3 (some .int) 6 (fun ad => [.ref (ad (0)), .int v1]) X (fun ad => oT r) :=
  CalX.of (own := RX10) (fun ad => [(0, .ref (ad (0))), (1, .int v1)]) (by decide) rfl (fun _ => Nat.le_of_ble_eq_true rfl) (fun _ => rfl) (fun κ K F => jf_X10_pass K X v1 F hr)
theorem jb_X10_people_31 {κ : JK} (K : jOk 4 cX10_people RX10 (some .int) 6 κ) (X : JX) {r : (Option Nat × Int32 × JX)} (F : jFin LX true (oT r) κ) (hr : b_X10_people_31 X = some r) : J LX 4 κ X 31 [] [] := by
  unfold b_X10_people_31 at hr
  exact j_throw K (is := 181) th_72_76 st_181 rfl dX10_people_31 dX10_people_34 dX10_people_35 dX10_people_37 dX10_people_40 (Nat.le_of_ble_eq_true rfl) (by decide) F hr rfl
theorem jf_X10_people {κ : JK} (K : jOk 4 cX10_people RX10 (some .int) 6 κ) (X : JX) (v1 : Int32) (v2 : Int32) {r : (Option Nat × Int32 × JX)} (F : jFin LX true (oT r) κ) (hr : f_X10_people X v1 v2 = some r) : J LX 4 κ X 0 [(0, .ref (jad κ (0))), (1, .int v1), (2, .int v2)] [] := by
  unfold f_X10_people at hr
  refine j_aload_n K dX10_people_0 0 rfl ?_
  refine j_get K (v := .ref (jad κ (1))) fl_X10_10 rfl (Nat.le_of_ble_eq_true rfl) (by decide) rfl dX10_people_1 ?_
  refine j_iload_n K dX10_people_4 1 rfl ?_
  refine j_vI1 K (ci := 9) hr (fun v h => c_X9_isThere X v1 h) ml_X10_129 ⟨_, rfl, rfl⟩ rfl (Nat.le_of_ble_eq_true rfl) (by decide) rfl (by decide) (by decide) (Nat.le_of_ble_eq_true rfl) dX10_people_5 (fun t1 h hr => ?_)
  refine j_if_ne K dX10_people_8 (tgt := 21) (by decide) hr (fun hr => ?_) (fun hr => ?_)
  · refine j_iload_n K dX10_people_21 2 rfl ?_
    refine j_if_lt K dX10_people_22 (tgt := 31) (by decide) hr (fun hr => ?_) (fun hr => ?_)
    · exact j_sub [] rfl (jb_X10_people_31 K _ F hr)
    · refine j_iload_n K dX10_people_25 2 rfl ?_
      refine j_bipush K dX10_people_26 (v := 15) rfl ?_
      refine j_icmp_le K dX10_people_28 (tgt := 41) (by decide) hr (fun hr => ?_) (fun hr => ?_)
      · refine j_aload_n K dX10_people_41 0 rfl ?_
        refine j_get K (v := .ref (jad κ (1))) fl_X10_10 rfl (Nat.le_of_ble_eq_true rfl) (by decide) rfl dX10_people_42 ?_
        refine j_iload_n K dX10_people_45 1 rfl ?_
        refine j_vI1 K (ci := 9) hr (fun v h => c_X9_peopleOf X v1 h) ml_X10_183 ⟨_, rfl, rfl⟩ rfl (Nat.le_of_ble_eq_true rfl) (by decide) rfl (by decide) (by decide) (Nat.le_of_ble_eq_true rfl) dX10_people_46 (fun t2 h hr => ?_)
        refine j_istore_n K dX10_people_49 (by decide) ?_
        refine j_aload_n K dX10_people_50 1 rfl ?_
        refine j_get K (v := .ref (jad κ (1))) fl_X10_10 rfl (Nat.le_of_ble_eq_true rfl) (by decide) rfl dX10_people_51 ?_
        refine j_iload_n K dX10_people_54 2 rfl ?_
        refine j_iload_n K dX10_people_55 3 rfl ?_
        refine j_vU2 K (ci := 9) hr (fun v h => c_X9_setPeople X v1 v2 h) ml_X10_186 ⟨_, rfl, rfl⟩ rfl (Nat.le_of_ble_eq_true rfl) (by decide) rfl (by decide) (by decide) (Nat.le_of_ble_eq_true rfl) dX10_people_56 (fun X3 h hr => ?_)
        refine j_iload_n K dX10_people_59 0 rfl ?_
        exact j_ireturn K dX10_people_60 rfl F hr rfl
      · exact j_sub [] rfl (jb_X10_people_31 K _ F hr)
  · exact j_throw K (is := 179) th_61_65 st_179 rfl dX10_people_11 dX10_people_14 dX10_people_15 dX10_people_17 dX10_people_20 (Nat.le_of_ble_eq_true rfl) (by decide) F hr rfl
theorem c_X10_people (X : JX) (v1 : Int32) (v2 : Int32) {r : (Option Nat × Int32 × JX)} (hr : f_X10_people X v1 v2 = some r) : CalX LX yX10_people cX10_people 4 (some .int) 6 (fun ad => [.ref (ad (0)), .int v1, .int v2]) X (fun ad => oT r) :=
  CalX.of (own := RX10) (fun ad => [(0, .ref (ad (0))), (1, .int v1), (2, .int v2)]) (by decide) rfl (fun _ => Nat.le_of_ble_eq_true rfl) (fun _ => rfl) (fun κ K F => jf_X10_people K X v1 v2 F hr)
theorem jb_X10_remove_15 {κ : JK} (K : jOk 3 cX10_remove RX10 (some .int) 6 κ) (X : JX) {r : (Option Nat × Int32 × JX)} (F : jFin LX true (oT r) κ) (hr : b_X10_remove_15 X = some r) : J LX 3 κ X 15 [] [] := by
  unfold b_X10_remove_15 at hr
  exact j_throw K (is := 164) th_61_65 st_164 rfl dX10_remove_15 dX10_remove_18 dX10_remove_19 dX10_remove_21 dX10_remove_24 (Nat.le_of_ble_eq_true rfl) (by decide) F hr rfl
theorem jf_X10_remove {κ : JK} (K : jOk 3 cX10_remove RX10 (some .int) 6 κ) (X : JX) (v1 : Int32) {r : (Option Nat × Int32 × JX)} (F : jFin LX true (oT r) κ) (hr : f_X10_remove X v1 = some r) : J LX 3 κ X 0 [(0, .ref (jad κ (0))), (1, .int v1)] [] := by
  unfold f_X10_remove at hr
  refine j_iload_n K dX10_remove_0 1 rfl ?_
  refine j_if_eq K dX10_remove_1 (tgt := 15) (by decide) hr (fun hr => ?_) (fun hr => ?_)
  · exact j_sub [] rfl (jb_X10_remove_15 K _ F hr)
  · refine j_aload_n K dX10_remove_4 0 rfl ?_
    refine j_get K (v := .ref (jad κ (1))) fl_X10_10 rfl (Nat.le_of_ble_eq_true rfl) (by decide) rfl dX10_remove_5 ?_
    refine j_iload_n K dX10_remove_8 1 rfl ?_
    refine j_vI1 K (ci := 9) hr (fun v h => c_X9_isThere X v1 h) ml_X10_129 ⟨_, rfl, rfl⟩ rfl (Nat.le_of_ble_eq_true rfl) (by decide) rfl (by decide) (by decide) (Nat.le_of_ble_eq_true rfl) dX10_remove_9 (fun t1 h hr => ?_)
    refine j_if_ne K dX10_remove_12 (tgt := 25) (by decide) hr (fun hr => ?_) (fun hr => ?_)
    · refine j_aload_n K dX10_remove_25 0 rfl ?_
      refine j_get K (v := .ref (jad κ (11))) fl_X10_21 rfl (Nat.le_of_ble_eq_true rfl) (by decide) rfl dX10_remove_26 ?_
      refine j_iload_n K dX10_remove_29 1 rfl ?_
      refine j_iconst K dX10_remove_30 (v := 3) rfl ?_
      refine j_vU2 K (ci := 8) hr (fun v h => c_X8_tellAbove X v1 (3) h) ml_X10_94 ⟨_, rfl, rfl⟩ rfl (Nat.le_of_ble_eq_true rfl) (by decide) rfl (by decide) (by decide) (Nat.le_of_ble_eq_true rfl) dX10_remove_31 (fun X2 h hr => ?_)
      refine j_aload_n K dX10_remove_34 0 rfl ?_
      refine j_get K (v := .ref (jad κ (1))) fl_X10_10 rfl (Nat.le_of_ble_eq_true rfl) (by decide) rfl dX10_remove_35 ?_
      refine j_iload_n K dX10_remove_38 1 rfl ?_
      refine j_vM1 K (ci := 9) hr (fun v h => c_X9_takeAway X2 v1 h) ml_X10_166 ⟨_, rfl, rfl⟩ rfl (Nat.le_of_ble_eq_true rfl) (by decide) rfl (by decide) (by decide) (Nat.le_of_ble_eq_true rfl) dX10_remove_39 (fun t3 h hr => ?_)
      refine j_istore_n K dX10_remove_42 (by decide) ?_
      refine j_aload_n K dX10_remove_43 1 rfl ?_
      refine j_get K (v := .ref (jad κ (11))) fl_X10_21 rfl (Nat.le_of_ble_eq_true rfl) (by decide) rfl dX10_remove_44 ?_
      refine j_vM0 K (ci := 8) hr (fun v h => c_X8_endGone t3.2 h) ml_X10_169 ⟨_, rfl, rfl⟩ rfl (Nat.le_of_ble_eq_true rfl) (by decide) rfl (by decide) (by decide) (Nat.le_of_ble_eq_true rfl) dX10_remove_47 (fun t4 h hr => ?_)
      refine j_if_eq K dX10_remove_50 (tgt := 60) (by decide) hr (fun hr => ?_) (fun hr => ?_)
      · refine j_iload_n K dX10_remove_60 0 rfl ?_
        exact j_ireturn K dX10_remove_61 rfl F hr rfl
      · refine j_aload_n K dX10_remove_53 1 rfl ?_
        refine j_get K (v := .ref (jad κ (44))) fl_X10_46 rfl (Nat.le_of_ble_eq_true rfl) (by decide) rfl dX10_remove_54 ?_
        refine j_vU0 K (ci := 4) hr (fun v h => c_X4_lookAtAllEntries t4.2 h) ml_X10_172 ⟨_, rfl, rfl⟩ rfl (Nat.le_of_ble_eq_true rfl) (by decide) rfl (by decide) (by decide) (Nat.le_of_ble_eq_true rfl) dX10_remove_57 (fun X5 h hr => ?_)
        refine j_iload_n K dX10_remove_60 0 rfl ?_
        exact j_ireturn K dX10_remove_61 rfl F hr rfl
    · exact j_sub [] rfl (jb_X10_remove_15 K _ F hr)
theorem c_X10_remove (X : JX) (v1 : Int32) {r : (Option Nat × Int32 × JX)} (hr : f_X10_remove X v1 = some r) : CalX LX yX10_remove cX10_remove 3 (some .int) 6 (fun ad => [.ref (ad (0)), .int v1]) X (fun ad => oT r) :=
  CalX.of (own := RX10) (fun ad => [(0, .ref (ad (0))), (1, .int v1)]) (by decide) rfl (fun _ => Nat.le_of_ble_eq_true rfl) (fun _ => rfl) (fun κ K F => jf_X10_remove K X v1 F hr)
theorem jf_X10_segments {κ : JK} (K : jOk 1 cX10_segments RX10 (some .int) 2 κ) (X : JX) {r : Int32} (F : jFin LX false (oI X r) κ) (hr : f_X10_segments X = some r) : J LX 1 κ X 0 [(0, .ref (jad κ (0)))] [] := by
  unfold f_X10_segments at hr
  refine j_aload_n K dX10_segments_0 0 rfl ?_
  refine j_get K (v := .ref (jad κ (44))) fl_X10_46 rfl (Nat.le_of_ble_eq_true rfl) (by decide) rfl dX10_segments_1 ?_
  refine j_vI0 K (ci := 4) hr (fun v h => c_X4_countSegments X h) ml_X10_291 ⟨_, rfl, rfl⟩ rfl (Nat.le_of_ble_eq_true rfl) (by decide) rfl (by decide) (by decide) (Nat.le_of_ble_eq_true rfl) dX10_segments_4 (fun t1 h hr => ?_)
  exact j_ireturn K dX10_segments_7 rfl F hr rfl
theorem c_X10_segments (X : JX) {r : Int32} (hr : f_X10_segments X = some r) : Cal LX yX10_segments cX10_segments 1 (some .int) 2 (fun ad => [.ref (ad (0))]) X (fun ad => oI X r) :=
  Cal.of (own := RX10) (fun ad => [(0, .ref (ad (0)))]) (by decide) rfl (fun _ => Nat.le_of_ble_eq_true rfl) (fun _ => rfl) (fun κ K F => jf_X10_segments K X F hr)
theorem jf_X10_stale {κ : JK} (K : jOk 1 cX10_stale RX10 (some .int) 4 κ) (X : JX) {r : Int32} (F : jFin LX false (oI X r) κ) (hr : f_X10_stale X = some r) : J LX 1 κ X 0 [(0, .ref (jad κ (0)))] [] := by
  unfold f_X10_stale at hr
  refine j_aload_n K dX10_stale_0 0 rfl ?_
  refine j_get K (v := .ref (jad κ (35))) fl_X10_37 rfl (Nat.le_of_ble_eq_true rfl) (by decide) rfl dX10_stale_1 ?_
  refine j_vI0 K (ci := 2) hr (fun v h => c_X2_countStale X h) ml_X10_288 ⟨_, rfl, rfl⟩ rfl (Nat.le_of_ble_eq_true rfl) (by decide) rfl (by decide) (by decide) (Nat.le_of_ble_eq_true rfl) dX10_stale_4 (fun t1 h hr => ?_)
  exact j_ireturn K dX10_stale_7 rfl F hr rfl
theorem c_X10_stale (X : JX) {r : Int32} (hr : f_X10_stale X = some r) : Cal LX yX10_stale cX10_stale 1 (some .int) 4 (fun ad => [.ref (ad (0))]) X (fun ad => oI X r) :=
  Cal.of (own := RX10) (fun ad => [(0, .ref (ad (0)))]) (by decide) rfl (fun _ => Nat.le_of_ble_eq_true rfl) (fun _ => rfl) (fun κ K F => jf_X10_stale K X F hr)
theorem jf_X10_twice {κ : JK} (K : jOk 3 cX10_twice RX10 (some .int) 6 κ) (X : JX) (v1 : Int32) {r : (Option Nat × Int32 × JX)} (F : jFin LX true (oT r) κ) (hr : f_X10_twice X v1 = some r) : J LX 3 κ X 0 [(0, .ref (jad κ (0))), (1, .int v1)] [] := by
  unfold f_X10_twice at hr
  refine j_aload_n K dX10_twice_0 0 rfl ?_
  refine j_get K (v := .ref (jad κ (11))) fl_X10_21 rfl (Nat.le_of_ble_eq_true rfl) (by decide) rfl dX10_twice_1 ?_
  refine j_iload_n K dX10_twice_4 1 rfl ?_
  refine j_vO1 K (ci := 8) hr (fun v h => c_X8_find X v1 h) ml_X10_201 ⟨_, rfl, rfl⟩ rfl (Nat.le_of_ble_eq_true rfl) (by decide) rfl (by decide) (by decide) (Nat.le_of_ble_eq_true rfl) dX10_twice_5 (fun h hr => ?_) (fun q2 h hr => ?_)
  · refine j_astore_nN K dX10_twice_8 (by decide) ?_
    refine j_aload_nN K dX10_twice_9 0 rfl ?_
    refine j_ifnonnullN K dX10_twice_10 ?_
    exact j_throw K (is := 215) th_61_65 st_215 rfl dX10_twice_13 dX10_twice_16 dX10_twice_17 dX10_twice_19 dX10_twice_22 (Nat.le_of_ble_eq_true rfl) (by decide) F hr rfl
  · refine j_guard hr (fun hq2 hr => ?_)
    refine j_astore_n K dX10_twice_8 (by decide) ?_
    refine j_aload_n K dX10_twice_9 0 rfl ?_
    refine j_ifnonnull K dX10_twice_10 (tgt := 23) (by decide) ?_
    refine j_aload_n K dX10_twice_23 0 rfl ?_
    refine j_vI0 K (ci := 7) hr (fun v h => c_X7_hasNotices X q2 hq2 h) ml_X10_220 ⟨_, rfl, rfl⟩ (rt0 hq2) (rt0l hq2) (by decide) rfl (by decide) (by decide) (Nat.le_of_ble_eq_true rfl) dX10_twice_24 (fun t3 h hr => ?_)
    refine j_if_ne K dX10_twice_27 (tgt := 40) (by decide) hr (fun hr => ?_) (fun hr => ?_)
    · refine j_aload_n K dX10_twice_40 0 rfl ?_
      refine j_vU0 K (ci := 7) hr (fun v h => c_X7_tellLastAgain X q2 hq2 h) ml_X10_225 ⟨_, rfl, rfl⟩ (rt0 hq2) (rt0l hq2) (by decide) rfl (by decide) (by decide) (Nat.le_of_ble_eq_true rfl) dX10_twice_41 (fun X4 h hr => ?_)
      refine j_aload_n K dX10_twice_44 0 rfl ?_
      refine j_vI0 K (ci := 7) hr (fun v h => c_X7_countOrFlood X4 q2 hq2 h) ml_X10_217 ⟨_, rfl, rfl⟩ (rt0 hq2) (rt0l hq2) (by decide) rfl (by decide) (by decide) (Nat.le_of_ble_eq_true rfl) dX10_twice_45 (fun t5 h hr => ?_)
      exact j_ireturn K dX10_twice_48 rfl F hr rfl
    · exact j_throw K (is := 223) th_85_89 st_223 rfl dX10_twice_30 dX10_twice_33 dX10_twice_34 dX10_twice_36 dX10_twice_39 (Nat.le_of_ble_eq_true rfl) (by decide) F hr rfl
theorem c_X10_twice (X : JX) (v1 : Int32) {r : (Option Nat × Int32 × JX)} (hr : f_X10_twice X v1 = some r) : CalX LX yX10_twice cX10_twice 3 (some .int) 6 (fun ad => [.ref (ad (0)), .int v1]) X (fun ad => oT r) :=
  CalX.of (own := RX10) (fun ad => [(0, .ref (ad (0))), (1, .int v1)]) (by decide) rfl (fun _ => Nat.le_of_ble_eq_true rfl) (fun _ => rfl) (fun κ K F => jf_X10_twice K X v1 F hr)
theorem jb_X10_watch_87 {κ : JK} (K : jOk 2 cX10_watch RX10 (some .int) 6 κ) (X : JX) {r : (Option Nat × Int32 × JX)} (F : jFin LX true (oT r) κ) (hr : b_X10_watch_87 X = some r) : J LX 2 κ X 87 [] [] := by
  unfold b_X10_watch_87 at hr
  exact j_throw K (is := 211) th_85_89 st_211 rfl dX10_watch_87 dX10_watch_90 dX10_watch_91 dX10_watch_93 dX10_watch_96 (Nat.le_of_ble_eq_true rfl) (by decide) F hr rfl
theorem jf_X10_watch {κ : JK} (K : jOk 2 cX10_watch RX10 (some .int) 6 κ) (X : JX) (v1 : Int32) {r : (Option Nat × Int32 × JX)} (F : jFin LX true (oT r) κ) (hr : f_X10_watch X v1 = some r) : J LX 2 κ X 0 [(0, .ref (jad κ (0))), (1, .int v1)] [] := by
  unfold f_X10_watch at hr
  refine j_aload_n K dX10_watch_0 0 rfl ?_
  refine j_get K (v := .ref (jad κ (1))) fl_X10_10 rfl (Nat.le_of_ble_eq_true rfl) (by decide) rfl dX10_watch_1 ?_
  refine j_iload_n K dX10_watch_4 1 rfl ?_
  refine j_vI1 K (ci := 9) hr (fun v h => c_X9_isFolder X v1 h) ml_X10_57 ⟨_, rfl, rfl⟩ rfl (Nat.le_of_ble_eq_true rfl) (by decide) rfl (by decide) (by decide) (Nat.le_of_ble_eq_true rfl) dX10_watch_5 (fun t1 h hr => ?_)
  refine j_if_ne K dX10_watch_8 (tgt := 21) (by decide) hr (fun hr => ?_) (fun hr => ?_)
  · refine j_aload_n K dX10_watch_21 0 rfl ?_
    refine j_get K (v := .ref (jad κ (11))) fl_X10_21 rfl (Nat.le_of_ble_eq_true rfl) (by decide) rfl dX10_watch_22 ?_
    refine j_iload_n K dX10_watch_25 1 rfl ?_
    refine j_vO1 K (ci := 8) hr (fun v h => c_X8_find X v1 h) ml_X10_201 ⟨_, rfl, rfl⟩ rfl (Nat.le_of_ble_eq_true rfl) (by decide) rfl (by decide) (by decide) (Nat.le_of_ble_eq_true rfl) dX10_watch_26 (fun h hr => ?_) (fun q3 h hr => ?_)
    · refine j_ifnullN K dX10_watch_29 (tgt := 55) (by decide) ?_
      refine j_aload_n K dX10_watch_55 0 rfl ?_
      refine j_get K (v := .ref (jad κ (11))) fl_X10_21 rfl (Nat.le_of_ble_eq_true rfl) (by decide) rfl dX10_watch_56 ?_
      refine j_vI0 K (ci := 8) hr (fun v h => c_X8_isFull X h) ml_X10_210 ⟨_, rfl, rfl⟩ rfl (Nat.le_of_ble_eq_true rfl) (by decide) rfl (by decide) (by decide) (Nat.le_of_ble_eq_true rfl) dX10_watch_59 (fun t4 h hr => ?_)
      refine j_if_ne K dX10_watch_62 (tgt := 87) (by decide) hr (fun hr => ?_) (fun hr => ?_)
      · exact j_sub [] rfl (jb_X10_watch_87 K _ F hr)
      · refine j_aload_n K dX10_watch_65 0 rfl ?_
        refine j_get K (v := .ref (jad κ (11))) fl_X10_21 rfl (Nat.le_of_ble_eq_true rfl) (by decide) rfl dX10_watch_66 ?_
        refine j_iload_n K dX10_watch_69 1 rfl ?_
        refine j_vO1 K (ci := 8) hr (fun v h => c_X8_holding X v1 h) ml_X10_140 ⟨_, rfl, rfl⟩ rfl (Nat.le_of_ble_eq_true rfl) (by decide) rfl (by decide) (by decide) (Nat.le_of_ble_eq_true rfl) dX10_watch_70 (fun h hr => ?_) (fun q6 h hr => ?_)
        · refine j_ifnonnullN K dX10_watch_73 ?_
          refine j_aload_n K dX10_watch_76 0 rfl ?_
          refine j_get K (v := .ref (jad κ (11))) fl_X10_21 rfl (Nat.le_of_ble_eq_true rfl) (by decide) rfl dX10_watch_77 ?_
          refine j_iload_n K dX10_watch_80 1 rfl ?_
          refine j_vI1 K (ci := 8) hr (fun v h => c_X8_hasAtOrBelow X v1 h) ml_X10_144 ⟨_, rfl, rfl⟩ rfl (Nat.le_of_ble_eq_true rfl) (by decide) rfl (by decide) (by decide) (Nat.le_of_ble_eq_true rfl) dX10_watch_81 (fun t7 h hr => ?_)
          refine j_if_eq K dX10_watch_84 (tgt := 97) (by decide) hr (fun hr => ?_) (fun hr => ?_)
          · refine j_aload_n K dX10_watch_97 0 rfl ?_
            refine j_get K (v := .ref (jad κ (11))) fl_X10_21 rfl (Nat.le_of_ble_eq_true rfl) (by decide) rfl dX10_watch_98 ?_
            refine j_iload_n K dX10_watch_101 1 rfl ?_
            refine j_vU1 K (ci := 8) hr (fun v h => c_X8_add X v1 h) ml_X10_213 ⟨_, rfl, rfl⟩ rfl (Nat.le_of_ble_eq_true rfl) (by decide) rfl (by decide) (by decide) (Nat.le_of_ble_eq_true rfl) dX10_watch_102 (fun X8 h hr => ?_)
            refine j_aload_n K dX10_watch_105 0 rfl ?_
            refine j_get K (v := .ref (jad κ (11))) fl_X10_21 rfl (Nat.le_of_ble_eq_true rfl) (by decide) rfl dX10_watch_106 ?_
            refine j_vI0 K (ci := 8) hr (fun v h => c_X8_count X8 h) ml_X10_207 ⟨_, rfl, rfl⟩ rfl (Nat.le_of_ble_eq_true rfl) (by decide) rfl (by decide) (by decide) (Nat.le_of_ble_eq_true rfl) dX10_watch_109 (fun t9 h hr => ?_)
            exact j_ireturn K dX10_watch_112 rfl F hr rfl
          · exact j_sub [] rfl (jb_X10_watch_87 K _ F hr)
        · refine j_guard hr (fun hq6 hr => ?_)
          refine j_ifnonnull K dX10_watch_73 (tgt := 87) (by decide) ?_
          exact j_sub [] rfl (jb_X10_watch_87 K _ F hr)
    · refine j_guard hr (fun hq3 hr => ?_)
      refine j_ifnull K dX10_watch_29 ?_
      refine j_aload_n K dX10_watch_32 0 rfl ?_
      refine j_get K (v := .ref (jad κ (11))) fl_X10_21 rfl (Nat.le_of_ble_eq_true rfl) (by decide) rfl dX10_watch_33 ?_
      refine j_iload_n K dX10_watch_36 1 rfl ?_
      refine j_vU1 K (ci := 8) hr (fun v h => c_X8_end X v1 h) ml_X10_204 ⟨_, rfl, rfl⟩ rfl (Nat.le_of_ble_eq_true rfl) (by decide) rfl (by decide) (by decide) (Nat.le_of_ble_eq_true rfl) dX10_watch_37 (fun X10 h hr => ?_)
      refine j_aload_n K dX10_watch_40 0 rfl ?_
      refine j_get K (v := .ref (jad κ (44))) fl_X10_46 rfl (Nat.le_of_ble_eq_true rfl) (by decide) rfl dX10_watch_41 ?_
      refine j_vU0 K (ci := 4) hr (fun v h => c_X4_lookAtAllEntries X10 h) ml_X10_172 ⟨_, rfl, rfl⟩ rfl (Nat.le_of_ble_eq_true rfl) (by decide) rfl (by decide) (by decide) (Nat.le_of_ble_eq_true rfl) dX10_watch_44 (fun X11 h hr => ?_)
      refine j_aload_n K dX10_watch_47 0 rfl ?_
      refine j_get K (v := .ref (jad κ (11))) fl_X10_21 rfl (Nat.le_of_ble_eq_true rfl) (by decide) rfl dX10_watch_48 ?_
      refine j_vI0 K (ci := 8) hr (fun v h => c_X8_count X11 h) ml_X10_207 ⟨_, rfl, rfl⟩ rfl (Nat.le_of_ble_eq_true rfl) (by decide) rfl (by decide) (by decide) (Nat.le_of_ble_eq_true rfl) dX10_watch_51 (fun t12 h hr => ?_)
      exact j_ireturn K dX10_watch_54 rfl F hr rfl
  · exact j_throw K (is := 63) th_61_65 st_63 rfl dX10_watch_11 dX10_watch_14 dX10_watch_15 dX10_watch_17 dX10_watch_20 (Nat.le_of_ble_eq_true rfl) (by decide) F hr rfl
theorem c_X10_watch (X : JX) (v1 : Int32) {r : (Option Nat × Int32 × JX)} (hr : f_X10_watch X v1 = some r) : CalX LX yX10_watch cX10_watch 2 (some .int) 6 (fun ad => [.ref (ad (0)), .int v1]) X (fun ad => oT r) :=
  CalX.of (own := RX10) (fun ad => [(0, .ref (ad (0))), (1, .int v1)]) (by decide) rfl (fun _ => Nat.le_of_ble_eq_true rfl) (fun _ => rfl) (fun κ K F => jf_X10_watch K X v1 F hr)
theorem jb_X10_work_12 {κ : JK} (K : jOk 3 cX10_work RX10 (some .int) 7 κ) (X : JX) {r : (Option Nat × Int32 × JX)} (F : jFin LX true (oT r) κ) (hr : b_X10_work_12 X = some r) : J LX 3 κ X 12 [] [] := by
  unfold b_X10_work_12 at hr
  exact j_throwW K (is := 257) th_72_76 st_257 rfl dX10_work_12 dX10_work_15 dX10_work_16 dX10_work_19 dX10_work_22 (Nat.le_of_ble_eq_true rfl) (by decide) F hr rfl
theorem jf_X10_work {κ : JK} (K : jOk 3 cX10_work RX10 (some .int) 7 κ) (X : JX) (v1 : Int32) {r : (Option Nat × Int32 × JX)} (F : jFin LX true (oT r) κ) (hr : f_X10_work X v1 = some r) : J LX 3 κ X 0 [(0, .ref (jad κ (0))), (1, .int v1)] [] := by
  unfold f_X10_work at hr
  refine j_iload_n K dX10_work_0 1 rfl ?_
  refine j_iconst K dX10_work_1 (v := 1) rfl ?_
  refine j_icmp_lt K dX10_work_2 (tgt := 12) (by decide) hr (fun hr => ?_) (fun hr => ?_)
  · exact j_sub [] rfl (jb_X10_work_12 K _ F hr)
  · refine j_iload_n K dX10_work_5 1 rfl ?_
    refine j_sipush K dX10_work_6 (v := 500) rfl ?_
    refine j_icmp_le K dX10_work_9 (tgt := 23) (by decide) hr (fun hr => ?_) (fun hr => ?_)
    · refine j_aload_n K dX10_work_23 0 rfl ?_
      refine j_get K (v := .int (X (0) 7)) fl_X10_245 rfl (Nat.le_of_ble_eq_true rfl) (by decide) rfl dX10_work_24 ?_
      refine j_if_ne K dX10_work_27 (tgt := 39) (by decide) hr (fun hr => ?_) (fun hr => ?_)
      · refine j_aload_n K dX10_work_39 0 rfl ?_
        refine j_get K (v := .ref (jad κ (44))) fl_X10_46 rfl (Nat.le_of_ble_eq_true rfl) (by decide) rfl dX10_work_40 ?_
        refine j_iload_n K dX10_work_43 1 rfl ?_
        refine j_bipush K dX10_work_44 (v := 20) rfl ?_
        refine j_aload_n K dX10_work_46 0 rfl ?_
        refine j_get K (v := .int (X (0) 8)) fl_X10_242 rfl (Nat.le_of_ble_eq_true rfl) (by decide) rfl dX10_work_47 ?_
        refine j_isub K dX10_work_50 ?_
        refine j_min K mm_X10_262 (by decide) (Nat.le_of_ble_eq_true rfl) dX10_work_51 ?_
        refine j_vM1 K (ci := 4) hr (fun v h => c_X4_doSteps X (if ((20) - (X (0) 8)) < v1 then ((20) - (X (0) 8)) else v1) h) ml_X10_259 ⟨_, rfl, rfl⟩ rfl (Nat.le_of_ble_eq_true rfl) (by decide) rfl (by decide) (by decide) (Nat.le_of_ble_eq_true rfl) dX10_work_54 (fun t1 h hr => ?_)
        refine j_istore_n K dX10_work_57 (by decide) ?_
        refine j_aload_n K dX10_work_58 1 rfl ?_
        refine j_dup K dX10_work_59 rfl ?_
        refine j_get K (v := .int (t1.2 (0) 8)) fl_X10_242 rfl (Nat.le_of_ble_eq_true rfl) (by decide) rfl dX10_work_60 ?_
        refine j_iload_n K dX10_work_63 0 rfl ?_
        refine j_iadd K dX10_work_64 ?_
        refine j_putiV K fp_X10_242 rfl (Nat.le_of_ble_eq_true rfl) (by decide) (fun _ => Nat.le_of_ble_eq_true rfl) (fun _ => rfl) dX10_work_65 hr (fun X2 hr => ?_)
        refine j_iload_n K dX10_work_68 0 rfl ?_
        exact j_ireturn K dX10_work_69 rfl F hr rfl
      · refine j_aload_n K dX10_work_30 0 rfl ?_
        refine j_get K (v := .ref (jad κ (44))) fl_X10_46 rfl (Nat.le_of_ble_eq_true rfl) (by decide) rfl dX10_work_31 ?_
        refine j_iload_n K dX10_work_34 1 rfl ?_
        refine j_vM1 K (ci := 4) hr (fun v h => c_X4_doSteps X v1 h) ml_X10_259 ⟨_, rfl, rfl⟩ rfl (Nat.le_of_ble_eq_true rfl) (by decide) rfl (by decide) (by decide) (Nat.le_of_ble_eq_true rfl) dX10_work_35 (fun t3 h hr => ?_)
        exact j_ireturn K dX10_work_38 rfl F hr rfl
    · exact j_sub [] rfl (jb_X10_work_12 K _ F hr)
theorem c_X10_work (X : JX) (v1 : Int32) {r : (Option Nat × Int32 × JX)} (hr : f_X10_work X v1 = some r) : CalX LX yX10_work cX10_work 3 (some .int) 7 (fun ad => [.ref (ad (0)), .int v1]) X (fun ad => oT r) :=
  CalX.of (own := RX10) (fun ad => [(0, .ref (ad (0))), (1, .int v1)]) (by decide) rfl (fun _ => Nat.le_of_ble_eq_true rfl) (fun _ => rfl) (fun κ K F => jf_X10_work K X v1 F hr)
theorem jb_X10_write_74 {κ : JK} (K : jOk 3 cX10_write RX10 (some .int) 6 κ) (X : JX) {r : (Option Nat × Int32 × JX)} (F : jFin LX true (oT r) κ) (hr : b_X10_write_74 X = some r) : J LX 3 κ X 74 [] [] := by
  unfold b_X10_write_74 at hr
  exact j_throw K (is := 115) th_85_89 st_115 rfl dX10_write_74 dX10_write_77 dX10_write_78 dX10_write_80 dX10_write_83 (Nat.le_of_ble_eq_true rfl) (by decide) F hr rfl
theorem jb_X10_write_50 {κ : JK} (K : jOk 3 cX10_write RX10 (some .int) 6 κ) (X : JX) (v1 : Int32) (v2 : Int32) {r : (Option Nat × Int32 × JX)} (F : jFin LX true (oT r) κ) (hr : b_X10_write_50 X v1 v2 = some r) : J LX 3 κ X 50 [(0, .ref (jad κ (0))), (1, .int v1), (2, .int v2)] [] := by
  unfold b_X10_write_50 at hr
  refine j_aload_n K dX10_write_50 0 rfl ?_
  refine j_get K (v := .ref (jad κ (1))) fl_X10_10 rfl (Nat.le_of_ble_eq_true rfl) (by decide) rfl dX10_write_51 ?_
  refine j_iload_n K dX10_write_54 1 rfl ?_
  refine j_vI1 K (ci := 9) hr (fun v h => c_X9_isLocked X v1 h) ml_X10_108 ⟨_, rfl, rfl⟩ rfl (Nat.le_of_ble_eq_true rfl) (by decide) rfl (by decide) (by decide) (Nat.le_of_ble_eq_true rfl) dX10_write_55 (fun t3 h hr => ?_)
  refine j_if_ne K dX10_write_58 (tgt := 74) (by decide) hr (fun hr => ?_) (fun hr => ?_)
  · exact j_sub [] rfl (jb_X10_write_74 K _ F hr)
  · refine j_aload_n K dX10_write_61 0 rfl ?_
    refine j_get K (v := .ref (jad κ (1))) fl_X10_10 rfl (Nat.le_of_ble_eq_true rfl) (by decide) rfl dX10_write_62 ?_
    refine j_iload_n K dX10_write_65 1 rfl ?_
    refine j_vI1 K (ci := 9) hr (fun v h => c_X9_lengthOf X v1 h) ml_X10_111 ⟨_, rfl, rfl⟩ rfl (Nat.le_of_ble_eq_true rfl) (by decide) rfl (by decide) (by decide) (Nat.le_of_ble_eq_true rfl) dX10_write_66 (fun t4 h hr => ?_)
    refine j_bipush K dX10_write_69 (v := 20) rfl ?_
    refine j_icmp_lt K dX10_write_71 (tgt := 84) (by decide) hr (fun hr => ?_) (fun hr => ?_)
    · refine j_aload_n K dX10_write_84 0 rfl ?_
      refine j_get K (v := .ref (jad κ (1))) fl_X10_10 rfl (Nat.le_of_ble_eq_true rfl) (by decide) rfl dX10_write_85 ?_
      refine j_iload_n K dX10_write_88 1 rfl ?_
      refine j_iload_n K dX10_write_89 2 rfl ?_
      refine j_vU2 K (ci := 9) hr (fun v h => c_X9_append X v1 v2 h) ml_X10_117 ⟨_, rfl, rfl⟩ rfl (Nat.le_of_ble_eq_true rfl) (by decide) rfl (by decide) (by decide) (Nat.le_of_ble_eq_true rfl) dX10_write_90 (fun X5 h hr => ?_)
      refine j_aload_n K dX10_write_93 0 rfl ?_
      refine j_get K (v := .ref (jad κ (11))) fl_X10_21 rfl (Nat.le_of_ble_eq_true rfl) (by decide) rfl dX10_write_94 ?_
      refine j_iload_n K dX10_write_97 1 rfl ?_
      refine j_iconst K dX10_write_98 (v := 2) rfl ?_
      refine j_vU2 K (ci := 8) hr (fun v h => c_X8_tellAbove X5 v1 (2) h) ml_X10_94 ⟨_, rfl, rfl⟩ rfl (Nat.le_of_ble_eq_true rfl) (by decide) rfl (by decide) (by decide) (Nat.le_of_ble_eq_true rfl) dX10_write_99 (fun X6 h hr => ?_)
      refine j_aload_n K dX10_write_102 0 rfl ?_
      refine j_get K (v := .ref (jad κ (1))) fl_X10_10 rfl (Nat.le_of_ble_eq_true rfl) (by decide) rfl dX10_write_103 ?_
      refine j_iload_n K dX10_write_106 1 rfl ?_
      refine j_vI1 K (ci := 9) hr (fun v h => c_X9_editionOf X6 v1 h) ml_X10_120 ⟨_, rfl, rfl⟩ rfl (Nat.le_of_ble_eq_true rfl) (by decide) rfl (by decide) (by decide) (Nat.le_of_ble_eq_true rfl) dX10_write_107 (fun t7 h hr => ?_)
      exact j_ireturn K dX10_write_110 rfl F hr rfl
    · exact j_sub [] rfl (jb_X10_write_74 K _ F hr)
theorem jf_X10_write {κ : JK} (K : jOk 3 cX10_write RX10 (some .int) 6 κ) (X : JX) (v1 : Int32) (v2 : Int32) {r : (Option Nat × Int32 × JX)} (F : jFin LX true (oT r) κ) (hr : f_X10_write X v1 v2 = some r) : J LX 3 κ X 0 [(0, .ref (jad κ (0))), (1, .int v1), (2, .int v2)] [] := by
  unfold f_X10_write at hr
  refine j_aload_n K dX10_write_0 0 rfl ?_
  refine j_get K (v := .ref (jad κ (1))) fl_X10_10 rfl (Nat.le_of_ble_eq_true rfl) (by decide) rfl dX10_write_1 ?_
  refine j_iload_n K dX10_write_4 1 rfl ?_
  refine j_vI1 K (ci := 9) hr (fun v h => c_X9_isFile X v1 h) ml_X10_98 ⟨_, rfl, rfl⟩ rfl (Nat.le_of_ble_eq_true rfl) (by decide) rfl (by decide) (by decide) (Nat.le_of_ble_eq_true rfl) dX10_write_5 (fun t1 h hr => ?_)
  refine j_if_ne K dX10_write_8 (tgt := 21) (by decide) hr (fun hr => ?_) (fun hr => ?_)
  · refine j_iload_n K dX10_write_21 2 rfl ?_
    refine j_sI1 K hr (fun v h => c_X10_isWord X v2 h) ms_X10_103 rfl (by decide) (by decide) (Nat.le_of_ble_eq_true rfl) dX10_write_22 (fun t2 h hr => ?_)
    refine j_if_ne K dX10_write_25 (tgt := 50) (by decide) hr (fun hr => ?_) (fun hr => ?_)
    · exact j_sub [0, 1, 2] rfl (jb_X10_write_50 K _ _ _ F hr)
    · refine j_iload_n K dX10_write_28 2 rfl ?_
      refine j_bipush K dX10_write_29 (v := -2) rfl ?_
      refine j_icmp_eq K dX10_write_31 (tgt := 50) (by decide) hr (fun hr => ?_) (fun hr => ?_)
      · exact j_sub [0, 1, 2] rfl (jb_X10_write_50 K _ _ _ F hr)
      · refine j_iload_n K dX10_write_34 2 rfl ?_
        refine j_bipush K dX10_write_35 (v := -3) rfl ?_
        refine j_icmp_eq K dX10_write_37 (tgt := 50) (by decide) hr (fun hr => ?_) (fun hr => ?_)
        · exact j_sub [0, 1, 2] rfl (jb_X10_write_50 K _ _ _ F hr)
        · exact j_throw K (is := 106) th_72_76 st_106 rfl dX10_write_40 dX10_write_43 dX10_write_44 dX10_write_46 dX10_write_49 (Nat.le_of_ble_eq_true rfl) (by decide) F hr rfl
  · exact j_throw K (is := 101) th_61_65 st_101 rfl dX10_write_11 dX10_write_14 dX10_write_15 dX10_write_17 dX10_write_20 (Nat.le_of_ble_eq_true rfl) (by decide) F hr rfl
theorem c_X10_write (X : JX) (v1 : Int32) (v2 : Int32) {r : (Option Nat × Int32 × JX)} (hr : f_X10_write X v1 v2 = some r) : CalX LX yX10_write cX10_write 3 (some .int) 6 (fun ad => [.ref (ad (0)), .int v1, .int v2]) X (fun ad => oT r) :=
  CalX.of (own := RX10) (fun ad => [(0, .ref (ad (0))), (1, .int v1), (2, .int v2)]) (by decide) rfl (fun _ => Nat.le_of_ble_eq_true rfl) (fun _ => rfl) (fun κ K F => jf_X10_write K X v1 v2 F hr)

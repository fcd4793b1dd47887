theorem wO_176 {ad : Nat → Nat} {cA : Nat → ClassId} {o : Nat} {rs : va_W} {X : JX} {g : Nat → Int64} : (wO ad cA o rs X g)[176]? = some (lC o cA g) := by
  unfold wO
  rw [List.getElem?_append_right (by rw [wZ_len]; exact Nat.le_refl _), wZ_len]
  rfl
theorem wO_set {ad : Nat → Nat} {cA : Nat → ClassId} {o : Nat} {rs : va_W} {X : JX} {g g' : Nat → Int64} : (wO ad cA o rs X g).set 176 (lC o cA g') = wO ad cA o rs X g' := by
  unfold wO
  rw [List.set_append_right _ _ (by rw [wZ_len]; exact Nat.le_refl _), wZ_len]
  rfl
theorem lk_13 : Cond.classLink RL 13 (excN 1) ∈ gTbl := gTbl_at (i := 496) (by decide +kernel) rfl
theorem lk_15 : Cond.classLink RL 15 (excN 2) ∈ gTbl := gTbl_at (i := 497) (by decide +kernel) rfl
theorem lk_17 : Cond.classLink RL 17 (excN 3) ∈ gTbl := gTbl_at (i := 498) (by decide +kernel) rfl
theorem mlw_make : MLk RL 7 yX10_make cX10_make 5 (some .int) 3 := MLk.of 499 500 501 62 502 (by decide +kernel) (by decide +kernel) (by decide +kernel) (by decide +kernel) (by decide +kernel) ⟨(by decide +kernel), (by decide +kernel), (by decide +kernel)⟩
theorem mlw_write : MLk RL 19 yX10_write cX10_write 3 (some .int) 2 := MLk.of 634 635 636 62 637 (by decide +kernel) (by decide +kernel) (by decide +kernel) (by decide +kernel) (by decide +kernel) ⟨(by decide +kernel), (by decide +kernel), (by decide +kernel)⟩
theorem mlw_empty : MLk RL 23 yX10_empty cX10_empty 3 (some .int) 1 := MLk.of 663 664 665 62 666 (by decide +kernel) (by decide +kernel) (by decide +kernel) (by decide +kernel) (by decide +kernel) ⟨(by decide +kernel), (by decide +kernel), (by decide +kernel)⟩
theorem mlw_move : MLk RL 27 yX10_move cX10_move 8 (some .int) 3 := MLk.of 675 676 677 62 678 (by decide +kernel) (by decide +kernel) (by decide +kernel) (by decide +kernel) (by decide +kernel) ⟨(by decide +kernel), (by decide +kernel), (by decide +kernel)⟩
theorem mlw_remove : MLk RL 31 yX10_remove cX10_remove 3 (some .int) 1 := MLk.of 708 709 710 62 711 (by decide +kernel) (by decide +kernel) (by decide +kernel) (by decide +kernel) (by decide +kernel) ⟨(by decide +kernel), (by decide +kernel), (by decide +kernel)⟩
theorem mlw_lock : MLk RL 34 yX10_lock cX10_lock 4 (some .boolean) 2 := MLk.of 739 740 741 62 742 (by decide +kernel) (by decide +kernel) (by decide +kernel) (by decide +kernel) (by decide +kernel) ⟨(by decide +kernel), (by decide +kernel), (by decide +kernel)⟩
theorem mlw_people : MLk RL 38 yX10_people cX10_people 4 (some .int) 2 := MLk.of 750 751 752 62 753 (by decide +kernel) (by decide +kernel) (by decide +kernel) (by decide +kernel) (by decide +kernel) ⟨(by decide +kernel), (by decide +kernel), (by decide +kernel)⟩
theorem mlw_mayRead : MLk RL 41 yX10_mayRead cX10_mayRead 3 (some .boolean) 2 := MLk.of 767 768 769 62 770 (by decide +kernel) (by decide +kernel) (by decide +kernel) (by decide +kernel) (by decide +kernel) ⟨(by decide +kernel), (by decide +kernel), (by decide +kernel)⟩
theorem mlw_watch : MLk RL 45 yX10_watch cX10_watch 2 (some .int) 1 := MLk.of 783 784 785 62 786 (by decide +kernel) (by decide +kernel) (by decide +kernel) (by decide +kernel) (by decide +kernel) ⟨(by decide +kernel), (by decide +kernel), (by decide +kernel)⟩
theorem mlw_notices : MLk RL 48 yX10_notices cX10_notices 3 (some .int) 1 := MLk.of 821 822 823 62 824 (by decide +kernel) (by decide +kernel) (by decide +kernel) (by decide +kernel) (by decide +kernel) ⟨(by decide +kernel), (by decide +kernel), (by decide +kernel)⟩
theorem mlw_twice : MLk RL 51 yX10_twice cX10_twice 3 (some .int) 1 := MLk.of 833 834 835 62 836 (by decide +kernel) (by decide +kernel) (by decide +kernel) (by decide +kernel) (by decide +kernel) ⟨(by decide +kernel), (by decide +kernel), (by decide +kernel)⟩
theorem mlw_lose : MLk RL 54 yX10_lose cX10_lose 4 (some .int) 2 := MLk.of 847 848 849 62 850 (by decide +kernel) (by decide +kernel) (by decide +kernel) (by decide +kernel) (by decide +kernel) ⟨(by decide +kernel), (by decide +kernel), (by decide +kernel)⟩
theorem mlw_pass : MLk RL 57 yX10_pass cX10_pass 3 (some .int) 1 := MLk.of 862 863 864 62 865 (by decide +kernel) (by decide +kernel) (by decide +kernel) (by decide +kernel) (by decide +kernel) ⟨(by decide +kernel), (by decide +kernel), (by decide +kernel)⟩
theorem mlw_limits : MLk RL 60 yX10_limits cX10_limits 4 (some .int) 2 := MLk.of 872 873 874 62 875 (by decide +kernel) (by decide +kernel) (by decide +kernel) (by decide +kernel) (by decide +kernel) ⟨(by decide +kernel), (by decide +kernel), (by decide +kernel)⟩
theorem mlw_work : MLk RL 63 yX10_work cX10_work 3 (some .int) 1 := MLk.of 880 881 882 62 883 (by decide +kernel) (by decide +kernel) (by decide +kernel) (by decide +kernel) (by decide +kernel) ⟨(by decide +kernel), (by decide +kernel), (by decide +kernel)⟩
theorem mlw_crawl : MLk RL 66 yX10_crawl cX10_crawl 3 (some .int) 1 := MLk.of 1053 1054 1055 62 1056 (by decide +kernel) (by decide +kernel) (by decide +kernel) (by decide +kernel) (by decide +kernel) ⟨(by decide +kernel), (by decide +kernel), (by decide +kernel)⟩
theorem mlw_edition : MLk RL 69 yX10_edition cX10_edition 2 (some .int) 1 := MLk.of 1061 1062 1063 62 1064 (by decide +kernel) (by decide +kernel) (by decide +kernel) (by decide +kernel) (by decide +kernel) ⟨(by decide +kernel), (by decide +kernel), (by decide +kernel)⟩
theorem mlw_answers : MLk RL 72 yX10_answers cX10_answers 5 (some .int) 4 := MLk.of 1074 1075 1076 62 1077 (by decide +kernel) (by decide +kernel) (by decide +kernel) (by decide +kernel) (by decide +kernel) ⟨(by decide +kernel), (by decide +kernel), (by decide +kernel)⟩
theorem mlw_answersAnew : MLk RL 76 yX10_answersAnew cX10_answersAnew 5 (some .int) 4 := MLk.of 1110 1111 1112 62 1113 (by decide +kernel) (by decide +kernel) (by decide +kernel) (by decide +kernel) (by decide +kernel) ⟨(by decide +kernel), (by decide +kernel), (by decide +kernel)⟩
theorem mlw_answer : MLk RL 79 yX10_answer cX10_answer 6 (some .int) 4 := MLk.of 1130 1131 1132 62 1133 (by decide +kernel) (by decide +kernel) (by decide +kernel) (by decide +kernel) (by decide +kernel) ⟨(by decide +kernel), (by decide +kernel), (by decide +kernel)⟩
theorem mlw_closest : MLk RL 82 yX10_closest cX10_closest 5 (some .int) 4 := MLk.of 1147 1148 1149 62 1150 (by decide +kernel) (by decide +kernel) (by decide +kernel) (by decide +kernel) (by decide +kernel) ⟨(by decide +kernel), (by decide +kernel), (by decide +kernel)⟩
theorem cw_make (X X' : JX) (v1 : Int32) (v2 : Int32) (v3 : Int32) (g : Nat → Int64) {e : Option Nat} {v res : Int32} (hf : f_X10_make X v1 v2 v3 = some (e, v, X')) (hw : wc [1, 2, 3] e = some res) : CalW yL_make cL_make 6 [(0, 12, 15, 13), (0, 12, 19, 15), (0, 12, 23, 17)] 7 [.int v1, .int v2, .int v3] X X' g (if e = none then vp_updL g 0 v.toInt64 else g) res := by
  refine CalW.of (own := RL) (fun ad o => [(0, .ref (ad 0)), (1, .int v1), (2, .int v2), (3, .int v3), (4, .ref o)]) (by decide) rfl (fun _ _ => Nat.le_of_ble_eq_true rfl) (fun _ _ => rfl) (fun κ ad o rs K F => ?_)
  refine jc_aload K dL_make_0 4 rfl ?_
  refine jc_iconst K dL_make_2 (v := 0) rfl ?_
  refine jc_aload_n K dL_make_3 0 rfl ?_
  refine jc_iload_n K dL_make_4 1 rfl ?_
  refine jc_iload_n K dL_make_5 2 rfl ?_
  refine jc_iload_n K dL_make_6 3 rfl ?_
  rcases e with _ | k9
  · have hr : (0 : Int32) = res := Option.some.inj hw
    subst hr
    refine jc_callXR K F (ci := 10) (k := 0) (As := [.int v1, .int v2, .int v3]) (c_X10_make X v1 v2 v3 hf) mlw_make ⟨_, rfl, rfl⟩ rfl (by decide) (by decide) rfl rfl (by decide) (by decide) (Nat.le_of_ble_eq_true rfl) rfl dL_make_7 ?_
    rw [if_pos rfl] at F
    refine jc_i2l K dL_make_10 ?_
    refine jc_lastore K (a := o) 176 (wO_176) (ws' := wO ad (jcA κ) o rs X' (vp_updL g 0 v.toInt64)) wO_set dL_make_11 ?_
    refine jc_goto K dL_make_12 (tgt := 27) (by decide) ?_
    refine jc_iconst K dL_make_27 (v := 0) rfl ?_
    exact jc_iretW K F rfl (by decide) (by decide) dL_make_28
  · rw [show (if (some k9 : Option Nat) = none then _ else g) = g from if_neg (by intro h; cases h)] at F
    by_cases h0 : k9 = 1
    · subst h0
      have hr : (1 : Int32) = res := Option.some.inj (show some (1 : Int32) = some res from hw)
      subst hr
      refine jc_callXT K F (ci := 10) (k := 0) (As := [.int v1, .int v2, .int v3]) (c_X10_make X v1 v2 v3 hf) mlw_make ⟨_, rfl, rfl⟩ rfl (by decide) (by decide) rfl rfl (by decide) (by decide) (Nat.le_of_ble_eq_true rfl) rfl dL_make_7 [] ⟨0, 12, 15, 13⟩ [⟨0, 12, 19, 15⟩, ⟨0, 12, 23, 17⟩] rfl (fun z hz => nomatch hz) rfl (by decide) lk_13 (by decide +kernel) (fun q => ?_)
      refine jc_astore K dL_make_15 (by decide) ?_
      refine jc_iconst K dL_make_17 (v := 1) rfl ?_
      exact jc_iretW K F rfl (by decide) (by decide) dL_make_18
    by_cases h1 : k9 = 2
    · subst h1
      have hr : (2 : Int32) = res := Option.some.inj (show some (2 : Int32) = some res from hw)
      subst hr
      refine jc_callXT K F (ci := 10) (k := 0) (As := [.int v1, .int v2, .int v3]) (c_X10_make X v1 v2 v3 hf) mlw_make ⟨_, rfl, rfl⟩ rfl (by decide) (by decide) rfl rfl (by decide) (by decide) (Nat.le_of_ble_eq_true rfl) rfl dL_make_7 [⟨0, 12, 15, 13⟩] ⟨0, 12, 19, 15⟩ [⟨0, 12, 23, 17⟩] rfl (by
        intro z hz
        simp only [List.mem_cons, List.not_mem_nil, or_false] at hz
        subst hz
        · exact ⟨by decide, _, lk_13, by decide +kernel⟩
        ) rfl (by decide) lk_15 (by decide +kernel) (fun q => ?_)
      refine jc_astore K dL_make_19 (by decide) ?_
      refine jc_iconst K dL_make_21 (v := 2) rfl ?_
      exact jc_iretW K F rfl (by decide) (by decide) dL_make_22
    by_cases h2 : k9 = 3
    · subst h2
      have hr : (3 : Int32) = res := Option.some.inj (show some (3 : Int32) = some res from hw)
      subst hr
      refine jc_callXT K F (ci := 10) (k := 0) (As := [.int v1, .int v2, .int v3]) (c_X10_make X v1 v2 v3 hf) mlw_make ⟨_, rfl, rfl⟩ rfl (by decide) (by decide) rfl rfl (by decide) (by decide) (Nat.le_of_ble_eq_true rfl) rfl dL_make_7 [⟨0, 12, 15, 13⟩, ⟨0, 12, 19, 15⟩] ⟨0, 12, 23, 17⟩ [] rfl (by
        intro z hz
        simp only [List.mem_cons, List.not_mem_nil, or_false] at hz
        rcases hz with rfl | rfl
        · exact ⟨by decide, _, lk_13, by decide +kernel⟩
        · exact ⟨by decide, _, lk_15, by decide +kernel⟩
        ) rfl (by decide) lk_17 (by decide +kernel) (fun q => ?_)
      refine jc_astore K dL_make_23 (by decide) ?_
      refine jc_iconst K dL_make_25 (v := 3) rfl ?_
      exact jc_iretW K F rfl (by decide) (by decide) dL_make_26
    exact absurd hw (by simp [wc, wcAt, h0, h1, h2])
theorem cw_write (X X' : JX) (v1 : Int32) (v2 : Int32) (g : Nat → Int64) {e : Option Nat} {v res : Int32} (hf : f_X10_write X v1 v2 = some (e, v, X')) (hw : wc [1, 2, 3] e = some res) : CalW yL_write cL_write 5 [(0, 10, 13, 13), (0, 10, 17, 15), (0, 10, 21, 17)] 7 [.int v1, .int v2] X X' g (if e = none then vp_updL g 0 v.toInt64 else g) res := by
  refine CalW.of (own := RL) (fun ad o => [(0, .ref (ad 0)), (1, .int v1), (2, .int v2), (3, .ref o)]) (by decide) rfl (fun _ _ => Nat.le_of_ble_eq_true rfl) (fun _ _ => rfl) (fun κ ad o rs K F => ?_)
  refine jc_aload_n K dL_write_0 3 rfl ?_
  refine jc_iconst K dL_write_1 (v := 0) rfl ?_
  refine jc_aload_n K dL_write_2 0 rfl ?_
  refine jc_iload_n K dL_write_3 1 rfl ?_
  refine jc_iload_n K dL_write_4 2 rfl ?_
  rcases e with _ | k9
  · have hr : (0 : Int32) = res := Option.some.inj hw
    subst hr
    refine jc_callXR K F (ci := 10) (k := 0) (As := [.int v1, .int v2]) (c_X10_write X v1 v2 hf) mlw_write ⟨_, rfl, rfl⟩ rfl (by decide) (by decide) rfl rfl (by decide) (by decide) (Nat.le_of_ble_eq_true rfl) rfl dL_write_5 ?_
    rw [if_pos rfl] at F
    refine jc_i2l K dL_write_8 ?_
    refine jc_lastore K (a := o) 176 (wO_176) (ws' := wO ad (jcA κ) o rs X' (vp_updL g 0 v.toInt64)) wO_set dL_write_9 ?_
    refine jc_goto K dL_write_10 (tgt := 25) (by decide) ?_
    refine jc_iconst K dL_write_25 (v := 0) rfl ?_
    exact jc_iretW K F rfl (by decide) (by decide) dL_write_26
  · rw [show (if (some k9 : Option Nat) = none then _ else g) = g from if_neg (by intro h; cases h)] at F
    by_cases h0 : k9 = 1
    · subst h0
      have hr : (1 : Int32) = res := Option.some.inj (show some (1 : Int32) = some res from hw)
      subst hr
      refine jc_callXT K F (ci := 10) (k := 0) (As := [.int v1, .int v2]) (c_X10_write X v1 v2 hf) mlw_write ⟨_, rfl, rfl⟩ rfl (by decide) (by decide) rfl rfl (by decide) (by decide) (Nat.le_of_ble_eq_true rfl) rfl dL_write_5 [] ⟨0, 10, 13, 13⟩ [⟨0, 10, 17, 15⟩, ⟨0, 10, 21, 17⟩] rfl (fun z hz => nomatch hz) rfl (by decide) lk_13 (by decide +kernel) (fun q => ?_)
      refine jc_astore K dL_write_13 (by decide) ?_
      refine jc_iconst K dL_write_15 (v := 1) rfl ?_
      exact jc_iretW K F rfl (by decide) (by decide) dL_write_16
    by_cases h1 : k9 = 2
    · subst h1
      have hr : (2 : Int32) = res := Option.some.inj (show some (2 : Int32) = some res from hw)
      subst hr
      refine jc_callXT K F (ci := 10) (k := 0) (As := [.int v1, .int v2]) (c_X10_write X v1 v2 hf) mlw_write ⟨_, rfl, rfl⟩ rfl (by decide) (by decide) rfl rfl (by decide) (by decide) (Nat.le_of_ble_eq_true rfl) rfl dL_write_5 [⟨0, 10, 13, 13⟩] ⟨0, 10, 17, 15⟩ [⟨0, 10, 21, 17⟩] rfl (by
        intro z hz
        simp only [List.mem_cons, List.not_mem_nil, or_false] at hz
        subst hz
        · exact ⟨by decide, _, lk_13, by decide +kernel⟩
        ) rfl (by decide) lk_15 (by decide +kernel) (fun q => ?_)
      refine jc_astore K dL_write_17 (by decide) ?_
      refine jc_iconst K dL_write_19 (v := 2) rfl ?_
      exact jc_iretW K F rfl (by decide) (by decide) dL_write_20
    by_cases h2 : k9 = 3
    · subst h2
      have hr : (3 : Int32) = res := Option.some.inj (show some (3 : Int32) = some res from hw)
      subst hr
      refine jc_callXT K F (ci := 10) (k := 0) (As := [.int v1, .int v2]) (c_X10_write X v1 v2 hf) mlw_write ⟨_, rfl, rfl⟩ rfl (by decide) (by decide) rfl rfl (by decide) (by decide) (Nat.le_of_ble_eq_true rfl) rfl dL_write_5 [⟨0, 10, 13, 13⟩, ⟨0, 10, 17, 15⟩] ⟨0, 10, 21, 17⟩ [] rfl (by
        intro z hz
        simp only [List.mem_cons, List.not_mem_nil, or_false] at hz
        rcases hz with rfl | rfl
        · exact ⟨by decide, _, lk_13, by decide +kernel⟩
        · exact ⟨by decide, _, lk_15, by decide +kernel⟩
        ) rfl (by decide) lk_17 (by decide +kernel) (fun q => ?_)
      refine jc_astore K dL_write_21 (by decide) ?_
      refine jc_iconst K dL_write_23 (v := 3) rfl ?_
      exact jc_iretW K F rfl (by decide) (by decide) dL_write_24
    exact absurd hw (by simp [wc, wcAt, h0, h1, h2])
theorem cw_empty (X X' : JX) (v1 : Int32) (g : Nat → Int64) {e : Option Nat} {v res : Int32} (hf : f_X10_empty X v1 = some (e, v, X')) (hw : wc [1, 3] e = some res) : CalW yL_empty cL_empty 4 [(0, 9, 12, 13), (0, 9, 15, 17)] 7 [.int v1] X X' g (if e = none then vp_updL g 0 v.toInt64 else g) res := by
  refine CalW.of (own := RL) (fun ad o => [(0, .ref (ad 0)), (1, .int v1), (2, .ref o)]) (by decide) rfl (fun _ _ => Nat.le_of_ble_eq_true rfl) (fun _ _ => rfl) (fun κ ad o rs K F => ?_)
  refine jc_aload_n K dL_empty_0 2 rfl ?_
  refine jc_iconst K dL_empty_1 (v := 0) rfl ?_
  refine jc_aload_n K dL_empty_2 0 rfl ?_
  refine jc_iload_n K dL_empty_3 1 rfl ?_
  rcases e with _ | k9
  · have hr : (0 : Int32) = res := Option.some.inj hw
    subst hr
    refine jc_callXR K F (ci := 10) (k := 0) (As := [.int v1]) (c_X10_empty X v1 hf) mlw_empty ⟨_, rfl, rfl⟩ rfl (by decide) (by decide) rfl rfl (by decide) (by decide) (Nat.le_of_ble_eq_true rfl) rfl dL_empty_4 ?_
    rw [if_pos rfl] at F
    refine jc_i2l K dL_empty_7 ?_
    refine jc_lastore K (a := o) 176 (wO_176) (ws' := wO ad (jcA κ) o rs X' (vp_updL g 0 v.toInt64)) wO_set dL_empty_8 ?_
    refine jc_goto K dL_empty_9 (tgt := 18) (by decide) ?_
    refine jc_iconst K dL_empty_18 (v := 0) rfl ?_
    exact jc_iretW K F rfl (by decide) (by decide) dL_empty_19
  · rw [show (if (some k9 : Option Nat) = none then _ else g) = g from if_neg (by intro h; cases h)] at F
    by_cases h0 : k9 = 1
    · subst h0
      have hr : (1 : Int32) = res := Option.some.inj (show some (1 : Int32) = some res from hw)
      subst hr
      refine jc_callXT K F (ci := 10) (k := 0) (As := [.int v1]) (c_X10_empty X v1 hf) mlw_empty ⟨_, rfl, rfl⟩ rfl (by decide) (by decide) rfl rfl (by decide) (by decide) (Nat.le_of_ble_eq_true rfl) rfl dL_empty_4 [] ⟨0, 9, 12, 13⟩ [⟨0, 9, 15, 17⟩] rfl (fun z hz => nomatch hz) rfl (by decide) lk_13 (by decide +kernel) (fun q => ?_)
      refine jc_astore_n K dL_empty_12 (by decide) ?_
      refine jc_iconst K dL_empty_13 (v := 1) rfl ?_
      exact jc_iretW K F rfl (by decide) (by decide) dL_empty_14
    by_cases h1 : k9 = 3
    · subst h1
      have hr : (2 : Int32) = res := Option.some.inj (show some (2 : Int32) = some res from hw)
      subst hr
      refine jc_callXT K F (ci := 10) (k := 0) (As := [.int v1]) (c_X10_empty X v1 hf) mlw_empty ⟨_, rfl, rfl⟩ rfl (by decide) (by decide) rfl rfl (by decide) (by decide) (Nat.le_of_ble_eq_true rfl) rfl dL_empty_4 [⟨0, 9, 12, 13⟩] ⟨0, 9, 15, 17⟩ [] rfl (by
        intro z hz
        simp only [List.mem_cons, List.not_mem_nil, or_false] at hz
        subst hz
        · exact ⟨by decide, _, lk_13, by decide +kernel⟩
        ) rfl (by decide) lk_17 (by decide +kernel) (fun q => ?_)
      refine jc_astore_n K dL_empty_15 (by decide) ?_
      refine jc_iconst K dL_empty_16 (v := 2) rfl ?_
      exact jc_iretW K F rfl (by decide) (by decide) dL_empty_17
    exact absurd hw (by simp [wc, wcAt, h0, h1])
theorem cw_move (X X' : JX) (v1 : Int32) (v2 : Int32) (v3 : Int32) (g : Nat → Int64) {e : Option Nat} {v res : Int32} (hf : f_X10_move X v1 v2 v3 = some (e, v, X')) (hw : wc [1, 2, 3] e = some res) : CalW yL_move cL_move 6 [(0, 12, 15, 13), (0, 12, 19, 15), (0, 12, 23, 17)] 7 [.int v1, .int v2, .int v3] X X' g (if e = none then vp_updL g 0 v.toInt64 else g) res := by
  refine CalW.of (own := RL) (fun ad o => [(0, .ref (ad 0)), (1, .int v1), (2, .int v2), (3, .int v3), (4, .ref o)]) (by decide) rfl (fun _ _ => Nat.le_of_ble_eq_true rfl) (fun _ _ => rfl) (fun κ ad o rs K F => ?_)
  refine jc_aload K dL_move_0 4 rfl ?_
  refine jc_iconst K dL_move_2 (v := 0) rfl ?_
  refine jc_aload_n K dL_move_3 0 rfl ?_
  refine jc_iload_n K dL_move_4 1 rfl ?_
  refine jc_iload_n K dL_move_5 2 rfl ?_
  refine jc_iload_n K dL_move_6 3 rfl ?_
  rcases e with _ | k9
  · have hr : (0 : Int32) = res := Option.some.inj hw
    subst hr
    refine jc_callXR K F (ci := 10) (k := 0) (As := [.int v1, .int v2, .int v3]) (c_X10_move X v1 v2 v3 hf) mlw_move ⟨_, rfl, rfl⟩ rfl (by decide) (by decide) rfl rfl (by decide) (by decide) (Nat.le_of_ble_eq_true rfl) rfl dL_move_7 ?_
    rw [if_pos rfl] at F
    refine jc_i2l K dL_move_10 ?_
    refine jc_lastore K (a := o) 176 (wO_176) (ws' := wO ad (jcA κ) o rs X' (vp_updL g 0 v.toInt64)) wO_set dL_move_11 ?_
    refine jc_goto K dL_move_12 (tgt := 27) (by decide) ?_
    refine jc_iconst K dL_move_27 (v := 0) rfl ?_
    exact jc_iretW K F rfl (by decide) (by decide) dL_move_28
  · rw [show (if (some k9 : Option Nat) = none then _ else g) = g from if_neg (by intro h; cases h)] at F
    by_cases h0 : k9 = 1
    · subst h0
      have hr : (1 : Int32) = res := Option.some.inj (show some (1 : Int32) = some res from hw)
      subst hr
      refine jc_callXT K F (ci := 10) (k := 0) (As := [.int v1, .int v2, .int v3]) (c_X10_move X v1 v2 v3 hf) mlw_move ⟨_, rfl, rfl⟩ rfl (by decide) (by decide) rfl rfl (by decide) (by decide) (Nat.le_of_ble_eq_true rfl) rfl dL_move_7 [] ⟨0, 12, 15, 13⟩ [⟨0, 12, 19, 15⟩, ⟨0, 12, 23, 17⟩] rfl (fun z hz => nomatch hz) rfl (by decide) lk_13 (by decide +kernel) (fun q => ?_)
      refine jc_astore K dL_move_15 (by decide) ?_
      refine jc_iconst K dL_move_17 (v := 1) rfl ?_
      exact jc_iretW K F rfl (by decide) (by decide) dL_move_18
    by_cases h1 : k9 = 2
    · subst h1
      have hr : (2 : Int32) = res := Option.some.inj (show some (2 : Int32) = some res from hw)
      subst hr
      refine jc_callXT K F (ci := 10) (k := 0) (As := [.int v1, .int v2, .int v3]) (c_X10_move X v1 v2 v3 hf) mlw_move ⟨_, rfl, rfl⟩ rfl (by decide) (by decide) rfl rfl (by decide) (by decide) (Nat.le_of_ble_eq_true rfl) rfl dL_move_7 [⟨0, 12, 15, 13⟩] ⟨0, 12, 19, 15⟩ [⟨0, 12, 23, 17⟩] rfl (by
        intro z hz
        simp only [List.mem_cons, List.not_mem_nil, or_false] at hz
        subst hz
        · exact ⟨by decide, _, lk_13, by decide +kernel⟩
        ) rfl (by decide) lk_15 (by decide +kernel) (fun q => ?_)
      refine jc_astore K dL_move_19 (by decide) ?_
      refine jc_iconst K dL_move_21 (v := 2) rfl ?_
      exact jc_iretW K F rfl (by decide) (by decide) dL_move_22
    by_cases h2 : k9 = 3
    · subst h2
      have hr : (3 : Int32) = res := Option.some.inj (show some (3 : Int32) = some res from hw)
      subst hr
      refine jc_callXT K F (ci := 10) (k := 0) (As := [.int v1, .int v2, .int v3]) (c_X10_move X v1 v2 v3 hf) mlw_move ⟨_, rfl, rfl⟩ rfl (by decide) (by decide) rfl rfl (by decide) (by decide) (Nat.le_of_ble_eq_true rfl) rfl dL_move_7 [⟨0, 12, 15, 13⟩, ⟨0, 12, 19, 15⟩] ⟨0, 12, 23, 17⟩ [] rfl (by
        intro z hz
        simp only [List.mem_cons, List.not_mem_nil, or_false] at hz
        rcases hz with rfl | rfl
        · exact ⟨by decide, _, lk_13, by decide +kernel⟩
        · exact ⟨by decide, _, lk_15, by decide +kernel⟩
        ) rfl (by decide) lk_17 (by decide +kernel) (fun q => ?_)
      refine jc_astore K dL_move_23 (by decide) ?_
      refine jc_iconst K dL_move_25 (v := 3) rfl ?_
      exact jc_iretW K F rfl (by decide) (by decide) dL_move_26
    exact absurd hw (by simp [wc, wcAt, h0, h1, h2])
theorem cw_remove (X X' : JX) (v1 : Int32) (g : Nat → Int64) {e : Option Nat} {v res : Int32} (hf : f_X10_remove X v1 = some (e, v, X')) (hw : wc [1] e = some res) : CalW yL_remove cL_remove 4 [(0, 9, 12, 13)] 7 [.int v1] X X' g (if e = none then vp_updL g 0 v.toInt64 else g) res := by
  refine CalW.of (own := RL) (fun ad o => [(0, .ref (ad 0)), (1, .int v1), (2, .ref o)]) (by decide) rfl (fun _ _ => Nat.le_of_ble_eq_true rfl) (fun _ _ => rfl) (fun κ ad o rs K F => ?_)
  refine jc_aload_n K dL_remove_0 2 rfl ?_
  refine jc_iconst K dL_remove_1 (v := 0) rfl ?_
  refine jc_aload_n K dL_remove_2 0 rfl ?_
  refine jc_iload_n K dL_remove_3 1 rfl ?_
  rcases e with _ | k9
  · have hr : (0 : Int32) = res := Option.some.inj hw
    subst hr
    refine jc_callXR K F (ci := 10) (k := 0) (As := [.int v1]) (c_X10_remove X v1 hf) mlw_remove ⟨_, rfl, rfl⟩ rfl (by decide) (by decide) rfl rfl (by decide) (by decide) (Nat.le_of_ble_eq_true rfl) rfl dL_remove_4 ?_
    rw [if_pos rfl] at F
    refine jc_i2l K dL_remove_7 ?_
    refine jc_lastore K (a := o) 176 (wO_176) (ws' := wO ad (jcA κ) o rs X' (vp_updL g 0 v.toInt64)) wO_set dL_remove_8 ?_
    refine jc_goto K dL_remove_9 (tgt := 15) (by decide) ?_
    refine jc_iconst K dL_remove_15 (v := 0) rfl ?_
    exact jc_iretW K F rfl (by decide) (by decide) dL_remove_16
  · rw [show (if (some k9 : Option Nat) = none then _ else g) = g from if_neg (by intro h; cases h)] at F
    by_cases h0 : k9 = 1
    · subst h0
      have hr : (1 : Int32) = res := Option.some.inj (show some (1 : Int32) = some res from hw)
      subst hr
      refine jc_callXT K F (ci := 10) (k := 0) (As := [.int v1]) (c_X10_remove X v1 hf) mlw_remove ⟨_, rfl, rfl⟩ rfl (by decide) (by decide) rfl rfl (by decide) (by decide) (Nat.le_of_ble_eq_true rfl) rfl dL_remove_4 [] ⟨0, 9, 12, 13⟩ [] rfl (fun z hz => nomatch hz) rfl (by decide) lk_13 (by decide +kernel) (fun q => ?_)
      refine jc_astore_n K dL_remove_12 (by decide) ?_
      refine jc_iconst K dL_remove_13 (v := 1) rfl ?_
      exact jc_iretW K F rfl (by decide) (by decide) dL_remove_14
    exact absurd hw (by simp [wc, wcAt, h0])
theorem cw_lock (X X' : JX) (v1 : Int32) (v2 : Int32) (g : Nat → Int64) {e : Option Nat} {v res : Int32} (hf : f_X10_lock X v1 v2 = some (e, v, X')) (hw : wc [1] e = some res) : CalW yL_lock cL_lock 5 [(0, 17, 20, 13)] 7 [.int v1, .int v2] X X' g (if e = none then vp_updL g 0 (if v = 0 then 0 else 1) else g) res := by
  refine CalW.of (own := RL) (fun ad o => [(0, .ref (ad 0)), (1, .int v1), (2, .int v2), (3, .ref o)]) (by decide) rfl (fun _ _ => Nat.le_of_ble_eq_true rfl) (fun _ _ => rfl) (fun κ ad o rs K F => ?_)
  refine jc_aload_n K dL_lock_0 3 rfl ?_
  refine jc_iconst K dL_lock_1 (v := 0) rfl ?_
  refine jc_aload_n K dL_lock_2 0 rfl ?_
  refine jc_iload_n K dL_lock_3 1 rfl ?_
  refine jc_iload_n K dL_lock_4 2 rfl ?_
  rcases e with _ | k9
  · have hr : (0 : Int32) = res := Option.some.inj hw
    subst hr
    refine jc_callXR K F (ci := 10) (k := 0) (As := [.int v1, .int v2]) (c_X10_lock X v1 v2 hf) mlw_lock ⟨_, rfl, rfl⟩ rfl (by decide) (by decide) rfl rfl (by decide) (by decide) (Nat.le_of_ble_eq_true rfl) rfl dL_lock_5 ?_
    refine jc_if_eq K dL_lock_8 (tgt := 15) (by decide) (fun h0 => ?_) (fun h0 => ?_)
    · rw [show (if (none : Option Nat) = none then vp_updL g 0 (if v = 0 then (0 : Int64) else 1) else g) = vp_updL g 0 0 by rw [if_pos rfl, if_pos (show v = 0 from h0)]] at F
      refine jc_lconst K dL_lock_15 (v := 0) rfl ?_
      refine jc_lastore K (a := o) 176 (wO_176) (ws' := wO ad (jcA κ) o rs X' (vp_updL g 0 0)) wO_set dL_lock_16 ?_
      refine jc_goto K dL_lock_17 (tgt := 24) (by decide) ?_
      refine jc_iconst K dL_lock_24 (v := 0) rfl ?_
      exact jc_iretW K F rfl (by decide) (by decide) dL_lock_25
    · rw [show (if (none : Option Nat) = none then vp_updL g 0 (if v = 0 then (0 : Int64) else 1) else g) = vp_updL g 0 1 by rw [if_pos rfl, if_neg (show ¬ v = 0 from h0)]] at F
      refine jc_lconst K dL_lock_11 (v := 1) rfl ?_
      refine jc_goto K dL_lock_12 (tgt := 16) (by decide) ?_
      refine jc_lastore K (a := o) 176 (wO_176) (ws' := wO ad (jcA κ) o rs X' (vp_updL g 0 1)) wO_set dL_lock_16 ?_
      refine jc_goto K dL_lock_17 (tgt := 24) (by decide) ?_
      refine jc_iconst K dL_lock_24 (v := 0) rfl ?_
      exact jc_iretW K F rfl (by decide) (by decide) dL_lock_25
  · rw [show (if (some k9 : Option Nat) = none then _ else g) = g from if_neg (by intro h; cases h)] at F
    by_cases h0 : k9 = 1
    · subst h0
      have hr : (1 : Int32) = res := Option.some.inj (show some (1 : Int32) = some res from hw)
      subst hr
      refine jc_callXT K F (ci := 10) (k := 0) (As := [.int v1, .int v2]) (c_X10_lock X v1 v2 hf) mlw_lock ⟨_, rfl, rfl⟩ rfl (by decide) (by decide) rfl rfl (by decide) (by decide) (Nat.le_of_ble_eq_true rfl) rfl dL_lock_5 [] ⟨0, 17, 20, 13⟩ [] rfl (fun z hz => nomatch hz) rfl (by decide) lk_13 (by decide +kernel) (fun q => ?_)
      refine jc_astore K dL_lock_20 (by decide) ?_
      refine jc_iconst K dL_lock_22 (v := 1) rfl ?_
      exact jc_iretW K F rfl (by decide) (by decide) dL_lock_23
    exact absurd hw (by simp [wc, wcAt, h0])
theorem cw_people (X X' : JX) (v1 : Int32) (v2 : Int32) (g : Nat → Int64) {e : Option Nat} {v res : Int32} (hf : f_X10_people X v1 v2 = some (e, v, X')) (hw : wc [1, 2] e = some res) : CalW yL_people cL_people 5 [(0, 10, 13, 13), (0, 10, 17, 15)] 7 [.int v1, .int v2] X X' g (if e = none then vp_updL g 0 v.toInt64 else g) res := by
  refine CalW.of (own := RL) (fun ad o => [(0, .ref (ad 0)), (1, .int v1), (2, .int v2), (3, .ref o)]) (by decide) rfl (fun _ _ => Nat.le_of_ble_eq_true rfl) (fun _ _ => rfl) (fun κ ad o rs K F => ?_)
  refine jc_aload_n K dL_people_0 3 rfl ?_
  refine jc_iconst K dL_people_1 (v := 0) rfl ?_
  refine jc_aload_n K dL_people_2 0 rfl ?_
  refine jc_iload_n K dL_people_3 1 rfl ?_
  refine jc_iload_n K dL_people_4 2 rfl ?_
  rcases e with _ | k9
  · have hr : (0 : Int32) = res := Option.some.inj hw
    subst hr
    refine jc_callXR K F (ci := 10) (k := 0) (As := [.int v1, .int v2]) (c_X10_people X v1 v2 hf) mlw_people ⟨_, rfl, rfl⟩ rfl (by decide) (by decide) rfl rfl (by decide) (by decide) (Nat.le_of_ble_eq_true rfl) rfl dL_people_5 ?_
    rw [if_pos rfl] at F
    refine jc_i2l K dL_people_8 ?_
    refine jc_lastore K (a := o) 176 (wO_176) (ws' := wO ad (jcA κ) o rs X' (vp_updL g 0 v.toInt64)) wO_set dL_people_9 ?_
    refine jc_goto K dL_people_10 (tgt := 21) (by decide) ?_
    refine jc_iconst K dL_people_21 (v := 0) rfl ?_
    exact jc_iretW K F rfl (by decide) (by decide) dL_people_22
  · rw [show (if (some k9 : Option Nat) = none then _ else g) = g from if_neg (by intro h; cases h)] at F
    by_cases h0 : k9 = 1
    · subst h0
      have hr : (1 : Int32) = res := Option.some.inj (show some (1 : Int32) = some res from hw)
      subst hr
      refine jc_callXT K F (ci := 10) (k := 0) (As := [.int v1, .int v2]) (c_X10_people X v1 v2 hf) mlw_people ⟨_, rfl, rfl⟩ rfl (by decide) (by decide) rfl rfl (by decide) (by decide) (Nat.le_of_ble_eq_true rfl) rfl dL_people_5 [] ⟨0, 10, 13, 13⟩ [⟨0, 10, 17, 15⟩] rfl (fun z hz => nomatch hz) rfl (by decide) lk_13 (by decide +kernel) (fun q => ?_)
      refine jc_astore K dL_people_13 (by decide) ?_
      refine jc_iconst K dL_people_15 (v := 1) rfl ?_
      exact jc_iretW K F rfl (by decide) (by decide) dL_people_16
    by_cases h1 : k9 = 2
    · subst h1
      have hr : (2 : Int32) = res := Option.some.inj (show some (2 : Int32) = some res from hw)
      subst hr
      refine jc_callXT K F (ci := 10) (k := 0) (As := [.int v1, .int v2]) (c_X10_people X v1 v2 hf) mlw_people ⟨_, rfl, rfl⟩ rfl (by decide) (by decide) rfl rfl (by decide) (by decide) (Nat.le_of_ble_eq_true rfl) rfl dL_people_5 [⟨0, 10, 13, 13⟩] ⟨0, 10, 17, 15⟩ [] rfl (by
        intro z hz
        simp only [List.mem_cons, List.not_mem_nil, or_false] at hz
        subst hz
        · exact ⟨by decide, _, lk_13, by decide +kernel⟩
        ) rfl (by decide) lk_15 (by decide +kernel) (fun q => ?_)
      refine jc_astore K dL_people_17 (by decide) ?_
      refine jc_iconst K dL_people_19 (v := 2) rfl ?_
      exact jc_iretW K F rfl (by decide) (by decide) dL_people_20
    exact absurd hw (by simp [wc, wcAt, h0, h1])
theorem cw_mayRead (X X' : JX) (v1 : Int32) (v2 : Int32) (g : Nat → Int64) {e : Option Nat} {v res : Int32} (hf : f_X10_mayRead X v1 v2 = some (e, v, X')) (hw : wc [1] e = some res) : CalW yL_mayRead cL_mayRead 5 [(0, 17, 20, 13)] 7 [.int v1, .int v2] X X' g (if e = none then vp_updL g 0 (if v = 0 then 0 else 1) else g) res := by
  refine CalW.of (own := RL) (fun ad o => [(0, .ref (ad 0)), (1, .int v1), (2, .int v2), (3, .ref o)]) (by decide) rfl (fun _ _ => Nat.le_of_ble_eq_true rfl) (fun _ _ => rfl) (fun κ ad o rs K F => ?_)
  refine jc_aload_n K dL_mayRead_0 3 rfl ?_
  refine jc_iconst K dL_mayRead_1 (v := 0) rfl ?_
  refine jc_aload_n K dL_mayRead_2 0 rfl ?_
  refine jc_iload_n K dL_mayRead_3 1 rfl ?_
  refine jc_iload_n K dL_mayRead_4 2 rfl ?_
  rcases e with _ | k9
  · have hr : (0 : Int32) = res := Option.some.inj hw
    subst hr
    refine jc_callXR K F (ci := 10) (k := 0) (As := [.int v1, .int v2]) (c_X10_mayRead X v1 v2 hf) mlw_mayRead ⟨_, rfl, rfl⟩ rfl (by decide) (by decide) rfl rfl (by decide) (by decide) (Nat.le_of_ble_eq_true rfl) rfl dL_mayRead_5 ?_
    refine jc_if_eq K dL_mayRead_8 (tgt := 15) (by decide) (fun h0 => ?_) (fun h0 => ?_)
    · rw [show (if (none : Option Nat) = none then vp_updL g 0 (if v = 0 then (0 : Int64) else 1) else g) = vp_updL g 0 0 by rw [if_pos rfl, if_pos (show v = 0 from h0)]] at F
      refine jc_lconst K dL_mayRead_15 (v := 0) rfl ?_
      refine jc_lastore K (a := o) 176 (wO_176) (ws' := wO ad (jcA κ) o rs X' (vp_updL g 0 0)) wO_set dL_mayRead_16 ?_
      refine jc_goto K dL_mayRead_17 (tgt := 24) (by decide) ?_
      refine jc_iconst K dL_mayRead_24 (v := 0) rfl ?_
      exact jc_iretW K F rfl (by decide) (by decide) dL_mayRead_25
    · rw [show (if (none : Option Nat) = none then vp_updL g 0 (if v = 0 then (0 : Int64) else 1) else g) = vp_updL g 0 1 by rw [if_pos rfl, if_neg (show ¬ v = 0 from h0)]] at F
      refine jc_lconst K dL_mayRead_11 (v := 1) rfl ?_
      refine jc_goto K dL_mayRead_12 (tgt := 16) (by decide) ?_
      refine jc_lastore K (a := o) 176 (wO_176) (ws' := wO ad (jcA κ) o rs X' (vp_updL g 0 1)) wO_set dL_mayRead_16 ?_
      refine jc_goto K dL_mayRead_17 (tgt := 24) (by decide) ?_
      refine jc_iconst K dL_mayRead_24 (v := 0) rfl ?_
      exact jc_iretW K F rfl (by decide) (by decide) dL_mayRead_25
  · rw [show (if (some k9 : Option Nat) = none then _ else g) = g from if_neg (by intro h; cases h)] at F
    by_cases h0 : k9 = 1
    · subst h0
      have hr : (1 : Int32) = res := Option.some.inj (show some (1 : Int32) = some res from hw)
      subst hr
      refine jc_callXT K F (ci := 10) (k := 0) (As := [.int v1, .int v2]) (c_X10_mayRead X v1 v2 hf) mlw_mayRead ⟨_, rfl, rfl⟩ rfl (by decide) (by decide) rfl rfl (by decide) (by decide) (Nat.le_of_ble_eq_true rfl) rfl dL_mayRead_5 [] ⟨0, 17, 20, 13⟩ [] rfl (fun z hz => nomatch hz) rfl (by decide) lk_13 (by decide +kernel) (fun q => ?_)
      refine jc_astore K dL_mayRead_20 (by decide) ?_
      refine jc_iconst K dL_mayRead_22 (v := 1) rfl ?_
      exact jc_iretW K F rfl (by decide) (by decide) dL_mayRead_23
    exact absurd hw (by simp [wc, wcAt, h0])
theorem cw_watch (X X' : JX) (v1 : Int32) (g : Nat → Int64) {e : Option Nat} {v res : Int32} (hf : f_X10_watch X v1 = some (e, v, X')) (hw : wc [1, 3] e = some res) : CalW yL_watch cL_watch 4 [(0, 9, 12, 13), (0, 9, 15, 17)] 7 [.int v1] X X' g (if e = none then vp_updL g 0 v.toInt64 else g) res := by
  refine CalW.of (own := RL) (fun ad o => [(0, .ref (ad 0)), (1, .int v1), (2, .ref o)]) (by decide) rfl (fun _ _ => Nat.le_of_ble_eq_true rfl) (fun _ _ => rfl) (fun κ ad o rs K F => ?_)
  refine jc_aload_n K dL_watch_0 2 rfl ?_
  refine jc_iconst K dL_watch_1 (v := 0) rfl ?_
  refine jc_aload_n K dL_watch_2 0 rfl ?_
  refine jc_iload_n K dL_watch_3 1 rfl ?_
  rcases e with _ | k9
  · have hr : (0 : Int32) = res := Option.some.inj hw
    subst hr
    refine jc_callXR K F (ci := 10) (k := 0) (As := [.int v1]) (c_X10_watch X v1 hf) mlw_watch ⟨_, rfl, rfl⟩ rfl (by decide) (by decide) rfl rfl (by decide) (by decide) (Nat.le_of_ble_eq_true rfl) rfl dL_watch_4 ?_
    rw [if_pos rfl] at F
    refine jc_i2l K dL_watch_7 ?_
    refine jc_lastore K (a := o) 176 (wO_176) (ws' := wO ad (jcA κ) o rs X' (vp_updL g 0 v.toInt64)) wO_set dL_watch_8 ?_
    refine jc_goto K dL_watch_9 (tgt := 18) (by decide) ?_
    refine jc_iconst K dL_watch_18 (v := 0) rfl ?_
    exact jc_iretW K F rfl (by decide) (by decide) dL_watch_19
  · rw [show (if (some k9 : Option Nat) = none then _ else g) = g from if_neg (by intro h; cases h)] at F
    by_cases h0 : k9 = 1
    · subst h0
      have hr : (1 : Int32) = res := Option.some.inj (show some (1 : Int32) = some res from hw)
      subst hr
      refine jc_callXT K F (ci := 10) (k := 0) (As := [.int v1]) (c_X10_watch X v1 hf) mlw_watch ⟨_, rfl, rfl⟩ rfl (by decide) (by decide) rfl rfl (by decide) (by decide) (Nat.le_of_ble_eq_true rfl) rfl dL_watch_4 [] ⟨0, 9, 12, 13⟩ [⟨0, 9, 15, 17⟩] rfl (fun z hz => nomatch hz) rfl (by decide) lk_13 (by decide +kernel) (fun q => ?_)
      refine jc_astore_n K dL_watch_12 (by decide) ?_
      refine jc_iconst K dL_watch_13 (v := 1) rfl ?_
      exact jc_iretW K F rfl (by decide) (by decide) dL_watch_14
    by_cases h1 : k9 = 3
    · subst h1
      have hr : (2 : Int32) = res := Option.some.inj (show some (2 : Int32) = some res from hw)
      subst hr
      refine jc_callXT K F (ci := 10) (k := 0) (As := [.int v1]) (c_X10_watch X v1 hf) mlw_watch ⟨_, rfl, rfl⟩ rfl (by decide) (by decide) rfl rfl (by decide) (by decide) (Nat.le_of_ble_eq_true rfl) rfl dL_watch_4 [⟨0, 9, 12, 13⟩] ⟨0, 9, 15, 17⟩ [] rfl (by
        intro z hz
        simp only [List.mem_cons, List.not_mem_nil, or_false] at hz
        subst hz
        · exact ⟨by decide, _, lk_13, by decide +kernel⟩
        ) rfl (by decide) lk_17 (by decide +kernel) (fun q => ?_)
      refine jc_astore_n K dL_watch_15 (by decide) ?_
      refine jc_iconst K dL_watch_16 (v := 2) rfl ?_
      exact jc_iretW K F rfl (by decide) (by decide) dL_watch_17
    exact absurd hw (by simp [wc, wcAt, h0, h1])
theorem cw_notices (X X' : JX) (v1 : Int32) (g : Nat → Int64) {e : Option Nat} {v res : Int32} (hf : f_X10_notices X v1 = some (e, v, X')) (hw : wc [1] e = some res) : CalW yL_notices cL_notices 4 [(0, 9, 12, 13)] 7 [.int v1] X X' g (if e = none then vp_updL g 0 v.toInt64 else g) res := by
  refine CalW.of (own := RL) (fun ad o => [(0, .ref (ad 0)), (1, .int v1), (2, .ref o)]) (by decide) rfl (fun _ _ => Nat.le_of_ble_eq_true rfl) (fun _ _ => rfl) (fun κ ad o rs K F => ?_)
  refine jc_aload_n K dL_notices_0 2 rfl ?_
  refine jc_iconst K dL_notices_1 (v := 0) rfl ?_
  refine jc_aload_n K dL_notices_2 0 rfl ?_
  refine jc_iload_n K dL_notices_3 1 rfl ?_
  rcases e with _ | k9
  · have hr : (0 : Int32) = res := Option.some.inj hw
    subst hr
    refine jc_callXR K F (ci := 10) (k := 0) (As := [.int v1]) (c_X10_notices X v1 hf) mlw_notices ⟨_, rfl, rfl⟩ rfl (by decide) (by decide) rfl rfl (by decide) (by decide) (Nat.le_of_ble_eq_true rfl) rfl dL_notices_4 ?_
    rw [if_pos rfl] at F
    refine jc_i2l K dL_notices_7 ?_
    refine jc_lastore K (a := o) 176 (wO_176) (ws' := wO ad (jcA κ) o rs X' (vp_updL g 0 v.toInt64)) wO_set dL_notices_8 ?_
    refine jc_goto K dL_notices_9 (tgt := 15) (by decide) ?_
    refine jc_iconst K dL_notices_15 (v := 0) rfl ?_
    exact jc_iretW K F rfl (by decide) (by decide) dL_notices_16
  · rw [show (if (some k9 : Option Nat) = none then _ else g) = g from if_neg (by intro h; cases h)] at F
    by_cases h0 : k9 = 1
    · subst h0
      have hr : (1 : Int32) = res := Option.some.inj (show some (1 : Int32) = some res from hw)
      subst hr
      refine jc_callXT K F (ci := 10) (k := 0) (As := [.int v1]) (c_X10_notices X v1 hf) mlw_notices ⟨_, rfl, rfl⟩ rfl (by decide) (by decide) rfl rfl (by decide) (by decide) (Nat.le_of_ble_eq_true rfl) rfl dL_notices_4 [] ⟨0, 9, 12, 13⟩ [] rfl (fun z hz => nomatch hz) rfl (by decide) lk_13 (by decide +kernel) (fun q => ?_)
      refine jc_astore_n K dL_notices_12 (by decide) ?_
      refine jc_iconst K dL_notices_13 (v := 1) rfl ?_
      exact jc_iretW K F rfl (by decide) (by decide) dL_notices_14
    exact absurd hw (by simp [wc, wcAt, h0])
theorem cw_twice (X X' : JX) (v1 : Int32) (g : Nat → Int64) {e : Option Nat} {v res : Int32} (hf : f_X10_twice X v1 = some (e, v, X')) (hw : wc [1, 3] e = some res) : CalW yL_twice cL_twice 4 [(0, 9, 12, 13), (0, 9, 15, 17)] 7 [.int v1] X X' g (if e = none then vp_updL g 0 v.toInt64 else g) res := by
  refine CalW.of (own := RL) (fun ad o => [(0, .ref (ad 0)), (1, .int v1), (2, .ref o)]) (by decide) rfl (fun _ _ => Nat.le_of_ble_eq_true rfl) (fun _ _ => rfl) (fun κ ad o rs K F => ?_)
  refine jc_aload_n K dL_twice_0 2 rfl ?_
  refine jc_iconst K dL_twice_1 (v := 0) rfl ?_
  refine jc_aload_n K dL_twice_2 0 rfl ?_
  refine jc_iload_n K dL_twice_3 1 rfl ?_
  rcases e with _ | k9
  · have hr : (0 : Int32) = res := Option.some.inj hw
    subst hr
    refine jc_callXR K F (ci := 10) (k := 0) (As := [.int v1]) (c_X10_twice X v1 hf) mlw_twice ⟨_, rfl, rfl⟩ rfl (by decide) (by decide) rfl rfl (by decide) (by decide) (Nat.le_of_ble_eq_true rfl) rfl dL_twice_4 ?_
    rw [if_pos rfl] at F
    refine jc_i2l K dL_twice_7 ?_
    refine jc_lastore K (a := o) 176 (wO_176) (ws' := wO ad (jcA κ) o rs X' (vp_updL g 0 v.toInt64)) wO_set dL_twice_8 ?_
    refine jc_goto K dL_twice_9 (tgt := 18) (by decide) ?_
    refine jc_iconst K dL_twice_18 (v := 0) rfl ?_
    exact jc_iretW K F rfl (by decide) (by decide) dL_twice_19
  · rw [show (if (some k9 : Option Nat) = none then _ else g) = g from if_neg (by intro h; cases h)] at F
    by_cases h0 : k9 = 1
    · subst h0
      have hr : (1 : Int32) = res := Option.some.inj (show some (1 : Int32) = some res from hw)
      subst hr
      refine jc_callXT K F (ci := 10) (k := 0) (As := [.int v1]) (c_X10_twice X v1 hf) mlw_twice ⟨_, rfl, rfl⟩ rfl (by decide) (by decide) rfl rfl (by decide) (by decide) (Nat.le_of_ble_eq_true rfl) rfl dL_twice_4 [] ⟨0, 9, 12, 13⟩ [⟨0, 9, 15, 17⟩] rfl (fun z hz => nomatch hz) rfl (by decide) lk_13 (by decide +kernel) (fun q => ?_)
      refine jc_astore_n K dL_twice_12 (by decide) ?_
      refine jc_iconst K dL_twice_13 (v := 1) rfl ?_
      exact jc_iretW K F rfl (by decide) (by decide) dL_twice_14
    by_cases h1 : k9 = 3
    · subst h1
      have hr : (2 : Int32) = res := Option.some.inj (show some (2 : Int32) = some res from hw)
      subst hr
      refine jc_callXT K F (ci := 10) (k := 0) (As := [.int v1]) (c_X10_twice X v1 hf) mlw_twice ⟨_, rfl, rfl⟩ rfl (by decide) (by decide) rfl rfl (by decide) (by decide) (Nat.le_of_ble_eq_true rfl) rfl dL_twice_4 [⟨0, 9, 12, 13⟩] ⟨0, 9, 15, 17⟩ [] rfl (by
        intro z hz
        simp only [List.mem_cons, List.not_mem_nil, or_false] at hz
        subst hz
        · exact ⟨by decide, _, lk_13, by decide +kernel⟩
        ) rfl (by decide) lk_17 (by decide +kernel) (fun q => ?_)
      refine jc_astore_n K dL_twice_15 (by decide) ?_
      refine jc_iconst K dL_twice_16 (v := 2) rfl ?_
      exact jc_iretW K F rfl (by decide) (by decide) dL_twice_17
    exact absurd hw (by simp [wc, wcAt, h0, h1])
theorem cw_lose (X X' : JX) (v1 : Int32) (v2 : Int32) (g : Nat → Int64) {e : Option Nat} {v res : Int32} (hf : f_X10_lose X v1 v2 = some (e, v, X')) (hw : wc [1, 2] e = some res) : CalW yL_lose cL_lose 5 [(0, 10, 13, 13), (0, 10, 17, 15)] 7 [.int v1, .int v2] X X' g (if e = none then vp_updL g 0 v.toInt64 else g) res := by
  refine CalW.of (own := RL) (fun ad o => [(0, .ref (ad 0)), (1, .int v1), (2, .int v2), (3, .ref o)]) (by decide) rfl (fun _ _ => Nat.le_of_ble_eq_true rfl) (fun _ _ => rfl) (fun κ ad o rs K F => ?_)
  refine jc_aload_n K dL_lose_0 3 rfl ?_
  refine jc_iconst K dL_lose_1 (v := 0) rfl ?_
  refine jc_aload_n K dL_lose_2 0 rfl ?_
  refine jc_iload_n K dL_lose_3 1 rfl ?_
  refine jc_iload_n K dL_lose_4 2 rfl ?_
  rcases e with _ | k9
  · have hr : (0 : Int32) = res := Option.some.inj hw
    subst hr
    refine jc_callXR K F (ci := 10) (k := 0) (As := [.int v1, .int v2]) (c_X10_lose X v1 v2 hf) mlw_lose ⟨_, rfl, rfl⟩ rfl (by decide) (by decide) rfl rfl (by decide) (by decide) (Nat.le_of_ble_eq_true rfl) rfl dL_lose_5 ?_
    rw [if_pos rfl] at F
    refine jc_i2l K dL_lose_8 ?_
    refine jc_lastore K (a := o) 176 (wO_176) (ws' := wO ad (jcA κ) o rs X' (vp_updL g 0 v.toInt64)) wO_set dL_lose_9 ?_
    refine jc_goto K dL_lose_10 (tgt := 21) (by decide) ?_
    refine jc_iconst K dL_lose_21 (v := 0) rfl ?_
    exact jc_iretW K F rfl (by decide) (by decide) dL_lose_22
  · rw [show (if (some k9 : Option Nat) = none then _ else g) = g from if_neg (by intro h; cases h)] at F
    by_cases h0 : k9 = 1
    · subst h0
      have hr : (1 : Int32) = res := Option.some.inj (show some (1 : Int32) = some res from hw)
      subst hr
      refine jc_callXT K F (ci := 10) (k := 0) (As := [.int v1, .int v2]) (c_X10_lose X v1 v2 hf) mlw_lose ⟨_, rfl, rfl⟩ rfl (by decide) (by decide) rfl rfl (by decide) (by decide) (Nat.le_of_ble_eq_true rfl) rfl dL_lose_5 [] ⟨0, 10, 13, 13⟩ [⟨0, 10, 17, 15⟩] rfl (fun z hz => nomatch hz) rfl (by decide) lk_13 (by decide +kernel) (fun q => ?_)
      refine jc_astore K dL_lose_13 (by decide) ?_
      refine jc_iconst K dL_lose_15 (v := 1) rfl ?_
      exact jc_iretW K F rfl (by decide) (by decide) dL_lose_16
    by_cases h1 : k9 = 2
    · subst h1
      have hr : (2 : Int32) = res := Option.some.inj (show some (2 : Int32) = some res from hw)
      subst hr
      refine jc_callXT K F (ci := 10) (k := 0) (As := [.int v1, .int v2]) (c_X10_lose X v1 v2 hf) mlw_lose ⟨_, rfl, rfl⟩ rfl (by decide) (by decide) rfl rfl (by decide) (by decide) (Nat.le_of_ble_eq_true rfl) rfl dL_lose_5 [⟨0, 10, 13, 13⟩] ⟨0, 10, 17, 15⟩ [] rfl (by
        intro z hz
        simp only [List.mem_cons, List.not_mem_nil, or_false] at hz
        subst hz
        · exact ⟨by decide, _, lk_13, by decide +kernel⟩
        ) rfl (by decide) lk_15 (by decide +kernel) (fun q => ?_)
      refine jc_astore K dL_lose_17 (by decide) ?_
      refine jc_iconst K dL_lose_19 (v := 2) rfl ?_
      exact jc_iretW K F rfl (by decide) (by decide) dL_lose_20
    exact absurd hw (by simp [wc, wcAt, h0, h1])
theorem cw_pass (X X' : JX) (v1 : Int32) (g : Nat → Int64) {e : Option Nat} {v res : Int32} (hf : f_X10_pass X v1 = some (e, v, X')) (hw : wc [2, 3] e = some res) : CalW yL_pass cL_pass 4 [(0, 9, 12, 15), (0, 9, 15, 17)] 7 [.int v1] X X' g (if e = none then vp_updL g 0 v.toInt64 else g) res := by
  refine CalW.of (own := RL) (fun ad o => [(0, .ref (ad 0)), (1, .int v1), (2, .ref o)]) (by decide) rfl (fun _ _ => Nat.le_of_ble_eq_true rfl) (fun _ _ => rfl) (fun κ ad o rs K F => ?_)
  refine jc_aload_n K dL_pass_0 2 rfl ?_
  refine jc_iconst K dL_pass_1 (v := 0) rfl ?_
  refine jc_aload_n K dL_pass_2 0 rfl ?_
  refine jc_iload_n K dL_pass_3 1 rfl ?_
  rcases e with _ | k9
  · have hr : (0 : Int32) = res := Option.some.inj hw
    subst hr
    refine jc_callXR K F (ci := 10) (k := 0) (As := [.int v1]) (c_X10_pass X v1 hf) mlw_pass ⟨_, rfl, rfl⟩ rfl (by decide) (by decide) rfl rfl (by decide) (by decide) (Nat.le_of_ble_eq_true rfl) rfl dL_pass_4 ?_
    rw [if_pos rfl] at F
    refine jc_i2l K dL_pass_7 ?_
    refine jc_lastore K (a := o) 176 (wO_176) (ws' := wO ad (jcA κ) o rs X' (vp_updL g 0 v.toInt64)) wO_set dL_pass_8 ?_
    refine jc_goto K dL_pass_9 (tgt := 18) (by decide) ?_
    refine jc_iconst K dL_pass_18 (v := 0) rfl ?_
    exact jc_iretW K F rfl (by decide) (by decide) dL_pass_19
  · rw [show (if (some k9 : Option Nat) = none then _ else g) = g from if_neg (by intro h; cases h)] at F
    by_cases h0 : k9 = 2
    · subst h0
      have hr : (1 : Int32) = res := Option.some.inj (show some (1 : Int32) = some res from hw)
      subst hr
      refine jc_callXT K F (ci := 10) (k := 0) (As := [.int v1]) (c_X10_pass X v1 hf) mlw_pass ⟨_, rfl, rfl⟩ rfl (by decide) (by decide) rfl rfl (by decide) (by decide) (Nat.le_of_ble_eq_true rfl) rfl dL_pass_4 [] ⟨0, 9, 12, 15⟩ [⟨0, 9, 15, 17⟩] rfl (fun z hz => nomatch hz) rfl (by decide) lk_15 (by decide +kernel) (fun q => ?_)
      refine jc_astore_n K dL_pass_12 (by decide) ?_
      refine jc_iconst K dL_pass_13 (v := 1) rfl ?_
      exact jc_iretW K F rfl (by decide) (by decide) dL_pass_14
    by_cases h1 : k9 = 3
    · subst h1
      have hr : (2 : Int32) = res := Option.some.inj (show some (2 : Int32) = some res from hw)
      subst hr
      refine jc_callXT K F (ci := 10) (k := 0) (As := [.int v1]) (c_X10_pass X v1 hf) mlw_pass ⟨_, rfl, rfl⟩ rfl (by decide) (by decide) rfl rfl (by decide) (by decide) (Nat.le_of_ble_eq_true rfl) rfl dL_pass_4 [⟨0, 9, 12, 15⟩] ⟨0, 9, 15, 17⟩ [] rfl (by
        intro z hz
        simp only [List.mem_cons, List.not_mem_nil, or_false] at hz
        subst hz
        · exact ⟨by decide, _, lk_15, by decide +kernel⟩
        ) rfl (by decide) lk_17 (by decide +kernel) (fun q => ?_)
      refine jc_astore_n K dL_pass_15 (by decide) ?_
      refine jc_iconst K dL_pass_16 (v := 2) rfl ?_
      exact jc_iretW K F rfl (by decide) (by decide) dL_pass_17
    exact absurd hw (by simp [wc, wcAt, h0, h1])
theorem cw_limits (X X' : JX) (v1 : Int32) (v2 : Int32) (g : Nat → Int64) {e : Option Nat} {v res : Int32} (hf : f_X10_limits X v1 v2 = some (e, v, X')) (hw : wc [2] e = some res) : CalW yL_limits cL_limits 5 [(0, 10, 13, 15)] 7 [.int v1, .int v2] X X' g (if e = none then vp_updL g 0 v.toInt64 else g) res := by
  refine CalW.of (own := RL) (fun ad o => [(0, .ref (ad 0)), (1, .int v1), (2, .int v2), (3, .ref o)]) (by decide) rfl (fun _ _ => Nat.le_of_ble_eq_true rfl) (fun _ _ => rfl) (fun κ ad o rs K F => ?_)
  refine jc_aload_n K dL_limits_0 3 rfl ?_
  refine jc_iconst K dL_limits_1 (v := 0) rfl ?_
  refine jc_aload_n K dL_limits_2 0 rfl ?_
  refine jc_iload_n K dL_limits_3 1 rfl ?_
  refine jc_iload_n K dL_limits_4 2 rfl ?_
  rcases e with _ | k9
  · have hr : (0 : Int32) = res := Option.some.inj hw
    subst hr
    refine jc_callXR K F (ci := 10) (k := 0) (As := [.int v1, .int v2]) (c_X10_limits X v1 v2 hf) mlw_limits ⟨_, rfl, rfl⟩ rfl (by decide) (by decide) rfl rfl (by decide) (by decide) (Nat.le_of_ble_eq_true rfl) rfl dL_limits_5 ?_
    rw [if_pos rfl] at F
    refine jc_i2l K dL_limits_8 ?_
    refine jc_lastore K (a := o) 176 (wO_176) (ws' := wO ad (jcA κ) o rs X' (vp_updL g 0 v.toInt64)) wO_set dL_limits_9 ?_
    refine jc_goto K dL_limits_10 (tgt := 17) (by decide) ?_
    refine jc_iconst K dL_limits_17 (v := 0) rfl ?_
    exact jc_iretW K F rfl (by decide) (by decide) dL_limits_18
  · rw [show (if (some k9 : Option Nat) = none then _ else g) = g from if_neg (by intro h; cases h)] at F
    by_cases h0 : k9 = 2
    · subst h0
      have hr : (1 : Int32) = res := Option.some.inj (show some (1 : Int32) = some res from hw)
      subst hr
      refine jc_callXT K F (ci := 10) (k := 0) (As := [.int v1, .int v2]) (c_X10_limits X v1 v2 hf) mlw_limits ⟨_, rfl, rfl⟩ rfl (by decide) (by decide) rfl rfl (by decide) (by decide) (Nat.le_of_ble_eq_true rfl) rfl dL_limits_5 [] ⟨0, 10, 13, 15⟩ [] rfl (fun z hz => nomatch hz) rfl (by decide) lk_15 (by decide +kernel) (fun q => ?_)
      refine jc_astore K dL_limits_13 (by decide) ?_
      refine jc_iconst K dL_limits_15 (v := 1) rfl ?_
      exact jc_iretW K F rfl (by decide) (by decide) dL_limits_16
    exact absurd hw (by simp [wc, wcAt, h0])
theorem cw_work (X X' : JX) (v1 : Int32) (g : Nat → Int64) {e : Option Nat} {v res : Int32} (hf : f_X10_work X v1 = some (e, v, X')) (hw : wc [2] e = some res) : CalW yL_work cL_work 4 [(0, 9, 12, 15)] 8 [.int v1] X X' g (if e = none then vp_updL g 0 v.toInt64 else g) res := by
  refine CalW.of (own := RL) (fun ad o => [(0, .ref (ad 0)), (1, .int v1), (2, .ref o)]) (by decide) rfl (fun _ _ => Nat.le_of_ble_eq_true rfl) (fun _ _ => rfl) (fun κ ad o rs K F => ?_)
  refine jc_aload_n K dL_work_0 2 rfl ?_
  refine jc_iconst K dL_work_1 (v := 0) rfl ?_
  refine jc_aload_n K dL_work_2 0 rfl ?_
  refine jc_iload_n K dL_work_3 1 rfl ?_
  rcases e with _ | k9
  · have hr : (0 : Int32) = res := Option.some.inj hw
    subst hr
    refine jc_callXR K F (ci := 10) (k := 0) (As := [.int v1]) (c_X10_work X v1 hf) mlw_work ⟨_, rfl, rfl⟩ rfl (by decide) (by decide) rfl rfl (by decide) (by decide) (Nat.le_of_ble_eq_true rfl) rfl dL_work_4 ?_
    rw [if_pos rfl] at F
    refine jc_i2l K dL_work_7 ?_
    refine jc_lastore K (a := o) 176 (wO_176) (ws' := wO ad (jcA κ) o rs X' (vp_updL g 0 v.toInt64)) wO_set dL_work_8 ?_
    refine jc_goto K dL_work_9 (tgt := 15) (by decide) ?_
    refine jc_iconst K dL_work_15 (v := 0) rfl ?_
    exact jc_iretW K F rfl (by decide) (by decide) dL_work_16
  · rw [show (if (some k9 : Option Nat) = none then _ else g) = g from if_neg (by intro h; cases h)] at F
    by_cases h0 : k9 = 2
    · subst h0
      have hr : (1 : Int32) = res := Option.some.inj (show some (1 : Int32) = some res from hw)
      subst hr
      refine jc_callXT K F (ci := 10) (k := 0) (As := [.int v1]) (c_X10_work X v1 hf) mlw_work ⟨_, rfl, rfl⟩ rfl (by decide) (by decide) rfl rfl (by decide) (by decide) (Nat.le_of_ble_eq_true rfl) rfl dL_work_4 [] ⟨0, 9, 12, 15⟩ [] rfl (fun z hz => nomatch hz) rfl (by decide) lk_15 (by decide +kernel) (fun q => ?_)
      refine jc_astore_n K dL_work_12 (by decide) ?_
      refine jc_iconst K dL_work_13 (v := 1) rfl ?_
      exact jc_iretW K F rfl (by decide) (by decide) dL_work_14
    exact absurd hw (by simp [wc, wcAt, h0])
theorem cw_crawl (X X' : JX) (v1 : Int32) (g : Nat → Int64) {e : Option Nat} {v res : Int32} (hf : f_X10_crawl X v1 = some (e, v, X')) (hw : wc [1] e = some res) : CalW yL_crawl cL_crawl 4 [(0, 9, 12, 13)] 7 [.int v1] X X' g (if e = none then vp_updL g 0 v.toInt64 else g) res := by
  refine CalW.of (own := RL) (fun ad o => [(0, .ref (ad 0)), (1, .int v1), (2, .ref o)]) (by decide) rfl (fun _ _ => Nat.le_of_ble_eq_true rfl) (fun _ _ => rfl) (fun κ ad o rs K F => ?_)
  refine jc_aload_n K dL_crawl_0 2 rfl ?_
  refine jc_iconst K dL_crawl_1 (v := 0) rfl ?_
  refine jc_aload_n K dL_crawl_2 0 rfl ?_
  refine jc_iload_n K dL_crawl_3 1 rfl ?_
  rcases e with _ | k9
  · have hr : (0 : Int32) = res := Option.some.inj hw
    subst hr
    refine jc_callXR K F (ci := 10) (k := 0) (As := [.int v1]) (c_X10_crawl X v1 hf) mlw_crawl ⟨_, rfl, rfl⟩ rfl (by decide) (by decide) rfl rfl (by decide) (by decide) (Nat.le_of_ble_eq_true rfl) rfl dL_crawl_4 ?_
    rw [if_pos rfl] at F
    refine jc_i2l K dL_crawl_7 ?_
    refine jc_lastore K (a := o) 176 (wO_176) (ws' := wO ad (jcA κ) o rs X' (vp_updL g 0 v.toInt64)) wO_set dL_crawl_8 ?_
    refine jc_goto K dL_crawl_9 (tgt := 15) (by decide) ?_
    refine jc_iconst K dL_crawl_15 (v := 0) rfl ?_
    exact jc_iretW K F rfl (by decide) (by decide) dL_crawl_16
  · rw [show (if (some k9 : Option Nat) = none then _ else g) = g from if_neg (by intro h; cases h)] at F
    by_cases h0 : k9 = 1
    · subst h0
      have hr : (1 : Int32) = res := Option.some.inj (show some (1 : Int32) = some res from hw)
      subst hr
      refine jc_callXT K F (ci := 10) (k := 0) (As := [.int v1]) (c_X10_crawl X v1 hf) mlw_crawl ⟨_, rfl, rfl⟩ rfl (by decide) (by decide) rfl rfl (by decide) (by decide) (Nat.le_of_ble_eq_true rfl) rfl dL_crawl_4 [] ⟨0, 9, 12, 13⟩ [] rfl (fun z hz => nomatch hz) rfl (by decide) lk_13 (by decide +kernel) (fun q => ?_)
      refine jc_astore_n K dL_crawl_12 (by decide) ?_
      refine jc_iconst K dL_crawl_13 (v := 1) rfl ?_
      exact jc_iretW K F rfl (by decide) (by decide) dL_crawl_14
    exact absurd hw (by simp [wc, wcAt, h0])
theorem cw_edition (X X' : JX) (v1 : Int32) (g : Nat → Int64) {e : Option Nat} {v res : Int32} (hf : f_X10_edition X v1 = some (e, v, X')) (hw : wc [1] e = some res) : CalW yL_edition cL_edition 4 [(0, 9, 12, 13)] 7 [.int v1] X X' g (if e = none then vp_updL g 0 v.toInt64 else g) res := by
  refine CalW.of (own := RL) (fun ad o => [(0, .ref (ad 0)), (1, .int v1), (2, .ref o)]) (by decide) rfl (fun _ _ => Nat.le_of_ble_eq_true rfl) (fun _ _ => rfl) (fun κ ad o rs K F => ?_)
  refine jc_aload_n K dL_edition_0 2 rfl ?_
  refine jc_iconst K dL_edition_1 (v := 0) rfl ?_
  refine jc_aload_n K dL_edition_2 0 rfl ?_
  refine jc_iload_n K dL_edition_3 1 rfl ?_
  rcases e with _ | k9
  · have hr : (0 : Int32) = res := Option.some.inj hw
    subst hr
    refine jc_callXR K F (ci := 10) (k := 0) (As := [.int v1]) (c_X10_edition X v1 hf) mlw_edition ⟨_, rfl, rfl⟩ rfl (by decide) (by decide) rfl rfl (by decide) (by decide) (Nat.le_of_ble_eq_true rfl) rfl dL_edition_4 ?_
    rw [if_pos rfl] at F
    refine jc_i2l K dL_edition_7 ?_
    refine jc_lastore K (a := o) 176 (wO_176) (ws' := wO ad (jcA κ) o rs X' (vp_updL g 0 v.toInt64)) wO_set dL_edition_8 ?_
    refine jc_goto K dL_edition_9 (tgt := 15) (by decide) ?_
    refine jc_iconst K dL_edition_15 (v := 0) rfl ?_
    exact jc_iretW K F rfl (by decide) (by decide) dL_edition_16
  · rw [show (if (some k9 : Option Nat) = none then _ else g) = g from if_neg (by intro h; cases h)] at F
    by_cases h0 : k9 = 1
    · subst h0
      have hr : (1 : Int32) = res := Option.some.inj (show some (1 : Int32) = some res from hw)
      subst hr
      refine jc_callXT K F (ci := 10) (k := 0) (As := [.int v1]) (c_X10_edition X v1 hf) mlw_edition ⟨_, rfl, rfl⟩ rfl (by decide) (by decide) rfl rfl (by decide) (by decide) (Nat.le_of_ble_eq_true rfl) rfl dL_edition_4 [] ⟨0, 9, 12, 13⟩ [] rfl (fun z hz => nomatch hz) rfl (by decide) lk_13 (by decide +kernel) (fun q => ?_)
      refine jc_astore_n K dL_edition_12 (by decide) ?_
      refine jc_iconst K dL_edition_13 (v := 1) rfl ?_
      exact jc_iretW K F rfl (by decide) (by decide) dL_edition_14
    exact absurd hw (by simp [wc, wcAt, h0])
theorem cw_answers (X X' : JX) (v1 : Int32) (v2 : Int32) (v3 : Int32) (v4 : Int32) (g : Nat → Int64) {e : Option Nat} {v res : Int32} (hf : f_X10_answers X v1 v2 v3 v4 = some (e, v, X')) (hw : wc [1, 2] e = some res) : CalW yL_answers cL_answers 7 [(0, 14, 17, 13), (0, 14, 21, 15)] 7 [.int v1, .int v2, .int v3, .int v4] X X' g (if e = none then vp_updL g 0 v.toInt64 else g) res := by
  refine CalW.of (own := RL) (fun ad o => [(0, .ref (ad 0)), (1, .int v1), (2, .int v2), (3, .int v3), (4, .int v4), (5, .ref o)]) (by decide) rfl (fun _ _ => Nat.le_of_ble_eq_true rfl) (fun _ _ => rfl) (fun κ ad o rs K F => ?_)
  refine jc_aload K dL_answers_0 5 rfl ?_
  refine jc_iconst K dL_answers_2 (v := 0) rfl ?_
  refine jc_aload_n K dL_answers_3 0 rfl ?_
  refine jc_iload_n K dL_answers_4 1 rfl ?_
  refine jc_iload_n K dL_answers_5 2 rfl ?_
  refine jc_iload_n K dL_answers_6 3 rfl ?_
  refine jc_iload K dL_answers_7 4 rfl ?_
  rcases e with _ | k9
  · have hr : (0 : Int32) = res := Option.some.inj hw
    subst hr
    refine jc_callXR K F (ci := 10) (k := 0) (As := [.int v1, .int v2, .int v3, .int v4]) (c_X10_answers X v1 v2 v3 v4 hf) mlw_answers ⟨_, rfl, rfl⟩ rfl (by decide) (by decide) rfl rfl (by decide) (by decide) (Nat.le_of_ble_eq_true rfl) rfl dL_answers_9 ?_
    rw [if_pos rfl] at F
    refine jc_i2l K dL_answers_12 ?_
    refine jc_lastore K (a := o) 176 (wO_176) (ws' := wO ad (jcA κ) o rs X' (vp_updL g 0 v.toInt64)) wO_set dL_answers_13 ?_
    refine jc_goto K dL_answers_14 (tgt := 25) (by decide) ?_
    refine jc_iconst K dL_answers_25 (v := 0) rfl ?_
    exact jc_iretW K F rfl (by decide) (by decide) dL_answers_26
  · rw [show (if (some k9 : Option Nat) = none then _ else g) = g from if_neg (by intro h; cases h)] at F
    by_cases h0 : k9 = 1
    · subst h0
      have hr : (1 : Int32) = res := Option.some.inj (show some (1 : Int32) = some res from hw)
      subst hr
      refine jc_callXT K F (ci := 10) (k := 0) (As := [.int v1, .int v2, .int v3, .int v4]) (c_X10_answers X v1 v2 v3 v4 hf) mlw_answers ⟨_, rfl, rfl⟩ rfl (by decide) (by decide) rfl rfl (by decide) (by decide) (Nat.le_of_ble_eq_true rfl) rfl dL_answers_9 [] ⟨0, 14, 17, 13⟩ [⟨0, 14, 21, 15⟩] rfl (fun z hz => nomatch hz) rfl (by decide) lk_13 (by decide +kernel) (fun q => ?_)
      refine jc_astore K dL_answers_17 (by decide) ?_
      refine jc_iconst K dL_answers_19 (v := 1) rfl ?_
      exact jc_iretW K F rfl (by decide) (by decide) dL_answers_20
    by_cases h1 : k9 = 2
    · subst h1
      have hr : (2 : Int32) = res := Option.some.inj (show some (2 : Int32) = some res from hw)
      subst hr
      refine jc_callXT K F (ci := 10) (k := 0) (As := [.int v1, .int v2, .int v3, .int v4]) (c_X10_answers X v1 v2 v3 v4 hf) mlw_answers ⟨_, rfl, rfl⟩ rfl (by decide) (by decide) rfl rfl (by decide) (by decide) (Nat.le_of_ble_eq_true rfl) rfl dL_answers_9 [⟨0, 14, 17, 13⟩] ⟨0, 14, 21, 15⟩ [] rfl (by
        intro z hz
        simp only [List.mem_cons, List.not_mem_nil, or_false] at hz
        subst hz
        · exact ⟨by decide, _, lk_13, by decide +kernel⟩
        ) rfl (by decide) lk_15 (by decide +kernel) (fun q => ?_)
      refine jc_astore K dL_answers_21 (by decide) ?_
      refine jc_iconst K dL_answers_23 (v := 2) rfl ?_
      exact jc_iretW K F rfl (by decide) (by decide) dL_answers_24
    exact absurd hw (by simp [wc, wcAt, h0, h1])
theorem cw_answersAnew (X X' : JX) (v1 : Int32) (v2 : Int32) (v3 : Int32) (v4 : Int32) (g : Nat → Int64) {e : Option Nat} {v res : Int32} (hf : f_X10_answersAnew X v1 v2 v3 v4 = some (e, v, X')) (hw : wc [1, 2] e = some res) : CalW yL_answersAnew cL_answersAnew 7 [(0, 14, 17, 13), (0, 14, 21, 15)] 7 [.int v1, .int v2, .int v3, .int v4] X X' g (if e = none then vp_updL g 0 v.toInt64 else g) res := by
  refine CalW.of (own := RL) (fun ad o => [(0, .ref (ad 0)), (1, .int v1), (2, .int v2), (3, .int v3), (4, .int v4), (5, .ref o)]) (by decide) rfl (fun _ _ => Nat.le_of_ble_eq_true rfl) (fun _ _ => rfl) (fun κ ad o rs K F => ?_)
  refine jc_aload K dL_answersAnew_0 5 rfl ?_
  refine jc_iconst K dL_answersAnew_2 (v := 0) rfl ?_
  refine jc_aload_n K dL_answersAnew_3 0 rfl ?_
  refine jc_iload_n K dL_answersAnew_4 1 rfl ?_
  refine jc_iload_n K dL_answersAnew_5 2 rfl ?_
  refine jc_iload_n K dL_answersAnew_6 3 rfl ?_
  refine jc_iload K dL_answersAnew_7 4 rfl ?_
  rcases e with _ | k9
  · have hr : (0 : Int32) = res := Option.some.inj hw
    subst hr
    refine jc_callXR K F (ci := 10) (k := 0) (As := [.int v1, .int v2, .int v3, .int v4]) (c_X10_answersAnew X v1 v2 v3 v4 hf) mlw_answersAnew ⟨_, rfl, rfl⟩ rfl (by decide) (by decide) rfl rfl (by decide) (by decide) (Nat.le_of_ble_eq_true rfl) rfl dL_answersAnew_9 ?_
    rw [if_pos rfl] at F
    refine jc_i2l K dL_answersAnew_12 ?_
    refine jc_lastore K (a := o) 176 (wO_176) (ws' := wO ad (jcA κ) o rs X' (vp_updL g 0 v.toInt64)) wO_set dL_answersAnew_13 ?_
    refine jc_goto K dL_answersAnew_14 (tgt := 25) (by decide) ?_
    refine jc_iconst K dL_answersAnew_25 (v := 0) rfl ?_
    exact jc_iretW K F rfl (by decide) (by decide) dL_answersAnew_26
  · rw [show (if (some k9 : Option Nat) = none then _ else g) = g from if_neg (by intro h; cases h)] at F
    by_cases h0 : k9 = 1
    · subst h0
      have hr : (1 : Int32) = res := Option.some.inj (show some (1 : Int32) = some res from hw)
      subst hr
      refine jc_callXT K F (ci := 10) (k := 0) (As := [.int v1, .int v2, .int v3, .int v4]) (c_X10_answersAnew X v1 v2 v3 v4 hf) mlw_answersAnew ⟨_, rfl, rfl⟩ rfl (by decide) (by decide) rfl rfl (by decide) (by decide) (Nat.le_of_ble_eq_true rfl) rfl dL_answersAnew_9 [] ⟨0, 14, 17, 13⟩ [⟨0, 14, 21, 15⟩] rfl (fun z hz => nomatch hz) rfl (by decide) lk_13 (by decide +kernel) (fun q => ?_)
      refine jc_astore K dL_answersAnew_17 (by decide) ?_
      refine jc_iconst K dL_answersAnew_19 (v := 1) rfl ?_
      exact jc_iretW K F rfl (by decide) (by decide) dL_answersAnew_20
    by_cases h1 : k9 = 2
    · subst h1
      have hr : (2 : Int32) = res := Option.some.inj (show some (2 : Int32) = some res from hw)
      subst hr
      refine jc_callXT K F (ci := 10) (k := 0) (As := [.int v1, .int v2, .int v3, .int v4]) (c_X10_answersAnew X v1 v2 v3 v4 hf) mlw_answersAnew ⟨_, rfl, rfl⟩ rfl (by decide) (by decide) rfl rfl (by decide) (by decide) (Nat.le_of_ble_eq_true rfl) rfl dL_answersAnew_9 [⟨0, 14, 17, 13⟩] ⟨0, 14, 21, 15⟩ [] rfl (by
        intro z hz
        simp only [List.mem_cons, List.not_mem_nil, or_false] at hz
        subst hz
        · exact ⟨by decide, _, lk_13, by decide +kernel⟩
        ) rfl (by decide) lk_15 (by decide +kernel) (fun q => ?_)
      refine jc_astore K dL_answersAnew_21 (by decide) ?_
      refine jc_iconst K dL_answersAnew_23 (v := 2) rfl ?_
      exact jc_iretW K F rfl (by decide) (by decide) dL_answersAnew_24
    exact absurd hw (by simp [wc, wcAt, h0, h1])
theorem cw_answer (X X' : JX) (v1 : Int32) (v2 : Int32) (v3 : Int32) (v4 : Int32) (g : Nat → Int64) {e : Option Nat} {v res : Int32} (hf : f_X10_answer X v1 v2 v3 v4 = some (e, v, X')) (hw : wc [1, 2] e = some res) : CalW yL_answer cL_answer 7 [(0, 14, 17, 13), (0, 14, 21, 15)] 7 [.int v1, .int v2, .int v3, .int v4] X X' g (if e = none then vp_updL g 0 v.toInt64 else g) res := by
  refine CalW.of (own := RL) (fun ad o => [(0, .ref (ad 0)), (1, .int v1), (2, .int v2), (3, .int v3), (4, .int v4), (5, .ref o)]) (by decide) rfl (fun _ _ => Nat.le_of_ble_eq_true rfl) (fun _ _ => rfl) (fun κ ad o rs K F => ?_)
  refine jc_aload K dL_answer_0 5 rfl ?_
  refine jc_iconst K dL_answer_2 (v := 0) rfl ?_
  refine jc_aload_n K dL_answer_3 0 rfl ?_
  refine jc_iload_n K dL_answer_4 1 rfl ?_
  refine jc_iload_n K dL_answer_5 2 rfl ?_
  refine jc_iload_n K dL_answer_6 3 rfl ?_
  refine jc_iload K dL_answer_7 4 rfl ?_
  rcases e with _ | k9
  · have hr : (0 : Int32) = res := Option.some.inj hw
    subst hr
    refine jc_callXR K F (ci := 10) (k := 0) (As := [.int v1, .int v2, .int v3, .int v4]) (c_X10_answer X v1 v2 v3 v4 hf) mlw_answer ⟨_, rfl, rfl⟩ rfl (by decide) (by decide) rfl rfl (by decide) (by decide) (Nat.le_of_ble_eq_true rfl) rfl dL_answer_9 ?_
    rw [if_pos rfl] at F
    refine jc_i2l K dL_answer_12 ?_
    refine jc_lastore K (a := o) 176 (wO_176) (ws' := wO ad (jcA κ) o rs X' (vp_updL g 0 v.toInt64)) wO_set dL_answer_13 ?_
    refine jc_goto K dL_answer_14 (tgt := 25) (by decide) ?_
    refine jc_iconst K dL_answer_25 (v := 0) rfl ?_
    exact jc_iretW K F rfl (by decide) (by decide) dL_answer_26
  · rw [show (if (some k9 : Option Nat) = none then _ else g) = g from if_neg (by intro h; cases h)] at F
    by_cases h0 : k9 = 1
    · subst h0
      have hr : (1 : Int32) = res := Option.some.inj (show some (1 : Int32) = some res from hw)
      subst hr
      refine jc_callXT K F (ci := 10) (k := 0) (As := [.int v1, .int v2, .int v3, .int v4]) (c_X10_answer X v1 v2 v3 v4 hf) mlw_answer ⟨_, rfl, rfl⟩ rfl (by decide) (by decide) rfl rfl (by decide) (by decide) (Nat.le_of_ble_eq_true rfl) rfl dL_answer_9 [] ⟨0, 14, 17, 13⟩ [⟨0, 14, 21, 15⟩] rfl (fun z hz => nomatch hz) rfl (by decide) lk_13 (by decide +kernel) (fun q => ?_)
      refine jc_astore K dL_answer_17 (by decide) ?_
      refine jc_iconst K dL_answer_19 (v := 1) rfl ?_
      exact jc_iretW K F rfl (by decide) (by decide) dL_answer_20
    by_cases h1 : k9 = 2
    · subst h1
      have hr : (2 : Int32) = res := Option.some.inj (show some (2 : Int32) = some res from hw)
      subst hr
      refine jc_callXT K F (ci := 10) (k := 0) (As := [.int v1, .int v2, .int v3, .int v4]) (c_X10_answer X v1 v2 v3 v4 hf) mlw_answer ⟨_, rfl, rfl⟩ rfl (by decide) (by decide) rfl rfl (by decide) (by decide) (Nat.le_of_ble_eq_true rfl) rfl dL_answer_9 [⟨0, 14, 17, 13⟩] ⟨0, 14, 21, 15⟩ [] rfl (by
        intro z hz
        simp only [List.mem_cons, List.not_mem_nil, or_false] at hz
        subst hz
        · exact ⟨by decide, _, lk_13, by decide +kernel⟩
        ) rfl (by decide) lk_15 (by decide +kernel) (fun q => ?_)
      refine jc_astore K dL_answer_21 (by decide) ?_
      refine jc_iconst K dL_answer_23 (v := 2) rfl ?_
      exact jc_iretW K F rfl (by decide) (by decide) dL_answer_24
    exact absurd hw (by simp [wc, wcAt, h0, h1])
theorem cw_closest (X X' : JX) (v1 : Int32) (v2 : Int32) (v3 : Int32) (v4 : Int32) (g : Nat → Int64) {e : Option Nat} {v res : Int32} (hf : f_X10_closest X v1 v2 v3 v4 = some (e, v, X')) (hw : wc [1, 2] e = some res) : CalW yL_closest cL_closest 7 [(0, 14, 17, 13), (0, 14, 21, 15)] 7 [.int v1, .int v2, .int v3, .int v4] X X' g (if e = none then vp_updL g 0 v.toInt64 else g) res := by
  refine CalW.of (own := RL) (fun ad o => [(0, .ref (ad 0)), (1, .int v1), (2, .int v2), (3, .int v3), (4, .int v4), (5, .ref o)]) (by decide) rfl (fun _ _ => Nat.le_of_ble_eq_true rfl) (fun _ _ => rfl) (fun κ ad o rs K F => ?_)
  refine jc_aload K dL_closest_0 5 rfl ?_
  refine jc_iconst K dL_closest_2 (v := 0) rfl ?_
  refine jc_aload_n K dL_closest_3 0 rfl ?_
  refine jc_iload_n K dL_closest_4 1 rfl ?_
  refine jc_iload_n K dL_closest_5 2 rfl ?_
  refine jc_iload_n K dL_closest_6 3 rfl ?_
  refine jc_iload K dL_closest_7 4 rfl ?_
  rcases e with _ | k9
  · have hr : (0 : Int32) = res := Option.some.inj hw
    subst hr
    refine jc_callXR K F (ci := 10) (k := 0) (As := [.int v1, .int v2, .int v3, .int v4]) (c_X10_closest X v1 v2 v3 v4 hf) mlw_closest ⟨_, rfl, rfl⟩ rfl (by decide) (by decide) rfl rfl (by decide) (by decide) (Nat.le_of_ble_eq_true rfl) rfl dL_closest_9 ?_
    rw [if_pos rfl] at F
    refine jc_i2l K dL_closest_12 ?_
    refine jc_lastore K (a := o) 176 (wO_176) (ws' := wO ad (jcA κ) o rs X' (vp_updL g 0 v.toInt64)) wO_set dL_closest_13 ?_
    refine jc_goto K dL_closest_14 (tgt := 25) (by decide) ?_
    refine jc_iconst K dL_closest_25 (v := 0) rfl ?_
    exact jc_iretW K F rfl (by decide) (by decide) dL_closest_26
  · rw [show (if (some k9 : Option Nat) = none then _ else g) = g from if_neg (by intro h; cases h)] at F
    by_cases h0 : k9 = 1
    · subst h0
      have hr : (1 : Int32) = res := Option.some.inj (show some (1 : Int32) = some res from hw)
      subst hr
      refine jc_callXT K F (ci := 10) (k := 0) (As := [.int v1, .int v2, .int v3, .int v4]) (c_X10_closest X v1 v2 v3 v4 hf) mlw_closest ⟨_, rfl, rfl⟩ rfl (by decide) (by decide) rfl rfl (by decide) (by decide) (Nat.le_of_ble_eq_true rfl) rfl dL_closest_9 [] ⟨0, 14, 17, 13⟩ [⟨0, 14, 21, 15⟩] rfl (fun z hz => nomatch hz) rfl (by decide) lk_13 (by decide +kernel) (fun q => ?_)
      refine jc_astore K dL_closest_17 (by decide) ?_
      refine jc_iconst K dL_closest_19 (v := 1) rfl ?_
      exact jc_iretW K F rfl (by decide) (by decide) dL_closest_20
    by_cases h1 : k9 = 2
    · subst h1
      have hr : (2 : Int32) = res := Option.some.inj (show some (2 : Int32) = some res from hw)
      subst hr
      refine jc_callXT K F (ci := 10) (k := 0) (As := [.int v1, .int v2, .int v3, .int v4]) (c_X10_closest X v1 v2 v3 v4 hf) mlw_closest ⟨_, rfl, rfl⟩ rfl (by decide) (by decide) rfl rfl (by decide) (by decide) (Nat.le_of_ble_eq_true rfl) rfl dL_closest_9 [⟨0, 14, 17, 13⟩] ⟨0, 14, 21, 15⟩ [] rfl (by
        intro z hz
        simp only [List.mem_cons, List.not_mem_nil, or_false] at hz
        subst hz
        · exact ⟨by decide, _, lk_13, by decide +kernel⟩
        ) rfl (by decide) lk_15 (by decide +kernel) (fun q => ?_)
      refine jc_astore K dL_closest_21 (by decide) ?_
      refine jc_iconst K dL_closest_23 (v := 2) rfl ?_
      exact jc_iretW K F rfl (by decide) (by decide) dL_closest_24
    exact absurd hw (by simp [wc, wcAt, h0, h1])

/-! ===== what the law needs of a relation between the two systems ===== -/
def c16 (x : Int32) : Int32 := (x.toUInt32 % 65536).toInt32
def bZ (x : Int32) : Int32 := if x = 0 then 0 else 1
def bL (x : Int32) : Int64 := if x = 0 then 0 else 1
def SimT (Rel : JX → JX → Prop) (hs : List Nat) (f : Option (Option Nat × Int32 × JX)) (g : Option (Int32 × JX)) : Prop := ∃ (e : Option Nat) (v : Int32) (X' : JX) (w : Int32) (Y' : JX), f = some (e, v, X') ∧ g = some (w, Y') ∧ wc hs e = some (Y' 0 0) ∧ (e = none → v = w) ∧ Rel X' Y'
def SimI (Rel : JX → JX → Prop) (X : JX) (f : Option Int32) (g : Option (Int32 × JX)) : Prop := ∃ (v : Int32) (Y' : JX), f = some v ∧ g = some (v, Y') ∧ Rel X Y'
def SimM (Rel : JX → JX → Prop) (f : Option (Int32 × JX)) (g : Option (Int32 × JX)) : Prop := ∃ (v : Int32) (X' Y' : JX), f = some (v, X') ∧ g = some (v, Y') ∧ Rel X' Y'
def OpSim (Rel : JX → JX → Prop) (X Y : JX) : Nat → Prop
  | 0 => ∀ (a1 : Int32) (x2 : Int32) (x3 : Int32), SimT Rel [1, 2, 3] (f_X10_make X a1 (c16 x2) (bZ x3)) (f_X11_make Y a1 (c16 x2) (bZ x3))
  | 1 => ∀ (a1 : Int32) (a2 : Int32), SimT Rel [1, 2, 3] (f_X10_write X a1 a2) (f_X11_write Y a1 a2)
  | 2 => ∀ (a1 : Int32), SimT Rel [1, 3] (f_X10_empty X a1) (f_X11_empty Y a1)
  | 3 => ∀ (a1 : Int32) (a2 : Int32) (x3 : Int32), SimT Rel [1, 2, 3] (f_X10_move X a1 a2 (c16 x3)) (f_X11_move Y a1 a2 (c16 x3))
  | 4 => ∀ (a1 : Int32), SimT Rel [1] (f_X10_remove X a1) (f_X11_remove Y a1)
  | 5 => ∀ (a1 : Int32) (x2 : Int32), SimT Rel [1] (f_X10_lock X a1 (bZ x2)) (f_X11_lock Y a1 (bZ x2))
  | 6 => ∀ (a1 : Int32) (a2 : Int32), SimT Rel [1, 2] (f_X10_people X a1 a2) (f_X11_people Y a1 a2)
  | 7 => ∀ (a1 : Int32) (a2 : Int32), SimT Rel [1] (f_X10_mayRead X a1 a2) (f_X11_mayRead Y a1 a2)
  | 8 => SimI Rel X (f_X10_nodes X) (f_X11_nodes Y)
  | 9 => ∀ (a1 : Int32), SimT Rel [1, 3] (f_X10_watch X a1) (f_X11_watch Y a1)
  | 10 => ∀ (a1 : Int32), SimT Rel [1] (f_X10_notices X a1) (f_X11_notices Y a1)
  | 11 => ∀ (a1 : Int32), SimT Rel [1, 3] (f_X10_twice X a1) (f_X11_twice Y a1)
  | 12 => ∀ (a1 : Int32) (a2 : Int32), SimT Rel [1, 2] (f_X10_lose X a1 a2) (f_X11_lose Y a1 a2)
  | 13 => ∀ (a1 : Int32), SimT Rel [2, 3] (f_X10_pass X a1) (f_X11_pass Y a1)
  | 14 => ∀ (x1 : Int32), SimM Rel (f_X10_battery X (bZ x1)) (f_X11_battery Y (bZ x1))
  | 15 => ∀ (a1 : Int32) (a2 : Int32), SimT Rel [2] (f_X10_limits X a1 a2) (f_X11_limits Y a1 a2)
  | 16 => ∀ (a1 : Int32), SimT Rel [2] (f_X10_work X a1) (f_X11_work Y a1)
  | 17 => ∀ (a1 : Int32), SimT Rel [1] (f_X10_crawl X a1) (f_X11_crawl Y a1)
  | 18 => SimI Rel X (f_X10_acts X) (f_X11_acts_ Y)
  | 19 => SimI Rel X (f_X10_isQuiet X) (f_X11_isQuiet Y)
  | 20 => SimI Rel X (f_X10_entries X) (f_X11_entries Y)
  | 21 => ∀ (a1 : Int32), SimT Rel [1] (f_X10_edition X a1) (f_X11_edition Y a1)
  | 22 => SimI Rel X (f_X10_stale X) (f_X11_stale Y)
  | 23 => SimI Rel X (f_X10_segments X) (f_X11_segments Y)
  | 24 => SimI Rel X (f_X10_dead X) (f_X11_dead Y)
  | 25 => ∀ (a1 : Int32) (a2 : Int32) (a3 : Int32) (a4 : Int32), SimT Rel [1, 2] (f_X10_answers X a1 a2 a3 a4) (f_X11_answers Y a1 a2 a3 a4)
  | 26 => ∀ (a1 : Int32) (a2 : Int32) (a3 : Int32) (a4 : Int32), SimT Rel [1, 2] (f_X10_answersAnew X a1 a2 a3 a4) (f_X11_answersAnew Y a1 a2 a3 a4)
  | 27 => ∀ (a1 : Int32) (a2 : Int32) (a3 : Int32) (a4 : Int32), SimT Rel [1, 2] (f_X10_answer X a1 a2 a3 a4) (f_X11_answer Y a1 a2 a3 a4)
  | 28 => ∀ (a1 : Int32) (a2 : Int32) (a3 : Int32) (a4 : Int32), SimT Rel [1, 2] (f_X10_closest X a1 a2 a3 a4) (f_X11_closest Y a1 a2 a3 a4)
  | _ => True
theorem wc_0 {hs : List Nat} {e : Option Nat} (hl : hs.length ≤ 3) (h : wc hs e = some 0) : e = none := by
  rcases e with _ | k
  · rfl
  · exfalso
    rcases hs with _ | ⟨a, _ | ⟨b, _ | ⟨c, _ | ⟨d, t⟩⟩⟩⟩
    · cases h
    all_goals first
      | (simp only [List.length_cons] at hl; omega)
      | (simp only [wc, wcAt] at h
         repeat' split at h
         all_goals first | (cases h; done) | exact absurd h (by decide))
section JL2
variable {n : Nat} {cc : ByteArray} {own : String} {ret : Option FieldType} {d : Nat} {κ : JK} {kc ks : Nat} {ws ws' : va_W} {pc : Nat} {lv : List (Nat × Value)} {st : List Value}
theorem jc_sldN (K : jOk n cc own ret d κ) {b Ln : Nat} {xs : Nat → Int32} (S9 : jSc b Ln xs κ) {i : Nat} (hi : i < Ln) (hL : Ln ≤ 2560) (dg : decode cc pc = .ok (.iaload, 1)) (kk : JC n κ kc ks ws (pc + 1) lv (.int (xs i) :: st)) : JC n κ kc ks ws pc lv (.int (nI i) :: .ref b :: st) := by
  refine jc_sld K S9 (vp_in_nI hi (by omega)) dg ?_
  rw [nI_clamp (show i < 2 ^ 31 by omega)]
  exact kk
theorem jc_bool (K : jOk n cc own ret d κ) {x : Int32} {o1 o2 : Int} {t1 t2 : Nat} (d0 : decode cc pc = .ok (.ifCond .eq o1, 3)) (e0 : (pc : Int) + o1 = (t1 : Int)) (d1 : decode cc (pc + 3) = .ok (.iconst 1, 1)) (d2 : decode cc (pc + 3 + 1) = .ok (.goto o2, 3)) (e2 : ((pc + 3 + 1 : Nat) : Int) + o2 = (t2 : Int)) (d3 : decode cc t1 = .ok (.iconst 0, 1)) (e3 : t1 + 1 = t2) (k : JC n κ kc ks ws t2 lv (.int (bZ x) :: st)) : JC n κ kc ks ws pc lv (.int x :: st) := by
  refine jc_if_eq K d0 e0 (fun h => ?_) (fun h => ?_)
  · refine jc_iconst K d3 (v := 0) rfl ?_
    rw [e3]
    rw [show bZ x = 0 from if_pos h] at k
    exact k
  · refine jc_iconst K d1 (v := 1) rfl ?_
    refine jc_goto K d2 e2 ?_
    rw [show bZ x = 1 from if_neg h] at k
    exact k
theorem jc_boolL (K : jOk n cc own ret d κ) {x : Int32} {o1 o2 : Int} {t1 t2 : Nat} (d0 : decode cc pc = .ok (.ifCond .eq o1, 3)) (e0 : (pc : Int) + o1 = (t1 : Int)) (d1 : decode cc (pc + 3) = .ok (.lconst 1, 1)) (d2 : decode cc (pc + 3 + 1) = .ok (.goto o2, 3)) (e2 : ((pc + 3 + 1 : Nat) : Int) + o2 = (t2 : Int)) (d3 : decode cc t1 = .ok (.lconst 0, 1)) (e3 : t1 + 1 = t2) (k : JC n κ kc ks ws t2 lv (.long (bL x) :: st)) : JC n κ kc ks ws pc lv (.int x :: st) := by
  refine jc_if_eq K d0 e0 (fun h => ?_) (fun h => ?_)
  · refine jc_lconst K d3 (v := 0) rfl ?_
    rw [e3]
    rw [show bL x = 0 from if_pos h] at k
    exact k
  · refine jc_lconst K d1 (v := 1) rfl ?_
    refine jc_goto K d2 e2 ?_
    rw [show bL x = 1 from if_neg h] at k
    exact k
end JL2
theorem thr_eq (Y : JX) : f_X11_thrown Y = some (Y 0 0) := rfl
theorem and31 (x : Int32) : ∃ k : Nat, k < 32 ∧ x &&& 31 = nI k := by
  refine ⟨(x &&& 31).toBitVec.toNat, ?_, ?_⟩
  · have h : (x &&& 31).toBitVec = x.toBitVec &&& 31#32 := rfl
    rw [h, BitVec.toNat_and]
    exact Nat.lt_of_le_of_lt Nat.and_le_right (by decide)
  · apply Int32.toBitVec_inj.mp
    show _ = BitVec.ofNat 32 _
    simp
theorem nI_sub5 {Ln i : Nat} (hL : Ln ≤ 2560) (hi : i ≤ 2565) : nI Ln - 5 < nI i ↔ Ln < i + 5 := by
  by_cases h : 5 ≤ Ln
  · obtain ⟨j, rfl⟩ := Nat.exists_eq_add_of_le' h
    have e : nI (j + 5) - 5 = nI j := by
      rw [← nI_add]
      exact Int32.add_sub_cancel _ _
    rw [e, nI_ltI (by omega) (by omega)]
    omega
  · have h2 : nI Ln - 5 < 0 := by
      have : Ln = 0 ∨ Ln = 1 ∨ Ln = 2 ∨ Ln = 3 ∨ Ln = 4 := by omega
      rcases this with rfl | rfl | rfl | rfl | rfl <;> decide
    have h3 : nI Ln - 5 < nI i := Int32.lt_of_lt_of_le h2 (nI_pos' (by omega))
    exact ⟨fun _ => by omega, fun _ => h3⟩
/-- the law's locals at its loop's head -/
abbrev lvL (b o : Nat) (ad ad2 : Nat → Nat) (i : Nat) : List (Nat × Value) := [(4, .int (nI i)), (3, .ref o), (2, .ref (ad2 0)), (1, .ref (ad 0)), (0, .ref b)]
theorem mw_make : MWk RL 89 yL_make cL_make 6 [(0, 12, 15, 13), (0, 12, 19, 15), (0, 12, 23, 17)] 5 := MWk.of 493 494 61 495 (by decide +kernel) (by decide +kernel) (by decide +kernel) (by decide +kernel) ⟨(by decide +kernel), (by decide +kernel), (by decide +kernel)⟩
theorem mly_make : MLk RL 94 yX11_make cX11_make 5 (some .int) 3 := MLk.of 1309 1310 1311 73 1312 (by decide +kernel) (by decide +kernel) (by decide +kernel) (by decide +kernel) (by decide +kernel) ⟨(by decide +kernel), (by decide +kernel), (by decide +kernel)⟩
theorem mly_thrown : MLk RL 95 yX11_thrown cX11_thrown 1 (some .int) 0 := MLk.of 1305 1306 1307 73 1308 (by decide +kernel) (by decide +kernel) (by decide +kernel) (by decide +kernel) (by decide +kernel) ⟨(by decide +kernel), (by decide +kernel), (by decide +kernel)⟩
theorem mw_write : MWk RL 99 yL_write cL_write 5 [(0, 10, 13, 13), (0, 10, 17, 15), (0, 10, 21, 17)] 4 := MWk.of 631 632 61 633 (by decide +kernel) (by decide +kernel) (by decide +kernel) (by decide +kernel) ⟨(by decide +kernel), (by decide +kernel), (by decide +kernel)⟩
theorem mly_write : MLk RL 102 yX11_write cX11_write 3 (some .int) 2 := MLk.of 1344 1345 1346 73 1347 (by decide +kernel) (by decide +kernel) (by decide +kernel) (by decide +kernel) (by decide +kernel) ⟨(by decide +kernel), (by decide +kernel), (by decide +kernel)⟩
theorem mw_empty : MWk RL 103 yL_empty cL_empty 4 [(0, 9, 12, 13), (0, 9, 15, 17)] 3 := MWk.of 660 661 61 662 (by decide +kernel) (by decide +kernel) (by decide +kernel) (by decide +kernel) ⟨(by decide +kernel), (by decide +kernel), (by decide +kernel)⟩
theorem mly_empty : MLk RL 106 yX11_empty cX11_empty 3 (some .int) 1 := MLk.of 1352 1353 1354 73 1355 (by decide +kernel) (by decide +kernel) (by decide +kernel) (by decide +kernel) (by decide +kernel) ⟨(by decide +kernel), (by decide +kernel), (by decide +kernel)⟩
theorem mw_move : MWk RL 107 yL_move cL_move 6 [(0, 12, 15, 13), (0, 12, 19, 15), (0, 12, 23, 17)] 5 := MWk.of 672 673 61 674 (by decide +kernel) (by decide +kernel) (by decide +kernel) (by decide +kernel) ⟨(by decide +kernel), (by decide +kernel), (by decide +kernel)⟩
theorem mly_move : MLk RL 110 yX11_move cX11_move 9 (some .int) 3 := MLk.of 1356 1357 1358 73 1359 (by decide +kernel) (by decide +kernel) (by decide +kernel) (by decide +kernel) (by decide +kernel) ⟨(by decide +kernel), (by decide +kernel), (by decide +kernel)⟩
theorem mw_remove : MWk RL 111 yL_remove cL_remove 4 [(0, 9, 12, 13)] 3 := MWk.of 705 706 61 707 (by decide +kernel) (by decide +kernel) (by decide +kernel) (by decide +kernel) ⟨(by decide +kernel), (by decide +kernel), (by decide +kernel)⟩
theorem mly_remove : MLk RL 113 yX11_remove cX11_remove 5 (some .int) 1 := MLk.of 1368 1369 1370 73 1371 (by decide +kernel) (by decide +kernel) (by decide +kernel) (by decide +kernel) (by decide +kernel) ⟨(by decide +kernel), (by decide +kernel), (by decide +kernel)⟩
theorem mw_lock : MWk RL 114 yL_lock cL_lock 5 [(0, 17, 20, 13)] 4 := MWk.of 736 737 61 738 (by decide +kernel) (by decide +kernel) (by decide +kernel) (by decide +kernel) ⟨(by decide +kernel), (by decide +kernel), (by decide +kernel)⟩
theorem mly_lock : MLk RL 117 yX11_lock cX11_lock 4 (some .boolean) 2 := MLk.of 1384 1385 1386 73 1387 (by decide +kernel) (by decide +kernel) (by decide +kernel) (by decide +kernel) (by decide +kernel) ⟨(by decide +kernel), (by decide +kernel), (by decide +kernel)⟩
theorem mw_people : MWk RL 118 yL_people cL_people 5 [(0, 10, 13, 13), (0, 10, 17, 15)] 4 := MWk.of 747 748 61 749 (by decide +kernel) (by decide +kernel) (by decide +kernel) (by decide +kernel) ⟨(by decide +kernel), (by decide +kernel), (by decide +kernel)⟩
theorem mly_people : MLk RL 120 yX11_people cX11_people 4 (some .int) 2 := MLk.of 1388 1389 1390 73 1391 (by decide +kernel) (by decide +kernel) (by decide +kernel) (by decide +kernel) (by decide +kernel) ⟨(by decide +kernel), (by decide +kernel), (by decide +kernel)⟩
theorem mw_mayRead : MWk RL 121 yL_mayRead cL_mayRead 5 [(0, 17, 20, 13)] 4 := MWk.of 764 765 61 766 (by decide +kernel) (by decide +kernel) (by decide +kernel) (by decide +kernel) ⟨(by decide +kernel), (by decide +kernel), (by decide +kernel)⟩
theorem mly_mayRead : MLk RL 123 yX11_mayRead cX11_mayRead 3 (some .boolean) 2 := MLk.of 1392 1393 1394 73 1395 (by decide +kernel) (by decide +kernel) (by decide +kernel) (by decide +kernel) (by decide +kernel) ⟨(by decide +kernel), (by decide +kernel), (by decide +kernel)⟩
theorem mlx_nodes : MLk RL 124 yX10_nodes cX10_nodes 1 (some .int) 0 := MLk.of 376 377 378 62 379 (by decide +kernel) (by decide +kernel) (by decide +kernel) (by decide +kernel) (by decide +kernel) ⟨(by decide +kernel), (by decide +kernel), (by decide +kernel)⟩
theorem mly_nodes : MLk RL 127 yX11_nodes cX11_nodes 3 (some .int) 0 := MLk.of 1400 1401 1402 73 1403 (by decide +kernel) (by decide +kernel) (by decide +kernel) (by decide +kernel) (by decide +kernel) ⟨(by decide +kernel), (by decide +kernel), (by decide +kernel)⟩
theorem mw_watch : MWk RL 128 yL_watch cL_watch 4 [(0, 9, 12, 13), (0, 9, 15, 17)] 3 := MWk.of 780 781 61 782 (by decide +kernel) (by decide +kernel) (by decide +kernel) (by decide +kernel) ⟨(by decide +kernel), (by decide +kernel), (by decide +kernel)⟩
theorem mly_watch : MLk RL 130 yX11_watch cX11_watch 3 (some .int) 1 := MLk.of 1404 1405 1406 73 1407 (by decide +kernel) (by decide +kernel) (by decide +kernel) (by decide +kernel) (by decide +kernel) ⟨(by decide +kernel), (by decide +kernel), (by decide +kernel)⟩
theorem mw_notices : MWk RL 131 yL_notices cL_notices 4 [(0, 9, 12, 13)] 3 := MWk.of 818 819 61 820 (by decide +kernel) (by decide +kernel) (by decide +kernel) (by decide +kernel) ⟨(by decide +kernel), (by decide +kernel), (by decide +kernel)⟩
theorem mly_notices : MLk RL 133 yX11_notices cX11_notices 3 (some .int) 1 := MLk.of 1412 1413 1414 73 1415 (by decide +kernel) (by decide +kernel) (by decide +kernel) (by decide +kernel) (by decide +kernel) ⟨(by decide +kernel), (by decide +kernel), (by decide +kernel)⟩
theorem mw_twice : MWk RL 134 yL_twice cL_twice 4 [(0, 9, 12, 13), (0, 9, 15, 17)] 3 := MWk.of 830 831 61 832 (by decide +kernel) (by decide +kernel) (by decide +kernel) (by decide +kernel) ⟨(by decide +kernel), (by decide +kernel), (by decide +kernel)⟩
theorem mly_twice : MLk RL 136 yX11_twice cX11_twice 3 (some .int) 1 := MLk.of 1416 1417 1418 73 1419 (by decide +kernel) (by decide +kernel) (by decide +kernel) (by decide +kernel) (by decide +kernel) ⟨(by decide +kernel), (by decide +kernel), (by decide +kernel)⟩
theorem mw_lose : MWk RL 137 yL_lose cL_lose 5 [(0, 10, 13, 13), (0, 10, 17, 15)] 4 := MWk.of 844 845 61 846 (by decide +kernel) (by decide +kernel) (by decide +kernel) (by decide +kernel) ⟨(by decide +kernel), (by decide +kernel), (by decide +kernel)⟩
theorem mly_lose : MLk RL 139 yX11_lose cX11_lose 4 (some .int) 2 := MLk.of 1420 1421 1422 73 1423 (by decide +kernel) (by decide +kernel) (by decide +kernel) (by decide +kernel) (by decide +kernel) ⟨(by decide +kernel), (by decide +kernel), (by decide +kernel)⟩
theorem mw_pass : MWk RL 140 yL_pass cL_pass 4 [(0, 9, 12, 15), (0, 9, 15, 17)] 3 := MWk.of 859 860 61 861 (by decide +kernel) (by decide +kernel) (by decide +kernel) (by decide +kernel) ⟨(by decide +kernel), (by decide +kernel), (by decide +kernel)⟩
theorem mly_pass : MLk RL 142 yX11_pass cX11_pass 2 (some .int) 1 := MLk.of 1424 1425 1426 73 1427 (by decide +kernel) (by decide +kernel) (by decide +kernel) (by decide +kernel) (by decide +kernel) ⟨(by decide +kernel), (by decide +kernel), (by decide +kernel)⟩
theorem mlx_battery : MLk RL 143 yX10_battery cX10_battery 3 (some .boolean) 1 := MLk.of 384 385 386 62 387 (by decide +kernel) (by decide +kernel) (by decide +kernel) (by decide +kernel) (by decide +kernel) ⟨(by decide +kernel), (by decide +kernel), (by decide +kernel)⟩
theorem mly_battery : MLk RL 147 yX11_battery cX11_battery 3 (some .boolean) 1 := MLk.of 1429 1430 1431 73 1432 (by decide +kernel) (by decide +kernel) (by decide +kernel) (by decide +kernel) (by decide +kernel) ⟨(by decide +kernel), (by decide +kernel), (by decide +kernel)⟩
theorem mw_limits : MWk RL 148 yL_limits cL_limits 5 [(0, 10, 13, 15)] 4 := MWk.of 869 870 61 871 (by decide +kernel) (by decide +kernel) (by decide +kernel) (by decide +kernel) ⟨(by decide +kernel), (by decide +kernel), (by decide +kernel)⟩
theorem mly_limits : MLk RL 150 yX11_limits cX11_limits 4 (some .int) 2 := MLk.of 1433 1434 1435 73 1436 (by decide +kernel) (by decide +kernel) (by decide +kernel) (by decide +kernel) (by decide +kernel) ⟨(by decide +kernel), (by decide +kernel), (by decide +kernel)⟩
theorem mw_work : MWk RL 151 yL_work cL_work 4 [(0, 9, 12, 15)] 3 := MWk.of 877 878 61 879 (by decide +kernel) (by decide +kernel) (by decide +kernel) (by decide +kernel) ⟨(by decide +kernel), (by decide +kernel), (by decide +kernel)⟩
theorem mly_work : MLk RL 153 yX11_work cX11_work 6 (some .int) 1 := MLk.of 1437 1438 1439 73 1440 (by decide +kernel) (by decide +kernel) (by decide +kernel) (by decide +kernel) (by decide +kernel) ⟨(by decide +kernel), (by decide +kernel), (by decide +kernel)⟩
theorem mw_crawl : MWk RL 154 yL_crawl cL_crawl 4 [(0, 9, 12, 13)] 3 := MWk.of 1050 1051 61 1052 (by decide +kernel) (by decide +kernel) (by decide +kernel) (by decide +kernel) ⟨(by decide +kernel), (by decide +kernel), (by decide +kernel)⟩
theorem mly_crawl : MLk RL 156 yX11_crawl cX11_crawl 5 (some .int) 1 := MLk.of 1529 1530 1531 73 1532 (by decide +kernel) (by decide +kernel) (by decide +kernel) (by decide +kernel) (by decide +kernel) ⟨(by decide +kernel), (by decide +kernel), (by decide +kernel)⟩
theorem mlx_acts : MLk RL 157 yX10_acts cX10_acts 1 (some .int) 0 := MLk.of 388 389 390 62 391 (by decide +kernel) (by decide +kernel) (by decide +kernel) (by decide +kernel) (by decide +kernel) ⟨(by decide +kernel), (by decide +kernel), (by decide +kernel)⟩
theorem mly_acts : MLk RL 160 yX11_acts_ cX11_acts_ 1 (some .int) 0 := MLk.of 1533 1534 1535 73 1536 (by decide +kernel) (by decide +kernel) (by decide +kernel) (by decide +kernel) (by decide +kernel) ⟨(by decide +kernel), (by decide +kernel), (by decide +kernel)⟩
theorem mlx_isQuiet : MLk RL 161 yX10_isQuiet cX10_isQuiet 1 (some .boolean) 0 := MLk.of 400 401 402 62 403 (by decide +kernel) (by decide +kernel) (by decide +kernel) (by decide +kernel) (by decide +kernel) ⟨(by decide +kernel), (by decide +kernel), (by decide +kernel)⟩
theorem mly_isQuiet : MLk RL 165 yX11_isQuiet cX11_isQuiet 1 (some .boolean) 0 := MLk.of 1537 1538 1539 73 1540 (by decide +kernel) (by decide +kernel) (by decide +kernel) (by decide +kernel) (by decide +kernel) ⟨(by decide +kernel), (by decide +kernel), (by decide +kernel)⟩
theorem mlx_entries : MLk RL 166 yX10_entries cX10_entries 1 (some .int) 0 := MLk.of 416 417 418 62 419 (by decide +kernel) (by decide +kernel) (by decide +kernel) (by decide +kernel) (by decide +kernel) ⟨(by decide +kernel), (by decide +kernel), (by decide +kernel)⟩
theorem mly_entries : MLk RL 169 yX11_entries cX11_entries 3 (some .int) 0 := MLk.of 1541 1542 1543 73 1544 (by decide +kernel) (by decide +kernel) (by decide +kernel) (by decide +kernel) (by decide +kernel) ⟨(by decide +kernel), (by decide +kernel), (by decide +kernel)⟩
theorem mw_edition : MWk RL 170 yL_edition cL_edition 4 [(0, 9, 12, 13)] 3 := MWk.of 1058 1059 61 1060 (by decide +kernel) (by decide +kernel) (by decide +kernel) (by decide +kernel) ⟨(by decide +kernel), (by decide +kernel), (by decide +kernel)⟩
theorem mly_edition : MLk RL 172 yX11_edition cX11_edition 2 (some .int) 1 := MLk.of 1545 1546 1547 73 1548 (by decide +kernel) (by decide +kernel) (by decide +kernel) (by decide +kernel) (by decide +kernel) ⟨(by decide +kernel), (by decide +kernel), (by decide +kernel)⟩
theorem mlx_stale : MLk RL 173 yX10_stale cX10_stale 1 (some .int) 0 := MLk.of 424 425 426 62 427 (by decide +kernel) (by decide +kernel) (by decide +kernel) (by decide +kernel) (by decide +kernel) ⟨(by decide +kernel), (by decide +kernel), (by decide +kernel)⟩
theorem mly_stale : MLk RL 176 yX11_stale cX11_stale 4 (some .int) 0 := MLk.of 1549 1550 1551 73 1552 (by decide +kernel) (by decide +kernel) (by decide +kernel) (by decide +kernel) (by decide +kernel) ⟨(by decide +kernel), (by decide +kernel), (by decide +kernel)⟩
theorem mlx_segments : MLk RL 177 yX10_segments cX10_segments 1 (some .int) 0 := MLk.of 469 470 471 62 472 (by decide +kernel) (by decide +kernel) (by decide +kernel) (by decide +kernel) (by decide +kernel) ⟨(by decide +kernel), (by decide +kernel), (by decide +kernel)⟩
theorem mly_segments : MLk RL 180 yX11_segments cX11_segments 1 (some .int) 0 := MLk.of 1553 1554 1555 73 1556 (by decide +kernel) (by decide +kernel) (by decide +kernel) (by decide +kernel) (by decide +kernel) ⟨(by decide +kernel), (by decide +kernel), (by decide +kernel)⟩
theorem mlx_dead : MLk RL 181 yX10_dead cX10_dead 1 (some .int) 0 := MLk.of 481 482 483 62 484 (by decide +kernel) (by decide +kernel) (by decide +kernel) (by decide +kernel) (by decide +kernel) ⟨(by decide +kernel), (by decide +kernel), (by decide +kernel)⟩
theorem mly_dead : MLk RL 184 yX11_dead cX11_dead 3 (some .int) 0 := MLk.of 1557 1558 1559 73 1560 (by decide +kernel) (by decide +kernel) (by decide +kernel) (by decide +kernel) (by decide +kernel) ⟨(by decide +kernel), (by decide +kernel), (by decide +kernel)⟩
theorem mw_answers : MWk RL 185 yL_answers cL_answers 7 [(0, 14, 17, 13), (0, 14, 21, 15)] 6 := MWk.of 1071 1072 61 1073 (by decide +kernel) (by decide +kernel) (by decide +kernel) (by decide +kernel) ⟨(by decide +kernel), (by decide +kernel), (by decide +kernel)⟩
theorem mly_answers : MLk RL 188 yX11_answers cX11_answers 8 (some .int) 4 := MLk.of 1561 1562 1563 73 1564 (by decide +kernel) (by decide +kernel) (by decide +kernel) (by decide +kernel) (by decide +kernel) ⟨(by decide +kernel), (by decide +kernel), (by decide +kernel)⟩
theorem mw_answersAnew : MWk RL 189 yL_answersAnew cL_answersAnew 7 [(0, 14, 17, 13), (0, 14, 21, 15)] 6 := MWk.of 1107 1108 61 1109 (by decide +kernel) (by decide +kernel) (by decide +kernel) (by decide +kernel) ⟨(by decide +kernel), (by decide +kernel), (by decide +kernel)⟩
theorem mly_answersAnew : MLk RL 191 yX11_answersAnew cX11_answersAnew 13 (some .int) 4 := MLk.of 1585 1586 1587 73 1588 (by decide +kernel) (by decide +kernel) (by decide +kernel) (by decide +kernel) (by decide +kernel) ⟨(by decide +kernel), (by decide +kernel), (by decide +kernel)⟩
theorem mw_answer : MWk RL 192 yL_answer cL_answer 7 [(0, 14, 17, 13), (0, 14, 21, 15)] 6 := MWk.of 1127 1128 61 1129 (by decide +kernel) (by decide +kernel) (by decide +kernel) (by decide +kernel) ⟨(by decide +kernel), (by decide +kernel), (by decide +kernel)⟩
theorem mly_answer : MLk RL 194 yX11_answer cX11_answer 10 (some .int) 4 := MLk.of 1589 1590 1591 73 1592 (by decide +kernel) (by decide +kernel) (by decide +kernel) (by decide +kernel) (by decide +kernel) ⟨(by decide +kernel), (by decide +kernel), (by decide +kernel)⟩
theorem mw_closest : MWk RL 195 yL_closest cL_closest 7 [(0, 14, 17, 13), (0, 14, 21, 15)] 6 := MWk.of 1144 1145 61 1146 (by decide +kernel) (by decide +kernel) (by decide +kernel) (by decide +kernel) ⟨(by decide +kernel), (by decide +kernel), (by decide +kernel)⟩
theorem mly_closest : MLk RL 197 yX11_closest cX11_closest 10 (some .int) 4 := MLk.of 1597 1598 1599 73 1600 (by decide +kernel) (by decide +kernel) (by decide +kernel) (by decide +kernel) (by decide +kernel) ⟨(by decide +kernel), (by decide +kernel), (by decide +kernel)⟩
theorem lc_0 {Rel : JX → JX → Prop} {κ : JK} {kc ks b o Ln i : Nat} {xs : Nat → Int32} {ad ad2 : Nat → Nat} {X Y : JX} {g : Nat → Int64} (K : jOk 7 cL_law RL (some .boolean) 11 κ) (G : jRl κ) (S9 : jSc b Ln xs κ) (hL : Ln ≤ 2560) (hi : i + 5 ≤ Ln) (hSim : ∀ k, OpSim Rel X Y k) (h1 : kc + 1 ≤ 601024) (h2 : ks + 6 ≤ 7293034) (kk : ∀ (X' Y' : JX) (g' : Nat → Int64), Rel X' Y' → JC 7 κ (kc + 1) (ks + 6) (wO ad (jcA κ) o (wZ LY ad2 (jcA κ) Y') X' g') 1790 (lvL b o ad ad2 i) []) : JC 7 κ kc ks (wO ad (jcA κ) o (wZ LY ad2 (jcA κ) Y) X g) 168 (lvL b o ad ad2 i) [] := by
  obtain ⟨e, v, X', w, Y', hf, hg, hw, hv, hR'⟩ := (hSim 0 : OpSim Rel X Y 0) (xs (i + 1)) (xs (i + 2)) (xs (i + 3))
  refine jc_aload_n K dL_law_168 3 rfl ?_
  refine jc_aload_n K dL_law_169 4 rfl ?_
  refine jc_iload K dL_law_170 0 rfl ?_
  refine jc_iconst K dL_law_172 (v := nI 1) rfl ?_
  refine jc_iadd K dL_law_173 (nI_add i 1) ?_
  refine jc_sldN K S9 (by omega) hL dL_law_174 ?_
  refine jc_aload_n K dL_law_175 4 rfl ?_
  refine jc_iload K dL_law_176 0 rfl ?_
  refine jc_iconst K dL_law_178 (v := nI 2) rfl ?_
  refine jc_iadd K dL_law_179 (nI_add i 2) ?_
  refine jc_sldN K S9 (by omega) hL dL_law_180 ?_
  refine jc_i2c K (v := c16 (xs (i + 2))) dL_law_181 rfl ?_
  refine jc_aload_n K dL_law_182 4 rfl ?_
  refine jc_iload K dL_law_183 0 rfl ?_
  refine jc_iconst K dL_law_185 (v := nI 3) rfl ?_
  refine jc_iadd K dL_law_186 (nI_add i 3) ?_
  refine jc_sldN K S9 (by omega) hL dL_law_187 ?_
  refine jc_bool K (t1 := 195) (t2 := 196) dL_law_188 (by decide) dL_law_191 dL_law_192 (by decide) dL_law_195 rfl ?_
  refine jc_aload_n K dL_law_196 1 rfl ?_
  refine jc_wrap K G (As := [.int (xs (i + 1)), .int (c16 (xs (i + 2))), .int (bZ (xs (i + 3)))]) (cw_make X X' (xs (i + 1)) (c16 (xs (i + 2))) (bZ (xs (i + 3))) g hf hw) mw_make rfl (by decide) (by decide) (Nat.le_of_ble_eq_true rfl) h1 h2 dL_law_197 ?_
  refine jc_istore K dL_law_200 (by decide) ?_
  refine jc_toY ?_
  refine jc_aload_n K dL_law_202 3 rfl ?_
  refine jc_aload_n K dL_law_203 5 rfl ?_
  refine jc_iload K dL_law_204 1 rfl ?_
  refine jc_iconst K dL_law_206 (v := nI 1) rfl ?_
  refine jc_iadd K dL_law_207 (nI_add i 1) ?_
  refine jc_sldN K S9 (by omega) hL dL_law_208 ?_
  refine jc_aload_n K dL_law_209 5 rfl ?_
  refine jc_iload K dL_law_210 1 rfl ?_
  refine jc_iconst K dL_law_212 (v := nI 2) rfl ?_
  refine jc_iadd K dL_law_213 (nI_add i 2) ?_
  refine jc_sldN K S9 (by omega) hL dL_law_214 ?_
  refine jc_i2c K (v := c16 (xs (i + 2))) dL_law_215 rfl ?_
  refine jc_aload_n K dL_law_216 5 rfl ?_
  refine jc_iload K dL_law_217 1 rfl ?_
  refine jc_iconst K dL_law_219 (v := nI 3) rfl ?_
  refine jc_iadd K dL_law_220 (nI_add i 3) ?_
  refine jc_sldN K S9 (by omega) hL dL_law_221 ?_
  refine jc_bool K (t1 := 229) (t2 := 230) dL_law_222 (by decide) dL_law_225 dL_law_226 (by decide) dL_law_229 rfl ?_
  refine jc_callV K (L := LY) (ci := 11) (k := 0) (As := [.int (xs (i + 1)), .int (c16 (xs (i + 2))), .int (bZ (xs (i + 3)))]) (X' := Y') (rv := some (.int w)) (c_X11_make Y (xs (i + 1)) (c16 (xs (i + 2))) (bZ (xs (i + 3))) hg) mly_make ⟨_, rfl, rfl⟩ rfl (by decide) (by decide) rfl rfl (by decide) (by decide) (Nat.le_of_ble_eq_true rfl) rfl dL_law_230 G h1 h2 ?_
  refine jc_istore K dL_law_233 (by decide) ?_
  refine jc_aload_n K dL_law_235 4 rfl ?_
  refine jc_callV K (L := LY) (ci := 11) (k := 0) (As := []) (X' := Y') (rv := some (.int (Y' 0 0))) (c_X11_thrown Y' (thr_eq Y')) mly_thrown ⟨_, rfl, rfl⟩ rfl (by decide) (by decide) rfl rfl (by decide) (by decide) (Nat.le_of_ble_eq_true rfl) rfl dL_law_236 G h1 h2 ?_
  refine jc_iload K dL_law_239 1 rfl ?_
  refine jc_icmp_eq K dL_law_241 (tgt := 246) (by decide) (fun _ => ?_) (fun h => absurd rfl h)
  refine jc_toX ?_
  refine jc_iload K dL_law_246 1 rfl ?_
  refine jc_if_ne K dL_law_248 (tgt := 263) (by decide) (fun _ => ?_) (fun h0 => ?_)
  · refine jc_goto K dL_law_263 (tgt := 1790) (by decide) ?_
    exact jc_sub [2, 3, 4, 5, 6] rfl (kk X' Y' _ hR')
  · obtain rfl : e = none := wc_0 (by decide) (hw.trans (congrArg some h0))
    obtain rfl : v = w := hv rfl
    refine jc_aload_n K dL_law_251 3 rfl ?_
    refine jc_iconst K dL_law_252 (v := 0) rfl ?_
    refine jc_laload K 176 wO_176 (v := v.toInt64) (by rw [if_pos rfl]; exact if_pos rfl) dL_law_253 ?_
    refine jc_iload K dL_law_254 0 rfl ?_
    refine jc_i2l K dL_law_256 ?_
    refine jc_lcmp K dL_law_257 ?_
    refine jc_if_eq K dL_law_258 (tgt := 263) (by decide) (fun _ => ?_) (fun h => absurd (lg_cmp_0.mpr rfl) h)
    refine jc_goto K dL_law_263 (tgt := 1790) (by decide) ?_
    exact jc_sub [2, 3, 4, 5, 6] rfl (kk X' Y' _ hR')
theorem lc_1 {Rel : JX → JX → Prop} {κ : JK} {kc ks b o Ln i : Nat} {xs : Nat → Int32} {ad ad2 : Nat → Nat} {X Y : JX} {g : Nat → Int64} (K : jOk 7 cL_law RL (some .boolean) 11 κ) (G : jRl κ) (S9 : jSc b Ln xs κ) (hL : Ln ≤ 2560) (hi : i + 5 ≤ Ln) (hSim : ∀ k, OpSim Rel X Y k) (h1 : kc + 1 ≤ 601024) (h2 : ks + 6 ≤ 7293034) (kk : ∀ (X' Y' : JX) (g' : Nat → Int64), Rel X' Y' → JC 7 κ (kc + 1) (ks + 6) (wO ad (jcA κ) o (wZ LY ad2 (jcA κ) Y') X' g') 1790 (lvL b o ad ad2 i) []) : JC 7 κ kc ks (wO ad (jcA κ) o (wZ LY ad2 (jcA κ) Y) X g) 266 (lvL b o ad ad2 i) [] := by
  obtain ⟨e, v, X', w, Y', hf, hg, hw, hv, hR'⟩ := (hSim 1 : OpSim Rel X Y 1) (xs (i + 1)) (xs (i + 2))
  refine jc_aload_n K dL_law_266 3 rfl ?_
  refine jc_aload_n K dL_law_267 4 rfl ?_
  refine jc_iload K dL_law_268 0 rfl ?_
  refine jc_iconst K dL_law_270 (v := nI 1) rfl ?_
  refine jc_iadd K dL_law_271 (nI_add i 1) ?_
  refine jc_sldN K S9 (by omega) hL dL_law_272 ?_
  refine jc_aload_n K dL_law_273 4 rfl ?_
  refine jc_iload K dL_law_274 0 rfl ?_
  refine jc_iconst K dL_law_276 (v := nI 2) rfl ?_
  refine jc_iadd K dL_law_277 (nI_add i 2) ?_
  refine jc_sldN K S9 (by omega) hL dL_law_278 ?_
  refine jc_aload_n K dL_law_279 1 rfl ?_
  refine jc_wrap K G (As := [.int (xs (i + 1)), .int (xs (i + 2))]) (cw_write X X' (xs (i + 1)) (xs (i + 2)) g hf hw) mw_write rfl (by decide) (by decide) (Nat.le_of_ble_eq_true rfl) h1 h2 dL_law_280 ?_
  refine jc_istore K dL_law_283 (by decide) ?_
  refine jc_toY ?_
  refine jc_aload_n K dL_law_285 3 rfl ?_
  refine jc_aload_n K dL_law_286 5 rfl ?_
  refine jc_iload K dL_law_287 1 rfl ?_
  refine jc_iconst K dL_law_289 (v := nI 1) rfl ?_
  refine jc_iadd K dL_law_290 (nI_add i 1) ?_
  refine jc_sldN K S9 (by omega) hL dL_law_291 ?_
  refine jc_aload_n K dL_law_292 5 rfl ?_
  refine jc_iload K dL_law_293 1 rfl ?_
  refine jc_iconst K dL_law_295 (v := nI 2) rfl ?_
  refine jc_iadd K dL_law_296 (nI_add i 2) ?_
  refine jc_sldN K S9 (by omega) hL dL_law_297 ?_
  refine jc_callV K (L := LY) (ci := 11) (k := 0) (As := [.int (xs (i + 1)), .int (xs (i + 2))]) (X' := Y') (rv := some (.int w)) (c_X11_write Y (xs (i + 1)) (xs (i + 2)) hg) mly_write ⟨_, rfl, rfl⟩ rfl (by decide) (by decide) rfl rfl (by decide) (by decide) (Nat.le_of_ble_eq_true rfl) rfl dL_law_298 G h1 h2 ?_
  refine jc_istore K dL_law_301 (by decide) ?_
  refine jc_aload_n K dL_law_303 4 rfl ?_
  refine jc_callV K (L := LY) (ci := 11) (k := 0) (As := []) (X' := Y') (rv := some (.int (Y' 0 0))) (c_X11_thrown Y' (thr_eq Y')) mly_thrown ⟨_, rfl, rfl⟩ rfl (by decide) (by decide) rfl rfl (by decide) (by decide) (Nat.le_of_ble_eq_true rfl) rfl dL_law_304 G h1 h2 ?_
  refine jc_iload K dL_law_307 1 rfl ?_
  refine jc_icmp_eq K dL_law_309 (tgt := 314) (by decide) (fun _ => ?_) (fun h => absurd rfl h)
  refine jc_toX ?_
  refine jc_iload K dL_law_314 1 rfl ?_
  refine jc_if_ne K dL_law_316 (tgt := 331) (by decide) (fun _ => ?_) (fun h0 => ?_)
  · refine jc_goto K dL_law_331 (tgt := 1790) (by decide) ?_
    exact jc_sub [2, 3, 4, 5, 6] rfl (kk X' Y' _ hR')
  · obtain rfl : e = none := wc_0 (by decide) (hw.trans (congrArg some h0))
    obtain rfl : v = w := hv rfl
    refine jc_aload_n K dL_law_319 3 rfl ?_
    refine jc_iconst K dL_law_320 (v := 0) rfl ?_
    refine jc_laload K 176 wO_176 (v := v.toInt64) (by rw [if_pos rfl]; exact if_pos rfl) dL_law_321 ?_
    refine jc_iload K dL_law_322 0 rfl ?_
    refine jc_i2l K dL_law_324 ?_
    refine jc_lcmp K dL_law_325 ?_
    refine jc_if_eq K dL_law_326 (tgt := 331) (by decide) (fun _ => ?_) (fun h => absurd (lg_cmp_0.mpr rfl) h)
    refine jc_goto K dL_law_331 (tgt := 1790) (by decide) ?_
    exact jc_sub [2, 3, 4, 5, 6] rfl (kk X' Y' _ hR')
theorem lc_2 {Rel : JX → JX → Prop} {κ : JK} {kc ks b o Ln i : Nat} {xs : Nat → Int32} {ad ad2 : Nat → Nat} {X Y : JX} {g : Nat → Int64} (K : jOk 7 cL_law RL (some .boolean) 11 κ) (G : jRl κ) (S9 : jSc b Ln xs κ) (hL : Ln ≤ 2560) (hi : i + 5 ≤ Ln) (hSim : ∀ k, OpSim Rel X Y k) (h1 : kc + 1 ≤ 601024) (h2 : ks + 6 ≤ 7293034) (kk : ∀ (X' Y' : JX) (g' : Nat → Int64), Rel X' Y' → JC 7 κ (kc + 1) (ks + 6) (wO ad (jcA κ) o (wZ LY ad2 (jcA κ) Y') X' g') 1790 (lvL b o ad ad2 i) []) : JC 7 κ kc ks (wO ad (jcA κ) o (wZ LY ad2 (jcA κ) Y) X g) 334 (lvL b o ad ad2 i) [] := by
  obtain ⟨e, v, X', w, Y', hf, hg, hw, hv, hR'⟩ := (hSim 2 : OpSim Rel X Y 2) (xs (i + 1))
  refine jc_aload_n K dL_law_334 3 rfl ?_
  refine jc_aload_n K dL_law_335 4 rfl ?_
  refine jc_iload K dL_law_336 0 rfl ?_
  refine jc_iconst K dL_law_338 (v := nI 1) rfl ?_
  refine jc_iadd K dL_law_339 (nI_add i 1) ?_
  refine jc_sldN K S9 (by omega) hL dL_law_340 ?_
  refine jc_aload_n K dL_law_341 1 rfl ?_
  refine jc_wrap K G (As := [.int (xs (i + 1))]) (cw_empty X X' (xs (i + 1)) g hf hw) mw_empty rfl (by decide) (by decide) (Nat.le_of_ble_eq_true rfl) h1 h2 dL_law_342 ?_
  refine jc_istore K dL_law_345 (by decide) ?_
  refine jc_toY ?_
  refine jc_aload_n K dL_law_347 3 rfl ?_
  refine jc_aload_n K dL_law_348 5 rfl ?_
  refine jc_iload K dL_law_349 1 rfl ?_
  refine jc_iconst K dL_law_351 (v := nI 1) rfl ?_
  refine jc_iadd K dL_law_352 (nI_add i 1) ?_
  refine jc_sldN K S9 (by omega) hL dL_law_353 ?_
  refine jc_callV K (L := LY) (ci := 11) (k := 0) (As := [.int (xs (i + 1))]) (X' := Y') (rv := some (.int w)) (c_X11_empty Y (xs (i + 1)) hg) mly_empty ⟨_, rfl, rfl⟩ rfl (by decide) (by decide) rfl rfl (by decide) (by decide) (Nat.le_of_ble_eq_true rfl) rfl dL_law_354 G h1 h2 ?_
  refine jc_istore K dL_law_357 (by decide) ?_
  refine jc_aload_n K dL_law_359 4 rfl ?_
  refine jc_callV K (L := LY) (ci := 11) (k := 0) (As := []) (X' := Y') (rv := some (.int (Y' 0 0))) (c_X11_thrown Y' (thr_eq Y')) mly_thrown ⟨_, rfl, rfl⟩ rfl (by decide) (by decide) rfl rfl (by decide) (by decide) (Nat.le_of_ble_eq_true rfl) rfl dL_law_360 G h1 h2 ?_
  refine jc_iload K dL_law_363 1 rfl ?_
  refine jc_icmp_eq K dL_law_365 (tgt := 370) (by decide) (fun _ => ?_) (fun h => absurd rfl h)
  refine jc_toX ?_
  refine jc_iload K dL_law_370 1 rfl ?_
  refine jc_if_ne K dL_law_372 (tgt := 387) (by decide) (fun _ => ?_) (fun h0 => ?_)
  · refine jc_goto K dL_law_387 (tgt := 1790) (by decide) ?_
    exact jc_sub [2, 3, 4, 5, 6] rfl (kk X' Y' _ hR')
  · obtain rfl : e = none := wc_0 (by decide) (hw.trans (congrArg some h0))
    obtain rfl : v = w := hv rfl
    refine jc_aload_n K dL_law_375 3 rfl ?_
    refine jc_iconst K dL_law_376 (v := 0) rfl ?_
    refine jc_laload K 176 wO_176 (v := v.toInt64) (by rw [if_pos rfl]; exact if_pos rfl) dL_law_377 ?_
    refine jc_iload K dL_law_378 0 rfl ?_
    refine jc_i2l K dL_law_380 ?_
    refine jc_lcmp K dL_law_381 ?_
    refine jc_if_eq K dL_law_382 (tgt := 387) (by decide) (fun _ => ?_) (fun h => absurd (lg_cmp_0.mpr rfl) h)
    refine jc_goto K dL_law_387 (tgt := 1790) (by decide) ?_
    exact jc_sub [2, 3, 4, 5, 6] rfl (kk X' Y' _ hR')
theorem lc_3 {Rel : JX → JX → Prop} {κ : JK} {kc ks b o Ln i : Nat} {xs : Nat → Int32} {ad ad2 : Nat → Nat} {X Y : JX} {g : Nat → Int64} (K : jOk 7 cL_law RL (some .boolean) 11 κ) (G : jRl κ) (S9 : jSc b Ln xs κ) (hL : Ln ≤ 2560) (hi : i + 5 ≤ Ln) (hSim : ∀ k, OpSim Rel X Y k) (h1 : kc + 1 ≤ 601024) (h2 : ks + 6 ≤ 7293034) (kk : ∀ (X' Y' : JX) (g' : Nat → Int64), Rel X' Y' → JC 7 κ (kc + 1) (ks + 6) (wO ad (jcA κ) o (wZ LY ad2 (jcA κ) Y') X' g') 1790 (lvL b o ad ad2 i) []) : JC 7 κ kc ks (wO ad (jcA κ) o (wZ LY ad2 (jcA κ) Y) X g) 390 (lvL b o ad ad2 i) [] := by
  obtain ⟨e, v, X', w, Y', hf, hg, hw, hv, hR'⟩ := (hSim 3 : OpSim Rel X Y 3) (xs (i + 1)) (xs (i + 2)) (xs (i + 3))
  refine jc_aload_n K dL_law_390 3 rfl ?_
  refine jc_aload_n K dL_law_391 4 rfl ?_
  refine jc_iload K dL_law_392 0 rfl ?_
  refine jc_iconst K dL_law_394 (v := nI 1) rfl ?_
  refine jc_iadd K dL_law_395 (nI_add i 1) ?_
  refine jc_sldN K S9 (by omega) hL dL_law_396 ?_
  refine jc_aload_n K dL_law_397 4 rfl ?_
  refine jc_iload K dL_law_398 0 rfl ?_
  refine jc_iconst K dL_law_400 (v := nI 2) rfl ?_
  refine jc_iadd K dL_law_401 (nI_add i 2) ?_
  refine jc_sldN K S9 (by omega) hL dL_law_402 ?_
  refine jc_aload_n K dL_law_403 4 rfl ?_
  refine jc_iload K dL_law_404 0 rfl ?_
  refine jc_iconst K dL_law_406 (v := nI 3) rfl ?_
  refine jc_iadd K dL_law_407 (nI_add i 3) ?_
  refine jc_sldN K S9 (by omega) hL dL_law_408 ?_
  refine jc_i2c K (v := c16 (xs (i + 3))) dL_law_409 rfl ?_
  refine jc_aload_n K dL_law_410 1 rfl ?_
  refine jc_wrap K G (As := [.int (xs (i + 1)), .int (xs (i + 2)), .int (c16 (xs (i + 3)))]) (cw_move X X' (xs (i + 1)) (xs (i + 2)) (c16 (xs (i + 3))) g hf hw) mw_move rfl (by decide) (by decide) (Nat.le_of_ble_eq_true rfl) h1 h2 dL_law_411 ?_
  refine jc_istore K dL_law_414 (by decide) ?_
  refine jc_toY ?_
  refine jc_aload_n K dL_law_416 3 rfl ?_
  refine jc_aload_n K dL_law_417 5 rfl ?_
  refine jc_iload K dL_law_418 1 rfl ?_
  refine jc_iconst K dL_law_420 (v := nI 1) rfl ?_
  refine jc_iadd K dL_law_421 (nI_add i 1) ?_
  refine jc_sldN K S9 (by omega) hL dL_law_422 ?_
  refine jc_aload_n K dL_law_423 5 rfl ?_
  refine jc_iload K dL_law_424 1 rfl ?_
  refine jc_iconst K dL_law_426 (v := nI 2) rfl ?_
  refine jc_iadd K dL_law_427 (nI_add i 2) ?_
  refine jc_sldN K S9 (by omega) hL dL_law_428 ?_
  refine jc_aload_n K dL_law_429 5 rfl ?_
  refine jc_iload K dL_law_430 1 rfl ?_
  refine jc_iconst K dL_law_432 (v := nI 3) rfl ?_
  refine jc_iadd K dL_law_433 (nI_add i 3) ?_
  refine jc_sldN K S9 (by omega) hL dL_law_434 ?_
  refine jc_i2c K (v := c16 (xs (i + 3))) dL_law_435 rfl ?_
  refine jc_callV K (L := LY) (ci := 11) (k := 0) (As := [.int (xs (i + 1)), .int (xs (i + 2)), .int (c16 (xs (i + 3)))]) (X' := Y') (rv := some (.int w)) (c_X11_move Y (xs (i + 1)) (xs (i + 2)) (c16 (xs (i + 3))) hg) mly_move ⟨_, rfl, rfl⟩ rfl (by decide) (by decide) rfl rfl (by decide) (by decide) (Nat.le_of_ble_eq_true rfl) rfl dL_law_436 G h1 h2 ?_
  refine jc_istore K dL_law_439 (by decide) ?_
  refine jc_aload_n K dL_law_441 4 rfl ?_
  refine jc_callV K (L := LY) (ci := 11) (k := 0) (As := []) (X' := Y') (rv := some (.int (Y' 0 0))) (c_X11_thrown Y' (thr_eq Y')) mly_thrown ⟨_, rfl, rfl⟩ rfl (by decide) (by decide) rfl rfl (by decide) (by decide) (Nat.le_of_ble_eq_true rfl) rfl dL_law_442 G h1 h2 ?_
  refine jc_iload K dL_law_445 1 rfl ?_
  refine jc_icmp_eq K dL_law_447 (tgt := 452) (by decide) (fun _ => ?_) (fun h => absurd rfl h)
  refine jc_toX ?_
  refine jc_iload K dL_law_452 1 rfl ?_
  refine jc_if_ne K dL_law_454 (tgt := 469) (by decide) (fun _ => ?_) (fun h0 => ?_)
  · refine jc_goto K dL_law_469 (tgt := 1790) (by decide) ?_
    exact jc_sub [2, 3, 4, 5, 6] rfl (kk X' Y' _ hR')
  · obtain rfl : e = none := wc_0 (by decide) (hw.trans (congrArg some h0))
    obtain rfl : v = w := hv rfl
    refine jc_aload_n K dL_law_457 3 rfl ?_
    refine jc_iconst K dL_law_458 (v := 0) rfl ?_
    refine jc_laload K 176 wO_176 (v := v.toInt64) (by rw [if_pos rfl]; exact if_pos rfl) dL_law_459 ?_
    refine jc_iload K dL_law_460 0 rfl ?_
    refine jc_i2l K dL_law_462 ?_
    refine jc_lcmp K dL_law_463 ?_
    refine jc_if_eq K dL_law_464 (tgt := 469) (by decide) (fun _ => ?_) (fun h => absurd (lg_cmp_0.mpr rfl) h)
    refine jc_goto K dL_law_469 (tgt := 1790) (by decide) ?_
    exact jc_sub [2, 3, 4, 5, 6] rfl (kk X' Y' _ hR')
theorem lc_4 {Rel : JX → JX → Prop} {κ : JK} {kc ks b o Ln i : Nat} {xs : Nat → Int32} {ad ad2 : Nat → Nat} {X Y : JX} {g : Nat → Int64} (K : jOk 7 cL_law RL (some .boolean) 11 κ) (G : jRl κ) (S9 : jSc b Ln xs κ) (hL : Ln ≤ 2560) (hi : i + 5 ≤ Ln) (hSim : ∀ k, OpSim Rel X Y k) (h1 : kc + 1 ≤ 601024) (h2 : ks + 6 ≤ 7293034) (kk : ∀ (X' Y' : JX) (g' : Nat → Int64), Rel X' Y' → JC 7 κ (kc + 1) (ks + 6) (wO ad (jcA κ) o (wZ LY ad2 (jcA κ) Y') X' g') 1790 (lvL b o ad ad2 i) []) : JC 7 κ kc ks (wO ad (jcA κ) o (wZ LY ad2 (jcA κ) Y) X g) 472 (lvL b o ad ad2 i) [] := by
  obtain ⟨e, v, X', w, Y', hf, hg, hw, hv, hR'⟩ := (hSim 4 : OpSim Rel X Y 4) (xs (i + 1))
  refine jc_aload_n K dL_law_472 3 rfl ?_
  refine jc_aload_n K dL_law_473 4 rfl ?_
  refine jc_iload K dL_law_474 0 rfl ?_
  refine jc_iconst K dL_law_476 (v := nI 1) rfl ?_
  refine jc_iadd K dL_law_477 (nI_add i 1) ?_
  refine jc_sldN K S9 (by omega) hL dL_law_478 ?_
  refine jc_aload_n K dL_law_479 1 rfl ?_
  refine jc_wrap K G (As := [.int (xs (i + 1))]) (cw_remove X X' (xs (i + 1)) g hf hw) mw_remove rfl (by decide) (by decide) (Nat.le_of_ble_eq_true rfl) h1 h2 dL_law_480 ?_
  refine jc_istore K dL_law_483 (by decide) ?_
  refine jc_toY ?_
  refine jc_aload_n K dL_law_485 3 rfl ?_
  refine jc_aload_n K dL_law_486 5 rfl ?_
  refine jc_iload K dL_law_487 1 rfl ?_
  refine jc_iconst K dL_law_489 (v := nI 1) rfl ?_
  refine jc_iadd K dL_law_490 (nI_add i 1) ?_
  refine jc_sldN K S9 (by omega) hL dL_law_491 ?_
  refine jc_callV K (L := LY) (ci := 11) (k := 0) (As := [.int (xs (i + 1))]) (X' := Y') (rv := some (.int w)) (c_X11_remove Y (xs (i + 1)) hg) mly_remove ⟨_, rfl, rfl⟩ rfl (by decide) (by decide) rfl rfl (by decide) (by decide) (Nat.le_of_ble_eq_true rfl) rfl dL_law_492 G h1 h2 ?_
  refine jc_istore K dL_law_495 (by decide) ?_
  refine jc_aload_n K dL_law_497 4 rfl ?_
  refine jc_callV K (L := LY) (ci := 11) (k := 0) (As := []) (X' := Y') (rv := some (.int (Y' 0 0))) (c_X11_thrown Y' (thr_eq Y')) mly_thrown ⟨_, rfl, rfl⟩ rfl (by decide) (by decide) rfl rfl (by decide) (by decide) (Nat.le_of_ble_eq_true rfl) rfl dL_law_498 G h1 h2 ?_
  refine jc_iload K dL_law_501 1 rfl ?_
  refine jc_icmp_eq K dL_law_503 (tgt := 508) (by decide) (fun _ => ?_) (fun h => absurd rfl h)
  refine jc_toX ?_
  refine jc_iload K dL_law_508 1 rfl ?_
  refine jc_if_ne K dL_law_510 (tgt := 525) (by decide) (fun _ => ?_) (fun h0 => ?_)
  · refine jc_goto K dL_law_525 (tgt := 1790) (by decide) ?_
    exact jc_sub [2, 3, 4, 5, 6] rfl (kk X' Y' _ hR')
  · obtain rfl : e = none := wc_0 (by decide) (hw.trans (congrArg some h0))
    obtain rfl : v = w := hv rfl
    refine jc_aload_n K dL_law_513 3 rfl ?_
    refine jc_iconst K dL_law_514 (v := 0) rfl ?_
    refine jc_laload K 176 wO_176 (v := v.toInt64) (by rw [if_pos rfl]; exact if_pos rfl) dL_law_515 ?_
    refine jc_iload K dL_law_516 0 rfl ?_
    refine jc_i2l K dL_law_518 ?_
    refine jc_lcmp K dL_law_519 ?_
    refine jc_if_eq K dL_law_520 (tgt := 525) (by decide) (fun _ => ?_) (fun h => absurd (lg_cmp_0.mpr rfl) h)
    refine jc_goto K dL_law_525 (tgt := 1790) (by decide) ?_
    exact jc_sub [2, 3, 4, 5, 6] rfl (kk X' Y' _ hR')
theorem lc_5 {Rel : JX → JX → Prop} {κ : JK} {kc ks b o Ln i : Nat} {xs : Nat → Int32} {ad ad2 : Nat → Nat} {X Y : JX} {g : Nat → Int64} (K : jOk 7 cL_law RL (some .boolean) 11 κ) (G : jRl κ) (S9 : jSc b Ln xs κ) (hL : Ln ≤ 2560) (hi : i + 5 ≤ Ln) (hSim : ∀ k, OpSim Rel X Y k) (h1 : kc + 1 ≤ 601024) (h2 : ks + 6 ≤ 7293034) (kk : ∀ (X' Y' : JX) (g' : Nat → Int64), Rel X' Y' → JC 7 κ (kc + 1) (ks + 6) (wO ad (jcA κ) o (wZ LY ad2 (jcA κ) Y') X' g') 1790 (lvL b o ad ad2 i) []) : JC 7 κ kc ks (wO ad (jcA κ) o (wZ LY ad2 (jcA κ) Y) X g) 528 (lvL b o ad ad2 i) [] := by
  obtain ⟨e, v, X', w, Y', hf, hg, hw, hv, hR'⟩ := (hSim 5 : OpSim Rel X Y 5) (xs (i + 1)) (xs (i + 2))
  refine jc_aload_n K dL_law_528 3 rfl ?_
  refine jc_aload_n K dL_law_529 4 rfl ?_
  refine jc_iload K dL_law_530 0 rfl ?_
  refine jc_iconst K dL_law_532 (v := nI 1) rfl ?_
  refine jc_iadd K dL_law_533 (nI_add i 1) ?_
  refine jc_sldN K S9 (by omega) hL dL_law_534 ?_
  refine jc_aload_n K dL_law_535 4 rfl ?_
  refine jc_iload K dL_law_536 0 rfl ?_
  refine jc_iconst K dL_law_538 (v := nI 2) rfl ?_
  refine jc_iadd K dL_law_539 (nI_add i 2) ?_
  refine jc_sldN K S9 (by omega) hL dL_law_540 ?_
  refine jc_bool K (t1 := 548) (t2 := 549) dL_law_541 (by decide) dL_law_544 dL_law_545 (by decide) dL_law_548 rfl ?_
  refine jc_aload_n K dL_law_549 1 rfl ?_
  refine jc_wrap K G (As := [.int (xs (i + 1)), .int (bZ (xs (i + 2)))]) (cw_lock X X' (xs (i + 1)) (bZ (xs (i + 2))) g hf hw) mw_lock rfl (by decide) (by decide) (Nat.le_of_ble_eq_true rfl) h1 h2 dL_law_550 ?_
  refine jc_istore K dL_law_553 (by decide) ?_
  refine jc_toY ?_
  refine jc_aload_n K dL_law_555 3 rfl ?_
  refine jc_aload_n K dL_law_556 5 rfl ?_
  refine jc_iload K dL_law_557 1 rfl ?_
  refine jc_iconst K dL_law_559 (v := nI 1) rfl ?_
  refine jc_iadd K dL_law_560 (nI_add i 1) ?_
  refine jc_sldN K S9 (by omega) hL dL_law_561 ?_
  refine jc_aload_n K dL_law_562 5 rfl ?_
  refine jc_iload K dL_law_563 1 rfl ?_
  refine jc_iconst K dL_law_565 (v := nI 2) rfl ?_
  refine jc_iadd K dL_law_566 (nI_add i 2) ?_
  refine jc_sldN K S9 (by omega) hL dL_law_567 ?_
  refine jc_bool K (t1 := 575) (t2 := 576) dL_law_568 (by decide) dL_law_571 dL_law_572 (by decide) dL_law_575 rfl ?_
  refine jc_callV K (L := LY) (ci := 11) (k := 0) (As := [.int (xs (i + 1)), .int (bZ (xs (i + 2)))]) (X' := Y') (rv := some (.int w)) (c_X11_lock Y (xs (i + 1)) (bZ (xs (i + 2))) hg) mly_lock ⟨_, rfl, rfl⟩ rfl (by decide) (by decide) rfl rfl (by decide) (by decide) (Nat.le_of_ble_eq_true rfl) rfl dL_law_576 G h1 h2 ?_
  refine jc_istore K dL_law_579 (by decide) ?_
  refine jc_aload_n K dL_law_581 4 rfl ?_
  refine jc_callV K (L := LY) (ci := 11) (k := 0) (As := []) (X' := Y') (rv := some (.int (Y' 0 0))) (c_X11_thrown Y' (thr_eq Y')) mly_thrown ⟨_, rfl, rfl⟩ rfl (by decide) (by decide) rfl rfl (by decide) (by decide) (Nat.le_of_ble_eq_true rfl) rfl dL_law_582 G h1 h2 ?_
  refine jc_iload K dL_law_585 1 rfl ?_
  refine jc_icmp_eq K dL_law_587 (tgt := 592) (by decide) (fun _ => ?_) (fun h => absurd rfl h)
  refine jc_toX ?_
  refine jc_iload K dL_law_592 1 rfl ?_
  refine jc_if_ne K dL_law_594 (tgt := 616) (by decide) (fun _ => ?_) (fun h0 => ?_)
  · refine jc_goto K dL_law_616 (tgt := 1790) (by decide) ?_
    exact jc_sub [2, 3, 4, 5, 6] rfl (kk X' Y' _ hR')
  · obtain rfl : e = none := wc_0 (by decide) (hw.trans (congrArg some h0))
    obtain rfl : v = w := hv rfl
    refine jc_aload_n K dL_law_597 3 rfl ?_
    refine jc_iconst K dL_law_598 (v := 0) rfl ?_
    refine jc_laload K 176 wO_176 (v := (bL v)) (by rw [if_pos rfl]; exact if_pos rfl) dL_law_599 ?_
    refine jc_iload K dL_law_600 0 rfl ?_
    refine jc_boolL K (t1 := 609) (t2 := 610) dL_law_602 (by decide) dL_law_605 dL_law_606 (by decide) dL_law_609 rfl ?_
    refine jc_lcmp K dL_law_610 ?_
    refine jc_if_eq K dL_law_611 (tgt := 616) (by decide) (fun _ => ?_) (fun h => absurd (lg_cmp_0.mpr rfl) h)
    refine jc_goto K dL_law_616 (tgt := 1790) (by decide) ?_
    exact jc_sub [2, 3, 4, 5, 6] rfl (kk X' Y' _ hR')
theorem lc_6 {Rel : JX → JX → Prop} {κ : JK} {kc ks b o Ln i : Nat} {xs : Nat → Int32} {ad ad2 : Nat → Nat} {X Y : JX} {g : Nat → Int64} (K : jOk 7 cL_law RL (some .boolean) 11 κ) (G : jRl κ) (S9 : jSc b Ln xs κ) (hL : Ln ≤ 2560) (hi : i + 5 ≤ Ln) (hSim : ∀ k, OpSim Rel X Y k) (h1 : kc + 1 ≤ 601024) (h2 : ks + 6 ≤ 7293034) (kk : ∀ (X' Y' : JX) (g' : Nat → Int64), Rel X' Y' → JC 7 κ (kc + 1) (ks + 6) (wO ad (jcA κ) o (wZ LY ad2 (jcA κ) Y') X' g') 1790 (lvL b o ad ad2 i) []) : JC 7 κ kc ks (wO ad (jcA κ) o (wZ LY ad2 (jcA κ) Y) X g) 619 (lvL b o ad ad2 i) [] := by
  obtain ⟨e, v, X', w, Y', hf, hg, hw, hv, hR'⟩ := (hSim 6 : OpSim Rel X Y 6) (xs (i + 1)) (xs (i + 2))
  refine jc_aload_n K dL_law_619 3 rfl ?_
  refine jc_aload_n K dL_law_620 4 rfl ?_
  refine jc_iload K dL_law_621 0 rfl ?_
  refine jc_iconst K dL_law_623 (v := nI 1) rfl ?_
  refine jc_iadd K dL_law_624 (nI_add i 1) ?_
  refine jc_sldN K S9 (by omega) hL dL_law_625 ?_
  refine jc_aload_n K dL_law_626 4 rfl ?_
  refine jc_iload K dL_law_627 0 rfl ?_
  refine jc_iconst K dL_law_629 (v := nI 2) rfl ?_
  refine jc_iadd K dL_law_630 (nI_add i 2) ?_
  refine jc_sldN K S9 (by omega) hL dL_law_631 ?_
  refine jc_aload_n K dL_law_632 1 rfl ?_
  refine jc_wrap K G (As := [.int (xs (i + 1)), .int (xs (i + 2))]) (cw_people X X' (xs (i + 1)) (xs (i + 2)) g hf hw) mw_people rfl (by decide) (by decide) (Nat.le_of_ble_eq_true rfl) h1 h2 dL_law_633 ?_
  refine jc_istore K dL_law_636 (by decide) ?_
  refine jc_toY ?_
  refine jc_aload_n K dL_law_638 3 rfl ?_
  refine jc_aload_n K dL_law_639 5 rfl ?_
  refine jc_iload K dL_law_640 1 rfl ?_
  refine jc_iconst K dL_law_642 (v := nI 1) rfl ?_
  refine jc_iadd K dL_law_643 (nI_add i 1) ?_
  refine jc_sldN K S9 (by omega) hL dL_law_644 ?_
  refine jc_aload_n K dL_law_645 5 rfl ?_
  refine jc_iload K dL_law_646 1 rfl ?_
  refine jc_iconst K dL_law_648 (v := nI 2) rfl ?_
  refine jc_iadd K dL_law_649 (nI_add i 2) ?_
  refine jc_sldN K S9 (by omega) hL dL_law_650 ?_
  refine jc_callV K (L := LY) (ci := 11) (k := 0) (As := [.int (xs (i + 1)), .int (xs (i + 2))]) (X' := Y') (rv := some (.int w)) (c_X11_people Y (xs (i + 1)) (xs (i + 2)) hg) mly_people ⟨_, rfl, rfl⟩ rfl (by decide) (by decide) rfl rfl (by decide) (by decide) (Nat.le_of_ble_eq_true rfl) rfl dL_law_651 G h1 h2 ?_
  refine jc_istore K dL_law_654 (by decide) ?_
  refine jc_aload_n K dL_law_656 4 rfl ?_
  refine jc_callV K (L := LY) (ci := 11) (k := 0) (As := []) (X' := Y') (rv := some (.int (Y' 0 0))) (c_X11_thrown Y' (thr_eq Y')) mly_thrown ⟨_, rfl, rfl⟩ rfl (by decide) (by decide) rfl rfl (by decide) (by decide) (Nat.le_of_ble_eq_true rfl) rfl dL_law_657 G h1 h2 ?_
  refine jc_iload K dL_law_660 1 rfl ?_
  refine jc_icmp_eq K dL_law_662 (tgt := 667) (by decide) (fun _ => ?_) (fun h => absurd rfl h)
  refine jc_toX ?_
  refine jc_iload K dL_law_667 1 rfl ?_
  refine jc_if_ne K dL_law_669 (tgt := 684) (by decide) (fun _ => ?_) (fun h0 => ?_)
  · refine jc_goto K dL_law_684 (tgt := 1790) (by decide) ?_
    exact jc_sub [2, 3, 4, 5, 6] rfl (kk X' Y' _ hR')
  · obtain rfl : e = none := wc_0 (by decide) (hw.trans (congrArg some h0))
    obtain rfl : v = w := hv rfl
    refine jc_aload_n K dL_law_672 3 rfl ?_
    refine jc_iconst K dL_law_673 (v := 0) rfl ?_
    refine jc_laload K 176 wO_176 (v := v.toInt64) (by rw [if_pos rfl]; exact if_pos rfl) dL_law_674 ?_
    refine jc_iload K dL_law_675 0 rfl ?_
    refine jc_i2l K dL_law_677 ?_
    refine jc_lcmp K dL_law_678 ?_
    refine jc_if_eq K dL_law_679 (tgt := 684) (by decide) (fun _ => ?_) (fun h => absurd (lg_cmp_0.mpr rfl) h)
    refine jc_goto K dL_law_684 (tgt := 1790) (by decide) ?_
    exact jc_sub [2, 3, 4, 5, 6] rfl (kk X' Y' _ hR')
theorem lc_7 {Rel : JX → JX → Prop} {κ : JK} {kc ks b o Ln i : Nat} {xs : Nat → Int32} {ad ad2 : Nat → Nat} {X Y : JX} {g : Nat → Int64} (K : jOk 7 cL_law RL (some .boolean) 11 κ) (G : jRl κ) (S9 : jSc b Ln xs κ) (hL : Ln ≤ 2560) (hi : i + 5 ≤ Ln) (hSim : ∀ k, OpSim Rel X Y k) (h1 : kc + 1 ≤ 601024) (h2 : ks + 6 ≤ 7293034) (kk : ∀ (X' Y' : JX) (g' : Nat → Int64), Rel X' Y' → JC 7 κ (kc + 1) (ks + 6) (wO ad (jcA κ) o (wZ LY ad2 (jcA κ) Y') X' g') 1790 (lvL b o ad ad2 i) []) : JC 7 κ kc ks (wO ad (jcA κ) o (wZ LY ad2 (jcA κ) Y) X g) 687 (lvL b o ad ad2 i) [] := by
  obtain ⟨e, v, X', w, Y', hf, hg, hw, hv, hR'⟩ := (hSim 7 : OpSim Rel X Y 7) (xs (i + 1)) (xs (i + 2))
  refine jc_aload_n K dL_law_687 3 rfl ?_
  refine jc_aload_n K dL_law_688 4 rfl ?_
  refine jc_iload K dL_law_689 0 rfl ?_
  refine jc_iconst K dL_law_691 (v := nI 1) rfl ?_
  refine jc_iadd K dL_law_692 (nI_add i 1) ?_
  refine jc_sldN K S9 (by omega) hL dL_law_693 ?_
  refine jc_aload_n K dL_law_694 4 rfl ?_
  refine jc_iload K dL_law_695 0 rfl ?_
  refine jc_iconst K dL_law_697 (v := nI 2) rfl ?_
  refine jc_iadd K dL_law_698 (nI_add i 2) ?_
  refine jc_sldN K S9 (by omega) hL dL_law_699 ?_
  refine jc_aload_n K dL_law_700 1 rfl ?_
  refine jc_wrap K G (As := [.int (xs (i + 1)), .int (xs (i + 2))]) (cw_mayRead X X' (xs (i + 1)) (xs (i + 2)) g hf hw) mw_mayRead rfl (by decide) (by decide) (Nat.le_of_ble_eq_true rfl) h1 h2 dL_law_701 ?_
  refine jc_istore K dL_law_704 (by decide) ?_
  refine jc_toY ?_
  refine jc_aload_n K dL_law_706 3 rfl ?_
  refine jc_aload_n K dL_law_707 5 rfl ?_
  refine jc_iload K dL_law_708 1 rfl ?_
  refine jc_iconst K dL_law_710 (v := nI 1) rfl ?_
  refine jc_iadd K dL_law_711 (nI_add i 1) ?_
  refine jc_sldN K S9 (by omega) hL dL_law_712 ?_
  refine jc_aload_n K dL_law_713 5 rfl ?_
  refine jc_iload K dL_law_714 1 rfl ?_
  refine jc_iconst K dL_law_716 (v := nI 2) rfl ?_
  refine jc_iadd K dL_law_717 (nI_add i 2) ?_
  refine jc_sldN K S9 (by omega) hL dL_law_718 ?_
  refine jc_callV K (L := LY) (ci := 11) (k := 0) (As := [.int (xs (i + 1)), .int (xs (i + 2))]) (X' := Y') (rv := some (.int w)) (c_X11_mayRead Y (xs (i + 1)) (xs (i + 2)) hg) mly_mayRead ⟨_, rfl, rfl⟩ rfl (by decide) (by decide) rfl rfl (by decide) (by decide) (Nat.le_of_ble_eq_true rfl) rfl dL_law_719 G h1 h2 ?_
  refine jc_istore K dL_law_722 (by decide) ?_
  refine jc_aload_n K dL_law_724 4 rfl ?_
  refine jc_callV K (L := LY) (ci := 11) (k := 0) (As := []) (X' := Y') (rv := some (.int (Y' 0 0))) (c_X11_thrown Y' (thr_eq Y')) mly_thrown ⟨_, rfl, rfl⟩ rfl (by decide) (by decide) rfl rfl (by decide) (by decide) (Nat.le_of_ble_eq_true rfl) rfl dL_law_725 G h1 h2 ?_
  refine jc_iload K dL_law_728 1 rfl ?_
  refine jc_icmp_eq K dL_law_730 (tgt := 735) (by decide) (fun _ => ?_) (fun h => absurd rfl h)
  refine jc_toX ?_
  refine jc_iload K dL_law_735 1 rfl ?_
  refine jc_if_ne K dL_law_737 (tgt := 759) (by decide) (fun _ => ?_) (fun h0 => ?_)
  · refine jc_goto K dL_law_759 (tgt := 1790) (by decide) ?_
    exact jc_sub [2, 3, 4, 5, 6] rfl (kk X' Y' _ hR')
  · obtain rfl : e = none := wc_0 (by decide) (hw.trans (congrArg some h0))
    obtain rfl : v = w := hv rfl
    refine jc_aload_n K dL_law_740 3 rfl ?_
    refine jc_iconst K dL_law_741 (v := 0) rfl ?_
    refine jc_laload K 176 wO_176 (v := (bL v)) (by rw [if_pos rfl]; exact if_pos rfl) dL_law_742 ?_
    refine jc_iload K dL_law_743 0 rfl ?_
    refine jc_boolL K (t1 := 752) (t2 := 753) dL_law_745 (by decide) dL_law_748 dL_law_749 (by decide) dL_law_752 rfl ?_
    refine jc_lcmp K dL_law_753 ?_
    refine jc_if_eq K dL_law_754 (tgt := 759) (by decide) (fun _ => ?_) (fun h => absurd (lg_cmp_0.mpr rfl) h)
    refine jc_goto K dL_law_759 (tgt := 1790) (by decide) ?_
    exact jc_sub [2, 3, 4, 5, 6] rfl (kk X' Y' _ hR')
theorem lc_8 {Rel : JX → JX → Prop} {κ : JK} {kc ks b o Ln i : Nat} {xs : Nat → Int32} {ad ad2 : Nat → Nat} {X Y : JX} {g : Nat → Int64} (K : jOk 7 cL_law RL (some .boolean) 11 κ) (G : jRl κ) (S9 : jSc b Ln xs κ) (hL : Ln ≤ 2560) (hi : i + 5 ≤ Ln) (hSim : ∀ k, OpSim Rel X Y k) (h1 : kc + 1 ≤ 601024) (h2 : ks + 6 ≤ 7293034) (kk : ∀ (X' Y' : JX) (g' : Nat → Int64), Rel X' Y' → JC 7 κ (kc + 1) (ks + 6) (wO ad (jcA κ) o (wZ LY ad2 (jcA κ) Y') X' g') 1790 (lvL b o ad ad2 i) []) : JC 7 κ kc ks (wO ad (jcA κ) o (wZ LY ad2 (jcA κ) Y) X g) 762 (lvL b o ad ad2 i) [] := by
  obtain ⟨v, Y', hf, hg, hR'⟩ := (hSim 8 : OpSim Rel X Y 8)
  refine jc_widen (mc := kc + 1) (ms := ks + 6) (Nat.le_succ _) (Nat.le_add_right _ _) ?_
  refine jc_aload_n K dL_law_762 3 rfl ?_
  refine jc_callV K (L := LX) (ci := 10) (k := 0) (As := []) (X' := X) (rv := some (.int v)) (c_X10_nodes X hf) mlx_nodes ⟨_, rfl, rfl⟩ rfl (by decide) (by decide) rfl rfl (by decide) (by decide) (Nat.le_of_ble_eq_true rfl) rfl dL_law_763 G h1 h2 ?_
  refine jc_toY (X := X) (g := g) ?_
  refine jc_aload_n K dL_law_766 2 rfl ?_
  refine jc_callV K (L := LY) (ci := 11) (k := 0) (As := []) (X' := Y') (rv := some (.int v)) (c_X11_nodes Y hg) mly_nodes ⟨_, rfl, rfl⟩ rfl (by decide) (by decide) rfl rfl (by decide) (by decide) (Nat.le_of_ble_eq_true rfl) rfl dL_law_767 G h1 h2 ?_
  refine jc_toX ?_
  refine jc_icmp_eq K dL_law_770 (tgt := 1790) (by decide) (fun _ => ?_) (fun h => absurd rfl h)
  exact kk X Y' g hR'
theorem lc_9 {Rel : JX → JX → Prop} {κ : JK} {kc ks b o Ln i : Nat} {xs : Nat → Int32} {ad ad2 : Nat → Nat} {X Y : JX} {g : Nat → Int64} (K : jOk 7 cL_law RL (some .boolean) 11 κ) (G : jRl κ) (S9 : jSc b Ln xs κ) (hL : Ln ≤ 2560) (hi : i + 5 ≤ Ln) (hSim : ∀ k, OpSim Rel X Y k) (h1 : kc + 1 ≤ 601024) (h2 : ks + 6 ≤ 7293034) (kk : ∀ (X' Y' : JX) (g' : Nat → Int64), Rel X' Y' → JC 7 κ (kc + 1) (ks + 6) (wO ad (jcA κ) o (wZ LY ad2 (jcA κ) Y') X' g') 1790 (lvL b o ad ad2 i) []) : JC 7 κ kc ks (wO ad (jcA κ) o (wZ LY ad2 (jcA κ) Y) X g) 775 (lvL b o ad ad2 i) [] := by
  obtain ⟨e, v, X', w, Y', hf, hg, hw, hv, hR'⟩ := (hSim 9 : OpSim Rel X Y 9) (xs (i + 1))
  refine jc_aload_n K dL_law_775 3 rfl ?_
  refine jc_aload_n K dL_law_776 4 rfl ?_
  refine jc_iload K dL_law_777 0 rfl ?_
  refine jc_iconst K dL_law_779 (v := nI 1) rfl ?_
  refine jc_iadd K dL_law_780 (nI_add i 1) ?_
  refine jc_sldN K S9 (by omega) hL dL_law_781 ?_
  refine jc_aload_n K dL_law_782 1 rfl ?_
  refine jc_wrap K G (As := [.int (xs (i + 1))]) (cw_watch X X' (xs (i + 1)) g hf hw) mw_watch rfl (by decide) (by decide) (Nat.le_of_ble_eq_true rfl) h1 h2 dL_law_783 ?_
  refine jc_istore K dL_law_786 (by decide) ?_
  refine jc_toY ?_
  refine jc_aload_n K dL_law_788 3 rfl ?_
  refine jc_aload_n K dL_law_789 5 rfl ?_
  refine jc_iload K dL_law_790 1 rfl ?_
  refine jc_iconst K dL_law_792 (v := nI 1) rfl ?_
  refine jc_iadd K dL_law_793 (nI_add i 1) ?_
  refine jc_sldN K S9 (by omega) hL dL_law_794 ?_
  refine jc_callV K (L := LY) (ci := 11) (k := 0) (As := [.int (xs (i + 1))]) (X' := Y') (rv := some (.int w)) (c_X11_watch Y (xs (i + 1)) hg) mly_watch ⟨_, rfl, rfl⟩ rfl (by decide) (by decide) rfl rfl (by decide) (by decide) (Nat.le_of_ble_eq_true rfl) rfl dL_law_795 G h1 h2 ?_
  refine jc_istore K dL_law_798 (by decide) ?_
  refine jc_aload_n K dL_law_800 4 rfl ?_
  refine jc_callV K (L := LY) (ci := 11) (k := 0) (As := []) (X' := Y') (rv := some (.int (Y' 0 0))) (c_X11_thrown Y' (thr_eq Y')) mly_thrown ⟨_, rfl, rfl⟩ rfl (by decide) (by decide) rfl rfl (by decide) (by decide) (Nat.le_of_ble_eq_true rfl) rfl dL_law_801 G h1 h2 ?_
  refine jc_iload K dL_law_804 1 rfl ?_
  refine jc_icmp_eq K dL_law_806 (tgt := 811) (by decide) (fun _ => ?_) (fun h => absurd rfl h)
  refine jc_toX ?_
  refine jc_iload K dL_law_811 1 rfl ?_
  refine jc_if_ne K dL_law_813 (tgt := 828) (by decide) (fun _ => ?_) (fun h0 => ?_)
  · refine jc_goto K dL_law_828 (tgt := 1790) (by decide) ?_
    exact jc_sub [2, 3, 4, 5, 6] rfl (kk X' Y' _ hR')
  · obtain rfl : e = none := wc_0 (by decide) (hw.trans (congrArg some h0))
    obtain rfl : v = w := hv rfl
    refine jc_aload_n K dL_law_816 3 rfl ?_
    refine jc_iconst K dL_law_817 (v := 0) rfl ?_
    refine jc_laload K 176 wO_176 (v := v.toInt64) (by rw [if_pos rfl]; exact if_pos rfl) dL_law_818 ?_
    refine jc_iload K dL_law_819 0 rfl ?_
    refine jc_i2l K dL_law_821 ?_
    refine jc_lcmp K dL_law_822 ?_
    refine jc_if_eq K dL_law_823 (tgt := 828) (by decide) (fun _ => ?_) (fun h => absurd (lg_cmp_0.mpr rfl) h)
    refine jc_goto K dL_law_828 (tgt := 1790) (by decide) ?_
    exact jc_sub [2, 3, 4, 5, 6] rfl (kk X' Y' _ hR')
theorem lc_10 {Rel : JX → JX → Prop} {κ : JK} {kc ks b o Ln i : Nat} {xs : Nat → Int32} {ad ad2 : Nat → Nat} {X Y : JX} {g : Nat → Int64} (K : jOk 7 cL_law RL (some .boolean) 11 κ) (G : jRl κ) (S9 : jSc b Ln xs κ) (hL : Ln ≤ 2560) (hi : i + 5 ≤ Ln) (hSim : ∀ k, OpSim Rel X Y k) (h1 : kc + 1 ≤ 601024) (h2 : ks + 6 ≤ 7293034) (kk : ∀ (X' Y' : JX) (g' : Nat → Int64), Rel X' Y' → JC 7 κ (kc + 1) (ks + 6) (wO ad (jcA κ) o (wZ LY ad2 (jcA κ) Y') X' g') 1790 (lvL b o ad ad2 i) []) : JC 7 κ kc ks (wO ad (jcA κ) o (wZ LY ad2 (jcA κ) Y) X g) 831 (lvL b o ad ad2 i) [] := by
  obtain ⟨e, v, X', w, Y', hf, hg, hw, hv, hR'⟩ := (hSim 10 : OpSim Rel X Y 10) (xs (i + 1))
  refine jc_aload_n K dL_law_831 3 rfl ?_
  refine jc_aload_n K dL_law_832 4 rfl ?_
  refine jc_iload K dL_law_833 0 rfl ?_
  refine jc_iconst K dL_law_835 (v := nI 1) rfl ?_
  refine jc_iadd K dL_law_836 (nI_add i 1) ?_
  refine jc_sldN K S9 (by omega) hL dL_law_837 ?_
  refine jc_aload_n K dL_law_838 1 rfl ?_
  refine jc_wrap K G (As := [.int (xs (i + 1))]) (cw_notices X X' (xs (i + 1)) g hf hw) mw_notices rfl (by decide) (by decide) (Nat.le_of_ble_eq_true rfl) h1 h2 dL_law_839 ?_
  refine jc_istore K dL_law_842 (by decide) ?_
  refine jc_toY ?_
  refine jc_aload_n K dL_law_844 3 rfl ?_
  refine jc_aload_n K dL_law_845 5 rfl ?_
  refine jc_iload K dL_law_846 1 rfl ?_
  refine jc_iconst K dL_law_848 (v := nI 1) rfl ?_
  refine jc_iadd K dL_law_849 (nI_add i 1) ?_
  refine jc_sldN K S9 (by omega) hL dL_law_850 ?_
  refine jc_callV K (L := LY) (ci := 11) (k := 0) (As := [.int (xs (i + 1))]) (X' := Y') (rv := some (.int w)) (c_X11_notices Y (xs (i + 1)) hg) mly_notices ⟨_, rfl, rfl⟩ rfl (by decide) (by decide) rfl rfl (by decide) (by decide) (Nat.le_of_ble_eq_true rfl) rfl dL_law_851 G h1 h2 ?_
  refine jc_istore K dL_law_854 (by decide) ?_
  refine jc_aload_n K dL_law_856 4 rfl ?_
  refine jc_callV K (L := LY) (ci := 11) (k := 0) (As := []) (X' := Y') (rv := some (.int (Y' 0 0))) (c_X11_thrown Y' (thr_eq Y')) mly_thrown ⟨_, rfl, rfl⟩ rfl (by decide) (by decide) rfl rfl (by decide) (by decide) (Nat.le_of_ble_eq_true rfl) rfl dL_law_857 G h1 h2 ?_
  refine jc_iload K dL_law_860 1 rfl ?_
  refine jc_icmp_eq K dL_law_862 (tgt := 867) (by decide) (fun _ => ?_) (fun h => absurd rfl h)
  refine jc_toX ?_
  refine jc_iload K dL_law_867 1 rfl ?_
  refine jc_if_ne K dL_law_869 (tgt := 884) (by decide) (fun _ => ?_) (fun h0 => ?_)
  · refine jc_goto K dL_law_884 (tgt := 1790) (by decide) ?_
    exact jc_sub [2, 3, 4, 5, 6] rfl (kk X' Y' _ hR')
  · obtain rfl : e = none := wc_0 (by decide) (hw.trans (congrArg some h0))
    obtain rfl : v = w := hv rfl
    refine jc_aload_n K dL_law_872 3 rfl ?_
    refine jc_iconst K dL_law_873 (v := 0) rfl ?_
    refine jc_laload K 176 wO_176 (v := v.toInt64) (by rw [if_pos rfl]; exact if_pos rfl) dL_law_874 ?_
    refine jc_iload K dL_law_875 0 rfl ?_
    refine jc_i2l K dL_law_877 ?_
    refine jc_lcmp K dL_law_878 ?_
    refine jc_if_eq K dL_law_879 (tgt := 884) (by decide) (fun _ => ?_) (fun h => absurd (lg_cmp_0.mpr rfl) h)
    refine jc_goto K dL_law_884 (tgt := 1790) (by decide) ?_
    exact jc_sub [2, 3, 4, 5, 6] rfl (kk X' Y' _ hR')
theorem lc_11 {Rel : JX → JX → Prop} {κ : JK} {kc ks b o Ln i : Nat} {xs : Nat → Int32} {ad ad2 : Nat → Nat} {X Y : JX} {g : Nat → Int64} (K : jOk 7 cL_law RL (some .boolean) 11 κ) (G : jRl κ) (S9 : jSc b Ln xs κ) (hL : Ln ≤ 2560) (hi : i + 5 ≤ Ln) (hSim : ∀ k, OpSim Rel X Y k) (h1 : kc + 1 ≤ 601024) (h2 : ks + 6 ≤ 7293034) (kk : ∀ (X' Y' : JX) (g' : Nat → Int64), Rel X' Y' → JC 7 κ (kc + 1) (ks + 6) (wO ad (jcA κ) o (wZ LY ad2 (jcA κ) Y') X' g') 1790 (lvL b o ad ad2 i) []) : JC 7 κ kc ks (wO ad (jcA κ) o (wZ LY ad2 (jcA κ) Y) X g) 887 (lvL b o ad ad2 i) [] := by
  obtain ⟨e, v, X', w, Y', hf, hg, hw, hv, hR'⟩ := (hSim 11 : OpSim Rel X Y 11) (xs (i + 1))
  refine jc_aload_n K dL_law_887 3 rfl ?_
  refine jc_aload_n K dL_law_888 4 rfl ?_
  refine jc_iload K dL_law_889 0 rfl ?_
  refine jc_iconst K dL_law_891 (v := nI 1) rfl ?_
  refine jc_iadd K dL_law_892 (nI_add i 1) ?_
  refine jc_sldN K S9 (by omega) hL dL_law_893 ?_
  refine jc_aload_n K dL_law_894 1 rfl ?_
  refine jc_wrap K G (As := [.int (xs (i + 1))]) (cw_twice X X' (xs (i + 1)) g hf hw) mw_twice rfl (by decide) (by decide) (Nat.le_of_ble_eq_true rfl) h1 h2 dL_law_895 ?_
  refine jc_istore K dL_law_898 (by decide) ?_
  refine jc_toY ?_
  refine jc_aload_n K dL_law_900 3 rfl ?_
  refine jc_aload_n K dL_law_901 5 rfl ?_
  refine jc_iload K dL_law_902 1 rfl ?_
  refine jc_iconst K dL_law_904 (v := nI 1) rfl ?_
  refine jc_iadd K dL_law_905 (nI_add i 1) ?_
  refine jc_sldN K S9 (by omega) hL dL_law_906 ?_
  refine jc_callV K (L := LY) (ci := 11) (k := 0) (As := [.int (xs (i + 1))]) (X' := Y') (rv := some (.int w)) (c_X11_twice Y (xs (i + 1)) hg) mly_twice ⟨_, rfl, rfl⟩ rfl (by decide) (by decide) rfl rfl (by decide) (by decide) (Nat.le_of_ble_eq_true rfl) rfl dL_law_907 G h1 h2 ?_
  refine jc_istore K dL_law_910 (by decide) ?_
  refine jc_aload_n K dL_law_912 4 rfl ?_
  refine jc_callV K (L := LY) (ci := 11) (k := 0) (As := []) (X' := Y') (rv := some (.int (Y' 0 0))) (c_X11_thrown Y' (thr_eq Y')) mly_thrown ⟨_, rfl, rfl⟩ rfl (by decide) (by decide) rfl rfl (by decide) (by decide) (Nat.le_of_ble_eq_true rfl) rfl dL_law_913 G h1 h2 ?_
  refine jc_iload K dL_law_916 1 rfl ?_
  refine jc_icmp_eq K dL_law_918 (tgt := 923) (by decide) (fun _ => ?_) (fun h => absurd rfl h)
  refine jc_toX ?_
  refine jc_iload K dL_law_923 1 rfl ?_
  refine jc_if_ne K dL_law_925 (tgt := 940) (by decide) (fun _ => ?_) (fun h0 => ?_)
  · refine jc_goto K dL_law_940 (tgt := 1790) (by decide) ?_
    exact jc_sub [2, 3, 4, 5, 6] rfl (kk X' Y' _ hR')
  · obtain rfl : e = none := wc_0 (by decide) (hw.trans (congrArg some h0))
    obtain rfl : v = w := hv rfl
    refine jc_aload_n K dL_law_928 3 rfl ?_
    refine jc_iconst K dL_law_929 (v := 0) rfl ?_
    refine jc_laload K 176 wO_176 (v := v.toInt64) (by rw [if_pos rfl]; exact if_pos rfl) dL_law_930 ?_
    refine jc_iload K dL_law_931 0 rfl ?_
    refine jc_i2l K dL_law_933 ?_
    refine jc_lcmp K dL_law_934 ?_
    refine jc_if_eq K dL_law_935 (tgt := 940) (by decide) (fun _ => ?_) (fun h => absurd (lg_cmp_0.mpr rfl) h)
    refine jc_goto K dL_law_940 (tgt := 1790) (by decide) ?_
    exact jc_sub [2, 3, 4, 5, 6] rfl (kk X' Y' _ hR')
theorem lc_12 {Rel : JX → JX → Prop} {κ : JK} {kc ks b o Ln i : Nat} {xs : Nat → Int32} {ad ad2 : Nat → Nat} {X Y : JX} {g : Nat → Int64} (K : jOk 7 cL_law RL (some .boolean) 11 κ) (G : jRl κ) (S9 : jSc b Ln xs κ) (hL : Ln ≤ 2560) (hi : i + 5 ≤ Ln) (hSim : ∀ k, OpSim Rel X Y k) (h1 : kc + 1 ≤ 601024) (h2 : ks + 6 ≤ 7293034) (kk : ∀ (X' Y' : JX) (g' : Nat → Int64), Rel X' Y' → JC 7 κ (kc + 1) (ks + 6) (wO ad (jcA κ) o (wZ LY ad2 (jcA κ) Y') X' g') 1790 (lvL b o ad ad2 i) []) : JC 7 κ kc ks (wO ad (jcA κ) o (wZ LY ad2 (jcA κ) Y) X g) 943 (lvL b o ad ad2 i) [] := by
  obtain ⟨e, v, X', w, Y', hf, hg, hw, hv, hR'⟩ := (hSim 12 : OpSim Rel X Y 12) (xs (i + 1)) (xs (i + 2))
  refine jc_aload_n K dL_law_943 3 rfl ?_
  refine jc_aload_n K dL_law_944 4 rfl ?_
  refine jc_iload K dL_law_945 0 rfl ?_
  refine jc_iconst K dL_law_947 (v := nI 1) rfl ?_
  refine jc_iadd K dL_law_948 (nI_add i 1) ?_
  refine jc_sldN K S9 (by omega) hL dL_law_949 ?_
  refine jc_aload_n K dL_law_950 4 rfl ?_
  refine jc_iload K dL_law_951 0 rfl ?_
  refine jc_iconst K dL_law_953 (v := nI 2) rfl ?_
  refine jc_iadd K dL_law_954 (nI_add i 2) ?_
  refine jc_sldN K S9 (by omega) hL dL_law_955 ?_
  refine jc_aload_n K dL_law_956 1 rfl ?_
  refine jc_wrap K G (As := [.int (xs (i + 1)), .int (xs (i + 2))]) (cw_lose X X' (xs (i + 1)) (xs (i + 2)) g hf hw) mw_lose rfl (by decide) (by decide) (Nat.le_of_ble_eq_true rfl) h1 h2 dL_law_957 ?_
  refine jc_istore K dL_law_960 (by decide) ?_
  refine jc_toY ?_
  refine jc_aload_n K dL_law_962 3 rfl ?_
  refine jc_aload_n K dL_law_963 5 rfl ?_
  refine jc_iload K dL_law_964 1 rfl ?_
  refine jc_iconst K dL_law_966 (v := nI 1) rfl ?_
  refine jc_iadd K dL_law_967 (nI_add i 1) ?_
  refine jc_sldN K S9 (by omega) hL dL_law_968 ?_
  refine jc_aload_n K dL_law_969 5 rfl ?_
  refine jc_iload K dL_law_970 1 rfl ?_
  refine jc_iconst K dL_law_972 (v := nI 2) rfl ?_
  refine jc_iadd K dL_law_973 (nI_add i 2) ?_
  refine jc_sldN K S9 (by omega) hL dL_law_974 ?_
  refine jc_callV K (L := LY) (ci := 11) (k := 0) (As := [.int (xs (i + 1)), .int (xs (i + 2))]) (X' := Y') (rv := some (.int w)) (c_X11_lose Y (xs (i + 1)) (xs (i + 2)) hg) mly_lose ⟨_, rfl, rfl⟩ rfl (by decide) (by decide) rfl rfl (by decide) (by decide) (Nat.le_of_ble_eq_true rfl) rfl dL_law_975 G h1 h2 ?_
  refine jc_istore K dL_law_978 (by decide) ?_
  refine jc_aload_n K dL_law_980 4 rfl ?_
  refine jc_callV K (L := LY) (ci := 11) (k := 0) (As := []) (X' := Y') (rv := some (.int (Y' 0 0))) (c_X11_thrown Y' (thr_eq Y')) mly_thrown ⟨_, rfl, rfl⟩ rfl (by decide) (by decide) rfl rfl (by decide) (by decide) (Nat.le_of_ble_eq_true rfl) rfl dL_law_981 G h1 h2 ?_
  refine jc_iload K dL_law_984 1 rfl ?_
  refine jc_icmp_eq K dL_law_986 (tgt := 991) (by decide) (fun _ => ?_) (fun h => absurd rfl h)
  refine jc_toX ?_
  refine jc_iload K dL_law_991 1 rfl ?_
  refine jc_if_ne K dL_law_993 (tgt := 1008) (by decide) (fun _ => ?_) (fun h0 => ?_)
  · refine jc_goto K dL_law_1008 (tgt := 1790) (by decide) ?_
    exact jc_sub [2, 3, 4, 5, 6] rfl (kk X' Y' _ hR')
  · obtain rfl : e = none := wc_0 (by decide) (hw.trans (congrArg some h0))
    obtain rfl : v = w := hv rfl
    refine jc_aload_n K dL_law_996 3 rfl ?_
    refine jc_iconst K dL_law_997 (v := 0) rfl ?_
    refine jc_laload K 176 wO_176 (v := v.toInt64) (by rw [if_pos rfl]; exact if_pos rfl) dL_law_998 ?_
    refine jc_iload K dL_law_999 0 rfl ?_
    refine jc_i2l K dL_law_1001 ?_
    refine jc_lcmp K dL_law_1002 ?_
    refine jc_if_eq K dL_law_1003 (tgt := 1008) (by decide) (fun _ => ?_) (fun h => absurd (lg_cmp_0.mpr rfl) h)
    refine jc_goto K dL_law_1008 (tgt := 1790) (by decide) ?_
    exact jc_sub [2, 3, 4, 5, 6] rfl (kk X' Y' _ hR')
theorem lc_13 {Rel : JX → JX → Prop} {κ : JK} {kc ks b o Ln i : Nat} {xs : Nat → Int32} {ad ad2 : Nat → Nat} {X Y : JX} {g : Nat → Int64} (K : jOk 7 cL_law RL (some .boolean) 11 κ) (G : jRl κ) (S9 : jSc b Ln xs κ) (hL : Ln ≤ 2560) (hi : i + 5 ≤ Ln) (hSim : ∀ k, OpSim Rel X Y k) (h1 : kc + 1 ≤ 601024) (h2 : ks + 6 ≤ 7293034) (kk : ∀ (X' Y' : JX) (g' : Nat → Int64), Rel X' Y' → JC 7 κ (kc + 1) (ks + 6) (wO ad (jcA κ) o (wZ LY ad2 (jcA κ) Y') X' g') 1790 (lvL b o ad ad2 i) []) : JC 7 κ kc ks (wO ad (jcA κ) o (wZ LY ad2 (jcA κ) Y) X g) 1011 (lvL b o ad ad2 i) [] := by
  obtain ⟨e, v, X', w, Y', hf, hg, hw, hv, hR'⟩ := (hSim 13 : OpSim Rel X Y 13) (xs (i + 1))
  refine jc_aload_n K dL_law_1011 3 rfl ?_
  refine jc_aload_n K dL_law_1012 4 rfl ?_
  refine jc_iload K dL_law_1013 0 rfl ?_
  refine jc_iconst K dL_law_1015 (v := nI 1) rfl ?_
  refine jc_iadd K dL_law_1016 (nI_add i 1) ?_
  refine jc_sldN K S9 (by omega) hL dL_law_1017 ?_
  refine jc_aload_n K dL_law_1018 1 rfl ?_
  refine jc_wrap K G (As := [.int (xs (i + 1))]) (cw_pass X X' (xs (i + 1)) g hf hw) mw_pass rfl (by decide) (by decide) (Nat.le_of_ble_eq_true rfl) h1 h2 dL_law_1019 ?_
  refine jc_istore K dL_law_1022 (by decide) ?_
  refine jc_toY ?_
  refine jc_aload_n K dL_law_1024 3 rfl ?_
  refine jc_aload_n K dL_law_1025 5 rfl ?_
  refine jc_iload K dL_law_1026 1 rfl ?_
  refine jc_iconst K dL_law_1028 (v := nI 1) rfl ?_
  refine jc_iadd K dL_law_1029 (nI_add i 1) ?_
  refine jc_sldN K S9 (by omega) hL dL_law_1030 ?_
  refine jc_callV K (L := LY) (ci := 11) (k := 0) (As := [.int (xs (i + 1))]) (X' := Y') (rv := some (.int w)) (c_X11_pass Y (xs (i + 1)) hg) mly_pass ⟨_, rfl, rfl⟩ rfl (by decide) (by decide) rfl rfl (by decide) (by decide) (Nat.le_of_ble_eq_true rfl) rfl dL_law_1031 G h1 h2 ?_
  refine jc_istore K dL_law_1034 (by decide) ?_
  refine jc_aload_n K dL_law_1036 4 rfl ?_
  refine jc_callV K (L := LY) (ci := 11) (k := 0) (As := []) (X' := Y') (rv := some (.int (Y' 0 0))) (c_X11_thrown Y' (thr_eq Y')) mly_thrown ⟨_, rfl, rfl⟩ rfl (by decide) (by decide) rfl rfl (by decide) (by decide) (Nat.le_of_ble_eq_true rfl) rfl dL_law_1037 G h1 h2 ?_
  refine jc_iload K dL_law_1040 1 rfl ?_
  refine jc_icmp_eq K dL_law_1042 (tgt := 1047) (by decide) (fun _ => ?_) (fun h => absurd rfl h)
  refine jc_toX ?_
  refine jc_iload K dL_law_1047 1 rfl ?_
  refine jc_if_ne K dL_law_1049 (tgt := 1064) (by decide) (fun _ => ?_) (fun h0 => ?_)
  · refine jc_goto K dL_law_1064 (tgt := 1790) (by decide) ?_
    exact jc_sub [2, 3, 4, 5, 6] rfl (kk X' Y' _ hR')
  · obtain rfl : e = none := wc_0 (by decide) (hw.trans (congrArg some h0))
    obtain rfl : v = w := hv rfl
    refine jc_aload_n K dL_law_1052 3 rfl ?_
    refine jc_iconst K dL_law_1053 (v := 0) rfl ?_
    refine jc_laload K 176 wO_176 (v := v.toInt64) (by rw [if_pos rfl]; exact if_pos rfl) dL_law_1054 ?_
    refine jc_iload K dL_law_1055 0 rfl ?_
    refine jc_i2l K dL_law_1057 ?_
    refine jc_lcmp K dL_law_1058 ?_
    refine jc_if_eq K dL_law_1059 (tgt := 1064) (by decide) (fun _ => ?_) (fun h => absurd (lg_cmp_0.mpr rfl) h)
    refine jc_goto K dL_law_1064 (tgt := 1790) (by decide) ?_
    exact jc_sub [2, 3, 4, 5, 6] rfl (kk X' Y' _ hR')
theorem lc_14 {Rel : JX → JX → Prop} {κ : JK} {kc ks b o Ln i : Nat} {xs : Nat → Int32} {ad ad2 : Nat → Nat} {X Y : JX} {g : Nat → Int64} (K : jOk 7 cL_law RL (some .boolean) 11 κ) (G : jRl κ) (S9 : jSc b Ln xs κ) (hL : Ln ≤ 2560) (hi : i + 5 ≤ Ln) (hSim : ∀ k, OpSim Rel X Y k) (h1 : kc + 1 ≤ 601024) (h2 : ks + 6 ≤ 7293034) (kk : ∀ (X' Y' : JX) (g' : Nat → Int64), Rel X' Y' → JC 7 κ (kc + 1) (ks + 6) (wO ad (jcA κ) o (wZ LY ad2 (jcA κ) Y') X' g') 1790 (lvL b o ad ad2 i) []) : JC 7 κ kc ks (wO ad (jcA κ) o (wZ LY ad2 (jcA κ) Y) X g) 1067 (lvL b o ad ad2 i) [] := by
  obtain ⟨v, X', Y', hf, hg, hR'⟩ := (hSim 14 : OpSim Rel X Y 14) (xs (i + 1))
  refine jc_widen (mc := kc + 1) (ms := ks + 6) (Nat.le_succ _) (Nat.le_add_right _ _) ?_
  refine jc_aload_n K dL_law_1067 3 rfl ?_
  refine jc_aload_n K dL_law_1068 4 rfl ?_
  refine jc_iload K dL_law_1069 0 rfl ?_
  refine jc_iconst K dL_law_1071 (v := nI 1) rfl ?_
  refine jc_iadd K dL_law_1072 (nI_add i 1) ?_
  refine jc_sldN K S9 (by omega) hL dL_law_1073 ?_
  refine jc_bool K (t1 := 1081) (t2 := 1082) dL_law_1074 (by decide) dL_law_1077 dL_law_1078 (by decide) dL_law_1081 rfl ?_
  refine jc_callV K (L := LX) (ci := 10) (k := 0) (As := [.int (bZ (xs (i + 1)))]) (X' := X') (rv := some (.int v)) (c_X10_battery X (bZ (xs (i + 1))) hf) mlx_battery ⟨_, rfl, rfl⟩ rfl (by decide) (by decide) rfl rfl (by decide) (by decide) (Nat.le_of_ble_eq_true rfl) rfl dL_law_1082 G h1 h2 ?_
  refine jc_toY (X := X') (g := g) ?_
  refine jc_aload_n K dL_law_1085 2 rfl ?_
  refine jc_aload_n K dL_law_1086 4 rfl ?_
  refine jc_iload K dL_law_1087 0 rfl ?_
  refine jc_iconst K dL_law_1089 (v := nI 1) rfl ?_
  refine jc_iadd K dL_law_1090 (nI_add i 1) ?_
  refine jc_sldN K S9 (by omega) hL dL_law_1091 ?_
  refine jc_bool K (t1 := 1099) (t2 := 1100) dL_law_1092 (by decide) dL_law_1095 dL_law_1096 (by decide) dL_law_1099 rfl ?_
  refine jc_callV K (L := LY) (ci := 11) (k := 0) (As := [.int (bZ (xs (i + 1)))]) (X' := Y') (rv := some (.int v)) (c_X11_battery Y (bZ (xs (i + 1))) hg) mly_battery ⟨_, rfl, rfl⟩ rfl (by decide) (by decide) rfl rfl (by decide) (by decide) (Nat.le_of_ble_eq_true rfl) rfl dL_law_1100 G h1 h2 ?_
  refine jc_toX ?_
  refine jc_icmp_eq K dL_law_1103 (tgt := 1790) (by decide) (fun _ => ?_) (fun h => absurd rfl h)
  exact kk X' Y' g hR'
theorem lc_15 {Rel : JX → JX → Prop} {κ : JK} {kc ks b o Ln i : Nat} {xs : Nat → Int32} {ad ad2 : Nat → Nat} {X Y : JX} {g : Nat → Int64} (K : jOk 7 cL_law RL (some .boolean) 11 κ) (G : jRl κ) (S9 : jSc b Ln xs κ) (hL : Ln ≤ 2560) (hi : i + 5 ≤ Ln) (hSim : ∀ k, OpSim Rel X Y k) (h1 : kc + 1 ≤ 601024) (h2 : ks + 6 ≤ 7293034) (kk : ∀ (X' Y' : JX) (g' : Nat → Int64), Rel X' Y' → JC 7 κ (kc + 1) (ks + 6) (wO ad (jcA κ) o (wZ LY ad2 (jcA κ) Y') X' g') 1790 (lvL b o ad ad2 i) []) : JC 7 κ kc ks (wO ad (jcA κ) o (wZ LY ad2 (jcA κ) Y) X g) 1108 (lvL b o ad ad2 i) [] := by
  obtain ⟨e, v, X', w, Y', hf, hg, hw, hv, hR'⟩ := (hSim 15 : OpSim Rel X Y 15) (xs (i + 1)) (xs (i + 2))
  refine jc_aload_n K dL_law_1108 3 rfl ?_
  refine jc_aload_n K dL_law_1109 4 rfl ?_
  refine jc_iload K dL_law_1110 0 rfl ?_
  refine jc_iconst K dL_law_1112 (v := nI 1) rfl ?_
  refine jc_iadd K dL_law_1113 (nI_add i 1) ?_
  refine jc_sldN K S9 (by omega) hL dL_law_1114 ?_
  refine jc_aload_n K dL_law_1115 4 rfl ?_
  refine jc_iload K dL_law_1116 0 rfl ?_
  refine jc_iconst K dL_law_1118 (v := nI 2) rfl ?_
  refine jc_iadd K dL_law_1119 (nI_add i 2) ?_
  refine jc_sldN K S9 (by omega) hL dL_law_1120 ?_
  refine jc_aload_n K dL_law_1121 1 rfl ?_
  refine jc_wrap K G (As := [.int (xs (i + 1)), .int (xs (i + 2))]) (cw_limits X X' (xs (i + 1)) (xs (i + 2)) g hf hw) mw_limits rfl (by decide) (by decide) (Nat.le_of_ble_eq_true rfl) h1 h2 dL_law_1122 ?_
  refine jc_istore K dL_law_1125 (by decide) ?_
  refine jc_toY ?_
  refine jc_aload_n K dL_law_1127 3 rfl ?_
  refine jc_aload_n K dL_law_1128 5 rfl ?_
  refine jc_iload K dL_law_1129 1 rfl ?_
  refine jc_iconst K dL_law_1131 (v := nI 1) rfl ?_
  refine jc_iadd K dL_law_1132 (nI_add i 1) ?_
  refine jc_sldN K S9 (by omega) hL dL_law_1133 ?_
  refine jc_aload_n K dL_law_1134 5 rfl ?_
  refine jc_iload K dL_law_1135 1 rfl ?_
  refine jc_iconst K dL_law_1137 (v := nI 2) rfl ?_
  refine jc_iadd K dL_law_1138 (nI_add i 2) ?_
  refine jc_sldN K S9 (by omega) hL dL_law_1139 ?_
  refine jc_callV K (L := LY) (ci := 11) (k := 0) (As := [.int (xs (i + 1)), .int (xs (i + 2))]) (X' := Y') (rv := some (.int w)) (c_X11_limits Y (xs (i + 1)) (xs (i + 2)) hg) mly_limits ⟨_, rfl, rfl⟩ rfl (by decide) (by decide) rfl rfl (by decide) (by decide) (Nat.le_of_ble_eq_true rfl) rfl dL_law_1140 G h1 h2 ?_
  refine jc_istore K dL_law_1143 (by decide) ?_
  refine jc_aload_n K dL_law_1145 4 rfl ?_
  refine jc_callV K (L := LY) (ci := 11) (k := 0) (As := []) (X' := Y') (rv := some (.int (Y' 0 0))) (c_X11_thrown Y' (thr_eq Y')) mly_thrown ⟨_, rfl, rfl⟩ rfl (by decide) (by decide) rfl rfl (by decide) (by decide) (Nat.le_of_ble_eq_true rfl) rfl dL_law_1146 G h1 h2 ?_
  refine jc_iload K dL_law_1149 1 rfl ?_
  refine jc_icmp_eq K dL_law_1151 (tgt := 1156) (by decide) (fun _ => ?_) (fun h => absurd rfl h)
  refine jc_toX ?_
  refine jc_iload K dL_law_1156 1 rfl ?_
  refine jc_if_ne K dL_law_1158 (tgt := 1173) (by decide) (fun _ => ?_) (fun h0 => ?_)
  · refine jc_goto K dL_law_1173 (tgt := 1790) (by decide) ?_
    exact jc_sub [2, 3, 4, 5, 6] rfl (kk X' Y' _ hR')
  · obtain rfl : e = none := wc_0 (by decide) (hw.trans (congrArg some h0))
    obtain rfl : v = w := hv rfl
    refine jc_aload_n K dL_law_1161 3 rfl ?_
    refine jc_iconst K dL_law_1162 (v := 0) rfl ?_
    refine jc_laload K 176 wO_176 (v := v.toInt64) (by rw [if_pos rfl]; exact if_pos rfl) dL_law_1163 ?_
    refine jc_iload K dL_law_1164 0 rfl ?_
    refine jc_i2l K dL_law_1166 ?_
    refine jc_lcmp K dL_law_1167 ?_
    refine jc_if_eq K dL_law_1168 (tgt := 1173) (by decide) (fun _ => ?_) (fun h => absurd (lg_cmp_0.mpr rfl) h)
    refine jc_goto K dL_law_1173 (tgt := 1790) (by decide) ?_
    exact jc_sub [2, 3, 4, 5, 6] rfl (kk X' Y' _ hR')
theorem lc_16 {Rel : JX → JX → Prop} {κ : JK} {kc ks b o Ln i : Nat} {xs : Nat → Int32} {ad ad2 : Nat → Nat} {X Y : JX} {g : Nat → Int64} (K : jOk 7 cL_law RL (some .boolean) 11 κ) (G : jRl κ) (S9 : jSc b Ln xs κ) (hL : Ln ≤ 2560) (hi : i + 5 ≤ Ln) (hSim : ∀ k, OpSim Rel X Y k) (h1 : kc + 1 ≤ 601024) (h2 : ks + 6 ≤ 7293034) (kk : ∀ (X' Y' : JX) (g' : Nat → Int64), Rel X' Y' → JC 7 κ (kc + 1) (ks + 6) (wO ad (jcA κ) o (wZ LY ad2 (jcA κ) Y') X' g') 1790 (lvL b o ad ad2 i) []) : JC 7 κ kc ks (wO ad (jcA κ) o (wZ LY ad2 (jcA κ) Y) X g) 1176 (lvL b o ad ad2 i) [] := by
  obtain ⟨e, v, X', w, Y', hf, hg, hw, hv, hR'⟩ := (hSim 16 : OpSim Rel X Y 16) (xs (i + 1))
  refine jc_aload_n K dL_law_1176 3 rfl ?_
  refine jc_aload_n K dL_law_1177 4 rfl ?_
  refine jc_iload K dL_law_1178 0 rfl ?_
  refine jc_iconst K dL_law_1180 (v := nI 1) rfl ?_
  refine jc_iadd K dL_law_1181 (nI_add i 1) ?_
  refine jc_sldN K S9 (by omega) hL dL_law_1182 ?_
  refine jc_aload_n K dL_law_1183 1 rfl ?_
  refine jc_wrap K G (As := [.int (xs (i + 1))]) (cw_work X X' (xs (i + 1)) g hf hw) mw_work rfl (by decide) (by decide) (Nat.le_of_ble_eq_true rfl) h1 h2 dL_law_1184 ?_
  refine jc_istore K dL_law_1187 (by decide) ?_
  refine jc_toY ?_
  refine jc_aload_n K dL_law_1189 3 rfl ?_
  refine jc_aload_n K dL_law_1190 5 rfl ?_
  refine jc_iload K dL_law_1191 1 rfl ?_
  refine jc_iconst K dL_law_1193 (v := nI 1) rfl ?_
  refine jc_iadd K dL_law_1194 (nI_add i 1) ?_
  refine jc_sldN K S9 (by omega) hL dL_law_1195 ?_
  refine jc_callV K (L := LY) (ci := 11) (k := 0) (As := [.int (xs (i + 1))]) (X' := Y') (rv := some (.int w)) (c_X11_work Y (xs (i + 1)) hg) mly_work ⟨_, rfl, rfl⟩ rfl (by decide) (by decide) rfl rfl (by decide) (by decide) (Nat.le_of_ble_eq_true rfl) rfl dL_law_1196 G h1 h2 ?_
  refine jc_istore K dL_law_1199 (by decide) ?_
  refine jc_aload_n K dL_law_1201 4 rfl ?_
  refine jc_callV K (L := LY) (ci := 11) (k := 0) (As := []) (X' := Y') (rv := some (.int (Y' 0 0))) (c_X11_thrown Y' (thr_eq Y')) mly_thrown ⟨_, rfl, rfl⟩ rfl (by decide) (by decide) rfl rfl (by decide) (by decide) (Nat.le_of_ble_eq_true rfl) rfl dL_law_1202 G h1 h2 ?_
  refine jc_iload K dL_law_1205 1 rfl ?_
  refine jc_icmp_eq K dL_law_1207 (tgt := 1212) (by decide) (fun _ => ?_) (fun h => absurd rfl h)
  refine jc_toX ?_
  refine jc_iload K dL_law_1212 1 rfl ?_
  refine jc_if_ne K dL_law_1214 (tgt := 1229) (by decide) (fun _ => ?_) (fun h0 => ?_)
  · refine jc_goto K dL_law_1229 (tgt := 1790) (by decide) ?_
    exact jc_sub [2, 3, 4, 5, 6] rfl (kk X' Y' _ hR')
  · obtain rfl : e = none := wc_0 (by decide) (hw.trans (congrArg some h0))
    obtain rfl : v = w := hv rfl
    refine jc_aload_n K dL_law_1217 3 rfl ?_
    refine jc_iconst K dL_law_1218 (v := 0) rfl ?_
    refine jc_laload K 176 wO_176 (v := v.toInt64) (by rw [if_pos rfl]; exact if_pos rfl) dL_law_1219 ?_
    refine jc_iload K dL_law_1220 0 rfl ?_
    refine jc_i2l K dL_law_1222 ?_
    refine jc_lcmp K dL_law_1223 ?_
    refine jc_if_eq K dL_law_1224 (tgt := 1229) (by decide) (fun _ => ?_) (fun h => absurd (lg_cmp_0.mpr rfl) h)
    refine jc_goto K dL_law_1229 (tgt := 1790) (by decide) ?_
    exact jc_sub [2, 3, 4, 5, 6] rfl (kk X' Y' _ hR')
theorem lc_17 {Rel : JX → JX → Prop} {κ : JK} {kc ks b o Ln i : Nat} {xs : Nat → Int32} {ad ad2 : Nat → Nat} {X Y : JX} {g : Nat → Int64} (K : jOk 7 cL_law RL (some .boolean) 11 κ) (G : jRl κ) (S9 : jSc b Ln xs κ) (hL : Ln ≤ 2560) (hi : i + 5 ≤ Ln) (hSim : ∀ k, OpSim Rel X Y k) (h1 : kc + 1 ≤ 601024) (h2 : ks + 6 ≤ 7293034) (kk : ∀ (X' Y' : JX) (g' : Nat → Int64), Rel X' Y' → JC 7 κ (kc + 1) (ks + 6) (wO ad (jcA κ) o (wZ LY ad2 (jcA κ) Y') X' g') 1790 (lvL b o ad ad2 i) []) : JC 7 κ kc ks (wO ad (jcA κ) o (wZ LY ad2 (jcA κ) Y) X g) 1232 (lvL b o ad ad2 i) [] := by
  obtain ⟨e, v, X', w, Y', hf, hg, hw, hv, hR'⟩ := (hSim 17 : OpSim Rel X Y 17) (xs (i + 1))
  refine jc_aload_n K dL_law_1232 3 rfl ?_
  refine jc_aload_n K dL_law_1233 4 rfl ?_
  refine jc_iload K dL_law_1234 0 rfl ?_
  refine jc_iconst K dL_law_1236 (v := nI 1) rfl ?_
  refine jc_iadd K dL_law_1237 (nI_add i 1) ?_
  refine jc_sldN K S9 (by omega) hL dL_law_1238 ?_
  refine jc_aload_n K dL_law_1239 1 rfl ?_
  refine jc_wrap K G (As := [.int (xs (i + 1))]) (cw_crawl X X' (xs (i + 1)) g hf hw) mw_crawl rfl (by decide) (by decide) (Nat.le_of_ble_eq_true rfl) h1 h2 dL_law_1240 ?_
  refine jc_istore K dL_law_1243 (by decide) ?_
  refine jc_toY ?_
  refine jc_aload_n K dL_law_1245 3 rfl ?_
  refine jc_aload_n K dL_law_1246 5 rfl ?_
  refine jc_iload K dL_law_1247 1 rfl ?_
  refine jc_iconst K dL_law_1249 (v := nI 1) rfl ?_
  refine jc_iadd K dL_law_1250 (nI_add i 1) ?_
  refine jc_sldN K S9 (by omega) hL dL_law_1251 ?_
  refine jc_callV K (L := LY) (ci := 11) (k := 0) (As := [.int (xs (i + 1))]) (X' := Y') (rv := some (.int w)) (c_X11_crawl Y (xs (i + 1)) hg) mly_crawl ⟨_, rfl, rfl⟩ rfl (by decide) (by decide) rfl rfl (by decide) (by decide) (Nat.le_of_ble_eq_true rfl) rfl dL_law_1252 G h1 h2 ?_
  refine jc_istore K dL_law_1255 (by decide) ?_
  refine jc_aload_n K dL_law_1257 4 rfl ?_
  refine jc_callV K (L := LY) (ci := 11) (k := 0) (As := []) (X' := Y') (rv := some (.int (Y' 0 0))) (c_X11_thrown Y' (thr_eq Y')) mly_thrown ⟨_, rfl, rfl⟩ rfl (by decide) (by decide) rfl rfl (by decide) (by decide) (Nat.le_of_ble_eq_true rfl) rfl dL_law_1258 G h1 h2 ?_
  refine jc_iload K dL_law_1261 1 rfl ?_
  refine jc_icmp_eq K dL_law_1263 (tgt := 1268) (by decide) (fun _ => ?_) (fun h => absurd rfl h)
  refine jc_toX ?_
  refine jc_iload K dL_law_1268 1 rfl ?_
  refine jc_if_ne K dL_law_1270 (tgt := 1285) (by decide) (fun _ => ?_) (fun h0 => ?_)
  · refine jc_goto K dL_law_1285 (tgt := 1790) (by decide) ?_
    exact jc_sub [2, 3, 4, 5, 6] rfl (kk X' Y' _ hR')
  · obtain rfl : e = none := wc_0 (by decide) (hw.trans (congrArg some h0))
    obtain rfl : v = w := hv rfl
    refine jc_aload_n K dL_law_1273 3 rfl ?_
    refine jc_iconst K dL_law_1274 (v := 0) rfl ?_
    refine jc_laload K 176 wO_176 (v := v.toInt64) (by rw [if_pos rfl]; exact if_pos rfl) dL_law_1275 ?_
    refine jc_iload K dL_law_1276 0 rfl ?_
    refine jc_i2l K dL_law_1278 ?_
    refine jc_lcmp K dL_law_1279 ?_
    refine jc_if_eq K dL_law_1280 (tgt := 1285) (by decide) (fun _ => ?_) (fun h => absurd (lg_cmp_0.mpr rfl) h)
    refine jc_goto K dL_law_1285 (tgt := 1790) (by decide) ?_
    exact jc_sub [2, 3, 4, 5, 6] rfl (kk X' Y' _ hR')
theorem lc_18 {Rel : JX → JX → Prop} {κ : JK} {kc ks b o Ln i : Nat} {xs : Nat → Int32} {ad ad2 : Nat → Nat} {X Y : JX} {g : Nat → Int64} (K : jOk 7 cL_law RL (some .boolean) 11 κ) (G : jRl κ) (S9 : jSc b Ln xs κ) (hL : Ln ≤ 2560) (hi : i + 5 ≤ Ln) (hSim : ∀ k, OpSim Rel X Y k) (h1 : kc + 1 ≤ 601024) (h2 : ks + 6 ≤ 7293034) (kk : ∀ (X' Y' : JX) (g' : Nat → Int64), Rel X' Y' → JC 7 κ (kc + 1) (ks + 6) (wO ad (jcA κ) o (wZ LY ad2 (jcA κ) Y') X' g') 1790 (lvL b o ad ad2 i) []) : JC 7 κ kc ks (wO ad (jcA κ) o (wZ LY ad2 (jcA κ) Y) X g) 1288 (lvL b o ad ad2 i) [] := by
  obtain ⟨v, Y', hf, hg, hR'⟩ := (hSim 18 : OpSim Rel X Y 18)
  refine jc_widen (mc := kc + 1) (ms := ks + 6) (Nat.le_succ _) (Nat.le_add_right _ _) ?_
  refine jc_aload_n K dL_law_1288 3 rfl ?_
  refine jc_callV K (L := LX) (ci := 10) (k := 0) (As := []) (X' := X) (rv := some (.int v)) (c_X10_acts X hf) mlx_acts ⟨_, rfl, rfl⟩ rfl (by decide) (by decide) rfl rfl (by decide) (by decide) (Nat.le_of_ble_eq_true rfl) rfl dL_law_1289 G h1 h2 ?_
  refine jc_toY (X := X) (g := g) ?_
  refine jc_aload_n K dL_law_1292 2 rfl ?_
  refine jc_callV K (L := LY) (ci := 11) (k := 0) (As := []) (X' := Y') (rv := some (.int v)) (c_X11_acts_ Y hg) mly_acts ⟨_, rfl, rfl⟩ rfl (by decide) (by decide) rfl rfl (by decide) (by decide) (Nat.le_of_ble_eq_true rfl) rfl dL_law_1293 G h1 h2 ?_
  refine jc_toX ?_
  refine jc_icmp_eq K dL_law_1296 (tgt := 1790) (by decide) (fun _ => ?_) (fun h => absurd rfl h)
  exact kk X Y' g hR'
theorem lc_19 {Rel : JX → JX → Prop} {κ : JK} {kc ks b o Ln i : Nat} {xs : Nat → Int32} {ad ad2 : Nat → Nat} {X Y : JX} {g : Nat → Int64} (K : jOk 7 cL_law RL (some .boolean) 11 κ) (G : jRl κ) (S9 : jSc b Ln xs κ) (hL : Ln ≤ 2560) (hi : i + 5 ≤ Ln) (hSim : ∀ k, OpSim Rel X Y k) (h1 : kc + 1 ≤ 601024) (h2 : ks + 6 ≤ 7293034) (kk : ∀ (X' Y' : JX) (g' : Nat → Int64), Rel X' Y' → JC 7 κ (kc + 1) (ks + 6) (wO ad (jcA κ) o (wZ LY ad2 (jcA κ) Y') X' g') 1790 (lvL b o ad ad2 i) []) : JC 7 κ kc ks (wO ad (jcA κ) o (wZ LY ad2 (jcA κ) Y) X g) 1301 (lvL b o ad ad2 i) [] := by
  obtain ⟨v, Y', hf, hg, hR'⟩ := (hSim 19 : OpSim Rel X Y 19)
  refine jc_widen (mc := kc + 1) (ms := ks + 6) (Nat.le_succ _) (Nat.le_add_right _ _) ?_
  refine jc_aload_n K dL_law_1301 3 rfl ?_
  refine jc_callV K (L := LX) (ci := 10) (k := 0) (As := []) (X' := X) (rv := some (.int v)) (c_X10_isQuiet X hf) mlx_isQuiet ⟨_, rfl, rfl⟩ rfl (by decide) (by decide) rfl rfl (by decide) (by decide) (Nat.le_of_ble_eq_true rfl) rfl dL_law_1302 G h1 h2 ?_
  refine jc_toY (X := X) (g := g) ?_
  refine jc_aload_n K dL_law_1305 2 rfl ?_
  refine jc_callV K (L := LY) (ci := 11) (k := 0) (As := []) (X' := Y') (rv := some (.int v)) (c_X11_isQuiet Y hg) mly_isQuiet ⟨_, rfl, rfl⟩ rfl (by decide) (by decide) rfl rfl (by decide) (by decide) (Nat.le_of_ble_eq_true rfl) rfl dL_law_1306 G h1 h2 ?_
  refine jc_toX ?_
  refine jc_icmp_eq K dL_law_1309 (tgt := 1790) (by decide) (fun _ => ?_) (fun h => absurd rfl h)
  exact kk X Y' g hR'
theorem lc_20 {Rel : JX → JX → Prop} {κ : JK} {kc ks b o Ln i : Nat} {xs : Nat → Int32} {ad ad2 : Nat → Nat} {X Y : JX} {g : Nat → Int64} (K : jOk 7 cL_law RL (some .boolean) 11 κ) (G : jRl κ) (S9 : jSc b Ln xs κ) (hL : Ln ≤ 2560) (hi : i + 5 ≤ Ln) (hSim : ∀ k, OpSim Rel X Y k) (h1 : kc + 1 ≤ 601024) (h2 : ks + 6 ≤ 7293034) (kk : ∀ (X' Y' : JX) (g' : Nat → Int64), Rel X' Y' → JC 7 κ (kc + 1) (ks + 6) (wO ad (jcA κ) o (wZ LY ad2 (jcA κ) Y') X' g') 1790 (lvL b o ad ad2 i) []) : JC 7 κ kc ks (wO ad (jcA κ) o (wZ LY ad2 (jcA κ) Y) X g) 1314 (lvL b o ad ad2 i) [] := by
  obtain ⟨v, Y', hf, hg, hR'⟩ := (hSim 20 : OpSim Rel X Y 20)
  refine jc_widen (mc := kc + 1) (ms := ks + 6) (Nat.le_succ _) (Nat.le_add_right _ _) ?_
  refine jc_aload_n K dL_law_1314 3 rfl ?_
  refine jc_callV K (L := LX) (ci := 10) (k := 0) (As := []) (X' := X) (rv := some (.int v)) (c_X10_entries X hf) mlx_entries ⟨_, rfl, rfl⟩ rfl (by decide) (by decide) rfl rfl (by decide) (by decide) (Nat.le_of_ble_eq_true rfl) rfl dL_law_1315 G h1 h2 ?_
  refine jc_toY (X := X) (g := g) ?_
  refine jc_aload_n K dL_law_1318 2 rfl ?_
  refine jc_callV K (L := LY) (ci := 11) (k := 0) (As := []) (X' := Y') (rv := some (.int v)) (c_X11_entries Y hg) mly_entries ⟨_, rfl, rfl⟩ rfl (by decide) (by decide) rfl rfl (by decide) (by decide) (Nat.le_of_ble_eq_true rfl) rfl dL_law_1319 G h1 h2 ?_
  refine jc_toX ?_
  refine jc_icmp_eq K dL_law_1322 (tgt := 1790) (by decide) (fun _ => ?_) (fun h => absurd rfl h)
  exact kk X Y' g hR'
theorem lc_21 {Rel : JX → JX → Prop} {κ : JK} {kc ks b o Ln i : Nat} {xs : Nat → Int32} {ad ad2 : Nat → Nat} {X Y : JX} {g : Nat → Int64} (K : jOk 7 cL_law RL (some .boolean) 11 κ) (G : jRl κ) (S9 : jSc b Ln xs κ) (hL : Ln ≤ 2560) (hi : i + 5 ≤ Ln) (hSim : ∀ k, OpSim Rel X Y k) (h1 : kc + 1 ≤ 601024) (h2 : ks + 6 ≤ 7293034) (kk : ∀ (X' Y' : JX) (g' : Nat → Int64), Rel X' Y' → JC 7 κ (kc + 1) (ks + 6) (wO ad (jcA κ) o (wZ LY ad2 (jcA κ) Y') X' g') 1790 (lvL b o ad ad2 i) []) : JC 7 κ kc ks (wO ad (jcA κ) o (wZ LY ad2 (jcA κ) Y) X g) 1327 (lvL b o ad ad2 i) [] := by
  obtain ⟨e, v, X', w, Y', hf, hg, hw, hv, hR'⟩ := (hSim 21 : OpSim Rel X Y 21) (xs (i + 1))
  refine jc_aload_n K dL_law_1327 3 rfl ?_
  refine jc_aload_n K dL_law_1328 4 rfl ?_
  refine jc_iload K dL_law_1329 0 rfl ?_
  refine jc_iconst K dL_law_1331 (v := nI 1) rfl ?_
  refine jc_iadd K dL_law_1332 (nI_add i 1) ?_
  refine jc_sldN K S9 (by omega) hL dL_law_1333 ?_
  refine jc_aload_n K dL_law_1334 1 rfl ?_
  refine jc_wrap K G (As := [.int (xs (i + 1))]) (cw_edition X X' (xs (i + 1)) g hf hw) mw_edition rfl (by decide) (by decide) (Nat.le_of_ble_eq_true rfl) h1 h2 dL_law_1335 ?_
  refine jc_istore K dL_law_1338 (by decide) ?_
  refine jc_toY ?_
  refine jc_aload_n K dL_law_1340 3 rfl ?_
  refine jc_aload_n K dL_law_1341 5 rfl ?_
  refine jc_iload K dL_law_1342 1 rfl ?_
  refine jc_iconst K dL_law_1344 (v := nI 1) rfl ?_
  refine jc_iadd K dL_law_1345 (nI_add i 1) ?_
  refine jc_sldN K S9 (by omega) hL dL_law_1346 ?_
  refine jc_callV K (L := LY) (ci := 11) (k := 0) (As := [.int (xs (i + 1))]) (X' := Y') (rv := some (.int w)) (c_X11_edition Y (xs (i + 1)) hg) mly_edition ⟨_, rfl, rfl⟩ rfl (by decide) (by decide) rfl rfl (by decide) (by decide) (Nat.le_of_ble_eq_true rfl) rfl dL_law_1347 G h1 h2 ?_
  refine jc_istore K dL_law_1350 (by decide) ?_
  refine jc_aload_n K dL_law_1352 4 rfl ?_
  refine jc_callV K (L := LY) (ci := 11) (k := 0) (As := []) (X' := Y') (rv := some (.int (Y' 0 0))) (c_X11_thrown Y' (thr_eq Y')) mly_thrown ⟨_, rfl, rfl⟩ rfl (by decide) (by decide) rfl rfl (by decide) (by decide) (Nat.le_of_ble_eq_true rfl) rfl dL_law_1353 G h1 h2 ?_
  refine jc_iload K dL_law_1356 1 rfl ?_
  refine jc_icmp_eq K dL_law_1358 (tgt := 1363) (by decide) (fun _ => ?_) (fun h => absurd rfl h)
  refine jc_toX ?_
  refine jc_iload K dL_law_1363 1 rfl ?_
  refine jc_if_ne K dL_law_1365 (tgt := 1380) (by decide) (fun _ => ?_) (fun h0 => ?_)
  · refine jc_goto K dL_law_1380 (tgt := 1790) (by decide) ?_
    exact jc_sub [2, 3, 4, 5, 6] rfl (kk X' Y' _ hR')
  · obtain rfl : e = none := wc_0 (by decide) (hw.trans (congrArg some h0))
    obtain rfl : v = w := hv rfl
    refine jc_aload_n K dL_law_1368 3 rfl ?_
    refine jc_iconst K dL_law_1369 (v := 0) rfl ?_
    refine jc_laload K 176 wO_176 (v := v.toInt64) (by rw [if_pos rfl]; exact if_pos rfl) dL_law_1370 ?_
    refine jc_iload K dL_law_1371 0 rfl ?_
    refine jc_i2l K dL_law_1373 ?_
    refine jc_lcmp K dL_law_1374 ?_
    refine jc_if_eq K dL_law_1375 (tgt := 1380) (by decide) (fun _ => ?_) (fun h => absurd (lg_cmp_0.mpr rfl) h)
    refine jc_goto K dL_law_1380 (tgt := 1790) (by decide) ?_
    exact jc_sub [2, 3, 4, 5, 6] rfl (kk X' Y' _ hR')
theorem lc_22 {Rel : JX → JX → Prop} {κ : JK} {kc ks b o Ln i : Nat} {xs : Nat → Int32} {ad ad2 : Nat → Nat} {X Y : JX} {g : Nat → Int64} (K : jOk 7 cL_law RL (some .boolean) 11 κ) (G : jRl κ) (S9 : jSc b Ln xs κ) (hL : Ln ≤ 2560) (hi : i + 5 ≤ Ln) (hSim : ∀ k, OpSim Rel X Y k) (h1 : kc + 1 ≤ 601024) (h2 : ks + 6 ≤ 7293034) (kk : ∀ (X' Y' : JX) (g' : Nat → Int64), Rel X' Y' → JC 7 κ (kc + 1) (ks + 6) (wO ad (jcA κ) o (wZ LY ad2 (jcA κ) Y') X' g') 1790 (lvL b o ad ad2 i) []) : JC 7 κ kc ks (wO ad (jcA κ) o (wZ LY ad2 (jcA κ) Y) X g) 1383 (lvL b o ad ad2 i) [] := by
  obtain ⟨v, Y', hf, hg, hR'⟩ := (hSim 22 : OpSim Rel X Y 22)
  refine jc_widen (mc := kc + 1) (ms := ks + 6) (Nat.le_succ _) (Nat.le_add_right _ _) ?_
  refine jc_aload_n K dL_law_1383 3 rfl ?_
  refine jc_callV K (L := LX) (ci := 10) (k := 0) (As := []) (X' := X) (rv := some (.int v)) (c_X10_stale X hf) mlx_stale ⟨_, rfl, rfl⟩ rfl (by decide) (by decide) rfl rfl (by decide) (by decide) (Nat.le_of_ble_eq_true rfl) rfl dL_law_1384 G h1 h2 ?_
  refine jc_toY (X := X) (g := g) ?_
  refine jc_aload_n K dL_law_1387 2 rfl ?_
  refine jc_callV K (L := LY) (ci := 11) (k := 0) (As := []) (X' := Y') (rv := some (.int v)) (c_X11_stale Y hg) mly_stale ⟨_, rfl, rfl⟩ rfl (by decide) (by decide) rfl rfl (by decide) (by decide) (Nat.le_of_ble_eq_true rfl) rfl dL_law_1388 G h1 h2 ?_
  refine jc_toX ?_
  refine jc_icmp_eq K dL_law_1391 (tgt := 1790) (by decide) (fun _ => ?_) (fun h => absurd rfl h)
  exact kk X Y' g hR'
theorem lc_23 {Rel : JX → JX → Prop} {κ : JK} {kc ks b o Ln i : Nat} {xs : Nat → Int32} {ad ad2 : Nat → Nat} {X Y : JX} {g : Nat → Int64} (K : jOk 7 cL_law RL (some .boolean) 11 κ) (G : jRl κ) (S9 : jSc b Ln xs κ) (hL : Ln ≤ 2560) (hi : i + 5 ≤ Ln) (hSim : ∀ k, OpSim Rel X Y k) (h1 : kc + 1 ≤ 601024) (h2 : ks + 6 ≤ 7293034) (kk : ∀ (X' Y' : JX) (g' : Nat → Int64), Rel X' Y' → JC 7 κ (kc + 1) (ks + 6) (wO ad (jcA κ) o (wZ LY ad2 (jcA κ) Y') X' g') 1790 (lvL b o ad ad2 i) []) : JC 7 κ kc ks (wO ad (jcA κ) o (wZ LY ad2 (jcA κ) Y) X g) 1396 (lvL b o ad ad2 i) [] := by
  obtain ⟨v, Y', hf, hg, hR'⟩ := (hSim 23 : OpSim Rel X Y 23)
  refine jc_widen (mc := kc + 1) (ms := ks + 6) (Nat.le_succ _) (Nat.le_add_right _ _) ?_
  refine jc_aload_n K dL_law_1396 3 rfl ?_
  refine jc_callV K (L := LX) (ci := 10) (k := 0) (As := []) (X' := X) (rv := some (.int v)) (c_X10_segments X hf) mlx_segments ⟨_, rfl, rfl⟩ rfl (by decide) (by decide) rfl rfl (by decide) (by decide) (Nat.le_of_ble_eq_true rfl) rfl dL_law_1397 G h1 h2 ?_
  refine jc_toY (X := X) (g := g) ?_
  refine jc_aload_n K dL_law_1400 2 rfl ?_
  refine jc_callV K (L := LY) (ci := 11) (k := 0) (As := []) (X' := Y') (rv := some (.int v)) (c_X11_segments Y hg) mly_segments ⟨_, rfl, rfl⟩ rfl (by decide) (by decide) rfl rfl (by decide) (by decide) (Nat.le_of_ble_eq_true rfl) rfl dL_law_1401 G h1 h2 ?_
  refine jc_toX ?_
  refine jc_icmp_eq K dL_law_1404 (tgt := 1790) (by decide) (fun _ => ?_) (fun h => absurd rfl h)
  exact kk X Y' g hR'
theorem lc_24 {Rel : JX → JX → Prop} {κ : JK} {kc ks b o Ln i : Nat} {xs : Nat → Int32} {ad ad2 : Nat → Nat} {X Y : JX} {g : Nat → Int64} (K : jOk 7 cL_law RL (some .boolean) 11 κ) (G : jRl κ) (S9 : jSc b Ln xs κ) (hL : Ln ≤ 2560) (hi : i + 5 ≤ Ln) (hSim : ∀ k, OpSim Rel X Y k) (h1 : kc + 1 ≤ 601024) (h2 : ks + 6 ≤ 7293034) (kk : ∀ (X' Y' : JX) (g' : Nat → Int64), Rel X' Y' → JC 7 κ (kc + 1) (ks + 6) (wO ad (jcA κ) o (wZ LY ad2 (jcA κ) Y') X' g') 1790 (lvL b o ad ad2 i) []) : JC 7 κ kc ks (wO ad (jcA κ) o (wZ LY ad2 (jcA κ) Y) X g) 1409 (lvL b o ad ad2 i) [] := by
  obtain ⟨v, Y', hf, hg, hR'⟩ := (hSim 24 : OpSim Rel X Y 24)
  refine jc_widen (mc := kc + 1) (ms := ks + 6) (Nat.le_succ _) (Nat.le_add_right _ _) ?_
  refine jc_aload_n K dL_law_1409 3 rfl ?_
  refine jc_callV K (L := LX) (ci := 10) (k := 0) (As := []) (X' := X) (rv := some (.int v)) (c_X10_dead X hf) mlx_dead ⟨_, rfl, rfl⟩ rfl (by decide) (by decide) rfl rfl (by decide) (by decide) (Nat.le_of_ble_eq_true rfl) rfl dL_law_1410 G h1 h2 ?_
  refine jc_toY (X := X) (g := g) ?_
  refine jc_aload_n K dL_law_1413 2 rfl ?_
  refine jc_callV K (L := LY) (ci := 11) (k := 0) (As := []) (X' := Y') (rv := some (.int v)) (c_X11_dead Y hg) mly_dead ⟨_, rfl, rfl⟩ rfl (by decide) (by decide) rfl rfl (by decide) (by decide) (Nat.le_of_ble_eq_true rfl) rfl dL_law_1414 G h1 h2 ?_
  refine jc_toX ?_
  refine jc_icmp_eq K dL_law_1417 (tgt := 1790) (by decide) (fun _ => ?_) (fun h => absurd rfl h)
  exact kk X Y' g hR'
theorem lc_25 {Rel : JX → JX → Prop} {κ : JK} {kc ks b o Ln i : Nat} {xs : Nat → Int32} {ad ad2 : Nat → Nat} {X Y : JX} {g : Nat → Int64} (K : jOk 7 cL_law RL (some .boolean) 11 κ) (G : jRl κ) (S9 : jSc b Ln xs κ) (hL : Ln ≤ 2560) (hi : i + 5 ≤ Ln) (hSim : ∀ k, OpSim Rel X Y k) (h1 : kc + 1 ≤ 601024) (h2 : ks + 6 ≤ 7293034) (kk : ∀ (X' Y' : JX) (g' : Nat → Int64), Rel X' Y' → JC 7 κ (kc + 1) (ks + 6) (wO ad (jcA κ) o (wZ LY ad2 (jcA κ) Y') X' g') 1790 (lvL b o ad ad2 i) []) : JC 7 κ kc ks (wO ad (jcA κ) o (wZ LY ad2 (jcA κ) Y) X g) 1422 (lvL b o ad ad2 i) [] := by
  obtain ⟨e, v, X', w, Y', hf, hg, hw, hv, hR'⟩ := (hSim 25 : OpSim Rel X Y 25) (xs (i + 1)) (xs (i + 2)) (xs (i + 3)) (xs (i + 4))
  refine jc_aload_n K dL_law_1422 3 rfl ?_
  refine jc_aload_n K dL_law_1423 4 rfl ?_
  refine jc_iload K dL_law_1424 0 rfl ?_
  refine jc_iconst K dL_law_1426 (v := nI 1) rfl ?_
  refine jc_iadd K dL_law_1427 (nI_add i 1) ?_
  refine jc_sldN K S9 (by omega) hL dL_law_1428 ?_
  refine jc_aload_n K dL_law_1429 4 rfl ?_
  refine jc_iload K dL_law_1430 0 rfl ?_
  refine jc_iconst K dL_law_1432 (v := nI 2) rfl ?_
  refine jc_iadd K dL_law_1433 (nI_add i 2) ?_
  refine jc_sldN K S9 (by omega) hL dL_law_1434 ?_
  refine jc_aload_n K dL_law_1435 4 rfl ?_
  refine jc_iload K dL_law_1436 0 rfl ?_
  refine jc_iconst K dL_law_1438 (v := nI 3) rfl ?_
  refine jc_iadd K dL_law_1439 (nI_add i 3) ?_
  refine jc_sldN K S9 (by omega) hL dL_law_1440 ?_
  refine jc_aload_n K dL_law_1441 4 rfl ?_
  refine jc_iload K dL_law_1442 0 rfl ?_
  refine jc_iconst K dL_law_1444 (v := nI 4) rfl ?_
  refine jc_iadd K dL_law_1445 (nI_add i 4) ?_
  refine jc_sldN K S9 (by omega) hL dL_law_1446 ?_
  refine jc_aload_n K dL_law_1447 1 rfl ?_
  refine jc_wrap K G (As := [.int (xs (i + 1)), .int (xs (i + 2)), .int (xs (i + 3)), .int (xs (i + 4))]) (cw_answers X X' (xs (i + 1)) (xs (i + 2)) (xs (i + 3)) (xs (i + 4)) g hf hw) mw_answers rfl (by decide) (by decide) (Nat.le_of_ble_eq_true rfl) h1 h2 dL_law_1448 ?_
  refine jc_istore K dL_law_1451 (by decide) ?_
  refine jc_toY ?_
  refine jc_aload_n K dL_law_1453 3 rfl ?_
  refine jc_aload_n K dL_law_1454 5 rfl ?_
  refine jc_iload K dL_law_1455 1 rfl ?_
  refine jc_iconst K dL_law_1457 (v := nI 1) rfl ?_
  refine jc_iadd K dL_law_1458 (nI_add i 1) ?_
  refine jc_sldN K S9 (by omega) hL dL_law_1459 ?_
  refine jc_aload_n K dL_law_1460 5 rfl ?_
  refine jc_iload K dL_law_1461 1 rfl ?_
  refine jc_iconst K dL_law_1463 (v := nI 2) rfl ?_
  refine jc_iadd K dL_law_1464 (nI_add i 2) ?_
  refine jc_sldN K S9 (by omega) hL dL_law_1465 ?_
  refine jc_aload_n K dL_law_1466 5 rfl ?_
  refine jc_iload K dL_law_1467 1 rfl ?_
  refine jc_iconst K dL_law_1469 (v := nI 3) rfl ?_
  refine jc_iadd K dL_law_1470 (nI_add i 3) ?_
  refine jc_sldN K S9 (by omega) hL dL_law_1471 ?_
  refine jc_aload_n K dL_law_1472 5 rfl ?_
  refine jc_iload K dL_law_1473 1 rfl ?_
  refine jc_iconst K dL_law_1475 (v := nI 4) rfl ?_
  refine jc_iadd K dL_law_1476 (nI_add i 4) ?_
  refine jc_sldN K S9 (by omega) hL dL_law_1477 ?_
  refine jc_callV K (L := LY) (ci := 11) (k := 0) (As := [.int (xs (i + 1)), .int (xs (i + 2)), .int (xs (i + 3)), .int (xs (i + 4))]) (X' := Y') (rv := some (.int w)) (c_X11_answers Y (xs (i + 1)) (xs (i + 2)) (xs (i + 3)) (xs (i + 4)) hg) mly_answers ⟨_, rfl, rfl⟩ rfl (by decide) (by decide) rfl rfl (by decide) (by decide) (Nat.le_of_ble_eq_true rfl) rfl dL_law_1478 G h1 h2 ?_
  refine jc_istore K dL_law_1481 (by decide) ?_
  refine jc_aload_n K dL_law_1483 4 rfl ?_
  refine jc_callV K (L := LY) (ci := 11) (k := 0) (As := []) (X' := Y') (rv := some (.int (Y' 0 0))) (c_X11_thrown Y' (thr_eq Y')) mly_thrown ⟨_, rfl, rfl⟩ rfl (by decide) (by decide) rfl rfl (by decide) (by decide) (Nat.le_of_ble_eq_true rfl) rfl dL_law_1484 G h1 h2 ?_
  refine jc_iload K dL_law_1487 1 rfl ?_
  refine jc_icmp_eq K dL_law_1489 (tgt := 1494) (by decide) (fun _ => ?_) (fun h => absurd rfl h)
  refine jc_toX ?_
  refine jc_iload K dL_law_1494 1 rfl ?_
  refine jc_if_ne K dL_law_1496 (tgt := 1511) (by decide) (fun _ => ?_) (fun h0 => ?_)
  · refine jc_goto K dL_law_1511 (tgt := 1790) (by decide) ?_
    exact jc_sub [2, 3, 4, 5, 6] rfl (kk X' Y' _ hR')
  · obtain rfl : e = none := wc_0 (by decide) (hw.trans (congrArg some h0))
    obtain rfl : v = w := hv rfl
    refine jc_aload_n K dL_law_1499 3 rfl ?_
    refine jc_iconst K dL_law_1500 (v := 0) rfl ?_
    refine jc_laload K 176 wO_176 (v := v.toInt64) (by rw [if_pos rfl]; exact if_pos rfl) dL_law_1501 ?_
    refine jc_iload K dL_law_1502 0 rfl ?_
    refine jc_i2l K dL_law_1504 ?_
    refine jc_lcmp K dL_law_1505 ?_
    refine jc_if_eq K dL_law_1506 (tgt := 1511) (by decide) (fun _ => ?_) (fun h => absurd (lg_cmp_0.mpr rfl) h)
    refine jc_goto K dL_law_1511 (tgt := 1790) (by decide) ?_
    exact jc_sub [2, 3, 4, 5, 6] rfl (kk X' Y' _ hR')
theorem lc_26 {Rel : JX → JX → Prop} {κ : JK} {kc ks b o Ln i : Nat} {xs : Nat → Int32} {ad ad2 : Nat → Nat} {X Y : JX} {g : Nat → Int64} (K : jOk 7 cL_law RL (some .boolean) 11 κ) (G : jRl κ) (S9 : jSc b Ln xs κ) (hL : Ln ≤ 2560) (hi : i + 5 ≤ Ln) (hSim : ∀ k, OpSim Rel X Y k) (h1 : kc + 1 ≤ 601024) (h2 : ks + 6 ≤ 7293034) (kk : ∀ (X' Y' : JX) (g' : Nat → Int64), Rel X' Y' → JC 7 κ (kc + 1) (ks + 6) (wO ad (jcA κ) o (wZ LY ad2 (jcA κ) Y') X' g') 1790 (lvL b o ad ad2 i) []) : JC 7 κ kc ks (wO ad (jcA κ) o (wZ LY ad2 (jcA κ) Y) X g) 1514 (lvL b o ad ad2 i) [] := by
  obtain ⟨e, v, X', w, Y', hf, hg, hw, hv, hR'⟩ := (hSim 26 : OpSim Rel X Y 26) (xs (i + 1)) (xs (i + 2)) (xs (i + 3)) (xs (i + 4))
  refine jc_aload_n K dL_law_1514 3 rfl ?_
  refine jc_aload_n K dL_law_1515 4 rfl ?_
  refine jc_iload K dL_law_1516 0 rfl ?_
  refine jc_iconst K dL_law_1518 (v := nI 1) rfl ?_
  refine jc_iadd K dL_law_1519 (nI_add i 1) ?_
  refine jc_sldN K S9 (by omega) hL dL_law_1520 ?_
  refine jc_aload_n K dL_law_1521 4 rfl ?_
  refine jc_iload K dL_law_1522 0 rfl ?_
  refine jc_iconst K dL_law_1524 (v := nI 2) rfl ?_
  refine jc_iadd K dL_law_1525 (nI_add i 2) ?_
  refine jc_sldN K S9 (by omega) hL dL_law_1526 ?_
  refine jc_aload_n K dL_law_1527 4 rfl ?_
  refine jc_iload K dL_law_1528 0 rfl ?_
  refine jc_iconst K dL_law_1530 (v := nI 3) rfl ?_
  refine jc_iadd K dL_law_1531 (nI_add i 3) ?_
  refine jc_sldN K S9 (by omega) hL dL_law_1532 ?_
  refine jc_aload_n K dL_law_1533 4 rfl ?_
  refine jc_iload K dL_law_1534 0 rfl ?_
  refine jc_iconst K dL_law_1536 (v := nI 4) rfl ?_
  refine jc_iadd K dL_law_1537 (nI_add i 4) ?_
  refine jc_sldN K S9 (by omega) hL dL_law_1538 ?_
  refine jc_aload_n K dL_law_1539 1 rfl ?_
  refine jc_wrap K G (As := [.int (xs (i + 1)), .int (xs (i + 2)), .int (xs (i + 3)), .int (xs (i + 4))]) (cw_answersAnew X X' (xs (i + 1)) (xs (i + 2)) (xs (i + 3)) (xs (i + 4)) g hf hw) mw_answersAnew rfl (by decide) (by decide) (Nat.le_of_ble_eq_true rfl) h1 h2 dL_law_1540 ?_
  refine jc_istore K dL_law_1543 (by decide) ?_
  refine jc_toY ?_
  refine jc_aload_n K dL_law_1545 3 rfl ?_
  refine jc_aload_n K dL_law_1546 5 rfl ?_
  refine jc_iload K dL_law_1547 1 rfl ?_
  refine jc_iconst K dL_law_1549 (v := nI 1) rfl ?_
  refine jc_iadd K dL_law_1550 (nI_add i 1) ?_
  refine jc_sldN K S9 (by omega) hL dL_law_1551 ?_
  refine jc_aload_n K dL_law_1552 5 rfl ?_
  refine jc_iload K dL_law_1553 1 rfl ?_
  refine jc_iconst K dL_law_1555 (v := nI 2) rfl ?_
  refine jc_iadd K dL_law_1556 (nI_add i 2) ?_
  refine jc_sldN K S9 (by omega) hL dL_law_1557 ?_
  refine jc_aload_n K dL_law_1558 5 rfl ?_
  refine jc_iload K dL_law_1559 1 rfl ?_
  refine jc_iconst K dL_law_1561 (v := nI 3) rfl ?_
  refine jc_iadd K dL_law_1562 (nI_add i 3) ?_
  refine jc_sldN K S9 (by omega) hL dL_law_1563 ?_
  refine jc_aload_n K dL_law_1564 5 rfl ?_
  refine jc_iload K dL_law_1565 1 rfl ?_
  refine jc_iconst K dL_law_1567 (v := nI 4) rfl ?_
  refine jc_iadd K dL_law_1568 (nI_add i 4) ?_
  refine jc_sldN K S9 (by omega) hL dL_law_1569 ?_
  refine jc_callV K (L := LY) (ci := 11) (k := 0) (As := [.int (xs (i + 1)), .int (xs (i + 2)), .int (xs (i + 3)), .int (xs (i + 4))]) (X' := Y') (rv := some (.int w)) (c_X11_answersAnew Y (xs (i + 1)) (xs (i + 2)) (xs (i + 3)) (xs (i + 4)) hg) mly_answersAnew ⟨_, rfl, rfl⟩ rfl (by decide) (by decide) rfl rfl (by decide) (by decide) (Nat.le_of_ble_eq_true rfl) rfl dL_law_1570 G h1 h2 ?_
  refine jc_istore K dL_law_1573 (by decide) ?_
  refine jc_aload_n K dL_law_1575 4 rfl ?_
  refine jc_callV K (L := LY) (ci := 11) (k := 0) (As := []) (X' := Y') (rv := some (.int (Y' 0 0))) (c_X11_thrown Y' (thr_eq Y')) mly_thrown ⟨_, rfl, rfl⟩ rfl (by decide) (by decide) rfl rfl (by decide) (by decide) (Nat.le_of_ble_eq_true rfl) rfl dL_law_1576 G h1 h2 ?_
  refine jc_iload K dL_law_1579 1 rfl ?_
  refine jc_icmp_eq K dL_law_1581 (tgt := 1586) (by decide) (fun _ => ?_) (fun h => absurd rfl h)
  refine jc_toX ?_
  refine jc_iload K dL_law_1586 1 rfl ?_
  refine jc_if_ne K dL_law_1588 (tgt := 1603) (by decide) (fun _ => ?_) (fun h0 => ?_)
  · refine jc_goto K dL_law_1603 (tgt := 1790) (by decide) ?_
    exact jc_sub [2, 3, 4, 5, 6] rfl (kk X' Y' _ hR')
  · obtain rfl : e = none := wc_0 (by decide) (hw.trans (congrArg some h0))
    obtain rfl : v = w := hv rfl
    refine jc_aload_n K dL_law_1591 3 rfl ?_
    refine jc_iconst K dL_law_1592 (v := 0) rfl ?_
    refine jc_laload K 176 wO_176 (v := v.toInt64) (by rw [if_pos rfl]; exact if_pos rfl) dL_law_1593 ?_
    refine jc_iload K dL_law_1594 0 rfl ?_
    refine jc_i2l K dL_law_1596 ?_
    refine jc_lcmp K dL_law_1597 ?_
    refine jc_if_eq K dL_law_1598 (tgt := 1603) (by decide) (fun _ => ?_) (fun h => absurd (lg_cmp_0.mpr rfl) h)
    refine jc_goto K dL_law_1603 (tgt := 1790) (by decide) ?_
    exact jc_sub [2, 3, 4, 5, 6] rfl (kk X' Y' _ hR')
theorem lc_27 {Rel : JX → JX → Prop} {κ : JK} {kc ks b o Ln i : Nat} {xs : Nat → Int32} {ad ad2 : Nat → Nat} {X Y : JX} {g : Nat → Int64} (K : jOk 7 cL_law RL (some .boolean) 11 κ) (G : jRl κ) (S9 : jSc b Ln xs κ) (hL : Ln ≤ 2560) (hi : i + 5 ≤ Ln) (hSim : ∀ k, OpSim Rel X Y k) (h1 : kc + 1 ≤ 601024) (h2 : ks + 6 ≤ 7293034) (kk : ∀ (X' Y' : JX) (g' : Nat → Int64), Rel X' Y' → JC 7 κ (kc + 1) (ks + 6) (wO ad (jcA κ) o (wZ LY ad2 (jcA κ) Y') X' g') 1790 (lvL b o ad ad2 i) []) : JC 7 κ kc ks (wO ad (jcA κ) o (wZ LY ad2 (jcA κ) Y) X g) 1606 (lvL b o ad ad2 i) [] := by
  obtain ⟨e, v, X', w, Y', hf, hg, hw, hv, hR'⟩ := (hSim 27 : OpSim Rel X Y 27) (xs (i + 1)) (xs (i + 2)) (xs (i + 3)) (xs (i + 4))
  refine jc_aload_n K dL_law_1606 3 rfl ?_
  refine jc_aload_n K dL_law_1607 4 rfl ?_
  refine jc_iload K dL_law_1608 0 rfl ?_
  refine jc_iconst K dL_law_1610 (v := nI 1) rfl ?_
  refine jc_iadd K dL_law_1611 (nI_add i 1) ?_
  refine jc_sldN K S9 (by omega) hL dL_law_1612 ?_
  refine jc_aload_n K dL_law_1613 4 rfl ?_
  refine jc_iload K dL_law_1614 0 rfl ?_
  refine jc_iconst K dL_law_1616 (v := nI 2) rfl ?_
  refine jc_iadd K dL_law_1617 (nI_add i 2) ?_
  refine jc_sldN K S9 (by omega) hL dL_law_1618 ?_
  refine jc_aload_n K dL_law_1619 4 rfl ?_
  refine jc_iload K dL_law_1620 0 rfl ?_
  refine jc_iconst K dL_law_1622 (v := nI 3) rfl ?_
  refine jc_iadd K dL_law_1623 (nI_add i 3) ?_
  refine jc_sldN K S9 (by omega) hL dL_law_1624 ?_
  refine jc_aload_n K dL_law_1625 4 rfl ?_
  refine jc_iload K dL_law_1626 0 rfl ?_
  refine jc_iconst K dL_law_1628 (v := nI 4) rfl ?_
  refine jc_iadd K dL_law_1629 (nI_add i 4) ?_
  refine jc_sldN K S9 (by omega) hL dL_law_1630 ?_
  refine jc_aload_n K dL_law_1631 1 rfl ?_
  refine jc_wrap K G (As := [.int (xs (i + 1)), .int (xs (i + 2)), .int (xs (i + 3)), .int (xs (i + 4))]) (cw_answer X X' (xs (i + 1)) (xs (i + 2)) (xs (i + 3)) (xs (i + 4)) g hf hw) mw_answer rfl (by decide) (by decide) (Nat.le_of_ble_eq_true rfl) h1 h2 dL_law_1632 ?_
  refine jc_istore K dL_law_1635 (by decide) ?_
  refine jc_toY ?_
  refine jc_aload_n K dL_law_1637 3 rfl ?_
  refine jc_aload_n K dL_law_1638 5 rfl ?_
  refine jc_iload K dL_law_1639 1 rfl ?_
  refine jc_iconst K dL_law_1641 (v := nI 1) rfl ?_
  refine jc_iadd K dL_law_1642 (nI_add i 1) ?_
  refine jc_sldN K S9 (by omega) hL dL_law_1643 ?_
  refine jc_aload_n K dL_law_1644 5 rfl ?_
  refine jc_iload K dL_law_1645 1 rfl ?_
  refine jc_iconst K dL_law_1647 (v := nI 2) rfl ?_
  refine jc_iadd K dL_law_1648 (nI_add i 2) ?_
  refine jc_sldN K S9 (by omega) hL dL_law_1649 ?_
  refine jc_aload_n K dL_law_1650 5 rfl ?_
  refine jc_iload K dL_law_1651 1 rfl ?_
  refine jc_iconst K dL_law_1653 (v := nI 3) rfl ?_
  refine jc_iadd K dL_law_1654 (nI_add i 3) ?_
  refine jc_sldN K S9 (by omega) hL dL_law_1655 ?_
  refine jc_aload_n K dL_law_1656 5 rfl ?_
  refine jc_iload K dL_law_1657 1 rfl ?_
  refine jc_iconst K dL_law_1659 (v := nI 4) rfl ?_
  refine jc_iadd K dL_law_1660 (nI_add i 4) ?_
  refine jc_sldN K S9 (by omega) hL dL_law_1661 ?_
  refine jc_callV K (L := LY) (ci := 11) (k := 0) (As := [.int (xs (i + 1)), .int (xs (i + 2)), .int (xs (i + 3)), .int (xs (i + 4))]) (X' := Y') (rv := some (.int w)) (c_X11_answer Y (xs (i + 1)) (xs (i + 2)) (xs (i + 3)) (xs (i + 4)) hg) mly_answer ⟨_, rfl, rfl⟩ rfl (by decide) (by decide) rfl rfl (by decide) (by decide) (Nat.le_of_ble_eq_true rfl) rfl dL_law_1662 G h1 h2 ?_
  refine jc_istore K dL_law_1665 (by decide) ?_
  refine jc_aload_n K dL_law_1667 4 rfl ?_
  refine jc_callV K (L := LY) (ci := 11) (k := 0) (As := []) (X' := Y') (rv := some (.int (Y' 0 0))) (c_X11_thrown Y' (thr_eq Y')) mly_thrown ⟨_, rfl, rfl⟩ rfl (by decide) (by decide) rfl rfl (by decide) (by decide) (Nat.le_of_ble_eq_true rfl) rfl dL_law_1668 G h1 h2 ?_
  refine jc_iload K dL_law_1671 1 rfl ?_
  refine jc_icmp_eq K dL_law_1673 (tgt := 1678) (by decide) (fun _ => ?_) (fun h => absurd rfl h)
  refine jc_toX ?_
  refine jc_iload K dL_law_1678 1 rfl ?_
  refine jc_if_ne K dL_law_1680 (tgt := 1695) (by decide) (fun _ => ?_) (fun h0 => ?_)
  · refine jc_goto K dL_law_1695 (tgt := 1790) (by decide) ?_
    exact jc_sub [2, 3, 4, 5, 6] rfl (kk X' Y' _ hR')
  · obtain rfl : e = none := wc_0 (by decide) (hw.trans (congrArg some h0))
    obtain rfl : v = w := hv rfl
    refine jc_aload_n K dL_law_1683 3 rfl ?_
    refine jc_iconst K dL_law_1684 (v := 0) rfl ?_
    refine jc_laload K 176 wO_176 (v := v.toInt64) (by rw [if_pos rfl]; exact if_pos rfl) dL_law_1685 ?_
    refine jc_iload K dL_law_1686 0 rfl ?_
    refine jc_i2l K dL_law_1688 ?_
    refine jc_lcmp K dL_law_1689 ?_
    refine jc_if_eq K dL_law_1690 (tgt := 1695) (by decide) (fun _ => ?_) (fun h => absurd (lg_cmp_0.mpr rfl) h)
    refine jc_goto K dL_law_1695 (tgt := 1790) (by decide) ?_
    exact jc_sub [2, 3, 4, 5, 6] rfl (kk X' Y' _ hR')
theorem lc_28 {Rel : JX → JX → Prop} {κ : JK} {kc ks b o Ln i : Nat} {xs : Nat → Int32} {ad ad2 : Nat → Nat} {X Y : JX} {g : Nat → Int64} (K : jOk 7 cL_law RL (some .boolean) 11 κ) (G : jRl κ) (S9 : jSc b Ln xs κ) (hL : Ln ≤ 2560) (hi : i + 5 ≤ Ln) (hSim : ∀ k, OpSim Rel X Y k) (h1 : kc + 1 ≤ 601024) (h2 : ks + 6 ≤ 7293034) (kk : ∀ (X' Y' : JX) (g' : Nat → Int64), Rel X' Y' → JC 7 κ (kc + 1) (ks + 6) (wO ad (jcA κ) o (wZ LY ad2 (jcA κ) Y') X' g') 1790 (lvL b o ad ad2 i) []) : JC 7 κ kc ks (wO ad (jcA κ) o (wZ LY ad2 (jcA κ) Y) X g) 1698 (lvL b o ad ad2 i) [] := by
  obtain ⟨e, v, X', w, Y', hf, hg, hw, hv, hR'⟩ := (hSim 28 : OpSim Rel X Y 28) (xs (i + 1)) (xs (i + 2)) (xs (i + 3)) (xs (i + 4))
  refine jc_aload_n K dL_law_1698 3 rfl ?_
  refine jc_aload_n K dL_law_1699 4 rfl ?_
  refine jc_iload K dL_law_1700 0 rfl ?_
  refine jc_iconst K dL_law_1702 (v := nI 1) rfl ?_
  refine jc_iadd K dL_law_1703 (nI_add i 1) ?_
  refine jc_sldN K S9 (by omega) hL dL_law_1704 ?_
  refine jc_aload_n K dL_law_1705 4 rfl ?_
  refine jc_iload K dL_law_1706 0 rfl ?_
  refine jc_iconst K dL_law_1708 (v := nI 2) rfl ?_
  refine jc_iadd K dL_law_1709 (nI_add i 2) ?_
  refine jc_sldN K S9 (by omega) hL dL_law_1710 ?_
  refine jc_aload_n K dL_law_1711 4 rfl ?_
  refine jc_iload K dL_law_1712 0 rfl ?_
  refine jc_iconst K dL_law_1714 (v := nI 3) rfl ?_
  refine jc_iadd K dL_law_1715 (nI_add i 3) ?_
  refine jc_sldN K S9 (by omega) hL dL_law_1716 ?_
  refine jc_aload_n K dL_law_1717 4 rfl ?_
  refine jc_iload K dL_law_1718 0 rfl ?_
  refine jc_iconst K dL_law_1720 (v := nI 4) rfl ?_
  refine jc_iadd K dL_law_1721 (nI_add i 4) ?_
  refine jc_sldN K S9 (by omega) hL dL_law_1722 ?_
  refine jc_aload_n K dL_law_1723 1 rfl ?_
  refine jc_wrap K G (As := [.int (xs (i + 1)), .int (xs (i + 2)), .int (xs (i + 3)), .int (xs (i + 4))]) (cw_closest X X' (xs (i + 1)) (xs (i + 2)) (xs (i + 3)) (xs (i + 4)) g hf hw) mw_closest rfl (by decide) (by decide) (Nat.le_of_ble_eq_true rfl) h1 h2 dL_law_1724 ?_
  refine jc_istore K dL_law_1727 (by decide) ?_
  refine jc_toY ?_
  refine jc_aload_n K dL_law_1729 3 rfl ?_
  refine jc_aload_n K dL_law_1730 5 rfl ?_
  refine jc_iload K dL_law_1731 1 rfl ?_
  refine jc_iconst K dL_law_1733 (v := nI 1) rfl ?_
  refine jc_iadd K dL_law_1734 (nI_add i 1) ?_
  refine jc_sldN K S9 (by omega) hL dL_law_1735 ?_
  refine jc_aload_n K dL_law_1736 5 rfl ?_
  refine jc_iload K dL_law_1737 1 rfl ?_
  refine jc_iconst K dL_law_1739 (v := nI 2) rfl ?_
  refine jc_iadd K dL_law_1740 (nI_add i 2) ?_
  refine jc_sldN K S9 (by omega) hL dL_law_1741 ?_
  refine jc_aload_n K dL_law_1742 5 rfl ?_
  refine jc_iload K dL_law_1743 1 rfl ?_
  refine jc_iconst K dL_law_1745 (v := nI 3) rfl ?_
  refine jc_iadd K dL_law_1746 (nI_add i 3) ?_
  refine jc_sldN K S9 (by omega) hL dL_law_1747 ?_
  refine jc_aload_n K dL_law_1748 5 rfl ?_
  refine jc_iload K dL_law_1749 1 rfl ?_
  refine jc_iconst K dL_law_1751 (v := nI 4) rfl ?_
  refine jc_iadd K dL_law_1752 (nI_add i 4) ?_
  refine jc_sldN K S9 (by omega) hL dL_law_1753 ?_
  refine jc_callV K (L := LY) (ci := 11) (k := 0) (As := [.int (xs (i + 1)), .int (xs (i + 2)), .int (xs (i + 3)), .int (xs (i + 4))]) (X' := Y') (rv := some (.int w)) (c_X11_closest Y (xs (i + 1)) (xs (i + 2)) (xs (i + 3)) (xs (i + 4)) hg) mly_closest ⟨_, rfl, rfl⟩ rfl (by decide) (by decide) rfl rfl (by decide) (by decide) (Nat.le_of_ble_eq_true rfl) rfl dL_law_1754 G h1 h2 ?_
  refine jc_istore K dL_law_1757 (by decide) ?_
  refine jc_aload_n K dL_law_1759 4 rfl ?_
  refine jc_callV K (L := LY) (ci := 11) (k := 0) (As := []) (X' := Y') (rv := some (.int (Y' 0 0))) (c_X11_thrown Y' (thr_eq Y')) mly_thrown ⟨_, rfl, rfl⟩ rfl (by decide) (by decide) rfl rfl (by decide) (by decide) (Nat.le_of_ble_eq_true rfl) rfl dL_law_1760 G h1 h2 ?_
  refine jc_iload K dL_law_1763 1 rfl ?_
  refine jc_icmp_eq K dL_law_1765 (tgt := 1770) (by decide) (fun _ => ?_) (fun h => absurd rfl h)
  refine jc_toX ?_
  refine jc_iload K dL_law_1770 1 rfl ?_
  refine jc_if_ne K dL_law_1772 (tgt := 1787) (by decide) (fun _ => ?_) (fun h0 => ?_)
  · refine jc_goto K dL_law_1787 (tgt := 1790) (by decide) ?_
    exact jc_sub [2, 3, 4, 5, 6] rfl (kk X' Y' _ hR')
  · obtain rfl : e = none := wc_0 (by decide) (hw.trans (congrArg some h0))
    obtain rfl : v = w := hv rfl
    refine jc_aload_n K dL_law_1775 3 rfl ?_
    refine jc_iconst K dL_law_1776 (v := 0) rfl ?_
    refine jc_laload K 176 wO_176 (v := v.toInt64) (by rw [if_pos rfl]; exact if_pos rfl) dL_law_1777 ?_
    refine jc_iload K dL_law_1778 0 rfl ?_
    refine jc_i2l K dL_law_1780 ?_
    refine jc_lcmp K dL_law_1781 ?_
    refine jc_if_eq K dL_law_1782 (tgt := 1787) (by decide) (fun _ => ?_) (fun h => absurd (lg_cmp_0.mpr rfl) h)
    refine jc_goto K dL_law_1787 (tgt := 1790) (by decide) ?_
    exact jc_sub [2, 3, 4, 5, 6] rfl (kk X' Y' _ hR')
def jLe (κ : JK) : Prop := match κ with
  | (p, l, e, R, s, m, args, below, meth, c, D, A, _, _, _, Q) => ∀ (H : Heap) (locs : List Loc) (ls : Array Slot), va_S A s.heap H locs → W p l e R s m args below meth c H locs 601024 7293034 Q (F0 m 1797 ls [.int 1])
theorem law_loop {Rel : Nat → JX → JX → Prop} (hSim : ∀ i X Y, i + 5 ≤ 2560 → Rel i X Y → ∀ k, OpSim (Rel (i + 5)) X Y k) (hMono : ∀ i X Y, Rel i X Y → Rel (i + 5) X Y) {κ : JK} {b o Ln : Nat} {xs : Nat → Int32} {ad ad2 : Nat → Nat} (K : jOk 7 cL_law RL (some .boolean) 11 κ) (G : jRl κ) (S9 : jSc b Ln xs κ) (E : jLe κ) (hL : Ln ≤ 2560) : ∀ (n i kc ks : Nat) (X Y : JX) (g : Nat → Int64), i ≤ Ln → Ln < i + 5 + 5 * n → kc + n ≤ 601000 → ks + 6 * n ≤ 7293000 → Rel i X Y → JC 7 κ kc ks (wO ad (jcA κ) o (wZ LY ad2 (jcA κ) Y) X g) 23 (lvL b o ad ad2 i) [] := by
  intro n
  induction n with
  | zero =>
    intro i kc ks X Y g hi hn h1 h2 hR
    refine jc_iload K dL_law_23 0 rfl ?_
    refine jc_aload_n K dL_law_25 4 rfl ?_
    refine jc_slen K S9 dL_law_26 ?_
    refine jc_iconst K dL_law_27 (v := 5) rfl ?_
    refine jc_isub K dL_law_28 (v := nI Ln - 5) rfl ?_
    refine jc_icmp_gt K dL_law_29 (tgt := 1796) (by decide) (fun _ => ?_) (fun h => absurd ((nI_sub5 hL (by omega)).mpr (by omega)) h)
    refine jc_iconst K dL_law_1796 (v := 1) rfl ?_
    obtain ⟨p, l, e, R, s, m, args, below, meth, c, D, A, ad0, cA, rs0, Q⟩ := κ
    intro H locs ls hP hD hS hl
    exact W.widen (k := 601024) (n := 7293034) (by omega) (by omega) (E H locs ls hS)
  | succ n ih =>
    intro i kc ks X Y g hi hn h1 h2 hR
    refine jc_iload K dL_law_23 0 rfl ?_
    refine jc_aload_n K dL_law_25 4 rfl ?_
    refine jc_slen K S9 dL_law_26 ?_
    refine jc_iconst K dL_law_27 (v := 5) rfl ?_
    refine jc_isub K dL_law_28 (v := nI Ln - 5) rfl ?_
    refine jc_icmp_gt K dL_law_29 (tgt := 1796) (by decide) (fun _ => ?_) (fun h => ?_)
    · refine jc_iconst K dL_law_1796 (v := 1) rfl ?_
      obtain ⟨p, l, e, R, s, m, args, below, meth, c, D, A, ad0, cA, rs0, Q⟩ := κ
      intro H locs ls hP hD hS hl
      exact W.widen (k := 601024) (n := 7293034) (by omega) (by omega) (E H locs ls hS)
    · have hi5 : i + 5 ≤ Ln := Nat.le_of_not_lt (fun q => h ((nI_sub5 hL (by omega)).mpr q))
      have nx : ∀ (kc' ks' : Nat) (X' Y' : JX) (g' : Nat → Int64), kc' = kc + 1 → ks' = ks + 6 → Rel (i + 5) X' Y' → JC 7 κ kc' ks' (wO ad (jcA κ) o (wZ LY ad2 (jcA κ) Y') X' g') 1790 (lvL b o ad ad2 i) [] := by
        intro kc' ks' X' Y' g' e1 e2 hR'
        subst e1
        subst e2
        refine jc_iinc K dL_law_1790 (v := nI (i + 5)) 0 rfl (nI_add i 5) (by decide) ?_
        refine jc_goto K dL_law_1793 (tgt := 23) (by decide) ?_
        exact ih (i + 5) (kc + 1) (ks + 6) X' Y' g' hi5 (by omega) (by omega) (by omega) hR'
      refine jc_aload_n K dL_law_32 4 rfl ?_
      refine jc_iload K dL_law_33 0 rfl ?_
      refine jc_sldN K S9 (by omega) hL dL_law_35 ?_
      refine jc_bipush K dL_law_36 (v := 31) rfl ?_
      refine jc_iand K dL_law_38 (v := xs i &&& 31) rfl ?_
      obtain ⟨k, hk, e9⟩ := and31 (xs i)
      rw [e9]
      rcases (show k = 0 ∨ k = 1 ∨ k = 2 ∨ k = 3 ∨ k = 4 ∨ k = 5 ∨ k = 6 ∨ k = 7 ∨ k = 8 ∨ k = 9 ∨ k = 10 ∨ k = 11 ∨ k = 12 ∨ k = 13 ∨ k = 14 ∨ k = 15 ∨ k = 16 ∨ k = 17 ∨ k = 18 ∨ k = 19 ∨ k = 20 ∨ k = 21 ∨ k = 22 ∨ k = 23 ∨ k = 24 ∨ k = 25 ∨ k = 26 ∨ k = 27 ∨ k = 28 ∨ k = 29 ∨ k = 30 ∨ k = 31 by omega) with rfl | rfl | rfl | rfl | rfl | rfl | rfl | rfl | rfl | rfl | rfl | rfl | rfl | rfl | rfl | rfl | rfl | rfl | rfl | rfl | rfl | rfl | rfl | rfl | rfl | rfl | rfl | rfl | rfl | rfl | rfl | rfl
      · exact jc_tableIn K dL_law_39 (off := 129) (tgt := 168) (by decide) (by decide) (by decide) (by decide) (lc_0 (Rel := Rel (i + 5)) K G S9 hL hi5 (hSim i X Y (by omega) hR) (by omega) (by omega) (fun X' Y' g' h => nx _ _ X' Y' g' rfl rfl h))
      · exact jc_tableIn K dL_law_39 (off := 227) (tgt := 266) (by decide) (by decide) (by decide) (by decide) (lc_1 (Rel := Rel (i + 5)) K G S9 hL hi5 (hSim i X Y (by omega) hR) (by omega) (by omega) (fun X' Y' g' h => nx _ _ X' Y' g' rfl rfl h))
      · exact jc_tableIn K dL_law_39 (off := 295) (tgt := 334) (by decide) (by decide) (by decide) (by decide) (lc_2 (Rel := Rel (i + 5)) K G S9 hL hi5 (hSim i X Y (by omega) hR) (by omega) (by omega) (fun X' Y' g' h => nx _ _ X' Y' g' rfl rfl h))
      · exact jc_tableIn K dL_law_39 (off := 351) (tgt := 390) (by decide) (by decide) (by decide) (by decide) (lc_3 (Rel := Rel (i + 5)) K G S9 hL hi5 (hSim i X Y (by omega) hR) (by omega) (by omega) (fun X' Y' g' h => nx _ _ X' Y' g' rfl rfl h))
      · exact jc_tableIn K dL_law_39 (off := 433) (tgt := 472) (by decide) (by decide) (by decide) (by decide) (lc_4 (Rel := Rel (i + 5)) K G S9 hL hi5 (hSim i X Y (by omega) hR) (by omega) (by omega) (fun X' Y' g' h => nx _ _ X' Y' g' rfl rfl h))
      · exact jc_tableIn K dL_law_39 (off := 489) (tgt := 528) (by decide) (by decide) (by decide) (by decide) (lc_5 (Rel := Rel (i + 5)) K G S9 hL hi5 (hSim i X Y (by omega) hR) (by omega) (by omega) (fun X' Y' g' h => nx _ _ X' Y' g' rfl rfl h))
      · exact jc_tableIn K dL_law_39 (off := 580) (tgt := 619) (by decide) (by decide) (by decide) (by decide) (lc_6 (Rel := Rel (i + 5)) K G S9 hL hi5 (hSim i X Y (by omega) hR) (by omega) (by omega) (fun X' Y' g' h => nx _ _ X' Y' g' rfl rfl h))
      · exact jc_tableIn K dL_law_39 (off := 648) (tgt := 687) (by decide) (by decide) (by decide) (by decide) (lc_7 (Rel := Rel (i + 5)) K G S9 hL hi5 (hSim i X Y (by omega) hR) (by omega) (by omega) (fun X' Y' g' h => nx _ _ X' Y' g' rfl rfl h))
      · exact jc_tableIn K dL_law_39 (off := 723) (tgt := 762) (by decide) (by decide) (by decide) (by decide) (lc_8 (Rel := Rel (i + 5)) K G S9 hL hi5 (hSim i X Y (by omega) hR) (by omega) (by omega) (fun X' Y' g' h => nx _ _ X' Y' g' rfl rfl h))
      · exact jc_tableIn K dL_law_39 (off := 736) (tgt := 775) (by decide) (by decide) (by decide) (by decide) (lc_9 (Rel := Rel (i + 5)) K G S9 hL hi5 (hSim i X Y (by omega) hR) (by omega) (by omega) (fun X' Y' g' h => nx _ _ X' Y' g' rfl rfl h))
      · exact jc_tableIn K dL_law_39 (off := 792) (tgt := 831) (by decide) (by decide) (by decide) (by decide) (lc_10 (Rel := Rel (i + 5)) K G S9 hL hi5 (hSim i X Y (by omega) hR) (by omega) (by omega) (fun X' Y' g' h => nx _ _ X' Y' g' rfl rfl h))
      · exact jc_tableIn K dL_law_39 (off := 848) (tgt := 887) (by decide) (by decide) (by decide) (by decide) (lc_11 (Rel := Rel (i + 5)) K G S9 hL hi5 (hSim i X Y (by omega) hR) (by omega) (by omega) (fun X' Y' g' h => nx _ _ X' Y' g' rfl rfl h))
      · exact jc_tableIn K dL_law_39 (off := 904) (tgt := 943) (by decide) (by decide) (by decide) (by decide) (lc_12 (Rel := Rel (i + 5)) K G S9 hL hi5 (hSim i X Y (by omega) hR) (by omega) (by omega) (fun X' Y' g' h => nx _ _ X' Y' g' rfl rfl h))
      · exact jc_tableIn K dL_law_39 (off := 972) (tgt := 1011) (by decide) (by decide) (by decide) (by decide) (lc_13 (Rel := Rel (i + 5)) K G S9 hL hi5 (hSim i X Y (by omega) hR) (by omega) (by omega) (fun X' Y' g' h => nx _ _ X' Y' g' rfl rfl h))
      · exact jc_tableIn K dL_law_39 (off := 1028) (tgt := 1067) (by decide) (by decide) (by decide) (by decide) (lc_14 (Rel := Rel (i + 5)) K G S9 hL hi5 (hSim i X Y (by omega) hR) (by omega) (by omega) (fun X' Y' g' h => nx _ _ X' Y' g' rfl rfl h))
      · exact jc_tableIn K dL_law_39 (off := 1069) (tgt := 1108) (by decide) (by decide) (by decide) (by decide) (lc_15 (Rel := Rel (i + 5)) K G S9 hL hi5 (hSim i X Y (by omega) hR) (by omega) (by omega) (fun X' Y' g' h => nx _ _ X' Y' g' rfl rfl h))
      · exact jc_tableIn K dL_law_39 (off := 1137) (tgt := 1176) (by decide) (by decide) (by decide) (by decide) (lc_16 (Rel := Rel (i + 5)) K G S9 hL hi5 (hSim i X Y (by omega) hR) (by omega) (by omega) (fun X' Y' g' h => nx _ _ X' Y' g' rfl rfl h))
      · exact jc_tableIn K dL_law_39 (off := 1193) (tgt := 1232) (by decide) (by decide) (by decide) (by decide) (lc_17 (Rel := Rel (i + 5)) K G S9 hL hi5 (hSim i X Y (by omega) hR) (by omega) (by omega) (fun X' Y' g' h => nx _ _ X' Y' g' rfl rfl h))
      · exact jc_tableIn K dL_law_39 (off := 1249) (tgt := 1288) (by decide) (by decide) (by decide) (by decide) (lc_18 (Rel := Rel (i + 5)) K G S9 hL hi5 (hSim i X Y (by omega) hR) (by omega) (by omega) (fun X' Y' g' h => nx _ _ X' Y' g' rfl rfl h))
      · exact jc_tableIn K dL_law_39 (off := 1262) (tgt := 1301) (by decide) (by decide) (by decide) (by decide) (lc_19 (Rel := Rel (i + 5)) K G S9 hL hi5 (hSim i X Y (by omega) hR) (by omega) (by omega) (fun X' Y' g' h => nx _ _ X' Y' g' rfl rfl h))
      · exact jc_tableIn K dL_law_39 (off := 1275) (tgt := 1314) (by decide) (by decide) (by decide) (by decide) (lc_20 (Rel := Rel (i + 5)) K G S9 hL hi5 (hSim i X Y (by omega) hR) (by omega) (by omega) (fun X' Y' g' h => nx _ _ X' Y' g' rfl rfl h))
      · exact jc_tableIn K dL_law_39 (off := 1288) (tgt := 1327) (by decide) (by decide) (by decide) (by decide) (lc_21 (Rel := Rel (i + 5)) K G S9 hL hi5 (hSim i X Y (by omega) hR) (by omega) (by omega) (fun X' Y' g' h => nx _ _ X' Y' g' rfl rfl h))
      · exact jc_tableIn K dL_law_39 (off := 1344) (tgt := 1383) (by decide) (by decide) (by decide) (by decide) (lc_22 (Rel := Rel (i + 5)) K G S9 hL hi5 (hSim i X Y (by omega) hR) (by omega) (by omega) (fun X' Y' g' h => nx _ _ X' Y' g' rfl rfl h))
      · exact jc_tableIn K dL_law_39 (off := 1357) (tgt := 1396) (by decide) (by decide) (by decide) (by decide) (lc_23 (Rel := Rel (i + 5)) K G S9 hL hi5 (hSim i X Y (by omega) hR) (by omega) (by omega) (fun X' Y' g' h => nx _ _ X' Y' g' rfl rfl h))
      · exact jc_tableIn K dL_law_39 (off := 1370) (tgt := 1409) (by decide) (by decide) (by decide) (by decide) (lc_24 (Rel := Rel (i + 5)) K G S9 hL hi5 (hSim i X Y (by omega) hR) (by omega) (by omega) (fun X' Y' g' h => nx _ _ X' Y' g' rfl rfl h))
      · exact jc_tableIn K dL_law_39 (off := 1383) (tgt := 1422) (by decide) (by decide) (by decide) (by decide) (lc_25 (Rel := Rel (i + 5)) K G S9 hL hi5 (hSim i X Y (by omega) hR) (by omega) (by omega) (fun X' Y' g' h => nx _ _ X' Y' g' rfl rfl h))
      · exact jc_tableIn K dL_law_39 (off := 1475) (tgt := 1514) (by decide) (by decide) (by decide) (by decide) (lc_26 (Rel := Rel (i + 5)) K G S9 hL hi5 (hSim i X Y (by omega) hR) (by omega) (by omega) (fun X' Y' g' h => nx _ _ X' Y' g' rfl rfl h))
      · exact jc_tableIn K dL_law_39 (off := 1567) (tgt := 1606) (by decide) (by decide) (by decide) (by decide) (lc_27 (Rel := Rel (i + 5)) K G S9 hL hi5 (hSim i X Y (by omega) hR) (by omega) (by omega) (fun X' Y' g' h => nx _ _ X' Y' g' rfl rfl h))
      · exact jc_tableIn K dL_law_39 (off := 1659) (tgt := 1698) (by decide) (by decide) (by decide) (by decide) (lc_28 (Rel := Rel (i + 5)) K G S9 hL hi5 (hSim i X Y (by omega) hR) (by omega) (by omega) (fun X' Y' g' h => nx _ _ X' Y' g' rfl rfl h))
      · exact jc_tableOut K dL_law_39 (tgt := 1790) (by decide) (by decide) (jc_widen (Nat.le_succ kc) (Nat.le_add_right ks 6) (nx _ _ X Y g rfl rfl (hMono i X Y hR)))
      · exact jc_tableOut K dL_law_39 (tgt := 1790) (by decide) (by decide) (jc_widen (Nat.le_succ kc) (Nat.le_add_right ks 6) (nx _ _ X Y g rfl rfl (hMono i X Y hR)))
      · exact jc_tableOut K dL_law_39 (tgt := 1790) (by decide) (by decide) (jc_widen (Nat.le_succ kc) (Nat.le_add_right ks 6) (nx _ _ X Y g rfl rfl (hMono i X Y hR)))

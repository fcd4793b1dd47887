/-! ===== the law's body, instruction by instruction (law.py) ===== -/
theorem jb_L_law_1227 {κ : JK} (K : jOk 19 cL_law RL (some .boolean) 9 κ) (G : jB κ) {sb : Nat} {g : Int32 → Int32} (S : jS sb g κ) (X : JX) (v5 : Int32) (v6 : Int32) {r : Int32} (F : jLw r κ) (rec44 : JX → Int32 → Int32 → Option Int32) (hrec44 : ∀ (X : JX) (v5 : Int32) (v6 : Int32), rec44 X v5 v6 = some r → JB LZ 19 κ X 44 [(0, .ref sb), (1, .ref (jad κ (0))), (2, .ref (jad κ (176))), (3, .ref (jad κ (177))), (4, .ref (jad κ (178))), (5, .int v5), (6, .int v6)] []) (hr : b_L_law_1227 g rec44 X v5 v6 = some r) : JB LZ 19 κ X 1227 [(0, .ref sb), (1, .ref (jad κ (0))), (2, .ref (jad κ (176))), (3, .ref (jad κ (177))), (4, .ref (jad κ (178))), (5, .int v5), (6, .int v6)] [] := by
  unfold b_L_law_1227 at hr
  refine k_iincV K dL_law_1227 (v := 1) 6 rfl rfl (by decide) hr (fun t113 hr => ?_)
  refine k_goto K dL_law_1230 (tgt := 44) (by decide) ?_
  exact k_sub [1, 2, 3, 4, 5, 6, 0] rfl (hrec44 _ _ _ hr)
theorem jb_L_law_1196 {κ : JK} (K : jOk 19 cL_law RL (some .boolean) 9 κ) (G : jB κ) {sb : Nat} {g : Int32 → Int32} (S : jS sb g κ) (X : JX) (v5 : Int32) (v6 : Int32) (s0 : Int32) {r : Int32} (F : jLw r κ) (rec44 : JX → Int32 → Int32 → Option Int32) (hrec44 : ∀ (X : JX) (v5 : Int32) (v6 : Int32), rec44 X v5 v6 = some r → JB LZ 19 κ X 44 [(0, .ref sb), (1, .ref (jad κ (0))), (2, .ref (jad κ (176))), (3, .ref (jad κ (177))), (4, .ref (jad κ (178))), (5, .int v5), (6, .int v6)] []) (hr : b_L_law_1196 g rec44 X v5 v6 s0 = some r) : JB LZ 19 κ X 1196 [(0, .ref sb), (1, .ref (jad κ (0))), (2, .ref (jad κ (176))), (3, .ref (jad κ (177))), (4, .ref (jad κ (178))), (5, .int v5), (6, .int v6)] [.int s0] := by
  unfold b_L_law_1196 at hr
  refine k_istore K dL_law_1196 (by decide) ?_
  refine k_iload K dL_law_1198 0 rfl ?_
  refine k_if_eq K dL_law_1200 (tgt := 1225) (by decide) hr (fun hr => ?_) (fun hr => ?_)
  · refine k_iconst K dL_law_1225 (v := 0) rfl ?_
    exact k_lret K F hr rfl dL_law_1226
  · refine k_aload_n K dL_law_1203 2 rfl ?_
    refine k_vI0 K hr (fun v h => c_X10_isQuiet X h) ml_L_8 ⟨_, rfl, rfl⟩ rfl (by decide) (by decide) (Nat.le_of_ble_eq_true rfl) dL_law_1204 (fun t96 hr => ?_)
    refine k_if_eq K dL_law_1207 (tgt := 1227) (by decide) hr (fun hr => ?_) (fun hr => ?_)
    · exact k_sub [1, 2, 3, 4, 5, 6, 7] rfl (jb_L_law_1227 K G S _ _ _ F rec44 hrec44 hr)
    · refine k_aload_n K dL_law_1210 2 rfl ?_
      refine k_vI0 K hr (fun v h => c_X10_acts X h) ml_L_103 ⟨_, rfl, rfl⟩ rfl (by decide) (by decide) (Nat.le_of_ble_eq_true rfl) dL_law_1211 (fun t97 hr => ?_)
      refine k_if_ne K dL_law_1214 (tgt := 1225) (by decide) hr (fun hr => ?_) (fun hr => ?_)
      · refine k_iconst K dL_law_1225 (v := 0) rfl ?_
        exact k_lret K F hr rfl dL_law_1226
      · refine k_aload_n K dL_law_1217 2 rfl ?_
        refine k_iconst K dL_law_1218 (v := 0) rfl ?_
        refine k_vT1 K G hr (fun v h => c_X10_notices X (0) h) ml_L_46 ⟨_, rfl, rfl⟩ rfl (by decide) (by decide) (Nat.le_of_ble_eq_true rfl) dL_law_1219 (fun t98 X100 hr => ?_)
        refine k_if_eq K dL_law_1222 (tgt := 1227) (by decide) hr (fun hr => ?_) (fun hr => ?_)
        · exact k_sub [1, 2, 3, 4, 5, 6, 7] rfl (jb_L_law_1227 K G S _ _ _ F rec44 hrec44 hr)
        · refine k_iconst K dL_law_1225 (v := 0) rfl ?_
          exact k_lret K F hr rfl dL_law_1226
theorem jb_L_law_1159 {κ : JK} (K : jOk 19 cL_law RL (some .boolean) 9 κ) (G : jB κ) {sb : Nat} {g : Int32 → Int32} (S : jS sb g κ) (X : JX) (v5 : Int32) (v6 : Int32) (v11 : Int32) (v13 : Int32) (s0 : Int32) (s1 : Int32) {r : Int32} (F : jLw r κ) (rec44 : JX → Int32 → Int32 → Option Int32) (hrec44 : ∀ (X : JX) (v5 : Int32) (v6 : Int32), rec44 X v5 v6 = some r → JB LZ 19 κ X 44 [(0, .ref sb), (1, .ref (jad κ (0))), (2, .ref (jad κ (176))), (3, .ref (jad κ (177))), (4, .ref (jad κ (178))), (5, .int v5), (6, .int v6)] []) (rec1138 : Int32 → Int32 → Option Int32) (hrec1138 : ∀ (v12 : Int32) (v13 : Int32), rec1138 v12 v13 = some r → JB LZ 19 κ X 1138 [(0, .ref sb), (1, .ref (jad κ (0))), (2, .ref (jad κ (176))), (3, .ref (jad κ (177))), (4, .ref (jad κ (178))), (5, .int v5), (6, .int v6), (11, .int v11), (12, .int v12), (13, .int v13)] []) (hr : b_L_law_1159 g rec44 rec1138 X v5 v6 v11 v13 s0 s1 = some r) : JB LZ 19 κ X 1159 [(0, .ref sb), (1, .ref (jad κ (0))), (2, .ref (jad κ (176))), (3, .ref (jad κ (177))), (4, .ref (jad κ (178))), (5, .int v5), (6, .int v6), (11, .int v11), (13, .int v13)] [.int s0, .int s1] := by
  unfold b_L_law_1159 at hr
  refine k_iadd K dL_law_1159 ?_
  refine k_istoreV K dL_law_1160 (by decide) hr (fun t101 hr => ?_)
  refine k_iincV K dL_law_1162 (v := 1) 9 rfl rfl (by decide) hr (fun t102 hr => ?_)
  refine k_goto K dL_law_1165 (tgt := 1138) (by decide) ?_
  exact k_sub [2, 3, 4, 5, 6, 7, 8, 9, 1, 0] rfl (hrec1138 _ _ hr)
theorem jl_L_law_1138 {κ : JK} (K : jOk 19 cL_law RL (some .boolean) 9 κ) (G : jB κ) {sb : Nat} {g : Int32 → Int32} (S : jS sb g κ) (X : JX) (v5 : Int32) (v6 : Int32) (v11 : Int32) {r : Int32} (F : jLw r κ) (rec44 : JX → Int32 → Int32 → Option Int32) (hrec44 : ∀ (X : JX) (v5 : Int32) (v6 : Int32), rec44 X v5 v6 = some r → JB LZ 19 κ X 44 [(0, .ref sb), (1, .ref (jad κ (0))), (2, .ref (jad κ (176))), (3, .ref (jad κ (177))), (4, .ref (jad κ (178))), (5, .int v5), (6, .int v6)] []) : ∀ (v12 : Int32) (v13 : Int32), l_L_law_1138 g rec44 X v5 v6 v11 v12 v13 = some r → JB LZ 19 κ X 1138 [(0, .ref sb), (1, .ref (jad κ (0))), (2, .ref (jad κ (176))), (3, .ref (jad κ (177))), (4, .ref (jad κ (178))), (5, .int v5), (6, .int v6), (11, .int v11), (12, .int v12), (13, .int v13)] [] := by
  refine j_loop2 (P := fun v12 v13 => JB LZ 19 κ X 1138 [(0, .ref sb), (1, .ref (jad κ (0))), (2, .ref (jad κ (176))), (3, .ref (jad κ (177))), (4, .ref (jad κ (178))), (5, .int v5), (6, .int v6), (11, .int v11), (12, .int v12), (13, .int v13)] []) (fun rec1138 hrec1138 v12 v13 hr => ?_) 1000
  unfold lb_L_law_1138 at hr
  refine k_iload K dL_law_1138 9 rfl ?_
  refine k_iload K dL_law_1140 5 rfl ?_
  refine k_icmp_ge K dL_law_1142 (tgt := 1168) (by decide) hr (fun hr => ?_) (fun hr => ?_)
  · refine k_iload K dL_law_1168 7 rfl ?_
    refine k_if_eq K dL_law_1170 (tgt := 1195) (by decide) hr (fun hr => ?_) (fun hr => ?_)
    · refine k_iconst K dL_law_1195 (v := 0) rfl ?_
      exact k_sub [0, 1, 2, 3, 4, 5, 6] rfl (jb_L_law_1196 K G S _ _ _ _ F rec44 hrec44 hr)
    · refine k_aload_n K dL_law_1173 1 rfl ?_
      refine k_vI0 K hr (fun v h => c_X10_nodes X h) ml_L_97 ⟨_, rfl, rfl⟩ rfl (by decide) (by decide) (Nat.le_of_ble_eq_true rfl) dL_law_1174 (fun t80 hr => ?_)
      refine k_iload K dL_law_1177 8 rfl ?_
      refine k_icmp_ne K dL_law_1179 (tgt := 1195) (by decide) hr (fun hr => ?_) (fun hr => ?_)
      · refine k_iconst K dL_law_1195 (v := 0) rfl ?_
        exact k_sub [0, 1, 2, 3, 4, 5, 6] rfl (jb_L_law_1196 K G S _ _ _ _ F rec44 hrec44 hr)
      · refine k_aload_n K dL_law_1182 1 rfl ?_
        refine k_vI0 K hr (fun v h => c_X10_entries X h) ml_L_100 ⟨_, rfl, rfl⟩ rfl (by decide) (by decide) (Nat.le_of_ble_eq_true rfl) dL_law_1183 (fun t81 hr => ?_)
        refine k_iload K dL_law_1186 5 rfl ?_
        refine k_icmp_gt K dL_law_1188 (tgt := 1195) (by decide) hr (fun hr => ?_) (fun hr => ?_)
        · refine k_iconst K dL_law_1195 (v := 0) rfl ?_
          exact k_sub [0, 1, 2, 3, 4, 5, 6] rfl (jb_L_law_1196 K G S _ _ _ _ F rec44 hrec44 hr)
        · refine k_iconst K dL_law_1191 (v := 1) rfl ?_
          refine k_goto K dL_law_1192 (tgt := 1196) (by decide) ?_
          exact k_sub [0, 1, 2, 3, 4, 5, 6] rfl (jb_L_law_1196 K G S _ _ _ _ F rec44 hrec44 hr)
  · refine k_iload K dL_law_1145 8 rfl ?_
    refine k_aload_n K dL_law_1147 2 rfl ?_
    refine k_iload K dL_law_1148 9 rfl ?_
    refine k_iaload K (z := 32) lz176 lt176 dL_law_1150 hr (fun hr => ?_)
    refine k_if_le K dL_law_1151 (tgt := 1158) (by decide) hr (fun hr => ?_) (fun hr => ?_)
    · refine k_iconst K dL_law_1158 (v := 0) rfl ?_
      exact k_sub [0, 1, 2, 3, 4, 5, 6, 7, 9] rfl (jb_L_law_1159 K G S _ _ _ _ _ _ _ F rec44 hrec44 rec1138 hrec1138 hr)
    · refine k_iconst K dL_law_1154 (v := 1) rfl ?_
      refine k_goto K dL_law_1155 (tgt := 1159) (by decide) ?_
      exact k_sub [0, 1, 2, 3, 4, 5, 6, 7, 9] rfl (jb_L_law_1159 K G S _ _ _ _ _ _ _ F rec44 hrec44 rec1138 hrec1138 hr)
theorem jb_L_law_1132 {κ : JK} (K : jOk 19 cL_law RL (some .boolean) 9 κ) (G : jB κ) {sb : Nat} {g : Int32 → Int32} (S : jS sb g κ) (X : JX) (v5 : Int32) (v6 : Int32) (v11 : Int32) {r : Int32} (F : jLw r κ) (rec44 : JX → Int32 → Int32 → Option Int32) (hrec44 : ∀ (X : JX) (v5 : Int32) (v6 : Int32), rec44 X v5 v6 = some r → JB LZ 19 κ X 44 [(0, .ref sb), (1, .ref (jad κ (0))), (2, .ref (jad κ (176))), (3, .ref (jad κ (177))), (4, .ref (jad κ (178))), (5, .int v5), (6, .int v6)] []) (hr : b_L_law_1132 g rec44 X v5 v6 v11 = some r) : JB LZ 19 κ X 1132 [(0, .ref sb), (1, .ref (jad κ (0))), (2, .ref (jad κ (176))), (3, .ref (jad κ (177))), (4, .ref (jad κ (178))), (5, .int v5), (6, .int v6), (11, .int v11)] [] := by
  unfold b_L_law_1132 at hr
  refine k_iconst K dL_law_1132 (v := 0) rfl ?_
  refine k_istore K dL_law_1133 (by decide) ?_
  refine k_iconst K dL_law_1135 (v := 0) rfl ?_
  refine k_istore K dL_law_1136 (by decide) ?_
  exact k_sub [2, 3, 4, 5, 6, 7, 8, 9, 1, 0] rfl (jl_L_law_1138 K G S _ _ _ _ F rec44 hrec44 _ _ hr)
theorem jb_L_law_180 {κ : JK} (K : jOk 19 cL_law RL (some .boolean) 9 κ) (G : jB κ) {sb : Nat} {g : Int32 → Int32} (S : jS sb g κ) (X : JX) (v5 : Int32) (v6 : Int32) (v12 : Int32) (v13 : Int32) (s0 : Int32) {r : Int32} (F : jLw r κ) (rec44 : JX → Int32 → Int32 → Option Int32) (hrec44 : ∀ (X : JX) (v5 : Int32) (v6 : Int32), rec44 X v5 v6 = some r → JB LZ 19 κ X 44 [(0, .ref sb), (1, .ref (jad κ (0))), (2, .ref (jad κ (176))), (3, .ref (jad κ (177))), (4, .ref (jad κ (178))), (5, .int v5), (6, .int v6)] []) (hr : b_L_law_180 g rec44 X v5 v6 v12 v13 s0 = some r) : JB LZ 19 κ X 180 [(0, .ref sb), (1, .ref (jad κ (0))), (2, .ref (jad κ (176))), (3, .ref (jad κ (177))), (4, .ref (jad κ (178))), (5, .int v5), (6, .int v6), (12, .int v12), (13, .int v13)] [.int s0] := by
  unfold b_L_law_180 at hr
  refine k_istore K dL_law_180 (by decide) ?_
  refine k_aload_n K dL_law_182 3 rfl ?_
  refine k_iload K dL_law_183 6 rfl ?_
  refine k_iload K dL_law_185 9 rfl ?_
  refine k_iastoreV K (z := 32) lz176 lt176 (by decide) dL_law_187 hr (fun X115 hr => ?_)
  refine k_aload_n K dL_law_188 4 rfl ?_
  refine k_iload K dL_law_189 6 rfl ?_
  refine k_iload K dL_law_191 8 rfl ?_
  refine k_iastoreV K (z := 32) lz177 lt177 (by decide) dL_law_193 hr (fun X116 hr => ?_)
  refine k_iincV K dL_law_194 (v := 1) 6 rfl rfl (by decide) hr (fun t117 hr => ?_)
  refine k_goto K dL_law_197 (tgt := 1132) (by decide) ?_
  exact k_sub [2, 3, 4, 5, 6, 0, 7, 1] rfl (jb_L_law_1132 K G S _ _ _ _ F rec44 hrec44 hr)
theorem jb_L_law_167 {κ : JK} (K : jOk 19 cL_law RL (some .boolean) 9 κ) (G : jB κ) {sb : Nat} {g : Int32 → Int32} (S : jS sb g κ) (X : JX) (v5 : Int32) (v6 : Int32) (v12 : Int32) (v13 : Int32) (s0 : Int32) (s1 : Int32) (s2 : Int32) {r : Int32} (F : jLw r κ) (rec44 : JX → Int32 → Int32 → Option Int32) (hrec44 : ∀ (X : JX) (v5 : Int32) (v6 : Int32), rec44 X v5 v6 = some r → JB LZ 19 κ X 44 [(0, .ref sb), (1, .ref (jad κ (0))), (2, .ref (jad κ (176))), (3, .ref (jad κ (177))), (4, .ref (jad κ (178))), (5, .int v5), (6, .int v6)] []) (hr : b_L_law_167 g rec44 X v5 v6 v12 v13 s0 s1 s2 = some r) : JB LZ 19 κ X 167 [(0, .ref sb), (1, .ref (jad κ (0))), (2, .ref (jad κ (176))), (3, .ref (jad κ (177))), (4, .ref (jad κ (178))), (5, .int v5), (6, .int v6), (12, .int v12), (13, .int v13)] [.int s0, .int s1, .int s2, .ref (jad κ (0))] := by
  unfold b_L_law_167 at hr
  refine k_vT3 K G hr (fun v h => c_X10_make X s2 s1 s0 h) ml_L_32 ⟨_, rfl, rfl⟩ rfl (by decide) (by decide) (Nat.le_of_ble_eq_true rfl) dL_law_167 (fun t107 X109 hr => ?_)
  refine k_iload K dL_law_170 5 rfl ?_
  refine k_icmp_ne K dL_law_172 (tgt := 179) (by decide) hr (fun hr => ?_) (fun hr => ?_)
  · refine k_iconst K dL_law_179 (v := 0) rfl ?_
    exact k_sub [0, 1, 2, 3, 4, 5, 6, 7, 8] rfl (jb_L_law_180 K G S _ _ _ _ _ _ F rec44 hrec44 hr)
  · refine k_iconst K dL_law_175 (v := 1) rfl ?_
    refine k_goto K dL_law_176 (tgt := 180) (by decide) ?_
    exact k_sub [0, 1, 2, 3, 4, 5, 6, 7, 8] rfl (jb_L_law_180 K G S _ _ _ _ _ _ F rec44 hrec44 hr)
theorem jb_L_law_145 {κ : JK} (K : jOk 19 cL_law RL (some .boolean) 9 κ) (G : jB κ) {sb : Nat} {g : Int32 → Int32} (S : jS sb g κ) (X : JX) (v5 : Int32) (v6 : Int32) (v12 : Int32) (s0 : Int32) {r : Int32} (F : jLw r κ) (rec44 : JX → Int32 → Int32 → Option Int32) (hrec44 : ∀ (X : JX) (v5 : Int32) (v6 : Int32), rec44 X v5 v6 = some r → JB LZ 19 κ X 44 [(0, .ref sb), (1, .ref (jad κ (0))), (2, .ref (jad κ (176))), (3, .ref (jad κ (177))), (4, .ref (jad κ (178))), (5, .int v5), (6, .int v6)] []) (hr : b_L_law_145 g rec44 X v5 v6 v12 s0 = some r) : JB LZ 19 κ X 145 [(0, .ref sb), (1, .ref (jad κ (0))), (2, .ref (jad κ (176))), (3, .ref (jad κ (177))), (4, .ref (jad κ (178))), (5, .int v5), (6, .int v6), (12, .int v12)] [.int s0] := by
  unfold b_L_law_145 at hr
  refine k_istore K dL_law_145 (by decide) ?_
  refine k_aload_n K dL_law_147 2 rfl ?_
  refine k_iload K dL_law_148 8 rfl ?_
  refine k_bipush K dL_law_150 (v := 97) rfl ?_
  refine k_iload K dL_law_152 6 rfl ?_
  refine k_iadd K dL_law_154 ?_
  refine k_i2c K dL_law_155 ?_
  refine k_iload K dL_law_156 0 rfl ?_
  refine k_iconst K dL_law_158 (v := 1) rfl ?_
  refine k_icmp_ne K dL_law_159 (tgt := 166) (by decide) hr (fun hr => ?_) (fun hr => ?_)
  · refine k_iconst K dL_law_166 (v := 0) rfl ?_
    exact k_sub [1, 2, 3, 4, 5, 6, 7, 8, 0] rfl (jb_L_law_167 K G S _ _ _ _ _ _ _ _ F rec44 hrec44 hr)
  · refine k_iconst K dL_law_162 (v := 1) rfl ?_
    refine k_goto K dL_law_163 (tgt := 167) (by decide) ?_
    exact k_sub [1, 2, 3, 4, 5, 6, 7, 8, 0] rfl (jb_L_law_167 K G S _ _ _ _ _ _ _ _ F rec44 hrec44 hr)
theorem jb_L_law_120 {κ : JK} (K : jOk 19 cL_law RL (some .boolean) 9 κ) (G : jB κ) {sb : Nat} {g : Int32 → Int32} (S : jS sb g κ) (X : JX) (v5 : Int32) (v6 : Int32) (v8 : Int32) (v11 : Int32) (s0 : Int32) {r : Int32} (F : jLw r κ) (rec44 : JX → Int32 → Int32 → Option Int32) (hrec44 : ∀ (X : JX) (v5 : Int32) (v6 : Int32), rec44 X v5 v6 = some r → JB LZ 19 κ X 44 [(0, .ref sb), (1, .ref (jad κ (0))), (2, .ref (jad κ (176))), (3, .ref (jad κ (177))), (4, .ref (jad κ (178))), (5, .int v5), (6, .int v6)] []) (hr : b_L_law_120 g rec44 X v5 v6 v8 v11 s0 = some r) : JB LZ 19 κ X 120 [(0, .ref sb), (1, .ref (jad κ (0))), (2, .ref (jad κ (176))), (3, .ref (jad κ (177))), (4, .ref (jad κ (178))), (5, .int v5), (6, .int v6), (8, .int v8), (11, .int v11)] [.int s0] := by
  unfold b_L_law_120 at hr
  refine k_istore K dL_law_120 (by decide) ?_
  refine k_iload K dL_law_122 6 rfl ?_
  refine k_bipush K dL_law_124 (v := 24) rfl ?_
  refine k_icmp_ge K dL_law_126 (tgt := 197) (by decide) hr (fun hr => ?_) (fun hr => ?_)
  · refine k_goto K dL_law_197 (tgt := 1132) (by decide) ?_
    exact k_sub [1, 2, 3, 4, 5, 6, 7, 9] rfl (jb_L_law_1132 K G S _ _ _ _ F rec44 hrec44 hr)
  · refine k_iload K dL_law_129 8 rfl ?_
    refine k_iconst K dL_law_131 (v := 5) rfl ?_
    refine k_ishr K dL_law_132 ?_
    refine k_iconst K dL_law_133 (v := 3) rfl ?_
    refine k_sI2 K hr (fun v h => c_L_low X (v8 >>> ((5) &&& 31)) (3) h) ms_L_28 rfl (by decide) (by decide) (Nat.le_of_ble_eq_true rfl) dL_law_134 (fun t71 hr => ?_)
    refine k_if_ne K dL_law_137 (tgt := 144) (by decide) hr (fun hr => ?_) (fun hr => ?_)
    · refine k_iconst K dL_law_144 (v := 2) rfl ?_
      exact k_sub [1, 2, 3, 4, 5, 6, 7, 0] rfl (jb_L_law_145 K G S _ _ _ _ _ F rec44 hrec44 hr)
    · refine k_iconst K dL_law_140 (v := 1) rfl ?_
      refine k_goto K dL_law_141 (tgt := 145) (by decide) ?_
      exact k_sub [1, 2, 3, 4, 5, 6, 7, 0] rfl (jb_L_law_145 K G S _ _ _ _ _ F rec44 hrec44 hr)
theorem jb_L_law_106 {κ : JK} (K : jOk 19 cL_law RL (some .boolean) 9 κ) (G : jB κ) {sb : Nat} {g : Int32 → Int32} (S : jS sb g κ) (X : JX) (v5 : Int32) (v6 : Int32) (v8 : Int32) (v10 : Int32) (v11 : Int32) {r : Int32} (F : jLw r κ) (rec44 : JX → Int32 → Int32 → Option Int32) (hrec44 : ∀ (X : JX) (v5 : Int32) (v6 : Int32), rec44 X v5 v6 = some r → JB LZ 19 κ X 44 [(0, .ref sb), (1, .ref (jad κ (0))), (2, .ref (jad κ (176))), (3, .ref (jad κ (177))), (4, .ref (jad κ (178))), (5, .int v5), (6, .int v6)] []) (hr : b_L_law_106 g rec44 X v5 v6 v8 v10 v11 = some r) : JB LZ 19 κ X 106 [(0, .ref sb), (1, .ref (jad κ (0))), (2, .ref (jad κ (176))), (3, .ref (jad κ (177))), (4, .ref (jad κ (178))), (5, .int v5), (6, .int v6), (8, .int v8), (10, .int v10), (11, .int v11)] [] := by
  unfold b_L_law_106 at hr
  refine k_aload_n K dL_law_106 2 rfl ?_
  refine k_iload K dL_law_107 8 rfl ?_
  refine k_iaload K (z := 32) lz176 lt176 dL_law_109 hr (fun hr => ?_)
  refine k_iconst K dL_law_110 (v := 1) rfl ?_
  refine k_icmp_ne K dL_law_111 (tgt := 119) (by decide) hr (fun hr => ?_) (fun hr => ?_)
  · refine k_iconst K dL_law_119 (v := 0) rfl ?_
    exact k_sub [0, 1, 2, 3, 4, 5, 6, 7, 9] rfl (jb_L_law_120 K G S _ _ _ _ _ _ F rec44 hrec44 hr)
  · refine k_iload K dL_law_114 8 rfl ?_
    refine k_goto K dL_law_116 (tgt := 120) (by decide) ?_
    exact k_sub [0, 1, 2, 3, 4, 5, 6, 7, 9] rfl (jb_L_law_120 K G S _ _ _ _ _ _ F rec44 hrec44 hr)
theorem jb_L_law_1120 {κ : JK} (K : jOk 19 cL_law RL (some .boolean) 9 κ) (G : jB κ) {sb : Nat} {g : Int32 → Int32} (S : jS sb g κ) (X : JX) (v5 : Int32) (v6 : Int32) (v12 : Int32) (v13 : Int32) (v14 : Int32) (v15 : Int32) (v17 : Int32) (v18 : Int32) (s0 : Int32) {r : Int32} (F : jLw r κ) (rec44 : JX → Int32 → Int32 → Option Int32) (hrec44 : ∀ (X : JX) (v5 : Int32) (v6 : Int32), rec44 X v5 v6 = some r → JB LZ 19 κ X 44 [(0, .ref sb), (1, .ref (jad κ (0))), (2, .ref (jad κ (176))), (3, .ref (jad κ (177))), (4, .ref (jad κ (178))), (5, .int v5), (6, .int v6)] []) (rec1050 : JX → Int32 → Int32 → Int32 → Option Int32) (hrec1050 : ∀ (X : JX) (v11 : Int32) (v16 : Int32) (v17 : Int32), rec1050 X v11 v16 v17 = some r → JB LZ 19 κ X 1050 [(0, .ref sb), (1, .ref (jad κ (0))), (2, .ref (jad κ (176))), (3, .ref (jad κ (177))), (4, .ref (jad κ (178))), (5, .int v5), (6, .int v6), (11, .int v11), (12, .int v12), (13, .int v13), (14, .int v14), (15, .int v15), (16, .int v16), (17, .int v17)] []) (hr : b_L_law_1120 g rec44 rec1050 X v5 v6 v12 v13 v14 v15 v17 v18 s0 = some r) : JB LZ 19 κ X 1120 [(0, .ref sb), (1, .ref (jad κ (0))), (2, .ref (jad κ (176))), (3, .ref (jad κ (177))), (4, .ref (jad κ (178))), (5, .int v5), (6, .int v6), (12, .int v12), (13, .int v13), (14, .int v14), (15, .int v15), (17, .int v17), (18, .int v18)] [.int s0] := by
  unfold b_L_law_1120 at hr
  refine k_istore K dL_law_1120 (by decide) ?_
  refine k_iload K dL_law_1122 13 rfl ?_
  refine k_istore K dL_law_1124 (by decide) ?_
  refine k_iincV K dL_law_1126 (v := 1) 13 rfl rfl (by decide) hr (fun t118 hr => ?_)
  refine k_goto K dL_law_1129 (tgt := 1050) (by decide) ?_
  exact k_sub [3, 4, 5, 6, 7, 8, 9, 2, 10, 11, 12, 13, 1, 0] rfl (hrec1050 _ _ _ _ hr)
theorem jl_L_law_1050 {κ : JK} (K : jOk 19 cL_law RL (some .boolean) 9 κ) (G : jB κ) {sb : Nat} {g : Int32 → Int32} (S : jS sb g κ) (v5 : Int32) (v6 : Int32) (v12 : Int32) (v13 : Int32) (v14 : Int32) (v15 : Int32) {r : Int32} (F : jLw r κ) (rec44 : JX → Int32 → Int32 → Option Int32) (hrec44 : ∀ (X : JX) (v5 : Int32) (v6 : Int32), rec44 X v5 v6 = some r → JB LZ 19 κ X 44 [(0, .ref sb), (1, .ref (jad κ (0))), (2, .ref (jad κ (176))), (3, .ref (jad κ (177))), (4, .ref (jad κ (178))), (5, .int v5), (6, .int v6)] []) : ∀ (X : JX) (v11 : Int32) (v16 : Int32) (v17 : Int32), l_L_law_1050 g rec44 v5 v6 v12 v13 v14 v15 X v11 v16 v17 = some r → JB LZ 19 κ X 1050 [(0, .ref sb), (1, .ref (jad κ (0))), (2, .ref (jad κ (176))), (3, .ref (jad κ (177))), (4, .ref (jad κ (178))), (5, .int v5), (6, .int v6), (11, .int v11), (12, .int v12), (13, .int v13), (14, .int v14), (15, .int v15), (16, .int v16), (17, .int v17)] [] := by
  refine j_loop4 (P := fun X v11 v16 v17 => JB LZ 19 κ X 1050 [(0, .ref sb), (1, .ref (jad κ (0))), (2, .ref (jad κ (176))), (3, .ref (jad κ (177))), (4, .ref (jad κ (178))), (5, .int v5), (6, .int v6), (11, .int v11), (12, .int v12), (13, .int v13), (14, .int v14), (15, .int v15), (16, .int v16), (17, .int v17)] []) (fun rec1050 hrec1050 X v11 v16 v17 hr => ?_) 1000
  unfold lb_L_law_1050 at hr
  refine k_iload K dL_law_1050 13 rfl ?_
  refine k_iload K dL_law_1052 11 rfl ?_
  refine k_icmp_ge K dL_law_1054 (tgt := 1132) (by decide) hr (fun hr => ?_) (fun hr => ?_)
  · exact k_sub [0, 1, 2, 3, 4, 5, 6, 7] rfl (jb_L_law_1132 K G S _ _ _ _ F rec44 hrec44 hr)
  · refine k_iload K dL_law_1057 7 rfl ?_
    refine k_if_eq K dL_law_1059 (tgt := 1132) (by decide) hr (fun hr => ?_) (fun hr => ?_)
    · exact k_sub [0, 1, 2, 3, 4, 5, 6, 7] rfl (jb_L_law_1132 K G S _ _ _ _ F rec44 hrec44 hr)
    · refine k_aload_n K dL_law_1062 1 rfl ?_
      refine k_iload K dL_law_1063 8 rfl ?_
      refine k_iload K dL_law_1065 9 rfl ?_
      refine k_iload K dL_law_1067 10 rfl ?_
      refine k_iload K dL_law_1069 13 rfl ?_
      refine k_vT4 K G hr (fun v h => c_X10_answer X v12 v13 v14 v17 h) ml_L_94 ⟨_, rfl, rfl⟩ rfl (by decide) (by decide) (Nat.le_of_ble_eq_true rfl) dL_law_1071 (fun t110 X112 hr => ?_)
      refine k_istore K dL_law_1074 (by decide) ?_
      refine k_iload K dL_law_1076 0 rfl ?_
      refine k_bipush K dL_law_1078 (v := 100) rfl ?_
      refine k_idiv K dL_law_1080 (by decide) ?_
      refine k_iload K dL_law_1081 13 rfl ?_
      refine k_bipush K dL_law_1083 (v := 100) rfl ?_
      refine k_idiv K dL_law_1085 (by decide) ?_
      refine k_icmp_lt K dL_law_1086 (tgt := 1115) (by decide) hr (fun hr => ?_) (fun hr => ?_)
      · refine k_iconst K dL_law_1115 (v := 1) rfl ?_
        refine k_goto K dL_law_1116 (tgt := 1120) (by decide) ?_
        exact k_sub [1, 2, 3, 4, 5, 6, 7, 9, 10, 11, 12, 14, 0] rfl (jb_L_law_1120 K G S _ _ _ _ _ _ _ _ _ _ F rec44 hrec44 rec1050 hrec1050 hr)
      · refine k_iload K dL_law_1089 0 rfl ?_
        refine k_bipush K dL_law_1091 (v := 100) rfl ?_
        refine k_idiv K dL_law_1093 (by decide) ?_
        refine k_iload K dL_law_1094 13 rfl ?_
        refine k_bipush K dL_law_1096 (v := 100) rfl ?_
        refine k_idiv K dL_law_1098 (by decide) ?_
        refine k_icmp_ne K dL_law_1099 (tgt := 1119) (by decide) hr (fun hr => ?_) (fun hr => ?_)
        · refine k_iconst K dL_law_1119 (v := 0) rfl ?_
          exact k_sub [1, 2, 3, 4, 5, 6, 7, 9, 10, 11, 12, 14, 0] rfl (jb_L_law_1120 K G S _ _ _ _ _ _ _ _ _ _ F rec44 hrec44 rec1050 hrec1050 hr)
        · refine k_iload K dL_law_1102 0 rfl ?_
          refine k_bipush K dL_law_1104 (v := 100) rfl ?_
          refine k_irem K dL_law_1106 (by decide) ?_
          refine k_iload K dL_law_1107 13 rfl ?_
          refine k_bipush K dL_law_1109 (v := 100) rfl ?_
          refine k_irem K dL_law_1111 (by decide) ?_
          refine k_icmp_le K dL_law_1112 (tgt := 1119) (by decide) hr (fun hr => ?_) (fun hr => ?_)
          · refine k_iconst K dL_law_1119 (v := 0) rfl ?_
            exact k_sub [1, 2, 3, 4, 5, 6, 7, 9, 10, 11, 12, 14, 0] rfl (jb_L_law_1120 K G S _ _ _ _ _ _ _ _ _ _ F rec44 hrec44 rec1050 hrec1050 hr)
          · refine k_iconst K dL_law_1115 (v := 1) rfl ?_
            refine k_goto K dL_law_1116 (tgt := 1120) (by decide) ?_
            exact k_sub [1, 2, 3, 4, 5, 6, 7, 9, 10, 11, 12, 14, 0] rfl (jb_L_law_1120 K G S _ _ _ _ _ _ _ _ _ _ F rec44 hrec44 rec1050 hrec1050 hr)
theorem jb_L_law_1028 {κ : JK} (K : jOk 19 cL_law RL (some .boolean) 9 κ) (G : jB κ) {sb : Nat} {g : Int32 → Int32} (S : jS sb g κ) (X : JX) (v5 : Int32) (v6 : Int32) (v12 : Int32) (v13 : Int32) (v14 : Int32) (s0 : Int32) {r : Int32} (F : jLw r κ) (rec44 : JX → Int32 → Int32 → Option Int32) (hrec44 : ∀ (X : JX) (v5 : Int32) (v6 : Int32), rec44 X v5 v6 = some r → JB LZ 19 κ X 44 [(0, .ref sb), (1, .ref (jad κ (0))), (2, .ref (jad κ (176))), (3, .ref (jad κ (177))), (4, .ref (jad κ (178))), (5, .int v5), (6, .int v6)] []) (hr : b_L_law_1028 g rec44 X v5 v6 v12 v13 v14 s0 = some r) : JB LZ 19 κ X 1028 [(0, .ref sb), (1, .ref (jad κ (0))), (2, .ref (jad κ (176))), (3, .ref (jad κ (177))), (4, .ref (jad κ (178))), (5, .int v5), (6, .int v6), (12, .int v12), (13, .int v13), (14, .int v14)] [.int s0] := by
  unfold b_L_law_1028 at hr
  refine k_istore K dL_law_1028 (by decide) ?_
  refine k_aload_n K dL_law_1030 2 rfl ?_
  refine k_iload K dL_law_1031 8 rfl ?_
  refine k_iload K dL_law_1033 9 rfl ?_
  refine k_iload K dL_law_1035 10 rfl ?_
  refine k_iconst K dL_law_1037 (v := -1) rfl ?_
  refine k_vT4 K G hr (fun v h => c_X10_answers X v12 v13 v14 (-1) h) ml_L_83 ⟨_, rfl, rfl⟩ rfl (by decide) (by decide) (Nat.le_of_ble_eq_true rfl) dL_law_1038 (fun t90 X92 hr => ?_)
  refine k_istore K dL_law_1041 (by decide) ?_
  refine k_ldc K (v := 100000) kc_L_93 dL_law_1043 ?_
  refine k_istore K dL_law_1045 (by decide) ?_
  refine k_iconst K dL_law_1047 (v := 0) rfl ?_
  refine k_istore K dL_law_1048 (by decide) ?_
  exact k_sub [4, 5, 6, 7, 8, 9, 10, 3, 11, 12, 13, 2, 1, 0] rfl (jl_L_law_1050 K G S _ _ _ _ _ _ F rec44 hrec44 _ _ _ _ hr)
theorem jb_L_law_984 {κ : JK} (K : jOk 19 cL_law RL (some .boolean) 9 κ) (G : jB κ) {sb : Nat} {g : Int32 → Int32} (S : jS sb g κ) (X : JX) (v5 : Int32) (v6 : Int32) (v12 : Int32) (v13 : Int32) (v14 : Int32) (s0 : Int32) {r : Int32} (F : jLw r κ) (rec44 : JX → Int32 → Int32 → Option Int32) (hrec44 : ∀ (X : JX) (v5 : Int32) (v6 : Int32), rec44 X v5 v6 = some r → JB LZ 19 κ X 44 [(0, .ref sb), (1, .ref (jad κ (0))), (2, .ref (jad κ (176))), (3, .ref (jad κ (177))), (4, .ref (jad κ (178))), (5, .int v5), (6, .int v6)] []) (hr : b_L_law_984 g rec44 X v5 v6 v12 v13 v14 s0 = some r) : JB LZ 19 κ X 984 [(0, .ref sb), (1, .ref (jad κ (0))), (2, .ref (jad κ (176))), (3, .ref (jad κ (177))), (4, .ref (jad κ (178))), (5, .int v5), (6, .int v6), (12, .int v12), (13, .int v13), (14, .int v14)] [.int s0] := by
  unfold b_L_law_984 at hr
  refine k_istore K dL_law_984 (by decide) ?_
  refine k_iload K dL_law_986 0 rfl ?_
  refine k_if_eq K dL_law_988 (tgt := 1027) (by decide) hr (fun hr => ?_) (fun hr => ?_)
  · refine k_iconst K dL_law_1027 (v := 0) rfl ?_
    exact k_sub [1, 2, 3, 4, 5, 6, 7, 8, 9, 10] rfl (jb_L_law_1028 K G S _ _ _ _ _ _ _ F rec44 hrec44 hr)
  · refine k_aload_n K dL_law_991 2 rfl ?_
    refine k_iload K dL_law_992 8 rfl ?_
    refine k_iload K dL_law_994 9 rfl ?_
    refine k_iload K dL_law_996 10 rfl ?_
    refine k_iconst K dL_law_998 (v := 1) rfl ?_
    refine k_vT4 K G hr (fun v h => c_X10_answers X v12 v13 v14 (1) h) ml_L_83 ⟨_, rfl, rfl⟩ rfl (by decide) (by decide) (Nat.le_of_ble_eq_true rfl) dL_law_999 (fun t72 X74 hr => ?_)
    refine k_aload_n K dL_law_1002 2 rfl ?_
    refine k_iload K dL_law_1003 8 rfl ?_
    refine k_iload K dL_law_1005 9 rfl ?_
    refine k_iload K dL_law_1007 10 rfl ?_
    refine k_iconst K dL_law_1009 (v := 1) rfl ?_
    refine k_vT4 K G hr (fun v h => c_X10_answersAnew X74 v12 v13 v14 (1) h) ml_L_87 ⟨_, rfl, rfl⟩ rfl (by decide) (by decide) (Nat.le_of_ble_eq_true rfl) dL_law_1010 (fun t75 X77 hr => ?_)
    refine k_icmp_ne K dL_law_1013 (tgt := 1027) (by decide) hr (fun hr => ?_) (fun hr => ?_)
    · refine k_iconst K dL_law_1027 (v := 0) rfl ?_
      exact k_sub [1, 2, 3, 4, 5, 6, 7, 8, 9, 10] rfl (jb_L_law_1028 K G S _ _ _ _ _ _ _ F rec44 hrec44 hr)
    · refine k_aload_n K dL_law_1016 2 rfl ?_
      refine k_vI0 K hr (fun v h => c_X10_dead X77 h) ml_L_90 ⟨_, rfl, rfl⟩ rfl (by decide) (by decide) (Nat.le_of_ble_eq_true rfl) dL_law_1017 (fun t78 hr => ?_)
      refine k_if_lt K dL_law_1020 (tgt := 1027) (by decide) hr (fun hr => ?_) (fun hr => ?_)
      · refine k_iconst K dL_law_1027 (v := 0) rfl ?_
        exact k_sub [1, 2, 3, 4, 5, 6, 7, 8, 9, 10] rfl (jb_L_law_1028 K G S _ _ _ _ _ _ _ F rec44 hrec44 hr)
      · refine k_iconst K dL_law_1023 (v := 1) rfl ?_
        refine k_goto K dL_law_1024 (tgt := 1028) (by decide) ?_
        exact k_sub [1, 2, 3, 4, 5, 6, 7, 8, 9, 10] rfl (jb_L_law_1028 K G S _ _ _ _ _ _ _ F rec44 hrec44 hr)
theorem jb_L_law_938 {κ : JK} (K : jOk 19 cL_law RL (some .boolean) 9 κ) (G : jB κ) {sb : Nat} {g : Int32 → Int32} (S : jS sb g κ) (X : JX) (v5 : Int32) (v6 : Int32) (v12 : Int32) (v13 : Int32) (s0 : Int32) {r : Int32} (F : jLw r κ) (rec44 : JX → Int32 → Int32 → Option Int32) (hrec44 : ∀ (X : JX) (v5 : Int32) (v6 : Int32), rec44 X v5 v6 = some r → JB LZ 19 κ X 44 [(0, .ref sb), (1, .ref (jad κ (0))), (2, .ref (jad κ (176))), (3, .ref (jad κ (177))), (4, .ref (jad κ (178))), (5, .int v5), (6, .int v6)] []) (hr : b_L_law_938 g rec44 X v5 v6 v12 v13 s0 = some r) : JB LZ 19 κ X 938 [(0, .ref sb), (1, .ref (jad κ (0))), (2, .ref (jad κ (176))), (3, .ref (jad κ (177))), (4, .ref (jad κ (178))), (5, .int v5), (6, .int v6), (12, .int v12), (13, .int v13)] [.int s0] := by
  unfold b_L_law_938 at hr
  refine k_istore K dL_law_938 (by decide) ?_
  refine k_aload_n K dL_law_940 2 rfl ?_
  refine k_callB K G hr (fun v h => c_L_rests (sbu X 12) (Nat.le_of_eq (bud_sbu X)) h) ms_L_76 rfl (by decide) (by decide) (Nat.le_of_ble_eq_true rfl) dL_law_941 (fun t52 X54 hr => ?_)
  refine k_if_eq K dL_law_944 (tgt := 983) (by decide) hr (fun hr => ?_) (fun hr => ?_)
  · refine k_iconst K dL_law_983 (v := 0) rfl ?_
    exact k_sub [1, 2, 3, 4, 5, 6, 7, 8, 9, 0] rfl (jb_L_law_984 K G S _ _ _ _ _ _ _ F rec44 hrec44 hr)
  · refine k_aload_n K dL_law_947 2 rfl ?_
    refine k_vI0 K hr (fun v h => c_X10_stale X54 h) ml_L_80 ⟨_, rfl, rfl⟩ rfl (by decide) (by decide) (Nat.le_of_ble_eq_true rfl) dL_law_948 (fun t55 hr => ?_)
    refine k_if_ne K dL_law_951 (tgt := 983) (by decide) hr (fun hr => ?_) (fun hr => ?_)
    · refine k_iconst K dL_law_983 (v := 0) rfl ?_
      exact k_sub [1, 2, 3, 4, 5, 6, 7, 8, 9, 0] rfl (jb_L_law_984 K G S _ _ _ _ _ _ _ F rec44 hrec44 hr)
    · refine k_aload_n K dL_law_954 2 rfl ?_
      refine k_iload K dL_law_955 8 rfl ?_
      refine k_iload K dL_law_957 9 rfl ?_
      refine k_iload K dL_law_959 0 rfl ?_
      refine k_iconst K dL_law_961 (v := -1) rfl ?_
      refine k_vT4 K G hr (fun v h => c_X10_answers X54 v12 v13 s0 (-1) h) ml_L_83 ⟨_, rfl, rfl⟩ rfl (by decide) (by decide) (Nat.le_of_ble_eq_true rfl) dL_law_962 (fun t56 X58 hr => ?_)
      refine k_aload_n K dL_law_965 2 rfl ?_
      refine k_iload K dL_law_966 8 rfl ?_
      refine k_iload K dL_law_968 9 rfl ?_
      refine k_iload K dL_law_970 0 rfl ?_
      refine k_iconst K dL_law_972 (v := -1) rfl ?_
      refine k_vT4 K G hr (fun v h => c_X10_answersAnew X58 v12 v13 s0 (-1) h) ml_L_87 ⟨_, rfl, rfl⟩ rfl (by decide) (by decide) (Nat.le_of_ble_eq_true rfl) dL_law_973 (fun t59 X61 hr => ?_)
      refine k_icmp_ne K dL_law_976 (tgt := 983) (by decide) hr (fun hr => ?_) (fun hr => ?_)
      · refine k_iconst K dL_law_983 (v := 0) rfl ?_
        exact k_sub [1, 2, 3, 4, 5, 6, 7, 8, 9, 0] rfl (jb_L_law_984 K G S _ _ _ _ _ _ _ F rec44 hrec44 hr)
      · refine k_iconst K dL_law_979 (v := 1) rfl ?_
        refine k_goto K dL_law_980 (tgt := 984) (by decide) ?_
        exact k_sub [1, 2, 3, 4, 5, 6, 7, 8, 9, 0] rfl (jb_L_law_984 K G S _ _ _ _ _ _ _ F rec44 hrec44 hr)
theorem jb_L_law_882 {κ : JK} (K : jOk 19 cL_law RL (some .boolean) 9 κ) (G : jB κ) {sb : Nat} {g : Int32 → Int32} (S : jS sb g κ) (X : JX) (v5 : Int32) (v6 : Int32) (s0 : Int32) {r : Int32} (F : jLw r κ) (rec44 : JX → Int32 → Int32 → Option Int32) (hrec44 : ∀ (X : JX) (v5 : Int32) (v6 : Int32), rec44 X v5 v6 = some r → JB LZ 19 κ X 44 [(0, .ref sb), (1, .ref (jad κ (0))), (2, .ref (jad κ (176))), (3, .ref (jad κ (177))), (4, .ref (jad κ (178))), (5, .int v5), (6, .int v6)] []) (hr : b_L_law_882 g rec44 X v5 v6 s0 = some r) : JB LZ 19 κ X 882 [(0, .ref sb), (1, .ref (jad κ (0))), (2, .ref (jad κ (176))), (3, .ref (jad κ (177))), (4, .ref (jad κ (178))), (5, .int v5), (6, .int v6)] [.int s0] := by
  unfold b_L_law_882 at hr
  refine k_istore K dL_law_882 (by decide) ?_
  refine k_goto K dL_law_884 (tgt := 1132) (by decide) ?_
  exact k_sub [1, 2, 3, 4, 5, 6, 7, 0] rfl (jb_L_law_1132 K G S _ _ _ _ F rec44 hrec44 hr)
theorem jb_L_law_825 {κ : JK} (K : jOk 19 cL_law RL (some .boolean) 9 κ) (G : jB κ) {sb : Nat} {g : Int32 → Int32} (S : jS sb g κ) (X : JX) (v5 : Int32) (v6 : Int32) (s0 : Int32) {r : Int32} (F : jLw r κ) (rec44 : JX → Int32 → Int32 → Option Int32) (hrec44 : ∀ (X : JX) (v5 : Int32) (v6 : Int32), rec44 X v5 v6 = some r → JB LZ 19 κ X 44 [(0, .ref sb), (1, .ref (jad κ (0))), (2, .ref (jad κ (176))), (3, .ref (jad κ (177))), (4, .ref (jad κ (178))), (5, .int v5), (6, .int v6)] []) (hr : b_L_law_825 g rec44 X v5 v6 s0 = some r) : JB LZ 19 κ X 825 [(0, .ref sb), (1, .ref (jad κ (0))), (2, .ref (jad κ (176))), (3, .ref (jad κ (177))), (4, .ref (jad κ (178))), (5, .int v5), (6, .int v6)] [.int s0] := by
  unfold b_L_law_825 at hr
  refine k_istore K dL_law_825 (by decide) ?_
  refine k_goto K dL_law_827 (tgt := 1132) (by decide) ?_
  exact k_sub [1, 2, 3, 4, 5, 6, 7, 0] rfl (jb_L_law_1132 K G S _ _ _ _ F rec44 hrec44 hr)
theorem jb_L_law_776 {κ : JK} (K : jOk 19 cL_law RL (some .boolean) 9 κ) (G : jB κ) {sb : Nat} {g : Int32 → Int32} (S : jS sb g κ) (X : JX) (v5 : Int32) (v6 : Int32) (v11 : Int32) (s0 : Int32) (s1 : Int32) {r : Int32} (F : jLw r κ) (rec44 : JX → Int32 → Int32 → Option Int32) (hrec44 : ∀ (X : JX) (v5 : Int32) (v6 : Int32), rec44 X v5 v6 = some r → JB LZ 19 κ X 44 [(0, .ref sb), (1, .ref (jad κ (0))), (2, .ref (jad κ (176))), (3, .ref (jad κ (177))), (4, .ref (jad κ (178))), (5, .int v5), (6, .int v6)] []) (hr : b_L_law_776 g rec44 X v5 v6 v11 s0 s1 = some r) : JB LZ 19 κ X 776 [(0, .ref sb), (1, .ref (jad κ (0))), (2, .ref (jad κ (176))), (3, .ref (jad κ (177))), (4, .ref (jad κ (178))), (5, .int v5), (6, .int v6), (11, .int v11)] [.int s0, .int s1, .ref (jad κ (0))] := by
  unfold b_L_law_776 at hr
  refine k_vT2 K G hr (fun v h => c_X10_people X s1 s0 h) ml_L_59 ⟨_, rfl, rfl⟩ rfl (by decide) (by decide) (Nat.le_of_ble_eq_true rfl) dL_law_776 (fun t93 X95 hr => ?_)
  refine k_pop K dL_law_779 rfl ?_
  refine k_goto K dL_law_780 (tgt := 1132) (by decide) ?_
  exact k_sub [0, 1, 2, 3, 4, 5, 6, 7] rfl (jb_L_law_1132 K G S _ _ _ _ F rec44 hrec44 hr)
theorem jb_L_law_757 {κ : JK} (K : jOk 19 cL_law RL (some .boolean) 9 κ) (G : jB κ) {sb : Nat} {g : Int32 → Int32} (S : jS sb g κ) (X : JX) (v5 : Int32) (v6 : Int32) (v8 : Int32) (v11 : Int32) (s0 : Int32) {r : Int32} (F : jLw r κ) (rec44 : JX → Int32 → Int32 → Option Int32) (hrec44 : ∀ (X : JX) (v5 : Int32) (v6 : Int32), rec44 X v5 v6 = some r → JB LZ 19 κ X 44 [(0, .ref sb), (1, .ref (jad κ (0))), (2, .ref (jad κ (176))), (3, .ref (jad κ (177))), (4, .ref (jad κ (178))), (5, .int v5), (6, .int v6)] []) (hr : b_L_law_757 g rec44 X v5 v6 v8 v11 s0 = some r) : JB LZ 19 κ X 757 [(0, .ref sb), (1, .ref (jad κ (0))), (2, .ref (jad κ (176))), (3, .ref (jad κ (177))), (4, .ref (jad κ (178))), (5, .int v5), (6, .int v6), (8, .int v8), (11, .int v11)] [.int s0, .ref (jad κ (0))] := by
  unfold b_L_law_757 at hr
  refine k_iload K dL_law_757 7 rfl ?_
  refine k_bipush K dL_law_759 (v := 7) rfl ?_
  refine k_ishr K dL_law_761 ?_
  refine k_iconst K dL_law_762 (v := 3) rfl ?_
  refine k_sI2 K hr (fun v h => c_L_low X (v8 >>> ((7) &&& 31)) (3) h) ms_L_28 rfl (by decide) (by decide) (Nat.le_of_ble_eq_true rfl) dL_law_763 (fun t79 hr => ?_)
  refine k_if_ne K dL_law_766 (tgt := 774) (by decide) hr (fun hr => ?_) (fun hr => ?_)
  · refine k_bipush K dL_law_774 (v := 15) rfl ?_
    exact k_sub [0, 1, 2, 3, 4, 5, 6, 8] rfl (jb_L_law_776 K G S _ _ _ _ _ _ F rec44 hrec44 hr)
  · refine k_bipush K dL_law_769 (v := 7) rfl ?_
    refine k_goto K dL_law_771 (tgt := 776) (by decide) ?_
    exact k_sub [0, 1, 2, 3, 4, 5, 6, 8] rfl (jb_L_law_776 K G S _ _ _ _ _ _ F rec44 hrec44 hr)
theorem jb_L_law_743 {κ : JK} (K : jOk 19 cL_law RL (some .boolean) 9 κ) (G : jB κ) {sb : Nat} {g : Int32 → Int32} (S : jS sb g κ) (X : JX) (v5 : Int32) (v6 : Int32) (v8 : Int32) (v10 : Int32) (v11 : Int32) {r : Int32} (F : jLw r κ) (rec44 : JX → Int32 → Int32 → Option Int32) (hrec44 : ∀ (X : JX) (v5 : Int32) (v6 : Int32), rec44 X v5 v6 = some r → JB LZ 19 κ X 44 [(0, .ref sb), (1, .ref (jad κ (0))), (2, .ref (jad κ (176))), (3, .ref (jad κ (177))), (4, .ref (jad κ (178))), (5, .int v5), (6, .int v6)] []) (hr : b_L_law_743 g rec44 X v5 v6 v8 v10 v11 = some r) : JB LZ 19 κ X 743 [(0, .ref sb), (1, .ref (jad κ (0))), (2, .ref (jad κ (176))), (3, .ref (jad κ (177))), (4, .ref (jad κ (178))), (5, .int v5), (6, .int v6), (8, .int v8), (10, .int v10), (11, .int v11)] [] := by
  unfold b_L_law_743 at hr
  refine k_aload_n K dL_law_743 1 rfl ?_
  refine k_aload_n K dL_law_744 2 rfl ?_
  refine k_iload K dL_law_745 8 rfl ?_
  refine k_iaload K (z := 32) lz176 lt176 dL_law_747 hr (fun hr => ?_)
  refine k_if_le K dL_law_748 (tgt := 756) (by decide) hr (fun hr => ?_) (fun hr => ?_)
  · refine k_iconst K dL_law_756 (v := 0) rfl ?_
    exact k_sub [0, 1, 2, 3, 4, 5, 6, 7, 9] rfl (jb_L_law_757 K G S _ _ _ _ _ _ F rec44 hrec44 hr)
  · refine k_iload K dL_law_751 8 rfl ?_
    refine k_goto K dL_law_753 (tgt := 757) (by decide) ?_
    exact k_sub [0, 1, 2, 3, 4, 5, 6, 7, 9] rfl (jb_L_law_757 K G S _ _ _ _ _ _ F rec44 hrec44 hr)
theorem jb_L_law_731 {κ : JK} (K : jOk 19 cL_law RL (some .boolean) 9 κ) (G : jB κ) {sb : Nat} {g : Int32 → Int32} (S : jS sb g κ) (X : JX) (v5 : Int32) (v6 : Int32) (v8 : Int32) (v10 : Int32) (v11 : Int32) (s0 : Int32) (s1 : Int32) {r : Int32} (F : jLw r κ) (rec44 : JX → Int32 → Int32 → Option Int32) (hrec44 : ∀ (X : JX) (v5 : Int32) (v6 : Int32), rec44 X v5 v6 = some r → JB LZ 19 κ X 44 [(0, .ref sb), (1, .ref (jad κ (0))), (2, .ref (jad κ (176))), (3, .ref (jad κ (177))), (4, .ref (jad κ (178))), (5, .int v5), (6, .int v6)] []) (hr : b_L_law_731 g rec44 X v5 v6 v8 v10 v11 s0 s1 = some r) : JB LZ 19 κ X 731 [(0, .ref sb), (1, .ref (jad κ (0))), (2, .ref (jad κ (176))), (3, .ref (jad κ (177))), (4, .ref (jad κ (178))), (5, .int v5), (6, .int v6), (8, .int v8), (10, .int v10), (11, .int v11)] [.int s0, .int s1, .ref (jad κ (0))] := by
  unfold b_L_law_731 at hr
  refine k_vT2 K G hr (fun v h => c_X10_lock X s1 s0 h) ml_L_55 ⟨_, rfl, rfl⟩ rfl (by decide) (by decide) (Nat.le_of_ble_eq_true rfl) dL_law_731 (fun t62 X64 hr => ?_)
  refine k_pop K dL_law_734 rfl ?_
  refine k_aload_n K dL_law_735 1 rfl ?_
  refine k_iload K dL_law_736 8 rfl ?_
  refine k_iconst K dL_law_738 (v := 0) rfl ?_
  refine k_vT2 K G hr (fun v h => c_X10_lock X64 v10 (0) h) ml_L_55 ⟨_, rfl, rfl⟩ rfl (by decide) (by decide) (Nat.le_of_ble_eq_true rfl) dL_law_739 (fun t65 X67 hr => ?_)
  refine k_pop K dL_law_742 rfl ?_
  exact k_sub [0, 1, 2, 3, 4, 5, 6, 7, 8, 9] rfl (jb_L_law_743 K G S _ _ _ _ _ _ F rec44 hrec44 hr)
theorem jb_L_law_692 {κ : JK} (K : jOk 19 cL_law RL (some .boolean) 9 κ) (G : jB κ) {sb : Nat} {g : Int32 → Int32} (S : jS sb g κ) (X : JX) (v5 : Int32) (v6 : Int32) (s0 : Int32) {r : Int32} (F : jLw r κ) (rec44 : JX → Int32 → Int32 → Option Int32) (hrec44 : ∀ (X : JX) (v5 : Int32) (v6 : Int32), rec44 X v5 v6 = some r → JB LZ 19 κ X 44 [(0, .ref sb), (1, .ref (jad κ (0))), (2, .ref (jad κ (176))), (3, .ref (jad κ (177))), (4, .ref (jad κ (178))), (5, .int v5), (6, .int v6)] []) (hr : b_L_law_692 g rec44 X v5 v6 s0 = some r) : JB LZ 19 κ X 692 [(0, .ref sb), (1, .ref (jad κ (0))), (2, .ref (jad κ (176))), (3, .ref (jad κ (177))), (4, .ref (jad κ (178))), (5, .int v5), (6, .int v6)] [.int s0] := by
  unfold b_L_law_692 at hr
  refine k_istore K dL_law_692 (by decide) ?_
  refine k_goto K dL_law_694 (tgt := 1132) (by decide) ?_
  exact k_sub [1, 2, 3, 4, 5, 6, 7, 0] rfl (jb_L_law_1132 K G S _ _ _ _ F rec44 hrec44 hr)
theorem jb_L_law_661 {κ : JK} (K : jOk 19 cL_law RL (some .boolean) 9 κ) (G : jB κ) {sb : Nat} {g : Int32 → Int32} (S : jS sb g κ) (X : JX) (v5 : Int32) (v6 : Int32) (v12 : Int32) (s0 : Int32) {r : Int32} (F : jLw r κ) (rec44 : JX → Int32 → Int32 → Option Int32) (hrec44 : ∀ (X : JX) (v5 : Int32) (v6 : Int32), rec44 X v5 v6 = some r → JB LZ 19 κ X 44 [(0, .ref sb), (1, .ref (jad κ (0))), (2, .ref (jad κ (176))), (3, .ref (jad κ (177))), (4, .ref (jad κ (178))), (5, .int v5), (6, .int v6)] []) (hr : b_L_law_661 g rec44 X v5 v6 v12 s0 = some r) : JB LZ 19 κ X 661 [(0, .ref sb), (1, .ref (jad κ (0))), (2, .ref (jad κ (176))), (3, .ref (jad κ (177))), (4, .ref (jad κ (178))), (5, .int v5), (6, .int v6), (12, .int v12)] [.int s0] := by
  unfold b_L_law_661 at hr
  refine k_istore K dL_law_661 (by decide) ?_
  refine k_iload K dL_law_663 0 rfl ?_
  refine k_iconst K dL_law_665 (v := -1) rfl ?_
  refine k_icmp_eq K dL_law_666 (tgt := 687) (by decide) hr (fun hr => ?_) (fun hr => ?_)
  · refine k_iconst K dL_law_687 (v := 1) rfl ?_
    refine k_goto K dL_law_688 (tgt := 692) (by decide) ?_
    exact k_sub [1, 2, 3, 4, 5, 6, 7] rfl (jb_L_law_692 K G S _ _ _ _ F rec44 hrec44 hr)
  · refine k_iload K dL_law_669 0 rfl ?_
    refine k_iload K dL_law_671 8 rfl ?_
    refine k_iconst K dL_law_673 (v := 1) rfl ?_
    refine k_iadd K dL_law_674 ?_
    refine k_icmp_eq K dL_law_675 (tgt := 687) (by decide) hr (fun hr => ?_) (fun hr => ?_)
    · refine k_iconst K dL_law_687 (v := 1) rfl ?_
      refine k_goto K dL_law_688 (tgt := 692) (by decide) ?_
      exact k_sub [1, 2, 3, 4, 5, 6, 7] rfl (jb_L_law_692 K G S _ _ _ _ F rec44 hrec44 hr)
    · refine k_iload K dL_law_678 0 rfl ?_
      refine k_iload K dL_law_680 8 rfl ?_
      refine k_iconst K dL_law_682 (v := 1) rfl ?_
      refine k_isub K dL_law_683 ?_
      refine k_icmp_ne K dL_law_684 (tgt := 691) (by decide) hr (fun hr => ?_) (fun hr => ?_)
      · refine k_iconst K dL_law_691 (v := 0) rfl ?_
        exact k_sub [1, 2, 3, 4, 5, 6, 7] rfl (jb_L_law_692 K G S _ _ _ _ F rec44 hrec44 hr)
      · refine k_iconst K dL_law_687 (v := 1) rfl ?_
        refine k_goto K dL_law_688 (tgt := 692) (by decide) ?_
        exact k_sub [1, 2, 3, 4, 5, 6, 7] rfl (jb_L_law_692 K G S _ _ _ _ F rec44 hrec44 hr)
theorem jb_L_law_611 {κ : JK} (K : jOk 19 cL_law RL (some .boolean) 9 κ) (G : jB κ) {sb : Nat} {g : Int32 → Int32} (S : jS sb g κ) (X : JX) (v5 : Int32) (v6 : Int32) (s0 : Int32) {r : Int32} (F : jLw r κ) (rec44 : JX → Int32 → Int32 → Option Int32) (hrec44 : ∀ (X : JX) (v5 : Int32) (v6 : Int32), rec44 X v5 v6 = some r → JB LZ 19 κ X 44 [(0, .ref sb), (1, .ref (jad κ (0))), (2, .ref (jad κ (176))), (3, .ref (jad κ (177))), (4, .ref (jad κ (178))), (5, .int v5), (6, .int v6)] []) (hr : b_L_law_611 g rec44 X v5 v6 s0 = some r) : JB LZ 19 κ X 611 [(0, .ref sb), (1, .ref (jad κ (0))), (2, .ref (jad κ (176))), (3, .ref (jad κ (177))), (4, .ref (jad κ (178))), (5, .int v5), (6, .int v6)] [.int s0] := by
  unfold b_L_law_611 at hr
  refine k_istore K dL_law_611 (by decide) ?_
  refine k_goto K dL_law_613 (tgt := 1132) (by decide) ?_
  exact k_sub [1, 2, 3, 4, 5, 6, 7, 0] rfl (jb_L_law_1132 K G S _ _ _ _ F rec44 hrec44 hr)
theorem jb_L_law_588 {κ : JK} (K : jOk 19 cL_law RL (some .boolean) 9 κ) (G : jB κ) {sb : Nat} {g : Int32 → Int32} (S : jS sb g κ) (X : JX) (v5 : Int32) (v6 : Int32) (v10 : Int32) (v12 : Int32) (v13 : Int32) (s0 : Int32) (s1 : Int32) {r : Int32} (F : jLw r κ) (rec44 : JX → Int32 → Int32 → Option Int32) (hrec44 : ∀ (X : JX) (v5 : Int32) (v6 : Int32), rec44 X v5 v6 = some r → JB LZ 19 κ X 44 [(0, .ref sb), (1, .ref (jad κ (0))), (2, .ref (jad κ (176))), (3, .ref (jad κ (177))), (4, .ref (jad κ (178))), (5, .int v5), (6, .int v6)] []) (rec560 : JX → Int32 → Option Int32) (hrec560 : ∀ (X : JX) (v13 : Int32), rec560 X v13 = some r → JB LZ 19 κ X 560 [(0, .ref sb), (1, .ref (jad κ (0))), (2, .ref (jad κ (176))), (3, .ref (jad κ (177))), (4, .ref (jad κ (178))), (5, .int v5), (6, .int v6), (10, .int v10), (12, .int v12), (13, .int v13)] []) (hr : b_L_law_588 g rec44 rec560 X v5 v6 v10 v12 v13 s0 s1 = some r) : JB LZ 19 κ X 588 [(0, .ref sb), (1, .ref (jad κ (0))), (2, .ref (jad κ (176))), (3, .ref (jad κ (177))), (4, .ref (jad κ (178))), (5, .int v5), (6, .int v6), (10, .int v10), (12, .int v12), (13, .int v13)] [.int s0, .int s1, .ref (jad κ (176))] := by
  unfold b_L_law_588 at hr
  refine k_iastoreV K (z := 32) lz176 lt176 (by decide) dL_law_588 hr (fun X103 hr => ?_)
  refine k_iincV K dL_law_589 (v := 1) 9 rfl rfl (by decide) hr (fun t104 hr => ?_)
  refine k_goto K dL_law_592 (tgt := 560) (by decide) ?_
  exact k_sub [1, 2, 3, 4, 5, 6, 7, 8, 9, 0] rfl (hrec560 _ _ hr)
theorem jl_L_law_560 {κ : JK} (K : jOk 19 cL_law RL (some .boolean) 9 κ) (G : jB κ) {sb : Nat} {g : Int32 → Int32} (S : jS sb g κ) (v5 : Int32) (v6 : Int32) (v10 : Int32) (v12 : Int32) {r : Int32} (F : jLw r κ) (rec44 : JX → Int32 → Int32 → Option Int32) (hrec44 : ∀ (X : JX) (v5 : Int32) (v6 : Int32), rec44 X v5 v6 = some r → JB LZ 19 κ X 44 [(0, .ref sb), (1, .ref (jad κ (0))), (2, .ref (jad κ (176))), (3, .ref (jad κ (177))), (4, .ref (jad κ (178))), (5, .int v5), (6, .int v6)] []) : ∀ (X : JX) (v13 : Int32), l_L_law_560 g rec44 v5 v6 v10 v12 X v13 = some r → JB LZ 19 κ X 560 [(0, .ref sb), (1, .ref (jad κ (0))), (2, .ref (jad κ (176))), (3, .ref (jad κ (177))), (4, .ref (jad κ (178))), (5, .int v5), (6, .int v6), (10, .int v10), (12, .int v12), (13, .int v13)] [] := by
  refine j_loop2 (P := fun X v13 => JB LZ 19 κ X 560 [(0, .ref sb), (1, .ref (jad κ (0))), (2, .ref (jad κ (176))), (3, .ref (jad κ (177))), (4, .ref (jad κ (178))), (5, .int v5), (6, .int v6), (10, .int v10), (12, .int v12), (13, .int v13)] []) (fun rec560 hrec560 X v13 hr => ?_) 1000
  unfold lb_L_law_560 at hr
  refine k_iload K dL_law_560 9 rfl ?_
  refine k_iload K dL_law_562 5 rfl ?_
  refine k_icmp_ge K dL_law_564 (tgt := 595) (by decide) hr (fun hr => ?_) (fun hr => ?_)
  · refine k_aload_n K dL_law_595 1 rfl ?_
    refine k_iload K dL_law_596 7 rfl ?_
    refine k_vT1 K G hr (fun v h => c_X10_remove X v10 h) ml_L_43 ⟨_, rfl, rfl⟩ rfl (by decide) (by decide) (Nat.le_of_ble_eq_true rfl) dL_law_598 (fun t82 X84 hr => ?_)
    refine k_iload K dL_law_601 8 rfl ?_
    refine k_icmp_ne K dL_law_603 (tgt := 610) (by decide) hr (fun hr => ?_) (fun hr => ?_)
    · refine k_iconst K dL_law_610 (v := 0) rfl ?_
      exact k_sub [0, 1, 2, 3, 4, 5, 6] rfl (jb_L_law_611 K G S _ _ _ _ F rec44 hrec44 hr)
    · refine k_iconst K dL_law_606 (v := 1) rfl ?_
      refine k_goto K dL_law_607 (tgt := 611) (by decide) ?_
      exact k_sub [0, 1, 2, 3, 4, 5, 6] rfl (jb_L_law_611 K G S _ _ _ _ F rec44 hrec44 hr)
  · refine k_aload_n K dL_law_567 2 rfl ?_
    refine k_iload K dL_law_568 9 rfl ?_
    refine k_aload K dL_law_570 4 rfl ?_
    refine k_iload K dL_law_572 9 rfl ?_
    refine k_iaload K (z := 32) lz178 lt178 dL_law_574 hr (fun hr => ?_)
    refine k_bipush K dL_law_575 (v := 40) rfl ?_
    refine k_icmp_ne K dL_law_577 (tgt := 584) (by decide) hr (fun hr => ?_) (fun hr => ?_)
    · refine k_aload_n K dL_law_584 2 rfl ?_
      refine k_iload K dL_law_585 9 rfl ?_
      refine k_iaload K (z := 32) lz176 lt176 dL_law_587 hr (fun hr => ?_)
      exact k_sub [0, 1, 2, 3, 4, 5, 6, 7, 8, 9] rfl (jb_L_law_588 K G S _ _ _ _ _ _ _ _ F rec44 hrec44 rec560 hrec560 hr)
    · refine k_iconst K dL_law_580 (v := 0) rfl ?_
      refine k_goto K dL_law_581 (tgt := 588) (by decide) ?_
      exact k_sub [0, 1, 2, 3, 4, 5, 6, 7, 8, 9] rfl (jb_L_law_588 K G S _ _ _ _ _ _ _ _ F rec44 hrec44 rec560 hrec560 hr)
theorem jb_L_law_550 {κ : JK} (K : jOk 19 cL_law RL (some .boolean) 9 κ) (G : jB κ) {sb : Nat} {g : Int32 → Int32} (S : jS sb g κ) (X : JX) (v5 : Int32) (v6 : Int32) (v10 : Int32) (v12 : Int32) (v13 : Int32) (s0 : Int32) (s1 : Int32) {r : Int32} (F : jLw r κ) (rec44 : JX → Int32 → Int32 → Option Int32) (hrec44 : ∀ (X : JX) (v5 : Int32) (v6 : Int32), rec44 X v5 v6 = some r → JB LZ 19 κ X 44 [(0, .ref sb), (1, .ref (jad κ (0))), (2, .ref (jad κ (176))), (3, .ref (jad κ (177))), (4, .ref (jad κ (178))), (5, .int v5), (6, .int v6)] []) (rec451 : JX → Int32 → Int32 → Option Int32) (hrec451 : ∀ (X : JX) (v12 : Int32) (v13 : Int32), rec451 X v12 v13 = some r → JB LZ 19 κ X 451 [(0, .ref sb), (1, .ref (jad κ (0))), (2, .ref (jad κ (176))), (3, .ref (jad κ (177))), (4, .ref (jad κ (178))), (5, .int v5), (6, .int v6), (10, .int v10), (12, .int v12), (13, .int v13)] []) (hr : b_L_law_550 g rec44 rec451 X v5 v6 v10 v12 v13 s0 s1 = some r) : JB LZ 19 κ X 550 [(0, .ref sb), (1, .ref (jad κ (0))), (2, .ref (jad κ (176))), (3, .ref (jad κ (177))), (4, .ref (jad κ (178))), (5, .int v5), (6, .int v6), (10, .int v10), (12, .int v12), (13, .int v13)] [.int s0, .int s1, .ref (jad κ (178))] := by
  unfold b_L_law_550 at hr
  refine k_iastoreV K (z := 32) lz178 lt178 (by decide) dL_law_550 hr (fun X120 hr => ?_)
  refine k_iincV K dL_law_551 (v := -1) 9 rfl rfl (by decide) hr (fun t121 hr => ?_)
  refine k_goto K dL_law_554 (tgt := 451) (by decide) ?_
  exact k_sub [1, 2, 3, 4, 5, 6, 7, 8, 9, 0] rfl (hrec451 _ _ _ hr)
theorem jb_L_law_528 {κ : JK} (K : jOk 19 cL_law RL (some .boolean) 9 κ) (G : jB κ) {sb : Nat} {g : Int32 → Int32} (S : jS sb g κ) (X : JX) (v5 : Int32) (v6 : Int32) (v10 : Int32) (v13 : Int32) (v14 : Int32) (s0 : Int32) (s1 : Int32) {r : Int32} (F : jLw r κ) (rec44 : JX → Int32 → Int32 → Option Int32) (hrec44 : ∀ (X : JX) (v5 : Int32) (v6 : Int32), rec44 X v5 v6 = some r → JB LZ 19 κ X 44 [(0, .ref sb), (1, .ref (jad κ (0))), (2, .ref (jad κ (176))), (3, .ref (jad κ (177))), (4, .ref (jad κ (178))), (5, .int v5), (6, .int v6)] []) (rec451 : JX → Int32 → Int32 → Option Int32) (hrec451 : ∀ (X : JX) (v12 : Int32) (v13 : Int32), rec451 X v12 v13 = some r → JB LZ 19 κ X 451 [(0, .ref sb), (1, .ref (jad κ (0))), (2, .ref (jad κ (176))), (3, .ref (jad κ (177))), (4, .ref (jad κ (178))), (5, .int v5), (6, .int v6), (10, .int v10), (12, .int v12), (13, .int v13)] []) (hr : b_L_law_528 g rec44 rec451 X v5 v6 v10 v13 v14 s0 s1 = some r) : JB LZ 19 κ X 528 [(0, .ref sb), (1, .ref (jad κ (0))), (2, .ref (jad κ (176))), (3, .ref (jad κ (177))), (4, .ref (jad κ (178))), (5, .int v5), (6, .int v6), (10, .int v10), (13, .int v13), (14, .int v14)] [.int s0, .int s1] := by
  unfold b_L_law_528 at hr
  refine k_iadd K dL_law_528 ?_
  refine k_istoreV K dL_law_529 (by decide) hr (fun t119 hr => ?_)
  refine k_aload K dL_law_531 5 rfl ?_
  refine k_iload K dL_law_533 9 rfl ?_
  refine k_iload K dL_law_535 10 rfl ?_
  refine k_if_eq K dL_law_537 (tgt := 545) (by decide) hr (fun hr => ?_) (fun hr => ?_)
  · refine k_aload K dL_law_545 5 rfl ?_
    refine k_iload K dL_law_547 9 rfl ?_
    refine k_iaload K (z := 32) lz178 lt178 dL_law_549 hr (fun hr => ?_)
    exact k_sub [1, 2, 3, 4, 5, 6, 7, 8, 0, 9] rfl (jb_L_law_550 K G S _ _ _ _ _ _ _ _ F rec44 hrec44 rec451 hrec451 hr)
  · refine k_bipush K dL_law_540 (v := 40) rfl ?_
    refine k_goto K dL_law_542 (tgt := 550) (by decide) ?_
    exact k_sub [1, 2, 3, 4, 5, 6, 7, 8, 0, 9] rfl (jb_L_law_550 K G S _ _ _ _ _ _ _ _ F rec44 hrec44 rec451 hrec451 hr)
theorem jb_L_law_509 {κ : JK} (K : jOk 19 cL_law RL (some .boolean) 9 κ) (G : jB κ) {sb : Nat} {g : Int32 → Int32} (S : jS sb g κ) (X : JX) (v5 : Int32) (v6 : Int32) (v10 : Int32) (v12 : Int32) (v13 : Int32) (v14 : Int32) {r : Int32} (F : jLw r κ) (rec44 : JX → Int32 → Int32 → Option Int32) (hrec44 : ∀ (X : JX) (v5 : Int32) (v6 : Int32), rec44 X v5 v6 = some r → JB LZ 19 κ X 44 [(0, .ref sb), (1, .ref (jad κ (0))), (2, .ref (jad κ (176))), (3, .ref (jad κ (177))), (4, .ref (jad κ (178))), (5, .int v5), (6, .int v6)] []) (rec451 : JX → Int32 → Int32 → Option Int32) (hrec451 : ∀ (X : JX) (v12 : Int32) (v13 : Int32), rec451 X v12 v13 = some r → JB LZ 19 κ X 451 [(0, .ref sb), (1, .ref (jad κ (0))), (2, .ref (jad κ (176))), (3, .ref (jad κ (177))), (4, .ref (jad κ (178))), (5, .int v5), (6, .int v6), (10, .int v10), (12, .int v12), (13, .int v13)] []) (hr : b_L_law_509 g rec44 rec451 X v5 v6 v10 v12 v13 v14 = some r) : JB LZ 19 κ X 509 [(0, .ref sb), (1, .ref (jad κ (0))), (2, .ref (jad κ (176))), (3, .ref (jad κ (177))), (4, .ref (jad κ (178))), (5, .int v5), (6, .int v6), (10, .int v10), (12, .int v12), (13, .int v13), (14, .int v14)] [] := by
  unfold b_L_law_509 at hr
  refine k_iload K dL_law_509 8 rfl ?_
  refine k_iload K dL_law_511 10 rfl ?_
  refine k_if_eq K dL_law_513 (tgt := 527) (by decide) hr (fun hr => ?_) (fun hr => ?_)
  · refine k_iconst K dL_law_527 (v := 0) rfl ?_
    exact k_sub [0, 1, 2, 3, 4, 5, 6, 7, 9, 10] rfl (jb_L_law_528 K G S _ _ _ _ _ _ _ _ F rec44 hrec44 rec451 hrec451 hr)
  · refine k_aload_n K dL_law_516 2 rfl ?_
    refine k_iload K dL_law_517 9 rfl ?_
    refine k_iaload K (z := 32) lz176 lt176 dL_law_519 hr (fun hr => ?_)
    refine k_if_le K dL_law_520 (tgt := 527) (by decide) hr (fun hr => ?_) (fun hr => ?_)
    · refine k_iconst K dL_law_527 (v := 0) rfl ?_
      exact k_sub [0, 1, 2, 3, 4, 5, 6, 7, 9, 10] rfl (jb_L_law_528 K G S _ _ _ _ _ _ _ _ F rec44 hrec44 rec451 hrec451 hr)
    · refine k_iconst K dL_law_523 (v := 1) rfl ?_
      refine k_goto K dL_law_524 (tgt := 528) (by decide) ?_
      exact k_sub [0, 1, 2, 3, 4, 5, 6, 7, 9, 10] rfl (jb_L_law_528 K G S _ _ _ _ _ _ _ _ F rec44 hrec44 rec451 hrec451 hr)
theorem jb_L_law_498 {κ : JK} (K : jOk 19 cL_law RL (some .boolean) 9 κ) (G : jB κ) {sb : Nat} {g : Int32 → Int32} (S : jS sb g κ) (X : JX) (v5 : Int32) (v6 : Int32) (v10 : Int32) (v12 : Int32) (v13 : Int32) (v15 : Int32) (s0 : Int32) {r : Int32} (F : jLw r κ) (rec44 : JX → Int32 → Int32 → Option Int32) (hrec44 : ∀ (X : JX) (v5 : Int32) (v6 : Int32), rec44 X v5 v6 = some r → JB LZ 19 κ X 44 [(0, .ref sb), (1, .ref (jad κ (0))), (2, .ref (jad κ (176))), (3, .ref (jad κ (177))), (4, .ref (jad κ (178))), (5, .int v5), (6, .int v6)] []) (rec451 : JX → Int32 → Int32 → Option Int32) (hrec451 : ∀ (X : JX) (v12 : Int32) (v13 : Int32), rec451 X v12 v13 = some r → JB LZ 19 κ X 451 [(0, .ref sb), (1, .ref (jad κ (0))), (2, .ref (jad κ (176))), (3, .ref (jad κ (177))), (4, .ref (jad κ (178))), (5, .int v5), (6, .int v6), (10, .int v10), (12, .int v12), (13, .int v13)] []) (rec476 : Int32 → Int32 → Option Int32) (hrec476 : ∀ (v14 : Int32) (v15 : Int32), rec476 v14 v15 = some r → JB LZ 19 κ X 476 [(0, .ref sb), (1, .ref (jad κ (0))), (2, .ref (jad κ (176))), (3, .ref (jad κ (177))), (4, .ref (jad κ (178))), (5, .int v5), (6, .int v6), (10, .int v10), (12, .int v12), (13, .int v13), (14, .int v14), (15, .int v15)] []) (hr : b_L_law_498 g rec44 rec451 rec476 X v5 v6 v10 v12 v13 v15 s0 = some r) : JB LZ 19 κ X 498 [(0, .ref sb), (1, .ref (jad κ (0))), (2, .ref (jad κ (176))), (3, .ref (jad κ (177))), (4, .ref (jad κ (178))), (5, .int v5), (6, .int v6), (10, .int v10), (12, .int v12), (13, .int v13), (15, .int v15)] [.int s0] := by
  unfold b_L_law_498 at hr
  refine k_istore K dL_law_498 (by decide) ?_
  refine k_aload_n K dL_law_500 4 rfl ?_
  refine k_iload K dL_law_501 11 rfl ?_
  refine k_iaload K (z := 32) lz177 lt177 dL_law_503 hr (fun hr => ?_)
  refine k_istoreV K dL_law_504 (by decide) hr (fun t114 hr => ?_)
  refine k_goto K dL_law_506 (tgt := 476) (by decide) ?_
  exact k_sub [2, 3, 4, 5, 6, 7, 8, 9, 10, 11, 1, 0] rfl (hrec476 _ _ hr)
theorem jl_L_law_476 {κ : JK} (K : jOk 19 cL_law RL (some .boolean) 9 κ) (G : jB κ) {sb : Nat} {g : Int32 → Int32} (S : jS sb g κ) (X : JX) (v5 : Int32) (v6 : Int32) (v10 : Int32) (v12 : Int32) (v13 : Int32) {r : Int32} (F : jLw r κ) (rec44 : JX → Int32 → Int32 → Option Int32) (hrec44 : ∀ (X : JX) (v5 : Int32) (v6 : Int32), rec44 X v5 v6 = some r → JB LZ 19 κ X 44 [(0, .ref sb), (1, .ref (jad κ (0))), (2, .ref (jad κ (176))), (3, .ref (jad κ (177))), (4, .ref (jad κ (178))), (5, .int v5), (6, .int v6)] []) (rec451 : JX → Int32 → Int32 → Option Int32) (hrec451 : ∀ (X : JX) (v12 : Int32) (v13 : Int32), rec451 X v12 v13 = some r → JB LZ 19 κ X 451 [(0, .ref sb), (1, .ref (jad κ (0))), (2, .ref (jad κ (176))), (3, .ref (jad κ (177))), (4, .ref (jad κ (178))), (5, .int v5), (6, .int v6), (10, .int v10), (12, .int v12), (13, .int v13)] []) : ∀ (v14 : Int32) (v15 : Int32), l_L_law_476 g rec44 rec451 X v5 v6 v10 v12 v13 v14 v15 = some r → JB LZ 19 κ X 476 [(0, .ref sb), (1, .ref (jad κ (0))), (2, .ref (jad κ (176))), (3, .ref (jad κ (177))), (4, .ref (jad κ (178))), (5, .int v5), (6, .int v6), (10, .int v10), (12, .int v12), (13, .int v13), (14, .int v14), (15, .int v15)] [] := by
  refine j_loop2 (P := fun v14 v15 => JB LZ 19 κ X 476 [(0, .ref sb), (1, .ref (jad κ (0))), (2, .ref (jad κ (176))), (3, .ref (jad κ (177))), (4, .ref (jad κ (178))), (5, .int v5), (6, .int v6), (10, .int v10), (12, .int v12), (13, .int v13), (14, .int v14), (15, .int v15)] []) (fun rec476 hrec476 v14 v15 hr => ?_) 1000
  unfold lb_L_law_476 at hr
  refine k_iload K dL_law_476 11 rfl ?_
  refine k_if_lt K dL_law_478 (tgt := 509) (by decide) hr (fun hr => ?_) (fun hr => ?_)
  · exact k_sub [0, 1, 2, 3, 4, 5, 6, 7, 8, 9, 10] rfl (jb_L_law_509 K G S _ _ _ _ _ _ _ F rec44 hrec44 rec451 hrec451 hr)
  · refine k_iload K dL_law_481 10 rfl ?_
    refine k_if_ne K dL_law_483 (tgt := 509) (by decide) hr (fun hr => ?_) (fun hr => ?_)
    · exact k_sub [0, 1, 2, 3, 4, 5, 6, 7, 8, 9, 10] rfl (jb_L_law_509 K G S _ _ _ _ _ _ _ F rec44 hrec44 rec451 hrec451 hr)
    · refine k_iload K dL_law_486 11 rfl ?_
      refine k_iload K dL_law_488 7 rfl ?_
      refine k_icmp_ne K dL_law_490 (tgt := 497) (by decide) hr (fun hr => ?_) (fun hr => ?_)
      · refine k_iconst K dL_law_497 (v := 0) rfl ?_
        exact k_sub [0, 1, 2, 3, 4, 5, 6, 7, 8, 9, 11] rfl (jb_L_law_498 K G S _ _ _ _ _ _ _ _ F rec44 hrec44 rec451 hrec451 rec476 hrec476 hr)
      · refine k_iconst K dL_law_493 (v := 1) rfl ?_
        refine k_goto K dL_law_494 (tgt := 498) (by decide) ?_
        exact k_sub [0, 1, 2, 3, 4, 5, 6, 7, 8, 9, 11] rfl (jb_L_law_498 K G S _ _ _ _ _ _ _ _ F rec44 hrec44 rec451 hrec451 rec476 hrec476 hr)
theorem jb_L_law_468 {κ : JK} (K : jOk 19 cL_law RL (some .boolean) 9 κ) (G : jB κ) {sb : Nat} {g : Int32 → Int32} (S : jS sb g κ) (X : JX) (v5 : Int32) (v6 : Int32) (v10 : Int32) (v12 : Int32) (v13 : Int32) (s0 : Int32) {r : Int32} (F : jLw r κ) (rec44 : JX → Int32 → Int32 → Option Int32) (hrec44 : ∀ (X : JX) (v5 : Int32) (v6 : Int32), rec44 X v5 v6 = some r → JB LZ 19 κ X 44 [(0, .ref sb), (1, .ref (jad κ (0))), (2, .ref (jad κ (176))), (3, .ref (jad κ (177))), (4, .ref (jad κ (178))), (5, .int v5), (6, .int v6)] []) (rec451 : JX → Int32 → Int32 → Option Int32) (hrec451 : ∀ (X : JX) (v12 : Int32) (v13 : Int32), rec451 X v12 v13 = some r → JB LZ 19 κ X 451 [(0, .ref sb), (1, .ref (jad κ (0))), (2, .ref (jad κ (176))), (3, .ref (jad κ (177))), (4, .ref (jad κ (178))), (5, .int v5), (6, .int v6), (10, .int v10), (12, .int v12), (13, .int v13)] []) (hr : b_L_law_468 g rec44 rec451 X v5 v6 v10 v12 v13 s0 = some r) : JB LZ 19 κ X 468 [(0, .ref sb), (1, .ref (jad κ (0))), (2, .ref (jad κ (176))), (3, .ref (jad κ (177))), (4, .ref (jad κ (178))), (5, .int v5), (6, .int v6), (10, .int v10), (12, .int v12), (13, .int v13)] [.int s0] := by
  unfold b_L_law_468 at hr
  refine k_istore K dL_law_468 (by decide) ?_
  refine k_aload_n K dL_law_470 4 rfl ?_
  refine k_iload K dL_law_471 10 rfl ?_
  refine k_iaload K (z := 32) lz177 lt177 dL_law_473 hr (fun hr => ?_)
  refine k_istoreV K dL_law_474 (by decide) hr (fun t85 hr => ?_)
  exact k_sub [2, 3, 4, 5, 6, 7, 8, 9, 10, 11, 1, 0] rfl (jl_L_law_476 K G S _ _ _ _ _ _ F rec44 hrec44 rec451 hrec451 _ _ hr)
theorem jl_L_law_451 {κ : JK} (K : jOk 19 cL_law RL (some .boolean) 9 κ) (G : jB κ) {sb : Nat} {g : Int32 → Int32} (S : jS sb g κ) (v5 : Int32) (v6 : Int32) (v10 : Int32) {r : Int32} (F : jLw r κ) (rec44 : JX → Int32 → Int32 → Option Int32) (hrec44 : ∀ (X : JX) (v5 : Int32) (v6 : Int32), rec44 X v5 v6 = some r → JB LZ 19 κ X 44 [(0, .ref sb), (1, .ref (jad κ (0))), (2, .ref (jad κ (176))), (3, .ref (jad κ (177))), (4, .ref (jad κ (178))), (5, .int v5), (6, .int v6)] []) : ∀ (X : JX) (v12 : Int32) (v13 : Int32), l_L_law_451 g rec44 v5 v6 v10 X v12 v13 = some r → JB LZ 19 κ X 451 [(0, .ref sb), (1, .ref (jad κ (0))), (2, .ref (jad κ (176))), (3, .ref (jad κ (177))), (4, .ref (jad κ (178))), (5, .int v5), (6, .int v6), (10, .int v10), (12, .int v12), (13, .int v13)] [] := by
  refine j_loop3 (P := fun X v12 v13 => JB LZ 19 κ X 451 [(0, .ref sb), (1, .ref (jad κ (0))), (2, .ref (jad κ (176))), (3, .ref (jad κ (177))), (4, .ref (jad κ (178))), (5, .int v5), (6, .int v6), (10, .int v10), (12, .int v12), (13, .int v13)] []) (fun rec451 hrec451 X v12 v13 hr => ?_) 1000
  unfold lb_L_law_451 at hr
  refine k_iload K dL_law_451 9 rfl ?_
  refine k_if_le K dL_law_453 (tgt := 557) (by decide) hr (fun hr => ?_) (fun hr => ?_)
  · refine k_iconst K dL_law_557 (v := 1) rfl ?_
    refine k_istore K dL_law_558 (by decide) ?_
    exact k_sub [1, 2, 3, 4, 5, 6, 7, 8, 9, 0] rfl (jl_L_law_560 K G S _ _ _ _ F rec44 hrec44 _ _ hr)
  · refine k_iload K dL_law_456 9 rfl ?_
    refine k_iload K dL_law_458 7 rfl ?_
    refine k_icmp_ne K dL_law_460 (tgt := 467) (by decide) hr (fun hr => ?_) (fun hr => ?_)
    · refine k_iconst K dL_law_467 (v := 0) rfl ?_
      exact k_sub [0, 1, 2, 3, 4, 5, 6, 7, 8, 9] rfl (jb_L_law_468 K G S _ _ _ _ _ _ _ F rec44 hrec44 rec451 hrec451 hr)
    · refine k_iconst K dL_law_463 (v := 1) rfl ?_
      refine k_goto K dL_law_464 (tgt := 468) (by decide) ?_
      exact k_sub [0, 1, 2, 3, 4, 5, 6, 7, 8, 9] rfl (jb_L_law_468 K G S _ _ _ _ _ _ _ F rec44 hrec44 rec451 hrec451 hr)
theorem jb_L_law_411 {κ : JK} (K : jOk 19 cL_law RL (some .boolean) 9 κ) (G : jB κ) {sb : Nat} {g : Int32 → Int32} (S : jS sb g κ) (X : JX) (v5 : Int32) (v6 : Int32) (v10 : Int32) (v12 : Int32) (s0 : Int32) {r : Int32} (F : jLw r κ) (rec44 : JX → Int32 → Int32 → Option Int32) (hrec44 : ∀ (X : JX) (v5 : Int32) (v6 : Int32), rec44 X v5 v6 = some r → JB LZ 19 κ X 44 [(0, .ref sb), (1, .ref (jad κ (0))), (2, .ref (jad κ (176))), (3, .ref (jad κ (177))), (4, .ref (jad κ (178))), (5, .int v5), (6, .int v6)] []) (hr : b_L_law_411 g rec44 X v5 v6 v10 v12 s0 = some r) : JB LZ 19 κ X 411 [(0, .ref sb), (1, .ref (jad κ (0))), (2, .ref (jad κ (176))), (3, .ref (jad κ (177))), (4, .ref (jad κ (178))), (5, .int v5), (6, .int v6), (10, .int v10), (12, .int v12)] [.int s0] := by
  unfold b_L_law_411 at hr
  refine k_istore K dL_law_411 (by decide) ?_
  refine k_aload_n K dL_law_413 4 rfl ?_
  refine k_iload K dL_law_414 8 rfl ?_
  refine k_iload K dL_law_416 9 rfl ?_
  refine k_iastoreV K (z := 32) lz177 lt177 (by decide) dL_law_418 hr (fun X105 hr => ?_)
  refine k_goto K dL_law_419 (tgt := 1132) (by decide) ?_
  exact k_sub [1, 2, 3, 4, 5, 6, 7, 0] rfl (jb_L_law_1132 K G S _ _ _ _ F rec44 hrec44 hr)
theorem jb_L_law_369 {κ : JK} (K : jOk 19 cL_law RL (some .boolean) 9 κ) (G : jB κ) {sb : Nat} {g : Int32 → Int32} (S : jS sb g κ) (X : JX) (v5 : Int32) (v6 : Int32) (v10 : Int32) (v11 : Int32) (v12 : Int32) (v14 : Int32) (s0 : Int32) {r : Int32} (F : jLw r κ) (rec44 : JX → Int32 → Int32 → Option Int32) (hrec44 : ∀ (X : JX) (v5 : Int32) (v6 : Int32), rec44 X v5 v6 = some r → JB LZ 19 κ X 44 [(0, .ref sb), (1, .ref (jad κ (0))), (2, .ref (jad κ (176))), (3, .ref (jad κ (177))), (4, .ref (jad κ (178))), (5, .int v5), (6, .int v6)] []) (rec347 : Int32 → Int32 → Option Int32) (hrec347 : ∀ (v13 : Int32) (v14 : Int32), rec347 v13 v14 = some r → JB LZ 19 κ X 347 [(0, .ref sb), (1, .ref (jad κ (0))), (2, .ref (jad κ (176))), (3, .ref (jad κ (177))), (4, .ref (jad κ (178))), (5, .int v5), (6, .int v6), (10, .int v10), (11, .int v11), (12, .int v12), (13, .int v13), (14, .int v14)] []) (hr : b_L_law_369 g rec44 rec347 X v5 v6 v10 v11 v12 v14 s0 = some r) : JB LZ 19 κ X 369 [(0, .ref sb), (1, .ref (jad κ (0))), (2, .ref (jad κ (176))), (3, .ref (jad κ (177))), (4, .ref (jad κ (178))), (5, .int v5), (6, .int v6), (10, .int v10), (11, .int v11), (12, .int v12), (14, .int v14)] [.int s0] := by
  unfold b_L_law_369 at hr
  refine k_istore K dL_law_369 (by decide) ?_
  refine k_aload_n K dL_law_371 4 rfl ?_
  refine k_iload K dL_law_372 11 rfl ?_
  refine k_iaload K (z := 32) lz177 lt177 dL_law_374 hr (fun hr => ?_)
  refine k_istoreV K dL_law_375 (by decide) hr (fun t106 hr => ?_)
  refine k_goto K dL_law_377 (tgt := 347) (by decide) ?_
  exact k_sub [2, 3, 4, 5, 6, 7, 8, 9, 10, 11, 1, 0] rfl (hrec347 _ _ hr)
theorem jl_L_law_347 {κ : JK} (K : jOk 19 cL_law RL (some .boolean) 9 κ) (G : jB κ) {sb : Nat} {g : Int32 → Int32} (S : jS sb g κ) (X : JX) (v5 : Int32) (v6 : Int32) (v10 : Int32) (v11 : Int32) (v12 : Int32) {r : Int32} (F : jLw r κ) (rec44 : JX → Int32 → Int32 → Option Int32) (hrec44 : ∀ (X : JX) (v5 : Int32) (v6 : Int32), rec44 X v5 v6 = some r → JB LZ 19 κ X 44 [(0, .ref sb), (1, .ref (jad κ (0))), (2, .ref (jad κ (176))), (3, .ref (jad κ (177))), (4, .ref (jad κ (178))), (5, .int v5), (6, .int v6)] []) : ∀ (v13 : Int32) (v14 : Int32), l_L_law_347 g rec44 X v5 v6 v10 v11 v12 v13 v14 = some r → JB LZ 19 κ X 347 [(0, .ref sb), (1, .ref (jad κ (0))), (2, .ref (jad κ (176))), (3, .ref (jad κ (177))), (4, .ref (jad κ (178))), (5, .int v5), (6, .int v6), (10, .int v10), (11, .int v11), (12, .int v12), (13, .int v13), (14, .int v14)] [] := by
  refine j_loop2 (P := fun v13 v14 => JB LZ 19 κ X 347 [(0, .ref sb), (1, .ref (jad κ (0))), (2, .ref (jad κ (176))), (3, .ref (jad κ (177))), (4, .ref (jad κ (178))), (5, .int v5), (6, .int v6), (10, .int v10), (11, .int v11), (12, .int v12), (13, .int v13), (14, .int v14)] []) (fun rec347 hrec347 v13 v14 hr => ?_) 1000
  unfold lb_L_law_347 at hr
  refine k_iload K dL_law_347 11 rfl ?_
  refine k_if_lt K dL_law_349 (tgt := 380) (by decide) hr (fun hr => ?_) (fun hr => ?_)
  · refine k_iload K dL_law_380 10 rfl ?_
    refine k_if_ne K dL_law_382 (tgt := 419) (by decide) hr (fun hr => ?_) (fun hr => ?_)
    · refine k_goto K dL_law_419 (tgt := 1132) (by decide) ?_
      exact k_sub [0, 1, 2, 3, 4, 5, 6, 8] rfl (jb_L_law_1132 K G S _ _ _ _ F rec44 hrec44 hr)
    · refine k_aload_n K dL_law_385 1 rfl ?_
      refine k_iload K dL_law_386 7 rfl ?_
      refine k_iload K dL_law_388 9 rfl ?_
      refine k_bipush K dL_law_390 (v := 97) rfl ?_
      refine k_iload K dL_law_392 7 rfl ?_
      refine k_iadd K dL_law_394 ?_
      refine k_i2c K dL_law_395 ?_
      refine k_vT3 K G hr (fun v h => c_X10_move X v10 v12 (c16 ((97) + v10)) h) ml_L_39 ⟨_, rfl, rfl⟩ rfl (by decide) (by decide) (Nat.le_of_ble_eq_true rfl) dL_law_396 (fun t86 X88 hr => ?_)
      refine k_aload_n K dL_law_399 3 rfl ?_
      refine k_iload K dL_law_400 7 rfl ?_
      refine k_iaload K (z := 32) lz177 lt177 dL_law_402 hr (fun hr => ?_)
      refine k_icmp_ne K dL_law_403 (tgt := 410) (by decide) hr (fun hr => ?_) (fun hr => ?_)
      · refine k_iconst K dL_law_410 (v := 0) rfl ?_
        exact k_sub [0, 1, 2, 3, 4, 5, 6, 7, 9] rfl (jb_L_law_411 K G S _ _ _ _ _ _ F rec44 hrec44 hr)
      · refine k_iconst K dL_law_406 (v := 1) rfl ?_
        refine k_goto K dL_law_407 (tgt := 411) (by decide) ?_
        exact k_sub [0, 1, 2, 3, 4, 5, 6, 7, 9] rfl (jb_L_law_411 K G S _ _ _ _ _ _ F rec44 hrec44 hr)
  · refine k_iload K dL_law_352 10 rfl ?_
    refine k_if_ne K dL_law_354 (tgt := 364) (by decide) hr (fun hr => ?_) (fun hr => ?_)
    · refine k_iconst K dL_law_364 (v := 1) rfl ?_
      refine k_goto K dL_law_365 (tgt := 369) (by decide) ?_
      exact k_sub [0, 1, 2, 3, 4, 5, 6, 7, 8, 9, 11] rfl (jb_L_law_369 K G S _ _ _ _ _ _ _ _ F rec44 hrec44 rec347 hrec347 hr)
    · refine k_iload K dL_law_357 11 rfl ?_
      refine k_iload K dL_law_359 7 rfl ?_
      refine k_icmp_ne K dL_law_361 (tgt := 368) (by decide) hr (fun hr => ?_) (fun hr => ?_)
      · refine k_iconst K dL_law_368 (v := 0) rfl ?_
        exact k_sub [0, 1, 2, 3, 4, 5, 6, 7, 8, 9, 11] rfl (jb_L_law_369 K G S _ _ _ _ _ _ _ _ F rec44 hrec44 rec347 hrec347 hr)
      · refine k_iconst K dL_law_364 (v := 1) rfl ?_
        refine k_goto K dL_law_365 (tgt := 369) (by decide) ?_
        exact k_sub [0, 1, 2, 3, 4, 5, 6, 7, 8, 9, 11] rfl (jb_L_law_369 K G S _ _ _ _ _ _ _ _ F rec44 hrec44 rec347 hrec347 hr)
theorem jb_L_law_341 {κ : JK} (K : jOk 19 cL_law RL (some .boolean) 9 κ) (G : jB κ) {sb : Nat} {g : Int32 → Int32} (S : jS sb g κ) (X : JX) (v5 : Int32) (v6 : Int32) (v10 : Int32) (v11 : Int32) (v12 : Int32) (s0 : Int32) {r : Int32} (F : jLw r κ) (rec44 : JX → Int32 → Int32 → Option Int32) (hrec44 : ∀ (X : JX) (v5 : Int32) (v6 : Int32), rec44 X v5 v6 = some r → JB LZ 19 κ X 44 [(0, .ref sb), (1, .ref (jad κ (0))), (2, .ref (jad κ (176))), (3, .ref (jad κ (177))), (4, .ref (jad κ (178))), (5, .int v5), (6, .int v6)] []) (hr : b_L_law_341 g rec44 X v5 v6 v10 v11 v12 s0 = some r) : JB LZ 19 κ X 341 [(0, .ref sb), (1, .ref (jad κ (0))), (2, .ref (jad κ (176))), (3, .ref (jad κ (177))), (4, .ref (jad κ (178))), (5, .int v5), (6, .int v6), (10, .int v10), (11, .int v11), (12, .int v12)] [.int s0] := by
  unfold b_L_law_341 at hr
  refine k_istore K dL_law_341 (by decide) ?_
  refine k_iload K dL_law_343 10 rfl ?_
  refine k_istore K dL_law_345 (by decide) ?_
  exact k_sub [2, 3, 4, 5, 6, 7, 8, 9, 10, 11, 1, 0] rfl (jl_L_law_347 K G S _ _ _ _ _ _ F rec44 hrec44 _ _ hr)
theorem jb_L_law_277 {κ : JK} (K : jOk 19 cL_law RL (some .boolean) 9 κ) (G : jB κ) {sb : Nat} {g : Int32 → Int32} (S : jS sb g κ) (X : JX) (v5 : Int32) (v6 : Int32) (v10 : Int32) (s0 : Int32) {r : Int32} (F : jLw r κ) (rec44 : JX → Int32 → Int32 → Option Int32) (hrec44 : ∀ (X : JX) (v5 : Int32) (v6 : Int32), rec44 X v5 v6 = some r → JB LZ 19 κ X 44 [(0, .ref sb), (1, .ref (jad κ (0))), (2, .ref (jad κ (176))), (3, .ref (jad κ (177))), (4, .ref (jad κ (178))), (5, .int v5), (6, .int v6)] []) (hr : b_L_law_277 g rec44 X v5 v6 v10 s0 = some r) : JB LZ 19 κ X 277 [(0, .ref sb), (1, .ref (jad κ (0))), (2, .ref (jad κ (176))), (3, .ref (jad κ (177))), (4, .ref (jad κ (178))), (5, .int v5), (6, .int v6), (10, .int v10)] [.int s0] := by
  unfold b_L_law_277 at hr
  refine k_istore K dL_law_277 (by decide) ?_
  refine k_aload K dL_law_279 5 rfl ?_
  refine k_iload K dL_law_281 8 rfl ?_
  refine k_dup2 K dL_law_283 rfl rfl ?_
  refine k_iaload K (z := 32) lz178 lt178 dL_law_284 hr (fun hr => ?_)
  refine k_iconst K dL_law_285 (v := 1) rfl ?_
  refine k_iadd K dL_law_286 ?_
  refine k_iastoreV K (z := 32) lz178 lt178 (by decide) dL_law_287 hr (fun X89 hr => ?_)
  refine k_goto K dL_law_288 (tgt := 1132) (by decide) ?_
  exact k_sub [1, 2, 3, 4, 5, 6, 7, 0] rfl (jb_L_law_1132 K G S _ _ _ _ F rec44 hrec44 hr)
theorem jb_L_law_265 {κ : JK} (K : jOk 19 cL_law RL (some .boolean) 9 κ) (G : jB κ) {sb : Nat} {g : Int32 → Int32} (S : jS sb g κ) (X : JX) (v5 : Int32) (v6 : Int32) (v10 : Int32) (s0 : Int32) (s1 : Int32) {r : Int32} (F : jLw r κ) (rec44 : JX → Int32 → Int32 → Option Int32) (hrec44 : ∀ (X : JX) (v5 : Int32) (v6 : Int32), rec44 X v5 v6 = some r → JB LZ 19 κ X 44 [(0, .ref sb), (1, .ref (jad κ (0))), (2, .ref (jad κ (176))), (3, .ref (jad κ (177))), (4, .ref (jad κ (178))), (5, .int v5), (6, .int v6)] []) (hr : b_L_law_265 g rec44 X v5 v6 v10 s0 s1 = some r) : JB LZ 19 κ X 265 [(0, .ref sb), (1, .ref (jad κ (0))), (2, .ref (jad κ (176))), (3, .ref (jad κ (177))), (4, .ref (jad κ (178))), (5, .int v5), (6, .int v6), (10, .int v10)] [.int s0, .int s1, .ref (jad κ (0))] := by
  unfold b_L_law_265 at hr
  refine k_vT2 K G hr (fun v h => c_X10_write X s1 s0 h) ml_L_36 ⟨_, rfl, rfl⟩ rfl (by decide) (by decide) (Nat.le_of_ble_eq_true rfl) dL_law_265 (fun t68 X70 hr => ?_)
  refine k_iconst K dL_law_268 (v := 1) rfl ?_
  refine k_icmp_le K dL_law_269 (tgt := 276) (by decide) hr (fun hr => ?_) (fun hr => ?_)
  · refine k_iconst K dL_law_276 (v := 0) rfl ?_
    exact k_sub [0, 1, 2, 3, 4, 5, 6, 7] rfl (jb_L_law_277 K G S _ _ _ _ _ F rec44 hrec44 hr)
  · refine k_iconst K dL_law_272 (v := 1) rfl ?_
    refine k_goto K dL_law_273 (tgt := 277) (by decide) ?_
    exact k_sub [0, 1, 2, 3, 4, 5, 6, 7] rfl (jb_L_law_277 K G S _ _ _ _ _ F rec44 hrec44 hr)
set_option maxHeartbeats 40000000 in
theorem jl_L_law_44 {κ : JK} (K : jOk 19 cL_law RL (some .boolean) 9 κ) (G : jB κ) {sb : Nat} {g : Int32 → Int32} (S : jS sb g κ) {r : Int32} (F : jLw r κ) : ∀ (X : JX) (v5 : Int32) (v6 : Int32), l_L_law_44 g X v5 v6 = some r → JB LZ 19 κ X 44 [(0, .ref sb), (1, .ref (jad κ (0))), (2, .ref (jad κ (176))), (3, .ref (jad κ (177))), (4, .ref (jad κ (178))), (5, .int v5), (6, .int v6)] [] := by
  refine j_loop3 (P := fun X v5 v6 => JB LZ 19 κ X 44 [(0, .ref sb), (1, .ref (jad κ (0))), (2, .ref (jad κ (176))), (3, .ref (jad κ (177))), (4, .ref (jad κ (178))), (5, .int v5), (6, .int v6)] []) (fun rec44 hrec44 X v5 v6 hr => ?_) 1000
  unfold lb_L_law_44 at hr
  refine k_iload K dL_law_44 6 rfl ?_
  refine k_bipush K dL_law_46 (v := 60) rfl ?_
  refine k_icmp_ge K dL_law_48 (tgt := 1233) (by decide) hr (fun hr => ?_) (fun hr => ?_)
  · refine k_iconst K dL_law_1233 (v := 1) rfl ?_
    exact k_lret K F hr rfl dL_law_1234
  · refine k_aload_n K dL_law_51 0 rfl ?_
    refine k_iconst K dL_law_52 (v := 2) rfl ?_
    refine k_iload K dL_law_53 6 rfl ?_
    refine k_imul K dL_law_55 ?_
    refine k_cell K S ms_L_22 hr (by decide) (Nat.le_of_ble_eq_true rfl) dL_law_56 (fun t6 hr => ?_)
    refine k_istore K dL_law_59 (by decide) ?_
    refine k_aload_n K dL_law_61 1 rfl ?_
    refine k_iconst K dL_law_62 (v := 2) rfl ?_
    refine k_iload K dL_law_63 7 rfl ?_
    refine k_imul K dL_law_65 ?_
    refine k_iconst K dL_law_66 (v := 1) rfl ?_
    refine k_iadd K dL_law_67 ?_
    refine k_cell K S ms_L_22 hr (by decide) (Nat.le_of_ble_eq_true rfl) dL_law_68 (fun t7 hr => ?_)
    refine k_istore K dL_law_71 (by decide) ?_
    refine k_iload K dL_law_73 1 rfl ?_
    refine k_bipush K dL_law_75 (v := 14) rfl ?_
    refine k_sI2 K hr (fun v h => c_L_low X t6 (14) h) ms_L_28 rfl (by decide) (by decide) (Nat.le_of_ble_eq_true rfl) dL_law_77 (fun t8 hr => ?_)
    refine k_istore K dL_law_80 (by decide) ?_
    refine k_iload K dL_law_82 1 rfl ?_
    refine k_iload K dL_law_84 8 rfl ?_
    refine k_sI2 K hr (fun v h => c_L_low X t7 v5 h) ms_L_28 rfl (by decide) (by decide) (Nat.le_of_ble_eq_true rfl) dL_law_86 (fun t9 hr => ?_)
    refine k_istore K dL_law_89 (by decide) ?_
    refine k_iconst K dL_law_91 (v := 1) rfl ?_
    refine k_istore K dL_law_92 (by decide) ?_
    refine k_iload K dL_law_94 2 rfl ?_
    refine k_iconst K dL_law_96 (v := 3) rfl ?_
    refine k_icmp_lt K dL_law_97 (tgt := 106) (by decide) hr (fun hr => ?_) (fun hr => ?_)
    · exact k_sub [5, 6, 7, 8, 9, 10, 11, 3, 1, 0] rfl (jb_L_law_106 K G S _ _ _ _ _ _ F rec44 hrec44 hr)
    · refine k_iload K dL_law_100 10 rfl ?_
      refine k_iconst K dL_law_102 (v := 4) rfl ?_
      refine k_icmp_ge K dL_law_103 (tgt := 200) (by decide) hr (fun hr => ?_) (fun hr => ?_)
      · refine k_iload K dL_law_200 2 rfl ?_
        refine k_bipush K dL_law_202 (v := 6) rfl ?_
        refine k_icmp_ge K dL_law_204 (tgt := 291) (by decide) hr (fun hr => ?_) (fun hr => ?_)
        · refine k_iload K dL_law_291 2 rfl ?_
          refine k_bipush K dL_law_293 (v := 6) rfl ?_
          refine k_icmp_ne K dL_law_295 (tgt := 422) (by decide) hr (fun hr => ?_) (fun hr => ?_)
          · refine k_iload K dL_law_422 2 rfl ?_
            refine k_bipush K dL_law_424 (v := 7) rfl ?_
            refine k_icmp_ne K dL_law_426 (tgt := 616) (by decide) hr (fun hr => ?_) (fun hr => ?_)
            · refine k_iload K dL_law_616 2 rfl ?_
              refine k_bipush K dL_law_618 (v := 8) rfl ?_
              refine k_icmp_ne K dL_law_620 (tgt := 697) (by decide) hr (fun hr => ?_) (fun hr => ?_)
              · refine k_iload K dL_law_697 2 rfl ?_
                refine k_bipush K dL_law_699 (v := 9) rfl ?_
                refine k_icmp_ne K dL_law_701 (tgt := 783) (by decide) hr (fun hr => ?_) (fun hr => ?_)
                · refine k_iload K dL_law_783 2 rfl ?_
                  refine k_bipush K dL_law_785 (v := 12) rfl ?_
                  refine k_icmp_ge K dL_law_787 (tgt := 830) (by decide) hr (fun hr => ?_) (fun hr => ?_)
                  · refine k_iload K dL_law_830 2 rfl ?_
                    refine k_bipush K dL_law_832 (v := 12) rfl ?_
                    refine k_icmp_ne K dL_law_834 (tgt := 887) (by decide) hr (fun hr => ?_) (fun hr => ?_)
                    · refine k_aload_n K dL_law_887 6 rfl ?_
                      refine k_iconst K dL_law_888 (v := 0) rfl ?_
                      refine k_vT1 K G hr (fun v h => c_X10_crawl X (0) h) ml_L_73 ⟨_, rfl, rfl⟩ rfl (by decide) (by decide) (Nat.le_of_ble_eq_true rfl) dL_law_889 (fun t10 X12 hr => ?_)
                      refine k_pop K dL_law_892 rfl ?_
                      refine k_iload K dL_law_893 3 rfl ?_
                      refine k_iconst K dL_law_895 (v := 4) rfl ?_
                      refine k_sI2 K hr (fun v h => c_L_low X12 t7 (4) h) ms_L_28 rfl (by decide) (by decide) (Nat.le_of_ble_eq_true rfl) dL_law_896 (fun t13 hr => ?_)
                      refine k_istore K dL_law_899 (by decide) ?_
                      refine k_iload K dL_law_901 4 rfl ?_
                      refine k_iconst K dL_law_903 (v := 3) rfl ?_
                      refine k_ishr K dL_law_904 ?_
                      refine k_bipush K dL_law_905 (v := 7) rfl ?_
                      refine k_sI2 K hr (fun v h => c_L_low X12 (t7 >>> ((3) &&& 31)) (7) h) ms_L_28 rfl (by decide) (by decide) (Nat.le_of_ble_eq_true rfl) dL_law_907 (fun t14 hr => ?_)
                      refine k_istore K dL_law_910 (by decide) ?_
                      refine k_iload K dL_law_912 5 rfl ?_
                      refine k_bipush K dL_law_914 (v := 6) rfl ?_
                      refine k_ishr K dL_law_916 ?_
                      refine k_iconst K dL_law_917 (v := 2) rfl ?_
                      refine k_sI2 K hr (fun v h => c_L_low X12 (t7 >>> ((6) &&& 31)) (2) h) ms_L_28 rfl (by decide) (by decide) (Nat.le_of_ble_eq_true rfl) dL_law_918 (fun t15 hr => ?_)
                      refine k_if_ne K dL_law_921 (tgt := 928) (by decide) hr (fun hr => ?_) (fun hr => ?_)
                      · refine k_iload K dL_law_928 5 rfl ?_
                        refine k_bipush K dL_law_930 (v := 7) rfl ?_
                        refine k_ishr K dL_law_932 ?_
                        refine k_bipush K dL_law_933 (v := 7) rfl ?_
                        refine k_sI2 K hr (fun v h => c_L_low X12 (t7 >>> ((7) &&& 31)) (7) h) ms_L_28 rfl (by decide) (by decide) (Nat.le_of_ble_eq_true rfl) dL_law_935 (fun t16 hr => ?_)
                        exact k_sub [7, 8, 9, 10, 11, 12, 13, 1, 0] rfl (jb_L_law_938 K G S _ _ _ _ _ _ F rec44 hrec44 hr)
                      · refine k_iconst K dL_law_924 (v := -1) rfl ?_
                        refine k_goto K dL_law_925 (tgt := 938) (by decide) ?_
                        exact k_sub [7, 8, 9, 10, 11, 12, 13, 1, 0] rfl (jb_L_law_938 K G S _ _ _ _ _ _ F rec44 hrec44 hr)
                    · refine k_aload_n K dL_law_837 6 rfl ?_
                      refine k_iconst K dL_law_838 (v := 1) rfl ?_
                      refine k_vM1 K hr (fun v h => c_X10_battery X (1) h) ml_L_66 ⟨_, rfl, rfl⟩ rfl (by decide) (by decide) (Nat.le_of_ble_eq_true rfl) dL_law_839 (fun t17 X19 hr => ?_)
                      refine k_istore K dL_law_842 (by decide) ?_
                      refine k_aload_n K dL_law_844 7 rfl ?_
                      refine k_bipush K dL_law_845 (v := 60) rfl ?_
                      refine k_vT1 K G hr (fun v h => c_X10_work X19 (60) h) ml_L_14 ⟨_, rfl, rfl⟩ rfl (by decide) (by decide) (Nat.le_of_ble_eq_true rfl) dL_law_847 (fun t20 X22 hr => ?_)
                      refine k_istore K dL_law_850 (by decide) ?_
                      refine k_aload_n K dL_law_852 8 rfl ?_
                      refine k_iconst K dL_law_853 (v := 0) rfl ?_
                      refine k_vM1 K hr (fun v h => c_X10_battery X22 (0) h) ml_L_66 ⟨_, rfl, rfl⟩ rfl (by decide) (by decide) (Nat.le_of_ble_eq_true rfl) dL_law_854 (fun t23 X25 hr => ?_)
                      refine k_pop K dL_law_857 rfl ?_
                      refine k_aload_n K dL_law_858 8 rfl ?_
                      refine k_bipush K dL_law_859 (v := 60) rfl ?_
                      refine k_vT1 K G hr (fun v h => c_X10_pass X25 (60) h) ml_L_70 ⟨_, rfl, rfl⟩ rfl (by decide) (by decide) (Nat.le_of_ble_eq_true rfl) dL_law_861 (fun t26 X28 hr => ?_)
                      refine k_pop K dL_law_864 rfl ?_
                      refine k_iload K dL_law_865 0 rfl ?_
                      refine k_bipush K dL_law_867 (v := 20) rfl ?_
                      refine k_icmp_gt K dL_law_869 (tgt := 881) (by decide) hr (fun hr => ?_) (fun hr => ?_)
                      · refine k_iconst K dL_law_881 (v := 0) rfl ?_
                        exact k_sub [7, 8, 9, 10, 11, 12, 13] rfl (jb_L_law_882 K G S _ _ _ _ F rec44 hrec44 hr)
                      · refine k_iload K dL_law_872 1 rfl ?_
                        refine k_if_ne K dL_law_874 (tgt := 881) (by decide) hr (fun hr => ?_) (fun hr => ?_)
                        · refine k_iconst K dL_law_881 (v := 0) rfl ?_
                          exact k_sub [7, 8, 9, 10, 11, 12, 13] rfl (jb_L_law_882 K G S _ _ _ _ F rec44 hrec44 hr)
                        · refine k_iconst K dL_law_877 (v := 1) rfl ?_
                          refine k_goto K dL_law_878 (tgt := 882) (by decide) ?_
                          exact k_sub [7, 8, 9, 10, 11, 12, 13] rfl (jb_L_law_882 K G S _ _ _ _ F rec44 hrec44 hr)
                  · refine k_iconst K dL_law_790 (v := 1) rfl ?_
                    refine k_iload K dL_law_791 3 rfl ?_
                    refine k_bipush K dL_law_793 (v := 20) rfl ?_
                    refine k_sI2 K hr (fun v h => c_L_low X t7 (20) h) ms_L_28 rfl (by decide) (by decide) (Nat.le_of_ble_eq_true rfl) dL_law_795 (fun t29 hr => ?_)
                    refine k_iadd K dL_law_798 ?_
                    refine k_istoreV K dL_law_799 (by decide) hr (fun t30 hr => ?_)
                    refine k_aload_n K dL_law_801 7 rfl ?_
                    refine k_iload K dL_law_802 0 rfl ?_
                    refine k_vT1 K G hr (fun v h => c_X10_work X t30 h) ml_L_14 ⟨_, rfl, rfl⟩ rfl (by decide) (by decide) (Nat.le_of_ble_eq_true rfl) dL_law_804 (fun t31 X33 hr => ?_)
                    refine k_iload K dL_law_807 0 rfl ?_
                    refine k_icmp_gt K dL_law_809 (tgt := 824) (by decide) hr (fun hr => ?_) (fun hr => ?_)
                    · refine k_iconst K dL_law_824 (v := 0) rfl ?_
                      exact k_sub [6, 7, 8, 9, 10, 11, 12] rfl (jb_L_law_825 K G S _ _ _ _ F rec44 hrec44 hr)
                    · refine k_aload_n K dL_law_812 7 rfl ?_
                      refine k_vI0 K hr (fun v h => c_X10_segments X33 h) ml_L_62 ⟨_, rfl, rfl⟩ rfl (by decide) (by decide) (Nat.le_of_ble_eq_true rfl) dL_law_813 (fun t34 hr => ?_)
                      refine k_iconst K dL_law_816 (v := 3) rfl ?_
                      refine k_icmp_gt K dL_law_817 (tgt := 824) (by decide) hr (fun hr => ?_) (fun hr => ?_)
                      · refine k_iconst K dL_law_824 (v := 0) rfl ?_
                        exact k_sub [6, 7, 8, 9, 10, 11, 12] rfl (jb_L_law_825 K G S _ _ _ _ F rec44 hrec44 hr)
                      · refine k_iconst K dL_law_820 (v := 1) rfl ?_
                        refine k_goto K dL_law_821 (tgt := 825) (by decide) ?_
                        exact k_sub [6, 7, 8, 9, 10, 11, 12] rfl (jb_L_law_825 K G S _ _ _ _ F rec44 hrec44 hr)
                · refine k_aload_n K dL_law_704 7 rfl ?_
                  refine k_iload K dL_law_705 1 rfl ?_
                  refine k_iaload K (z := 32) lz176 lt176 dL_law_707 hr (fun hr => ?_)
                  refine k_iconst K dL_law_708 (v := 2) rfl ?_
                  refine k_icmp_ne K dL_law_709 (tgt := 743) (by decide) hr (fun hr => ?_) (fun hr => ?_)
                  · exact k_sub [5, 6, 7, 8, 9, 10, 11, 3, 1, 0] rfl (jb_L_law_743 K G S _ _ _ _ _ _ F rec44 hrec44 hr)
                  · refine k_aload_n K dL_law_712 6 rfl ?_
                    refine k_iload K dL_law_713 1 rfl ?_
                    refine k_iload K dL_law_715 3 rfl ?_
                    refine k_iconst K dL_law_717 (v := 5) rfl ?_
                    refine k_ishr K dL_law_718 ?_
                    refine k_iconst K dL_law_719 (v := 2) rfl ?_
                    refine k_sI2 K hr (fun v h => c_L_low X (t7 >>> ((5) &&& 31)) (2) h) ms_L_28 rfl (by decide) (by decide) (Nat.le_of_ble_eq_true rfl) dL_law_720 (fun t35 hr => ?_)
                    refine k_if_ne K dL_law_723 (tgt := 730) (by decide) hr (fun hr => ?_) (fun hr => ?_)
                    · refine k_iconst K dL_law_730 (v := 0) rfl ?_
                      exact k_sub [5, 6, 7, 8, 9, 10, 11, 3, 1, 0] rfl (jb_L_law_731 K G S _ _ _ _ _ _ _ _ F rec44 hrec44 hr)
                    · refine k_iconst K dL_law_726 (v := 1) rfl ?_
                      refine k_goto K dL_law_727 (tgt := 731) (by decide) ?_
                      exact k_sub [5, 6, 7, 8, 9, 10, 11, 3, 1, 0] rfl (jb_L_law_731 K G S _ _ _ _ _ _ _ _ F rec44 hrec44 hr)
              · refine k_aload_n K dL_law_623 6 rfl ?_
                refine k_iconst K dL_law_624 (v := 0) rfl ?_
                refine k_vT1 K G hr (fun v h => c_X10_notices X (0) h) ml_L_46 ⟨_, rfl, rfl⟩ rfl (by decide) (by decide) (Nat.le_of_ble_eq_true rfl) dL_law_625 (fun t36 X38 hr => ?_)
                refine k_if_le K dL_law_628 (tgt := 1132) (by decide) hr (fun hr => ?_) (fun hr => ?_)
                · exact k_sub [5, 6, 7, 8, 9, 10, 11, 0] rfl (jb_L_law_1132 K G S _ _ _ _ F rec44 hrec44 hr)
                · refine k_aload_n K dL_law_631 6 rfl ?_
                  refine k_iconst K dL_law_632 (v := 0) rfl ?_
                  refine k_vT1 K G hr (fun v h => c_X10_notices X38 (0) h) ml_L_46 ⟨_, rfl, rfl⟩ rfl (by decide) (by decide) (Nat.le_of_ble_eq_true rfl) dL_law_633 (fun t39 X41 hr => ?_)
                  refine k_istore K dL_law_636 (by decide) ?_
                  refine k_iload K dL_law_638 4 rfl ?_
                  refine k_iconst K dL_law_640 (v := 2) rfl ?_
                  refine k_sI2 K hr (fun v h => c_L_low X41 t7 (2) h) ms_L_28 rfl (by decide) (by decide) (Nat.le_of_ble_eq_true rfl) dL_law_641 (fun t42 hr => ?_)
                  refine k_if_ne K dL_law_644 (tgt := 655) (by decide) hr (fun hr => ?_) (fun hr => ?_)
                  · refine k_aload_n K dL_law_655 7 rfl ?_
                    refine k_iconst K dL_law_656 (v := 0) rfl ?_
                    refine k_iconst K dL_law_657 (v := 1) rfl ?_
                    refine k_vT2 K G hr (fun v h => c_X10_lose X41 (0) (1) h) ml_L_52 ⟨_, rfl, rfl⟩ rfl (by decide) (by decide) (Nat.le_of_ble_eq_true rfl) dL_law_658 (fun t43 X45 hr => ?_)
                    exact k_sub [6, 7, 8, 9, 10, 11, 12, 0] rfl (jb_L_law_661 K G S _ _ _ _ _ F rec44 hrec44 hr)
                  · refine k_aload_n K dL_law_647 7 rfl ?_
                    refine k_iconst K dL_law_648 (v := 0) rfl ?_
                    refine k_vT1 K G hr (fun v h => c_X10_twice X41 (0) h) ml_L_49 ⟨_, rfl, rfl⟩ rfl (by decide) (by decide) (Nat.le_of_ble_eq_true rfl) dL_law_649 (fun t46 X48 hr => ?_)
                    refine k_goto K dL_law_652 (tgt := 661) (by decide) ?_
                    exact k_sub [6, 7, 8, 9, 10, 11, 12, 0] rfl (jb_L_law_661 K G S _ _ _ _ _ F rec44 hrec44 hr)
            · refine k_iload K dL_law_429 1 rfl ?_
              refine k_iconst K dL_law_431 (v := 3) rfl ?_
              refine k_icmp_le K dL_law_432 (tgt := 1132) (by decide) hr (fun hr => ?_) (fun hr => ?_)
              · exact k_sub [5, 6, 7, 8, 9, 10, 11, 0] rfl (jb_L_law_1132 K G S _ _ _ _ F rec44 hrec44 hr)
              · refine k_aload_n K dL_law_435 7 rfl ?_
                refine k_iload K dL_law_436 1 rfl ?_
                refine k_iaload K (z := 32) lz176 lt176 dL_law_438 hr (fun hr => ?_)
                refine k_if_le K dL_law_439 (tgt := 1132) (by decide) hr (fun hr => ?_) (fun hr => ?_)
                · exact k_sub [5, 6, 7, 8, 9, 10, 11, 0] rfl (jb_L_law_1132 K G S _ _ _ _ F rec44 hrec44 hr)
                · refine k_iconst K dL_law_442 (v := 0) rfl ?_
                  refine k_istore K dL_law_443 (by decide) ?_
                  refine k_iload K dL_law_445 11 rfl ?_
                  refine k_iconst K dL_law_447 (v := 1) rfl ?_
                  refine k_isub K dL_law_448 ?_
                  refine k_istoreV K dL_law_449 (by decide) hr (fun t49 hr => ?_)
                  exact k_sub [7, 8, 9, 10, 11, 12, 13, 3, 1, 0] rfl (jl_L_law_451 K G S _ _ _ F rec44 hrec44 _ _ _ hr)
          · refine k_iload K dL_law_298 3 rfl ?_
            refine k_iconst K dL_law_300 (v := 5) rfl ?_
            refine k_ishr K dL_law_301 ?_
            refine k_iload K dL_law_302 10 rfl ?_
            refine k_sI2 K hr (fun v h => c_L_low X (t7 >>> ((5) &&& 31)) v5 h) ms_L_28 rfl (by decide) (by decide) (Nat.le_of_ble_eq_true rfl) dL_law_304 (fun t50 hr => ?_)
            refine k_istore K dL_law_307 (by decide) ?_
            refine k_iload K dL_law_309 0 rfl ?_
            refine k_iload K dL_law_311 2 rfl ?_
            refine k_icmp_eq K dL_law_313 (tgt := 336) (by decide) hr (fun hr => ?_) (fun hr => ?_)
            · refine k_iconst K dL_law_336 (v := 1) rfl ?_
              refine k_goto K dL_law_337 (tgt := 341) (by decide) ?_
              exact k_sub [6, 7, 8, 9, 10, 11, 12, 2, 1, 0] rfl (jb_L_law_341 K G S _ _ _ _ _ _ _ F rec44 hrec44 hr)
            · refine k_iload K dL_law_316 2 rfl ?_
              refine k_if_eq K dL_law_318 (tgt := 336) (by decide) hr (fun hr => ?_) (fun hr => ?_)
              · refine k_iconst K dL_law_336 (v := 1) rfl ?_
                refine k_goto K dL_law_337 (tgt := 341) (by decide) ?_
                exact k_sub [6, 7, 8, 9, 10, 11, 12, 2, 1, 0] rfl (jb_L_law_341 K G S _ _ _ _ _ _ _ F rec44 hrec44 hr)
              · refine k_aload_n K dL_law_321 8 rfl ?_
                refine k_iload K dL_law_322 0 rfl ?_
                refine k_iaload K (z := 32) lz176 lt176 dL_law_324 hr (fun hr => ?_)
                refine k_iconst K dL_law_325 (v := 1) rfl ?_
                refine k_icmp_ne K dL_law_326 (tgt := 336) (by decide) hr (fun hr => ?_) (fun hr => ?_)
                · refine k_iconst K dL_law_336 (v := 1) rfl ?_
                  refine k_goto K dL_law_337 (tgt := 341) (by decide) ?_
                  exact k_sub [6, 7, 8, 9, 10, 11, 12, 2, 1, 0] rfl (jb_L_law_341 K G S _ _ _ _ _ _ _ F rec44 hrec44 hr)
                · refine k_aload_n K dL_law_329 8 rfl ?_
                  refine k_iload K dL_law_330 2 rfl ?_
                  refine k_iaload K (z := 32) lz176 lt176 dL_law_332 hr (fun hr => ?_)
                  refine k_if_ne K dL_law_333 (tgt := 340) (by decide) hr (fun hr => ?_) (fun hr => ?_)
                  · refine k_iconst K dL_law_340 (v := 0) rfl ?_
                    exact k_sub [6, 7, 8, 9, 10, 11, 12, 2, 1, 0] rfl (jb_L_law_341 K G S _ _ _ _ _ _ _ F rec44 hrec44 hr)
                  · refine k_iconst K dL_law_336 (v := 1) rfl ?_
                    refine k_goto K dL_law_337 (tgt := 341) (by decide) ?_
                    exact k_sub [6, 7, 8, 9, 10, 11, 12, 2, 1, 0] rfl (jb_L_law_341 K G S _ _ _ _ _ _ _ F rec44 hrec44 hr)
        · refine k_aload_n K dL_law_207 7 rfl ?_
          refine k_iload K dL_law_208 1 rfl ?_
          refine k_iaload K (z := 32) lz176 lt176 dL_law_210 hr (fun hr => ?_)
          refine k_iconst K dL_law_211 (v := 2) rfl ?_
          refine k_icmp_ne K dL_law_212 (tgt := 1132) (by decide) hr (fun hr => ?_) (fun hr => ?_)
          · exact k_sub [5, 6, 7, 8, 9, 10, 11, 0] rfl (jb_L_law_1132 K G S _ _ _ _ F rec44 hrec44 hr)
          · refine k_aload K dL_law_215 9 rfl ?_
            refine k_iload K dL_law_217 1 rfl ?_
            refine k_iaload K (z := 32) lz178 lt178 dL_law_219 hr (fun hr => ?_)
            refine k_bipush K dL_law_220 (v := 20) rfl ?_
            refine k_icmp_ge K dL_law_222 (tgt := 1132) (by decide) hr (fun hr => ?_) (fun hr => ?_)
            · exact k_sub [5, 6, 7, 8, 9, 10, 11, 0] rfl (jb_L_law_1132 K G S _ _ _ _ F rec44 hrec44 hr)
            · refine k_iload K dL_law_225 3 rfl ?_
              refine k_iconst K dL_law_227 (v := 5) rfl ?_
              refine k_ishr K dL_law_228 ?_
              refine k_bipush K dL_law_229 (v := 9) rfl ?_
              refine k_sI2 K hr (fun v h => c_L_low X (t7 >>> ((5) &&& 31)) (9) h) ms_L_28 rfl (by decide) (by decide) (Nat.le_of_ble_eq_true rfl) dL_law_231 (fun t51 hr => ?_)
              refine k_istore K dL_law_234 (by decide) ?_
              refine k_aload_n K dL_law_236 7 rfl ?_
              refine k_iload K dL_law_237 2 rfl ?_
              refine k_iload K dL_law_239 0 rfl ?_
              refine k_bipush K dL_law_241 (v := 7) rfl ?_
              refine k_icmp_ne K dL_law_243 (tgt := 251) (by decide) hr (fun hr => ?_) (fun hr => ?_)
              · refine k_iload K dL_law_251 0 rfl ?_
                refine k_bipush K dL_law_253 (v := 8) rfl ?_
                refine k_icmp_ne K dL_law_255 (tgt := 263) (by decide) hr (fun hr => ?_) (fun hr => ?_)
                · refine k_iload K dL_law_263 0 rfl ?_
                  exact k_sub [6, 7, 8, 9, 10, 11, 12, 2] rfl (jb_L_law_265 K G S _ _ _ _ _ _ F rec44 hrec44 hr)
                · refine k_bipush K dL_law_258 (v := -3) rfl ?_
                  refine k_goto K dL_law_260 (tgt := 265) (by decide) ?_
                  exact k_sub [6, 7, 8, 9, 10, 11, 12, 2] rfl (jb_L_law_265 K G S _ _ _ _ _ _ F rec44 hrec44 hr)
              · refine k_bipush K dL_law_246 (v := -2) rfl ?_
                refine k_goto K dL_law_248 (tgt := 265) (by decide) ?_
                exact k_sub [6, 7, 8, 9, 10, 11, 12, 2] rfl (jb_L_law_265 K G S _ _ _ _ _ _ F rec44 hrec44 hr)
      · exact k_sub [5, 6, 7, 8, 9, 10, 11, 3, 1, 0] rfl (jb_L_law_106 K G S _ _ _ _ _ _ F rec44 hrec44 hr)
theorem jf_L_law {κ : JK} (K : jOk 19 cL_law RL (some .boolean) 9 κ) (G : jB κ) {sb : Nat} {g : Int32 → Int32} (S : jS sb g κ) (X : JX) {r : Int32} (F : jLw r κ) (hr : f_L_law g X = some r) : JB LZ 19 κ X 24 [(0, .ref sb), (1, .ref (jad κ (0))), (2, .ref (jad κ (176))), (3, .ref (jad κ (177))), (4, .ref (jad κ (178)))] [] := by
  unfold f_L_law at hr
  refine k_iconst K dL_law_24 (v := 1) rfl ?_
  refine k_istore K dL_law_25 (by decide) ?_
  refine k_aload_n K dL_law_27 3 rfl ?_
  refine k_iconst K dL_law_28 (v := 0) rfl ?_
  refine k_iconst K dL_law_29 (v := 1) rfl ?_
  refine k_iastoreV K (z := 32) lz176 lt176 (by decide) dL_law_30 hr (fun X1 hr => ?_)
  refine k_aload_n K dL_law_31 4 rfl ?_
  refine k_iconst K dL_law_32 (v := 0) rfl ?_
  refine k_iconst K dL_law_33 (v := -1) rfl ?_
  refine k_iastoreV K (z := 32) lz177 lt177 (by decide) dL_law_34 hr (fun X2 hr => ?_)
  refine k_aload_n K dL_law_35 2 rfl ?_
  refine k_iconst K dL_law_36 (v := 0) rfl ?_
  refine k_vT1 K G hr (fun v h => c_X10_watch X2 (0) h) ml_L_19 ⟨_, rfl, rfl⟩ rfl (by decide) (by decide) (Nat.le_of_ble_eq_true rfl) dL_law_37 (fun t3 X5 hr => ?_)
  refine k_pop K dL_law_40 rfl ?_
  refine k_iconst K dL_law_41 (v := 0) rfl ?_
  refine k_istore K dL_law_42 (by decide) ?_
  exact k_sub [2, 3, 4, 5, 6, 1, 0] rfl (jl_L_law_44 K G S F _ _ _ hr)

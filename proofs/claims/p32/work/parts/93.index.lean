/-! ===== the index in counts ===== -/
def pc (g h D : Nat → Int32) (P : Nat) (q : Int32 → Int32 → Int32 → Bool) : Nat := cnt (fun k => q (g k) (h k) (D k)) P 0
def sA (s : Nat) : Int32 → Int32 → Int32 → Bool := fun a _ _ => decide (a = nI s)
def sL (s : Nat) : Int32 → Int32 → Int32 → Bool := fun a _ c => decide (a = nI s) && decide (c = 0)
def sD (s : Nat) : Int32 → Int32 → Int32 → Bool := fun a _ c => decide (a = nI s) && !decide (c = 0)
def sN (s n : Nat) : Int32 → Int32 → Int32 → Bool := fun a b _ => decide (a = nI s) && decide (b = nI n)
def nL (n : Nat) : Int32 → Int32 → Int32 → Bool := fun _ b c => decide (b = nI n) && decide (c = 0)
def sNL (s n : Nat) : Int32 → Int32 → Int32 → Bool := fun a b c => decide (a = nI s) && (decide (b = nI n) && decide (c = 0))
theorem cnt_split {p q : Nat → Bool} : ∀ m i, cnt p m i = cnt (fun k => p k && q k) m i + cnt (fun k => p k && !q k) m i := by
  intro m
  induction m with
  | zero => intro i; rfl
  | succ m ih =>
    intro i
    rw [cnt_s, cnt_s, cnt_s, ih (i + 1)]
    cases p i <;> cases q i <;> simp <;> omega
theorem cnt_mono {p q : Nat → Bool} : ∀ m i, (∀ j, i ≤ j → j < i + m → p j = true → q j = true) → cnt p m i ≤ cnt q m i := by
  intro m
  induction m with
  | zero => intro i _; exact Nat.le_refl _
  | succ m ih =>
    intro i h
    rw [cnt_s, cnt_s]
    have h1 := ih (i + 1) (fun j a b => h j (by omega) (by omega))
    by_cases e : p i = true
    · rw [if_pos e, if_pos (h i (Nat.le_refl _) (by omega) e)]; omega
    · rw [if_neg e]; omega
theorem cnt_ex {p : Nat → Bool} {m : Nat} : 0 < cnt p m 0 ↔ ∃ j, j < m ∧ p j = true := by
  rw [cnt_anyl, anyl_iff]
  exact ⟨fun ⟨r, _, b, c⟩ => ⟨r, by omega, c⟩, fun ⟨r, b, c⟩ => ⟨r, Nat.zero_le _, by omega, c⟩⟩
theorem cnt_uniq {p : Nat → Bool} : ∀ m i, cnt p m i ≤ 1 → ∀ j k, i ≤ j → j < i + m → i ≤ k → k < i + m → p j = true → p k = true → j = k := by
  intro m
  induction m with
  | zero => intro i _ j k a b; omega
  | succ m ih =>
    intro i h j k a b c d hj hk
    rw [cnt_s] at h
    have key : ∀ x, i + 1 ≤ x → x < i + 1 + m → p x = true → p i = true → False := fun x h1 h2 hx hi => by
      have : 0 < cnt p m (i + 1) := (cnt_anyl m (i + 1)).mpr ((anyl_iff p m (i + 1)).mpr ⟨x, h1, h2, hx⟩)
      rw [if_pos hi] at h
      omega
    by_cases q1 : j = i
    · by_cases q2 : k = i
      · omega
      · exact (key k (by omega) (by omega) hk (by rw [← q1]; exact hj)).elim
    · by_cases q2 : k = i
      · exact (key j (by omega) (by omega) hj (by rw [← q2]; exact hk)).elim
      · exact ih (i + 1) (by omega) j k (by omega) (by omega) (by omega) (by omega) hj hk
theorem cnt_le1 {p : Nat → Bool} : ∀ m i, (∀ j k, i ≤ j → j < i + m → i ≤ k → k < i + m → p j = true → p k = true → j = k) → cnt p m i ≤ 1 := by
  intro m
  induction m with
  | zero => intro i _; exact Nat.zero_le _
  | succ m ih =>
    intro i h
    rw [cnt_s]
    by_cases e : p i = true
    · have : cnt p m (i + 1) = 0 := cnt_0 m (i + 1) (fun j a b => by
        cases z : p j with
        | false => rfl
        | true =>
          have := h i j (Nat.le_refl _) (by omega) (by omega) (by omega) e z
          omega)
      rw [if_pos e, this]
      exact Nat.le_refl _
    · rw [if_neg e]
      have := ih (i + 1) (fun j k a b c d => h j k (by omega) (by omega) (by omega) (by omega))
      omega
/-- the index, in counts -/
def ID (ok : Nat → Prop) (lv : Int32 → Prop) (X : JX) (g h D : Nat → Int32) (P S : Nat) : Prop := (∀ k, k < P → (∃ s, s < S ∧ g k = nI s) ∧ (∃ n, n < 60 ∧ h k = nI n ∧ ok n) ∧ (D k = 0 ∧ lv (h k) ∨ D k = 1)) ∧ (∀ s n, s < S → n < 60 → pc g h D P (sN s n) ≤ 1) ∧ (∀ n, n < 60 → pc g h D P (nL n) ≤ 1) ∧ (∀ s, s < S → X 51 s = nI (pc g h D P (sL s)) ∧ X 52 s = nI (pc g h D P (sD s))) ∧ ∀ n, n < 60 → (X 50 n = -1 ∧ pc g h D P (nL n) = 0) ∨ ∃ s, s < S ∧ X 50 n = nI s ∧ 0 < pc g h D P (sNL s n)
theorem pc_congr {g h D g' h' D' : Nat → Int32} {P : Nat} (e : ∀ k, k < P → g k = g' k ∧ h k = h' k ∧ D k = D' k) (q : Int32 → Int32 → Int32 → Bool) : pc g h D P q = pc g' h' D' P q := cnt_congr P 0 (fun j _ hj => by
  obtain ⟨a, b, c⟩ := e j (by omega)
  rw [a, b, c])
theorem ID.congr {ok : Nat → Prop} {lv : Int32 → Prop} {X : JX} {g h D g' h' D' : Nat → Int32} {P S : Nat} (H : ID ok lv X g h D P S) (e : ∀ k, k < P → g k = g' k ∧ h k = h' k ∧ D k = D' k) : ID ok lv X g' h' D' P S := by
  have hp := fun q => pc_congr e q
  obtain ⟨a, b, c, d, f⟩ := H
  refine ⟨fun k hk => ?_, fun s n hs hn => by rw [← hp]; exact b s n hs hn, fun n hn => by rw [← hp]; exact c n hn, fun s hs => by rw [← hp, ← hp]; exact d s hs, fun n hn => ?_⟩
  · obtain ⟨e1, e2, e3⟩ := e k hk
    rw [← e1, ← e2, ← e3]
    exact a k hk
  · rw [← hp]
    rcases f n hn with z | ⟨s, z1, z2, z3⟩
    · exact Or.inl z
    · exact Or.inr ⟨s, z1, z2, by rw [← hp]; exact z3⟩
theorem ID.cells {ok : Nat → Prop} {lv : Int32 → Prop} {X X' : JX} {g h D : Nat → Int32} {P S : Nat} (H : ID ok lv X g h D P S) (x50 : X' 50 = X 50) (x51 : X' 51 = X 51) (x52 : X' 52 = X 52) : ID ok lv X' g h D P S := by
  unfold ID
  rw [x50, x51, x52]
  exact H
theorem ID.of {ok : Nat → Prop} {lv : Int32 → Prop} {X Y : JX} {P S : Nat} (hS : S ≤ 4) (h1 : IY Y P S) (h2 : IX X Y P S) (hok : ∀ k n, k < P → n < 60 → Y 29 k = nI n → ok n) (hlv : ∀ k, k < P → Y 30 k = 0 → lv (Y 29 k)) : ID ok lv X (Y 28) (Y 29) (Y 30) P S := by
  obtain ⟨-, a, b, c⟩ := h1
  obtain ⟨-, d, e⟩ := h2
  refine ⟨fun k hk => ?_, fun s n hs hn => cnt_le1 P 0 (fun j k _ hj _ hk p1 p2 => ?_), fun n hn => cnt_le1 P 0 (fun j k _ hj _ hk p1 p2 => ?_), fun s hs => ?_, fun n hn => ?_⟩
  · obtain ⟨z1, ⟨n, hn, en, -⟩, z3⟩ := a k hk
    exact ⟨z1, ⟨n, hn, en, hok k n hk hn en⟩, z3.imp (fun z => ⟨z, hlv k hk z⟩) id⟩
  · unfold sN at p1 p2
    rw [Bool.and_eq_true, decide_eq_true_eq, decide_eq_true_eq] at p1 p2
    exact b j k (by omega) (by omega) (p1.1.trans p2.1.symm) (p1.2.trans p2.2.symm)
  · unfold nL at p1 p2
    rw [Bool.and_eq_true, decide_eq_true_eq, decide_eq_true_eq] at p1 p2
    exact c j k (by omega) (by omega) (p1.1.trans p2.1.symm) p1.2 p2.2
  · obtain ⟨z1, z2⟩ := d s hs
    refine ⟨z1.trans (congrArg nI (cnt_congr P 0 (fun k _ _ => ?_))), z2.trans (congrArg nI (cnt_congr P 0 (fun k _ _ => ?_)))⟩
    · unfold liveP sL
      by_cases q1 : Y 28 k = nI s <;> by_cases q2 : Y 30 k = 0 <;> simp [q1, q2]
    · unfold deadP sD
      by_cases q1 : Y 28 k = nI s <;> by_cases q2 : Y 30 k = 0 <;> simp [q1, q2]
  · rcases e n hn with ⟨z1, z2⟩ | ⟨s, k, hs, hk, z1, z2, z3, z4⟩
    · refine Or.inl ⟨z1, cnt_0 P 0 (fun k _ hk => ?_)⟩
      unfold nL
      by_cases q1 : Y 29 k = nI n
      · rw [decide_eq_false (z2 k (by omega) q1), Bool.and_false]
      · rw [decide_eq_false q1, Bool.false_and]
    · refine Or.inr ⟨s, hs, z1, cnt_ex.mpr ⟨k, hk, ?_⟩⟩
      unfold sNL
      rw [decide_eq_true z2, decide_eq_true z3, decide_eq_true z4]
      rfl
theorem ID.to {ok : Nat → Prop} {lv : Int32 → Prop} {X Y : JX} {P S : Nat} (H : ID ok lv X (Y 28) (Y 29) (Y 30) P S) (h37 : Y 0 37 = nI P) (h41 : Y 0 41 = nI S) (x49 : X 49 3 = nI S) (hok : ∀ n, n < 60 → ok n → nI n < Y 0 2 ∧ Y 2 n = 0) : IY Y P S ∧ IX X Y P S := by
  obtain ⟨a, b, c, d, e⟩ := H
  refine ⟨⟨⟨h37, h41⟩, fun k hk => ?_, fun k k' hk hk' e1 e2 => ?_, fun k k' hk hk' e1 e2 e3 => ?_⟩, x49, fun s hs => ?_, fun n hn => ?_⟩
  · obtain ⟨z1, ⟨n, hn, en, ho⟩, z3⟩ := a k hk
    exact ⟨z1, ⟨n, hn, en, hok n hn ho⟩, z3.imp (fun z => z.1) id⟩
  · obtain ⟨⟨s, hs, es⟩, ⟨n, hn, en, -⟩, -⟩ := a k hk
    refine cnt_uniq P 0 (b s n hs hn) k k' (Nat.zero_le _) (by omega) (Nat.zero_le _) (by omega) ?_ ?_
    · unfold sN
      rw [decide_eq_true es, decide_eq_true en]; rfl
    · unfold sN
      rw [decide_eq_true (e1.symm.trans es), decide_eq_true (e2.symm.trans en)]; rfl
  · obtain ⟨-, ⟨n, hn, en, -⟩, -⟩ := a k hk
    refine cnt_uniq P 0 (c n hn) k k' (Nat.zero_le _) (by omega) (Nat.zero_le _) (by omega) ?_ ?_
    · unfold nL
      rw [decide_eq_true en, decide_eq_true e2]; rfl
    · unfold nL
      rw [decide_eq_true (e1.symm.trans en), decide_eq_true e3]; rfl
  · obtain ⟨z1, z2⟩ := d s hs
    refine ⟨z1.trans (congrArg nI (cnt_congr P 0 (fun k _ _ => ?_))), z2.trans (congrArg nI (cnt_congr P 0 (fun k _ _ => ?_)))⟩
    · unfold liveP sL
      by_cases q1 : Y 28 k = nI s <;> by_cases q2 : Y 30 k = 0 <;> simp [q1, q2]
    · unfold deadP sD
      by_cases q1 : Y 28 k = nI s <;> by_cases q2 : Y 30 k = 0 <;> simp [q1, q2]
  · rcases e n hn with ⟨z1, z2⟩ | ⟨s, hs, z1, z2⟩
    · refine Or.inl ⟨z1, fun k hk en ed => ?_⟩
      have : 0 < pc (Y 28) (Y 29) (Y 30) P (nL n) := cnt_ex.mpr ⟨k, hk, by unfold nL; rw [decide_eq_true en, decide_eq_true ed]; rfl⟩
      omega
    · obtain ⟨k, hk, ek⟩ := cnt_ex.mp z2
      unfold sNL at ek
      rw [Bool.and_eq_true, Bool.and_eq_true, decide_eq_true_eq, decide_eq_true_eq, decide_eq_true_eq] at ek
      exact Or.inr ⟨s, k, hs, hk, z1, ek.1, ek.2.1, ek.2.2⟩
theorem pc_P {g h D : Nat → Int32} {P : Nat} {q : Int32 → Int32 → Int32 → Bool} : pc g h D P q ≤ P := cnt_le _ P 0
theorem ID.P {ok : Nat → Prop} {lv : Int32 → Prop} {X : JX} {g h D : Nat → Int32} {P S : Nat} (H : ID ok lv X g h D P S) (hS : S ≤ 4) : P ≤ 60 * S := by
  refine holes (60 * S) P (fun k => 60 * (g k).toNatClampNeg + (h k).toNatClampNeg) (fun k hk => ?_) (fun k k' hkk hk' => ?_)
  · obtain ⟨⟨s, hs, es⟩, ⟨n, hn, en, -⟩, -⟩ := H.1 k hk
    show 60 * (g k).toNatClampNeg + (h k).toNatClampNeg < 60 * S
    rw [es, en, nI_clamp (show s < 2 ^ 31 by omega), nI_clamp (sm hn)]
    omega
  · obtain ⟨⟨s, hs, es⟩, ⟨n, hn, en, -⟩, -⟩ := H.1 k (by omega)
    obtain ⟨⟨s', hs', es'⟩, ⟨n', hn', en', -⟩, -⟩ := H.1 k' hk'
    show 60 * (g k).toNatClampNeg + (h k).toNatClampNeg ≠ 60 * (g k').toNatClampNeg + (h k').toNatClampNeg
    rw [es, en, es', en', nI_clamp (show s < 2 ^ 31 by omega), nI_clamp (sm hn), nI_clamp (show s' < 2 ^ 31 by omega), nI_clamp (sm hn')]
    intro e
    have e1 : s = s' := by omega
    have e2 : n = n' := by omega
    have := cnt_uniq P 0 (H.2.1 s n hs hn) k k' (Nat.zero_le _) (by omega) (Nat.zero_le _) (by omega) (by unfold sN; rw [decide_eq_true es, decide_eq_true en]; rfl) (by unfold sN; rw [decide_eq_true (es'.trans (by rw [e1])), decide_eq_true (en'.trans (by rw [e2]))]; rfl)
    omega
theorem ID.lv {ok : Nat → Prop} {lv lv' : Int32 → Prop} {X : JX} {g h D : Nat → Int32} {P S : Nat} (H : ID ok lv X g h D P S) (hl : ∀ k, k < P → D k = 0 → lv' (h k)) : ID ok lv' X g h D P S := ⟨fun k hk => by
  obtain ⟨z1, z2, z3⟩ := H.1 k hk
  exact ⟨z1, z2, z3.imp (fun z => ⟨z.1, hl k hk z.1⟩) id⟩, H.2⟩
theorem ID.b {ok : Nat → Prop} {lv : Int32 → Prop} {X : JX} {g h D : Nat → Int32} {P S : Nat} (H : ID ok lv X g h D P S) (k : Nat) (hk : k < P) : D k = 0 ∨ D k = 1 := (H.1 k hk).2.2.imp (fun z => z.1) id
/-! a node's places die, and the class buries it -/
def kil (h D : Nat → Int32) (n : Nat) : Nat → Int32 := fun k => if h k = nI n then 1 else D k
theorem kil_sL {g h D : Nat → Int32} {P n t : Nat} : pc g h (kil h D n) P (sL t) + pc g h D P (sNL t n) = pc g h D P (sL t) := by
  have e := cnt_split (p := fun k => sL t (g k) (h k) (D k)) (q := fun k => decide (h k = nI n)) P 0
  have e1 : pc g h (kil h D n) P (sL t) = cnt (fun k => sL t (g k) (h k) (D k) && !decide (h k = nI n)) P 0 := cnt_congr P 0 (fun k _ _ => by
    unfold sL kil
    by_cases q : h k = nI n <;> simp [q])
  have e2 : pc g h D P (sNL t n) = cnt (fun k => sL t (g k) (h k) (D k) && decide (h k = nI n)) P 0 := cnt_congr P 0 (fun k _ _ => by
    unfold sNL sL
    by_cases q1 : g k = nI t <;> by_cases q : h k = nI n <;> simp [q1, q])
  have e3 : pc g h D P (sL t) = cnt (fun k => sL t (g k) (h k) (D k)) P 0 := rfl
  omega
theorem kil_sD {g h D : Nat → Int32} {P n t : Nat} : pc g h (kil h D n) P (sD t) = pc g h D P (sD t) + pc g h D P (sNL t n) := by
  have e := cnt_split (p := fun k => sD t (g k) (h k) (kil h D n k)) (q := fun k => decide (D k = 0)) P 0
  have e1 : pc g h D P (sNL t n) = cnt (fun k => sD t (g k) (h k) (kil h D n k) && decide (D k = 0)) P 0 := cnt_congr P 0 (fun k _ _ => by
    unfold sNL sD kil
    by_cases q1 : g k = nI t <;> by_cases q : h k = nI n <;> by_cases q3 : D k = 0 <;> simp [q1, q, q3])
  have e2 : pc g h D P (sD t) = cnt (fun k => sD t (g k) (h k) (kil h D n k) && !decide (D k = 0)) P 0 := cnt_congr P 0 (fun k _ _ => by
    unfold sD kil
    by_cases q1 : g k = nI t <;> by_cases q : h k = nI n <;> by_cases q3 : D k = 0 <;> simp [q1, q, q3])
  have e3 : pc g h (kil h D n) P (sD t) = cnt (fun k => sD t (g k) (h k) (kil h D n k)) P 0 := rfl
  omega
theorem kil_nL {g h D : Nat → Int32} {P n m : Nat} (hn : n < 60) (hm : m < 60) : pc g h (kil h D n) P (nL m) = if m = n then 0 else pc g h D P (nL m) := by
  by_cases q : m = n
  · rw [if_pos q]
    refine cnt_0 P 0 (fun k _ _ => ?_)
    unfold nL kil
    by_cases z : h k = nI n <;> simp [z, q]
  · rw [if_neg q]
    refine cnt_congr P 0 (fun k _ _ => ?_)
    unfold nL kil
    by_cases z : h k = nI n
    · rw [z, decide_eq_false (show ¬ nI n = nI m from fun w => q ((nI_eq (sm hn) (sm hm)).mp w).symm)]; rfl
    · rw [if_neg z]
theorem kil_sNL {g h D : Nat → Int32} {P n m t : Nat} (hn : n < 60) (hm : m < 60) (q : m ≠ n) : pc g h (kil h D n) P (sNL t m) = pc g h D P (sNL t m) := by
  refine cnt_congr P 0 (fun k _ _ => ?_)
  unfold sNL kil
  by_cases z : h k = nI n
  · rw [z, decide_eq_false (show ¬ nI n = nI m from fun w => q ((nI_eq (sm hn) (sm hm)).mp w).symm)]; simp
  · rw [if_neg z]
theorem c_bury {ok : Nat → Prop} {lv : Int32 → Prop} {X : JX} {g h D : Nat → Int32} {P S n : Nat} (H : ID ok lv X g h D P S) (hS : S ≤ 4) (hn : n < 60) : ∃ X', f_X3_bury X (nI n) = some X' ∧ ID ok lv X' g h (kil h D n) P S ∧ (∀ q, q ≠ 50 → q ≠ 51 → q ≠ 52 → X' q = X q) ∧ X' 50 n = -1 ∧ ∀ m, m ≠ n → X' 50 m = X 50 m := by
  have hP := H.P hS
  obtain ⟨a, b, c, d, e⟩ := H
  have ok6 := n_ok60 hn
  have cl := nI_clamp (sm hn)
  have hval : ∀ k, k < P → (∃ s, s < S ∧ g k = nI s) ∧ (∃ m, m < 60 ∧ h k = nI m ∧ ok m) ∧ (kil h D n k = 0 ∧ lv (h k) ∨ kil h D n k = 1) := fun k hk => by
    obtain ⟨z1, z2, z3⟩ := a k hk
    refine ⟨z1, z2, ?_⟩
    unfold kil
    split
    · exact Or.inr rfl
    · exact z3
  have hsN : ∀ s m, s < S → m < 60 → pc g h (kil h D n) P (sN s m) ≤ 1 := fun s m hs hm => b s m hs hm
  have hnL : ∀ m, m < 60 → pc g h (kil h D n) P (nL m) ≤ 1 := fun m hm => by
    rw [kil_nL hn hm]
    split
    · exact Nat.zero_le _
    · exact c m hm
  rcases e n hn with ⟨z1, z2⟩ | ⟨s, hs, z1, z2⟩
  · have hz : ∀ t, pc g h D P (sNL t n) = 0 := fun t => by
      have : pc g h D P (sNL t n) ≤ pc g h D P (nL n) := cnt_mono P 0 (fun k _ _ w => by
        unfold sNL at w
        unfold nL
        rw [Bool.and_eq_true] at w
        exact w.2)
      omega
    refine ⟨pX X 50 (upd (X 50) n (-1)), ?_, ⟨hval, hsN, hnL, fun t ht => ?_, fun m hm => ?_⟩, fun q h1 _ _ => if_neg h1, ?_, fun m hm => ?_⟩
    · unfold f_X3_bury b_X3_bury_47
      rw [if_neg (nI_pos (sm hn)), if_pos (show nI n < 60 from nI_lt (b := 60) hn (by decide)), if_pos ok6, cl, z1, dV_eq, if_pos (show (-1 : Int32) < 0 by decide), if_pos ok6, dX_eq]
    · have e1 := kil_sL (g := g) (h := h) (D := D) (P := P) (n := n) (t := t)
      rw [hz, Nat.add_zero] at e1
      have e2 := kil_sD (g := g) (h := h) (D := D) (P := P) (n := n) (t := t)
      rw [hz, Nat.add_zero] at e2
      rw [e1, e2]
      exact d t ht
    · rw [kil_nL hn hm]
      show (upd (X 50) n (-1) m = -1 ∧ _) ∨ ∃ s, s < S ∧ upd (X 50) n (-1) m = nI s ∧ _
      rw [u_at]
      by_cases q : m = n
      · rw [if_pos q, if_pos q]; exact Or.inl ⟨rfl, rfl⟩
      · rw [if_neg q, if_neg q]
        rcases e m hm with w | ⟨t, w1, w2, w3⟩
        · exact Or.inl w
        · exact Or.inr ⟨t, w1, w2, by rw [kil_sNL hn hm q]; exact w3⟩
    · show upd (X 50) n (-1) n = -1
      rw [u_at, if_pos rfl]
    · show upd (X 50) n (-1) m = X 50 m
      rw [u_at, if_neg hm]
  · have h1 : pc g h D P (sNL s n) = 1 := by
      have : pc g h D P (sNL s n) ≤ pc g h D P (sN s n) := cnt_mono P 0 (fun k _ _ w => by
        unfold sNL at w
        unfold sN
        rw [Bool.and_eq_true, Bool.and_eq_true] at w
        rw [w.1, w.2.1]; rfl)
      have := b s n hs hn
      omega
    have h0 : ∀ t, t < S → t ≠ s → pc g h D P (sNL t n) = 0 := fun t ht hts => by
      by_cases w : 0 < pc g h D P (sNL t n)
      · obtain ⟨k, hk, ek⟩ := cnt_ex.mp w
        obtain ⟨k2, hk2, ek2⟩ := cnt_ex.mp z2
        unfold sNL at ek ek2
        rw [Bool.and_eq_true] at ek ek2
        have := cnt_uniq P 0 (c n hn) k k2 (Nat.zero_le _) (by omega) (Nat.zero_le _) (by omega) ek.2 ek2.2
        subst this
        have w1 := of_decide_eq_true ek.1
        have w2 := of_decide_eq_true ek2.1
        rw [w1] at w2
        exact absurd ((nI_eq (by omega) (by omega)).mp w2) hts
      · omega
    obtain ⟨ds, dd⟩ := d s hs
    have hsL := kil_sL (g := g) (h := h) (D := D) (P := P) (n := n) (t := s)
    have hsD := kil_sD (g := g) (h := h) (D := D) (P := P) (n := n) (t := s)
    have hPl : pc g h D P (sL s) ≤ P := pc_P
    have hPd : pc g h D P (sD s) ≤ P := pc_P
    have ok4 := n_ok4 (show s < 4 by omega)
    have cls := nI_clamp (show s < 2 ^ 31 by omega)
    refine ⟨pX (pX (pX X 51 (upd (X 51) s (nI (pc g h (kil h D n) P (sL s))))) 52 (upd (X 52) s (nI (pc g h (kil h D n) P (sD s))))) 50 (upd (X 50) n (-1)), ?_, ⟨hval, hsN, hnL, fun t ht => ?_, fun m hm => ?_⟩, fun q h1 h2 h3 => (if_neg h1).trans ((if_neg h3).trans (if_neg h2)), ?_, fun m hm => ?_⟩
    · unfold f_X3_bury b_X3_bury_47
      rw [if_neg (nI_pos (sm hn)), if_pos (show nI n < 60 from nI_lt (b := 60) hn (by decide)), if_pos ok6, cl, z1, dV_eq, if_neg (nI_pos (show s < 2 ^ 31 by omega)), if_neg (show ¬ (3 : Int32) < nI s from fun z => by have := (nI_ltI (a := 3) (b := s) (by decide) (by omega)).mp z; omega), if_pos ok4, if_pos ok4, cls, ds, n_sub1 (show 0 < pc g h D P (sL s) by omega), dX_eq, if_pos ok4, if_pos ok4]
      rw [show (pX X 51 (upd (X 51) s (nI (pc g h D P (sL s) - 1)))) 52 s = nI (pc g h D P (sD s)) from dd, n_add1, dX_eq, if_pos ok6, dX_eq]
      rw [show pc g h (kil h D n) P (sL s) = pc g h D P (sL s) - 1 by omega, show pc g h (kil h D n) P (sD s) = pc g h D P (sD s) + 1 by omega]
      rfl
    · show upd (X 51) s (nI (pc g h (kil h D n) P (sL s))) t = _ ∧ upd (X 52) s (nI (pc g h (kil h D n) P (sD s))) t = _
      rw [u_at, u_at]
      by_cases q : t = s
      · rw [if_pos q, if_pos q, q]; exact ⟨rfl, rfl⟩
      · have e1 := kil_sL (g := g) (h := h) (D := D) (P := P) (n := n) (t := t)
        rw [h0 t ht q, Nat.add_zero] at e1
        have e2 := kil_sD (g := g) (h := h) (D := D) (P := P) (n := n) (t := t)
        rw [h0 t ht q, Nat.add_zero] at e2
        rw [if_neg q, if_neg q, e1, e2]
        exact d t ht
    · rw [kil_nL hn hm]
      show (upd (X 50) n (-1) m = -1 ∧ _) ∨ ∃ s, s < S ∧ upd (X 50) n (-1) m = nI s ∧ _
      rw [u_at]
      by_cases q : m = n
      · rw [if_pos q, if_pos q]; exact Or.inl ⟨rfl, rfl⟩
      · rw [if_neg q, if_neg q]
        rcases e m hm with w | ⟨t, w1, w2, w3⟩
        · exact Or.inl w
        · exact Or.inr ⟨t, w1, w2, by rw [kil_sNL hn hm q]; exact w3⟩
    · show upd (X 50) n (-1) n = -1
      rw [u_at, if_pos rfl]
    · show upd (X 50) n (-1) m = X 50 m
      rw [u_at, if_neg hm]

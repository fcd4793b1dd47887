/-! ===== open to a person ===== -/
theorem and1 (x : Int32) : x &&& 1 = 0 ∨ x &&& 1 = 1 := by
  have h : ∃ k : Nat, k < 2 ∧ x &&& 1 = nI k := by
    refine ⟨(x &&& 1).toBitVec.toNat, ?_, ?_⟩
    · have h : (x &&& 1).toBitVec = x.toBitVec &&& 1#32 := rfl
      rw [h, BitVec.toNat_and]
      exact Nat.lt_of_le_of_lt Nat.and_le_right (by decide)
    · apply Int32.toBitVec_inj.mp
      show _ = BitVec.ofNat 32 _
      rw [BitVec.ofNat_toNat, BitVec.setWidth_eq]
  obtain ⟨k, hk, e⟩ := h
  rcases (show k = 0 ∨ k = 1 by omega) with rfl | rfl
  · exact Or.inl e
  · exact Or.inr e
def opn (b : Nat → Bool) (pr : Nat → Option Nat) : Nat → Option Nat → Bool
  | 0, _ => true
  | _ + 1, none => true
  | m + 1, some n => b n && opn b pr m (pr n)
theorem opn_s (b : Nat → Bool) (pr : Nat → Option Nat) (m n : Nat) : opn b pr (m + 1) (some n) = (b n && opn b pr m (pr n)) := rfl
theorem opn_n (b : Nat → Bool) (pr : Nat → Option Nat) (m : Nat) : opn b pr m none = true := by cases m <;> rfl
theorem opn_up {b : Nat → Bool} {pr : Nat → Option Nat} : ∀ K u, it pr K u = none → ∀ d, opn b pr (K + d) u = opn b pr K u := by
  intro K
  induction K with
  | zero => intro u h d; rw [show u = none from h, opn_n, opn_n]
  | succ K ih =>
    intro u h d
    cases u with
    | none => rw [opn_n, opn_n]
    | some n => rw [show K + 1 + d = (K + d) + 1 by omega, opn_s, opn_s, ih (pr n) h d]
def bit (S : Nat → Int32) (p : Int32) (n : Nat) : Bool := decide (¬ (S n >>> (p &&& 31)) &&& 1 = 0)
theorem x_opn_loop {X : JX} {pr : Nat → Option Nat} {p : Int32} (hp : ∀ n, n < 60 → X 2 n = enc (pr n)) (hl : ∀ n m, pr n = some m → m < 60) : ∀ m i F u, i + m = 60 → m + 1 ≤ F → (∀ n, u = some n → n < 60) → loop2 (lb_X9_isOpenTo_5 X p) F (enc u) (nI i) = some (bB (opn (bit (X 7) p) pr m u)) := by
  intro m
  induction m with
  | zero =>
    intro i F u hi hF hu
    obtain ⟨F', rfl⟩ := Nat.exists_eq_add_of_le' hF
    have : i = 60 := by omega
    subst this
    rw [zl2]
    generalize hR9 : loop2 _ F' = R9
    unfold lb_X9_isOpenTo_5
    rw [if_pos g60]
    rfl
  | succ m ih =>
    intro i F u hi hF hu
    obtain ⟨F', rfl⟩ := Nat.exists_eq_add_of_le' (show 1 ≤ F by omega)
    rw [zl2]
    have h9 := fun u hu => ih (i + 1) F' u (by omega) (by omega) hu
    generalize hR9 : loop2 _ F' = R9 at h9
    unfold lb_X9_isOpenTo_5
    rw [if_neg (nl60 (show i < 60 by omega))]
    cases u with
    | none => rw [if_pos (show enc none = -1 from rfl), opn_n]; rfl
    | some n =>
      have hn := hu n rfl
      rw [show enc (some n) = nI n from rfl, if_neg (nm1 (sm hn)), x_peopleOf hn, bd_some, opn_s]
      by_cases e : (X 7 n >>> (p &&& 31)) &&& 1 = 0
      · rw [if_neg (fun q => q e)]
        simp [bit, e, bB]
      · rw [if_pos e, x_parentOf hn, bd_some, dV_eq, n_add1, hp n hn, h9 (pr n) (fun k hk => hl n k hk)]
        simp [bit, e]
theorem x_open {X : JX} {pr : Nat → Option Nat} {p : Int32} {n : Nat} (hn : n < 60) (hp : ∀ n, n < 60 → X 2 n = enc (pr n)) (hl : ∀ n m, pr n = some m → m < 60) : f_X9_isOpenTo X p (nI n) = some (bB (opn (bit (X 7) p) pr 60 (some n))) :=
  x_opn_loop hp hl 60 0 1000 (some n) rfl (by decide) (fun k hk => by cases hk; exact hn)
theorem y_opn_loop {Y : JX} {pr : Nat → Option Nat} {p : Int32} {st : Nat → Prop} (hs : ∀ n, st n → n < 60 ∧ Y 3 n = enc (pr n) ∧ ∀ m, pr n = some m → st m) : ∀ K F u (acc : Bool), it pr K u = none → K + 1 ≤ F → (∀ n, u = some n → st n) → loop2 (lb_X11_mayReadAt_5 Y p) F (bB acc) (enc u) = some (bB (acc && opn (bit (Y 9) p) pr K u)) := by
  intro K
  induction K with
  | zero =>
    intro F u acc hK hF hu
    obtain ⟨F', rfl⟩ := Nat.exists_eq_add_of_le' hF
    have : u = none := hK
    subst this
    rw [zl2]
    generalize hR9 : loop2 _ F' = R9
    unfold lb_X11_mayReadAt_5
    rw [if_pos (show enc none = -1 from rfl), if_pos (bB_ok acc), opn_n, Bool.and_true]
  | succ K ih =>
    intro F u acc hK hF hu
    obtain ⟨F', rfl⟩ := Nat.exists_eq_add_of_le' (show 1 ≤ F by omega)
    rw [zl2]
    generalize hR9 : loop2 _ F' = R9
    unfold lb_X11_mayReadAt_5
    cases u with
    | none => rw [if_pos (show enc none = -1 from rfl), if_pos (bB_ok acc), opn_n, Bool.and_true]
    | some n =>
      obtain ⟨hn, h3, hm⟩ := hs n (hu n rfl)
      have go : ∀ a : Bool, b_X11_mayReadAt_35 R9 Y p (nI n) (bB a) = some (bB (a && opn (bit (Y 9) p) pr K (pr n))) := by
        intro a
        unfold b_X11_mayReadAt_35
        rw [if_pos (n_ok hn (by decide)), nI_clamp (sm hn), h3, dV_eq, ← hR9]
        exact ih F' (pr n) a hK (by omega) hm
      have gt := go true
      have gf := go false
      rw [show bB true = 1 from rfl] at gt
      rw [show bB false = 0 from rfl] at gf
      rw [show enc (some n) = nI n from rfl, if_neg (nm1 (sm hn)), opn_s]
      cases acc with
      | false => rw [if_pos (show bB false = 0 by decide), gf]; simp
      | true =>
        rw [if_neg (show ¬ bB true = 0 by decide), if_pos (n_ok hn (by decide)), nI_clamp (sm hn)]
        rcases and1 (Y 9 n >>> (p &&& 31)) with e | e
        · rw [if_pos (show ¬ (Y 9 n >>> (p &&& 31)) &&& 1 = 1 by rw [e]; decide), gf]
          simp [bit, e]
        · rw [if_neg (show ¬ ¬ (Y 9 n >>> (p &&& 31)) &&& 1 = 1 by rw [e]; decide), gt]
          simp [bit, e]
theorem y_open {Y : JX} {M n : Nat} {p : Int32} (h : TY Y M) (hn : n < 60) (h1 : Y 1 n ≠ 0) : f_X11_mayReadAt Y p (nI n) = some (bB (opn (bit (Y 9) p) (prY Y) 60 (some n))) := by
  have h2 := y_opn_loop (p := p) (st := fun n => n < 60 ∧ Y 1 n ≠ 0) h.st 60 1000 (some n) true (it_60 h.2.2.2.2 (fun k hk => by cases hk; exact hn)) (by decide) (fun k hk => by cases hk; exact ⟨hn, h1⟩)
  rw [Bool.true_and] at h2
  exact h2
theorem opn_congr {b b' : Nat → Bool} {pr : Nat → Option Nat} (hl : ∀ n m, pr n = some m → m < 60) (h : ∀ n, n < 60 → b n = b' n) : ∀ m u, (∀ n, u = some n → n < 60) → opn b pr m u = opn b' pr m u := by
  intro m
  induction m with
  | zero => intro u _; rfl
  | succ m ih =>
    intro u hu
    cases u with
    | none => rw [opn_n, opn_n]
    | some n => rw [opn_s, opn_s, h n (hu n rfl), ih (pr n) (fun k hk => hl n k hk)]
/-- the same answer on both sides -/
theorem c_open {X Y : JX} {M n : Nat} {p : Int32} (hT : TY Y M) (hx : TX X Y) (hn : n < 60) (h1 : Y 1 n ≠ 0) : ∃ b : Bool, f_X9_isOpenTo X p (nI n) = some (bB b) ∧ f_X11_mayReadAt Y p (nI n) = some (bB b) := by
  refine ⟨_, ?_, y_open hT hn h1⟩
  rw [x_open hn (pr := prY Y) (fun n hn => (hx.2 n hn).1) hT.lt, opn_congr hT.lt (b' := bit (Y 9) p) (fun k hk => by unfold bit; rw [(hx.2 k hk).2.2.2.2.2.1]) 60 (some n) (fun k hk => by cases hk; exact hn)]

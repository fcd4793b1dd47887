/-! ===== p32: what holds from a crawl's beginning on, until all is quiet ===== -/
def TF (pr : Nat → Option Nat) (X : JX) : Prop := Tr pr ∧ (∀ n, n < 60 → X 2 n = enc (pr n)) ∧ (∀ n, pr n ≠ none → n < 60 ∧ n ≠ 0 ∧ X 5 n ≠ 0 ∧ ∃ m, pr n = some m ∧ m < 60 ∧ X 5 m ≠ 0 ∧ X 4 m ≠ 0) ∧ (∀ n, n < 60 → n ≠ 0 → X 5 n ≠ 0 → pr n ≠ none) ∧ ∀ n, n < 60 → X 5 n ≠ 0 → On pr (some n) 0
theorem TF.of {X Y : JX} {M : Nat} (hT : TY Y M) (hx : TX X Y) : TF (prY Y) X := by
  refine ⟨hT.2.2.2.2, fun n hn => (hx.2 n hn).1, fun n h => ?_, fun n hn n0 h5 => ?_, fun n hn h5 => ?_⟩
  · obtain ⟨a, b, c, m, hm, em, -, m1, m2⟩ := pr_some hT h
    refine ⟨a, b, ?_, m, em, hm, ?_, ?_⟩
    · rw [(hx.2 n a).2.2.2.1]; exact c
    · rw [(hx.2 m hm).2.2.2.1]; exact m1
    · rw [(hx.2 m hm).2.2.1]; exact m2
  · rw [(hx.2 n hn).2.2.2.1] at h5
    exact pr_of hT hn n0 h5
  · rw [(hx.2 n hn).2.2.2.1] at h5
    exact toTop' hT hn h5
theorem TF.fr {pr : Nat → Option Nat} {X X' : JX} (h : TF pr X) (h2 : X' 2 = X 2) (h4 : X' 4 = X 4) (h5 : X' 5 = X 5) : TF pr X' := by
  unfold TF
  rw [h2, h4, h5]
  exact h
theorem TF.kid {pr : Nat → Option Nat} {X : JX} (h : TF pr X) {j n : Nat} (hj : j < 60) (hn : n < 60) : X 2 j = nI n ↔ pr j = some n := by
  rw [h.2.1 j hj]
  cases e : pr j with
  | none => exact ⟨fun z => absurd z.symm (nm1 (sm hn)), fun z => by cases z⟩
  | some m =>
    have hm := (h.1.1 j m e).2
    exact ⟨fun z => by rw [(nI_eq (sm hm) (sm hn)).mp z], fun z => by cases z; rfl⟩
theorem TF.top {pr : Nat → Option Nat} {X : JX} (h : TF pr X) : pr 0 = none := by
  cases e : pr 0 with
  | none => rfl
  | some m => exact absurd rfl (h.2.2.1 0 (by rw [e]; exact fun z => by cases z)).2.1
theorem TF.up {pr : Nat → Option Nat} {X : JX} (h : TF pr X) : ∀ j u a, (∀ n, u = some n → n < 60 ∧ X 5 n ≠ 0) → it pr j u = some a → a < 60 ∧ X 5 a ≠ 0 := by
  intro j
  induction j with
  | zero => intro u a hu e; exact hu a e
  | succ j ih =>
    intro u a hu e
    cases u with
    | none => rw [it_none] at e; cases e
    | some n =>
      refine ih (pr n) a (fun m em => ?_) e
      obtain ⟨-, -, -, m', em', hm', h5, -⟩ := h.2.2.1 n (by rw [em]; exact fun z => by cases z)
      rw [em] at em'
      cases em'
      exact ⟨hm', h5⟩
theorem TF.on {pr : Nat → Option Nat} {X : JX} (h : TF pr X) {k a : Nat} (hk : pr k ≠ none) (ho : On pr (some k) a) : a = 0 ∨ pr a ≠ none := by
  obtain ⟨j, e⟩ := ho
  obtain ⟨k6, -, k5, -⟩ := h.2.2.1 k hk
  obtain ⟨a6, a5⟩ := h.up j (some k) a (fun n en => by cases en; exact ⟨k6, k5⟩) e
  by_cases a0 : a = 0
  · exact Or.inl a0
  · exact Or.inr (h.2.2.2.1 a a6 a0 a5)
theorem below_kid {pr : Nat → Option Nat} {m n : Nat} (h : On pr (some m) n) (hne : m ≠ n) : ∃ c, On pr (some m) c ∧ pr c = some n := by
  obtain ⟨j, e⟩ := h
  cases j with
  | zero => exact absurd (Option.some.inj e) hne
  | succ j =>
    rw [it_succ] at e
    obtain ⟨c, e1, e2⟩ := Option.bind_eq_some_iff.mp e
    exact ⟨c, ⟨j, e1⟩, e2⟩
theorem rgt.at' {X X' : JX} {k : Nat} (h : ∀ q, q = 2 ∨ q = 3 ∨ q = 4 ∨ q = 5 ∨ q = 8 ∨ q = 36 ∨ q = 37 ∨ q = 38 ∨ q = 39 → X' q k = X q k) : rgt X' k ↔ rgt X k := by
  unfold rgt
  rw [h 36 (by omega), h 37 (by omega), h 38 (by omega), h 39 (by omega), h 2 (by omega), h 3 (by omega), h 4 (by omega), h 5 (by omega), h 8 (by omega)]
/-- a node's look is still to come -/
def pend (pr : Nat → Option Nat) (X : JX) (n : Nat) : Prop := ∃ a, On pr (some n) a ∧ pr a ≠ none ∧ X 47 a ≠ 0
/-- a folder above waits -/
def wa (pr : Nat → Option Nat) (X : JX) (n : Nat) : Prop := ∃ a, On pr (pr n) a ∧ X 18 a ≠ 0
def Bb (pr : Nat → Option Nat) (S : Nat → Prop) (X : JX) : Prop := ∀ n, pr n ≠ none → S n → rgt X n ∨ pend pr X n
def clo (pr : Nat → Option Nat) (S : Nat → Prop) : Prop := ∀ n m, pr n ≠ none → S n → pr n = some m → m = 0 ∨ S m
def J1 (pr : Nat → Option Nat) (X : JX) : Prop := (∀ n, pr n ≠ none → X 19 n ≠ 0 ∨ wa pr X n) ∧ Bb pr (fun n => X 19 n ≠ 0) X ∧ clo pr (fun n => X 19 n ≠ 0) ∧ (∀ f, f < 60 → X 18 f ≠ 0 → f = 0 ∨ X 19 f ≠ 0) ∧ ∀ n, n < 60 → X 19 n ≠ 0 → pr n ≠ none
def J0 (pr : Nat → Option Nat) (X : JX) : Prop := Bb pr (fun _ => True) X ∧ ∀ n, n < 60 → pr n = none → X 36 n ≠ 0 → X 47 n ≠ 0
def JJ (pr : Nat → Option Nat) (X : JX) : Prop := X 13 5 ≠ 0 ∨ (X 16 4 ≠ 0 ∧ J1 pr X) ∨ (X 16 4 = 0 ∧ J0 pr X)
theorem pend.mono {pr : Nat → Option Nat} {X X1 : JX} {n : Nat} (h : ∀ a, pr a ≠ none → X 47 a ≠ 0 → X1 47 a ≠ 0) (hp : pend pr X n) : pend pr X1 n := by
  obtain ⟨a, h1, h2, h3⟩ := hp
  exact ⟨a, h1, h2, h a h2 h3⟩
theorem Bb.mono {pr : Nat → Option Nat} {S : Nat → Prop} {X X1 : JX} (h : ∀ a, pr a ≠ none → X 47 a ≠ 0 → X1 47 a ≠ 0) (hr : ∀ k, rgt X1 k ↔ rgt X k) (hb : Bb pr S X) : Bb pr S X1 := fun n hn hs => (hb n hn hs).imp (hr n).mpr (pend.mono h)
theorem clo.on {pr : Nat → Option Nat} {S : Nat → Prop} (hc : clo pr S) : ∀ j m a, S m → it pr j (some m) = some a → a = 0 ∨ S a ∨ ∃ b, b = 0 ∧ On pr (some b) a := by
  intro j
  induction j with
  | zero => intro m a hs e; cases e; exact Or.inr (Or.inl hs)
  | succ j ih =>
    intro m a hs e
    have e : it pr j (pr m) = some a := e
    cases ep : pr m with
    | none => rw [ep, it_none] at e; cases e
    | some p =>
      rw [ep] at e
      rcases hc m p (by rw [ep]; exact fun z => by cases z) hs ep with z | z
      · exact Or.inr (Or.inr ⟨p, z, ⟨j, e⟩⟩)
      · exact ih p a z e
/-- where all above is right, the way over entries is the way over folders -/
theorem chain {pr : Nat → Option Nat} {X : JX} (hF : TF pr X) {n : Nat} : ∀ j u, (∀ a, On pr u a → a = 0 ∨ (pr a ≠ none ∧ rgt X a)) → it (pe X) j u = some n → On pr u n := by
  intro j
  induction j with
  | zero => intro u _ e; exact ⟨0, e⟩
  | succ j ih =>
    intro u hu e
    cases u with
    | none => rw [it_none] at e; cases e
    | some q =>
      have e : it (pe X) j (pe X q) = some n := e
      rcases hu q (On.self q) with q0 | ⟨hq, hr⟩
      · have : pe X q = none := by unfold pe; rw [if_neg (fun z => z.2.2 q0)]
        rw [this, it_none] at e
        cases e
      · obtain ⟨q6, q0, -, m, em, hm, -⟩ := hF.2.2.1 q hq
        have : pe X q = pr q := by
          unfold pe
          rw [if_pos ⟨q6, hr.1, q0⟩, hr.2.1, hF.2.1 q q6, em]
          exact dec_nI (sm hm)
        rw [this] at e
        exact On.up.mpr (Or.inr (ih (pr q) (fun a ha => hu a (On.up.mpr (Or.inr ha))) e))
theorem act_b {pr : Nat → Option Nat} {S : Nat → Prop} {X X1 : JX} {c left : Nat} (hF : TF pr X) (hc : clo pr S) (h : Nact pr X X1 c left) (hb : Bb pr S X) : Bb pr S X1 := by
  obtain ⟨-, -, n, hn, hk, h⟩ := h
  rcases h with ⟨-, hp, x47, oth, x36, going⟩ | ⟨-, hp, k2, x47, oth⟩ | ⟨hp, h5, h4, x47, hr, x37, x36, oth, -⟩ | ⟨-, hp, h5, h4, x47, hr, x37, x36, oth⟩ | ⟨-, rfl, -⟩
  · intro m hm hs
    by_cases hpend : pend pr X m
    · refine Or.inr (pend.mono (fun a ha h => ?_) hpend)
      rw [x47, u_at, if_neg (fun z => ha (by rw [z]; exact hp))]
      exact h
    · have hall : ∀ a, On pr (some m) a → a = 0 ∨ (pr a ≠ none ∧ rgt X a) := fun a ha => by
        rcases hF.on hm ha with z | z
        · exact Or.inl z
        · by_cases a0 : a = 0
          · exact Or.inl a0
          · refine Or.inr ⟨z, ?_⟩
            obtain ⟨j, ej⟩ := ha
            rcases hc.on j m a hs ej with y | y | ⟨b, rfl, hb0⟩
            · exact absurd y a0
            · rcases hb a z y with w | ⟨b, w1, w2, w3⟩
              · exact w
              · exact absurd ⟨b, On.trans ⟨j, ej⟩ w1, w2, w3⟩ hpend
            · rcases On.up.mp hb0 with y | y
              · exact absurd y.symm a0
              · rw [hF.top] at y; exact absurd y On.none
      obtain ⟨m6, m0, -⟩ := hF.2.2.1 m hm
      have hrm : rgt X m := ((hall m (On.self m)).resolve_left m0).2
      have e36 : X1 36 m = X 36 m := by
        rcases going m m6 with z | ⟨-, z⟩
        · exact z
        · rcases z with z | ⟨n0, z⟩
          · exact absurd hp (by rw [← z]; exact hm)
          · obtain ⟨j, ej⟩ := z m0
            have hon : On pr (some m) n := chain hF (j + 1) (some m) hall ej
            rcases hF.on hm hon with y | y
            · exact absurd y n0
            · exact absurd hp y
      refine Or.inl ((rgt.at' (fun q hq => ?_)).mpr hrm)
      by_cases q36 : q = 36
      · rw [q36]; exact e36
      · rw [oth q q36 (by omega) (by omega) (by omega) (by omega) (by omega)]
  · refine hb.mono (fun a ha h => ?_) (fun k => rgt.fr (fun q hq => oth q (by omega) (by omega) (by omega)) k)
    rw [x47, u_at]
    split
    · exact one0
    · exact h
  · intro m hm hs
    by_cases mn : m = n
    · rw [mn]; exact Or.inl hr
    · rcases hb m hm hs with z | ⟨a, z1, z2, z3⟩
      · refine Or.inl ((rgt.at' (fun q hq => ?_)).mpr z)
        obtain ⟨y1, y2, y3, y4, -⟩ := x36 m mn
        rcases hq with rfl | rfl | rfl | rfl | rfl | rfl | rfl | rfl | rfl
        · rw [oth 2 (by omega) (by omega) (by omega) (by omega) (by omega) (by omega)]
        · rw [oth 3 (by omega) (by omega) (by omega) (by omega) (by omega) (by omega)]
        · rw [oth 4 (by omega) (by omega) (by omega) (by omega) (by omega) (by omega)]
        · rw [oth 5 (by omega) (by omega) (by omega) (by omega) (by omega) (by omega)]
        · rw [oth 8 (by omega) (by omega) (by omega) (by omega) (by omega) (by omega)]
        · exact y1
        · exact y2
        · exact y3
        · exact y4
      · refine Or.inr ⟨a, z1, z2, ?_⟩
        rw [x47, u_at]
        by_cases an : a = n
        · rw [an] at z1
          obtain ⟨k, -, ek⟩ := below_kid z1 mn
          obtain ⟨-, -, -, m', em', -, -, h4'⟩ := hF.2.2.1 k (by rw [ek]; exact fun z => by cases z)
          rw [ek] at em'
          cases em'
          exact absurd h4 h4'
        · rw [if_neg an]; exact z3
  · intro m hm hs
    by_cases mn : m = n
    · rw [mn]; exact Or.inl hr
    · rcases hb m hm hs with z | ⟨a, z1, z2, z3⟩
      · refine Or.inl ((rgt.at' (fun q hq => ?_)).mpr z)
        obtain ⟨y1, y2, y3⟩ := x36 m mn
        rcases hq with rfl | rfl | rfl | rfl | rfl | rfl | rfl | rfl | rfl
        · rw [oth 2 (by omega) (by omega) (by omega) (by omega)]
        · rw [oth 3 (by omega) (by omega) (by omega) (by omega)]
        · rw [oth 4 (by omega) (by omega) (by omega) (by omega)]
        · rw [oth 5 (by omega) (by omega) (by omega) (by omega)]
        · rw [oth 8 (by omega) (by omega) (by omega) (by omega)]
        · exact y1
        · exact y2
        · exact y3
        · rw [oth 39 (by omega) (by omega) (by omega) (by omega)]
      · by_cases an : a = n
        · rw [an] at z1
          obtain ⟨k, hk1, ek⟩ := below_kid z1 mn
          have hk2 : pr k ≠ none := by rw [ek]; exact fun z => by cases z
          have k6 := (hF.2.2.1 k hk2).1
          refine Or.inr ⟨k, hk1, hk2, ?_⟩
          rw [x47 k, if_pos ⟨k6, (hF.kid k6 hn).mpr ek⟩]
          exact one0
        · refine Or.inr ⟨a, z1, z2, ?_⟩
          rw [x47 a, if_neg an]
          split
          · exact one0
          · exact z3
  · exact hb
theorem act_e {pr : Nat → Option Nat} {X X1 : JX} {c left : Nat} (h : Nact pr X X1 c left) (he : ∀ n, n < 60 → pr n = none → X 36 n ≠ 0 → X 47 n ≠ 0) : ∀ n, n < 60 → pr n = none → X1 36 n ≠ 0 → X1 47 n ≠ 0 := by
  obtain ⟨-, -, n, hn, hk, h⟩ := h
  intro m m6 hm hm36
  rcases h with ⟨-, hp, x47, oth, x36, going⟩ | ⟨-, hp, k2, x47, oth⟩ | ⟨hp, h5, h4, x47, hr, x37, x36, oth, -⟩ | ⟨-, hp, h5, h4, x47, hr, x37, x36, oth⟩ | ⟨-, rfl, -⟩
  · have mn : m ≠ n := fun z => hm36 (by rw [z]; exact x36)
    rw [x47, u_at, if_neg mn]
    refine he m m6 hm ?_
    rcases going m m6 with z | ⟨z, -⟩
    · rw [← z]; exact hm36
    · exact absurd z hm36
  · rw [x47, u_at]
    split
    · exact one0
    · rw [oth 36 (by omega) (by omega) (by omega)] at hm36
      exact he m m6 hm hm36
  · have mn : m ≠ n := fun z => hp (by rw [← z]; exact hm)
    rw [x47, u_at, if_neg mn]
    rw [(x36 m mn).1] at hm36
    exact he m m6 hm hm36
  · have mn : m ≠ n := fun z => hp (by rw [← z]; exact hm)
    rw [x47 m, if_neg mn]
    rw [(x36 m mn).1] at hm36
    split
    · exact one0
    · exact he m m6 hm hm36
  · exact he m m6 hm hm36
theorem act_fr {pr : Nat → Option Nat} {X X1 : JX} {c left : Nat} (h : Nact pr X X1 c left) : ∀ q, q < 36 → X1 q = X q := by
  obtain ⟨-, -, n, hn, hk, h⟩ := h
  intro q hq
  rcases h with ⟨-, hp, x47, oth, x36, going⟩ | ⟨-, hp, k2, x47, oth⟩ | ⟨hp, h5, h4, x47, hr, x37, x36, oth, -⟩ | ⟨-, hp, h5, h4, x47, hr, x37, x36, oth⟩ | ⟨-, rfl, -⟩
  · exact oth q (by omega) (by omega) (by omega) (by omega) (by omega) (by omega)
  · exact oth q (by omega) (by omega) (by omega)
  · exact oth q (by omega) (by omega) (by omega) (by omega) (by omega) (by omega)
  · exact oth q (by omega) (by omega) (by omega) (by omega)
  · rfl
theorem J1.cells {pr : Nat → Option Nat} {X X1 : JX} (h : J1 pr X) (h18 : X1 18 = X 18) (h19 : X1 19 = X 19) (hb : Bb pr (fun n => X 19 n ≠ 0) X1) : J1 pr X1 := by
  unfold J1 wa
  rw [h18, h19]
  exact ⟨h.1, hb, h.2.2⟩
theorem crawl_j {pr : Nat → Option Nat} {X X1 : JX} (hF : TF pr X) (h : Ncrawl X X1) (hj : J1 pr X) : JJ pr X1 := by
  obtain ⟨-, -, -, x164, f, hf, wf, fr, x19, x18, hcase⟩ := h
  obtain ⟨ja, jb, jc, jd, jf⟩ := hj
  have r19 : ∀ n, n < 60 → (X1 19 n ≠ 0 ↔ pr n = some f ∨ X 19 n ≠ 0) := fun n hn => by
    rw [x19 n hn]
    by_cases c : X 2 n = nI f
    · rw [if_pos c]; exact ⟨fun _ => Or.inl ((hF.kid hn hf).mp c), fun _ => one0⟩
    · rw [if_neg c]; exact ⟨Or.inr, fun z => z.resolve_left (fun y => c ((hF.kid hn hf).mpr y))⟩
  have rr : ∀ k, rgt X1 k ↔ rgt X k := fr.rgt
  have ha : ∀ n, pr n ≠ none → X1 19 n ≠ 0 ∨ wa pr X1 n := fun n hn => by
    obtain ⟨n6, -, -, p, ep, p6, p5, p4⟩ := hF.2.2.1 n hn
    rcases ja n hn with z | ⟨a, z1, z2⟩
    · exact Or.inl ((r19 n n6).mpr (Or.inr z))
    · by_cases af : a = f
      · rw [af, ep] at z1
        by_cases pf : p = f
        · exact Or.inl ((r19 n n6).mpr (Or.inl (by rw [ep, pf])))
        · obtain ⟨c, c1, c2⟩ := below_kid z1 pf
          have c6 := (hF.1.1 c f c2).1
          refine Or.inr ⟨c, by rw [ep]; exact c1, (x18 c c6).mpr (Or.inr ⟨(hF.kid c6 hf).mpr c2, ?_⟩)⟩
          by_cases cp : p = c
          · rw [← cp]; exact ⟨p5, p4⟩
          · obtain ⟨d, -, d2⟩ := below_kid c1 cp
            obtain ⟨-, -, -, m', em', -, h5', h4'⟩ := hF.2.2.1 d (by rw [d2]; exact fun z => by cases z)
            rw [d2] at em'
            cases em'
            exact ⟨h5', h4'⟩
      · have a6 : a < 60 := by
          obtain ⟨j, ej⟩ := z1
          exact it_lt hF.1.1 (fun m em => (hF.1.1 n m em).2) j a ej
        exact Or.inr ⟨a, z1, (x18 a a6).mpr (Or.inl ⟨z2, af⟩)⟩
  have hd : ∀ g, g < 60 → X1 18 g ≠ 0 → g = 0 ∨ X1 19 g ≠ 0 := fun g g6 hg => by
    rcases (x18 g g6).mp hg with ⟨z, -⟩ | ⟨z, -⟩
    · exact (jd g g6 z).imp id (fun y => (r19 g g6).mpr (Or.inr y))
    · exact Or.inr ((r19 g g6).mpr (Or.inl ((hF.kid g6 hf).mp z)))
  have hcl : clo pr (fun n => X1 19 n ≠ 0) := fun n m hn hs em => by
    have n6 := (hF.2.2.1 n hn).1
    have m6 := (hF.1.1 n m em).2
    rcases (r19 n n6).mp hs with z | z
    · rw [z] at em
      cases em
      exact (jd f hf wf).imp id (fun y => (r19 f hf).mpr (Or.inr y))
    · exact (jc n m hn z em).imp id (fun y => (r19 m m6).mpr (Or.inr y))
  have hff : ∀ n, n < 60 → X1 19 n ≠ 0 → pr n ≠ none := fun n n6 hs => by
    rcases (r19 n n6).mp hs with z | z
    · rw [z]; exact fun y => by cases y
    · exact jf n n6 z
  have hb : (∀ j, j < 60 → ((X 2 j = nI f ∧ ¬ rgt X j) ∨ X 47 j ≠ 0 → X1 47 j ≠ 0)) → Bb pr (fun n => X1 19 n ≠ 0) X1 := fun hac n hn hs => by
    have n6 := (hF.2.2.1 n hn).1
    by_cases hrn : rgt X n
    · exact Or.inl ((rr n).mpr hrn)
    · rcases (r19 n n6).mp hs with z | z
      · exact Or.inr ⟨n, On.self n, hn, hac n n6 (Or.inl ⟨(hF.kid n6 hf).mpr z, hrn⟩)⟩
      · rcases jb n hn z with y | ⟨a, y1, y2, y3⟩
        · exact absurd y hrn
        · exact Or.inr ⟨a, y1, y2, hac a (hF.2.2.1 a y2).1 (Or.inr y3)⟩
  rcases hcase with ⟨e4, hac⟩ | ⟨e4, no18, hac⟩
  · refine Or.inr (Or.inl ⟨by rw [e4]; exact x164, ha, hb (fun j hj z => ((hac j hj).1).mpr z), hcl, hd, hff⟩)
  · have hb' := hb (fun j hj z => ((hac j hj).1).mpr (Or.inr z))
    refine Or.inr (Or.inr ⟨e4, fun n hn _ => ?_, fun n n6 hn h36 => ?_⟩)
    · refine hb' n hn ?_
      rcases ha n hn with z | ⟨a, z1, z2⟩
      · exact z
      · have a6 : a < 60 := by
          obtain ⟨j, ej⟩ := z1
          exact it_lt hF.1.1 (fun m em => (hF.1.1 n m em).2) j a ej
        exact absurd (no18 a a6) z2
    · refine ((hac n n6).1).mpr (Or.inl ⟨?_, ?_⟩)
      · rw [← fr 36 (by omega) (by omega) (by omega) (by omega)]; exact h36
      · by_cases z : X1 19 n = 0
        · exact z
        · exact absurd hn (hff n n6 z)
/-- a crawl that begins -/
theorem J1.begin {pr : Nat → Option Nat} {X : JX} (hF : TF pr X) (h18 : X 18 0 ≠ 0) (h18' : ∀ n, n < 60 → X 18 n ≠ 0 → n = 0) (h19 : ∀ n, n < 60 → X 19 n = 0) : J1 pr X := by
  have n19 : ∀ n, pr n ≠ none → ¬ X 19 n ≠ 0 := fun n hn z => z (h19 n (hF.2.2.1 n hn).1)
  refine ⟨fun n hn => ?_, fun n hn hs => absurd hs (n19 n hn), fun n m hn hs => absurd hs (n19 n hn), fun f hf hw => Or.inl (h18' f hf hw), fun n hn hs => absurd (h19 n hn) hs⟩
  obtain ⟨-, -, -, p, ep, p6, p5, -⟩ := hF.2.2.1 n hn
  exact Or.inr ⟨0, by rw [ep]; exact hF.2.2.2.2 p p6 p5, h18⟩
theorem JJ_step {pr : Nat → Option Nat} {X X1 : JX} {c left : Nat} (hF : TF pr X) (h : Nx pr X X1 c left) (hj : JJ pr X) : JJ pr X1 := by
  rcases h with ⟨-, h⟩ | ⟨-, h⟩ | h | ⟨-, h⟩ | ⟨-, h⟩
  · obtain ⟨-, x13, oth, x164, x18, x19⟩ := h
    refine Or.inr (Or.inl ⟨by rw [x164]; exact one0, J1.begin (hF.fr (oth 2 (by omega) (by omega)) (oth 4 (by omega) (by omega)) (oth 5 (by omega) (by omega))) (by rw [x18 0 (by omega), if_pos rfl]; exact one0) (fun n hn z => ?_) x19⟩)
    rw [x18 n hn] at z
    by_cases n0 : n = 0
    · exact n0
    · rw [if_neg n0] at z; exact absurd rfl z
  · obtain ⟨f5, k, n, v, k1, k8, hn, x4, x13, hv, x47, oth⟩ := h
    have mo : ∀ a, X 47 a ≠ 0 → X1 47 a ≠ 0 := fun a ha => by
      rw [x47, u_at]
      split
      · rcases hv with rfl | rfl
        · exact one0
        · decide
      · exact ha
    have rr : ∀ k, rgt X1 k ↔ rgt X k := rgt.fr (fun q hq => oth q (by omega) (by omega) (by omega) (by omega))
    rcases hj with z | ⟨z, z1⟩ | ⟨z, z1, z2⟩
    · exact absurd f5 z
    · exact Or.inr (Or.inl ⟨by rw [oth 16 (by omega) (by omega) (by omega) (by omega)]; exact z, z1.cells (oth 18 (by omega) (by omega) (by omega) (by omega)) (oth 19 (by omega) (by omega) (by omega) (by omega)) (z1.2.1.mono (fun a _ => mo a) rr)⟩)
    · exact Or.inr (Or.inr ⟨by rw [oth 16 (by omega) (by omega) (by omega) (by omega)]; exact z, z1.mono (fun a _ => mo a) rr, fun n n6 hn h36 => mo n (z2 n n6 hn (by rw [← oth 36 (by omega) (by omega) (by omega) (by omega)]; exact h36))⟩)
  · have fr := act_fr h
    rcases hj with z | ⟨z, z1⟩ | ⟨z, z1, z2⟩
    · exact absurd h.1 z
    · exact Or.inr (Or.inl ⟨by rw [fr 16 (by omega)]; exact z, z1.cells (fr 18 (by omega)) (fr 19 (by omega)) (act_b hF z1.2.2.1 h z1.2.1)⟩)
    · exact Or.inr (Or.inr ⟨by rw [fr 16 (by omega)]; exact z, act_b hF (fun _ _ _ _ _ => Or.inr trivial) h z1, act_e h z2⟩)
  · rcases hj with z | ⟨z, z1⟩ | ⟨z, -⟩
    · exact absurd h.1 z
    · exact crawl_j hF h z1
    · exact absurd z h.2.2.2.1
  · rw [h.1]; exact hj
/-- what is quiet then is right -/
theorem JJ_quiet {pr : Nat → Option Nat} {X : JX} (hj : JJ pr X) (f5 : X 13 5 = 0) (h47 : ∀ n, n < 60 → X 47 n = 0) (h16 : X 16 4 = 0) (hF : TF pr X) : (∀ n, pr n ≠ none → rgt X n) ∧ ∀ n, n < 60 → pr n = none → X 36 n = 0 := by
  rcases hj with z | ⟨z, -⟩ | ⟨-, z1, z2⟩
  · exact absurd f5 z
  · exact absurd h16 z
  · refine ⟨fun n hn => ?_, fun n n6 hn => ?_⟩
    · rcases z1 n hn trivial with y | ⟨a, -, y2, y3⟩
      · exact y
      · exact absurd (h47 a (hF.2.2.1 a y2).1) y3
    · by_cases y : X 36 n = 0
      · exact y
      · exact absurd (h47 n n6) (z2 n n6 hn y)

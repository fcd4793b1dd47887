/-! ===== what the calls need of a relation between the two systems ===== -/
def c16 (x : Int32) : Int32 := (x.toUInt32 % 65536).toInt32
def bZ (x : Int32) : Int32 := if x = 0 then 0 else 1
def bL (x : Int32) : Int64 := if x = 0 then 0 else 1
def SimT (Rel : JX → JX → Prop) (hs : List Nat) (f : Option (Option Nat × Int32 × JX)) (g : Option (Int32 × JX)) : Prop := ∃ (e : Option Nat) (v : Int32) (X' : JX) (w : Int32) (Y' : JX), f = some (e, v, X') ∧ g = some (w, Y') ∧ wc hs e = some (Y' 0 0) ∧ (e = none → v = w) ∧ Rel X' Y'
def SimI (Rel : JX → JX → Prop) (X : JX) (f : Option Int32) (g : Option (Int32 × JX)) : Prop := ∃ (v : Int32) (Y' : JX), f = some v ∧ g = some (v, Y') ∧ Rel X Y'
def SimM (Rel : JX → JX → Prop) (f : Option (Int32 × JX)) (g : Option (Int32 × JX)) : Prop := ∃ (v : Int32) (X' Y' : JX), f = some (v, X') ∧ g = some (v, Y') ∧ Rel X' Y'
def OpSim (Rel : JX → JX → Prop) (X Y : JX) : Nat → Prop
  | 0 => ∀ (a1 : Int32) (x2 : Int32) (x3 : Int32), SimT Rel [1, 2, 3] (f_X10_make X a1 (c16 x2) (bZ x3)) (f_X11_make Y a1 (c16 x2) (bZ x3))
  | 1 => ∀ (a1 : Int32) (a2 : Int32), SimT Rel [1, 2, 3] (f_X10_write X a1 a2) (f_X11_write Y a1 a2)
  | 2 => ∀ (a1 : Int32), SimT Rel [1, 3] (f_X10_empty X a1) (f_X11_empty Y a1)
  | 3 => ∀ (a1 : Int32) (a2 : Int32) (x3 : Int32), SimT Rel [1, 2, 3] (f_X10_move X a1 a2 (c16 x3)) (f_X11_move Y a1 a2 (c16 x3))
  | 4 => ∀ (a1 : Int32), SimT Rel [1] (f_X10_remove X a1) (f_X11_remove Y a1)
  | 5 => ∀ (a1 : Int32) (x2 : Int32), SimT Rel [1] (f_X10_lock X a1 (bZ x2)) (f_X11_lock Y a1 (bZ x2))
  | 6 => ∀ (a1 : Int32) (a2 : Int32), SimT Rel [1, 2] (f_X10_people X a1 a2) (f_X11_people Y a1 a2)
  | 7 => ∀ (a1 : Int32) (a2 : Int32), SimT Rel [1] (f_X10_mayRead X a1 a2) (f_X11_mayRead Y a1 a2)
  | 8 => SimI Rel X (f_X10_nodes X) (f_X11_nodes Y)
  | 9 => ∀ (a1 : Int32), SimT Rel [1, 3] (f_X10_watch X a1) (f_X11_watch Y a1)
  | 10 => ∀ (a1 : Int32), SimT Rel [1] (f_X10_notices X a1) (f_X11_notices Y a1)
  | 11 => ∀ (a1 : Int32), SimT Rel [1, 3] (f_X10_twice X a1) (f_X11_twice Y a1)
  | 12 => ∀ (a1 : Int32) (a2 : Int32), SimT Rel [1, 2] (f_X10_lose X a1 a2) (f_X11_lose Y a1 a2)
  | 13 => ∀ (a1 : Int32), SimT Rel [2, 3] (f_X10_pass X a1) (f_X11_pass Y a1)
  | 14 => ∀ (x1 : Int32), SimM Rel (f_X10_battery X (bZ x1)) (f_X11_battery Y (bZ x1))
  | 15 => ∀ (a1 : Int32) (a2 : Int32), SimT Rel [2] (f_X10_limits X a1 a2) (f_X11_limits Y a1 a2)
  | 16 => ∀ (a1 : Int32), SimT Rel [2] (f_X10_work X a1) (f_X11_work Y a1)
  | 17 => ∀ (a1 : Int32), SimT Rel [1] (f_X10_crawl X a1) (f_X11_crawl Y a1)
  | 18 => SimI Rel X (f_X10_acts X) (f_X11_acts_ Y)
  | 19 => SimI Rel X (f_X10_isQuiet X) (f_X11_isQuiet Y)
  | 20 => SimI Rel X (f_X10_entries X) (f_X11_entries Y)
  | 21 => ∀ (a1 : Int32), SimT Rel [1] (f_X10_edition X a1) (f_X11_edition Y a1)
  | 22 => SimI Rel X (f_X10_stale X) (f_X11_stale Y)
  | 23 => SimI Rel X (f_X10_segments X) (f_X11_segments Y)
  | 24 => SimI Rel X (f_X10_dead X) (f_X11_dead Y)
  | 25 => ∀ (a1 : Int32) (a2 : Int32) (a3 : Int32) (a4 : Int32), SimT Rel [1, 2] (f_X10_answers X a1 a2 a3 a4) (f_X11_answers Y a1 a2 a3 a4)
  | 26 => ∀ (a1 : Int32) (a2 : Int32) (a3 : Int32) (a4 : Int32), SimT Rel [1, 2] (f_X10_answersAnew X a1 a2 a3 a4) (f_X11_answersAnew Y a1 a2 a3 a4)
  | 27 => ∀ (a1 : Int32) (a2 : Int32) (a3 : Int32) (a4 : Int32), SimT Rel [1, 2] (f_X10_answer X a1 a2 a3 a4) (f_X11_answer Y a1 a2 a3 a4)
  | 28 => ∀ (a1 : Int32) (a2 : Int32) (a3 : Int32) (a4 : Int32), SimT Rel [1, 2] (f_X10_closest X a1 a2 a3 a4) (f_X11_closest Y a1 a2 a3 a4)
  | _ => True

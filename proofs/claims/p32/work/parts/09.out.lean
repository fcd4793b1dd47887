/-- how a method ends, by the kind of its answer -/
def oI (X : JX) (v : Int32) : JE := (none, some (.int v), X)
def oM (v : Int32 × JX) : JE := (none, some (.int v.1), v.2)
def oU (v : JX) : JE := (none, none, v)
def oR (ad : Nat → Nat) (X : JX) (v : Nat) : JE := (none, some (.ref (ad v)), X)
def oO (ad : Nat → Nat) (X : JX) (v : Option Nat) : JE := (none, some (va_rf (v.map ad)), X)
def oT (v : Option Nat × Int32 × JX) : JE := (v.1, some (.int v.2.1), v.2.2)

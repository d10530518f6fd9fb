/-! what a village is, as the rows' theory wants it -/
def netD (wo : Nat → Nat) (co : Nat → Nat → Nat) : Nat → Nat → Int := fun u v => (wo v : Int) - (co u v : Int)
def adjP (wo : Nat → Nat) (adj : Nat → Nat → Bool) (co : Nat → Nat → Nat) : Nat → Nat → Bool := fun u v => adj u v && decide (0 ≤ netD wo co u v)
def fiR (s : Nat → Int) (u : Nat) (q : Nat) : Bool := decide (s (31 + 5 * u) = q) || decide (s (32 + 5 * u) = q)
def lastH (s : Nat → Int) (u v : Nat) : Int := min (s (112 + 4 * v)) (s (33 + 5 * u) + s (23 + (s (30 + 5 * u)).toNat) - 1)
def hitS (T : Tm) (s : Nat → Int) (u v : Nat) (r : List Nat) : Bool := (match r with | [] => false | q :: _ => decide (s (109 + 4 * v) = q)) && (decide (s (110 + 4 * v) = s (30 + 5 * u)) && decide (s (33 + 5 * u) + hoL T r ≤ lastH s u v))
def allF (T : Tm) (s : Nat → Int) (u : Nat) : Bool := T.ha (s (31 + 5 * u)).toNat && (decide (s (32 + 5 * u) < 0) || T.ha (s (32 + 5 * u)).toNat)
def wayO (T : Tm) (s : Nat → Int) (u v : Nat) : Option (List Nat) := if allF T s u then bestR T (fiR s u) (hitS T s u v) else none
def n8 (p q : Nat) (x : Nat) : Nat := if p < 8 ∧ q < 8 then x else 0
def TmS (s : Nat → Int) : Tm := ⟨(s 4).toNat, (s 5).toNat, (s 0).toNat, fun p q => decide (p < 8 ∧ q < 8) && decide (s (269 + (8 * p + q)) = 1), fun p q => n8 p q (s (141 + (8 * p + q))).toNat, fun p q => n8 p q (s (205 + (8 * p + q))).toNat, fun q => n8 q 0 (s (15 + q)).toNat, fun q => decide (q < 8), fun q => n8 q 0 (s (7 + q)).toNat⟩
def coO (T : Tm) : Option (List Nat) → Nat
  | none => 0
  | some b => coL T b
def paO (T : Tm) : Option (List Nat) → Nat
  | none => 0
  | some b => paL T b
def adjS (T : Tm) (s : Nat → Int) (u v : Nat) : Bool := decide ((u : Int) < s 2) && decide ((v : Int) < s 3) && (wayO T s u v).isSome
def woS (s : Nat → Int) (v : Nat) : Nat := (s (111 + 4 * v)).toNat
def coS (T : Tm) (s : Nat → Int) (u v : Nat) : Nat := coO T (wayO T s u v)
def paS (T : Tm) (s : Nat → Int) (u v : Nat) : Nat := paO T (wayO T s u v)

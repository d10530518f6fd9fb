section
/-! A small machine: values, worlds, one step as a condition, calls by depth. -/
abbrev MV : Type := Option (Int ⊕ (Int ⊕ Nat))
abbrev mI (x : Int) : MV := some (.inl x)
abbrev mL (x : Int) : MV := some (.inr (.inl x))
abbrev mR (h : Nat) : MV := some (.inr (.inr h))
abbrev Wd : Type := Nat → Nat → Int
abbrev Ent : Type := Nat × Instr × Nat × List Nat × Int
abbrev CWt : Type := Nat → List MV → Wd → (MV → Wd → Prop) → Prop
abbrev Pt4 : Type := Nat → List MV → List MV → Wd → Prop
def w32 (x : Int) : Int := Int.bmod x 4294967296
def w64 (x : Int) : Int := Int.bmod x 18446744073709551616
def up1 (f : Nat → Int) (i : Nat) (v : Int) : Nat → Int := fun j => if j = i then v else f j
def ub (w : Wd) (h i : Nat) (v : Int) : Wd := fun h' => if h' = h then up1 (w h) i v else w h'
def ubf (w : Wd) (h : Nat) (f : Nat → Int) : Wd := fun h' => if h' = h then f else w h'
def cpyf (f g : Nat → Int) (sp dp n : Nat) : Nat → Int := fun k => if dp ≤ k ∧ k < dp + n then f (sp + (k - dp)) else g k
def nthA {α : Type} (d : α) : List α → Nat → α
  | [], _ => d
  | a :: _, 0 => a
  | _ :: t, n + 1 => nthA d t n
def stA {α : Type} (v : α) : List α → Nat → List α
  | [], _ => []
  | _ :: t, 0 => v :: t
  | a :: t, n + 1 => a :: stA v t n
/-- a store at a place: a long that begins one place before is gone -/
def klA (l : List MV) (i : Nat) : List MV := match i with
  | 0 => l
  | j + 1 => match nthA none l j with
    | some (.inr (.inl _)) => stA none l j
    | _ => l
def stI (l : List MV) (i : Nat) (v : MV) : List MV := stA v (klA l i) i
def stL (l : List MV) (i : Nat) (v : MV) : List MV := stA none (stA v (klA l i) i) (i + 1)
def fArgs : List MV → List MV
  | [] => []
  | some (.inr (.inl x)) :: t => mL x :: none :: fArgs t
  | v :: t => v :: fArgs t
def mkLoc (mx : Nat) (args : List MV) : List MV := fArgs args ++ List.replicate (mx - (fArgs args).length) none
def catV : MV → Nat
  | some (.inr (.inl _)) => 2
  | _ => 1
def catS : List MV → Nat
  | [] => 0
  | v :: t => catV v + catS t
/-! bit operations by way of the machine's words -/
def iand (a b : Int) : Int := (Int32.ofInt a &&& Int32.ofInt b).toInt
def ior (a b : Int) : Int := (Int32.ofInt a ||| Int32.ofInt b).toInt
def ixor (a b : Int) : Int := (Int32.ofInt a ^^^ Int32.ofInt b).toInt
def ishl (a b : Int) : Int := (Int32.ofInt a <<< (Int32.ofInt b &&& 31)).toInt
def ishr (a b : Int) : Int := (Int32.ofInt a >>> (Int32.ofInt b &&& 31)).toInt
def iushr (a b : Int) : Int := ((Int32.ofInt a).toUInt32 >>> ((Int32.ofInt b).toUInt32 &&& Int32.toUInt32 31)).toInt32.toInt
def lor64 (a b : Int) : Int := (Int64.ofInt a ||| Int64.ofInt b).toInt
def land64 (a b : Int) : Int := (Int64.ofInt a &&& Int64.ofInt b).toInt
def lshl (a b : Int) : Int := (Int64.ofInt a <<< ((Int32.ofInt b).toInt64 &&& 63)).toInt
def lshr (a b : Int) : Int := (Int64.ofInt a >>> ((Int32.ofInt b).toInt64 &&& 63)).toInt
def lushr (a b : Int) : Int := ((Int64.ofInt a).toUInt64 >>> ((Int32.ofInt b).toInt64.toUInt64 &&& Int64.toUInt64 63)).toInt64.toInt
def w8 (a : Int) : Int := (Int32.ofInt a).toInt8.toInt32.toInt
def cmp3 (a b : Int) : Int := if a < b then -1 else if a = b then 0 else 1
def cndP (c : Jvm.ClassFile.Cond) (a b : Int) : Prop := match c with
  | .eq => a = b
  | .ne => ¬ a = b
  | .lt => a < b
  | .ge => b ≤ a
  | .gt => b < a
  | .le => a ≤ b
def swP (lo : Int) (ts : List Nat) (x : Int) (d : Nat) (K : Nat → Prop) : Prop := match ts with
  | [] => K d
  | t :: ts => (x = lo → K t) ∧ (¬ x = lo → swP (lo + 1) ts x d K)
/-! the cells: kinds (0 to 12 a class; 20 int[], 21 long[], 22 byte[], 23 boolean[], 24 references), sizes, where references point -/
def kdL : List Nat := [11, 20, 7, 20, 9, 20, 20, 20, 20, 20, 20, 20, 20, 20, 20, 20, 9, 20, 20, 20, 20, 20, 20, 20, 20, 20, 20, 20, 4, 20, 20, 20, 4, 20, 20, 20, 0, 20, 20, 20, 20, 20, 20, 24, 2, 9, 20, 20, 20, 20, 20, 20, 20, 20, 20, 20, 20, 4, 20, 20, 20, 0, 20, 20, 20, 20, 20, 20, 2, 9, 20, 20, 20, 20, 20, 20, 20, 20, 20, 20, 20, 4, 20, 20, 20, 0, 20, 20, 20, 20, 20, 20, 3, 10, 6, 20, 20, 20, 21, 20, 20, 20, 20, 20, 20, 20, 20, 21, 20, 20, 21, 21, 3, 10, 6, 20, 20, 20, 21, 20, 20, 20, 20, 20, 20, 20, 20, 21, 20, 20, 21, 21, 1, 20, 20, 20, 20, 5, 20, 20, 8, 20, 20, 20, 12, 22, 20, 20, 20, 21, 21, 20, 20, 20, 20, 20, 20, 20, 20, 20, 20, 20, 20, 20, 20, 23, 20, 20, 21, 20, 20, 20, 20, 20, 20, 20, 20, 20, 20, 20, 20, 20, 20, 21, 23, 21]
def szL : List Int := [16, 1040, 9, 17, 18, 8, 8, 8, 8, 6, 6, 80, 16, 32, 64, 64, 18, 8, 8, 8, 8, 6, 6, 80, 16, 32, 64, 64, 5, 50, 50, 50, 5, 50, 50, 50, 7, 40, 40, 40, 40, 8, 8, 2, 4, 18, 8, 8, 8, 8, 6, 6, 80, 16, 32, 64, 64, 5, 50, 50, 50, 7, 40, 40, 40, 40, 8, 8, 4, 18, 8, 8, 8, 8, 6, 6, 80, 16, 32, 64, 64, 5, 50, 50, 50, 7, 40, 40, 40, 40, 8, 8, 9, 16, 8, 8, 64, 64, 384, 8, 8, 8, 6, 6, 6, 6, 6, 128, 8, 256, 256, 8, 9, 16, 8, 8, 64, 64, 384, 8, 8, 8, 6, 6, 6, 6, 6, 128, 8, 256, 256, 8, 12, 16, 16, 16, 16, 4, 8, 8, 8, 6, 8, 8, 80, 1040, 645, 333, 150, 28, 17, 64, 64, 64, 8, 6, 6, 6, 6, 6, 8, 128, 128, 128, 128, 256, 256, 8, 256, 16, 16, 16, 16, 16, 5, 48, 8, 8, 8, 8, 8, 8, 1290, 28, 2, 1]
def grL : List (List Nat) := [[1, 0, 0, 2, 4, 16, 28, 32, 36, 43, 92, 112, 0, 132, 137, 140], [], [1, 3, 0, 0, 0, 0, 0, 0, 0], [], [0, 5, 6, 7, 8, 0, 9, 10, 0, 11, 12, 0, 13, 14, 15, 0, 0, 0], [], [], [], [], [], [], [], [], [], [], [], [0, 17, 18, 19, 20, 0, 21, 22, 0, 23, 24, 0, 25, 26, 27, 0, 0, 0], [], [], [], [], [], [], [], [], [], [], [], [0, 29, 30, 31, 0], [], [], [], [0, 33, 34, 35, 0], [], [], [], [0, 37, 38, 39, 40, 41, 42], [], [], [], [], [], [], [44, 68], [0, 45, 57, 61], [0, 46, 47, 48, 49, 0, 50, 51, 0, 52, 53, 0, 54, 55, 56, 0, 0, 0], [], [], [], [], [], [], [], [], [], [], [], [0, 58, 59, 60, 0], [], [], [], [0, 62, 63, 64, 65, 66, 67], [], [], [], [], [], [], [0, 69, 81, 85], [0, 70, 71, 72, 73, 0, 74, 75, 0, 76, 77, 0, 78, 79, 80, 0, 0, 0], [], [], [], [], [], [], [], [], [], [], [], [0, 82, 83, 84, 0], [], [], [], [0, 86, 87, 88, 89, 90, 91], [], [], [], [], [], [], [93, 4, 107, 108, 109, 110, 111, 0, 0], [94, 4, 0, 98, 99, 100, 101, 0, 0, 0, 0, 102, 103, 104, 105, 106], [4, 0, 0, 95, 96, 97, 0, 0], [], [], [], [], [], [], [], [], [], [], [], [], [], [], [], [], [], [113, 4, 127, 128, 129, 130, 131, 0, 0], [114, 4, 0, 118, 119, 120, 121, 0, 0, 0, 0, 122, 123, 124, 125, 126], [4, 0, 0, 115, 116, 117, 0, 0], [], [], [], [], [], [], [], [], [], [], [], [], [], [], [], [], [], [0, 0, 0, 0, 0, 0, 0, 0, 133, 134, 135, 136], [], [], [], [], [4, 138, 0, 139], [], [], [141, 0, 142, 0, 143, 0, 0, 0], [], [], [], [0, 145, 0, 0, 0, 0, 146, 147, 148, 149, 150, 0, 0, 0, 0, 0, 0, 0, 0, 0, 0, 151, 152, 153, 154, 0, 0, 0, 155, 156, 157, 158, 159, 160, 0, 0, 0, 161, 162, 163, 164, 0, 0, 165, 166, 167, 168, 0, 0, 0, 0, 0, 169, 170, 171, 172, 173, 174, 175, 0, 0, 0, 0, 0, 0, 176, 0, 177, 178, 179, 0, 0, 0, 180, 181, 0, 0, 182, 183, 184], [], [], [], [], [], [], [], [], [], [], [], [], [], [], [], [], [], [], [], [], [], [], [], [], [], [], [], [], [], [], [], [], [], [], [], [], [], [], [], [], []]
def ftyL : List (List Nat) := [[0, 2, 2, 2, 2, 2, 2], [3, 0, 0, 0, 0, 0, 0, 0, 2, 2, 2, 2], [3, 2, 2, 2], [2, 2, 2, 2, 2, 2, 2, 1, 0], [0, 2, 2, 2, 0], [2, 2, 0, 2], [2, 0, 0, 2, 2, 2, 0, 0], [2, 2, 0, 0, 0, 0, 0, 0, 0], [2, 0, 2, 0, 2, 0, 0, 0], [0, 2, 2, 2, 2, 0, 2, 2, 0, 2, 2, 0, 2, 2, 2, 0, 0, 3], [2, 2, 0, 2, 2, 2, 2, 0, 0, 0, 0, 2, 2, 2, 2, 2], [2, 0, 0, 2, 2, 2, 2, 2, 2, 2, 2, 2, 3, 2, 2, 2], [0, 2, 0, 0, 0, 0, 2, 2, 2, 2, 2, 0, 0, 0, 0, 0, 0, 1, 0, 3, 0, 2, 2, 2, 2, 0, 0, 0, 2, 2, 2, 2, 2, 2, 0, 0, 0, 2, 2, 2, 2, 0, 0, 2, 2, 2, 2, 0, 0, 0, 0, 0, 2, 2, 2, 2, 2, 2, 2, 0, 0, 0, 0, 0, 0, 2, 0, 2, 2, 2, 0, 0, 0, 2, 2, 0, 0, 2, 2, 2]]
def refL : List (Nat × Nat) := [(0, 0), (0, 3), (0, 4), (0, 5), (0, 6), (0, 7), (0, 8), (0, 9), (0, 10), (0, 11), (0, 13), (0, 14), (0, 15), (2, 0), (2, 1), (4, 1), (4, 2), (4, 3), (4, 4), (4, 6), (4, 7), (4, 9), (4, 10), (4, 12), (4, 13), (4, 14), (16, 1), (16, 2), (16, 3), (16, 4), (16, 6), (16, 7), (16, 9), (16, 10), (16, 12), (16, 13), (16, 14), (28, 1), (28, 2), (28, 3), (32, 1), (32, 2), (32, 3), (36, 1), (36, 2), (36, 3), (36, 4), (36, 5), (36, 6), (43, 0), (43, 1), (44, 1), (44, 2), (44, 3), (45, 1), (45, 2), (45, 3), (45, 4), (45, 6), (45, 7), (45, 9), (45, 10), (45, 12), (45, 13), (45, 14), (57, 1), (57, 2), (57, 3), (61, 1), (61, 2), (61, 3), (61, 4), (61, 5), (61, 6), (68, 1), (68, 2), (68, 3), (69, 1), (69, 2), (69, 3), (69, 4), (69, 6), (69, 7), (69, 9), (69, 10), (69, 12), (69, 13), (69, 14), (81, 1), (81, 2), (81, 3), (85, 1), (85, 2), (85, 3), (85, 4), (85, 5), (85, 6), (92, 0), (92, 1), (92, 2), (92, 3), (92, 4), (92, 5), (92, 6), (93, 0), (93, 1), (93, 3), (93, 4), (93, 5), (93, 6), (93, 11), (93, 12), (93, 13), (93, 14), (93, 15), (94, 0), (94, 3), (94, 4), (94, 5), (112, 0), (112, 1), (112, 2), (112, 3), (112, 4), (112, 5), (112, 6), (113, 0), (113, 1), (113, 3), (113, 4), (113, 5), (113, 6), (113, 11), (113, 12), (113, 13), (113, 14), (113, 15), (114, 0), (114, 3), (114, 4), (114, 5), (132, 8), (132, 9), (132, 10), (132, 11), (137, 0), (137, 1), (137, 3), (140, 0), (140, 2), (140, 4), (144, 1), (144, 6), (144, 7), (144, 8), (144, 9), (144, 10), (144, 21), (144, 22), (144, 23), (144, 24), (144, 28), (144, 29), (144, 30), (144, 31), (144, 32), (144, 33), (144, 37), (144, 38), (144, 39), (144, 40), (144, 43), (144, 44), (144, 45), (144, 46), (144, 52), (144, 53), (144, 54), (144, 55), (144, 56), (144, 57), (144, 58), (144, 65), (144, 67), (144, 68), (144, 69), (144, 73), (144, 74), (144, 77), (144, 78), (144, 79)]
def kd (h : Nat) : Nat := if h = 400 then 30 else nthA 99 kdL h
def rcvK (v : MV) : Nat := match v with
  | some (.inr (.inr h)) => kd h
  | _ => 99
def szI (h : Nat) : Int := nthA 0 szL h
def gr (h j : Nat) : Nat := nthA 0 (nthA [] grL h) j
def fty (ci j : Nat) : Nat := nthA 0 (nthA [] ftyL ci) j
def alen (w : Wd) (h : Nat) : Int := if h = 400 then w 401 2 else szI h
def allSet (w : Wd) : Prop := ∀ q ∈ refL, ¬ w q.1 q.2 = 0
/-- (what returns: 0 nothing, 1 int, 2 boolean, 3 long, 4 a reference; which phase: 0 a method that makes nothing, 1 a constructor, 2 the law) -/
abbrev Pr : Type := Nat × Nat × Int
def a0 (aux : List Nat) : Nat := nthA 0 aux 0
def a1 (aux : List Nat) : Nat := nthA 0 aux 1
def a2 (aux : List Nat) : Nat := nthA 0 aux 2
def pushR (rk : Nat) (r : MV) (s : List MV) : List MV := if rk = 0 then s else r :: s
def nE : Ent := (0, .nop, 0, [], 0)
def zr (w : Wd) (h : Nat) : Wd := fun h' => if h' = h then (fun _ => 0) else w h'
def mkNew (w : Wd) : Wd := ub (zr w (w 401 0).toNat) 401 0 (w 401 0 + 1)
/-- which methods are constructors (how many cells they make), what a method returns -/
def rkL : List Nat := [0, 0, 0, 0, 0, 0, 0, 0, 0, 0, 0, 0, 1, 0, 2, 1, 1, 0, 0, 2, 2, 0, 0, 1, 0, 2, 1, 2, 2, 2, 2, 1, 1, 2, 2, 0, 2, 2, 1, 1, 1, 0, 2, 2, 2, 2, 1, 0, 0, 1, 1, 2, 1, 2, 2, 4, 0, 0, 0, 0, 1, 1, 0, 1, 0, 0, 2, 2, 0, 0, 3, 3, 0, 3, 1, 0, 1, 3, 1, 1, 1, 0, 1, 1, 1, 1, 1, 1, 0, 1, 1, 1, 1, 1, 1, 1, 1, 1, 1, 2, 0, 0, 1, 0, 1, 1, 1, 0, 1, 1, 1, 1, 1, 0, 1, 1, 1, 4, 1, 1, 2, 1, 1, 1, 0, 1, 1, 1, 1, 2, 2, 1, 1, 1, 0, 1, 2, 0, 1, 0, 1, 1, 1, 0, 1, 1, 1, 1, 1, 1, 0, 1, 2, 1, 1, 2, 1, 1, 1, 1, 1, 1, 2, 1, 2, 0, 2, 1, 1, 1, 0, 2, 0, 1, 0, 0, 1, 2, 2, 2, 2, 2, 2, 2, 2, 1, 2, 2, 2, 2, 2, 2, 2, 2, 2, 2, 2, 1, 1, 2, 2, 1, 1, 1, 2, 1, 2, 1, 0, 0, 2, 2, 0, 0, 2, 0, 2, 2, 0, 1, 2, 1, 1, 1, 0, 1, 1, 1, 0, 3, 1, 1, 2, 0, 1, 1, 1, 1, 1, 1, 1, 1, 1, 1, 2, 1, 1, 1, 1, 1, 1, 1, 1, 1, 1, 2, 1, 2, 0, 1, 2, 1, 1, 1, 1, 1, 1, 1, 1, 1, 0, 1, 2, 2, 2, 1, 0, 0, 1, 1, 1, 1, 1]
def nAlL : List Nat := [143, 1, 11, 3, 6, 23, 3, 9, 5, 4, 2, 3, 0, 0, 0, 0, 0, 0, 0, 0, 0, 0, 0, 0, 0, 0, 0, 0, 0, 0, 0, 0, 0, 0, 0, 0, 0, 0, 0, 0, 0, 0, 0, 0, 0, 0, 0, 0, 0, 0, 0, 0, 0, 0, 0, 0, 0, 0, 0, 0, 0, 0, 0, 0, 0, 0, 0, 0, 0, 0, 0, 0, 0, 0, 0, 0, 0, 0, 0, 0, 0, 0, 0, 0, 0, 0, 0, 0, 0, 0, 0, 0, 0, 0, 0, 0, 0, 0, 0, 0, 0, 0, 0, 0, 0, 0, 0, 0, 0, 0, 0, 0, 0, 0, 0, 0, 0, 0, 0, 0, 0, 0, 0, 0, 0, 0, 0, 0, 0, 0, 0, 0, 0, 0, 0, 0, 0, 0, 0, 0, 0, 0, 0, 0, 0, 0, 0, 0, 0, 0, 0, 0, 0, 0, 0, 0, 0, 0, 0, 0, 0, 0, 0, 0, 0, 0, 0, 0, 0, 0, 0, 0, 40, 0, 0, 0, 0, 0, 0, 0, 0, 0, 0, 0, 0, 0, 0, 0, 0, 0, 0, 0, 0, 0, 0, 0, 0, 0, 0, 0, 0, 0, 0, 0, 0, 0, 0, 0, 0, 0, 0, 0, 0, 0, 0, 0, 0, 0, 0, 0, 0, 0, 0, 0, 0, 0, 0, 0, 0, 0, 0, 0, 0, 0, 0, 0, 0, 0, 0, 0, 0, 0, 0, 0, 0, 0, 0, 0, 0, 0, 0, 0, 0, 0, 0, 0, 0, 0, 0, 0, 0, 0, 0, 0, 0, 0, 0, 0, 0, 0, 0, 0, 0, 0, 0, 0, 0, 0, 0, 0, 0, 0, 0]
def phL : List Nat := [1, 1, 1, 1, 1, 1, 1, 1, 1, 1, 1, 1, 0, 0, 0, 0, 0, 0, 0, 0, 0, 0, 0, 0, 0, 0, 0, 0, 0, 0, 0, 0, 0, 0, 0, 0, 0, 0, 0, 0, 0, 0, 0, 0, 0, 0, 0, 0, 0, 0, 0, 0, 0, 0, 0, 0, 0, 0, 0, 0, 0, 0, 0, 0, 0, 0, 0, 0, 0, 0, 0, 0, 0, 0, 0, 0, 0, 0, 0, 0, 0, 0, 0, 0, 0, 0, 0, 0, 0, 0, 0, 0, 0, 0, 0, 0, 0, 0, 0, 0, 0, 0, 0, 0, 0, 0, 0, 0, 0, 0, 0, 0, 0, 0, 0, 0, 0, 0, 0, 0, 0, 0, 0, 0, 0, 0, 0, 0, 0, 0, 0, 0, 0, 0, 0, 0, 0, 0, 0, 0, 0, 0, 0, 0, 0, 0, 0, 0, 0, 0, 0, 0, 0, 0, 0, 0, 0, 0, 0, 0, 0, 0, 0, 0, 0, 0, 0, 0, 0, 0, 0, 0, 1, 0, 0, 0, 0, 0, 0, 0, 0, 0, 0, 0, 0, 0, 0, 0, 0, 0, 0, 0, 0, 0, 0, 0, 0, 0, 0, 0, 0, 0, 0, 0, 0, 0, 0, 0, 0, 0, 0, 0, 0, 0, 0, 0, 0, 0, 0, 0, 0, 0, 0, 0, 0, 0, 0, 0, 0, 0, 0, 0, 0, 0, 0, 0, 0, 0, 0, 0, 0, 0, 0, 0, 0, 0, 0, 0, 0, 0, 0, 0, 0, 0, 0, 0, 0, 0, 0, 0, 0, 0, 0, 0, 0, 0, 0, 0, 0, 0, 0, 0, 0, 0, 0, 0, 3, 3, 3, 0, 0, 0, 0]
def rkM (j : Nat) : Nat := nthA 0 rkL j
def nAl (j : Nat) : Nat := nthA 0 nAlL j
def phM (j : Nat) : Nat := nthA 9 phL j
/-- one step, as a condition on what follows -/
def F (cw : CWt) (cd : List Ent) (pr : Pr) (Q : MV → Wd → Prop) (P : Pt4) (i : Nat) (l s : List MV) (w : Wd) : Prop :=
  match nthA nE cd i with
  | (_, ins, _, aux, c) => match ins with
    | .iconst _ => P (i + 1) l (mI c :: s) w
    | .bipush _ => P (i + 1) l (mI c :: s) w
    | .sipush _ => P (i + 1) l (mI c :: s) w
    | .ldc _ => P (i + 1) l (mI c :: s) w
    | .ldc_w _ => P (i + 1) l (mI c :: s) w
    | .lconst _ => P (i + 1) l (mL c :: s) w
    | .ldc2_w _ => P (i + 1) l (mL c :: s) w
    | .iload _ => match nthA none l (a0 aux) with | some (.inl x) => P (i + 1) l (mI x :: s) w | _ => False
    | .iload_n _ => match nthA none l (a0 aux) with | some (.inl x) => P (i + 1) l (mI x :: s) w | _ => False
    | .lload _ => match nthA none l (a0 aux) with | some (.inr (.inl x)) => P (i + 1) l (mL x :: s) w | _ => False
    | .lload_n _ => match nthA none l (a0 aux) with | some (.inr (.inl x)) => P (i + 1) l (mL x :: s) w | _ => False
    | .aload _ => match nthA none l (a0 aux) with | some (.inr (.inr h)) => P (i + 1) l (mR h :: s) w | _ => False
    | .aload_n _ => match nthA none l (a0 aux) with | some (.inr (.inr h)) => P (i + 1) l (mR h :: s) w | _ => False
    | .istore _ => match s with | some (.inl x) :: s => P (i + 1) (stI l (a0 aux) (mI x)) s w | _ => False
    | .istore_n _ => match s with | some (.inl x) :: s => P (i + 1) (stI l (a0 aux) (mI x)) s w | _ => False
    | .lstore _ => match s with | some (.inr (.inl x)) :: s => P (i + 1) (stL l (a0 aux) (mL x)) s w | _ => False
    | .lstore_n _ => match s with | some (.inr (.inl x)) :: s => P (i + 1) (stL l (a0 aux) (mL x)) s w | _ => False
    | .astore _ => match s with | some (.inr (.inr h)) :: s => P (i + 1) (stI l (a0 aux) (mR h)) s w | _ => False
    | .astore_n _ => match s with | some (.inr (.inr h)) :: s => P (i + 1) (stI l (a0 aux) (mR h)) s w | _ => False
    | .iinc _ _ => match nthA none l (a0 aux) with | some (.inl x) => P (i + 1) (stI l (a0 aux) (mI (w32 (x + c)))) s w | _ => False
    | .iadd => match s with | some (.inl b) :: some (.inl a) :: s => P (i + 1) l (mI (w32 (a + b)) :: s) w | _ => False
    | .isub => match s with | some (.inl b) :: some (.inl a) :: s => P (i + 1) l (mI (w32 (a - b)) :: s) w | _ => False
    | .imul => match s with | some (.inl b) :: some (.inl a) :: s => P (i + 1) l (mI (w32 (a * b)) :: s) w | _ => False
    | .idiv => match s with | some (.inl b) :: some (.inl a) :: s => ¬ b = 0 ∧ P (i + 1) l (mI (w32 (a.tdiv b)) :: s) w | _ => False
    | .irem => match s with | some (.inl b) :: some (.inl a) :: s => ¬ b = 0 ∧ P (i + 1) l (mI (a.tmod b) :: s) w | _ => False
    | .iand => match s with | some (.inl b) :: some (.inl a) :: s => P (i + 1) l (mI (iand a b) :: s) w | _ => False
    | .ior => match s with | some (.inl b) :: some (.inl a) :: s => P (i + 1) l (mI (ior a b) :: s) w | _ => False
    | .ixor => match s with | some (.inl b) :: some (.inl a) :: s => P (i + 1) l (mI (ixor a b) :: s) w | _ => False
    | .ishl => match s with | some (.inl b) :: some (.inl a) :: s => P (i + 1) l (mI (ishl a b) :: s) w | _ => False
    | .ishr => match s with | some (.inl b) :: some (.inl a) :: s => P (i + 1) l (mI (ishr a b) :: s) w | _ => False
    | .iushr => match s with | some (.inl b) :: some (.inl a) :: s => P (i + 1) l (mI (iushr a b) :: s) w | _ => False
    | .ladd => match s with | some (.inr (.inl b)) :: some (.inr (.inl a)) :: s => P (i + 1) l (mL (w64 (a + b)) :: s) w | _ => False
    | .lsub => match s with | some (.inr (.inl b)) :: some (.inr (.inl a)) :: s => P (i + 1) l (mL (w64 (a - b)) :: s) w | _ => False
    | .lmul => match s with | some (.inr (.inl b)) :: some (.inr (.inl a)) :: s => P (i + 1) l (mL (w64 (a * b)) :: s) w | _ => False
    | .ldiv => match s with | some (.inr (.inl b)) :: some (.inr (.inl a)) :: s => ¬ b = 0 ∧ P (i + 1) l (mL (w64 (a.tdiv b)) :: s) w | _ => False
    | .lrem => match s with | some (.inr (.inl b)) :: some (.inr (.inl a)) :: s => ¬ b = 0 ∧ P (i + 1) l (mL (a.tmod b) :: s) w | _ => False
    | .lor => match s with | some (.inr (.inl b)) :: some (.inr (.inl a)) :: s => P (i + 1) l (mL (lor64 a b) :: s) w | _ => False
    | .lshl => match s with | some (.inl b) :: some (.inr (.inl a)) :: s => P (i + 1) l (mL (lshl a b) :: s) w | _ => False
    | .lshr => match s with | some (.inl b) :: some (.inr (.inl a)) :: s => P (i + 1) l (mL (lshr a b) :: s) w | _ => False
    | .lushr => match s with | some (.inl b) :: some (.inr (.inl a)) :: s => P (i + 1) l (mL (lushr a b) :: s) w | _ => False
    | .i2l => match s with | some (.inl a) :: s => P (i + 1) l (mL a :: s) w | _ => False
    | .l2i => match s with | some (.inr (.inl a)) :: s => P (i + 1) l (mI (w32 a) :: s) w | _ => False
    | .i2b => match s with | some (.inl a) :: s => P (i + 1) l (mI (w8 a) :: s) w | _ => False
    | .lcmp => match s with | some (.inr (.inl b)) :: some (.inr (.inl a)) :: s => P (i + 1) l (mI (cmp3 a b) :: s) w | _ => False
    | .dup => match s with
      | some (.inl x) :: s => P (i + 1) l (mI x :: mI x :: s) w
      | some (.inr (.inr h)) :: s => P (i + 1) l (mR h :: mR h :: s) w
      | _ => False
    | .dup2 => match s with
      | some (.inl x) :: some (.inr (.inr h)) :: s => P (i + 1) l (mI x :: mR h :: mI x :: mR h :: s) w
      | _ => False
    | .pop => match s with
      | some (.inl _) :: s => P (i + 1) l s w
      | some (.inr (.inr _)) :: s => P (i + 1) l s w
      | _ => False
    | .goto _ => P (a0 aux) l s w
    | .ifCond cnd _ => match s with | some (.inl x) :: s => (cndP cnd x 0 → P (a0 aux) l s w) ∧ (¬ cndP cnd x 0 → P (i + 1) l s w) | _ => False
    | .if_icmp cnd _ => match s with | some (.inl y) :: some (.inl x) :: s => (cndP cnd x y → P (a0 aux) l s w) ∧ (¬ cndP cnd x y → P (i + 1) l s w) | _ => False
    | .tableswitch _ _ _ _ => match s with | some (.inl x) :: s => swP c (aux.drop 1) x (a0 aux) (fun t => P t l s w) | _ => False
    | .getfield _ => match s with
      | some (.inr (.inr h)) :: s => if kd h = a0 aux then
          (if fty (a0 aux) (a1 aux) = 2 then (if pr.2.1 = 0 then P (i + 1) l (mR (gr h (a1 aux)) :: s) w else ¬ w h (a1 aux) = 0 ∧ P (i + 1) l (mR (gr h (a1 aux)) :: s) w)
          else if fty (a0 aux) (a1 aux) = 1 then P (i + 1) l (mL (w h (a1 aux)) :: s) w
          else P (i + 1) l (mI (w h (a1 aux)) :: s) w) else False
      | _ => False
    | .putfield _ => match s with
      | some (.inl x) :: some (.inr (.inr h)) :: s => if kd h = a0 aux then
          (if fty (a0 aux) (a1 aux) = 0 then P (i + 1) l s (ub w h (a1 aux) x)
          else if fty (a0 aux) (a1 aux) = 3 then (x = 0 ∨ x = 1) ∧ P (i + 1) l s (ub w h (a1 aux) x) else False) else False
      | some (.inr (.inl x)) :: some (.inr (.inr h)) :: s => if kd h = a0 aux then
          (if fty (a0 aux) (a1 aux) = 1 then P (i + 1) l s (ub w h (a1 aux) x) else False) else False
      | some (.inr (.inr g)) :: some (.inr (.inr h)) :: s => if kd h = a0 aux then
          (if fty (a0 aux) (a1 aux) = 2 then (if pr.2.1 = 1 then gr h (a1 aux) = g ∧ P (i + 1) l s (ub w h (a1 aux) 1) else False) else False) else False
      | _ => False
    | .iaload => match s with
      | some (.inl j) :: some (.inr (.inr h)) :: s => if kd h = 20 ∨ (kd h = 30 ∧ pr.2.1 = 2) then (0 ≤ j ∧ j < alen w h) ∧ P (i + 1) l (mI (w h j.toNat) :: s) w else False
      | _ => False
    | .laload => match s with
      | some (.inl j) :: some (.inr (.inr h)) :: s => if kd h = 21 then (0 ≤ j ∧ j < alen w h) ∧ P (i + 1) l (mL (w h j.toNat) :: s) w else False
      | _ => False
    | .baload => match s with
      | some (.inl j) :: some (.inr (.inr h)) :: s => if kd h = 22 ∨ kd h = 23 then (0 ≤ j ∧ j < alen w h) ∧ P (i + 1) l (mI (w h j.toNat) :: s) w else False
      | _ => False
    | .aaload => match s with
      | some (.inl j) :: some (.inr (.inr h)) :: s => if kd h = 24 then (if pr.2.1 = 0 then (0 ≤ j ∧ j < alen w h) ∧ P (i + 1) l (mR (gr h j.toNat) :: s) w else False) else False
      | _ => False
    | .iastore => match s with
      | some (.inl x) :: some (.inl j) :: some (.inr (.inr h)) :: s => if kd h = 20 then (0 ≤ j ∧ j < alen w h) ∧ P (i + 1) l s (ub w h j.toNat x) else False
      | _ => False
    | .lastore => match s with
      | some (.inr (.inl x)) :: some (.inl j) :: some (.inr (.inr h)) :: s => if kd h = 21 then (0 ≤ j ∧ j < alen w h) ∧ P (i + 1) l s (ub w h j.toNat x) else False
      | _ => False
    | .bastore => match s with
      | some (.inl x) :: some (.inl j) :: some (.inr (.inr h)) :: s => if kd h = 22 then (0 ≤ j ∧ j < alen w h) ∧ P (i + 1) l s (ub w h j.toNat (w8 x))
          else if kd h = 23 then (0 ≤ j ∧ j < alen w h) ∧ (x = 0 ∨ x = 1) ∧ P (i + 1) l s (ub w h j.toNat x) else False
      | _ => False
    | .aastore => match s with
      | some (.inr (.inr g)) :: some (.inl j) :: some (.inr (.inr h)) :: s => if kd h = 24 then (if pr.2.1 = 1 then (0 ≤ j ∧ j < alen w h) ∧ gr h j.toNat = g ∧ kd g = 2 ∧ P (i + 1) l s (ub w h j.toNat 1) else False) else False
      | _ => False
    | .arraylength => match s with
      | some (.inr (.inr h)) :: s => if kd h = 20 ∨ kd h = 21 ∨ kd h = 24 ∨ (kd h = 30 ∧ pr.2.1 = 2) then P (i + 1) l (mI (alen w h) :: s) w else False
      | _ => False
    | .new _ => kd (w 401 0).toNat = a0 aux ∧ a0 aux < 20 ∧ (0 < pr.2.1 ∧ w 401 0 < pr.2.2) ∧ P (i + 1) l (mR (w 401 0).toNat :: s) (mkNew w)
    | .newarray _ => match s with
      | some (.inl x) :: s => kd (w 401 0).toNat = a0 aux ∧ szI (w 401 0).toNat = x ∧ (0 < pr.2.1 ∧ w 401 0 < pr.2.2) ∧ (w 401 0 = 185 → allSet w) ∧ P (i + 1) l (mR (w 401 0).toNat :: s) (mkNew w)
      | _ => False
    | .anewarray _ => match s with
      | some (.inl x) :: s => kd (w 401 0).toNat = 24 ∧ szI (w 401 0).toNat = x ∧ (0 < pr.2.1 ∧ w 401 0 < pr.2.2) ∧ P (i + 1) l (mR (w 401 0).toNat :: s) (mkNew w)
      | _ => False
    | .invokevirtual _ => if catS (s.drop (a2 aux + 1)) ≤ 8 ∧ rcvK (nthA none s (a2 aux)) = nthA 0 aux 3 then
        (if phM (a1 aux) = 0 then (if pr.2.1 = 0 then cw (a1 aux) (s.take (a2 aux + 1)).reverse w (fun r w' => P (i + 1) l (pushR (rkM (a1 aux)) r (s.drop (a2 aux + 1))) w')
          else if pr.2.1 = 2 then w 401 0 = 186 ∧ cw (a1 aux) (s.take (a2 aux + 1)).reverse w (fun r w' => P (i + 1) l (pushR (rkM (a1 aux)) r (s.drop (a2 aux + 1))) w') else False) else False) else False
    | .invokestatic _ => match a0 aux with
      | 10 => match s with | some (.inl b) :: some (.inl a) :: s => if catS s ≤ 8 then P (i + 1) l (mI (max a b) :: s) w else False | _ => False
      | 11 => match s with | some (.inl b) :: some (.inl a) :: s => if catS s ≤ 8 then P (i + 1) l (mI (min a b) :: s) w else False | _ => False
      | 12 => match s with | some (.inr (.inl b)) :: some (.inr (.inl a)) :: s => if catS s ≤ 8 then P (i + 1) l (mL (max a b) :: s) w else False | _ => False
      | 13 => match s with | some (.inr (.inl b)) :: some (.inr (.inl a)) :: s => if catS s ≤ 8 then P (i + 1) l (mL (min a b) :: s) w else False | _ => False
      | 14 => match s with
        | some (.inl n) :: some (.inl dp) :: some (.inr (.inr d)) :: some (.inl sp) :: some (.inr (.inr h)) :: s => if (kd h = 20 ∧ kd d = 20) ∧ catS s ≤ 8 then
            (0 ≤ n ∧ 0 ≤ sp ∧ 0 ≤ dp ∧ sp + n ≤ alen w h ∧ dp + n ≤ alen w d) ∧ P (i + 1) l s (ubf w d (cpyf (w h) (w d) sp.toNat dp.toNat n.toNat)) else False
        | _ => False
      | 7 => if (catS (s.drop (a2 aux)) ≤ 8 ∧ a2 aux ≤ s.length) ∧ pr.2.1 = 2 then w 401 0 = 186 ∧ cw (a1 aux) (s.take (a2 aux)).reverse w (fun r w' => P (i + 1) l (pushR (rkM (a1 aux)) r (s.drop (a2 aux))) w') else False
      | _ => if catS (s.drop (a2 aux)) ≤ 8 ∧ a2 aux ≤ s.length then
        (if phM (a1 aux) = 3 ∨ (phM (a1 aux) = 0 ∧ pr.2.1 = 0) then cw (a1 aux) (s.take (a2 aux)).reverse w (fun r w' => P (i + 1) l (pushR (rkM (a1 aux)) r (s.drop (a2 aux))) w') else False) else False
    | .invokespecial _ => match a0 aux with
      | 20 => match s with | some (.inr (.inr _)) :: s => if catS s ≤ 8 then P (i + 1) l s w else False | _ => False
      | _ => if catS (s.drop (a2 aux + 1)) ≤ 8 ∧ rcvK (nthA none s (a2 aux)) < 20 then (if phM (a1 aux) = 1 ∧ rkM (a1 aux) = 0 then
        (0 < pr.2.1 ∧ w 401 0 + (nAl (a1 aux) : Int) ≤ pr.2.2) ∧ cw (a1 aux) (s.take (a2 aux + 1)).reverse w (fun _ w' => P (i + 1) l (s.drop (a2 aux + 1)) w') else False) else False
    | .return_ => match s with | [] => if pr.1 = 0 then Q none w else False | _ => False
    | .ireturn => match s with
      | [some (.inl x)] => if pr.1 = 1 then Q (mI x) w else if pr.1 = 2 then (x = 0 ∨ x = 1) ∧ Q (mI x) w else False
      | _ => False
    | .lreturn => match s with | [some (.inr (.inl x))] => if pr.1 = 3 then Q (mL x) w else False | _ => False
    | .areturn => match s with | [some (.inr (.inr h))] => if pr.1 = 4 then Q (mR h) w else False | _ => False
    | _ => False
def Wp (cw : CWt) (cd : List Ent) (pr : Pr) (Q : MV → Wd → Prop) (i : Nat) (l s : List MV) (w : Wd) : Prop :=
  ∀ P : Pt4, (∀ i l s w, F cw cd pr Q P i l s w → P i l s w) → P i l s w
theorem ite_mono {c : Prop} (hd : Decidable c) {A B A' B' : Prop} (h1 : c → A → A') (h2 : ¬ c → B → B') : (if c then A else B) → (if c then A' else B') := by
  by_cases q : c
  · rw [if_pos q, if_pos q]; exact h1 q
  · rw [if_neg q, if_neg q]; exact h2 q
theorem swP_mono {K K' : Nat → Prop} (h : ∀ t, K t → K' t) : ∀ (ts : List Nat) (lo x : Int) (d : Nat), swP lo ts x d K → swP lo ts x d K'
  | [], _, _, _, q => h _ q
  | _ :: ts, lo, x, d, q => ⟨fun a => h _ (q.1 a), fun a => swP_mono h ts (lo + 1) x d (q.2 a)⟩
theorem F_mono {cw : CWt} (hc : ∀ j a w (Q Q' : MV → Wd → Prop), (∀ r w, Q r w → Q' r w) → cw j a w Q → cw j a w Q') {cd : List Ent} {pr : Pr} {Q Q' : MV → Wd → Prop} (hQ : ∀ r w, Q r w → Q' r w) {P P' : Pt4} (hP : ∀ i l s w, P i l s w → P' i l s w) {i : Nat} {l s : List MV} {w : Wd} : F cw cd pr Q P i l s w → F cw cd pr Q' P' i l s w := by
  unfold F
  generalize nthA nE cd i = e
  obtain ⟨_, ins, _, aux, c⟩ := e
  cases ins <;> dsimp only
  case invokestatic =>
    split
    · split <;> first | exact id | exact ite_mono _ (fun _ => hP _ _ _ _) (fun _ h => h)
    · split <;> first | exact id | exact ite_mono _ (fun _ => hP _ _ _ _) (fun _ h => h)
    · split <;> first | exact id | exact ite_mono _ (fun _ => hP _ _ _ _) (fun _ h => h)
    · split <;> first | exact id | exact ite_mono _ (fun _ => hP _ _ _ _) (fun _ h => h)
    · split
      · exact ite_mono _ (fun _ h => ⟨h.1, hP _ _ _ _ h.2⟩) (fun _ h => h)
      · exact id
    · exact ite_mono _ (fun _ h => ⟨h.1, hc _ _ _ _ _ (fun _ _ => hP _ _ _ _) h.2⟩) (fun _ h => h)
    · exact ite_mono _ (fun _ => ite_mono _ (fun _ => hc _ _ _ _ _ (fun _ _ => hP _ _ _ _)) (fun _ h => h)) (fun _ h => h)
  case invokevirtual =>
    exact ite_mono _ (fun _ => ite_mono _ (fun _ => ite_mono _ (fun _ => hc _ _ _ _ _ (fun _ _ => hP _ _ _ _)) (fun _ => ite_mono _ (fun _ h => ⟨h.1, hc _ _ _ _ _ (fun _ _ => hP _ _ _ _) h.2⟩) (fun _ h => h))) (fun _ h => h)) (fun _ h => h)
  case invokespecial =>
    split
    · split <;> first | exact id | exact ite_mono _ (fun _ => hP _ _ _ _) (fun _ h => h)
    · exact ite_mono _ (fun _ => ite_mono _ (fun _ h => ⟨h.1, hc _ _ _ _ _ (fun _ _ => hP _ _ _ _) h.2⟩) (fun _ h => h)) (fun _ h => h)
  case tableswitch =>
    split
    · exact swP_mono (fun t => hP _ _ _ _) _ _ _ _
    · exact id
  case new => exact fun h => ⟨h.1, h.2.1, h.2.2.1, hP _ _ _ _ h.2.2.2⟩
  case newarray =>
    split
    · exact fun h => ⟨h.1, h.2.1, h.2.2.1, h.2.2.2.1, hP _ _ _ _ h.2.2.2.2⟩
    · exact id
  case anewarray =>
    split
    · exact fun h => ⟨h.1, h.2.1, h.2.2.1, hP _ _ _ _ h.2.2.2⟩
    · exact id
  case getfield =>
    split
    · exact ite_mono _ (fun _ => ite_mono _ (fun _ => ite_mono _ (fun _ => hP _ _ _ _) (fun _ h => ⟨h.1, hP _ _ _ _ h.2⟩)) (fun _ => ite_mono _ (fun _ => hP _ _ _ _) (fun _ => hP _ _ _ _))) (fun _ h => h)
    · exact id
  case putfield =>
    split
    · exact ite_mono _ (fun _ => ite_mono _ (fun _ => hP _ _ _ _) (fun _ => ite_mono _ (fun _ h => ⟨h.1, hP _ _ _ _ h.2⟩) (fun _ h => h))) (fun _ h => h)
    · exact ite_mono _ (fun _ => ite_mono _ (fun _ => hP _ _ _ _) (fun _ h => h)) (fun _ h => h)
    · exact ite_mono _ (fun _ => ite_mono _ (fun _ => ite_mono _ (fun _ h => ⟨h.1, hP _ _ _ _ h.2⟩) (fun _ h => h)) (fun _ h => h)) (fun _ h => h)
    · exact id
  case ireturn =>
    split
    · exact ite_mono _ (fun _ => hQ _ _) (fun _ => ite_mono _ (fun _ h => ⟨h.1, hQ _ _ h.2⟩) (fun _ h => h))
    · exact id
  case return_ => 
    split
    · exact ite_mono _ (fun _ => hQ _ _) (fun _ h => h)
    · exact id
  case lreturn => 
    split
    · exact ite_mono _ (fun _ => hQ _ _) (fun _ h => h)
    · exact id
  case areturn => 
    split
    · exact ite_mono _ (fun _ => hQ _ _) (fun _ h => h)
    · exact id
  case ifCond =>
    split
    · exact fun h => ⟨fun q => hP _ _ _ _ (h.1 q), fun q => hP _ _ _ _ (h.2 q)⟩
    · exact id
  case if_icmp =>
    split
    · exact fun h => ⟨fun q => hP _ _ _ _ (h.1 q), fun q => hP _ _ _ _ (h.2 q)⟩
    · exact id
  case bastore =>
    split
    · exact ite_mono _ (fun _ h => ⟨h.1, hP _ _ _ _ h.2⟩) (fun _ => ite_mono _ (fun _ h => ⟨h.1, h.2.1, hP _ _ _ _ h.2.2⟩) (fun _ h => h))
    · exact id
  case aastore =>
    split
    · exact ite_mono _ (fun _ => ite_mono _ (fun _ h => ⟨h.1, h.2.1, h.2.2.1, hP _ _ _ _ h.2.2.2⟩) (fun _ h => h)) (fun _ h => h)
    · exact id
  case aaload =>
    split
    · exact ite_mono _ (fun _ => ite_mono _ (fun _ h => ⟨h.1, hP _ _ _ _ h.2⟩) (fun _ h => h)) (fun _ h => h)
    · exact id
  all_goals first
    | exact id
    | exact hP _ _ _ _
    | (split
       · exact fun h => ⟨h.1, hP _ _ _ _ h.2⟩
       · exact id)
    | (split
       · exact hP _ _ _ _
       · exact id)
    | (split
       · exact hP _ _ _ _
       · exact hP _ _ _ _
       · exact id)
    | (split
       · exact ite_mono _ (fun _ h => ⟨h.1, hP _ _ _ _ h.2⟩) (fun _ h => h)
       · exact id)
    | (split
       · exact ite_mono _ (fun _ h => hP _ _ _ _ h) (fun _ h => h)
       · exact id)
/-- one step back -/
theorem Wp.st {cw : CWt} (hc : ∀ j a w (Q Q' : MV → Wd → Prop), (∀ r w, Q r w → Q' r w) → cw j a w Q → cw j a w Q') {cd : List Ent} {pr : Pr} {Q : MV → Wd → Prop} {i : Nat} {l s : List MV} {w : Wd} (h : F cw cd pr Q (Wp cw cd pr Q) i l s w) : Wp cw cd pr Q i l s w := fun P hP =>
  hP _ _ _ _ (F_mono hc (fun _ _ h => h) (fun _ _ _ _ q => q P hP) h)
theorem Wp.mono {cw : CWt} (hc : ∀ j a w (Q Q' : MV → Wd → Prop), (∀ r w, Q r w → Q' r w) → cw j a w Q → cw j a w Q') {cd : List Ent} {pr : Pr} {Q Q' : MV → Wd → Prop} (hQ : ∀ r w, Q r w → Q' r w) {i : Nat} {l s : List MV} {w : Wd} (h : Wp cw cd pr Q i l s w) : Wp cw cd pr Q' i l s w := fun P hP =>
  h P (fun i l s w q => hP i l s w (F_mono hc hQ (fun _ _ _ _ q => q) q))
/-- the one list says less than the other -/
def leA : List MV → List MV → Prop
  | [], [] => True
  | a :: t, b :: u => (a = none ∨ a = b) ∧ leA t u
  | _, _ => False
theorem leA.k {a : MV} {t u : List MV} (h : leA t u) : leA (a :: t) (a :: u) := ⟨Or.inr rfl, h⟩
theorem leA.f {b : MV} {t u : List MV} (h : leA t u) : leA (none :: t) (b :: u) := ⟨Or.inl rfl, h⟩
theorem leA.e : leA [] [] := trivial
theorem leA.rf : ∀ (l : List MV), leA l l
  | [] => trivial
  | _ :: t => ⟨Or.inr rfl, leA.rf t⟩
theorem leA.at : ∀ {l l' : List MV} (i : Nat), leA l l' → nthA none l i = none ∨ nthA none l i = nthA none l' i
  | [], [], _, _ => Or.inl rfl
  | a :: t, b :: u, 0, h => h.1
  | a :: t, b :: u, i + 1, h => leA.at (l := t) (l' := u) i h.2
  | [], _ :: _, _, h => h.elim
  | _ :: _, [], _, h => h.elim
theorem leA.st : ∀ {l l' : List MV} (i : Nat) {v v' : MV}, leA l l' → (v = none ∨ v = v') → leA (stA v l i) (stA v' l' i)
  | [], [], _, _, _, _, _ => trivial
  | a :: t, b :: u, 0, _, _, h, hv => ⟨hv, h.2⟩
  | a :: t, b :: u, i + 1, _, _, h, hv => ⟨h.1, leA.st (l := t) (l' := u) i h.2 hv⟩
  | [], _ :: _, _, _, _, h, _ => h.elim
  | _ :: _, [], _, _, _, h, _ => h.elim
theorem leA.nn : ∀ {l l' : List MV} (i : Nat), leA l l' → nthA none l i = none → leA l (stA none l' i)
  | [], [], _, _, _ => trivial
  | a :: t, b :: u, 0, h, hn => ⟨Or.inl hn, h.2⟩
  | a :: t, b :: u, i + 1, h, hn => ⟨h.1, leA.nn (l := t) (l' := u) i h.2 hn⟩
  | [], _ :: _, _, h, _ => h.elim
  | _ :: _, [], _, h, _ => h.elim
theorem leA.kl {l l' : List MV} (i : Nat) (h : leA l l') : leA (klA l i) (klA l' i) := by
  cases i with
  | zero => exact h
  | succ j =>
    show leA (match nthA none l j with | some (.inr (.inl _)) => stA none l j | _ => l) (match nthA none l' j with | some (.inr (.inl _)) => stA none l' j | _ => l')
    rcases leA.at j h with q | q
    · rw [q]
      show leA l _
      split
      · exact leA.nn j h q
      · exact h
    · rw [← q]
      generalize nthA Option.none l j = v
      match v with
      | .none => exact h
      | .some (.inl _) => exact h
      | .some (.inr (.inr _)) => exact h
      | .some (.inr (.inl _)) => exact leA.st j h (Or.inl rfl)
theorem stI_le {l l' : List MV} {i : Nat} {v : MV} (h : leA l l') : leA (stI l i v) (stI l' i v) := leA.st i (leA.kl i h) (Or.inr rfl)
theorem stL_le {l l' : List MV} {i : Nat} {v : MV} (h : leA l l') : leA (stL l i v) (stL l' i v) := leA.st (i + 1) (leA.st i (leA.kl i h) (Or.inr rfl)) (Or.inl rfl)
theorem F_le {cw : CWt} (hc : ∀ j a w (Q Q' : MV → Wd → Prop), (∀ r w, Q r w → Q' r w) → cw j a w Q → cw j a w Q') {cd : List Ent} {pr : Pr} {Q Q' : MV → Wd → Prop} (hQ : ∀ r w, Q r w → Q' r w) {P P' : Pt4} (hP : ∀ i l l' s w, leA l l' → P i l s w → P' i l' s w) {i : Nat} {l l' s : List MV} {w : Wd} (hle : leA l l') : F cw cd pr Q P i l s w → F cw cd pr Q' P' i l' s w := by
  unfold F
  generalize nthA nE cd i = e
  obtain ⟨_, ins, _, aux, c⟩ := e
  cases ins <;> dsimp only
  case iload =>
    rcases leA.at (a0 aux) hle with q | q
    · rw [q]; exact False.elim
    · rw [← q]
      split <;> first | exact id | exact hP _ _ _ _ _ hle
  case iload_n =>
    rcases leA.at (a0 aux) hle with q | q
    · rw [q]; exact False.elim
    · rw [← q]
      split <;> first | exact id | exact hP _ _ _ _ _ hle
  case lload =>
    rcases leA.at (a0 aux) hle with q | q
    · rw [q]; exact False.elim
    · rw [← q]
      split <;> first | exact id | exact hP _ _ _ _ _ hle
  case lload_n =>
    rcases leA.at (a0 aux) hle with q | q
    · rw [q]; exact False.elim
    · rw [← q]
      split <;> first | exact id | exact hP _ _ _ _ _ hle
  case aload =>
    rcases leA.at (a0 aux) hle with q | q
    · rw [q]; exact False.elim
    · rw [← q]
      split <;> first | exact id | exact hP _ _ _ _ _ hle
  case aload_n =>
    rcases leA.at (a0 aux) hle with q | q
    · rw [q]; exact False.elim
    · rw [← q]
      split <;> first | exact id | exact hP _ _ _ _ _ hle
  case iinc =>
    rcases leA.at (a0 aux) hle with q | q
    · rw [q]; exact False.elim
    · rw [← q]
      split <;> first | exact id | exact hP _ _ _ _ _ (stI_le hle)
  case istore => split <;> first | exact id | exact hP _ _ _ _ _ (stI_le hle)
  case istore_n => split <;> first | exact id | exact hP _ _ _ _ _ (stI_le hle)
  case astore => split <;> first | exact id | exact hP _ _ _ _ _ (stI_le hle)
  case astore_n => split <;> first | exact id | exact hP _ _ _ _ _ (stI_le hle)
  case lstore => split <;> first | exact id | exact hP _ _ _ _ _ (stL_le hle)
  case lstore_n => split <;> first | exact id | exact hP _ _ _ _ _ (stL_le hle)
  case invokestatic =>
    split
    · split <;> first | exact id | exact ite_mono _ (fun _ => hP _ _ _ _ _ hle) (fun _ h => h)
    · split <;> first | exact id | exact ite_mono _ (fun _ => hP _ _ _ _ _ hle) (fun _ h => h)
    · split <;> first | exact id | exact ite_mono _ (fun _ => hP _ _ _ _ _ hle) (fun _ h => h)
    · split <;> first | exact id | exact ite_mono _ (fun _ => hP _ _ _ _ _ hle) (fun _ h => h)
    · split
      · exact ite_mono _ (fun _ h => ⟨h.1, hP _ _ _ _ _ hle h.2⟩) (fun _ h => h)
      · exact id
    · exact ite_mono _ (fun _ h => ⟨h.1, hc _ _ _ _ _ (fun _ _ => hP _ _ _ _ _ hle) h.2⟩) (fun _ h => h)
    · exact ite_mono _ (fun _ => ite_mono _ (fun _ => hc _ _ _ _ _ (fun _ _ => hP _ _ _ _ _ hle)) (fun _ h => h)) (fun _ h => h)
  case invokevirtual =>
    exact ite_mono _ (fun _ => ite_mono _ (fun _ => ite_mono _ (fun _ => hc _ _ _ _ _ (fun _ _ => hP _ _ _ _ _ hle)) (fun _ => ite_mono _ (fun _ h => ⟨h.1, hc _ _ _ _ _ (fun _ _ => hP _ _ _ _ _ hle) h.2⟩) (fun _ h => h))) (fun _ h => h)) (fun _ h => h)
  case invokespecial =>
    split
    · split <;> first | exact id | exact ite_mono _ (fun _ => hP _ _ _ _ _ hle) (fun _ h => h)
    · exact ite_mono _ (fun _ => ite_mono _ (fun _ h => ⟨h.1, hc _ _ _ _ _ (fun _ _ => hP _ _ _ _ _ hle) h.2⟩) (fun _ h => h)) (fun _ h => h)
  case tableswitch =>
    split
    · exact swP_mono (fun t => hP _ _ _ _ _ hle) _ _ _ _
    · exact id
  case new => exact fun h => ⟨h.1, h.2.1, h.2.2.1, hP _ _ _ _ _ hle h.2.2.2⟩
  case newarray =>
    split
    · exact fun h => ⟨h.1, h.2.1, h.2.2.1, h.2.2.2.1, hP _ _ _ _ _ hle h.2.2.2.2⟩
    · exact id
  case anewarray =>
    split
    · exact fun h => ⟨h.1, h.2.1, h.2.2.1, hP _ _ _ _ _ hle h.2.2.2⟩
    · exact id
  case getfield =>
    split
    · exact ite_mono _ (fun _ => ite_mono _ (fun _ => ite_mono _ (fun _ => hP _ _ _ _ _ hle) (fun _ h => ⟨h.1, hP _ _ _ _ _ hle h.2⟩)) (fun _ => ite_mono _ (fun _ => hP _ _ _ _ _ hle) (fun _ => hP _ _ _ _ _ hle))) (fun _ h => h)
    · exact id
  case putfield =>
    split
    · exact ite_mono _ (fun _ => ite_mono _ (fun _ => hP _ _ _ _ _ hle) (fun _ => ite_mono _ (fun _ h => ⟨h.1, hP _ _ _ _ _ hle h.2⟩) (fun _ h => h))) (fun _ h => h)
    · exact ite_mono _ (fun _ => ite_mono _ (fun _ => hP _ _ _ _ _ hle) (fun _ h => h)) (fun _ h => h)
    · exact ite_mono _ (fun _ => ite_mono _ (fun _ => ite_mono _ (fun _ h => ⟨h.1, hP _ _ _ _ _ hle h.2⟩) (fun _ h => h)) (fun _ h => h)) (fun _ h => h)
    · exact id
  case ireturn =>
    split
    · exact ite_mono _ (fun _ => hQ _ _) (fun _ => ite_mono _ (fun _ h => ⟨h.1, hQ _ _ h.2⟩) (fun _ h => h))
    · exact id
  case return_ => 
    split
    · exact ite_mono _ (fun _ => hQ _ _) (fun _ h => h)
    · exact id
  case lreturn => 
    split
    · exact ite_mono _ (fun _ => hQ _ _) (fun _ h => h)
    · exact id
  case areturn => 
    split
    · exact ite_mono _ (fun _ => hQ _ _) (fun _ h => h)
    · exact id
  case ifCond =>
    split
    · exact fun h => ⟨fun q => hP _ _ _ _ _ hle (h.1 q), fun q => hP _ _ _ _ _ hle (h.2 q)⟩
    · exact id
  case if_icmp =>
    split
    · exact fun h => ⟨fun q => hP _ _ _ _ _ hle (h.1 q), fun q => hP _ _ _ _ _ hle (h.2 q)⟩
    · exact id
  case bastore =>
    split
    · exact ite_mono _ (fun _ h => ⟨h.1, hP _ _ _ _ _ hle h.2⟩) (fun _ => ite_mono _ (fun _ h => ⟨h.1, h.2.1, hP _ _ _ _ _ hle h.2.2⟩) (fun _ h => h))
    · exact id
  case aastore =>
    split
    · exact ite_mono _ (fun _ => ite_mono _ (fun _ h => ⟨h.1, h.2.1, h.2.2.1, hP _ _ _ _ _ hle h.2.2.2⟩) (fun _ h => h)) (fun _ h => h)
    · exact id
  case aaload =>
    split
    · exact ite_mono _ (fun _ => ite_mono _ (fun _ h => ⟨h.1, hP _ _ _ _ _ hle h.2⟩) (fun _ h => h)) (fun _ h => h)
    · exact id
  all_goals first
    | exact id
    | exact hP _ _ _ _ _ hle
    | (split
       · exact fun h => ⟨h.1, hP _ _ _ _ _ hle h.2⟩
       · exact id)
    | (split
       · exact hP _ _ _ _ _ hle
       · exact id)
    | (split
       · exact hP _ _ _ _ _ hle
       · exact hP _ _ _ _ _ hle
       · exact id)
    | (split
       · exact ite_mono _ (fun _ h => ⟨h.1, hP _ _ _ _ _ hle h.2⟩) (fun _ h => h)
       · exact id)
    | (split
       · exact ite_mono _ (fun _ h => hP _ _ _ _ _ hle h) (fun _ h => h)
       · exact id)
/-- locals that nobody asks for any more may be forgotten -/
theorem Wp.fg {cw : CWt} (hc : ∀ j a w (Q Q' : MV → Wd → Prop), (∀ r w, Q r w → Q' r w) → cw j a w Q → cw j a w Q') {cd : List Ent} {pr : Pr} {Q : MV → Wd → Prop} {i : Nat} {l l' s : List MV} {w : Wd} (hle : leA l l') (h : Wp cw cd pr Q i l s w) : Wp cw cd pr Q i l' s w := by
  refine h (fun i l s w => ∀ l', leA l l' → Wp cw cd pr Q i l' s w) (fun i l s w hF l' hle => ?_) l' hle
  exact Wp.st hc (F_le hc (fun _ _ h => h) (fun _ _ l2 _ _ h2 h3 => h3 l2 h2) hle hF)
end
section
def mxL : List Nat := [1, 5, 1, 1, 1, 1, 2, 2, 2, 1, 2, 1, 6, 3, 2, 2, 2, 3, 3, 1, 1, 5, 3, 3, 1, 2, 1, 3, 2, 3, 1, 4, 2, 2, 3, 3, 3, 9, 4, 4, 3, 7, 7, 5, 3, 1, 1, 2, 2, 1, 5, 2, 7, 2, 2, 1, 1, 1, 2, 4, 3, 3, 3, 3, 5, 9, 2, 5, 5, 6, 6, 3, 2, 6, 4, 8, 7, 3, 2, 1, 2, 4, 3, 2, 6, 2, 1, 3, 3, 1, 4, 3, 1, 1, 4, 3, 2, 2, 4, 6, 4, 2, 3, 8, 2, 1, 4, 3, 5, 6, 6, 4, 4, 5, 2, 3, 5, 1, 4, 4, 6, 5, 5, 7, 3, 2, 4, 1, 1, 6, 2, 2, 2, 2, 3, 3, 6, 4, 4, 3, 3, 3, 3, 4, 4, 1, 3, 1, 7, 4, 1, 4, 4, 4, 4, 3, 5, 6, 7, 4, 7, 5, 9, 7, 3, 2, 3, 2, 1, 6, 3, 2, 1, 2, 2, 4, 1, 1, 1, 1, 3, 2, 2, 1, 3, 4, 3, 3, 1, 7, 2, 1, 2, 3, 2, 2, 2, 1, 3, 2, 2, 2, 2, 3, 2, 4, 2, 4, 2, 3, 2, 2, 8, 3, 4, 2, 4, 3, 5, 5, 3, 2, 1, 3, 4, 3, 7, 2, 10, 4, 2, 1, 3, 2, 6, 2, 3, 4, 6, 2, 2, 4, 5, 4, 5, 2, 3, 6, 5, 3, 8, 1, 6, 2, 3, 3, 2, 2, 6, 3, 7, 2, 4, 4, 1, 6, 5, 4, 4, 6, 4, 5, 5, 3, 3, 2, 4, 5, 1, 5, 5, 5, 4]
def mxM (j : Nat) : Nat := nthA 0 mxL j
def cd_X_init : List Ent := [(0, .aload_n 0, 1, [0], 0),
  (1, .invokespecial 1, 3, [20, 0, 0, 1031, 1032, 1033], 0),
  (4, .aload_n 0, 1, [0], 0),
  (5, .sipush 1040, 3, [], 1040),
  (8, .newarray .int, 2, [20, 1121], 0),
  (10, .putfield 9, 3, [11, 0, 3092], 0),
  (13, .aload_n 0, 1, [0], 0),
  (14, .new 13, 3, [7, 1034, 1035, 1002], 0),
  (17, .dup, 1, [], 0),
  (18, .aload_n 0, 1, [0], 0),
  (19, .getfield 9, 3, [11, 0, 3092], 0),
  (22, .invokespecial 15, 3, [2, 1, 1, 1036, 1037, 1002], 0),
  (25, .putfield 18, 3, [11, 3, 3095], 0),
  (28, .aload_n 0, 1, [0], 0),
  (29, .new 22, 3, [9, 1123, 1124, 1007], 0),
  (32, .dup, 1, [], 0),
  (33, .invokespecial 24, 3, [2, 2, 0, 1125, 1126, 1007], 0),
  (36, .putfield 25, 3, [11, 4, 3096], 0),
  (39, .aload_n 0, 1, [0], 0),
  (40, .new 22, 3, [9, 1123, 1124, 1007], 0),
  (43, .dup, 1, [], 0),
  (44, .invokespecial 24, 3, [2, 2, 0, 1125, 1126, 1007], 0),
  (47, .putfield 29, 3, [11, 5, 3097], 0),
  (50, .aload_n 0, 1, [0], 0),
  (51, .new 32, 3, [4, 1226, 1227, 1009], 0),
  (54, .dup, 1, [], 0),
  (55, .invokespecial 34, 3, [5, 3, 0, 0, 1229, 1009], 0),
  (58, .putfield 35, 3, [11, 6, 3098], 0),
  (61, .aload_n 0, 1, [0], 0),
  (62, .new 32, 3, [4, 1226, 1227, 1009], 0),
  (65, .dup, 1, [], 0),
  (66, .invokespecial 34, 3, [5, 3, 0, 0, 1229, 1009], 0),
  (69, .putfield 39, 3, [11, 7, 3099], 0),
  (72, .aload_n 0, 1, [0], 0),
  (73, .new 42, 3, [0, 2016, 2017, 1010], 0),
  (76, .dup, 1, [], 0),
  (77, .invokespecial 44, 3, [5, 4, 0, 0, 2019, 1010], 0),
  (80, .putfield 45, 3, [11, 8, 3100], 0),
  (83, .aload_n 0, 1, [0], 0),
  (84, .iconst 2, 1, [], 2),
  (85, .anewarray 49, 3, [24, 2045], 0),
  (88, .dup, 1, [], 0),
  (89, .iconst 0, 1, [], 0),
  (90, .new 49, 3, [2, 2045, 2047, 1011], 0),
  (93, .dup, 1, [], 0),
  (94, .invokespecial 51, 3, [5, 5, 0, 0, 2049, 1011], 0),
  (97, .aastore, 1, [], 0),
  (98, .dup, 1, [], 0),
  (99, .iconst 1, 1, [], 1),
  (100, .new 49, 3, [2, 2045, 2047, 1011], 0),
  (103, .dup, 1, [], 0),
  (104, .invokespecial 51, 3, [5, 5, 0, 0, 2049, 1011], 0),
  (107, .aastore, 1, [], 0),
  (108, .putfield 52, 3, [11, 9, 3101], 0),
  (111, .aload_n 0, 1, [0], 0),
  (112, .new 56, 3, [3, 2074, 2075, 1012], 0),
  (115, .dup, 1, [], 0),
  (116, .new 58, 3, [10, 2076, 2077, 1013], 0),
  (119, .dup, 1, [], 0),
  (120, .new 60, 3, [6, 2078, 2079, 1014], 0),
  (123, .dup, 1, [], 0),
  (124, .aload_n 0, 1, [0], 0),
  (125, .getfield 25, 3, [11, 4, 3096], 0),
  (128, .invokespecial 62, 3, [2, 6, 1, 2080, 2081, 1014], 0),
  (131, .invokespecial 65, 3, [2, 7, 1, 2124, 2125, 1013], 0),
  (134, .invokespecial 68, 3, [2, 8, 1, 2185, 2186, 1012], 0),
  (137, .putfield 71, 3, [11, 10, 3102], 0),
  (140, .aload_n 0, 1, [0], 0),
  (141, .new 56, 3, [3, 2074, 2075, 1012], 0),
  (144, .dup, 1, [], 0),
  (145, .new 58, 3, [10, 2076, 2077, 1013], 0),
  (148, .dup, 1, [], 0),
  (149, .new 60, 3, [6, 2078, 2079, 1014], 0),
  (152, .dup, 1, [], 0),
  (153, .aload_n 0, 1, [0], 0),
  (154, .getfield 25, 3, [11, 4, 3096], 0),
  (157, .invokespecial 62, 3, [2, 6, 1, 2080, 2081, 1014], 0),
  (160, .invokespecial 65, 3, [2, 7, 1, 2124, 2125, 1013], 0),
  (163, .invokespecial 68, 3, [2, 8, 1, 2185, 2186, 1012], 0),
  (166, .putfield 75, 3, [11, 11, 3103], 0),
  (169, .aload_n 0, 1, [0], 0),
  (170, .iconst 1, 1, [], 1),
  (171, .putfield 78, 3, [11, 12, 3104], 0),
  (174, .aload_n 0, 1, [0], 0),
  (175, .new 82, 3, [1, 2219, 2220, 1015], 0),
  (178, .dup, 1, [], 0),
  (179, .invokespecial 84, 3, [5, 9, 0, 0, 2222, 1015], 0),
  (182, .putfield 85, 3, [11, 13, 3105], 0),
  (185, .aload_n 0, 1, [0], 0),
  (186, .new 89, 3, [5, 3032, 3033, 1016], 0),
  (189, .dup, 1, [], 0),
  (190, .aload_n 0, 1, [0], 0),
  (191, .getfield 25, 3, [11, 4, 3096], 0),
  (194, .invokespecial 91, 3, [2, 10, 1, 3034, 3035, 1016], 0),
  (197, .putfield 92, 3, [11, 14, 3106], 0),
  (200, .aload_n 0, 1, [0], 0),
  (201, .new 96, 3, [8, 3053, 3054, 1017], 0),
  (204, .dup, 1, [], 0),
  (205, .invokespecial 98, 3, [5, 11, 0, 0, 3056, 1017], 0),
  (208, .putfield 99, 3, [11, 15, 3107], 0),
  (211, .return_, 1, [], 0)]
def cd_Village_init : List Ent := [(0, .aload_n 0, 1, [0], 0),
  (1, .invokespecial 3, 3, [20, 0, 0, 1128, 1032, 1033], 0),
  (4, .aload_n 0, 1, [0], 0),
  (5, .bipush 8, 2, [], 8),
  (7, .newarray .int, 2, [20, 1121], 0),
  (9, .putfield 9, 3, [9, 1, 1137], 0),
  (12, .aload_n 0, 1, [0], 0),
  (13, .bipush 8, 2, [], 8),
  (15, .newarray .int, 2, [20, 1121], 0),
  (17, .putfield 15, 3, [9, 2, 1138], 0),
  (20, .aload_n 0, 1, [0], 0),
  (21, .bipush 8, 2, [], 8),
  (23, .newarray .int, 2, [20, 1121], 0),
  (25, .putfield 18, 3, [9, 3, 1139], 0),
  (28, .aload_n 0, 1, [0], 0),
  (29, .bipush 8, 2, [], 8),
  (31, .newarray .int, 2, [20, 1121], 0),
  (33, .putfield 21, 3, [9, 4, 1140], 0),
  (36, .aload_n 0, 1, [0], 0),
  (37, .bipush 6, 2, [], 6),
  (39, .newarray .int, 2, [20, 1121], 0),
  (41, .putfield 24, 3, [9, 6, 1146], 0),
  (44, .aload_n 0, 1, [0], 0),
  (45, .bipush 6, 2, [], 6),
  (47, .newarray .int, 2, [20, 1121], 0),
  (49, .putfield 27, 3, [9, 7, 1147], 0),
  (52, .aload_n 0, 1, [0], 0),
  (53, .bipush 80, 2, [], 80),
  (55, .newarray .int, 2, [20, 1121], 0),
  (57, .putfield 30, 3, [9, 9, 1155], 0),
  (60, .aload_n 0, 1, [0], 0),
  (61, .bipush 16, 2, [], 16),
  (63, .newarray .int, 2, [20, 1121], 0),
  (65, .putfield 33, 3, [9, 10, 1157], 0),
  (68, .aload_n 0, 1, [0], 0),
  (69, .bipush 32, 2, [], 32),
  (71, .newarray .int, 2, [20, 1121], 0),
  (73, .putfield 36, 3, [9, 12, 1166], 0),
  (76, .aload_n 0, 1, [0], 0),
  (77, .bipush 64, 2, [], 64),
  (79, .newarray .int, 2, [20, 1121], 0),
  (81, .putfield 39, 3, [9, 13, 1169], 0),
  (84, .aload_n 0, 1, [0], 0),
  (85, .bipush 64, 2, [], 64),
  (87, .newarray .int, 2, [20, 1121], 0),
  (89, .putfield 42, 3, [9, 14, 1174], 0),
  (92, .aload_n 0, 1, [0], 0),
  (93, .iconst 3, 1, [], 3),
  (94, .putfield 45, 3, [9, 15, 1178], 0),
  (97, .aload_n 0, 1, [0], 0),
  (98, .iconst 1, 1, [], 1),
  (99, .putfield 49, 3, [9, 16, 1183], 0),
  (102, .aload_n 0, 1, [0], 0),
  (103, .getfield 39, 3, [9, 13, 1169], 0),
  (106, .iconst (-1), 1, [], (-1)),
  (107, .invokestatic 52, 3, [1, 276, 2, 1129, 1130, 1008], 0),
  (110, .return_, 1, [], 0)]
def cd_Plan_init : List Ent := [(0, .aload_n 0, 1, [0], 0),
  (1, .invokespecial 3, 3, [20, 0, 0, 1231, 1032, 1033], 0),
  (4, .aload_n 0, 1, [0], 0),
  (5, .bipush 50, 2, [], 50),
  (7, .newarray .int, 2, [20, 1121], 0),
  (9, .putfield 9, 3, [4, 1, 1235], 0),
  (12, .aload_n 0, 1, [0], 0),
  (13, .bipush 50, 2, [], 50),
  (15, .newarray .int, 2, [20, 1121], 0),
  (17, .putfield 15, 3, [4, 2, 1238], 0),
  (20, .aload_n 0, 1, [0], 0),
  (21, .bipush 50, 2, [], 50),
  (23, .newarray .int, 2, [20, 1121], 0),
  (25, .putfield 18, 3, [4, 3, 2001], 0),
  (28, .return_, 1, [], 0)]
def cd_Book_init : List Ent := [(0, .aload_n 0, 1, [0], 0),
  (1, .invokespecial 3, 3, [20, 0, 0, 2021, 1032, 1033], 0),
  (4, .aload_n 0, 1, [0], 0),
  (5, .bipush 40, 2, [], 40),
  (7, .newarray .int, 2, [20, 1121], 0),
  (9, .putfield 9, 3, [0, 1, 2024], 0),
  (12, .aload_n 0, 1, [0], 0),
  (13, .bipush 40, 2, [], 40),
  (15, .newarray .int, 2, [20, 1121], 0),
  (17, .putfield 15, 3, [0, 2, 2025], 0),
  (20, .aload_n 0, 1, [0], 0),
  (21, .bipush 40, 2, [], 40),
  (23, .newarray .int, 2, [20, 1121], 0),
  (25, .putfield 18, 3, [0, 3, 2026], 0),
  (28, .aload_n 0, 1, [0], 0),
  (29, .bipush 40, 2, [], 40),
  (31, .newarray .int, 2, [20, 1121], 0),
  (33, .putfield 21, 3, [0, 4, 2027], 0),
  (36, .aload_n 0, 1, [0], 0),
  (37, .bipush 8, 2, [], 8),
  (39, .newarray .int, 2, [20, 1121], 0),
  (41, .putfield 24, 3, [0, 5, 2028], 0),
  (44, .aload_n 0, 1, [0], 0),
  (45, .bipush 8, 2, [], 8),
  (47, .newarray .int, 2, [20, 1121], 0),
  (49, .putfield 27, 3, [0, 6, 2029], 0),
  (52, .return_, 1, [], 0)]
def cd_Image_init : List Ent := [(0, .aload_n 0, 1, [0], 0),
  (1, .invokespecial 1, 3, [20, 0, 0, 2051, 1032, 1033], 0),
  (4, .aload_n 0, 1, [0], 0),
  (5, .new 7, 3, [9, 2052, 1124, 1007], 0),
  (8, .dup, 1, [], 0),
  (9, .invokespecial 9, 3, [2, 2, 0, 2053, 1126, 1007], 0),
  (12, .putfield 10, 3, [2, 1, 2059], 0),
  (15, .aload_n 0, 1, [0], 0),
  (16, .new 16, 3, [4, 2054, 1227, 1009], 0),
  (19, .dup, 1, [], 0),
  (20, .invokespecial 18, 3, [5, 3, 0, 0, 1229, 1009], 0),
  (23, .putfield 19, 3, [2, 2, 2061], 0),
  (26, .aload_n 0, 1, [0], 0),
  (27, .new 23, 3, [0, 2056, 2017, 1010], 0),
  (30, .dup, 1, [], 0),
  (31, .invokespecial 25, 3, [5, 4, 0, 0, 2019, 1010], 0),
  (34, .putfield 26, 3, [2, 3, 2063], 0),
  (37, .return_, 1, [], 0)]
def cd_Terms_init : List Ent := [(0, .aload_n 0, 1, [0], 0),
  (1, .invokespecial 3, 3, [20, 0, 0, 2083, 1032, 1033], 0),
  (4, .aload_n 0, 1, [0], 0),
  (5, .bipush 8, 2, [], 8),
  (7, .newarray .int, 2, [20, 1121], 0),
  (9, .putfield 9, 3, [6, 3, 2092], 0),
  (12, .aload_n 0, 1, [0], 0),
  (13, .bipush 64, 2, [], 64),
  (15, .newarray .int, 2, [20, 1121], 0),
  (17, .putfield 15, 3, [6, 4, 2095], 0),
  (20, .aload_n 0, 1, [0], 0),
  (21, .bipush 64, 2, [], 64),
  (23, .newarray .int, 2, [20, 1121], 0),
  (25, .putfield 18, 3, [6, 5, 2098], 0),
  (28, .aload_n 0, 1, [0], 0),
  (29, .aload_n 1, 1, [1], 0),
  (30, .putfield 21, 3, [6, 0, 2084], 0),
  (33, .return_, 1, [], 0)]
def cd_Ways_init : List Ent := [(0, .aload_n 0, 1, [0], 0),
  (1, .invokespecial 5, 3, [20, 0, 0, 2127, 1032, 1033], 0),
  (4, .aload_n 0, 1, [0], 0),
  (5, .iconst (-1), 1, [], (-1)),
  (6, .putfield 11, 3, [10, 2, 2132], 0),
  (9, .aload_n 0, 1, [0], 0),
  (10, .sipush 384, 3, [], 384),
  (13, .newarray .long, 2, [21, 2184], 0),
  (15, .putfield 17, 3, [10, 3, 2134], 0),
  (18, .aload_n 0, 1, [0], 0),
  (19, .bipush 8, 2, [], 8),
  (21, .newarray .int, 2, [20, 1121], 0),
  (23, .putfield 21, 3, [10, 4, 2136], 0),
  (26, .aload_n 0, 1, [0], 0),
  (27, .bipush 8, 2, [], 8),
  (29, .newarray .int, 2, [20, 1121], 0),
  (31, .putfield 25, 3, [10, 5, 2138], 0),
  (34, .aload_n 0, 1, [0], 0),
  (35, .bipush 8, 2, [], 8),
  (37, .newarray .int, 2, [20, 1121], 0),
  (39, .putfield 28, 3, [10, 6, 2140], 0),
  (42, .aload_n 0, 1, [0], 0),
  (43, .bipush 6, 2, [], 6),
  (45, .newarray .int, 2, [20, 1121], 0),
  (47, .putfield 31, 3, [10, 11, 2146], 0),
  (50, .aload_n 0, 1, [0], 0),
  (51, .bipush 6, 2, [], 6),
  (53, .newarray .int, 2, [20, 1121], 0),
  (55, .putfield 34, 3, [10, 12, 2147], 0),
  (58, .aload_n 0, 1, [0], 0),
  (59, .bipush 6, 2, [], 6),
  (61, .newarray .int, 2, [20, 1121], 0),
  (63, .putfield 37, 3, [10, 13, 2148], 0),
  (66, .aload_n 0, 1, [0], 0),
  (67, .bipush 6, 2, [], 6),
  (69, .newarray .int, 2, [20, 1121], 0),
  (71, .putfield 40, 3, [10, 14, 2149], 0),
  (74, .aload_n 0, 1, [0], 0),
  (75, .bipush 6, 2, [], 6),
  (77, .newarray .int, 2, [20, 1121], 0),
  (79, .putfield 43, 3, [10, 15, 2150], 0),
  (82, .aload_n 0, 1, [0], 0),
  (83, .aload_n 1, 1, [1], 0),
  (84, .putfield 46, 3, [10, 0, 2128], 0),
  (87, .aload_n 0, 1, [0], 0),
  (88, .aload_n 1, 1, [1], 0),
  (89, .getfield 50, 3, [6, 0, 2085], 0),
  (92, .putfield 56, 3, [10, 1, 2131], 0),
  (95, .return_, 1, [], 0)]
def cd_Meeting_init : List Ent := [(0, .aload_n 0, 1, [0], 0),
  (1, .invokespecial 5, 3, [20, 0, 0, 2188, 1032, 1033], 0),
  (4, .aload_n 0, 1, [0], 0),
  (5, .sipush 128, 3, [], 128),
  (8, .newarray .long, 2, [21, 2184], 0),
  (10, .putfield 11, 3, [3, 2, 2192], 0),
  (13, .aload_n 0, 1, [0], 0),
  (14, .bipush 8, 2, [], 8),
  (16, .newarray .int, 2, [20, 1121], 0),
  (18, .putfield 15, 3, [3, 3, 2193], 0),
  (21, .aload_n 0, 1, [0], 0),
  (22, .sipush 256, 3, [], 256),
  (25, .newarray .int, 2, [20, 1121], 0),
  (27, .putfield 19, 3, [3, 4, 2194], 0),
  (30, .aload_n 0, 1, [0], 0),
  (31, .sipush 256, 3, [], 256),
  (34, .newarray .long, 2, [21, 2184], 0),
  (36, .putfield 22, 3, [3, 5, 2195], 0),
  (39, .aload_n 0, 1, [0], 0),
  (40, .bipush 8, 2, [], 8),
  (42, .newarray .long, 2, [21, 2184], 0),
  (44, .putfield 25, 3, [3, 6, 2196], 0),
  (47, .aload_n 0, 1, [0], 0),
  (48, .aload_n 1, 1, [1], 0),
  (49, .putfield 28, 3, [3, 0, 2189], 0),
  (52, .aload_n 0, 1, [0], 0),
  (53, .aload_n 1, 1, [1], 0),
  (54, .getfield 32, 3, [10, 1, 2130], 0),
  (57, .putfield 38, 3, [3, 1, 2191], 0),
  (60, .return_, 1, [], 0)]
def cd_Day_init : List Ent := [(0, .aload_n 0, 1, [0], 0),
  (1, .invokespecial 3, 3, [20, 0, 0, 2224, 1032, 1033], 0),
  (4, .aload_n 0, 1, [0], 0),
  (5, .bipush 16, 2, [], 16),
  (7, .newarray .int, 2, [20, 1121], 0),
  (9, .putfield 9, 3, [1, 8, 3001], 0),
  (12, .aload_n 0, 1, [0], 0),
  (13, .bipush 16, 2, [], 16),
  (15, .newarray .int, 2, [20, 1121], 0),
  (17, .putfield 15, 3, [1, 9, 3003], 0),
  (20, .aload_n 0, 1, [0], 0),
  (21, .bipush 16, 2, [], 16),
  (23, .newarray .int, 2, [20, 1121], 0),
  (25, .putfield 18, 3, [1, 10, 3005], 0),
  (28, .aload_n 0, 1, [0], 0),
  (29, .bipush 16, 2, [], 16),
  (31, .newarray .int, 2, [20, 1121], 0),
  (33, .putfield 21, 3, [1, 11, 3006], 0),
  (36, .return_, 1, [], 0)]
def cd_Ring_init : List Ent := [(0, .aload_n 0, 1, [0], 0),
  (1, .invokespecial 3, 3, [20, 0, 0, 3037, 1032, 1033], 0),
  (4, .aload_n 0, 1, [0], 0),
  (5, .bipush 8, 2, [], 8),
  (7, .newarray .int, 2, [20, 1121], 0),
  (9, .putfield 9, 3, [5, 1, 3039], 0),
  (12, .aload_n 0, 1, [0], 0),
  (13, .bipush 8, 2, [], 8),
  (15, .newarray .int, 2, [20, 1121], 0),
  (17, .putfield 15, 3, [5, 3, 3042], 0),
  (20, .aload_n 0, 1, [0], 0),
  (21, .aload_n 1, 1, [1], 0),
  (22, .putfield 18, 3, [5, 0, 3038], 0),
  (25, .return_, 1, [], 0)]
def cd_Told_init : List Ent := [(0, .aload_n 0, 1, [0], 0),
  (1, .invokespecial 3, 3, [20, 0, 0, 3058, 1032, 1033], 0),
  (4, .aload_n 0, 1, [0], 0),
  (5, .bipush 6, 2, [], 6),
  (7, .newarray .int, 2, [20, 1121], 0),
  (9, .putfield 9, 3, [8, 0, 3059], 0),
  (12, .aload_n 0, 1, [0], 0),
  (13, .bipush 8, 2, [], 8),
  (15, .newarray .int, 2, [20, 1121], 0),
  (17, .putfield 15, 3, [8, 2, 3063], 0),
  (20, .aload_n 0, 1, [0], 0),
  (21, .bipush 8, 2, [], 8),
  (23, .newarray .int, 2, [20, 1121], 0),
  (25, .putfield 18, 3, [8, 4, 3067], 0),
  (28, .aload_n 0, 1, [0], 0),
  (29, .iconst (-1), 1, [], (-1)),
  (30, .putfield 21, 3, [8, 6, 3071], 0),
  (33, .aload_n 0, 1, [0], 0),
  (34, .iconst (-1), 1, [], (-1)),
  (35, .putfield 25, 3, [8, 7, 3073], 0),
  (38, .return_, 1, [], 0)]
def cd_X_feed : List Ent := [(0, .aload_n 0, 1, [0], 0),
  (1, .getfield 103, 3, [11, 1, 3093], 0),
  (4, .bipush 20, 2, [], 20),
  (6, .iadd, 1, [], 0),
  (7, .sipush 1040, 3, [], 1040),
  (10, .if_icmp .le 5, 3, [8], 0),
  (13, .iconst (-1), 1, [], (-1)),
  (14, .ireturn, 1, [], 0),
  (15, .aload_n 0, 1, [0], 0),
  (16, .iload_n 1, 1, [1], 0),
  (17, .invokevirtual 107, 3, [0, 13, 1, 11, 3145, 3147, 0, 1001], 0),
  (20, .aload_n 0, 1, [0], 0),
  (21, .iload_n 2, 1, [2], 0),
  (22, .invokevirtual 107, 3, [0, 13, 1, 11, 3145, 3147, 0, 1001], 0),
  (25, .aload_n 0, 1, [0], 0),
  (26, .iload_n 3, 1, [3], 0),
  (27, .invokevirtual 107, 3, [0, 13, 1, 11, 3145, 3147, 0, 1001], 0),
  (30, .aload_n 0, 1, [0], 0),
  (31, .iload 4, 2, [4], 0),
  (33, .invokevirtual 107, 3, [0, 13, 1, 11, 3145, 3147, 0, 1001], 0),
  (36, .aload_n 0, 1, [0], 0),
  (37, .iload 5, 2, [5], 0),
  (39, .invokevirtual 107, 3, [0, 13, 1, 11, 3145, 3147, 0, 1001], 0),
  (42, .aload_n 0, 1, [0], 0),
  (43, .getfield 103, 3, [11, 1, 3093], 0),
  (46, .ireturn, 1, [], 0)]
def cd_X_feedNumber : List Ent := [(0, .bipush 24, 2, [], 24),
  (2, .istore_n 2, 1, [2], 0),
  (3, .iload_n 2, 1, [2], 0),
  (4, .ifCond .lt 45, 3, [26], 0),
  (7, .aload_n 0, 1, [0], 0),
  (8, .getfield 103, 3, [11, 1, 3093], 0),
  (11, .sipush 1040, 3, [], 1040),
  (14, .if_icmp .ge 35, 3, [26], 0),
  (17, .aload_n 0, 1, [0], 0),
  (18, .getfield 9, 3, [11, 0, 3092], 0),
  (21, .aload_n 0, 1, [0], 0),
  (22, .getfield 103, 3, [11, 1, 3093], 0),
  (25, .iload_n 1, 1, [1], 0),
  (26, .iload_n 2, 1, [2], 0),
  (27, .iushr, 1, [], 0),
  (28, .sipush 255, 3, [], 255),
  (31, .iand, 1, [], 0),
  (32, .iastore, 1, [], 0),
  (33, .aload_n 0, 1, [0], 0),
  (34, .dup, 1, [], 0),
  (35, .getfield 103, 3, [11, 1, 3093], 0),
  (38, .iconst 1, 1, [], 1),
  (39, .iadd, 1, [], 0),
  (40, .putfield 103, 3, [11, 1, 3093], 0),
  (43, .iinc 2 (-8), 3, [2], (-8)),
  (46, .goto (-43), 3, [2], 0),
  (49, .return_, 1, [], 0)]
def cd_X_end : List Ent := [(0, .iload_n 1, 1, [1], 0),
  (1, .ifCond .lt 11, 3, [6], 0),
  (4, .iload_n 1, 1, [1], 0),
  (5, .aload_n 0, 1, [0], 0),
  (6, .getfield 103, 3, [11, 1, 3093], 0),
  (9, .if_icmp .le 5, 3, [8], 0),
  (12, .iconst 0, 1, [], 0),
  (13, .ireturn, 1, [], 0),
  (14, .aload_n 0, 1, [0], 0),
  (15, .iload_n 1, 1, [1], 0),
  (16, .putfield 103, 3, [11, 1, 3093], 0),
  (19, .iconst 1, 1, [], 1),
  (20, .ireturn, 1, [], 0)]
def cd_X_village : List Ent := [(0, .aload_n 0, 1, [0], 0),
  (1, .getfield 18, 3, [11, 3, 3095], 0),
  (4, .aload_n 0, 1, [0], 0),
  (5, .invokevirtual 111, 3, [0, 16, 0, 11, 3157, 3159, 1, 1001], 0),
  (8, .sipush 1000, 3, [], 1000),
  (11, .invokevirtual 115, 3, [0, 17, 2, 7, 3161, 3162, 3163, 1002], 0),
  (14, .aload_n 0, 1, [0], 0),
  (15, .getfield 29, 3, [11, 5, 3097], 0),
  (18, .aload_n 0, 1, [0], 0),
  (19, .getfield 18, 3, [11, 3, 3095], 0),
  (22, .invokevirtual 119, 3, [0, 23, 1, 9, 3186, 3187, 3188, 1007], 0),
  (25, .istore_n 1, 1, [1], 0),
  (26, .aload_n 0, 1, [0], 0),
  (27, .aload_n 0, 1, [0], 0),
  (28, .getfield 18, 3, [11, 3, 3095], 0),
  (31, .getfield 123, 3, [7, 8, 1101], 0),
  (34, .putfield 126, 3, [11, 2, 3094], 0),
  (37, .iload_n 1, 1, [1], 0),
  (38, .ifCond .lt 35, 3, [35], 0),
  (41, .aload_n 0, 1, [0], 0),
  (42, .getfield 25, 3, [11, 4, 3096], 0),
  (45, .aload_n 0, 1, [0], 0),
  (46, .getfield 29, 3, [11, 5, 3097], 0),
  (49, .invokevirtual 127, 3, [0, 47, 1, 9, 4044, 4045, 4046, 1007], 0),
  (52, .aload_n 0, 1, [0], 0),
  (53, .getfield 35, 3, [11, 6, 3098], 0),
  (56, .iconst 0, 1, [], 0),
  (57, .putfield 130, 3, [4, 0, 1234], 0),
  (60, .aload_n 0, 1, [0], 0),
  (61, .getfield 45, 3, [11, 8, 3100], 0),
  (64, .iconst 0, 1, [], 0),
  (65, .putfield 133, 3, [0, 0, 2023], 0),
  (68, .aload_n 0, 1, [0], 0),
  (69, .iconst 1, 1, [], 1),
  (70, .putfield 78, 3, [11, 12, 3104], 0),
  (73, .iload_n 1, 1, [1], 0),
  (74, .ireturn, 1, [], 0)]
def cd_X_takeTape : List Ent := [(0, .aload_n 0, 1, [0], 0),
  (1, .getfield 103, 3, [11, 1, 3093], 0),
  (4, .istore_n 1, 1, [1], 0),
  (5, .aload_n 0, 1, [0], 0),
  (6, .iconst 0, 1, [], 0),
  (7, .putfield 103, 3, [11, 1, 3093], 0),
  (10, .iload_n 1, 1, [1], 0),
  (11, .ireturn, 1, [], 0)]
def cd_Tokens_start : List Ent := [(0, .aload_n 0, 1, [0], 0),
  (1, .iload_n 1, 1, [1], 0),
  (2, .aload_n 0, 1, [0], 0),
  (3, .getfield 15, 3, [7, 0, 1089], 0),
  (6, .arraylength, 1, [], 0),
  (7, .invokestatic 30, 3, [11, 0, 0, 3165, 3166, 1019, 3167], 0),
  (10, .putfield 36, 3, [7, 2, 1091], 0),
  (13, .aload_n 0, 1, [0], 0),
  (14, .aload_n 0, 1, [0], 0),
  (15, .getfield 36, 3, [7, 2, 1091], 0),
  (18, .iload_n 2, 1, [2], 0),
  (19, .invokestatic 30, 3, [11, 0, 0, 3165, 3166, 1019, 3167], 0),
  (22, .putfield 39, 3, [7, 3, 1092], 0),
  (25, .aload_n 0, 1, [0], 0),
  (26, .iconst 0, 1, [], 0),
  (27, .putfield 42, 3, [7, 4, 1093], 0),
  (30, .aload_n 0, 1, [0], 0),
  (31, .iconst 0, 1, [], 0),
  (32, .putfield 45, 3, [7, 8, 1100], 0),
  (35, .aload_n 0, 1, [0], 0),
  (36, .invokevirtual 48, 3, [0, 18, 0, 7, 3168, 3169, 3170, 1002], 0),
  (39, .return_, 1, [], 0)]
def cd_Tokens_advance : List Ent := [(0, .aload_n 0, 1, [0], 0),
  (1, .getfield 42, 3, [7, 4, 1093], 0),
  (4, .aload_n 0, 1, [0], 0),
  (5, .getfield 39, 3, [7, 3, 1092], 0),
  (8, .if_icmp .ge 44, 3, [26], 0),
  (11, .aload_n 0, 1, [0], 0),
  (12, .getfield 15, 3, [7, 0, 1089], 0),
  (15, .aload_n 0, 1, [0], 0),
  (16, .getfield 42, 3, [7, 4, 1093], 0),
  (19, .iaload, 1, [], 0),
  (20, .bipush 32, 2, [], 32),
  (22, .if_icmp .eq 17, 3, [19], 0),
  (25, .aload_n 0, 1, [0], 0),
  (26, .getfield 15, 3, [7, 0, 1089], 0),
  (29, .aload_n 0, 1, [0], 0),
  (30, .getfield 42, 3, [7, 4, 1093], 0),
  (33, .iaload, 1, [], 0),
  (34, .bipush 10, 2, [], 10),
  (36, .if_icmp .ne 16, 3, [26], 0),
  (39, .aload_n 0, 1, [0], 0),
  (40, .dup, 1, [], 0),
  (41, .getfield 42, 3, [7, 4, 1093], 0),
  (44, .iconst 1, 1, [], 1),
  (45, .iadd, 1, [], 0),
  (46, .putfield 42, 3, [7, 4, 1093], 0),
  (49, .goto (-49), 3, [0], 0),
  (52, .aload_n 0, 1, [0], 0),
  (53, .aload_n 0, 1, [0], 0),
  (54, .getfield 42, 3, [7, 4, 1093], 0),
  (57, .aload_n 0, 1, [0], 0),
  (58, .getfield 39, 3, [7, 3, 1092], 0),
  (61, .invokestatic 30, 3, [11, 0, 0, 3165, 3166, 1019, 3167], 0),
  (64, .putfield 51, 3, [7, 7, 1099], 0),
  (67, .aload_n 0, 1, [0], 0),
  (68, .iconst 0, 1, [], 0),
  (69, .putfield 54, 3, [7, 6, 1097], 0),
  (72, .aload_n 0, 1, [0], 0),
  (73, .getfield 42, 3, [7, 4, 1093], 0),
  (76, .aload_n 0, 1, [0], 0),
  (77, .getfield 39, 3, [7, 3, 1092], 0),
  (80, .if_icmp .lt 24, 3, [52], 0),
  (83, .aload_n 0, 1, [0], 0),
  (84, .aload_n 0, 1, [0], 0),
  (85, .getfield 36, 3, [7, 2, 1091], 0),
  (88, .aload_n 0, 1, [0], 0),
  (89, .getfield 39, 3, [7, 3, 1092], 0),
  (92, .if_icmp .le 7, 3, [49], 0),
  (95, .iconst 1, 1, [], 1),
  (96, .goto 4, 3, [50], 0),
  (99, .iconst 0, 1, [], 0),
  (100, .putfield 57, 3, [7, 5, 1094], 0),
  (103, .return_, 1, [], 0),
  (104, .aload_n 0, 1, [0], 0),
  (105, .getfield 42, 3, [7, 4, 1093], 0),
  (108, .istore_n 1, 1, [1], 0),
  (109, .iconst 0, 1, [], 0),
  (110, .istore_n 2, 1, [2], 0),
  (111, .iload_n 1, 1, [1], 0),
  (112, .aload_n 0, 1, [0], 0),
  (113, .getfield 36, 3, [7, 2, 1091], 0),
  (116, .if_icmp .ge 53, 3, [87], 0),
  (119, .aload_n 0, 1, [0], 0),
  (120, .getfield 15, 3, [7, 0, 1089], 0),
  (123, .iload_n 1, 1, [1], 0),
  (124, .iaload, 1, [], 0),
  (125, .invokestatic 60, 3, [1, 19, 1, 3172, 3173, 1002], 0),
  (128, .ifCond .ne 15, 3, [73], 0),
  (131, .aload_n 0, 1, [0], 0),
  (132, .getfield 15, 3, [7, 0, 1089], 0),
  (135, .iload_n 1, 1, [1], 0),
  (136, .iaload, 1, [], 0),
  (137, .invokestatic 64, 3, [1, 20, 1, 3175, 3176, 1002], 0),
  (140, .ifCond .eq 29, 3, [87], 0),
  (143, .iload_n 2, 1, [2], 0),
  (144, .aload_n 0, 1, [0], 0),
  (145, .getfield 15, 3, [7, 0, 1089], 0),
  (148, .iload_n 1, 1, [1], 0),
  (149, .iaload, 1, [], 0),
  (150, .invokestatic 60, 3, [1, 19, 1, 3172, 3173, 1002], 0),
  (153, .ifCond .eq 7, 3, [82], 0),
  (156, .iconst 1, 1, [], 1),
  (157, .goto 4, 3, [83], 0),
  (160, .iconst 0, 1, [], 0),
  (161, .iadd, 1, [], 0),
  (162, .istore_n 2, 1, [2], 0),
  (163, .iinc 1 1, 3, [1], 1),
  (166, .goto (-55), 3, [57], 0),
  (169, .iload_n 1, 1, [1], 0),
  (170, .aload_n 0, 1, [0], 0),
  (171, .getfield 42, 3, [7, 4, 1093], 0),
  (174, .if_icmp .ne 39, 3, [110], 0),
  (177, .aload_n 0, 1, [0], 0),
  (178, .aload_n 0, 1, [0], 0),
  (179, .getfield 15, 3, [7, 0, 1089], 0),
  (182, .aload_n 0, 1, [0], 0),
  (183, .getfield 42, 3, [7, 4, 1093], 0),
  (186, .iaload, 1, [], 0),
  (187, .bipush 59, 2, [], 59),
  (189, .if_icmp .ne 7, 3, [101], 0),
  (192, .iconst 3, 1, [], 3),
  (193, .goto 4, 3, [102], 0),
  (196, .iconst 2, 1, [], 2),
  (197, .putfield 57, 3, [7, 5, 1094], 0),
  (200, .aload_n 0, 1, [0], 0),
  (201, .dup, 1, [], 0),
  (202, .getfield 42, 3, [7, 4, 1093], 0),
  (205, .iconst 1, 1, [], 1),
  (206, .iadd, 1, [], 0),
  (207, .putfield 42, 3, [7, 4, 1093], 0),
  (210, .goto 14, 3, [117], 0),
  (213, .aload_n 0, 1, [0], 0),
  (214, .iload_n 1, 1, [1], 0),
  (215, .iload_n 2, 1, [2], 0),
  (216, .invokevirtual 67, 3, [0, 21, 2, 7, 3178, 3180, 2, 1002], 0),
  (219, .aload_n 0, 1, [0], 0),
  (220, .iload_n 1, 1, [1], 0),
  (221, .putfield 42, 3, [7, 4, 1093], 0),
  (224, .return_, 1, [], 0)]
def cd_Tokens_isDigit : List Ent := [(0, .iload_n 0, 1, [0], 0),
  (1, .bipush 48, 2, [], 48),
  (3, .if_icmp .lt 13, 3, [8], 0),
  (6, .iload_n 0, 1, [0], 0),
  (7, .bipush 57, 2, [], 57),
  (9, .if_icmp .gt 7, 3, [8], 0),
  (12, .iconst 1, 1, [], 1),
  (13, .goto 4, 3, [9], 0),
  (16, .iconst 0, 1, [], 0),
  (17, .ireturn, 1, [], 0)]
def cd_Tokens_isLetter : List Ent := [(0, .iload_n 0, 1, [0], 0),
  (1, .bipush 97, 2, [], 97),
  (3, .if_icmp .lt 13, 3, [8], 0),
  (6, .iload_n 0, 1, [0], 0),
  (7, .bipush 122, 2, [], 122),
  (9, .if_icmp .gt 7, 3, [8], 0),
  (12, .iconst 1, 1, [], 1),
  (13, .goto 4, 3, [9], 0),
  (16, .iconst 0, 1, [], 0),
  (17, .ireturn, 1, [], 0)]
def cd_Tokens_takeRun : List Ent := [(0, .iload_n 1, 1, [1], 0),
  (1, .aload_n 0, 1, [0], 0),
  (2, .getfield 51, 3, [7, 7, 1099], 0),
  (5, .isub, 1, [], 0),
  (6, .istore_n 3, 1, [3], 0),
  (7, .iload_n 2, 1, [2], 0),
  (8, .iload_n 3, 1, [3], 0),
  (9, .if_icmp .ne 56, 3, [36], 0),
  (12, .iload_n 3, 1, [3], 0),
  (13, .iconst 3, 1, [], 3),
  (14, .if_icmp .gt 51, 3, [36], 0),
  (17, .aload_n 0, 1, [0], 0),
  (18, .iconst 4, 1, [], 4),
  (19, .putfield 57, 3, [7, 5, 1094], 0),
  (22, .aload_n 0, 1, [0], 0),
  (23, .getfield 51, 3, [7, 7, 1099], 0),
  (26, .istore 4, 2, [4], 0),
  (28, .iload 4, 2, [4], 0),
  (30, .iload_n 1, 1, [1], 0),
  (31, .if_icmp .ge 31, 3, [35], 0),
  (34, .aload_n 0, 1, [0], 0),
  (35, .aload_n 0, 1, [0], 0),
  (36, .getfield 54, 3, [7, 6, 1097], 0),
  (39, .bipush 10, 2, [], 10),
  (41, .imul, 1, [], 0),
  (42, .aload_n 0, 1, [0], 0),
  (43, .getfield 15, 3, [7, 0, 1089], 0),
  (46, .iload 4, 2, [4], 0),
  (48, .iaload, 1, [], 0),
  (49, .iadd, 1, [], 0),
  (50, .bipush 48, 2, [], 48),
  (52, .isub, 1, [], 0),
  (53, .putfield 54, 3, [7, 6, 1097], 0),
  (56, .iinc 4 1, 3, [4], 1),
  (59, .goto (-31), 3, [17], 0),
  (62, .goto 26, 3, [48], 0),
  (65, .iload_n 2, 1, [2], 0),
  (66, .ifCond .ne 17, 3, [45], 0),
  (69, .iload_n 3, 1, [3], 0),
  (70, .bipush 6, 2, [], 6),
  (72, .if_icmp .gt 11, 3, [45], 0),
  (75, .aload_n 0, 1, [0], 0),
  (76, .iload_n 1, 1, [1], 0),
  (77, .invokevirtual 71, 3, [0, 22, 1, 7, 3182, 3184, 3, 1002], 0),
  (80, .goto 8, 3, [48], 0),
  (83, .aload_n 0, 1, [0], 0),
  (84, .iconst 2, 1, [], 2),
  (85, .putfield 57, 3, [7, 5, 1094], 0),
  (88, .return_, 1, [], 0)]
def cd_Tokens_takeWord : List Ent := [(0, .aload_n 0, 1, [0], 0),
  (1, .bipush 6, 2, [], 6),
  (3, .putfield 57, 3, [7, 5, 1094], 0),
  (6, .aload_n 0, 1, [0], 0),
  (7, .getfield 51, 3, [7, 7, 1099], 0),
  (10, .istore_n 2, 1, [2], 0),
  (11, .iload_n 2, 1, [2], 0),
  (12, .iload_n 1, 1, [1], 0),
  (13, .if_icmp .ge 32, 3, [26], 0),
  (16, .aload_n 0, 1, [0], 0),
  (17, .aload_n 0, 1, [0], 0),
  (18, .getfield 54, 3, [7, 6, 1097], 0),
  (21, .bipush 27, 2, [], 27),
  (23, .imul, 1, [], 0),
  (24, .aload_n 0, 1, [0], 0),
  (25, .getfield 15, 3, [7, 0, 1089], 0),
  (28, .iload_n 2, 1, [2], 0),
  (29, .iaload, 1, [], 0),
  (30, .iadd, 1, [], 0),
  (31, .bipush 97, 2, [], 97),
  (33, .isub, 1, [], 0),
  (34, .iconst 1, 1, [], 1),
  (35, .iadd, 1, [], 0),
  (36, .putfield 54, 3, [7, 6, 1097], 0),
  (39, .iinc 2 1, 3, [2], 1),
  (42, .goto (-31), 3, [6], 0),
  (45, .iconst 0, 1, [], 0),
  (46, .istore_n 2, 1, [2], 0),
  (47, .iload_n 2, 1, [2], 0),
  (48, .bipush 17, 2, [], 17),
  (50, .if_icmp .ge 41, 3, [50], 0),
  (53, .aload_n 0, 1, [0], 0),
  (54, .getfield 57, 3, [7, 5, 1094], 0),
  (57, .bipush 6, 2, [], 6),
  (59, .if_icmp .ne 32, 3, [50], 0),
  (62, .aload_n 0, 1, [0], 0),
  (63, .getfield 11, 3, [7, 1, 1090], 0),
  (66, .iload_n 2, 1, [2], 0),
  (67, .iaload, 1, [], 0),
  (68, .aload_n 0, 1, [0], 0),
  (69, .getfield 54, 3, [7, 6, 1097], 0),
  (72, .if_icmp .ne 13, 3, [48], 0),
  (75, .aload_n 0, 1, [0], 0),
  (76, .iconst 5, 1, [], 5),
  (77, .putfield 57, 3, [7, 5, 1094], 0),
  (80, .aload_n 0, 1, [0], 0),
  (81, .iload_n 2, 1, [2], 0),
  (82, .putfield 54, 3, [7, 6, 1097], 0),
  (85, .iinc 2 1, 3, [2], 1),
  (88, .goto (-41), 3, [28], 0),
  (91, .return_, 1, [], 0)]
def cd_Village_read : List Ent := [(0, .aload_n 0, 1, [0], 0),
  (1, .invokevirtual 89, 3, [0, 24, 0, 9, 3190, 3192, 4, 1007], 0),
  (4, .iconst 0, 1, [], 0),
  (5, .istore_n 2, 1, [2], 0),
  (6, .iload_n 2, 1, [2], 0),
  (7, .sipush 1040, 3, [], 1040),
  (10, .if_icmp .ge 36, 3, [22], 0),
  (13, .aload_n 1, 1, [1], 0),
  (14, .getfield 92, 3, [7, 5, 1096], 0),
  (17, .ifCond .eq 29, 3, [22], 0),
  (20, .aload_n 0, 1, [0], 0),
  (21, .aload_n 1, 1, [1], 0),
  (22, .invokevirtual 97, 3, [0, 25, 1, 9, 3194, 3196, 5, 1007], 0),
  (25, .ifCond .eq 10, 3, [17], 0),
  (28, .aload_n 1, 1, [1], 0),
  (29, .invokevirtual 101, 3, [0, 45, 0, 7, 4036, 4037, 4038, 1002], 0),
  (32, .ifCond .ne 8, 3, [20], 0),
  (35, .aload_n 1, 1, [1], 0),
  (36, .invokevirtual 105, 3, [0, 46, 0, 7, 4040, 4041, 4042, 1002], 0),
  (39, .ireturn, 1, [], 0),
  (40, .iinc 2 1, 3, [2], 1),
  (43, .goto (-37), 3, [4], 0),
  (46, .iload_n 2, 1, [2], 0),
  (47, .ireturn, 1, [], 0)]
def cd_Village_clear : List Ent := [(0, .aload_n 0, 1, [0], 0),
  (1, .iconst 0, 1, [], 0),
  (2, .putfield 58, 3, [9, 0, 1132], 0),
  (5, .aload_n 0, 1, [0], 0),
  (6, .iconst 0, 1, [], 0),
  (7, .putfield 65, 3, [9, 5, 1143], 0),
  (10, .aload_n 0, 1, [0], 0),
  (11, .iconst 0, 1, [], 0),
  (12, .putfield 68, 3, [9, 8, 1148], 0),
  (15, .aload_n 0, 1, [0], 0),
  (16, .iconst 0, 1, [], 0),
  (17, .putfield 71, 3, [9, 11, 1160], 0),
  (20, .aload_n 0, 1, [0], 0),
  (21, .getfield 39, 3, [9, 13, 1169], 0),
  (24, .iconst (-1), 1, [], (-1)),
  (25, .invokestatic 52, 3, [1, 276, 2, 1129, 1130, 1008], 0),
  (28, .aload_n 0, 1, [0], 0),
  (29, .iconst 3, 1, [], 3),
  (30, .putfield 45, 3, [9, 15, 1178], 0),
  (33, .aload_n 0, 1, [0], 0),
  (34, .iconst 1, 1, [], 1),
  (35, .putfield 49, 3, [9, 16, 1183], 0),
  (38, .aload_n 0, 1, [0], 0),
  (39, .iconst 0, 1, [], 0),
  (40, .putfield 74, 3, [9, 17, 1188], 0),
  (43, .return_, 1, [], 0)]
def cd_Village_line : List Ent := [(0, .aload_n 1, 1, [1], 0),
  (1, .invokevirtual 109, 3, [0, 26, 0, 7, 3198, 3199, 3200, 1002], 0),
  (4, .tableswitch 92 0 9 #[56, 92, 92, 62, 68, 92, 74, 92, 80, 86], 56, [27, 3, 27, 27, 7, 11, 27, 15, 27, 19, 23], 0),
  (60, .aload_n 0, 1, [0], 0),
  (61, .aload_n 1, 1, [1], 0),
  (62, .invokevirtual 112, 3, [0, 27, 1, 9, 3202, 3204, 6, 1007], 0),
  (65, .ireturn, 1, [], 0),
  (66, .aload_n 0, 1, [0], 0),
  (67, .aload_n 1, 1, [1], 0),
  (68, .invokevirtual 115, 3, [0, 36, 1, 9, 4000, 4002, 9, 1007], 0),
  (71, .ireturn, 1, [], 0),
  (72, .aload_n 0, 1, [0], 0),
  (73, .aload_n 1, 1, [1], 0),
  (74, .invokevirtual 118, 3, [0, 37, 1, 9, 4004, 4006, 10, 1007], 0),
  (77, .ireturn, 1, [], 0),
  (78, .aload_n 0, 1, [0], 0),
  (79, .aload_n 1, 1, [1], 0),
  (80, .invokevirtual 121, 3, [0, 42, 1, 9, 4024, 4026, 14, 1007], 0),
  (83, .ireturn, 1, [], 0),
  (84, .aload_n 0, 1, [0], 0),
  (85, .aload_n 1, 1, [1], 0),
  (86, .invokevirtual 124, 3, [0, 43, 1, 9, 4028, 4030, 15, 1007], 0),
  (89, .ireturn, 1, [], 0),
  (90, .aload_n 0, 1, [0], 0),
  (91, .aload_n 1, 1, [1], 0),
  (92, .invokevirtual 127, 3, [0, 44, 1, 9, 4032, 4034, 16, 1007], 0),
  (95, .ireturn, 1, [], 0),
  (96, .aload_n 1, 1, [1], 0),
  (97, .iconst 1, 1, [], 1),
  (98, .invokevirtual 130, 3, [0, 28, 1, 7, 3206, 3207, 3208, 1002], 0),
  (101, .ireturn, 1, [], 0)]
def cd_Tokens_word : List Ent := [(0, .aload_n 0, 1, [0], 0),
  (1, .getfield 57, 3, [7, 5, 1094], 0),
  (4, .iconst 5, 1, [], 5),
  (5, .if_icmp .ne 10, 3, [7], 0),
  (8, .aload_n 0, 1, [0], 0),
  (9, .getfield 54, 3, [7, 6, 1097], 0),
  (12, .goto 4, 3, [8], 0),
  (15, .iconst (-1), 1, [], (-1)),
  (16, .ireturn, 1, [], 0)]
def cd_Village_whoLine : List Ent := [(0, .aload_n 0, 1, [0], 0),
  (1, .getfield 58, 3, [9, 0, 1132], 0),
  (4, .bipush 8, 2, [], 8),
  (6, .if_icmp .lt 9, 3, [8], 0),
  (9, .aload_n 1, 1, [1], 0),
  (10, .iconst 4, 1, [], 4),
  (11, .invokevirtual 130, 3, [0, 28, 1, 7, 3206, 3207, 3208, 1002], 0),
  (14, .ireturn, 1, [], 0),
  (15, .aload_n 1, 1, [1], 0),
  (16, .invokevirtual 148, 3, [0, 18, 0, 7, 3210, 3169, 3170, 1002], 0),
  (19, .aload_n 0, 1, [0], 0),
  (20, .aload_n 1, 1, [1], 0),
  (21, .invokevirtual 151, 3, [0, 29, 1, 9, 3211, 3213, 7, 1007], 0),
  (24, .ifCond .ne 5, 3, [16], 0),
  (27, .iconst 0, 1, [], 0),
  (28, .ireturn, 1, [], 0),
  (29, .aload_n 0, 1, [0], 0),
  (30, .getfield 58, 3, [9, 0, 1132], 0),
  (33, .istore_n 2, 1, [2], 0),
  (34, .aload_n 0, 1, [0], 0),
  (35, .getfield 9, 3, [9, 1, 1137], 0),
  (38, .iload_n 2, 1, [2], 0),
  (39, .aload_n 1, 1, [1], 0),
  (40, .invokevirtual 154, 3, [0, 32, 0, 7, 3223, 3224, 3225, 1002], 0),
  (43, .iastore, 1, [], 0),
  (44, .aload_n 0, 1, [0], 0),
  (45, .getfield 15, 3, [9, 2, 1138], 0),
  (48, .iload_n 2, 1, [2], 0),
  (49, .iconst 0, 1, [], 0),
  (50, .iastore, 1, [], 0),
  (51, .aload_n 0, 1, [0], 0),
  (52, .getfield 21, 3, [9, 4, 1140], 0),
  (55, .iload_n 2, 1, [2], 0),
  (56, .iconst 0, 1, [], 0),
  (57, .iastore, 1, [], 0),
  (58, .aload_n 0, 1, [0], 0),
  (59, .dup, 1, [], 0),
  (60, .getfield 58, 3, [9, 0, 1132], 0),
  (63, .iconst 1, 1, [], 1),
  (64, .iadd, 1, [], 0),
  (65, .putfield 58, 3, [9, 0, 1132], 0),
  (68, .aload_n 1, 1, [1], 0),
  (69, .iconst 1, 1, [], 1),
  (70, .invokevirtual 157, 3, [0, 33, 1, 7, 3227, 3228, 3229, 1002], 0),
  (73, .ifCond .eq 25, 3, [58], 0),
  (76, .aload_n 1, 1, [1], 0),
  (77, .iconst 0, 1, [], 0),
  (78, .bipush 9, 2, [], 9),
  (80, .invokevirtual 160, 3, [0, 34, 2, 7, 3232, 3233, 3234, 1002], 0),
  (83, .ifCond .ne 5, 3, [52], 0),
  (86, .iconst 0, 1, [], 0),
  (87, .ireturn, 1, [], 0),
  (88, .aload_n 0, 1, [0], 0),
  (89, .getfield 15, 3, [9, 2, 1138], 0),
  (92, .iload_n 2, 1, [2], 0),
  (93, .aload_n 1, 1, [1], 0),
  (94, .invokevirtual 154, 3, [0, 32, 0, 7, 3223, 3224, 3225, 1002], 0),
  (97, .iastore, 1, [], 0),
  (98, .aload_n 1, 1, [1], 0),
  (99, .iconst 2, 1, [], 2),
  (100, .invokevirtual 157, 3, [0, 33, 1, 7, 3227, 3228, 3229, 1002], 0),
  (103, .ifCond .eq 25, 3, [75], 0),
  (106, .aload_n 1, 1, [1], 0),
  (107, .iconst 0, 1, [], 0),
  (108, .bipush 99, 2, [], 99),
  (110, .invokevirtual 160, 3, [0, 34, 2, 7, 3232, 3233, 3234, 1002], 0),
  (113, .ifCond .ne 5, 3, [69], 0),
  (116, .iconst 0, 1, [], 0),
  (117, .ireturn, 1, [], 0),
  (118, .aload_n 0, 1, [0], 0),
  (119, .getfield 21, 3, [9, 4, 1140], 0),
  (122, .iload_n 2, 1, [2], 0),
  (123, .aload_n 1, 1, [1], 0),
  (124, .invokevirtual 154, 3, [0, 32, 0, 7, 3223, 3224, 3225, 1002], 0),
  (127, .iastore, 1, [], 0),
  (128, .aload_n 0, 1, [0], 0),
  (129, .iload_n 2, 1, [2], 0),
  (130, .invokevirtual 163, 3, [0, 35, 1, 9, 3236, 3238, 8, 1007], 0),
  (133, .iconst 1, 1, [], 1),
  (134, .ireturn, 1, [], 0)]
def cd_Tokens_fail : List Ent := [(0, .aload_n 0, 1, [0], 0),
  (1, .iload_n 1, 1, [1], 0),
  (2, .putfield 45, 3, [7, 8, 1100], 0),
  (5, .iconst 0, 1, [], 0),
  (6, .ireturn, 1, [], 0)]
def cd_Village_isNewName : List Ent := [(0, .aload_n 1, 1, [1], 0),
  (1, .invokevirtual 134, 3, [0, 30, 0, 7, 3215, 3216, 3217, 1002], 0),
  (4, .ifCond .ne 5, 3, [5], 0),
  (7, .iconst 0, 1, [], 0),
  (8, .ireturn, 1, [], 0),
  (9, .aload_n 0, 1, [0], 0),
  (10, .getfield 9, 3, [9, 1, 1137], 0),
  (13, .aload_n 0, 1, [0], 0),
  (14, .getfield 58, 3, [9, 0, 1132], 0),
  (17, .aload_n 1, 1, [1], 0),
  (18, .getfield 137, 3, [7, 6, 1098], 0),
  (21, .invokestatic 140, 3, [1, 31, 3, 3220, 3221, 1007], 0),
  (24, .iconst (-1), 1, [], (-1)),
  (25, .if_icmp .ne 22, 3, [23], 0),
  (28, .aload_n 0, 1, [0], 0),
  (29, .getfield 24, 3, [9, 6, 1146], 0),
  (32, .aload_n 0, 1, [0], 0),
  (33, .getfield 65, 3, [9, 5, 1143], 0),
  (36, .aload_n 1, 1, [1], 0),
  (37, .getfield 137, 3, [7, 6, 1098], 0),
  (40, .invokestatic 140, 3, [1, 31, 3, 3220, 3221, 1007], 0),
  (43, .iconst (-1), 1, [], (-1)),
  (44, .if_icmp .eq 7, 3, [25], 0),
  (47, .iconst 1, 1, [], 1),
  (48, .goto 4, 3, [26], 0),
  (51, .iconst 0, 1, [], 0),
  (52, .istore_n 2, 1, [2], 0),
  (53, .iload_n 2, 1, [2], 0),
  (54, .ifCond .eq 11, 3, [33], 0),
  (57, .aload_n 1, 1, [1], 0),
  (58, .iconst 3, 1, [], 3),
  (59, .invokevirtual 130, 3, [0, 28, 1, 7, 3206, 3207, 3208, 1002], 0),
  (62, .ifCond .eq 7, 3, [35], 0),
  (65, .iconst 1, 1, [], 1),
  (66, .goto 4, 3, [36], 0),
  (69, .iconst 0, 1, [], 0),
  (70, .ireturn, 1, [], 0)]
def cd_Tokens_isName : List Ent := [(0, .aload_n 0, 1, [0], 0),
  (1, .getfield 57, 3, [7, 5, 1094], 0),
  (4, .bipush 6, 2, [], 6),
  (6, .if_icmp .eq 11, 3, [8], 0),
  (9, .aload_n 0, 1, [0], 0),
  (10, .iconst 1, 1, [], 1),
  (11, .invokevirtual 78, 3, [0, 28, 1, 7, 3219, 3207, 3208, 1002], 0),
  (14, .ifCond .eq 7, 3, [10], 0),
  (17, .iconst 1, 1, [], 1),
  (18, .goto 4, 3, [11], 0),
  (21, .iconst 0, 1, [], 0),
  (22, .ireturn, 1, [], 0)]
def cd_Village_indexOf : List Ent := [(0, .iconst 0, 1, [], 0),
  (1, .istore_n 3, 1, [3], 0),
  (2, .iload_n 3, 1, [3], 0),
  (3, .iload_n 1, 1, [1], 0),
  (4, .if_icmp .ge 18, 3, [14], 0),
  (7, .aload_n 0, 1, [0], 0),
  (8, .iload_n 3, 1, [3], 0),
  (9, .iaload, 1, [], 0),
  (10, .iload_n 2, 1, [2], 0),
  (11, .if_icmp .ne 5, 3, [12], 0),
  (14, .iload_n 3, 1, [3], 0),
  (15, .ireturn, 1, [], 0),
  (16, .iinc 3 1, 3, [3], 1),
  (19, .goto (-17), 3, [2], 0),
  (22, .iconst (-1), 1, [], (-1)),
  (23, .ireturn, 1, [], 0)]
def cd_Tokens_takeValue : List Ent := [(0, .aload_n 0, 1, [0], 0),
  (1, .getfield 54, 3, [7, 6, 1097], 0),
  (4, .istore_n 1, 1, [1], 0),
  (5, .aload_n 0, 1, [0], 0),
  (6, .invokevirtual 48, 3, [0, 18, 0, 7, 3168, 3169, 3170, 1002], 0),
  (9, .iload_n 1, 1, [1], 0),
  (10, .ireturn, 1, [], 0)]
def cd_Tokens_skipWord : List Ent := [(0, .aload_n 0, 1, [0], 0),
  (1, .invokevirtual 75, 3, [0, 26, 0, 7, 3231, 3199, 3200, 1002], 0),
  (4, .iload_n 1, 1, [1], 0),
  (5, .if_icmp .eq 5, 3, [6], 0),
  (8, .iconst 0, 1, [], 0),
  (9, .ireturn, 1, [], 0),
  (10, .aload_n 0, 1, [0], 0),
  (11, .invokevirtual 48, 3, [0, 18, 0, 7, 3168, 3169, 3170, 1002], 0),
  (14, .iconst 1, 1, [], 1),
  (15, .ireturn, 1, [], 0)]
def cd_Tokens_isNumber : List Ent := [(0, .aload_n 0, 1, [0], 0),
  (1, .getfield 57, 3, [7, 5, 1094], 0),
  (4, .iconst 4, 1, [], 4),
  (5, .if_icmp .eq 9, 3, [8], 0),
  (8, .aload_n 0, 1, [0], 0),
  (9, .iconst 1, 1, [], 1),
  (10, .invokevirtual 78, 3, [0, 28, 1, 7, 3219, 3207, 3208, 1002], 0),
  (13, .ireturn, 1, [], 0),
  (14, .aload_n 0, 1, [0], 0),
  (15, .getfield 54, 3, [7, 6, 1097], 0),
  (18, .iload_n 1, 1, [1], 0),
  (19, .if_icmp .lt 11, 3, [16], 0),
  (22, .aload_n 0, 1, [0], 0),
  (23, .getfield 54, 3, [7, 6, 1097], 0),
  (26, .iload_n 2, 1, [2], 0),
  (27, .if_icmp .le 11, 3, [20], 0),
  (30, .aload_n 0, 1, [0], 0),
  (31, .iconst 2, 1, [], 2),
  (32, .invokevirtual 78, 3, [0, 28, 1, 7, 3219, 3207, 3208, 1002], 0),
  (35, .ifCond .eq 7, 3, [22], 0),
  (38, .iconst 1, 1, [], 1),
  (39, .goto 4, 3, [23], 0),
  (42, .iconst 0, 1, [], 0),
  (43, .ireturn, 1, [], 0)]
def cd_Village_join : List Ent := [(0, .aload_n 0, 1, [0], 0),
  (1, .getfield 18, 3, [9, 3, 1139], 0),
  (4, .iload_n 1, 1, [1], 0),
  (5, .iconst 1, 1, [], 1),
  (6, .iload_n 1, 1, [1], 0),
  (7, .ishl, 1, [], 0),
  (8, .iastore, 1, [], 0),
  (9, .iconst 0, 1, [], 0),
  (10, .istore_n 2, 1, [2], 0),
  (11, .iload_n 2, 1, [2], 0),
  (12, .iload_n 1, 1, [1], 0),
  (13, .if_icmp .ge 48, 3, [43], 0),
  (16, .aload_n 0, 1, [0], 0),
  (17, .getfield 15, 3, [9, 2, 1138], 0),
  (20, .iload_n 2, 1, [2], 0),
  (21, .iaload, 1, [], 0),
  (22, .aload_n 0, 1, [0], 0),
  (23, .getfield 15, 3, [9, 2, 1138], 0),
  (26, .iload_n 1, 1, [1], 0),
  (27, .iaload, 1, [], 0),
  (28, .if_icmp .ne 27, 3, [41], 0),
  (31, .aload_n 0, 1, [0], 0),
  (32, .getfield 18, 3, [9, 3, 1139], 0),
  (35, .iload_n 2, 1, [2], 0),
  (36, .dup2, 1, [], 0),
  (37, .iaload, 1, [], 0),
  (38, .iconst 1, 1, [], 1),
  (39, .iload_n 1, 1, [1], 0),
  (40, .ishl, 1, [], 0),
  (41, .ior, 1, [], 0),
  (42, .iastore, 1, [], 0),
  (43, .aload_n 0, 1, [0], 0),
  (44, .getfield 18, 3, [9, 3, 1139], 0),
  (47, .iload_n 1, 1, [1], 0),
  (48, .dup2, 1, [], 0),
  (49, .iaload, 1, [], 0),
  (50, .iconst 1, 1, [], 1),
  (51, .iload_n 2, 1, [2], 0),
  (52, .ishl, 1, [], 0),
  (53, .ior, 1, [], 0),
  (54, .iastore, 1, [], 0),
  (55, .iinc 2 1, 3, [2], 1),
  (58, .goto (-47), 3, [9], 0),
  (61, .return_, 1, [], 0)]
def cd_Village_sortLine : List Ent := [(0, .aload_n 0, 1, [0], 0),
  (1, .getfield 65, 3, [9, 5, 1143], 0),
  (4, .bipush 6, 2, [], 6),
  (6, .if_icmp .lt 9, 3, [8], 0),
  (9, .aload_n 1, 1, [1], 0),
  (10, .iconst 4, 1, [], 4),
  (11, .invokevirtual 130, 3, [0, 28, 1, 7, 3206, 3207, 3208, 1002], 0),
  (14, .ireturn, 1, [], 0),
  (15, .aload_n 1, 1, [1], 0),
  (16, .invokevirtual 148, 3, [0, 18, 0, 7, 3210, 3169, 3170, 1002], 0),
  (19, .aload_n 0, 1, [0], 0),
  (20, .aload_n 1, 1, [1], 0),
  (21, .invokevirtual 151, 3, [0, 29, 1, 9, 3211, 3213, 7, 1007], 0),
  (24, .ifCond .ne 5, 3, [16], 0),
  (27, .iconst 0, 1, [], 0),
  (28, .ireturn, 1, [], 0),
  (29, .aload_n 1, 1, [1], 0),
  (30, .invokevirtual 154, 3, [0, 32, 0, 7, 3223, 3224, 3225, 1002], 0),
  (33, .istore_n 2, 1, [2], 0),
  (34, .aload_n 1, 1, [1], 0),
  (35, .iconst 1, 1, [], 1),
  (36, .bipush 48, 2, [], 48),
  (38, .invokevirtual 160, 3, [0, 34, 2, 7, 3232, 3233, 3234, 1002], 0),
  (41, .ifCond .ne 5, 3, [26], 0),
  (44, .iconst 0, 1, [], 0),
  (45, .ireturn, 1, [], 0),
  (46, .aload_n 0, 1, [0], 0),
  (47, .getfield 24, 3, [9, 6, 1146], 0),
  (50, .aload_n 0, 1, [0], 0),
  (51, .getfield 65, 3, [9, 5, 1143], 0),
  (54, .iload_n 2, 1, [2], 0),
  (55, .iastore, 1, [], 0),
  (56, .aload_n 0, 1, [0], 0),
  (57, .getfield 27, 3, [9, 7, 1147], 0),
  (60, .aload_n 0, 1, [0], 0),
  (61, .getfield 65, 3, [9, 5, 1143], 0),
  (64, .aload_n 1, 1, [1], 0),
  (65, .invokevirtual 154, 3, [0, 32, 0, 7, 3223, 3224, 3225, 1002], 0),
  (68, .iastore, 1, [], 0),
  (69, .aload_n 0, 1, [0], 0),
  (70, .dup, 1, [], 0),
  (71, .getfield 65, 3, [9, 5, 1143], 0),
  (74, .iconst 1, 1, [], 1),
  (75, .iadd, 1, [], 0),
  (76, .putfield 65, 3, [9, 5, 1143], 0),
  (79, .iconst 1, 1, [], 1),
  (80, .ireturn, 1, [], 0)]
def cd_Village_makesLine : List Ent := [(0, .aload_n 1, 1, [1], 0),
  (1, .invokevirtual 148, 3, [0, 18, 0, 7, 3210, 3169, 3170, 1002], 0),
  (4, .aload_n 0, 1, [0], 0),
  (5, .aload_n 1, 1, [1], 0),
  (6, .iconst (-1), 1, [], (-1)),
  (7, .invokevirtual 167, 3, [0, 38, 2, 9, 4008, 4010, 11, 1007], 0),
  (10, .istore_n 2, 1, [2], 0),
  (11, .iload_n 2, 1, [2], 0),
  (12, .iconst (-1), 1, [], (-1)),
  (13, .if_icmp .ne 5, 3, [12], 0),
  (16, .iconst 0, 1, [], 0),
  (17, .ireturn, 1, [], 0),
  (18, .iconst (-1), 1, [], (-1)),
  (19, .istore_n 3, 1, [3], 0),
  (20, .aload_n 1, 1, [1], 0),
  (21, .iconst 5, 1, [], 5),
  (22, .invokevirtual 157, 3, [0, 33, 1, 7, 3227, 3228, 3229, 1002], 0),
  (25, .ifCond .eq 17, 3, [28], 0),
  (28, .aload_n 0, 1, [0], 0),
  (29, .aload_n 1, 1, [1], 0),
  (30, .iload_n 2, 1, [2], 0),
  (31, .invokevirtual 167, 3, [0, 38, 2, 9, 4008, 4010, 11, 1007], 0),
  (34, .istore_n 3, 1, [3], 0),
  (35, .iload_n 3, 1, [3], 0),
  (36, .iconst (-1), 1, [], (-1)),
  (37, .if_icmp .ne 5, 3, [28], 0),
  (40, .iconst 0, 1, [], 0),
  (41, .ireturn, 1, [], 0),
  (42, .aload_n 0, 1, [0], 0),
  (43, .aload_n 1, 1, [1], 0),
  (44, .invokevirtual 170, 3, [0, 40, 1, 9, 4016, 4018, 12, 1007], 0),
  (47, .istore 4, 2, [4], 0),
  (49, .iload 4, 2, [4], 0),
  (51, .iconst (-1), 1, [], (-1)),
  (52, .if_icmp .eq 13, 3, [40], 0),
  (55, .aload_n 1, 1, [1], 0),
  (56, .iconst 1, 1, [], 1),
  (57, .bipush 9, 2, [], 9),
  (59, .invokevirtual 160, 3, [0, 34, 2, 7, 3232, 3233, 3234, 1002], 0),
  (62, .ifCond .ne 5, 3, [42], 0),
  (65, .iconst 0, 1, [], 0),
  (66, .ireturn, 1, [], 0),
  (67, .aload_n 0, 1, [0], 0),
  (68, .getfield 68, 3, [9, 8, 1148], 0),
  (71, .aload_n 1, 1, [1], 0),
  (72, .getfield 137, 3, [7, 6, 1098], 0),
  (75, .iadd, 1, [], 0),
  (76, .bipush 16, 2, [], 16),
  (78, .if_icmp .le 9, 3, [53], 0),
  (81, .aload_n 1, 1, [1], 0),
  (82, .iconst 4, 1, [], 4),
  (83, .invokevirtual 130, 3, [0, 28, 1, 7, 3206, 3207, 3208, 1002], 0),
  (86, .ireturn, 1, [], 0),
  (87, .aload_n 1, 1, [1], 0),
  (88, .invokevirtual 154, 3, [0, 32, 0, 7, 3223, 3224, 3225, 1002], 0),
  (91, .istore 5, 2, [5], 0),
  (93, .aload_n 1, 1, [1], 0),
  (94, .iconst 0, 1, [], 0),
  (95, .bipush 47, 2, [], 47),
  (97, .invokevirtual 160, 3, [0, 34, 2, 7, 3232, 3233, 3234, 1002], 0),
  (100, .ifCond .ne 5, 3, [63], 0),
  (103, .iconst 0, 1, [], 0),
  (104, .ireturn, 1, [], 0),
  (105, .aload_n 1, 1, [1], 0),
  (106, .invokevirtual 154, 3, [0, 32, 0, 7, 3223, 3224, 3225, 1002], 0),
  (109, .istore 6, 2, [6], 0),
  (111, .aload_n 0, 1, [0], 0),
  (112, .getfield 68, 3, [9, 8, 1148], 0),
  (115, .istore 7, 2, [7], 0),
  (117, .iconst 0, 1, [], 0),
  (118, .istore 8, 2, [8], 0),
  (120, .iload 8, 2, [8], 0),
  (122, .iload 5, 2, [5], 0),
  (124, .if_icmp .ge 21, 3, [83], 0),
  (127, .aload_n 0, 1, [0], 0),
  (128, .iload 7, 2, [7], 0),
  (130, .iload 4, 2, [4], 0),
  (132, .iload_n 2, 1, [2], 0),
  (133, .iload_n 3, 1, [3], 0),
  (134, .iload 6, 2, [6], 0),
  (136, .invokevirtual 174, 3, [0, 41, 5, 9, 4020, 4022, 13, 1007], 0),
  (139, .iinc 8 1, 3, [8], 1),
  (142, .goto (-22), 3, [71], 0),
  (145, .iconst 1, 1, [], 1),
  (146, .ireturn, 1, [], 0)]
def cd_Village_takePerson : List Ent := [(0, .aload_n 0, 1, [0], 0),
  (1, .aload_n 1, 1, [1], 0),
  (2, .iload_n 2, 1, [2], 0),
  (3, .invokevirtual 144, 3, [0, 39, 2, 9, 4012, 4013, 4014, 1007], 0),
  (6, .istore_n 3, 1, [3], 0),
  (7, .iload_n 3, 1, [3], 0),
  (8, .iconst (-1), 1, [], (-1)),
  (9, .if_icmp .eq 7, 3, [10], 0),
  (12, .aload_n 1, 1, [1], 0),
  (13, .invokevirtual 148, 3, [0, 18, 0, 7, 3210, 3169, 3170, 1002], 0),
  (16, .iload_n 3, 1, [3], 0),
  (17, .ireturn, 1, [], 0)]
def cd_Village_person : List Ent := [(0, .aload_n 1, 1, [1], 0),
  (1, .invokevirtual 134, 3, [0, 30, 0, 7, 3215, 3216, 3217, 1002], 0),
  (4, .ifCond .ne 5, 3, [5], 0),
  (7, .iconst (-1), 1, [], (-1)),
  (8, .ireturn, 1, [], 0),
  (9, .aload_n 0, 1, [0], 0),
  (10, .getfield 9, 3, [9, 1, 1137], 0),
  (13, .aload_n 0, 1, [0], 0),
  (14, .getfield 58, 3, [9, 0, 1132], 0),
  (17, .aload_n 1, 1, [1], 0),
  (18, .getfield 137, 3, [7, 6, 1098], 0),
  (21, .invokestatic 140, 3, [1, 31, 3, 3220, 3221, 1007], 0),
  (24, .istore_n 3, 1, [3], 0),
  (25, .iload_n 3, 1, [3], 0),
  (26, .iconst (-1), 1, [], (-1)),
  (27, .if_icmp .eq 8, 3, [19], 0),
  (30, .iload_n 3, 1, [3], 0),
  (31, .iload_n 2, 1, [2], 0),
  (32, .if_icmp .ne 11, 3, [25], 0),
  (35, .aload_n 1, 1, [1], 0),
  (36, .iconst 3, 1, [], 3),
  (37, .invokevirtual 130, 3, [0, 28, 1, 7, 3206, 3207, 3208, 1002], 0),
  (40, .pop, 1, [], 0),
  (41, .iconst (-1), 1, [], (-1)),
  (42, .ireturn, 1, [], 0),
  (43, .iload_n 3, 1, [3], 0),
  (44, .ireturn, 1, [], 0)]
def cd_Village_takeSort : List Ent := [(0, .aload_n 1, 1, [1], 0),
  (1, .invokevirtual 134, 3, [0, 30, 0, 7, 3215, 3216, 3217, 1002], 0),
  (4, .ifCond .ne 5, 3, [5], 0),
  (7, .iconst (-1), 1, [], (-1)),
  (8, .ireturn, 1, [], 0),
  (9, .aload_n 0, 1, [0], 0),
  (10, .getfield 24, 3, [9, 6, 1146], 0),
  (13, .aload_n 0, 1, [0], 0),
  (14, .getfield 65, 3, [9, 5, 1143], 0),
  (17, .aload_n 1, 1, [1], 0),
  (18, .getfield 137, 3, [7, 6, 1098], 0),
  (21, .invokestatic 140, 3, [1, 31, 3, 3220, 3221, 1007], 0),
  (24, .istore_n 2, 1, [2], 0),
  (25, .iload_n 2, 1, [2], 0),
  (26, .iconst (-1), 1, [], (-1)),
  (27, .if_icmp .ne 11, 3, [22], 0),
  (30, .aload_n 1, 1, [1], 0),
  (31, .iconst 3, 1, [], 3),
  (32, .invokevirtual 130, 3, [0, 28, 1, 7, 3206, 3207, 3208, 1002], 0),
  (35, .pop, 1, [], 0),
  (36, .iconst (-1), 1, [], (-1)),
  (37, .ireturn, 1, [], 0),
  (38, .aload_n 1, 1, [1], 0),
  (39, .invokevirtual 148, 3, [0, 18, 0, 7, 3210, 3169, 3170, 1002], 0),
  (42, .iload_n 2, 1, [2], 0),
  (43, .ireturn, 1, [], 0)]
def cd_Village_addUnit : List Ent := [(0, .aload_n 0, 1, [0], 0),
  (1, .getfield 68, 3, [9, 8, 1148], 0),
  (4, .iconst 5, 1, [], 5),
  (5, .imul, 1, [], 0),
  (6, .istore 6, 2, [6], 0),
  (8, .aload_n 0, 1, [0], 0),
  (9, .getfield 30, 3, [9, 9, 1155], 0),
  (12, .iload 6, 2, [6], 0),
  (14, .iconst 0, 1, [], 0),
  (15, .iadd, 1, [], 0),
  (16, .iload_n 2, 1, [2], 0),
  (17, .iastore, 1, [], 0),
  (18, .aload_n 0, 1, [0], 0),
  (19, .getfield 30, 3, [9, 9, 1155], 0),
  (22, .iload 6, 2, [6], 0),
  (24, .iconst 1, 1, [], 1),
  (25, .iadd, 1, [], 0),
  (26, .iload_n 3, 1, [3], 0),
  (27, .iastore, 1, [], 0),
  (28, .aload_n 0, 1, [0], 0),
  (29, .getfield 30, 3, [9, 9, 1155], 0),
  (32, .iload 6, 2, [6], 0),
  (34, .iconst 2, 1, [], 2),
  (35, .iadd, 1, [], 0),
  (36, .iload 4, 2, [4], 0),
  (38, .iastore, 1, [], 0),
  (39, .aload_n 0, 1, [0], 0),
  (40, .getfield 30, 3, [9, 9, 1155], 0),
  (43, .iload 6, 2, [6], 0),
  (45, .iconst 3, 1, [], 3),
  (46, .iadd, 1, [], 0),
  (47, .iload 5, 2, [5], 0),
  (49, .iastore, 1, [], 0),
  (50, .aload_n 0, 1, [0], 0),
  (51, .getfield 30, 3, [9, 9, 1155], 0),
  (54, .iload 6, 2, [6], 0),
  (56, .iconst 4, 1, [], 4),
  (57, .iadd, 1, [], 0),
  (58, .iload 5, 2, [5], 0),
  (60, .aload_n 0, 1, [0], 0),
  (61, .getfield 27, 3, [9, 7, 1147], 0),
  (64, .iload_n 2, 1, [2], 0),
  (65, .iaload, 1, [], 0),
  (66, .iadd, 1, [], 0),
  (67, .iastore, 1, [], 0),
  (68, .aload_n 0, 1, [0], 0),
  (69, .getfield 33, 3, [9, 10, 1157], 0),
  (72, .aload_n 0, 1, [0], 0),
  (73, .getfield 68, 3, [9, 8, 1148], 0),
  (76, .iload_n 1, 1, [1], 0),
  (77, .iastore, 1, [], 0),
  (78, .aload_n 0, 1, [0], 0),
  (79, .dup, 1, [], 0),
  (80, .getfield 68, 3, [9, 8, 1148], 0),
  (83, .iconst 1, 1, [], 1),
  (84, .iadd, 1, [], 0),
  (85, .putfield 68, 3, [9, 8, 1148], 0),
  (88, .return_, 1, [], 0)]
def cd_Village_wantsLine : List Ent := [(0, .aload_n 0, 1, [0], 0),
  (1, .getfield 71, 3, [9, 11, 1160], 0),
  (4, .bipush 8, 2, [], 8),
  (6, .if_icmp .lt 9, 3, [8], 0),
  (9, .aload_n 1, 1, [1], 0),
  (10, .iconst 4, 1, [], 4),
  (11, .invokevirtual 130, 3, [0, 28, 1, 7, 3206, 3207, 3208, 1002], 0),
  (14, .ireturn, 1, [], 0),
  (15, .aload_n 1, 1, [1], 0),
  (16, .invokevirtual 148, 3, [0, 18, 0, 7, 3210, 3169, 3170, 1002], 0),
  (19, .aload_n 0, 1, [0], 0),
  (20, .aload_n 1, 1, [1], 0),
  (21, .iconst (-1), 1, [], (-1)),
  (22, .invokevirtual 167, 3, [0, 38, 2, 9, 4008, 4010, 11, 1007], 0),
  (25, .istore_n 2, 1, [2], 0),
  (26, .iload_n 2, 1, [2], 0),
  (27, .iconst (-1), 1, [], (-1)),
  (28, .if_icmp .ne 5, 3, [20], 0),
  (31, .iconst 0, 1, [], 0),
  (32, .ireturn, 1, [], 0),
  (33, .aload_n 0, 1, [0], 0),
  (34, .aload_n 1, 1, [1], 0),
  (35, .invokevirtual 170, 3, [0, 40, 1, 9, 4016, 4018, 12, 1007], 0),
  (38, .istore_n 3, 1, [3], 0),
  (39, .iload_n 3, 1, [3], 0),
  (40, .iconst (-1), 1, [], (-1)),
  (41, .if_icmp .eq 14, 3, [32], 0),
  (44, .aload_n 1, 1, [1], 0),
  (45, .iconst 0, 1, [], 0),
  (46, .sipush 999, 3, [], 999),
  (49, .invokevirtual 160, 3, [0, 34, 2, 7, 3232, 3233, 3234, 1002], 0),
  (52, .ifCond .ne 5, 3, [34], 0),
  (55, .iconst 0, 1, [], 0),
  (56, .ireturn, 1, [], 0),
  (57, .aload_n 1, 1, [1], 0),
  (58, .invokevirtual 154, 3, [0, 32, 0, 7, 3223, 3224, 3225, 1002], 0),
  (61, .istore 4, 2, [4], 0),
  (63, .bipush 47, 2, [], 47),
  (65, .istore 5, 2, [5], 0),
  (67, .aload_n 1, 1, [1], 0),
  (68, .bipush 7, 2, [], 7),
  (70, .invokevirtual 157, 3, [0, 33, 1, 7, 3227, 3228, 3229, 1002], 0),
  (73, .ifCond .eq 21, 3, [53], 0),
  (76, .aload_n 1, 1, [1], 0),
  (77, .iconst 0, 1, [], 0),
  (78, .bipush 47, 2, [], 47),
  (80, .invokevirtual 160, 3, [0, 34, 2, 7, 3232, 3233, 3234, 1002], 0),
  (83, .ifCond .ne 5, 3, [50], 0),
  (86, .iconst 0, 1, [], 0),
  (87, .ireturn, 1, [], 0),
  (88, .aload_n 1, 1, [1], 0),
  (89, .invokevirtual 154, 3, [0, 32, 0, 7, 3223, 3224, 3225, 1002], 0),
  (92, .istore 5, 2, [5], 0),
  (94, .aload_n 0, 1, [0], 0),
  (95, .getfield 71, 3, [9, 11, 1160], 0),
  (98, .iconst 4, 1, [], 4),
  (99, .imul, 1, [], 0),
  (100, .istore 6, 2, [6], 0),
  (102, .aload_n 0, 1, [0], 0),
  (103, .getfield 36, 3, [9, 12, 1166], 0),
  (106, .iload 6, 2, [6], 0),
  (108, .iconst 0, 1, [], 0),
  (109, .iadd, 1, [], 0),
  (110, .iload_n 2, 1, [2], 0),
  (111, .iastore, 1, [], 0),
  (112, .aload_n 0, 1, [0], 0),
  (113, .getfield 36, 3, [9, 12, 1166], 0),
  (116, .iload 6, 2, [6], 0),
  (118, .iconst 1, 1, [], 1),
  (119, .iadd, 1, [], 0),
  (120, .iload_n 3, 1, [3], 0),
  (121, .iastore, 1, [], 0),
  (122, .aload_n 0, 1, [0], 0),
  (123, .getfield 36, 3, [9, 12, 1166], 0),
  (126, .iload 6, 2, [6], 0),
  (128, .iconst 2, 1, [], 2),
  (129, .iadd, 1, [], 0),
  (130, .iload 4, 2, [4], 0),
  (132, .iastore, 1, [], 0),
  (133, .aload_n 0, 1, [0], 0),
  (134, .getfield 36, 3, [9, 12, 1166], 0),
  (137, .iload 6, 2, [6], 0),
  (139, .iconst 3, 1, [], 3),
  (140, .iadd, 1, [], 0),
  (141, .iload 5, 2, [5], 0),
  (143, .iastore, 1, [], 0),
  (144, .aload_n 0, 1, [0], 0),
  (145, .dup, 1, [], 0),
  (146, .getfield 71, 3, [9, 11, 1160], 0),
  (149, .iconst 1, 1, [], 1),
  (150, .iadd, 1, [], 0),
  (151, .putfield 71, 3, [9, 11, 1160], 0),
  (154, .iconst 1, 1, [], 1),
  (155, .ireturn, 1, [], 0)]
def cd_Village_givesLine : List Ent := [(0, .aload_n 1, 1, [1], 0),
  (1, .invokevirtual 148, 3, [0, 18, 0, 7, 3210, 3169, 3170, 1002], 0),
  (4, .aload_n 0, 1, [0], 0),
  (5, .aload_n 1, 1, [1], 0),
  (6, .iconst (-1), 1, [], (-1)),
  (7, .invokevirtual 167, 3, [0, 38, 2, 9, 4008, 4010, 11, 1007], 0),
  (10, .istore_n 2, 1, [2], 0),
  (11, .iload_n 2, 1, [2], 0),
  (12, .iconst (-1), 1, [], (-1)),
  (13, .if_icmp .ne 5, 3, [12], 0),
  (16, .iconst 0, 1, [], 0),
  (17, .ireturn, 1, [], 0),
  (18, .aload_n 0, 1, [0], 0),
  (19, .aload_n 1, 1, [1], 0),
  (20, .iload_n 2, 1, [2], 0),
  (21, .invokevirtual 144, 3, [0, 39, 2, 9, 4012, 4013, 4014, 1007], 0),
  (24, .istore_n 3, 1, [3], 0),
  (25, .iload_n 3, 1, [3], 0),
  (26, .iconst (-1), 1, [], (-1)),
  (27, .if_icmp .ne 5, 3, [22], 0),
  (30, .iconst 0, 1, [], 0),
  (31, .ireturn, 1, [], 0),
  (32, .iload_n 2, 1, [2], 0),
  (33, .bipush 8, 2, [], 8),
  (35, .imul, 1, [], 0),
  (36, .iload_n 3, 1, [3], 0),
  (37, .iadd, 1, [], 0),
  (38, .istore 4, 2, [4], 0),
  (40, .aload_n 0, 1, [0], 0),
  (41, .getfield 39, 3, [9, 13, 1169], 0),
  (44, .iload 4, 2, [4], 0),
  (46, .iaload, 1, [], 0),
  (47, .iconst (-1), 1, [], (-1)),
  (48, .if_icmp .eq 9, 3, [38], 0),
  (51, .aload_n 1, 1, [1], 0),
  (52, .iconst 3, 1, [], 3),
  (53, .invokevirtual 130, 3, [0, 28, 1, 7, 3206, 3207, 3208, 1002], 0),
  (56, .ireturn, 1, [], 0),
  (57, .aload_n 1, 1, [1], 0),
  (58, .invokevirtual 148, 3, [0, 18, 0, 7, 3210, 3169, 3170, 1002], 0),
  (61, .aload_n 1, 1, [1], 0),
  (62, .iconst 0, 1, [], 0),
  (63, .bipush 99, 2, [], 99),
  (65, .invokevirtual 160, 3, [0, 34, 2, 7, 3232, 3233, 3234, 1002], 0),
  (68, .ifCond .ne 5, 3, [47], 0),
  (71, .iconst 0, 1, [], 0),
  (72, .ireturn, 1, [], 0),
  (73, .aload_n 0, 1, [0], 0),
  (74, .getfield 39, 3, [9, 13, 1169], 0),
  (77, .iload 4, 2, [4], 0),
  (79, .aload_n 1, 1, [1], 0),
  (80, .invokevirtual 154, 3, [0, 32, 0, 7, 3223, 3224, 3225, 1002], 0),
  (83, .iastore, 1, [], 0),
  (84, .aload_n 1, 1, [1], 0),
  (85, .iconst 0, 1, [], 0),
  (86, .bipush 9, 2, [], 9),
  (88, .invokevirtual 160, 3, [0, 34, 2, 7, 3232, 3233, 3234, 1002], 0),
  (91, .ifCond .ne 5, 3, [60], 0),
  (94, .iconst 0, 1, [], 0),
  (95, .ireturn, 1, [], 0),
  (96, .aload_n 0, 1, [0], 0),
  (97, .getfield 42, 3, [9, 14, 1174], 0),
  (100, .iload 4, 2, [4], 0),
  (102, .aload_n 1, 1, [1], 0),
  (103, .invokevirtual 154, 3, [0, 32, 0, 7, 3223, 3224, 3225, 1002], 0),
  (106, .iastore, 1, [], 0),
  (107, .iconst 1, 1, [], 1),
  (108, .ireturn, 1, [], 0)]
def cd_Village_lawLine : List Ent := [(0, .aload_n 0, 1, [0], 0),
  (1, .getfield 74, 3, [9, 17, 1188], 0),
  (4, .ifCond .eq 9, 3, [7], 0),
  (7, .aload_n 1, 1, [1], 0),
  (8, .iconst 3, 1, [], 3),
  (9, .invokevirtual 130, 3, [0, 28, 1, 7, 3206, 3207, 3208, 1002], 0),
  (12, .ireturn, 1, [], 0),
  (13, .aload_n 0, 1, [0], 0),
  (14, .iconst 1, 1, [], 1),
  (15, .putfield 74, 3, [9, 17, 1188], 0),
  (18, .aload_n 1, 1, [1], 0),
  (19, .invokevirtual 148, 3, [0, 18, 0, 7, 3210, 3169, 3170, 1002], 0),
  (22, .aload_n 1, 1, [1], 0),
  (23, .iconst 2, 1, [], 2),
  (24, .bipush 6, 2, [], 6),
  (26, .invokevirtual 160, 3, [0, 34, 2, 7, 3232, 3233, 3234, 1002], 0),
  (29, .ifCond .ne 5, 3, [19], 0),
  (32, .iconst 0, 1, [], 0),
  (33, .ireturn, 1, [], 0),
  (34, .aload_n 0, 1, [0], 0),
  (35, .aload_n 1, 1, [1], 0),
  (36, .invokevirtual 154, 3, [0, 32, 0, 7, 3223, 3224, 3225, 1002], 0),
  (39, .putfield 45, 3, [9, 15, 1178], 0),
  (42, .aload_n 1, 1, [1], 0),
  (43, .invokevirtual 109, 3, [0, 26, 0, 7, 3198, 3199, 3200, 1002], 0),
  (46, .istore_n 2, 1, [2], 0),
  (47, .iload_n 2, 1, [2], 0),
  (48, .bipush 10, 2, [], 10),
  (50, .if_icmp .lt 9, 3, [32], 0),
  (53, .iload_n 2, 1, [2], 0),
  (54, .bipush 13, 2, [], 13),
  (56, .if_icmp .le 9, 3, [36], 0),
  (59, .aload_n 1, 1, [1], 0),
  (60, .iconst 1, 1, [], 1),
  (61, .invokevirtual 130, 3, [0, 28, 1, 7, 3206, 3207, 3208, 1002], 0),
  (64, .ireturn, 1, [], 0),
  (65, .aload_n 0, 1, [0], 0),
  (66, .iload_n 2, 1, [2], 0),
  (67, .bipush 10, 2, [], 10),
  (69, .isub, 1, [], 0),
  (70, .putfield 49, 3, [9, 16, 1183], 0),
  (73, .aload_n 1, 1, [1], 0),
  (74, .invokevirtual 148, 3, [0, 18, 0, 7, 3210, 3169, 3170, 1002], 0),
  (77, .iconst 1, 1, [], 1),
  (78, .ireturn, 1, [], 0)]
def cd_Tokens_semicolon : List Ent := [(0, .aload_n 0, 1, [0], 0),
  (1, .getfield 57, 3, [7, 5, 1094], 0),
  (4, .iconst 3, 1, [], 3),
  (5, .if_icmp .eq 9, 3, [8], 0),
  (8, .aload_n 0, 1, [0], 0),
  (9, .iconst 1, 1, [], 1),
  (10, .invokevirtual 78, 3, [0, 28, 1, 7, 3219, 3207, 3208, 1002], 0),
  (13, .ireturn, 1, [], 0),
  (14, .aload_n 0, 1, [0], 0),
  (15, .invokevirtual 48, 3, [0, 18, 0, 7, 3168, 3169, 3170, 1002], 0),
  (18, .iconst 1, 1, [], 1),
  (19, .ireturn, 1, [], 0)]
def cd_Tokens_faultAnswer : List Ent := [(0, .iconst (-1), 1, [], (-1)),
  (1, .aload_n 0, 1, [0], 0),
  (2, .getfield 51, 3, [7, 7, 1099], 0),
  (5, .isub, 1, [], 0),
  (6, .ireturn, 1, [], 0)]
def cd_Village_copy : List Ent := [(0, .aload_n 0, 1, [0], 0),
  (1, .aload_n 1, 1, [1], 0),
  (2, .getfield 58, 3, [9, 0, 1132], 0),
  (5, .putfield 58, 3, [9, 0, 1132], 0),
  (8, .aload_n 1, 1, [1], 0),
  (9, .getfield 9, 3, [9, 1, 1137], 0),
  (12, .aload_n 0, 1, [0], 0),
  (13, .getfield 9, 3, [9, 1, 1137], 0),
  (16, .invokestatic 61, 3, [4, 48, 2, 0, 4049, 1001], 0),
  (19, .aload_n 1, 1, [1], 0),
  (20, .getfield 15, 3, [9, 2, 1138], 0),
  (23, .aload_n 0, 1, [0], 0),
  (24, .getfield 15, 3, [9, 2, 1138], 0),
  (27, .invokestatic 61, 3, [4, 48, 2, 0, 4049, 1001], 0),
  (30, .aload_n 1, 1, [1], 0),
  (31, .getfield 18, 3, [9, 3, 1139], 0),
  (34, .aload_n 0, 1, [0], 0),
  (35, .getfield 18, 3, [9, 3, 1139], 0),
  (38, .invokestatic 61, 3, [4, 48, 2, 0, 4049, 1001], 0),
  (41, .aload_n 1, 1, [1], 0),
  (42, .getfield 21, 3, [9, 4, 1140], 0),
  (45, .aload_n 0, 1, [0], 0),
  (46, .getfield 21, 3, [9, 4, 1140], 0),
  (49, .invokestatic 61, 3, [4, 48, 2, 0, 4049, 1001], 0),
  (52, .aload_n 0, 1, [0], 0),
  (53, .aload_n 1, 1, [1], 0),
  (54, .getfield 65, 3, [9, 5, 1143], 0),
  (57, .putfield 65, 3, [9, 5, 1143], 0),
  (60, .aload_n 1, 1, [1], 0),
  (61, .getfield 24, 3, [9, 6, 1146], 0),
  (64, .aload_n 0, 1, [0], 0),
  (65, .getfield 24, 3, [9, 6, 1146], 0),
  (68, .invokestatic 61, 3, [4, 48, 2, 0, 4049, 1001], 0),
  (71, .aload_n 1, 1, [1], 0),
  (72, .getfield 27, 3, [9, 7, 1147], 0),
  (75, .aload_n 0, 1, [0], 0),
  (76, .getfield 27, 3, [9, 7, 1147], 0),
  (79, .invokestatic 61, 3, [4, 48, 2, 0, 4049, 1001], 0),
  (82, .aload_n 0, 1, [0], 0),
  (83, .aload_n 1, 1, [1], 0),
  (84, .getfield 68, 3, [9, 8, 1148], 0),
  (87, .putfield 68, 3, [9, 8, 1148], 0),
  (90, .aload_n 1, 1, [1], 0),
  (91, .getfield 30, 3, [9, 9, 1155], 0),
  (94, .aload_n 0, 1, [0], 0),
  (95, .getfield 30, 3, [9, 9, 1155], 0),
  (98, .invokestatic 61, 3, [4, 48, 2, 0, 4049, 1001], 0),
  (101, .aload_n 1, 1, [1], 0),
  (102, .getfield 33, 3, [9, 10, 1157], 0),
  (105, .aload_n 0, 1, [0], 0),
  (106, .getfield 33, 3, [9, 10, 1157], 0),
  (109, .invokestatic 61, 3, [4, 48, 2, 0, 4049, 1001], 0),
  (112, .aload_n 0, 1, [0], 0),
  (113, .aload_n 1, 1, [1], 0),
  (114, .getfield 71, 3, [9, 11, 1160], 0),
  (117, .putfield 71, 3, [9, 11, 1160], 0),
  (120, .aload_n 1, 1, [1], 0),
  (121, .getfield 36, 3, [9, 12, 1166], 0),
  (124, .aload_n 0, 1, [0], 0),
  (125, .getfield 36, 3, [9, 12, 1166], 0),
  (128, .invokestatic 61, 3, [4, 48, 2, 0, 4049, 1001], 0),
  (131, .aload_n 1, 1, [1], 0),
  (132, .getfield 39, 3, [9, 13, 1169], 0),
  (135, .aload_n 0, 1, [0], 0),
  (136, .getfield 39, 3, [9, 13, 1169], 0),
  (139, .invokestatic 61, 3, [4, 48, 2, 0, 4049, 1001], 0),
  (142, .aload_n 1, 1, [1], 0),
  (143, .getfield 42, 3, [9, 14, 1174], 0),
  (146, .aload_n 0, 1, [0], 0),
  (147, .getfield 42, 3, [9, 14, 1174], 0),
  (150, .invokestatic 61, 3, [4, 48, 2, 0, 4049, 1001], 0),
  (153, .aload_n 0, 1, [0], 0),
  (154, .aload_n 1, 1, [1], 0),
  (155, .getfield 45, 3, [9, 15, 1178], 0),
  (158, .putfield 45, 3, [9, 15, 1178], 0),
  (161, .aload_n 0, 1, [0], 0),
  (162, .aload_n 1, 1, [1], 0),
  (163, .getfield 49, 3, [9, 16, 1183], 0),
  (166, .putfield 49, 3, [9, 16, 1183], 0),
  (169, .return_, 1, [], 0)]
def cd_X_copyAll : List Ent := [(0, .aload_n 0, 1, [0], 0),
  (1, .iconst 0, 1, [], 0),
  (2, .aload_n 1, 1, [1], 0),
  (3, .iconst 0, 1, [], 0),
  (4, .aload_n 0, 1, [0], 0),
  (5, .arraylength, 1, [], 0),
  (6, .aload_n 1, 1, [1], 0),
  (7, .arraylength, 1, [], 0),
  (8, .invokestatic 427, 3, [11, 0, 0, 4051, 3166, 1019, 3167], 0),
  (11, .invokestatic 432, 3, [14, 0, 0, 4052, 4054, 4053, 1020], 0),
  (14, .return_, 1, [], 0)]
def cd_X_fault : List Ent := [(0, .aload_n 0, 1, [0], 0),
  (1, .getfield 126, 3, [11, 2, 3094], 0),
  (4, .ireturn, 1, [], 0)]
def cd_X_giving : List Ent := [(0, .aload_n 0, 1, [0], 0),
  (1, .getfield 25, 3, [11, 4, 3096], 0),
  (4, .iload_n 1, 1, [1], 0),
  (5, .invokevirtual 152, 3, [0, 51, 1, 9, 4063, 4064, 4065, 1007], 0),
  (8, .ifCond .eq 23, 3, [15], 0),
  (11, .aload_n 0, 1, [0], 0),
  (12, .getfield 25, 3, [11, 4, 3096], 0),
  (15, .iload_n 2, 1, [2], 0),
  (16, .invokevirtual 152, 3, [0, 51, 1, 9, 4063, 4064, 4065, 1007], 0),
  (19, .ifCond .eq 12, 3, [15], 0),
  (22, .iload_n 3, 1, [3], 0),
  (23, .ifCond .lt 8, 3, [15], 0),
  (26, .iload_n 3, 1, [3], 0),
  (27, .iconst 1, 1, [], 1),
  (28, .if_icmp .le 5, 3, [17], 0),
  (31, .iconst (-1), 1, [], (-1)),
  (32, .ireturn, 1, [], 0),
  (33, .iload_n 1, 1, [1], 0),
  (34, .bipush 8, 2, [], 8),
  (36, .imul, 1, [], 0),
  (37, .iload_n 2, 1, [2], 0),
  (38, .iadd, 1, [], 0),
  (39, .istore 4, 2, [4], 0),
  (41, .aload_n 0, 1, [0], 0),
  (42, .getfield 25, 3, [11, 4, 3096], 0),
  (45, .getfield 155, 3, [9, 13, 1173], 0),
  (48, .iload 4, 2, [4], 0),
  (50, .iaload, 1, [], 0),
  (51, .iconst (-1), 1, [], (-1)),
  (52, .if_icmp .ne 5, 3, [32], 0),
  (55, .iconst (-1), 1, [], (-1)),
  (56, .ireturn, 1, [], 0),
  (57, .iload_n 3, 1, [3], 0),
  (58, .ifCond .ne 16, 3, [40], 0),
  (61, .aload_n 0, 1, [0], 0),
  (62, .getfield 25, 3, [11, 4, 3096], 0),
  (65, .getfield 155, 3, [9, 13, 1173], 0),
  (68, .iload 4, 2, [4], 0),
  (70, .iaload, 1, [], 0),
  (71, .goto 13, 3, [45], 0),
  (74, .aload_n 0, 1, [0], 0),
  (75, .getfield 25, 3, [11, 4, 3096], 0),
  (78, .getfield 158, 3, [9, 14, 1177], 0),
  (81, .iload 4, 2, [4], 0),
  (83, .iaload, 1, [], 0),
  (84, .ireturn, 1, [], 0)]
def cd_Village_hasPerson : List Ent := [(0, .iload_n 1, 1, [1], 0),
  (1, .ifCond .lt 15, 3, [8], 0),
  (4, .iload_n 1, 1, [1], 0),
  (5, .aload_n 0, 1, [0], 0),
  (6, .getfield 58, 3, [9, 0, 1132], 0),
  (9, .if_icmp .ge 7, 3, [8], 0),
  (12, .iconst 1, 1, [], 1),
  (13, .goto 4, 3, [9], 0),
  (16, .iconst 0, 1, [], 0),
  (17, .ireturn, 1, [], 0)]
def cd_X_way : List Ent := [(0, .aload_n 0, 1, [0], 0),
  (1, .getfield 25, 3, [11, 4, 3096], 0),
  (4, .iload_n 1, 1, [1], 0),
  (5, .invokevirtual 136, 3, [0, 53, 1, 9, 4071, 4072, 4073, 1007], 0),
  (8, .ifCond .eq 23, 3, [15], 0),
  (11, .aload_n 0, 1, [0], 0),
  (12, .getfield 25, 3, [11, 4, 3096], 0),
  (15, .iload_n 2, 1, [2], 0),
  (16, .invokevirtual 146, 3, [0, 54, 1, 9, 4075, 4076, 4077, 1007], 0),
  (19, .ifCond .eq 12, 3, [15], 0),
  (22, .iload_n 3, 1, [3], 0),
  (23, .ifCond .lt 8, 3, [15], 0),
  (26, .iload_n 3, 1, [3], 0),
  (27, .iconst 2, 1, [], 2),
  (28, .if_icmp .le 5, 3, [17], 0),
  (31, .iconst (-1), 1, [], (-1)),
  (32, .ireturn, 1, [], 0),
  (33, .aload_n 0, 1, [0], 0),
  (34, .invokevirtual 175, 3, [0, 55, 0, 11, 4079, 4081, 17, 1001], 0),
  (37, .astore 4, 2, [4], 0),
  (39, .aload 4, 2, [4], 0),
  (41, .iload_n 1, 1, [1], 0),
  (42, .iload_n 2, 1, [2], 0),
  (43, .invokevirtual 179, 3, [0, 77, 2, 3, 4201, 4186, 4187, 1012], 0),
  (46, .lstore 5, 2, [5], 0),
  (48, .lload 5, 2, [5], 0),
  (50, .ldc2_w 183, 3, [4202], 9223372036854775807),
  (53, .lcmp, 1, [], 0),
  (54, .ifCond .ne 5, 3, [31], 0),
  (57, .iconst (-1), 1, [], (-1)),
  (58, .ireturn, 1, [], 0),
  (59, .aload_n 0, 1, [0], 0),
  (60, .getfield 99, 3, [11, 15, 3107], 0),
  (63, .lload 5, 2, [5], 0),
  (65, .invokestatic 185, 3, [1, 80, 1, 4203, 4204, 1013], 0),
  (68, .aload_n 0, 1, [0], 0),
  (69, .getfield 25, 3, [11, 4, 3096], 0),
  (72, .getfield 189, 3, [9, 15, 1182], 0),
  (75, .invokevirtual 192, 3, [0, 81, 2, 8, 4207, 4208, 4209, 1017], 0),
  (78, .iload_n 3, 1, [3], 0),
  (79, .ifCond .ne 9, 3, [44], 0),
  (82, .lload 5, 2, [5], 0),
  (84, .invokestatic 195, 3, [1, 78, 1, 4214, 4191, 1013], 0),
  (87, .ireturn, 1, [], 0),
  (88, .iload_n 3, 1, [3], 0),
  (89, .iconst 1, 1, [], 1),
  (90, .if_icmp .ne 11, 3, [50], 0),
  (93, .lload 5, 2, [5], 0),
  (95, .invokestatic 198, 3, [1, 83, 1, 4215, 4216, 1013], 0),
  (98, .goto 13, 3, [54], 0),
  (101, .aload 4, 2, [4], 0),
  (103, .getfield 161, 3, [3, 0, 2190], 0),
  (106, .lload 5, 2, [5], 0),
  (108, .invokevirtual 200, 3, [0, 84, 1, 10, 4218, 4219, 4220, 1013], 0),
  (111, .ireturn, 1, [], 0)]
def cd_Village_hasUnit : List Ent := [(0, .iload_n 1, 1, [1], 0),
  (1, .ifCond .lt 15, 3, [8], 0),
  (4, .iload_n 1, 1, [1], 0),
  (5, .aload_n 0, 1, [0], 0),
  (6, .getfield 68, 3, [9, 8, 1148], 0),
  (9, .if_icmp .ge 7, 3, [8], 0),
  (12, .iconst 1, 1, [], 1),
  (13, .goto 4, 3, [9], 0),
  (16, .iconst 0, 1, [], 0),
  (17, .ireturn, 1, [], 0)]
def cd_Village_hasWant : List Ent := [(0, .iload_n 1, 1, [1], 0),
  (1, .ifCond .lt 15, 3, [8], 0),
  (4, .iload_n 1, 1, [1], 0),
  (5, .aload_n 0, 1, [0], 0),
  (6, .getfield 71, 3, [9, 11, 1160], 0),
  (9, .if_icmp .ge 7, 3, [8], 0),
  (12, .iconst 1, 1, [], 1),
  (13, .goto 4, 3, [9], 0),
  (16, .iconst 0, 1, [], 0),
  (17, .ireturn, 1, [], 0)]
def cd_X_asTold : List Ent := [(0, .aload_n 0, 1, [0], 0),
  (1, .getfield 78, 3, [11, 12, 3104], 0),
  (4, .ifCond .eq 28, 3, [14], 0),
  (7, .aload_n 0, 1, [0], 0),
  (8, .getfield 71, 3, [11, 10, 3102], 0),
  (11, .getfield 161, 3, [3, 0, 2190], 0),
  (14, .getfield 165, 3, [10, 0, 2129], 0),
  (17, .invokevirtual 169, 3, [0, 56, 0, 6, 4083, 4084, 4085, 1014], 0),
  (20, .aload_n 0, 1, [0], 0),
  (21, .getfield 71, 3, [11, 10, 3102], 0),
  (24, .invokevirtual 172, 3, [0, 57, 0, 3, 4088, 4089, 4090, 1012], 0),
  (27, .aload_n 0, 1, [0], 0),
  (28, .iconst 0, 1, [], 0),
  (29, .putfield 78, 3, [11, 12, 3104], 0),
  (32, .aload_n 0, 1, [0], 0),
  (33, .getfield 71, 3, [11, 10, 3102], 0),
  (36, .areturn, 1, [], 0)]
def cd_Terms_reset : List Ent := [(0, .aload_n 0, 1, [0], 0),
  (1, .aload_n 0, 1, [0], 0),
  (2, .getfield 21, 3, [6, 0, 2084], 0),
  (5, .getfield 25, 3, [9, 15, 1179], 0),
  (8, .putfield 31, 3, [6, 1, 2086], 0),
  (11, .aload_n 0, 1, [0], 0),
  (12, .aload_n 0, 1, [0], 0),
  (13, .getfield 21, 3, [6, 0, 2084], 0),
  (16, .getfield 32, 3, [9, 16, 1184], 0),
  (19, .putfield 35, 3, [6, 2, 2089], 0),
  (22, .aload_n 0, 1, [0], 0),
  (23, .getfield 21, 3, [6, 0, 2084], 0),
  (26, .getfield 36, 3, [9, 4, 1141], 0),
  (29, .aload_n 0, 1, [0], 0),
  (30, .getfield 9, 3, [6, 3, 2092], 0),
  (33, .invokestatic 37, 3, [4, 48, 2, 0, 4049, 1001], 0),
  (36, .aload_n 0, 1, [0], 0),
  (37, .getfield 21, 3, [6, 0, 2084], 0),
  (40, .getfield 41, 3, [9, 13, 1170], 0),
  (43, .aload_n 0, 1, [0], 0),
  (44, .getfield 15, 3, [6, 4, 2095], 0),
  (47, .invokestatic 37, 3, [4, 48, 2, 0, 4049, 1001], 0),
  (50, .aload_n 0, 1, [0], 0),
  (51, .getfield 21, 3, [6, 0, 2084], 0),
  (54, .getfield 42, 3, [9, 14, 1175], 0),
  (57, .aload_n 0, 1, [0], 0),
  (58, .getfield 18, 3, [6, 5, 2098], 0),
  (61, .invokestatic 37, 3, [4, 48, 2, 0, 4049, 1001], 0),
  (64, .aload_n 0, 1, [0], 0),
  (65, .iconst (-1), 1, [], (-1)),
  (66, .putfield 43, 3, [6, 6, 2101], 0),
  (69, .aload_n 0, 1, [0], 0),
  (70, .iconst (-1), 1, [], (-1)),
  (71, .putfield 46, 3, [6, 7, 2104], 0),
  (74, .return_, 1, [], 0)]
def cd_Meeting_weigh : List Ent := [(0, .aload_n 0, 1, [0], 0),
  (1, .getfield 28, 3, [3, 0, 2189], 0),
  (4, .invokevirtual 39, 3, [0, 58, 0, 10, 4092, 4093, 4094, 1013], 0),
  (7, .aload_n 0, 1, [0], 0),
  (8, .iconst 0, 1, [], 0),
  (9, .invokevirtual 42, 3, [0, 69, 1, 3, 4145, 4147, 22, 1012], 0),
  (12, .aload_n 0, 1, [0], 0),
  (13, .invokevirtual 46, 3, [0, 72, 0, 3, 4159, 4161, 24, 1012], 0),
  (16, .return_, 1, [], 0)]
def cd_Ways_walkAll : List Ent := [(0, .iconst 0, 1, [], 0),
  (1, .istore_n 1, 1, [1], 0),
  (2, .iload_n 1, 1, [1], 0),
  (3, .aload_n 0, 1, [0], 0),
  (4, .getfield 56, 3, [10, 1, 2131], 0),
  (7, .getfield 74, 3, [9, 8, 1153], 0),
  (10, .if_icmp .ge 27, 3, [19], 0),
  (13, .aload_n 0, 1, [0], 0),
  (14, .getfield 56, 3, [10, 1, 2131], 0),
  (17, .getfield 79, 3, [9, 10, 1159], 0),
  (20, .iload_n 1, 1, [1], 0),
  (21, .iaload, 1, [], 0),
  (22, .iload_n 1, 1, [1], 0),
  (23, .if_icmp .ne 8, 3, [17], 0),
  (26, .aload_n 0, 1, [0], 0),
  (27, .iload_n 1, 1, [1], 0),
  (28, .invokevirtual 82, 3, [0, 59, 1, 10, 4096, 4097, 4098, 1013], 0),
  (31, .iinc 1 1, 3, [1], 1),
  (34, .goto (-32), 3, [2], 0),
  (37, .return_, 1, [], 0)]
def cd_Ways_walkUnit : List Ent := [(0, .aload_n 0, 1, [0], 0),
  (1, .iload_n 1, 1, [1], 0),
  (2, .putfield 86, 3, [10, 7, 2142], 0),
  (5, .aload_n 0, 1, [0], 0),
  (6, .aload_n 0, 1, [0], 0),
  (7, .getfield 56, 3, [10, 1, 2131], 0),
  (10, .iload_n 1, 1, [1], 0),
  (11, .invokevirtual 89, 3, [0, 60, 1, 9, 4100, 4101, 4102, 1007], 0),
  (14, .putfield 93, 3, [10, 8, 2143], 0),
  (17, .aload_n 0, 1, [0], 0),
  (18, .getfield 25, 3, [10, 5, 2138], 0),
  (21, .iconst 0, 1, [], 0),
  (22, .invokestatic 95, 3, [1, 276, 2, 4108, 1130, 1008], 0),
  (25, .iload_n 1, 1, [1], 0),
  (26, .bipush 8, 2, [], 8),
  (28, .imul, 1, [], 0),
  (29, .iconst 3, 1, [], 3),
  (30, .imul, 1, [], 0),
  (31, .istore_n 2, 1, [2], 0),
  (32, .iload_n 2, 1, [2], 0),
  (33, .iload_n 1, 1, [1], 0),
  (34, .iconst 1, 1, [], 1),
  (35, .iadd, 1, [], 0),
  (36, .bipush 8, 2, [], 8),
  (38, .imul, 1, [], 0),
  (39, .iconst 3, 1, [], 3),
  (40, .imul, 1, [], 0),
  (41, .if_icmp .ge 27, 3, [40], 0),
  (44, .iload_n 2, 1, [2], 0),
  (45, .aload_n 0, 1, [0], 0),
  (46, .getfield 17, 3, [10, 3, 2134], 0),
  (49, .arraylength, 1, [], 0),
  (50, .if_icmp .ge 18, 3, [40], 0),
  (53, .aload_n 0, 1, [0], 0),
  (54, .getfield 17, 3, [10, 3, 2134], 0),
  (57, .iload_n 2, 1, [2], 0),
  (58, .ldc2_w 58, 3, [4109], 9223372036854775807),
  (61, .lastore, 1, [], 0),
  (62, .iinc 2 1, 3, [2], 1),
  (65, .goto (-33), 3, [19], 0),
  (68, .aload_n 0, 1, [0], 0),
  (69, .invokevirtual 101, 3, [0, 62, 0, 10, 4110, 4112, 18, 1013], 0),
  (72, .aload_n 0, 1, [0], 0),
  (73, .getfield 104, 3, [10, 10, 2145], 0),
  (76, .ifCond .lt 20, 3, [54], 0),
  (79, .aload_n 0, 1, [0], 0),
  (80, .getfield 93, 3, [10, 8, 2143], 0),
  (83, .aload_n 0, 1, [0], 0),
  (84, .getfield 46, 3, [10, 0, 2128], 0),
  (87, .getfield 107, 3, [6, 6, 2102], 0),
  (90, .iconst (-1), 1, [], (-1)),
  (91, .ixor, 1, [], 0),
  (92, .iand, 1, [], 0),
  (93, .ifCond .eq 4, 3, [55], 0),
  (96, .return_, 1, [], 0),
  (97, .iconst 1, 1, [], 1),
  (98, .istore_n 2, 1, [2], 0),
  (99, .iload_n 2, 1, [2], 0),
  (100, .iconst 2, 1, [], 2),
  (101, .if_icmp .gt 66, 3, [101], 0),
  (104, .aload_n 0, 1, [0], 0),
  (105, .getfield 56, 3, [10, 1, 2131], 0),
  (108, .iload_n 1, 1, [1], 0),
  (109, .iload_n 2, 1, [2], 0),
  (110, .invokevirtual 110, 3, [0, 61, 2, 9, 4118, 4105, 4106, 1007], 0),
  (113, .istore_n 3, 1, [3], 0),
  (114, .iload_n 3, 1, [3], 0),
  (115, .iconst (-1), 1, [], (-1)),
  (116, .if_icmp .eq 45, 3, [99], 0),
  (119, .aload_n 0, 1, [0], 0),
  (120, .getfield 31, 3, [10, 11, 2146], 0),
  (123, .iconst 0, 1, [], 0),
  (124, .iload_n 3, 1, [3], 0),
  (125, .iastore, 1, [], 0),
  (126, .aload_n 0, 1, [0], 0),
  (127, .getfield 34, 3, [10, 12, 2147], 0),
  (130, .iconst 0, 1, [], 0),
  (131, .iconst 1, 1, [], 1),
  (132, .iload_n 3, 1, [3], 0),
  (133, .ishl, 1, [], 0),
  (134, .iastore, 1, [], 0),
  (135, .aload_n 0, 1, [0], 0),
  (136, .getfield 37, 3, [10, 13, 2148], 0),
  (139, .iconst 0, 1, [], 0),
  (140, .iconst 0, 1, [], 0),
  (141, .iastore, 1, [], 0),
  (142, .aload_n 0, 1, [0], 0),
  (143, .getfield 40, 3, [10, 14, 2149], 0),
  (146, .iconst 0, 1, [], 0),
  (147, .iconst 0, 1, [], 0),
  (148, .iastore, 1, [], 0),
  (149, .aload_n 0, 1, [0], 0),
  (150, .getfield 43, 3, [10, 15, 2150], 0),
  (153, .iconst 0, 1, [], 0),
  (154, .iconst 0, 1, [], 0),
  (155, .iastore, 1, [], 0),
  (156, .aload_n 0, 1, [0], 0),
  (157, .iconst 0, 1, [], 0),
  (158, .invokevirtual 114, 3, [0, 64, 1, 10, 4123, 4125, 19, 1013], 0),
  (161, .iinc 2 1, 3, [2], 1),
  (164, .goto (-65), 3, [57], 0),
  (167, .return_, 1, [], 0)]
def cd_Village_firsts : List Ent := [(0, .aload_n 0, 1, [0], 0),
  (1, .iload_n 1, 1, [1], 0),
  (2, .iconst 2, 1, [], 2),
  (3, .invokevirtual 78, 3, [0, 61, 2, 9, 4104, 4105, 4106, 1007], 0),
  (6, .istore_n 2, 1, [2], 0),
  (7, .iconst 1, 1, [], 1),
  (8, .aload_n 0, 1, [0], 0),
  (9, .iload_n 1, 1, [1], 0),
  (10, .iconst 1, 1, [], 1),
  (11, .invokevirtual 78, 3, [0, 61, 2, 9, 4104, 4105, 4106, 1007], 0),
  (14, .ishl, 1, [], 0),
  (15, .iload_n 2, 1, [2], 0),
  (16, .iconst (-1), 1, [], (-1)),
  (17, .if_icmp .ne 7, 3, [16], 0),
  (20, .iconst 0, 1, [], 0),
  (21, .goto 6, 3, [19], 0),
  (24, .iconst 1, 1, [], 1),
  (25, .iload_n 2, 1, [2], 0),
  (26, .ishl, 1, [], 0),
  (27, .ior, 1, [], 0),
  (28, .ireturn, 1, [], 0)]
def cd_Village_ofUnit : List Ent := [(0, .aload_n 0, 1, [0], 0),
  (1, .getfield 30, 3, [9, 9, 1155], 0),
  (4, .iload_n 1, 1, [1], 0),
  (5, .iconst 5, 1, [], 5),
  (6, .imul, 1, [], 0),
  (7, .iload_n 2, 1, [2], 0),
  (8, .iadd, 1, [], 0),
  (9, .iaload, 1, [], 0),
  (10, .ireturn, 1, [], 0)]
def cd_Ways_measureRooms : List Ent := [(0, .aload_n 0, 1, [0], 0),
  (1, .iconst 0, 1, [], 0),
  (2, .putfield 117, 3, [10, 9, 2144], 0),
  (5, .aload_n 0, 1, [0], 0),
  (6, .iconst (-1), 1, [], (-1)),
  (7, .putfield 104, 3, [10, 10, 2145], 0),
  (10, .iconst 0, 1, [], 0),
  (11, .istore_n 1, 1, [1], 0),
  (12, .iload_n 1, 1, [1], 0),
  (13, .aload_n 0, 1, [0], 0),
  (14, .getfield 56, 3, [10, 1, 2131], 0),
  (17, .getfield 120, 3, [9, 11, 1164], 0),
  (20, .if_icmp .ge 137, 3, [87], 0),
  (23, .aload_n 0, 1, [0], 0),
  (24, .getfield 21, 3, [10, 4, 2136], 0),
  (27, .iload_n 1, 1, [1], 0),
  (28, .iconst (-1), 1, [], (-1)),
  (29, .iastore, 1, [], 0),
  (30, .aload_n 0, 1, [0], 0),
  (31, .getfield 56, 3, [10, 1, 2131], 0),
  (34, .iload_n 1, 1, [1], 0),
  (35, .iconst 1, 1, [], 1),
  (36, .invokevirtual 123, 3, [0, 63, 2, 9, 4114, 4115, 4116, 1007], 0),
  (39, .aload_n 0, 1, [0], 0),
  (40, .getfield 56, 3, [10, 1, 2131], 0),
  (43, .aload_n 0, 1, [0], 0),
  (44, .getfield 86, 3, [10, 7, 2142], 0),
  (47, .iconst 0, 1, [], 0),
  (48, .invokevirtual 110, 3, [0, 61, 2, 9, 4118, 4105, 4106, 1007], 0),
  (51, .if_icmp .ne 100, 3, [85], 0),
  (54, .aload_n 0, 1, [0], 0),
  (55, .getfield 56, 3, [10, 1, 2131], 0),
  (58, .iload_n 1, 1, [1], 0),
  (59, .iconst 3, 1, [], 3),
  (60, .invokevirtual 123, 3, [0, 63, 2, 9, 4114, 4115, 4116, 1007], 0),
  (63, .aload_n 0, 1, [0], 0),
  (64, .getfield 56, 3, [10, 1, 2131], 0),
  (67, .aload_n 0, 1, [0], 0),
  (68, .getfield 86, 3, [10, 7, 2142], 0),
  (71, .iconst 4, 1, [], 4),
  (72, .invokevirtual 110, 3, [0, 61, 2, 9, 4118, 4105, 4106, 1007], 0),
  (75, .iconst 1, 1, [], 1),
  (76, .isub, 1, [], 0),
  (77, .invokestatic 126, 3, [11, 0, 0, 4119, 3166, 1019, 3167], 0),
  (80, .istore_n 2, 1, [2], 0),
  (81, .aload_n 0, 1, [0], 0),
  (82, .getfield 21, 3, [10, 4, 2136], 0),
  (85, .iload_n 1, 1, [1], 0),
  (86, .iload_n 2, 1, [2], 0),
  (87, .aload_n 0, 1, [0], 0),
  (88, .getfield 56, 3, [10, 1, 2131], 0),
  (91, .aload_n 0, 1, [0], 0),
  (92, .getfield 86, 3, [10, 7, 2142], 0),
  (95, .iconst 3, 1, [], 3),
  (96, .invokevirtual 110, 3, [0, 61, 2, 9, 4118, 4105, 4106, 1007], 0),
  (99, .isub, 1, [], 0),
  (100, .iastore, 1, [], 0),
  (101, .aload_n 0, 1, [0], 0),
  (102, .aload_n 0, 1, [0], 0),
  (103, .getfield 104, 3, [10, 10, 2145], 0),
  (106, .aload_n 0, 1, [0], 0),
  (107, .getfield 21, 3, [10, 4, 2136], 0),
  (110, .iload_n 1, 1, [1], 0),
  (111, .iaload, 1, [], 0),
  (112, .invokestatic 131, 3, [10, 0, 0, 4120, 4121, 1019, 4122], 0),
  (115, .putfield 104, 3, [10, 10, 2145], 0),
  (118, .aload_n 0, 1, [0], 0),
  (119, .dup, 1, [], 0),
  (120, .getfield 117, 3, [10, 9, 2144], 0),
  (123, .aload_n 0, 1, [0], 0),
  (124, .getfield 21, 3, [10, 4, 2136], 0),
  (127, .iload_n 1, 1, [1], 0),
  (128, .iaload, 1, [], 0),
  (129, .ifCond .ge 7, 3, [76], 0),
  (132, .iconst 0, 1, [], 0),
  (133, .goto 14, 3, [83], 0),
  (136, .iconst 1, 1, [], 1),
  (137, .aload_n 0, 1, [0], 0),
  (138, .getfield 56, 3, [10, 1, 2131], 0),
  (141, .iload_n 1, 1, [1], 0),
  (142, .iconst 0, 1, [], 0),
  (143, .invokevirtual 123, 3, [0, 63, 2, 9, 4114, 4115, 4116, 1007], 0),
  (146, .ishl, 1, [], 0),
  (147, .ior, 1, [], 0),
  (148, .putfield 117, 3, [10, 9, 2144], 0),
  (151, .iinc 1 1, 3, [1], 1),
  (154, .goto (-142), 3, [8], 0),
  (157, .return_, 1, [], 0)]
def cd_Village_ofWant : List Ent := [(0, .aload_n 0, 1, [0], 0),
  (1, .getfield 36, 3, [9, 12, 1166], 0),
  (4, .iload_n 1, 1, [1], 0),
  (5, .iconst 4, 1, [], 4),
  (6, .imul, 1, [], 0),
  (7, .iload_n 2, 1, [2], 0),
  (8, .iadd, 1, [], 0),
  (9, .iaload, 1, [], 0),
  (10, .ireturn, 1, [], 0)]
def cd_Ways_onward : List Ent := [(0, .iload_n 1, 1, [1], 0),
  (1, .aload_n 0, 1, [0], 0),
  (2, .getfield 46, 3, [10, 0, 2128], 0),
  (5, .getfield 64, 3, [6, 1, 2087], 0),
  (8, .iconst 1, 1, [], 1),
  (9, .isub, 1, [], 0),
  (10, .if_icmp .ge 8, 3, [10], 0),
  (13, .iload_n 1, 1, [1], 0),
  (14, .iconst 5, 1, [], 5),
  (15, .if_icmp .lt 9, 3, [14], 0),
  (18, .aload_n 0, 1, [0], 0),
  (19, .iload_n 1, 1, [1], 0),
  (20, .invokevirtual 134, 3, [0, 65, 1, 10, 4127, 4129, 20, 1013], 0),
  (23, .return_, 1, [], 0),
  (24, .aload_n 0, 1, [0], 0),
  (25, .getfield 46, 3, [10, 0, 2128], 0),
  (28, .getfield 137, 3, [6, 7, 2105], 0),
  (31, .aload_n 0, 1, [0], 0),
  (32, .getfield 31, 3, [10, 11, 2146], 0),
  (35, .iload_n 1, 1, [1], 0),
  (36, .iaload, 1, [], 0),
  (37, .invokestatic 140, 3, [4, 66, 2, 0, 4135, 1001], 0),
  (40, .ifCond .ne 4, 3, [24], 0),
  (43, .return_, 1, [], 0),
  (44, .aload_n 0, 1, [0], 0),
  (45, .getfield 46, 3, [10, 0, 2128], 0),
  (48, .getfield 107, 3, [6, 6, 2102], 0),
  (51, .iload_n 1, 1, [1], 0),
  (52, .iconst 1, 1, [], 1),
  (53, .iadd, 1, [], 0),
  (54, .aload_n 0, 1, [0], 0),
  (55, .getfield 46, 3, [10, 0, 2128], 0),
  (58, .getfield 64, 3, [6, 1, 2087], 0),
  (61, .iconst 1, 1, [], 1),
  (62, .isub, 1, [], 0),
  (63, .if_icmp .ne 10, 3, [39], 0),
  (66, .aload_n 0, 1, [0], 0),
  (67, .getfield 117, 3, [10, 9, 2144], 0),
  (70, .goto 4, 3, [40], 0),
  (73, .iconst (-1), 1, [], (-1)),
  (74, .iand, 1, [], 0),
  (75, .istore_n 2, 1, [2], 0),
  (76, .iconst 0, 1, [], 0),
  (77, .istore_n 3, 1, [3], 0),
  (78, .iload_n 3, 1, [3], 0),
  (79, .aload_n 0, 1, [0], 0),
  (80, .getfield 56, 3, [10, 1, 2131], 0),
  (83, .getfield 144, 3, [9, 0, 1135], 0),
  (86, .if_icmp .ge 104, 3, [103], 0),
  (89, .aload_n 0, 1, [0], 0),
  (90, .getfield 31, 3, [10, 11, 2146], 0),
  (93, .iload_n 1, 1, [1], 0),
  (94, .iaload, 1, [], 0),
  (95, .bipush 8, 2, [], 8),
  (97, .imul, 1, [], 0),
  (98, .iload_n 3, 1, [3], 0),
  (99, .iadd, 1, [], 0),
  (100, .istore 4, 2, [4], 0),
  (102, .iload_n 2, 1, [2], 0),
  (103, .iload_n 3, 1, [3], 0),
  (104, .invokestatic 140, 3, [4, 66, 2, 0, 4135, 1001], 0),
  (107, .ifCond .eq 77, 3, [101], 0),
  (110, .aload_n 0, 1, [0], 0),
  (111, .getfield 46, 3, [10, 0, 2128], 0),
  (114, .getfield 67, 3, [6, 4, 2096], 0),
  (117, .iload 4, 2, [4], 0),
  (119, .iaload, 1, [], 0),
  (120, .iconst (-1), 1, [], (-1)),
  (121, .if_icmp .eq 63, 3, [101], 0),
  (124, .aload_n 0, 1, [0], 0),
  (125, .getfield 37, 3, [10, 13, 2148], 0),
  (128, .iload_n 1, 1, [1], 0),
  (129, .iaload, 1, [], 0),
  (130, .aload_n 0, 1, [0], 0),
  (131, .getfield 46, 3, [10, 0, 2128], 0),
  (134, .getfield 147, 3, [6, 5, 2099], 0),
  (137, .iload 4, 2, [4], 0),
  (139, .iaload, 1, [], 0),
  (140, .iadd, 1, [], 0),
  (141, .aload_n 0, 1, [0], 0),
  (142, .getfield 104, 3, [10, 10, 2145], 0),
  (145, .if_icmp .gt 39, 3, [101], 0),
  (148, .aload_n 0, 1, [0], 0),
  (149, .getfield 56, 3, [10, 1, 2131], 0),
  (152, .aload_n 0, 1, [0], 0),
  (153, .getfield 46, 3, [10, 0, 2128], 0),
  (156, .getfield 150, 3, [6, 2, 2090], 0),
  (159, .aload_n 0, 1, [0], 0),
  (160, .getfield 93, 3, [10, 8, 2143], 0),
  (163, .aload_n 0, 1, [0], 0),
  (164, .getfield 34, 3, [10, 12, 2147], 0),
  (167, .iload_n 1, 1, [1], 0),
  (168, .iaload, 1, [], 0),
  (169, .iload_n 3, 1, [3], 0),
  (170, .invokevirtual 153, 3, [0, 67, 4, 9, 4137, 4138, 4139, 1007], 0),
  (173, .ifCond .eq 11, 3, [101], 0),
  (176, .aload_n 0, 1, [0], 0),
  (177, .iload_n 1, 1, [1], 0),
  (178, .iload_n 3, 1, [3], 0),
  (179, .iload 4, 2, [4], 0),
  (181, .invokevirtual 157, 3, [0, 68, 3, 10, 4141, 4143, 21, 1013], 0),
  (184, .iinc 3 1, 3, [3], 1),
  (187, .goto (-109), 3, [44], 0),
  (190, .return_, 1, [], 0)]
def cd_Ways_arrive : List Ent := [(0, .iconst 0, 1, [], 0),
  (1, .istore_n 2, 1, [2], 0),
  (2, .iconst 0, 1, [], 0),
  (3, .istore_n 3, 1, [3], 0),
  (4, .iload_n 3, 1, [3], 0),
  (5, .iload_n 1, 1, [1], 0),
  (6, .if_icmp .gt 20, 3, [18], 0),
  (9, .iload_n 2, 1, [2], 0),
  (10, .iconst 3, 1, [], 3),
  (11, .ishl, 1, [], 0),
  (12, .aload_n 0, 1, [0], 0),
  (13, .getfield 31, 3, [10, 11, 2146], 0),
  (16, .iload_n 3, 1, [3], 0),
  (17, .iaload, 1, [], 0),
  (18, .ior, 1, [], 0),
  (19, .istore_n 2, 1, [2], 0),
  (20, .iinc 3 1, 3, [3], 1),
  (23, .goto (-19), 3, [4], 0),
  (26, .aload_n 0, 1, [0], 0),
  (27, .getfield 40, 3, [10, 14, 2149], 0),
  (30, .iload_n 1, 1, [1], 0),
  (31, .iaload, 1, [], 0),
  (32, .i2l, 1, [], 0),
  (33, .bipush 24, 2, [], 24),
  (35, .lshl, 1, [], 0),
  (36, .aload_n 0, 1, [0], 0),
  (37, .getfield 37, 3, [10, 13, 2148], 0),
  (40, .iload_n 1, 1, [1], 0),
  (41, .iaload, 1, [], 0),
  (42, .i2l, 1, [], 0),
  (43, .bipush 18, 2, [], 18),
  (45, .lshl, 1, [], 0),
  (46, .ladd, 1, [], 0),
  (47, .iload_n 2, 1, [2], 0),
  (48, .i2l, 1, [], 0),
  (49, .ladd, 1, [], 0),
  (50, .lstore_n 3, 1, [3], 0),
  (51, .aload_n 0, 1, [0], 0),
  (52, .getfield 43, 3, [10, 15, 2150], 0),
  (55, .iload_n 1, 1, [1], 0),
  (56, .iaload, 1, [], 0),
  (57, .iconst 2, 1, [], 2),
  (58, .invokestatic 126, 3, [11, 0, 0, 4119, 3166, 1019, 3167], 0),
  (61, .istore 5, 2, [5], 0),
  (63, .iconst 0, 1, [], 0),
  (64, .istore 6, 2, [6], 0),
  (66, .iload 6, 2, [6], 0),
  (68, .aload_n 0, 1, [0], 0),
  (69, .getfield 56, 3, [10, 1, 2131], 0),
  (72, .getfield 120, 3, [9, 11, 1164], 0),
  (75, .if_icmp .ge 140, 3, [130], 0),
  (78, .aload_n 0, 1, [0], 0),
  (79, .getfield 56, 3, [10, 1, 2131], 0),
  (82, .getfield 164, 3, [9, 12, 1168], 0),
  (85, .iload 6, 2, [6], 0),
  (87, .iconst 4, 1, [], 4),
  (88, .imul, 1, [], 0),
  (89, .iconst 0, 1, [], 0),
  (90, .iadd, 1, [], 0),
  (91, .iaload, 1, [], 0),
  (92, .istore 7, 2, [7], 0),
  (94, .aload_n 0, 1, [0], 0),
  (95, .getfield 37, 3, [10, 13, 2148], 0),
  (98, .iload_n 1, 1, [1], 0),
  (99, .iaload, 1, [], 0),
  (100, .aload_n 0, 1, [0], 0),
  (101, .getfield 21, 3, [10, 4, 2136], 0),
  (104, .iload 6, 2, [6], 0),
  (106, .iaload, 1, [], 0),
  (107, .if_icmp .gt 102, 3, [128], 0),
  (110, .iload 7, 2, [7], 0),
  (112, .aload_n 0, 1, [0], 0),
  (113, .getfield 31, 3, [10, 11, 2146], 0),
  (116, .iload_n 1, 1, [1], 0),
  (117, .iaload, 1, [], 0),
  (118, .if_icmp .ne 91, 3, [128], 0),
  (121, .aload_n 0, 1, [0], 0),
  (122, .getfield 28, 3, [10, 6, 2140], 0),
  (125, .iload 6, 2, [6], 0),
  (127, .aload_n 0, 1, [0], 0),
  (128, .getfield 25, 3, [10, 5, 2138], 0),
  (131, .iload 6, 2, [6], 0),
  (133, .iaload, 1, [], 0),
  (134, .ifCond .ne 12, 3, [89], 0),
  (137, .aload_n 0, 1, [0], 0),
  (138, .getfield 37, 3, [10, 13, 2148], 0),
  (141, .iload_n 1, 1, [1], 0),
  (142, .iaload, 1, [], 0),
  (143, .goto 19, 3, [98], 0),
  (146, .aload_n 0, 1, [0], 0),
  (147, .getfield 28, 3, [10, 6, 2140], 0),
  (150, .iload 6, 2, [6], 0),
  (152, .iaload, 1, [], 0),
  (153, .aload_n 0, 1, [0], 0),
  (154, .getfield 37, 3, [10, 13, 2148], 0),
  (157, .iload_n 1, 1, [1], 0),
  (158, .iaload, 1, [], 0),
  (159, .invokestatic 126, 3, [11, 0, 0, 4119, 3166, 1019, 3167], 0),
  (162, .iastore, 1, [], 0),
  (163, .aload_n 0, 1, [0], 0),
  (164, .getfield 25, 3, [10, 5, 2138], 0),
  (167, .iload 6, 2, [6], 0),
  (169, .dup2, 1, [], 0),
  (170, .iaload, 1, [], 0),
  (171, .iconst 1, 1, [], 1),
  (172, .iadd, 1, [], 0),
  (173, .iastore, 1, [], 0),
  (174, .aload_n 0, 1, [0], 0),
  (175, .getfield 86, 3, [10, 7, 2142], 0),
  (178, .bipush 8, 2, [], 8),
  (180, .imul, 1, [], 0),
  (181, .iload 6, 2, [6], 0),
  (183, .iadd, 1, [], 0),
  (184, .iconst 3, 1, [], 3),
  (185, .imul, 1, [], 0),
  (186, .iload 5, 2, [5], 0),
  (188, .iadd, 1, [], 0),
  (189, .istore 8, 2, [8], 0),
  (191, .aload_n 0, 1, [0], 0),
  (192, .getfield 17, 3, [10, 3, 2134], 0),
  (195, .iload 8, 2, [8], 0),
  (197, .aload_n 0, 1, [0], 0),
  (198, .getfield 17, 3, [10, 3, 2134], 0),
  (201, .iload 8, 2, [8], 0),
  (203, .laload, 1, [], 0),
  (204, .lload_n 3, 1, [3], 0),
  (205, .invokestatic 167, 3, [13, 0, 0, 4131, 4132, 1019, 4133], 0),
  (208, .lastore, 1, [], 0),
  (209, .iinc 6 1, 3, [6], 1),
  (212, .goto (-146), 3, [46], 0),
  (215, .return_, 1, [], 0)]
def cd_X_has : List Ent := [(0, .iload_n 0, 1, [0], 0),
  (1, .iload_n 1, 1, [1], 0),
  (2, .ishr, 1, [], 0),
  (3, .iconst 1, 1, [], 1),
  (4, .iand, 1, [], 0),
  (5, .ifCond .eq 7, 3, [8], 0),
  (8, .iconst 1, 1, [], 1),
  (9, .goto 4, 3, [9], 0),
  (12, .iconst 0, 1, [], 0),
  (13, .ireturn, 1, [], 0)]
def cd_Village_lets : List Ent := [(0, .iload_n 1, 1, [1], 0),
  (1, .tableswitch 81 1 3 #[27, 46, 63], 27, [39, 2, 16, 28], 1),
  (28, .iload_n 3, 1, [3], 0),
  (29, .iload_n 2, 1, [2], 0),
  (30, .iconst (-1), 1, [], (-1)),
  (31, .ixor, 1, [], 0),
  (32, .iand, 1, [], 0),
  (33, .iconst 1, 1, [], 1),
  (34, .iload 4, 2, [4], 0),
  (36, .ishl, 1, [], 0),
  (37, .iand, 1, [], 0),
  (38, .ifCond .ne 7, 3, [14], 0),
  (41, .iconst 1, 1, [], 1),
  (42, .goto 4, 3, [15], 0),
  (45, .iconst 0, 1, [], 0),
  (46, .ireturn, 1, [], 0),
  (47, .iload_n 3, 1, [3], 0),
  (48, .iload_n 2, 1, [2], 0),
  (49, .ior, 1, [], 0),
  (50, .iconst 1, 1, [], 1),
  (51, .iload 4, 2, [4], 0),
  (53, .ishl, 1, [], 0),
  (54, .iand, 1, [], 0),
  (55, .ifCond .ne 7, 3, [26], 0),
  (58, .iconst 1, 1, [], 1),
  (59, .goto 4, 3, [27], 0),
  (62, .iconst 0, 1, [], 0),
  (63, .ireturn, 1, [], 0),
  (64, .iload_n 3, 1, [3], 0),
  (65, .aload_n 0, 1, [0], 0),
  (66, .getfield 18, 3, [9, 3, 1139], 0),
  (69, .iload 4, 2, [4], 0),
  (71, .iaload, 1, [], 0),
  (72, .iand, 1, [], 0),
  (73, .ifCond .ne 7, 3, [37], 0),
  (76, .iconst 1, 1, [], 1),
  (77, .goto 4, 3, [38], 0),
  (80, .iconst 0, 1, [], 0),
  (81, .ireturn, 1, [], 0),
  (82, .iconst 1, 1, [], 1),
  (83, .ireturn, 1, [], 0)]
def cd_Ways_step : List Ent := [(0, .iload_n 1, 1, [1], 0),
  (1, .iconst 1, 1, [], 1),
  (2, .iadd, 1, [], 0),
  (3, .aload_n 0, 1, [0], 0),
  (4, .getfield 46, 3, [10, 0, 2128], 0),
  (7, .getfield 64, 3, [6, 1, 2087], 0),
  (10, .iconst 1, 1, [], 1),
  (11, .isub, 1, [], 0),
  (12, .if_icmp .ge 7, 3, [11], 0),
  (15, .iconst 1, 1, [], 1),
  (16, .goto 4, 3, [12], 0),
  (19, .iconst 0, 1, [], 0),
  (20, .istore 4, 2, [4], 0),
  (22, .aload_n 0, 1, [0], 0),
  (23, .getfield 31, 3, [10, 11, 2146], 0),
  (26, .iload_n 1, 1, [1], 0),
  (27, .iconst 1, 1, [], 1),
  (28, .iadd, 1, [], 0),
  (29, .iload_n 2, 1, [2], 0),
  (30, .iastore, 1, [], 0),
  (31, .aload_n 0, 1, [0], 0),
  (32, .getfield 34, 3, [10, 12, 2147], 0),
  (35, .iload_n 1, 1, [1], 0),
  (36, .iconst 1, 1, [], 1),
  (37, .iadd, 1, [], 0),
  (38, .aload_n 0, 1, [0], 0),
  (39, .getfield 34, 3, [10, 12, 2147], 0),
  (42, .iload_n 1, 1, [1], 0),
  (43, .iaload, 1, [], 0),
  (44, .iconst 1, 1, [], 1),
  (45, .iload_n 2, 1, [2], 0),
  (46, .ishl, 1, [], 0),
  (47, .ior, 1, [], 0),
  (48, .iastore, 1, [], 0),
  (49, .aload_n 0, 1, [0], 0),
  (50, .getfield 37, 3, [10, 13, 2148], 0),
  (53, .iload_n 1, 1, [1], 0),
  (54, .iconst 1, 1, [], 1),
  (55, .iadd, 1, [], 0),
  (56, .aload_n 0, 1, [0], 0),
  (57, .getfield 37, 3, [10, 13, 2148], 0),
  (60, .iload_n 1, 1, [1], 0),
  (61, .iaload, 1, [], 0),
  (62, .aload_n 0, 1, [0], 0),
  (63, .getfield 46, 3, [10, 0, 2128], 0),
  (66, .getfield 147, 3, [6, 5, 2099], 0),
  (69, .iload_n 3, 1, [3], 0),
  (70, .iaload, 1, [], 0),
  (71, .iadd, 1, [], 0),
  (72, .iastore, 1, [], 0),
  (73, .aload_n 0, 1, [0], 0),
  (74, .getfield 40, 3, [10, 14, 2149], 0),
  (77, .iload_n 1, 1, [1], 0),
  (78, .iconst 1, 1, [], 1),
  (79, .iadd, 1, [], 0),
  (80, .aload_n 0, 1, [0], 0),
  (81, .getfield 40, 3, [10, 14, 2149], 0),
  (84, .iload_n 1, 1, [1], 0),
  (85, .iaload, 1, [], 0),
  (86, .aload_n 0, 1, [0], 0),
  (87, .getfield 46, 3, [10, 0, 2128], 0),
  (90, .getfield 67, 3, [6, 4, 2096], 0),
  (93, .iload_n 3, 1, [3], 0),
  (94, .iaload, 1, [], 0),
  (95, .iadd, 1, [], 0),
  (96, .iload 4, 2, [4], 0),
  (98, .ifCond .eq 23, 3, [77], 0),
  (101, .iload_n 2, 1, [2], 0),
  (102, .aload_n 0, 1, [0], 0),
  (103, .getfield 11, 3, [10, 2, 2132], 0),
  (106, .if_icmp .eq 15, 3, [77], 0),
  (109, .aload_n 0, 1, [0], 0),
  (110, .getfield 46, 3, [10, 0, 2128], 0),
  (113, .getfield 161, 3, [6, 3, 2093], 0),
  (116, .iload_n 2, 1, [2], 0),
  (117, .iaload, 1, [], 0),
  (118, .goto 4, 3, [78], 0),
  (121, .iconst 0, 1, [], 0),
  (122, .iadd, 1, [], 0),
  (123, .iastore, 1, [], 0),
  (124, .aload_n 0, 1, [0], 0),
  (125, .getfield 43, 3, [10, 15, 2150], 0),
  (128, .iload_n 1, 1, [1], 0),
  (129, .iconst 1, 1, [], 1),
  (130, .iadd, 1, [], 0),
  (131, .aload_n 0, 1, [0], 0),
  (132, .getfield 43, 3, [10, 15, 2150], 0),
  (135, .iload_n 1, 1, [1], 0),
  (136, .iaload, 1, [], 0),
  (137, .iload 4, 2, [4], 0),
  (139, .ifCond .eq 15, 3, [97], 0),
  (142, .iload_n 2, 1, [2], 0),
  (143, .aload_n 0, 1, [0], 0),
  (144, .getfield 11, 3, [10, 2, 2132], 0),
  (147, .if_icmp .ne 7, 3, [97], 0),
  (150, .iconst 1, 1, [], 1),
  (151, .goto 4, 3, [98], 0),
  (154, .iconst 0, 1, [], 0),
  (155, .iadd, 1, [], 0),
  (156, .iastore, 1, [], 0),
  (157, .aload_n 0, 1, [0], 0),
  (158, .iload_n 1, 1, [1], 0),
  (159, .iconst 1, 1, [], 1),
  (160, .iadd, 1, [], 0),
  (161, .invokevirtual 114, 3, [0, 64, 1, 10, 4123, 4125, 19, 1013], 0),
  (164, .return_, 1, [], 0)]
def cd_Meeting_choose : List Ent := [(0, .aload_n 0, 1, [0], 0),
  (1, .getfield 15, 3, [3, 3, 2193], 0),
  (4, .iconst 0, 1, [], 0),
  (5, .invokestatic 49, 3, [1, 276, 2, 4149, 1130, 1008], 0),
  (8, .iconst 0, 1, [], 0),
  (9, .istore_n 2, 1, [2], 0),
  (10, .iload_n 2, 1, [2], 0),
  (11, .aload_n 0, 1, [0], 0),
  (12, .getfield 38, 3, [3, 1, 2191], 0),
  (15, .getfield 55, 3, [9, 8, 1150], 0),
  (18, .if_icmp .ge 87, 3, [60], 0),
  (21, .iconst 0, 1, [], 0),
  (22, .istore_n 3, 1, [3], 0),
  (23, .iload_n 3, 1, [3], 0),
  (24, .aload_n 0, 1, [0], 0),
  (25, .getfield 38, 3, [3, 1, 2191], 0),
  (28, .getfield 61, 3, [9, 11, 1161], 0),
  (31, .if_icmp .ge 68, 3, [58], 0),
  (34, .aload_n 0, 1, [0], 0),
  (35, .aload_n 0, 1, [0], 0),
  (36, .getfield 38, 3, [3, 1, 2191], 0),
  (39, .getfield 64, 3, [9, 10, 1158], 0),
  (42, .iload_n 2, 1, [2], 0),
  (43, .iaload, 1, [], 0),
  (44, .bipush 8, 2, [], 8),
  (46, .imul, 1, [], 0),
  (47, .iload_n 3, 1, [3], 0),
  (48, .iadd, 1, [], 0),
  (49, .iload_n 1, 1, [1], 0),
  (50, .invokevirtual 67, 3, [0, 70, 2, 3, 4150, 4152, 23, 1012], 0),
  (53, .lstore 4, 2, [4], 0),
  (55, .aload_n 0, 1, [0], 0),
  (56, .getfield 11, 3, [3, 2, 2192], 0),
  (59, .iload_n 2, 1, [2], 0),
  (60, .bipush 8, 2, [], 8),
  (62, .imul, 1, [], 0),
  (63, .iload_n 3, 1, [3], 0),
  (64, .iadd, 1, [], 0),
  (65, .lload 4, 2, [4], 0),
  (67, .lastore, 1, [], 0),
  (68, .aload_n 0, 1, [0], 0),
  (69, .getfield 15, 3, [3, 3, 2193], 0),
  (72, .iload_n 3, 1, [3], 0),
  (73, .dup2, 1, [], 0),
  (74, .iaload, 1, [], 0),
  (75, .lload 4, 2, [4], 0),
  (77, .ldc2_w 71, 3, [4154], 9223372036854775807),
  (80, .lcmp, 1, [], 0),
  (81, .ifCond .ne 7, 3, [51], 0),
  (84, .iconst 0, 1, [], 0),
  (85, .goto 6, 3, [54], 0),
  (88, .iconst 1, 1, [], 1),
  (89, .iload_n 2, 1, [2], 0),
  (90, .ishl, 1, [], 0),
  (91, .ior, 1, [], 0),
  (92, .iastore, 1, [], 0),
  (93, .iinc 3 1, 3, [3], 1),
  (96, .goto (-73), 3, [13], 0),
  (99, .iinc 2 1, 3, [2], 1),
  (102, .goto (-92), 3, [6], 0),
  (105, .return_, 1, [], 0)]
def cd_Meeting_takenAsking : List Ent := [(0, .ldc2_w 71, 3, [4154], 9223372036854775807),
  (3, .lstore_n 3, 1, [3], 0),
  (4, .iconst 0, 1, [], 0),
  (5, .istore 5, 2, [5], 0),
  (7, .iload 5, 2, [5], 0),
  (9, .iconst 3, 1, [], 3),
  (10, .if_icmp .ge 35, 3, [25], 0),
  (13, .lload_n 3, 1, [3], 0),
  (14, .aload_n 0, 1, [0], 0),
  (15, .getfield 28, 3, [3, 0, 2189], 0),
  (18, .getfield 73, 3, [10, 3, 2135], 0),
  (21, .iload_n 1, 1, [1], 0),
  (22, .iconst 3, 1, [], 3),
  (23, .imul, 1, [], 0),
  (24, .iload 5, 2, [5], 0),
  (26, .iadd, 1, [], 0),
  (27, .laload, 1, [], 0),
  (28, .iload_n 2, 1, [2], 0),
  (29, .iload 5, 2, [5], 0),
  (31, .imul, 1, [], 0),
  (32, .invokestatic 76, 3, [1, 71, 2, 4155, 4156, 1013], 0),
  (35, .invokestatic 80, 3, [13, 0, 0, 4158, 4132, 1019, 4133], 0),
  (38, .lstore_n 3, 1, [3], 0),
  (39, .iinc 5 1, 3, [5], 1),
  (42, .goto (-35), 3, [4], 0),
  (45, .lload_n 3, 1, [3], 0),
  (46, .lreturn, 1, [], 0)]
def cd_Ways_asking : List Ent := [(0, .lload_n 0, 1, [0], 0),
  (1, .ldc2_w 58, 3, [4109], 9223372036854775807),
  (4, .lcmp, 1, [], 0),
  (5, .ifCond .ne 9, 3, [6], 0),
  (8, .ldc2_w 58, 3, [4109], 9223372036854775807),
  (11, .goto 10, 3, [12], 0),
  (14, .lload_n 0, 1, [0], 0),
  (15, .iload_n 2, 1, [2], 0),
  (16, .i2l, 1, [], 0),
  (17, .bipush 24, 2, [], 24),
  (19, .lshl, 1, [], 0),
  (20, .ladd, 1, [], 0),
  (21, .lreturn, 1, [], 0)]
def cd_Meeting_solve : List Ent := [(0, .aload_n 0, 1, [0], 0),
  (1, .lconst 0, 1, [], 0),
  (2, .putfield 99, 3, [3, 7, 2197], 0),
  (5, .iconst 0, 1, [], 0),
  (6, .istore_n 1, 1, [1], 0),
  (7, .iload_n 1, 1, [1], 0),
  (8, .aload_n 0, 1, [0], 0),
  (9, .getfield 38, 3, [3, 1, 2191], 0),
  (12, .getfield 103, 3, [9, 5, 1144], 0),
  (15, .if_icmp .ge 23, 3, [20], 0),
  (18, .aload_n 0, 1, [0], 0),
  (19, .dup, 1, [], 0),
  (20, .getfield 99, 3, [3, 7, 2197], 0),
  (23, .aload_n 0, 1, [0], 0),
  (24, .iload_n 1, 1, [1], 0),
  (25, .invokevirtual 106, 3, [0, 73, 1, 3, 4163, 4165, 25, 1012], 0),
  (28, .ladd, 1, [], 0),
  (29, .putfield 99, 3, [3, 7, 2197], 0),
  (32, .iinc 1 1, 3, [1], 1),
  (35, .goto (-28), 3, [5], 0),
  (38, .return_, 1, [], 0)]
def cd_Meeting_bestOfSort : List Ent := [(0, .aload_n 0, 1, [0], 0),
  (1, .getfield 38, 3, [3, 1, 2191], 0),
  (4, .iload_n 1, 1, [1], 0),
  (5, .invokevirtual 110, 3, [0, 74, 1, 9, 4167, 4168, 4169, 1007], 0),
  (8, .istore_n 2, 1, [2], 0),
  (9, .iload_n 2, 1, [2], 0),
  (10, .ifCond .ne 5, 3, [9], 0),
  (13, .lconst 0, 1, [], 0),
  (14, .lreturn, 1, [], 0),
  (15, .aload_n 0, 1, [0], 0),
  (16, .getfield 22, 3, [3, 5, 2195], 0),
  (19, .ldc2_w 113, 3, [4172], (-1)),
  (22, .invokestatic 115, 3, [1, 277, 2, 4173, 4174, 1008], 0),
  (25, .aload_n 0, 1, [0], 0),
  (26, .getfield 22, 3, [3, 5, 2195], 0),
  (29, .iconst 0, 1, [], 0),
  (30, .lconst 0, 1, [], 0),
  (31, .lastore, 1, [], 0),
  (32, .iconst 0, 1, [], 0),
  (33, .istore_n 3, 1, [3], 0),
  (34, .iload_n 3, 1, [3], 0),
  (35, .aload_n 0, 1, [0], 0),
  (36, .getfield 38, 3, [3, 1, 2191], 0),
  (39, .getfield 55, 3, [9, 8, 1150], 0),
  (42, .if_icmp .ge 28, 3, [38], 0),
  (45, .aload_n 0, 1, [0], 0),
  (46, .getfield 38, 3, [3, 1, 2191], 0),
  (49, .iload_n 3, 1, [3], 0),
  (50, .iconst 0, 1, [], 0),
  (51, .invokevirtual 118, 3, [0, 61, 2, 9, 4176, 4105, 4106, 1007], 0),
  (54, .iload_n 1, 1, [1], 0),
  (55, .if_icmp .ne 9, 3, [36], 0),
  (58, .aload_n 0, 1, [0], 0),
  (59, .iload_n 3, 1, [3], 0),
  (60, .iload_n 2, 1, [2], 0),
  (61, .invokevirtual 121, 3, [0, 75, 2, 3, 4177, 4179, 26, 1012], 0),
  (64, .iinc 3 1, 3, [3], 1),
  (67, .goto (-33), 3, [20], 0),
  (70, .lconst 0, 1, [], 0),
  (71, .lstore_n 3, 1, [3], 0),
  (72, .iload_n 2, 1, [2], 0),
  (73, .istore 5, 2, [5], 0),
  (75, .iload 5, 2, [5], 0),
  (77, .ifCond .le 26, 3, [58], 0),
  (80, .lload_n 3, 1, [3], 0),
  (81, .aload_n 0, 1, [0], 0),
  (82, .getfield 22, 3, [3, 5, 2195], 0),
  (85, .iload 5, 2, [5], 0),
  (87, .laload, 1, [], 0),
  (88, .invokestatic 125, 3, [12, 0, 0, 4198, 4199, 1019, 4200], 0),
  (91, .lstore_n 3, 1, [3], 0),
  (92, .iload 5, 2, [5], 0),
  (94, .iconst 1, 1, [], 1),
  (95, .isub, 1, [], 0),
  (96, .iload_n 2, 1, [2], 0),
  (97, .iand, 1, [], 0),
  (98, .istore 5, 2, [5], 0),
  (100, .goto (-25), 3, [42], 0),
  (103, .lload_n 3, 1, [3], 0),
  (104, .lreturn, 1, [], 0)]
def cd_Village_wantsOfSort : List Ent := [(0, .iconst 0, 1, [], 0),
  (1, .istore_n 2, 1, [2], 0),
  (2, .iconst 0, 1, [], 0),
  (3, .istore_n 3, 1, [3], 0),
  (4, .iload_n 3, 1, [3], 0),
  (5, .aload_n 0, 1, [0], 0),
  (6, .getfield 71, 3, [9, 11, 1160], 0),
  (9, .if_icmp .ge 29, 3, [24], 0),
  (12, .iload_n 2, 1, [2], 0),
  (13, .aload_n 0, 1, [0], 0),
  (14, .iload_n 3, 1, [3], 0),
  (15, .iconst 1, 1, [], 1),
  (16, .invokevirtual 82, 3, [0, 63, 2, 9, 4171, 4115, 4116, 1007], 0),
  (19, .iload_n 1, 1, [1], 0),
  (20, .if_icmp .ne 9, 3, [19], 0),
  (23, .iconst 1, 1, [], 1),
  (24, .iload_n 3, 1, [3], 0),
  (25, .ishl, 1, [], 0),
  (26, .goto 4, 3, [20], 0),
  (29, .iconst 0, 1, [], 0),
  (30, .ior, 1, [], 0),
  (31, .istore_n 2, 1, [2], 0),
  (32, .iinc 3 1, 3, [3], 1),
  (35, .goto (-31), 3, [4], 0),
  (38, .iload_n 2, 1, [2], 0),
  (39, .ireturn, 1, [], 0)]
def cd_Meeting_meetBy : List Ent := [(0, .aload_n 0, 1, [0], 0),
  (1, .iload_n 1, 1, [1], 0),
  (2, .invokevirtual 127, 3, [0, 76, 1, 3, 4181, 4183, 27, 1012], 0),
  (5, .istore_n 3, 1, [3], 0),
  (6, .iload_n 3, 1, [3], 0),
  (7, .ifCond .ne 4, 3, [7], 0),
  (10, .return_, 1, [], 0),
  (11, .iload_n 2, 1, [2], 0),
  (12, .istore 4, 2, [4], 0),
  (14, .iload 4, 2, [4], 0),
  (16, .ifCond .le 97, 3, [61], 0),
  (19, .iconst 0, 1, [], 0),
  (20, .istore 5, 2, [5], 0),
  (22, .iload 5, 2, [5], 0),
  (24, .aload_n 0, 1, [0], 0),
  (25, .getfield 38, 3, [3, 1, 2191], 0),
  (28, .getfield 61, 3, [9, 11, 1161], 0),
  (31, .if_icmp .ge 71, 3, [54], 0),
  (34, .iload 4, 2, [4], 0),
  (36, .iload_n 3, 1, [3], 0),
  (37, .iand, 1, [], 0),
  (38, .iload 5, 2, [5], 0),
  (40, .invokestatic 130, 3, [4, 66, 2, 0, 4135, 1001], 0),
  (43, .ifCond .eq 53, 3, [52], 0),
  (46, .aload_n 0, 1, [0], 0),
  (47, .getfield 22, 3, [3, 5, 2195], 0),
  (50, .iload 4, 2, [4], 0),
  (52, .iconst 1, 1, [], 1),
  (53, .iload 5, 2, [5], 0),
  (55, .ishl, 1, [], 0),
  (56, .ixor, 1, [], 0),
  (57, .laload, 1, [], 0),
  (58, .lstore 6, 2, [6], 0),
  (60, .lload 6, 2, [6], 0),
  (62, .ldc2_w 113, 3, [4172], (-1)),
  (65, .lcmp, 1, [], 0),
  (66, .ifCond .eq 30, 3, [52], 0),
  (69, .aload_n 0, 1, [0], 0),
  (70, .getfield 22, 3, [3, 5, 2195], 0),
  (73, .iload 4, 2, [4], 0),
  (75, .aload_n 0, 1, [0], 0),
  (76, .getfield 22, 3, [3, 5, 2195], 0),
  (79, .iload 4, 2, [4], 0),
  (81, .laload, 1, [], 0),
  (82, .lload 6, 2, [6], 0),
  (84, .aload_n 0, 1, [0], 0),
  (85, .getfield 25, 3, [3, 6, 2196], 0),
  (88, .iload 5, 2, [5], 0),
  (90, .laload, 1, [], 0),
  (91, .ladd, 1, [], 0),
  (92, .invokestatic 125, 3, [12, 0, 0, 4198, 4199, 1019, 4200], 0),
  (95, .lastore, 1, [], 0),
  (96, .iinc 5 1, 3, [5], 1),
  (99, .goto (-77), 3, [13], 0),
  (102, .iload 4, 2, [4], 0),
  (104, .iconst 1, 1, [], 1),
  (105, .isub, 1, [], 0),
  (106, .iload_n 2, 1, [2], 0),
  (107, .iand, 1, [], 0),
  (108, .istore 4, 2, [4], 0),
  (110, .goto (-96), 3, [9], 0),
  (113, .return_, 1, [], 0)]
def cd_Meeting_appraise : List Ent := [(0, .iconst 0, 1, [], 0),
  (1, .istore_n 2, 1, [2], 0),
  (2, .iconst 0, 1, [], 0),
  (3, .istore_n 3, 1, [3], 0),
  (4, .iload_n 3, 1, [3], 0),
  (5, .aload_n 0, 1, [0], 0),
  (6, .getfield 38, 3, [3, 1, 2191], 0),
  (9, .getfield 61, 3, [9, 11, 1161], 0),
  (12, .if_icmp .ge 87, 3, [59], 0),
  (15, .aload_n 0, 1, [0], 0),
  (16, .iload_n 1, 1, [1], 0),
  (17, .iload_n 3, 1, [3], 0),
  (18, .invokevirtual 134, 3, [0, 77, 2, 3, 4185, 4186, 4187, 1012], 0),
  (21, .lstore 4, 2, [4], 0),
  (23, .lload 4, 2, [4], 0),
  (25, .ldc2_w 71, 3, [4154], 9223372036854775807),
  (28, .lcmp, 1, [], 0),
  (29, .ifCond .ne 7, 3, [20], 0),
  (32, .iconst (-1), 1, [], (-1)),
  (33, .goto 18, 3, [28], 0),
  (36, .aload_n 0, 1, [0], 0),
  (37, .getfield 38, 3, [3, 1, 2191], 0),
  (40, .iload_n 3, 1, [3], 0),
  (41, .iconst 2, 1, [], 2),
  (42, .invokevirtual 137, 3, [0, 63, 2, 9, 4189, 4115, 4116, 1007], 0),
  (45, .lload 4, 2, [4], 0),
  (47, .invokestatic 140, 3, [1, 78, 1, 4190, 4191, 1013], 0),
  (50, .isub, 1, [], 0),
  (51, .istore 6, 2, [6], 0),
  (53, .iload 6, 2, [6], 0),
  (55, .ifCond .lt 38, 3, [57], 0),
  (58, .iload_n 2, 1, [2], 0),
  (59, .iconst 1, 1, [], 1),
  (60, .iload_n 3, 1, [3], 0),
  (61, .ishl, 1, [], 0),
  (62, .ior, 1, [], 0),
  (63, .istore_n 2, 1, [2], 0),
  (64, .aload_n 0, 1, [0], 0),
  (65, .getfield 25, 3, [3, 6, 2196], 0),
  (68, .iload_n 3, 1, [3], 0),
  (69, .iload 6, 2, [6], 0),
  (71, .i2l, 1, [], 0),
  (72, .ldc2_w 144, 3, [4193], 16),
  (75, .lmul, 1, [], 0),
  (76, .lconst 1, 1, [], 1),
  (77, .ladd, 1, [], 0),
  (78, .bipush 40, 2, [], 40),
  (80, .lshl, 1, [], 0),
  (81, .bipush 16, 2, [], 16),
  (83, .iload_n 1, 1, [1], 0),
  (84, .isub, 1, [], 0),
  (85, .i2l, 1, [], 0),
  (86, .iload_n 3, 1, [3], 0),
  (87, .invokestatic 146, 3, [1, 79, 1, 4194, 4195, 1012], 0),
  (90, .lshl, 1, [], 0),
  (91, .ladd, 1, [], 0),
  (92, .lastore, 1, [], 0),
  (93, .iinc 3 1, 3, [3], 1),
  (96, .goto (-92), 3, [4], 0),
  (99, .iload_n 2, 1, [2], 0),
  (100, .ireturn, 1, [], 0)]
def cd_Meeting_taken : List Ent := [(0, .aload_n 0, 1, [0], 0),
  (1, .getfield 11, 3, [3, 2, 2192], 0),
  (4, .iload_n 1, 1, [1], 0),
  (5, .bipush 8, 2, [], 8),
  (7, .imul, 1, [], 0),
  (8, .iload_n 2, 1, [2], 0),
  (9, .iadd, 1, [], 0),
  (10, .laload, 1, [], 0),
  (11, .lreturn, 1, [], 0)]
def cd_Ways_cost : List Ent := [(0, .lload_n 0, 1, [0], 0),
  (1, .bipush 24, 2, [], 24),
  (3, .lushr, 1, [], 0),
  (4, .l2i, 1, [], 0),
  (5, .ireturn, 1, [], 0)]
def cd_Meeting_digitOf : List Ent := [(0, .iconst 5, 1, [], 5),
  (1, .bipush 7, 2, [], 7),
  (3, .iload_n 0, 1, [0], 0),
  (4, .isub, 1, [], 0),
  (5, .imul, 1, [], 0),
  (6, .ireturn, 1, [], 0)]
def cd_Ways_path : List Ent := [(0, .lload_n 0, 1, [0], 0),
  (1, .l2i, 1, [], 0),
  (2, .ldc 57, 2, [4206], 262143),
  (4, .iand, 1, [], 0),
  (5, .ireturn, 1, [], 0)]
def cd_Told_keepWay : List Ent := [(0, .aload_n 0, 1, [0], 0),
  (1, .iload_n 2, 1, [2], 0),
  (2, .putfield 28, 3, [8, 1, 3061], 0),
  (5, .iconst 0, 1, [], 0),
  (6, .istore_n 3, 1, [3], 0),
  (7, .iload_n 3, 1, [3], 0),
  (8, .iload_n 2, 1, [2], 0),
  (9, .if_icmp .ge 27, 3, [21], 0),
  (12, .iload_n 3, 1, [3], 0),
  (13, .bipush 6, 2, [], 6),
  (15, .if_icmp .ge 21, 3, [21], 0),
  (18, .aload_n 0, 1, [0], 0),
  (19, .getfield 9, 3, [8, 0, 3059], 0),
  (22, .iload_n 3, 1, [3], 0),
  (23, .iload_n 1, 1, [1], 0),
  (24, .iload_n 3, 1, [3], 0),
  (25, .iload_n 2, 1, [2], 0),
  (26, .invokestatic 31, 3, [1, 82, 3, 4211, 4212, 1013], 0),
  (29, .iastore, 1, [], 0),
  (30, .iinc 3 1, 3, [3], 1),
  (33, .goto (-26), 3, [5], 0),
  (36, .return_, 1, [], 0)]
def cd_Ways_handOf : List Ent := [(0, .iload_n 0, 1, [0], 0),
  (1, .iconst 3, 1, [], 3),
  (2, .iload_n 2, 1, [2], 0),
  (3, .iconst 1, 1, [], 1),
  (4, .isub, 1, [], 0),
  (5, .iload_n 1, 1, [1], 0),
  (6, .isub, 1, [], 0),
  (7, .imul, 1, [], 0),
  (8, .ishr, 1, [], 0),
  (9, .bipush 7, 2, [], 7),
  (11, .iand, 1, [], 0),
  (12, .ireturn, 1, [], 0)]
def cd_Ways_hours : List Ent := [(0, .lload_n 0, 1, [0], 0),
  (1, .bipush 18, 2, [], 18),
  (3, .lushr, 1, [], 0),
  (4, .l2i, 1, [], 0),
  (5, .bipush 63, 2, [], 63),
  (7, .iand, 1, [], 0),
  (8, .ireturn, 1, [], 0)]
def cd_Ways_pains : List Ent := [(0, .lload_n 1, 1, [1], 0),
  (1, .invokestatic 60, 3, [1, 80, 1, 4222, 4204, 1013], 0),
  (4, .istore_n 3, 1, [3], 0),
  (5, .iconst 0, 1, [], 0),
  (6, .istore 4, 2, [4], 0),
  (8, .iconst 1, 1, [], 1),
  (9, .istore 5, 2, [5], 0),
  (11, .iload 5, 2, [5], 0),
  (13, .aload_n 0, 1, [0], 0),
  (14, .getfield 46, 3, [10, 0, 2128], 0),
  (17, .getfield 64, 3, [6, 1, 2087], 0),
  (20, .if_icmp .ge 54, 3, [38], 0),
  (23, .iload 4, 2, [4], 0),
  (25, .aload_n 0, 1, [0], 0),
  (26, .getfield 46, 3, [10, 0, 2128], 0),
  (29, .getfield 67, 3, [6, 4, 2096], 0),
  (32, .iload_n 3, 1, [3], 0),
  (33, .iload 5, 2, [5], 0),
  (35, .iconst 1, 1, [], 1),
  (36, .isub, 1, [], 0),
  (37, .aload_n 0, 1, [0], 0),
  (38, .getfield 46, 3, [10, 0, 2128], 0),
  (41, .getfield 64, 3, [6, 1, 2087], 0),
  (44, .invokestatic 70, 3, [1, 82, 3, 4223, 4212, 1013], 0),
  (47, .bipush 8, 2, [], 8),
  (49, .imul, 1, [], 0),
  (50, .iload_n 3, 1, [3], 0),
  (51, .iload 5, 2, [5], 0),
  (53, .aload_n 0, 1, [0], 0),
  (54, .getfield 46, 3, [10, 0, 2128], 0),
  (57, .getfield 64, 3, [6, 1, 2087], 0),
  (60, .invokestatic 70, 3, [1, 82, 3, 4223, 4212, 1013], 0),
  (63, .iadd, 1, [], 0),
  (64, .iaload, 1, [], 0),
  (65, .iadd, 1, [], 0),
  (66, .istore 4, 2, [4], 0),
  (68, .iinc 5 1, 3, [5], 1),
  (71, .goto (-60), 3, [7], 0),
  (74, .iload 4, 2, [4], 0),
  (76, .ireturn, 1, [], 0)]
def cd_X_hand : List Ent := [(0, .iload_n 1, 1, [1], 0),
  (1, .ifCond .lt 14, 3, [7], 0),
  (4, .iload_n 1, 1, [1], 0),
  (5, .aload_n 0, 1, [0], 0),
  (6, .getfield 99, 3, [11, 15, 3107], 0),
  (9, .getfield 202, 3, [8, 1, 3062], 0),
  (12, .if_icmp .lt 7, 3, [9], 0),
  (15, .iconst (-1), 1, [], (-1)),
  (16, .goto 12, 3, [14], 0),
  (19, .aload_n 0, 1, [0], 0),
  (20, .getfield 99, 3, [11, 15, 3107], 0),
  (23, .getfield 205, 3, [8, 0, 3060], 0),
  (26, .iload_n 1, 1, [1], 0),
  (27, .iaload, 1, [], 0),
  (28, .ireturn, 1, [], 0)]
def cd_X_most : List Ent := [(0, .aload_n 0, 1, [0], 0),
  (1, .invokevirtual 175, 3, [0, 55, 0, 11, 4079, 4081, 17, 1001], 0),
  (4, .invokevirtual 208, 3, [0, 87, 0, 3, 4232, 4233, 4234, 1012], 0),
  (7, .ireturn, 1, [], 0)]
def cd_Meeting_matched : List Ent := [(0, .aload_n 0, 1, [0], 0),
  (1, .invokevirtual 86, 3, [0, 88, 0, 3, 4236, 4238, 28, 1012], 0),
  (4, .iconst 0, 1, [], 0),
  (5, .istore_n 1, 1, [1], 0),
  (6, .iconst 1, 1, [], 1),
  (7, .istore_n 2, 1, [2], 0),
  (8, .iload_n 2, 1, [2], 0),
  (9, .iconst 1, 1, [], 1),
  (10, .aload_n 0, 1, [0], 0),
  (11, .getfield 38, 3, [3, 1, 2191], 0),
  (14, .getfield 61, 3, [9, 11, 1161], 0),
  (17, .ishl, 1, [], 0),
  (18, .if_icmp .ge 28, 3, [26], 0),
  (21, .iload_n 1, 1, [1], 0),
  (22, .iload_n 2, 1, [2], 0),
  (23, .invokestatic 89, 3, [1, 278, 1, 5000, 5001, 1025], 0),
  (26, .aload_n 0, 1, [0], 0),
  (27, .getfield 19, 3, [3, 4, 2194], 0),
  (30, .iload_n 2, 1, [2], 0),
  (31, .iaload, 1, [], 0),
  (32, .invokestatic 89, 3, [1, 278, 1, 5000, 5001, 1025], 0),
  (35, .isub, 1, [], 0),
  (36, .invokestatic 95, 3, [10, 0, 0, 5006, 4121, 1019, 4122], 0),
  (39, .istore_n 1, 1, [1], 0),
  (40, .iinc 2 1, 3, [2], 1),
  (43, .goto (-35), 3, [6], 0),
  (46, .aload_n 0, 1, [0], 0),
  (47, .getfield 38, 3, [3, 1, 2191], 0),
  (50, .getfield 61, 3, [9, 11, 1161], 0),
  (53, .iload_n 1, 1, [1], 0),
  (54, .isub, 1, [], 0),
  (55, .ireturn, 1, [], 0)]
def cd_Meeting_lookAround : List Ent := [(0, .aload_n 0, 1, [0], 0),
  (1, .getfield 19, 3, [3, 4, 2194], 0),
  (4, .iconst 0, 1, [], 0),
  (5, .iconst 0, 1, [], 0),
  (6, .iastore, 1, [], 0),
  (7, .iconst 0, 1, [], 0),
  (8, .istore_n 1, 1, [1], 0),
  (9, .iload_n 1, 1, [1], 0),
  (10, .aload_n 0, 1, [0], 0),
  (11, .getfield 38, 3, [3, 1, 2191], 0),
  (14, .getfield 61, 3, [9, 11, 1161], 0),
  (17, .if_icmp .ge 47, 3, [40], 0),
  (20, .iconst 0, 1, [], 0),
  (21, .istore_n 2, 1, [2], 0),
  (22, .iload_n 2, 1, [2], 0),
  (23, .iconst 1, 1, [], 1),
  (24, .iload_n 1, 1, [1], 0),
  (25, .ishl, 1, [], 0),
  (26, .if_icmp .ge 32, 3, [38], 0),
  (29, .aload_n 0, 1, [0], 0),
  (30, .getfield 19, 3, [3, 4, 2194], 0),
  (33, .iload_n 2, 1, [2], 0),
  (34, .iconst 1, 1, [], 1),
  (35, .iload_n 1, 1, [1], 0),
  (36, .ishl, 1, [], 0),
  (37, .ior, 1, [], 0),
  (38, .aload_n 0, 1, [0], 0),
  (39, .getfield 19, 3, [3, 4, 2194], 0),
  (42, .iload_n 2, 1, [2], 0),
  (43, .iaload, 1, [], 0),
  (44, .aload_n 0, 1, [0], 0),
  (45, .getfield 15, 3, [3, 3, 2193], 0),
  (48, .iload_n 1, 1, [1], 0),
  (49, .iaload, 1, [], 0),
  (50, .ior, 1, [], 0),
  (51, .iastore, 1, [], 0),
  (52, .iinc 2 1, 3, [2], 1),
  (55, .goto (-33), 3, [14], 0),
  (58, .iinc 1 1, 3, [1], 1),
  (61, .goto (-52), 3, [7], 0),
  (64, .return_, 1, [], 0)]
def cd_X_bars : List Ent := [(0, .aload_n 0, 1, [0], 0),
  (1, .invokevirtual 175, 3, [0, 55, 0, 11, 4079, 4081, 17, 1001], 0),
  (4, .invokevirtual 211, 3, [0, 90, 0, 3, 5011, 5012, 5013, 1012], 0),
  (7, .ireturn, 1, [], 0)]
def cd_Meeting_barring : List Ent := [(0, .aload_n 0, 1, [0], 0),
  (1, .invokevirtual 86, 3, [0, 88, 0, 3, 4236, 4238, 28, 1012], 0),
  (4, .iconst 0, 1, [], 0),
  (5, .istore_n 1, 1, [1], 0),
  (6, .iconst 1, 1, [], 1),
  (7, .istore_n 2, 1, [2], 0),
  (8, .iload_n 2, 1, [2], 0),
  (9, .iconst 1, 1, [], 1),
  (10, .aload_n 0, 1, [0], 0),
  (11, .getfield 38, 3, [3, 1, 2191], 0),
  (14, .getfield 61, 3, [9, 11, 1161], 0),
  (17, .ishl, 1, [], 0),
  (18, .if_icmp .ge 52, 3, [38], 0),
  (21, .iload_n 2, 1, [2], 0),
  (22, .invokestatic 89, 3, [1, 278, 1, 5000, 5001, 1025], 0),
  (25, .aload_n 0, 1, [0], 0),
  (26, .getfield 19, 3, [3, 4, 2194], 0),
  (29, .iload_n 2, 1, [2], 0),
  (30, .iaload, 1, [], 0),
  (31, .invokestatic 89, 3, [1, 278, 1, 5000, 5001, 1025], 0),
  (34, .if_icmp .le 7, 3, [23], 0),
  (37, .iconst 1, 1, [], 1),
  (38, .goto 4, 3, [24], 0),
  (41, .iconst 0, 1, [], 0),
  (42, .istore_n 3, 1, [3], 0),
  (43, .iload_n 3, 1, [3], 0),
  (44, .ifCond .eq 20, 3, [36], 0),
  (47, .iload_n 1, 1, [1], 0),
  (48, .ifCond .eq 14, 3, [34], 0),
  (51, .iload_n 2, 1, [2], 0),
  (52, .invokestatic 89, 3, [1, 278, 1, 5000, 5001, 1025], 0),
  (55, .iload_n 1, 1, [1], 0),
  (56, .invokestatic 89, 3, [1, 278, 1, 5000, 5001, 1025], 0),
  (59, .if_icmp .ge 5, 3, [36], 0),
  (62, .iload_n 2, 1, [2], 0),
  (63, .istore_n 1, 1, [1], 0),
  (64, .iinc 2 1, 3, [2], 1),
  (67, .goto (-59), 3, [6], 0),
  (70, .iload_n 1, 1, [1], 0),
  (71, .ireturn, 1, [], 0)]
def cd_X_best : List Ent := [(0, .aload_n 0, 1, [0], 0),
  (1, .invokevirtual 175, 3, [0, 55, 0, 11, 4079, 4081, 17, 1001], 0),
  (4, .astore_n 2, 1, [2], 0),
  (5, .iload_n 1, 1, [1], 0),
  (6, .tableswitch 41 0 2 #[26, 31, 36], 26, [14, 5, 8, 11], 0),
  (32, .aload_n 2, 1, [2], 0),
  (33, .invokevirtual 214, 3, [0, 92, 0, 3, 5019, 5020, 5021, 1012], 0),
  (36, .ireturn, 1, [], 0),
  (37, .aload_n 2, 1, [2], 0),
  (38, .invokevirtual 217, 3, [0, 93, 0, 3, 5023, 5024, 5025, 1012], 0),
  (41, .ireturn, 1, [], 0),
  (42, .aload_n 2, 1, [2], 0),
  (43, .invokevirtual 220, 3, [0, 94, 0, 3, 5027, 5028, 5029, 1012], 0),
  (46, .ireturn, 1, [], 0),
  (47, .iconst (-1), 1, [], (-1)),
  (48, .ireturn, 1, [], 0)]
def cd_Meeting_sum : List Ent := [(0, .aload_n 0, 1, [0], 0),
  (1, .getfield 99, 3, [3, 7, 2197], 0),
  (4, .bipush 44, 2, [], 44),
  (6, .lshr, 1, [], 0),
  (7, .l2i, 1, [], 0),
  (8, .ireturn, 1, [], 0)]
def cd_Meeting_metCount : List Ent := [(0, .aload_n 0, 1, [0], 0),
  (1, .getfield 99, 3, [3, 7, 2197], 0),
  (4, .bipush 40, 2, [], 40),
  (6, .lshr, 1, [], 0),
  (7, .l2i, 1, [], 0),
  (8, .bipush 15, 2, [], 15),
  (10, .iand, 1, [], 0),
  (11, .ireturn, 1, [], 0)]
def cd_Meeting_painsMet : List Ent := [(0, .iconst 0, 1, [], 0),
  (1, .istore_n 1, 1, [1], 0),
  (2, .iconst 0, 1, [], 0),
  (3, .istore_n 2, 1, [2], 0),
  (4, .iload_n 2, 1, [2], 0),
  (5, .aload_n 0, 1, [0], 0),
  (6, .getfield 38, 3, [3, 1, 2191], 0),
  (9, .getfield 61, 3, [9, 11, 1161], 0),
  (12, .if_icmp .ge 40, 3, [30], 0),
  (15, .aload_n 0, 1, [0], 0),
  (16, .iload_n 2, 1, [2], 0),
  (17, .invokevirtual 149, 3, [0, 95, 1, 3, 5031, 5032, 5033, 1012], 0),
  (20, .istore_n 3, 1, [3], 0),
  (21, .iload_n 1, 1, [1], 0),
  (22, .iload_n 3, 1, [3], 0),
  (23, .iconst (-1), 1, [], (-1)),
  (24, .if_icmp .ne 7, 3, [19], 0),
  (27, .iconst 0, 1, [], 0),
  (28, .goto 16, 3, [26], 0),
  (31, .aload_n 0, 1, [0], 0),
  (32, .getfield 28, 3, [3, 0, 2189], 0),
  (35, .aload_n 0, 1, [0], 0),
  (36, .iload_n 3, 1, [3], 0),
  (37, .iload_n 2, 1, [2], 0),
  (38, .invokevirtual 134, 3, [0, 77, 2, 3, 4185, 4186, 4187, 1012], 0),
  (41, .invokevirtual 152, 3, [0, 84, 1, 10, 5035, 4219, 4220, 1013], 0),
  (44, .iadd, 1, [], 0),
  (45, .istore_n 1, 1, [1], 0),
  (46, .iinc 2 1, 3, [2], 1),
  (49, .goto (-45), 3, [4], 0),
  (52, .iload_n 1, 1, [1], 0),
  (53, .ireturn, 1, [], 0)]
def cd_Meeting_unitFor : List Ent := [(0, .aload_n 0, 1, [0], 0),
  (1, .getfield 99, 3, [3, 7, 2197], 0),
  (4, .iload_n 1, 1, [1], 0),
  (5, .invokestatic 146, 3, [1, 79, 1, 4194, 4195, 1012], 0),
  (8, .lshr, 1, [], 0),
  (9, .l2i, 1, [], 0),
  (10, .bipush 31, 2, [], 31),
  (12, .iand, 1, [], 0),
  (13, .istore_n 2, 1, [2], 0),
  (14, .iload_n 2, 1, [2], 0),
  (15, .ifCond .ne 7, 3, [13], 0),
  (18, .iconst (-1), 1, [], (-1)),
  (19, .goto 7, 3, [16], 0),
  (22, .bipush 16, 2, [], 16),
  (24, .iload_n 2, 1, [2], 0),
  (25, .isub, 1, [], 0),
  (26, .ireturn, 1, [], 0)]
def cd_X_bestOf : List Ent := [(0, .aload_n 0, 1, [0], 0),
  (1, .getfield 25, 3, [11, 4, 3096], 0),
  (4, .iload_n 1, 1, [1], 0),
  (5, .invokevirtual 146, 3, [0, 54, 1, 9, 4075, 4076, 4077, 1007], 0),
  (8, .ifCond .eq 14, 3, [10], 0),
  (11, .aload_n 0, 1, [0], 0),
  (12, .invokevirtual 175, 3, [0, 55, 0, 11, 4079, 4081, 17, 1001], 0),
  (15, .iload_n 1, 1, [1], 0),
  (16, .invokevirtual 223, 3, [0, 95, 1, 3, 5040, 5032, 5033, 1012], 0),
  (19, .goto 4, 3, [11], 0),
  (22, .iconst (-1), 1, [], (-1)),
  (23, .ireturn, 1, [], 0)]
def cd_X_plan : List Ent := [(0, .aload_n 0, 1, [0], 0),
  (1, .getfield 18, 3, [11, 3, 3095], 0),
  (4, .aload_n 0, 1, [0], 0),
  (5, .invokevirtual 111, 3, [0, 16, 0, 11, 3157, 3159, 1, 1001], 0),
  (8, .sipush 500, 3, [], 500),
  (11, .invokevirtual 115, 3, [0, 17, 2, 7, 3161, 3162, 3163, 1002], 0),
  (14, .aload_n 0, 1, [0], 0),
  (15, .getfield 39, 3, [11, 7, 3099], 0),
  (18, .aload_n 0, 1, [0], 0),
  (19, .getfield 18, 3, [11, 3, 3095], 0),
  (22, .aload_n 0, 1, [0], 0),
  (23, .getfield 25, 3, [11, 4, 3096], 0),
  (26, .invokevirtual 227, 3, [0, 98, 2, 4, 5045, 5046, 5047, 1009], 0),
  (29, .istore_n 1, 1, [1], 0),
  (30, .aload_n 0, 1, [0], 0),
  (31, .aload_n 0, 1, [0], 0),
  (32, .getfield 18, 3, [11, 3, 3095], 0),
  (35, .getfield 123, 3, [7, 8, 1101], 0),
  (38, .putfield 126, 3, [11, 2, 3094], 0),
  (41, .iload_n 1, 1, [1], 0),
  (42, .ifCond .lt 14, 3, [26], 0),
  (45, .aload_n 0, 1, [0], 0),
  (46, .getfield 35, 3, [11, 6, 3098], 0),
  (49, .aload_n 0, 1, [0], 0),
  (50, .getfield 39, 3, [11, 7, 3099], 0),
  (53, .invokevirtual 230, 3, [0, 101, 1, 4, 5065, 5066, 5067, 1009], 0),
  (56, .iload_n 1, 1, [1], 0),
  (57, .ireturn, 1, [], 0)]
def cd_Plan_read : List Ent := [(0, .aload_n 0, 1, [0], 0),
  (1, .iconst 0, 1, [], 0),
  (2, .putfield 21, 3, [4, 0, 1232], 0),
  (5, .iconst 0, 1, [], 0),
  (6, .istore_n 3, 1, [3], 0),
  (7, .iload_n 3, 1, [3], 0),
  (8, .bipush 50, 2, [], 50),
  (10, .if_icmp .gt 37, 3, [24], 0),
  (13, .aload_n 1, 1, [1], 0),
  (14, .getfield 29, 3, [7, 5, 1095], 0),
  (17, .ifCond .eq 30, 3, [24], 0),
  (20, .aload_n 0, 1, [0], 0),
  (21, .aload_n 1, 1, [1], 0),
  (22, .aload_n 2, 1, [2], 0),
  (23, .invokevirtual 34, 3, [0, 99, 2, 4, 5049, 5051, 29, 1009], 0),
  (26, .ifCond .eq 10, 3, [19], 0),
  (29, .aload_n 1, 1, [1], 0),
  (30, .invokevirtual 38, 3, [0, 45, 0, 7, 5063, 4037, 4038, 1002], 0),
  (33, .ifCond .ne 8, 3, [22], 0),
  (36, .aload_n 1, 1, [1], 0),
  (37, .invokevirtual 42, 3, [0, 46, 0, 7, 5064, 4041, 4042, 1002], 0),
  (40, .ireturn, 1, [], 0),
  (41, .iinc 3 1, 3, [3], 1),
  (44, .goto (-37), 3, [5], 0),
  (47, .aload_n 0, 1, [0], 0),
  (48, .getfield 21, 3, [4, 0, 1232], 0),
  (51, .ireturn, 1, [], 0)]
def cd_Plan_readAct : List Ent := [(0, .aload_n 1, 1, [1], 0),
  (1, .invokevirtual 46, 3, [0, 26, 0, 7, 5053, 3199, 3200, 1002], 0),
  (4, .istore_n 3, 1, [3], 0),
  (5, .iload_n 3, 1, [3], 0),
  (6, .bipush 14, 2, [], 14),
  (8, .if_icmp .lt 9, 3, [9], 0),
  (11, .iload_n 3, 1, [3], 0),
  (12, .bipush 16, 2, [], 16),
  (14, .if_icmp .le 9, 3, [13], 0),
  (17, .aload_n 1, 1, [1], 0),
  (18, .iconst 1, 1, [], 1),
  (19, .invokevirtual 49, 3, [0, 28, 1, 7, 5054, 3207, 3208, 1002], 0),
  (22, .ireturn, 1, [], 0),
  (23, .aload_n 0, 1, [0], 0),
  (24, .getfield 21, 3, [4, 0, 1232], 0),
  (27, .bipush 50, 2, [], 50),
  (29, .if_icmp .lt 9, 3, [21], 0),
  (32, .aload_n 1, 1, [1], 0),
  (33, .iconst 4, 1, [], 4),
  (34, .invokevirtual 49, 3, [0, 28, 1, 7, 5054, 3207, 3208, 1002], 0),
  (37, .ireturn, 1, [], 0),
  (38, .aload_n 1, 1, [1], 0),
  (39, .invokevirtual 53, 3, [0, 18, 0, 7, 5055, 3169, 3170, 1002], 0),
  (42, .iload_n 3, 1, [3], 0),
  (43, .bipush 16, 2, [], 16),
  (45, .if_icmp .ne 27, 3, [41], 0),
  (48, .aload_n 1, 1, [1], 0),
  (49, .iconst 1, 1, [], 1),
  (50, .bipush 47, 2, [], 47),
  (52, .invokevirtual 56, 3, [0, 34, 2, 7, 5056, 3233, 3234, 1002], 0),
  (55, .ifCond .ne 5, 3, [33], 0),
  (58, .iconst 0, 1, [], 0),
  (59, .ireturn, 1, [], 0),
  (60, .aload_n 0, 1, [0], 0),
  (61, .iconst 2, 1, [], 2),
  (62, .aload_n 1, 1, [1], 0),
  (63, .invokevirtual 60, 3, [0, 32, 0, 7, 5057, 3224, 3225, 1002], 0),
  (66, .iconst (-1), 1, [], (-1)),
  (67, .invokevirtual 63, 3, [0, 100, 3, 4, 5058, 5060, 30, 1009], 0),
  (70, .iconst 1, 1, [], 1),
  (71, .ireturn, 1, [], 0),
  (72, .aload_n 1, 1, [1], 0),
  (73, .iconst 0, 1, [], 0),
  (74, .aload_n 2, 1, [2], 0),
  (75, .getfield 67, 3, [9, 8, 1151], 0),
  (78, .iconst 1, 1, [], 1),
  (79, .isub, 1, [], 0),
  (80, .invokevirtual 56, 3, [0, 34, 2, 7, 5056, 3233, 3234, 1002], 0),
  (83, .ifCond .ne 5, 3, [51], 0),
  (86, .iconst 0, 1, [], 0),
  (87, .ireturn, 1, [], 0),
  (88, .aload_n 1, 1, [1], 0),
  (89, .invokevirtual 60, 3, [0, 32, 0, 7, 5057, 3224, 3225, 1002], 0),
  (92, .istore 4, 2, [4], 0),
  (94, .iconst (-1), 1, [], (-1)),
  (95, .istore 5, 2, [5], 0),
  (97, .iload_n 3, 1, [3], 0),
  (98, .bipush 14, 2, [], 14),
  (100, .if_icmp .ne 23, 3, [71], 0),
  (103, .aload_n 2, 1, [2], 0),
  (104, .aload_n 1, 1, [1], 0),
  (105, .iconst (-1), 1, [], (-1)),
  (106, .invokevirtual 72, 3, [0, 39, 2, 9, 5062, 4013, 4014, 1007], 0),
  (109, .istore 5, 2, [5], 0),
  (111, .iload 5, 2, [5], 0),
  (113, .iconst (-1), 1, [], (-1)),
  (114, .if_icmp .ne 5, 3, [69], 0),
  (117, .iconst 0, 1, [], 0),
  (118, .ireturn, 1, [], 0),
  (119, .aload_n 1, 1, [1], 0),
  (120, .invokevirtual 53, 3, [0, 18, 0, 7, 5055, 3169, 3170, 1002], 0),
  (123, .aload_n 0, 1, [0], 0),
  (124, .iload_n 3, 1, [3], 0),
  (125, .bipush 14, 2, [], 14),
  (127, .if_icmp .ne 7, 3, [77], 0),
  (130, .iconst 0, 1, [], 0),
  (131, .goto 4, 3, [78], 0),
  (134, .iconst 1, 1, [], 1),
  (135, .iload 4, 2, [4], 0),
  (137, .iload 5, 2, [5], 0),
  (139, .invokevirtual 63, 3, [0, 100, 3, 4, 5058, 5060, 30, 1009], 0),
  (142, .iconst 1, 1, [], 1),
  (143, .ireturn, 1, [], 0)]
def cd_Plan_add : List Ent := [(0, .aload_n 0, 1, [0], 0),
  (1, .getfield 21, 3, [4, 0, 1232], 0),
  (4, .bipush 50, 2, [], 50),
  (6, .if_icmp .ge 43, 3, [28], 0),
  (9, .aload_n 0, 1, [0], 0),
  (10, .getfield 9, 3, [4, 1, 1235], 0),
  (13, .aload_n 0, 1, [0], 0),
  (14, .getfield 21, 3, [4, 0, 1232], 0),
  (17, .iload_n 1, 1, [1], 0),
  (18, .iastore, 1, [], 0),
  (19, .aload_n 0, 1, [0], 0),
  (20, .getfield 15, 3, [4, 2, 1238], 0),
  (23, .aload_n 0, 1, [0], 0),
  (24, .getfield 21, 3, [4, 0, 1232], 0),
  (27, .iload_n 2, 1, [2], 0),
  (28, .iastore, 1, [], 0),
  (29, .aload_n 0, 1, [0], 0),
  (30, .getfield 18, 3, [4, 3, 2001], 0),
  (33, .aload_n 0, 1, [0], 0),
  (34, .getfield 21, 3, [4, 0, 1232], 0),
  (37, .iload_n 3, 1, [3], 0),
  (38, .iastore, 1, [], 0),
  (39, .aload_n 0, 1, [0], 0),
  (40, .dup, 1, [], 0),
  (41, .getfield 21, 3, [4, 0, 1232], 0),
  (44, .iconst 1, 1, [], 1),
  (45, .iadd, 1, [], 0),
  (46, .putfield 21, 3, [4, 0, 1232], 0),
  (49, .return_, 1, [], 0)]
def cd_Plan_copy : List Ent := [(0, .aload_n 0, 1, [0], 0),
  (1, .aload_n 1, 1, [1], 0),
  (2, .getfield 21, 3, [4, 0, 1232], 0),
  (5, .putfield 21, 3, [4, 0, 1232], 0),
  (8, .aload_n 1, 1, [1], 0),
  (9, .getfield 9, 3, [4, 1, 1235], 0),
  (12, .aload_n 0, 1, [0], 0),
  (13, .getfield 9, 3, [4, 1, 1235], 0),
  (16, .invokestatic 25, 3, [4, 48, 2, 0, 4049, 1001], 0),
  (19, .aload_n 1, 1, [1], 0),
  (20, .getfield 15, 3, [4, 2, 1238], 0),
  (23, .aload_n 0, 1, [0], 0),
  (24, .getfield 15, 3, [4, 2, 1238], 0),
  (27, .invokestatic 25, 3, [4, 48, 2, 0, 4049, 1001], 0),
  (30, .aload_n 1, 1, [1], 0),
  (31, .getfield 18, 3, [4, 3, 2001], 0),
  (34, .aload_n 0, 1, [0], 0),
  (35, .getfield 18, 3, [4, 3, 2001], 0),
  (38, .invokestatic 25, 3, [4, 48, 2, 0, 4049, 1001], 0),
  (41, .return_, 1, [], 0)]
def cd_X_drawn : List Ent := [(0, .iload_n 1, 1, [1], 0),
  (1, .iconst 1, 1, [], 1),
  (2, .if_icmp .lt 19, 3, [10], 0),
  (5, .iload_n 1, 1, [1], 0),
  (6, .bipush 50, 2, [], 50),
  (8, .if_icmp .gt 13, 3, [10], 0),
  (11, .aload_n 0, 1, [0], 0),
  (12, .getfield 25, 3, [11, 4, 3096], 0),
  (15, .getfield 233, 3, [9, 8, 1154], 0),
  (18, .ifCond .ne 5, 3, [12], 0),
  (21, .iconst (-1), 1, [], (-1)),
  (22, .ireturn, 1, [], 0),
  (23, .aload_n 0, 1, [0], 0),
  (24, .getfield 35, 3, [11, 6, 3098], 0),
  (27, .iload_n 1, 1, [1], 0),
  (28, .iload_n 2, 1, [2], 0),
  (29, .aload_n 0, 1, [0], 0),
  (30, .getfield 25, 3, [11, 4, 3096], 0),
  (33, .invokevirtual 236, 3, [0, 103, 3, 4, 5074, 5075, 5076, 1009], 0),
  (36, .iload_n 1, 1, [1], 0),
  (37, .ireturn, 1, [], 0)]
def cd_Plan_draw : List Ent := [(0, .aload_n 0, 1, [0], 0),
  (1, .iconst 0, 1, [], 0),
  (2, .putfield 21, 3, [4, 0, 1232], 0),
  (5, .aload_n 0, 1, [0], 0),
  (6, .iload_n 2, 1, [2], 0),
  (7, .putfield 76, 3, [4, 4, 2004], 0),
  (10, .iconst 0, 1, [], 0),
  (11, .istore 4, 2, [4], 0),
  (13, .iload 4, 2, [4], 0),
  (15, .iload_n 1, 1, [1], 0),
  (16, .if_icmp .ge 77, 3, [49], 0),
  (19, .aload_n 0, 1, [0], 0),
  (20, .iconst 4, 1, [], 4),
  (21, .invokevirtual 79, 3, [0, 104, 1, 4, 5078, 5080, 31, 1009], 0),
  (24, .istore 5, 2, [5], 0),
  (26, .aload_n 0, 1, [0], 0),
  (27, .aload_n 3, 1, [3], 0),
  (28, .getfield 67, 3, [9, 8, 1151], 0),
  (31, .invokevirtual 79, 3, [0, 104, 1, 4, 5078, 5080, 31, 1009], 0),
  (34, .istore 6, 2, [6], 0),
  (36, .aload_n 0, 1, [0], 0),
  (37, .aload_n 3, 1, [3], 0),
  (38, .getfield 83, 3, [9, 0, 1133], 0),
  (41, .invokevirtual 79, 3, [0, 104, 1, 4, 5078, 5080, 31, 1009], 0),
  (44, .istore 7, 2, [7], 0),
  (46, .iload 5, 2, [5], 0),
  (48, .ifCond .ne 14, 3, [33], 0),
  (51, .aload_n 0, 1, [0], 0),
  (52, .iconst 1, 1, [], 1),
  (53, .iload 6, 2, [6], 0),
  (55, .iconst (-1), 1, [], (-1)),
  (56, .invokevirtual 63, 3, [0, 100, 3, 4, 5058, 5060, 30, 1009], 0),
  (59, .goto 28, 3, [47], 0),
  (62, .iload 5, 2, [5], 0),
  (64, .iconst 1, 1, [], 1),
  (65, .if_icmp .ne 13, 3, [42], 0),
  (68, .aload_n 0, 1, [0], 0),
  (69, .iconst 2, 1, [], 2),
  (70, .iconst 1, 1, [], 1),
  (71, .iconst (-1), 1, [], (-1)),
  (72, .invokevirtual 63, 3, [0, 100, 3, 4, 5058, 5060, 30, 1009], 0),
  (75, .goto 12, 3, [47], 0),
  (78, .aload_n 0, 1, [0], 0),
  (79, .iconst 0, 1, [], 0),
  (80, .iload 6, 2, [6], 0),
  (82, .iload 7, 2, [7], 0),
  (84, .invokevirtual 63, 3, [0, 100, 3, 4, 5058, 5060, 30, 1009], 0),
  (87, .iinc 4 1, 3, [4], 1),
  (90, .goto (-77), 3, [8], 0),
  (93, .return_, 1, [], 0)]
def cd_Plan_next : List Ent := [(0, .aload_n 0, 1, [0], 0),
  (1, .aload_n 0, 1, [0], 0),
  (2, .getfield 76, 3, [4, 4, 2004], 0),
  (5, .ldc 86, 2, [5082], 1103515245),
  (7, .imul, 1, [], 0),
  (8, .sipush 12345, 3, [], 12345),
  (11, .iadd, 1, [], 0),
  (12, .putfield 76, 3, [4, 4, 2004], 0),
  (15, .iload_n 1, 1, [1], 0),
  (16, .ifCond .le 15, 3, [17], 0),
  (19, .aload_n 0, 1, [0], 0),
  (20, .getfield 76, 3, [4, 4, 2004], 0),
  (23, .bipush 8, 2, [], 8),
  (25, .iushr, 1, [], 0),
  (26, .iload_n 1, 1, [1], 0),
  (27, .irem, 1, [], 0),
  (28, .goto 4, 3, [18], 0),
  (31, .iconst 0, 1, [], 0),
  (32, .ireturn, 1, [], 0)]
def cd_X_judge : List Ent := [(0, .aload_n 0, 1, [0], 0),
  (1, .getfield 85, 3, [11, 13, 3105], 0),
  (4, .aload_n 0, 1, [0], 0),
  (5, .getfield 25, 3, [11, 4, 3096], 0),
  (8, .aload_n 0, 1, [0], 0),
  (9, .getfield 35, 3, [11, 6, 3098], 0),
  (12, .invokevirtual 247, 3, [0, 106, 2, 1, 5087, 5088, 5089, 1015], 0),
  (15, .ireturn, 1, [], 0)]
def cd_Day_go : List Ent := [(0, .aload_n 0, 1, [0], 0),
  (1, .aload_n 1, 1, [1], 0),
  (2, .invokevirtual 24, 3, [0, 107, 1, 1, 5091, 5093, 32, 1015], 0),
  (5, .iconst 0, 1, [], 0),
  (6, .istore_n 3, 1, [3], 0),
  (7, .iload_n 3, 1, [3], 0),
  (8, .aload_n 2, 1, [2], 0),
  (9, .getfield 28, 3, [4, 0, 1233], 0),
  (12, .if_icmp .ge 50, 3, [36], 0),
  (15, .aload_n 0, 1, [0], 0),
  (16, .aload_n 0, 1, [0], 0),
  (17, .aload_n 1, 1, [1], 0),
  (18, .aload_n 2, 1, [2], 0),
  (19, .getfield 34, 3, [4, 1, 1236], 0),
  (22, .iload_n 3, 1, [3], 0),
  (23, .iaload, 1, [], 0),
  (24, .aload_n 2, 1, [2], 0),
  (25, .getfield 37, 3, [4, 2, 1239], 0),
  (28, .iload_n 3, 1, [3], 0),
  (29, .iaload, 1, [], 0),
  (30, .aload_n 2, 1, [2], 0),
  (31, .getfield 40, 3, [4, 3, 2002], 0),
  (34, .iload_n 3, 1, [3], 0),
  (35, .iaload, 1, [], 0),
  (36, .invokevirtual 43, 3, [0, 108, 4, 1, 5096, 5098, 33, 1015], 0),
  (39, .putfield 47, 3, [1, 1, 2227], 0),
  (42, .aload_n 0, 1, [0], 0),
  (43, .getfield 47, 3, [1, 1, 2227], 0),
  (46, .ifCond .eq 10, 3, [34], 0),
  (49, .aload_n 0, 1, [0], 0),
  (50, .aload_n 1, 1, [1], 0),
  (51, .invokevirtual 50, 3, [0, 113, 1, 1, 5120, 5122, 38, 1015], 0),
  (54, .iload_n 3, 1, [3], 0),
  (55, .ireturn, 1, [], 0),
  (56, .iinc 3 1, 3, [3], 1),
  (59, .goto (-52), 3, [5], 0),
  (62, .aload_n 0, 1, [0], 0),
  (63, .aload_n 1, 1, [1], 0),
  (64, .invokevirtual 50, 3, [0, 113, 1, 1, 5120, 5122, 38, 1015], 0),
  (67, .iconst (-1), 1, [], (-1)),
  (68, .ireturn, 1, [], 0)]
def cd_Day_begin : List Ent := [(0, .aload_n 0, 1, [0], 0),
  (1, .iconst 1, 1, [], 1),
  (2, .putfield 53, 3, [1, 0, 2225], 0),
  (5, .aload_n 0, 1, [0], 0),
  (6, .iconst 0, 1, [], 0),
  (7, .putfield 47, 3, [1, 1, 2227], 0),
  (10, .aload_n 0, 1, [0], 0),
  (11, .iconst 0, 1, [], 0),
  (12, .putfield 57, 3, [1, 2, 2229], 0),
  (15, .aload_n 0, 1, [0], 0),
  (16, .iconst 0, 1, [], 0),
  (17, .putfield 60, 3, [1, 3, 2231], 0),
  (20, .aload_n 0, 1, [0], 0),
  (21, .iconst 0, 1, [], 0),
  (22, .putfield 63, 3, [1, 4, 2233], 0),
  (25, .aload_n 0, 1, [0], 0),
  (26, .aload_n 1, 1, [1], 0),
  (27, .getfield 66, 3, [9, 8, 1149], 0),
  (30, .putfield 71, 3, [1, 6, 2237], 0),
  (33, .iconst 0, 1, [], 0),
  (34, .istore_n 2, 1, [2], 0),
  (35, .iload_n 2, 1, [2], 0),
  (36, .aload_n 0, 1, [0], 0),
  (37, .getfield 71, 3, [1, 6, 2237], 0),
  (40, .if_icmp .ge 35, 3, [45], 0),
  (43, .aload_n 0, 1, [0], 0),
  (44, .getfield 9, 3, [1, 8, 3001], 0),
  (47, .iload_n 2, 1, [2], 0),
  (48, .aload_n 1, 1, [1], 0),
  (49, .iload_n 2, 1, [2], 0),
  (50, .iconst 1, 1, [], 1),
  (51, .invokevirtual 72, 3, [0, 61, 2, 9, 5095, 4105, 4106, 1007], 0),
  (54, .iastore, 1, [], 0),
  (55, .aload_n 0, 1, [0], 0),
  (56, .getfield 15, 3, [1, 9, 3003], 0),
  (59, .iload_n 2, 1, [2], 0),
  (60, .iconst 1, 1, [], 1),
  (61, .iastore, 1, [], 0),
  (62, .aload_n 0, 1, [0], 0),
  (63, .getfield 21, 3, [1, 11, 3006], 0),
  (66, .iload_n 2, 1, [2], 0),
  (67, .iconst 0, 1, [], 0),
  (68, .iastore, 1, [], 0),
  (69, .iinc 2 1, 3, [2], 1),
  (72, .goto (-37), 3, [21], 0),
  (75, .return_, 1, [], 0)]
def cd_Day_doAct : List Ent := [(0, .iload_n 2, 1, [2], 0),
  (1, .iconst 2, 1, [], 2),
  (2, .if_icmp .ne 29, 3, [19], 0),
  (5, .aload_n 0, 1, [0], 0),
  (6, .getfield 57, 3, [1, 2, 2229], 0),
  (9, .iload_n 3, 1, [3], 0),
  (10, .iadd, 1, [], 0),
  (11, .bipush 48, 2, [], 48),
  (13, .if_icmp .lt 6, 3, [11], 0),
  (16, .bipush 8, 2, [], 8),
  (18, .ireturn, 1, [], 0),
  (19, .aload_n 0, 1, [0], 0),
  (20, .dup, 1, [], 0),
  (21, .getfield 57, 3, [1, 2, 2229], 0),
  (24, .iload_n 3, 1, [3], 0),
  (25, .iadd, 1, [], 0),
  (26, .putfield 57, 3, [1, 2, 2229], 0),
  (29, .iconst 0, 1, [], 0),
  (30, .ireturn, 1, [], 0),
  (31, .aload_n 0, 1, [0], 0),
  (32, .getfield 57, 3, [1, 2, 2229], 0),
  (35, .aload_n 1, 1, [1], 0),
  (36, .iload_n 3, 1, [3], 0),
  (37, .iconst 3, 1, [], 3),
  (38, .invokevirtual 72, 3, [0, 61, 2, 9, 5095, 4105, 4106, 1007], 0),
  (41, .if_icmp .ge 5, 3, [28], 0),
  (44, .iconst 1, 1, [], 1),
  (45, .ireturn, 1, [], 0),
  (46, .aload_n 0, 1, [0], 0),
  (47, .getfield 15, 3, [1, 9, 3003], 0),
  (50, .iload_n 3, 1, [3], 0),
  (51, .iaload, 1, [], 0),
  (52, .ifCond .eq 16, 3, [40], 0),
  (55, .aload_n 0, 1, [0], 0),
  (56, .getfield 57, 3, [1, 2, 2229], 0),
  (59, .aload_n 1, 1, [1], 0),
  (60, .iload_n 3, 1, [3], 0),
  (61, .iconst 4, 1, [], 4),
  (62, .invokevirtual 72, 3, [0, 61, 2, 9, 5095, 4105, 4106, 1007], 0),
  (65, .if_icmp .lt 5, 3, [42], 0),
  (68, .iconst 2, 1, [], 2),
  (69, .ireturn, 1, [], 0),
  (70, .aload_n 0, 1, [0], 0),
  (71, .getfield 57, 3, [1, 2, 2229], 0),
  (74, .aload_n 0, 1, [0], 0),
  (75, .getfield 21, 3, [1, 11, 3006], 0),
  (78, .iload_n 3, 1, [3], 0),
  (79, .iaload, 1, [], 0),
  (80, .if_icmp .ge 5, 3, [51], 0),
  (83, .iconst 3, 1, [], 3),
  (84, .ireturn, 1, [], 0),
  (85, .iload_n 2, 1, [2], 0),
  (86, .ifCond .ne 14, 3, [59], 0),
  (89, .aload_n 0, 1, [0], 0),
  (90, .aload_n 1, 1, [1], 0),
  (91, .iload_n 3, 1, [3], 0),
  (92, .iload 4, 2, [4], 0),
  (94, .invokevirtual 89, 3, [0, 109, 3, 1, 5100, 5102, 34, 1015], 0),
  (97, .goto 9, 3, [63], 0),
  (100, .aload_n 0, 1, [0], 0),
  (101, .aload_n 1, 1, [1], 0),
  (102, .iload_n 3, 1, [3], 0),
  (103, .invokevirtual 93, 3, [0, 111, 2, 1, 5111, 5113, 36, 1015], 0),
  (106, .ireturn, 1, [], 0)]
def cd_Day_give : List Ent := [(0, .aload_n 0, 1, [0], 0),
  (1, .aload_n 1, 1, [1], 0),
  (2, .iload_n 2, 1, [2], 0),
  (3, .iload_n 3, 1, [3], 0),
  (4, .invokevirtual 96, 3, [0, 110, 3, 1, 5104, 5106, 35, 1015], 0),
  (7, .istore 4, 2, [4], 0),
  (9, .iload 4, 2, [4], 0),
  (11, .iconst (-1), 1, [], (-1)),
  (12, .if_icmp .ne 5, 3, [11], 0),
  (15, .iconst 4, 1, [], 4),
  (16, .ireturn, 1, [], 0),
  (17, .aload_n 0, 1, [0], 0),
  (18, .getfield 15, 3, [1, 9, 3003], 0),
  (21, .iload_n 2, 1, [2], 0),
  (22, .iaload, 1, [], 0),
  (23, .iconst 1, 1, [], 1),
  (24, .if_icmp .ne 10, 3, [21], 0),
  (27, .iconst 1, 1, [], 1),
  (28, .iload 4, 2, [4], 0),
  (30, .ishl, 1, [], 0),
  (31, .goto 9, 3, [25], 0),
  (34, .aload_n 0, 1, [0], 0),
  (35, .getfield 18, 3, [1, 10, 3005], 0),
  (38, .iload_n 2, 1, [2], 0),
  (39, .iaload, 1, [], 0),
  (40, .istore 5, 2, [5], 0),
  (42, .aload_n 1, 1, [1], 0),
  (43, .aload_n 1, 1, [1], 0),
  (44, .getfield 99, 3, [9, 16, 1185], 0),
  (47, .aload_n 1, 1, [1], 0),
  (48, .iload_n 2, 1, [2], 0),
  (49, .invokevirtual 102, 3, [0, 60, 1, 9, 5108, 4101, 4102, 1007], 0),
  (52, .iload 5, 2, [5], 0),
  (54, .iload_n 3, 1, [3], 0),
  (55, .invokevirtual 106, 3, [0, 67, 4, 9, 5110, 4138, 4139, 1007], 0),
  (58, .ifCond .ne 5, 3, [38], 0),
  (61, .iconst 5, 1, [], 5),
  (62, .ireturn, 1, [], 0),
  (63, .aload_n 0, 1, [0], 0),
  (64, .getfield 18, 3, [1, 10, 3005], 0),
  (67, .iload_n 2, 1, [2], 0),
  (68, .iload 5, 2, [5], 0),
  (70, .iconst 1, 1, [], 1),
  (71, .iload_n 3, 1, [3], 0),
  (72, .ishl, 1, [], 0),
  (73, .ior, 1, [], 0),
  (74, .iastore, 1, [], 0),
  (75, .aload_n 0, 1, [0], 0),
  (76, .getfield 9, 3, [1, 8, 3001], 0),
  (79, .iload_n 2, 1, [2], 0),
  (80, .iload_n 3, 1, [3], 0),
  (81, .iastore, 1, [], 0),
  (82, .aload_n 0, 1, [0], 0),
  (83, .getfield 15, 3, [1, 9, 3003], 0),
  (86, .iload_n 2, 1, [2], 0),
  (87, .dup2, 1, [], 0),
  (88, .iaload, 1, [], 0),
  (89, .iconst 1, 1, [], 1),
  (90, .iadd, 1, [], 0),
  (91, .iastore, 1, [], 0),
  (92, .aload_n 0, 1, [0], 0),
  (93, .getfield 21, 3, [1, 11, 3006], 0),
  (96, .iload_n 2, 1, [2], 0),
  (97, .aload_n 0, 1, [0], 0),
  (98, .getfield 57, 3, [1, 2, 2229], 0),
  (101, .aload_n 1, 1, [1], 0),
  (102, .getfield 110, 3, [9, 14, 1176], 0),
  (105, .iload 4, 2, [4], 0),
  (107, .bipush 8, 2, [], 8),
  (109, .imul, 1, [], 0),
  (110, .iload_n 3, 1, [3], 0),
  (111, .iadd, 1, [], 0),
  (112, .iaload, 1, [], 0),
  (113, .iadd, 1, [], 0),
  (114, .iastore, 1, [], 0),
  (115, .aload_n 0, 1, [0], 0),
  (116, .dup, 1, [], 0),
  (117, .getfield 63, 3, [1, 4, 2233], 0),
  (120, .aload_n 1, 1, [1], 0),
  (121, .getfield 113, 3, [9, 13, 1172], 0),
  (124, .iload 4, 2, [4], 0),
  (126, .bipush 8, 2, [], 8),
  (128, .imul, 1, [], 0),
  (129, .iload_n 3, 1, [3], 0),
  (130, .iadd, 1, [], 0),
  (131, .iaload, 1, [], 0),
  (132, .iadd, 1, [], 0),
  (133, .putfield 63, 3, [1, 4, 2233], 0),
  (136, .iconst 0, 1, [], 0),
  (137, .ireturn, 1, [], 0)]
def cd_Day_giver : List Ent := [(0, .aload_n 0, 1, [0], 0),
  (1, .getfield 15, 3, [1, 9, 3003], 0),
  (4, .iload_n 2, 1, [2], 0),
  (5, .iaload, 1, [], 0),
  (6, .iconst 1, 1, [], 1),
  (7, .if_icmp .ne 11, 3, [10], 0),
  (10, .aload_n 1, 1, [1], 0),
  (11, .iload_n 2, 1, [2], 0),
  (12, .invokevirtual 102, 3, [0, 60, 1, 9, 5108, 4101, 4102, 1007], 0),
  (15, .goto 11, 3, [16], 0),
  (18, .iconst 1, 1, [], 1),
  (19, .aload_n 0, 1, [0], 0),
  (20, .getfield 9, 3, [1, 8, 3001], 0),
  (23, .iload_n 2, 1, [2], 0),
  (24, .iaload, 1, [], 0),
  (25, .ishl, 1, [], 0),
  (26, .istore 4, 2, [4], 0),
  (28, .iconst 0, 1, [], 0),
  (29, .istore 5, 2, [5], 0),
  (31, .iload 5, 2, [5], 0),
  (33, .aload_n 1, 1, [1], 0),
  (34, .getfield 115, 3, [9, 0, 1134], 0),
  (37, .if_icmp .ge 38, 3, [41], 0),
  (40, .iload 4, 2, [4], 0),
  (42, .iload 5, 2, [5], 0),
  (44, .invokestatic 118, 3, [4, 66, 2, 0, 4135, 1001], 0),
  (47, .ifCond .eq 22, 3, [39], 0),
  (50, .aload_n 1, 1, [1], 0),
  (51, .getfield 113, 3, [9, 13, 1172], 0),
  (54, .iload 5, 2, [5], 0),
  (56, .bipush 8, 2, [], 8),
  (58, .imul, 1, [], 0),
  (59, .iload_n 3, 1, [3], 0),
  (60, .iadd, 1, [], 0),
  (61, .iaload, 1, [], 0),
  (62, .iconst (-1), 1, [], (-1)),
  (63, .if_icmp .eq 6, 3, [39], 0),
  (66, .iload 5, 2, [5], 0),
  (68, .ireturn, 1, [], 0),
  (69, .iinc 5 1, 3, [5], 1),
  (72, .goto (-41), 3, [19], 0),
  (75, .iconst (-1), 1, [], (-1)),
  (76, .ireturn, 1, [], 0)]
def cd_Day_use : List Ent := [(0, .aload_n 0, 1, [0], 0),
  (1, .getfield 15, 3, [1, 9, 3003], 0),
  (4, .iload_n 2, 1, [2], 0),
  (5, .iaload, 1, [], 0),
  (6, .aload_n 1, 1, [1], 0),
  (7, .getfield 82, 3, [9, 15, 1180], 0),
  (10, .if_icmp .eq 6, 3, [9], 0),
  (13, .bipush 6, 2, [], 6),
  (15, .ireturn, 1, [], 0),
  (16, .aload_n 0, 1, [0], 0),
  (17, .aload_n 1, 1, [1], 0),
  (18, .iload_n 2, 1, [2], 0),
  (19, .invokevirtual 85, 3, [0, 112, 2, 1, 5115, 5117, 37, 1015], 0),
  (22, .istore_n 3, 1, [3], 0),
  (23, .iload_n 3, 1, [3], 0),
  (24, .iconst (-1), 1, [], (-1)),
  (25, .if_icmp .ne 6, 3, [19], 0),
  (28, .bipush 7, 2, [], 7),
  (30, .ireturn, 1, [], 0),
  (31, .aload_n 0, 1, [0], 0),
  (32, .dup, 1, [], 0),
  (33, .getfield 60, 3, [1, 3, 2231], 0),
  (36, .iconst 1, 1, [], 1),
  (37, .iload_n 3, 1, [3], 0),
  (38, .ishl, 1, [], 0),
  (39, .ior, 1, [], 0),
  (40, .putfield 60, 3, [1, 3, 2231], 0),
  (43, .aload_n 0, 1, [0], 0),
  (44, .getfield 15, 3, [1, 9, 3003], 0),
  (47, .iload_n 2, 1, [2], 0),
  (48, .iconst 0, 1, [], 0),
  (49, .iastore, 1, [], 0),
  (50, .aload_n 0, 1, [0], 0),
  (51, .getfield 9, 3, [1, 8, 3001], 0),
  (54, .iload_n 2, 1, [2], 0),
  (55, .iconst (-1), 1, [], (-1)),
  (56, .iastore, 1, [], 0),
  (57, .iconst 0, 1, [], 0),
  (58, .ireturn, 1, [], 0)]
def cd_Day_wantMet : List Ent := [(0, .iconst 0, 1, [], 0),
  (1, .istore_n 3, 1, [3], 0),
  (2, .iload_n 3, 1, [3], 0),
  (3, .aload_n 1, 1, [1], 0),
  (4, .getfield 122, 3, [9, 11, 1162], 0),
  (7, .if_icmp .ge 65, 3, [40], 0),
  (10, .aload_n 1, 1, [1], 0),
  (11, .iload_n 3, 1, [3], 0),
  (12, .iconst 0, 1, [], 0),
  (13, .invokevirtual 125, 3, [0, 63, 2, 9, 5119, 4115, 4116, 1007], 0),
  (16, .aload_n 0, 1, [0], 0),
  (17, .getfield 9, 3, [1, 8, 3001], 0),
  (20, .iload_n 2, 1, [2], 0),
  (21, .iaload, 1, [], 0),
  (22, .if_icmp .ne 44, 3, [38], 0),
  (25, .aload_n 0, 1, [0], 0),
  (26, .getfield 60, 3, [1, 3, 2231], 0),
  (29, .iload_n 3, 1, [3], 0),
  (30, .invokestatic 118, 3, [4, 66, 2, 0, 4135, 1001], 0),
  (33, .ifCond .ne 33, 3, [38], 0),
  (36, .aload_n 1, 1, [1], 0),
  (37, .iload_n 3, 1, [3], 0),
  (38, .iconst 1, 1, [], 1),
  (39, .invokevirtual 125, 3, [0, 63, 2, 9, 5119, 4115, 4116, 1007], 0),
  (42, .aload_n 1, 1, [1], 0),
  (43, .iload_n 2, 1, [2], 0),
  (44, .iconst 0, 1, [], 0),
  (45, .invokevirtual 72, 3, [0, 61, 2, 9, 5095, 4105, 4106, 1007], 0),
  (48, .if_icmp .ne 18, 3, [38], 0),
  (51, .aload_n 0, 1, [0], 0),
  (52, .getfield 57, 3, [1, 2, 2229], 0),
  (55, .aload_n 1, 1, [1], 0),
  (56, .iload_n 3, 1, [3], 0),
  (57, .iconst 3, 1, [], 3),
  (58, .invokevirtual 125, 3, [0, 63, 2, 9, 5119, 4115, 4116, 1007], 0),
  (61, .if_icmp .gt 5, 3, [38], 0),
  (64, .iload_n 3, 1, [3], 0),
  (65, .ireturn, 1, [], 0),
  (66, .iinc 3 1, 3, [3], 1),
  (69, .goto (-67), 3, [2], 0),
  (72, .iconst (-1), 1, [], (-1)),
  (73, .ireturn, 1, [], 0)]
def cd_Day_close : List Ent := [(0, .aload_n 0, 1, [0], 0),
  (1, .iconst 0, 1, [], 0),
  (2, .putfield 76, 3, [1, 5, 2235], 0),
  (5, .aload_n 0, 1, [0], 0),
  (6, .iconst 0, 1, [], 0),
  (7, .putfield 79, 3, [1, 7, 2239], 0),
  (10, .iconst 0, 1, [], 0),
  (11, .istore_n 2, 1, [2], 0),
  (12, .iload_n 2, 1, [2], 0),
  (13, .aload_n 0, 1, [0], 0),
  (14, .getfield 71, 3, [1, 6, 2237], 0),
  (17, .if_icmp .ge 134, 3, [85], 0),
  (20, .aload_n 0, 1, [0], 0),
  (21, .getfield 57, 3, [1, 2, 2229], 0),
  (24, .aload_n 1, 1, [1], 0),
  (25, .iload_n 2, 1, [2], 0),
  (26, .iconst 4, 1, [], 4),
  (27, .invokevirtual 72, 3, [0, 61, 2, 9, 5095, 4105, 4106, 1007], 0),
  (30, .if_icmp .lt 7, 3, [21], 0),
  (33, .iconst 1, 1, [], 1),
  (34, .goto 4, 3, [22], 0),
  (37, .iconst 0, 1, [], 0),
  (38, .istore_n 3, 1, [3], 0),
  (39, .aload_n 0, 1, [0], 0),
  (40, .getfield 15, 3, [1, 9, 3003], 0),
  (43, .iload_n 2, 1, [2], 0),
  (44, .iaload, 1, [], 0),
  (45, .ifCond .eq 24, 3, [39], 0),
  (48, .aload_n 0, 1, [0], 0),
  (49, .getfield 57, 3, [1, 2, 2229], 0),
  (52, .aload_n 0, 1, [0], 0),
  (53, .getfield 21, 3, [1, 11, 3006], 0),
  (56, .iload_n 2, 1, [2], 0),
  (57, .iaload, 1, [], 0),
  (58, .if_icmp .lt 11, 3, [39], 0),
  (61, .iload_n 3, 1, [3], 0),
  (62, .ifCond .ne 7, 3, [39], 0),
  (65, .iconst 1, 1, [], 1),
  (66, .goto 4, 3, [40], 0),
  (69, .iconst 0, 1, [], 0),
  (70, .istore 4, 2, [4], 0),
  (72, .aload_n 0, 1, [0], 0),
  (73, .dup, 1, [], 0),
  (74, .getfield 76, 3, [1, 5, 2235], 0),
  (77, .aload_n 0, 1, [0], 0),
  (78, .getfield 15, 3, [1, 9, 3003], 0),
  (81, .iload_n 2, 1, [2], 0),
  (82, .iaload, 1, [], 0),
  (83, .ifCond .eq 13, 3, [55], 0),
  (86, .iload_n 3, 1, [3], 0),
  (87, .ifCond .eq 9, 3, [55], 0),
  (90, .iconst 1, 1, [], 1),
  (91, .iload_n 2, 1, [2], 0),
  (92, .ishl, 1, [], 0),
  (93, .goto 4, 3, [56], 0),
  (96, .iconst 0, 1, [], 0),
  (97, .ior, 1, [], 0),
  (98, .putfield 76, 3, [1, 5, 2235], 0),
  (101, .aload_n 0, 1, [0], 0),
  (102, .dup, 1, [], 0),
  (103, .getfield 79, 3, [1, 7, 2239], 0),
  (106, .iload 4, 2, [4], 0),
  (108, .ifCond .eq 32, 3, [80], 0),
  (111, .aload_n 0, 1, [0], 0),
  (112, .getfield 15, 3, [1, 9, 3003], 0),
  (115, .iload_n 2, 1, [2], 0),
  (116, .iaload, 1, [], 0),
  (117, .aload_n 1, 1, [1], 0),
  (118, .getfield 82, 3, [9, 15, 1180], 0),
  (121, .if_icmp .ne 19, 3, [80], 0),
  (124, .aload_n 0, 1, [0], 0),
  (125, .aload_n 1, 1, [1], 0),
  (126, .iload_n 2, 1, [2], 0),
  (127, .invokevirtual 85, 3, [0, 112, 2, 1, 5115, 5117, 37, 1015], 0),
  (130, .iconst (-1), 1, [], (-1)),
  (131, .if_icmp .eq 9, 3, [80], 0),
  (134, .iconst 1, 1, [], 1),
  (135, .iload_n 2, 1, [2], 0),
  (136, .ishl, 1, [], 0),
  (137, .goto 4, 3, [81], 0),
  (140, .iconst 0, 1, [], 0),
  (141, .ior, 1, [], 0),
  (142, .putfield 79, 3, [1, 7, 2239], 0),
  (145, .iinc 2 1, 3, [2], 1),
  (148, .goto (-136), 3, [8], 0),
  (151, .return_, 1, [], 0)]
def cd_X_judged : List Ent := [(0, .aload_n 0, 1, [0], 0),
  (1, .getfield 85, 3, [11, 13, 3105], 0),
  (4, .getfield 251, 3, [1, 0, 2226], 0),
  (7, .ifCond .ne 5, 3, [6], 0),
  (10, .iconst (-1), 1, [], (-1)),
  (11, .ireturn, 1, [], 0),
  (12, .iload_n 1, 1, [1], 0),
  (13, .tableswitch 75 0 4 #[35, 43, 51, 59, 67], 35, [28, 8, 12, 16, 20, 24], 0),
  (48, .aload_n 0, 1, [0], 0),
  (49, .getfield 85, 3, [11, 13, 3105], 0),
  (52, .getfield 254, 3, [1, 1, 2228], 0),
  (55, .ireturn, 1, [], 0),
  (56, .aload_n 0, 1, [0], 0),
  (57, .getfield 85, 3, [11, 13, 3105], 0),
  (60, .getfield 257, 3, [1, 2, 2230], 0),
  (63, .ireturn, 1, [], 0),
  (64, .aload_n 0, 1, [0], 0),
  (65, .getfield 85, 3, [11, 13, 3105], 0),
  (68, .getfield 260, 3, [1, 3, 2232], 0),
  (71, .ireturn, 1, [], 0),
  (72, .aload_n 0, 1, [0], 0),
  (73, .getfield 85, 3, [11, 13, 3105], 0),
  (76, .getfield 263, 3, [1, 4, 2234], 0),
  (79, .ireturn, 1, [], 0),
  (80, .aload_n 0, 1, [0], 0),
  (81, .getfield 85, 3, [11, 13, 3105], 0),
  (84, .getfield 265, 3, [1, 5, 2236], 0),
  (87, .ireturn, 1, [], 0),
  (88, .iconst (-1), 1, [], (-1)),
  (89, .ireturn, 1, [], 0)]
def cd_X_holds : List Ent := [(0, .aload_n 0, 1, [0], 0),
  (1, .getfield 85, 3, [11, 13, 3105], 0),
  (4, .getfield 251, 3, [1, 0, 2226], 0),
  (7, .ifCond .eq 18, 3, [11], 0),
  (10, .iload_n 1, 1, [1], 0),
  (11, .ifCond .lt 14, 3, [11], 0),
  (14, .iload_n 1, 1, [1], 0),
  (15, .aload_n 0, 1, [0], 0),
  (16, .getfield 85, 3, [11, 13, 3105], 0),
  (19, .getfield 268, 3, [1, 6, 2238], 0),
  (22, .if_icmp .lt 5, 3, [13], 0),
  (25, .iconst (-1), 1, [], (-1)),
  (26, .ireturn, 1, [], 0),
  (27, .iload_n 2, 1, [2], 0),
  (28, .tableswitch 60 0 2 #[28, 38, 48], 28, [35, 15, 21, 27], 0),
  (56, .aload_n 0, 1, [0], 0),
  (57, .getfield 85, 3, [11, 13, 3105], 0),
  (60, .getfield 269, 3, [1, 8, 3002], 0),
  (63, .iload_n 1, 1, [1], 0),
  (64, .iaload, 1, [], 0),
  (65, .ireturn, 1, [], 0),
  (66, .aload_n 0, 1, [0], 0),
  (67, .getfield 85, 3, [11, 13, 3105], 0),
  (70, .getfield 272, 3, [1, 9, 3004], 0),
  (73, .iload_n 1, 1, [1], 0),
  (74, .iaload, 1, [], 0),
  (75, .ireturn, 1, [], 0),
  (76, .aload_n 0, 1, [0], 0),
  (77, .getfield 85, 3, [11, 13, 3105], 0),
  (80, .getfield 275, 3, [1, 7, 3000], 0),
  (83, .iload_n 1, 1, [1], 0),
  (84, .ishr, 1, [], 0),
  (85, .iconst 1, 1, [], 1),
  (86, .iand, 1, [], 0),
  (87, .ireturn, 1, [], 0),
  (88, .iconst (-1), 1, [], (-1)),
  (89, .ireturn, 1, [], 0)]
def cd_X_ways : List Ent := [(0, .aload_n 0, 1, [0], 0),
  (1, .getfield 25, 3, [11, 4, 3096], 0),
  (4, .iload_n 1, 1, [1], 0),
  (5, .invokevirtual 136, 3, [0, 53, 1, 9, 4071, 4072, 4073, 1007], 0),
  (8, .ifCond .eq 25, 3, [16], 0),
  (11, .aload_n 0, 1, [0], 0),
  (12, .getfield 25, 3, [11, 4, 3096], 0),
  (15, .iload_n 2, 1, [2], 0),
  (16, .invokevirtual 146, 3, [0, 54, 1, 9, 4075, 4076, 4077, 1007], 0),
  (19, .ifCond .eq 14, 3, [16], 0),
  (22, .iload_n 3, 1, [3], 0),
  (23, .iconst 2, 1, [], 2),
  (24, .if_icmp .lt 9, 3, [16], 0),
  (27, .iload_n 3, 1, [3], 0),
  (28, .bipush 6, 2, [], 6),
  (30, .if_icmp .le 5, 3, [18], 0),
  (33, .iconst (-1), 1, [], (-1)),
  (34, .ireturn, 1, [], 0),
  (35, .aload_n 0, 1, [0], 0),
  (36, .invokevirtual 278, 3, [0, 117, 0, 11, 5136, 5138, 39, 1001], 0),
  (39, .getfield 161, 3, [3, 0, 2190], 0),
  (42, .astore 4, 2, [4], 0),
  (44, .aload 4, 2, [4], 0),
  (46, .getfield 165, 3, [10, 0, 2129], 0),
  (49, .iload_n 3, 1, [3], 0),
  (50, .putfield 281, 3, [6, 1, 2088], 0),
  (53, .aload 4, 2, [4], 0),
  (55, .iload_n 1, 1, [1], 0),
  (56, .invokevirtual 282, 3, [0, 59, 1, 10, 5140, 4097, 4098, 1013], 0),
  (59, .aload 4, 2, [4], 0),
  (61, .getfield 285, 3, [10, 5, 2139], 0),
  (64, .iload_n 2, 1, [2], 0),
  (65, .iaload, 1, [], 0),
  (66, .ireturn, 1, [], 0)]
def cd_X_supposing : List Ent := [(0, .aload_n 0, 1, [0], 0),
  (1, .getfield 75, 3, [11, 11, 3103], 0),
  (4, .getfield 161, 3, [3, 0, 2190], 0),
  (7, .getfield 165, 3, [10, 0, 2129], 0),
  (10, .invokevirtual 169, 3, [0, 56, 0, 6, 4083, 4084, 4085, 1014], 0),
  (13, .aload_n 0, 1, [0], 0),
  (14, .getfield 75, 3, [11, 11, 3103], 0),
  (17, .areturn, 1, [], 0)]
def cd_X_latest : List Ent := [(0, .aload_n 0, 1, [0], 0),
  (1, .getfield 25, 3, [11, 4, 3096], 0),
  (4, .iload_n 1, 1, [1], 0),
  (5, .invokevirtual 136, 3, [0, 53, 1, 9, 4071, 4072, 4073, 1007], 0),
  (8, .ifCond .eq 14, 3, [10], 0),
  (11, .aload_n 0, 1, [0], 0),
  (12, .getfield 25, 3, [11, 4, 3096], 0),
  (15, .iload_n 2, 1, [2], 0),
  (16, .invokevirtual 146, 3, [0, 54, 1, 9, 4075, 4076, 4077, 1007], 0),
  (19, .ifCond .ne 5, 3, [12], 0),
  (22, .iconst (-1), 1, [], (-1)),
  (23, .ireturn, 1, [], 0),
  (24, .aload_n 0, 1, [0], 0),
  (25, .invokevirtual 278, 3, [0, 117, 0, 11, 5136, 5138, 39, 1001], 0),
  (28, .getfield 161, 3, [3, 0, 2190], 0),
  (31, .astore_n 3, 1, [3], 0),
  (32, .aload_n 3, 1, [3], 0),
  (33, .iload_n 1, 1, [1], 0),
  (34, .invokevirtual 282, 3, [0, 59, 1, 10, 5140, 4097, 4098, 1013], 0),
  (37, .aload_n 3, 1, [3], 0),
  (38, .getfield 285, 3, [10, 5, 2139], 0),
  (41, .iload_n 2, 1, [2], 0),
  (42, .iaload, 1, [], 0),
  (43, .ifCond .ne 5, 3, [26], 0),
  (46, .iconst (-1), 1, [], (-1)),
  (47, .ireturn, 1, [], 0),
  (48, .aload_n 0, 1, [0], 0),
  (49, .getfield 25, 3, [11, 4, 3096], 0),
  (52, .iload_n 1, 1, [1], 0),
  (53, .iconst 3, 1, [], 3),
  (54, .invokevirtual 288, 3, [0, 61, 2, 9, 5145, 4105, 4106, 1007], 0),
  (57, .aload_n 3, 1, [3], 0),
  (58, .getfield 292, 3, [10, 4, 2137], 0),
  (61, .iload_n 2, 1, [2], 0),
  (62, .iaload, 1, [], 0),
  (63, .iadd, 1, [], 0),
  (64, .aload_n 3, 1, [3], 0),
  (65, .getfield 295, 3, [10, 6, 2141], 0),
  (68, .iload_n 2, 1, [2], 0),
  (69, .iaload, 1, [], 0),
  (70, .isub, 1, [], 0),
  (71, .ireturn, 1, [], 0)]
def cd_X_rest : List Ent := [(0, .aload_n 0, 1, [0], 0),
  (1, .invokevirtual 278, 3, [0, 117, 0, 11, 5136, 5138, 39, 1001], 0),
  (4, .astore_n 1, 1, [1], 0),
  (5, .iconst (-1), 1, [], (-1)),
  (6, .istore_n 2, 1, [2], 0),
  (7, .iconst 1, 1, [], 1),
  (8, .istore_n 3, 1, [3], 0),
  (9, .iload_n 3, 1, [3], 0),
  (10, .bipush 6, 2, [], 6),
  (12, .if_icmp .gt 24, 3, [21], 0),
  (15, .iload_n 2, 1, [2], 0),
  (16, .iconst (-1), 1, [], (-1)),
  (17, .if_icmp .ne 19, 3, [21], 0),
  (20, .aload_n 0, 1, [0], 0),
  (21, .aload_n 1, 1, [1], 0),
  (22, .invokevirtual 298, 3, [0, 120, 1, 11, 5150, 5152, 40, 1001], 0),
  (25, .ifCond .ne 5, 3, [19], 0),
  (28, .iload_n 3, 1, [3], 0),
  (29, .istore_n 2, 1, [2], 0),
  (30, .iinc 3 1, 3, [3], 1),
  (33, .goto (-24), 3, [7], 0),
  (36, .aload_n 0, 1, [0], 0),
  (37, .getfield 99, 3, [11, 15, 3107], 0),
  (40, .aload_n 1, 1, [1], 0),
  (41, .getfield 161, 3, [3, 0, 2190], 0),
  (44, .getfield 165, 3, [10, 0, 2129], 0),
  (47, .getfield 302, 3, [6, 3, 2094], 0),
  (50, .aload_n 0, 1, [0], 0),
  (51, .getfield 25, 3, [11, 4, 3096], 0),
  (54, .getfield 305, 3, [9, 0, 1136], 0),
  (57, .invokevirtual 308, 3, [0, 124, 2, 8, 5166, 5167, 5168, 1017], 0),
  (60, .iload_n 2, 1, [2], 0),
  (61, .ireturn, 1, [], 0)]
def cd_X_askAnew : List Ent := [(0, .iconst 0, 1, [], 0),
  (1, .istore_n 2, 1, [2], 0),
  (2, .aload_n 1, 1, [1], 0),
  (3, .getfield 161, 3, [3, 0, 2190], 0),
  (6, .getfield 165, 3, [10, 0, 2129], 0),
  (9, .getfield 302, 3, [6, 3, 2094], 0),
  (12, .astore_n 3, 1, [3], 0),
  (13, .iconst 0, 1, [], 0),
  (14, .istore 4, 2, [4], 0),
  (16, .iload 4, 2, [4], 0),
  (18, .aload_n 0, 1, [0], 0),
  (19, .getfield 25, 3, [11, 4, 3096], 0),
  (22, .getfield 305, 3, [9, 0, 1136], 0),
  (25, .if_icmp .ge 55, 3, [41], 0),
  (28, .aload_n 0, 1, [0], 0),
  (29, .getfield 25, 3, [11, 4, 3096], 0),
  (32, .getfield 312, 3, [9, 4, 1142], 0),
  (35, .iload 4, 2, [4], 0),
  (37, .iaload, 1, [], 0),
  (38, .ifCond .le 36, 3, [39], 0),
  (41, .aload_n 1, 1, [1], 0),
  (42, .iload 4, 2, [4], 0),
  (44, .invokevirtual 313, 3, [0, 121, 1, 3, 5154, 5155, 5156, 1012], 0),
  (47, .istore 5, 2, [5], 0),
  (49, .iload_n 2, 1, [2], 0),
  (50, .ifCond .ne 12, 3, [31], 0),
  (53, .iload 5, 2, [5], 0),
  (55, .aload_n 3, 1, [3], 0),
  (56, .iload 4, 2, [4], 0),
  (58, .iaload, 1, [], 0),
  (59, .if_icmp .eq 7, 3, [33], 0),
  (62, .iconst 1, 1, [], 1),
  (63, .goto 4, 3, [34], 0),
  (66, .iconst 0, 1, [], 0),
  (67, .istore_n 2, 1, [2], 0),
  (68, .aload_n 3, 1, [3], 0),
  (69, .iload 4, 2, [4], 0),
  (71, .iload 5, 2, [5], 0),
  (73, .iastore, 1, [], 0),
  (74, .iinc 4 1, 3, [4], 1),
  (77, .goto (-61), 3, [9], 0),
  (80, .iload_n 2, 1, [2], 0),
  (81, .ireturn, 1, [], 0)]
def cd_Meeting_middleAsk : List Ent := [(0, .aload_n 0, 1, [0], 0),
  (1, .getfield 28, 3, [3, 0, 2189], 0),
  (4, .iload_n 1, 1, [1], 0),
  (5, .putfield 159, 3, [10, 2, 2133], 0),
  (8, .aload_n 0, 1, [0], 0),
  (9, .getfield 28, 3, [3, 0, 2189], 0),
  (12, .invokevirtual 39, 3, [0, 58, 0, 10, 4092, 4093, 4094, 1013], 0),
  (15, .aload_n 0, 1, [0], 0),
  (16, .getfield 28, 3, [3, 0, 2189], 0),
  (19, .iconst (-1), 1, [], (-1)),
  (20, .putfield 159, 3, [10, 2, 2133], 0),
  (23, .iconst 0, 1, [], 0),
  (24, .istore_n 2, 1, [2], 0),
  (25, .aload_n 0, 1, [0], 0),
  (26, .iconst 0, 1, [], 0),
  (27, .putfield 162, 3, [3, 8, 2198], 0),
  (30, .iconst (-1), 1, [], (-1)),
  (31, .istore_n 3, 1, [3], 0),
  (32, .iconst 1, 1, [], 1),
  (33, .istore 4, 2, [4], 0),
  (35, .iload 4, 2, [4], 0),
  (37, .bipush 20, 2, [], 20),
  (39, .if_icmp .gt 63, 3, [56], 0),
  (42, .iload_n 3, 1, [3], 0),
  (43, .iconst (-1), 1, [], (-1)),
  (44, .if_icmp .eq 14, 3, [32], 0),
  (47, .iload_n 3, 1, [3], 0),
  (48, .bipush 20, 2, [], 20),
  (50, .imul, 1, [], 0),
  (51, .aload_n 0, 1, [0], 0),
  (52, .getfield 162, 3, [3, 8, 2198], 0),
  (55, .if_icmp .le 47, 3, [56], 0),
  (58, .aload_n 0, 1, [0], 0),
  (59, .iload 4, 2, [4], 0),
  (61, .invokevirtual 42, 3, [0, 69, 1, 3, 4145, 4147, 22, 1012], 0),
  (64, .aload_n 0, 1, [0], 0),
  (65, .invokevirtual 46, 3, [0, 72, 0, 3, 4159, 4161, 24, 1012], 0),
  (68, .aload_n 0, 1, [0], 0),
  (69, .iload_n 1, 1, [1], 0),
  (70, .invokevirtual 165, 3, [0, 122, 1, 3, 5158, 5160, 41, 1012], 0),
  (73, .istore_n 3, 1, [3], 0),
  (74, .iload 4, 2, [4], 0),
  (76, .iload_n 3, 1, [3], 0),
  (77, .imul, 1, [], 0),
  (78, .aload_n 0, 1, [0], 0),
  (79, .getfield 162, 3, [3, 8, 2198], 0),
  (82, .if_icmp .le 14, 3, [54], 0),
  (85, .aload_n 0, 1, [0], 0),
  (86, .iload 4, 2, [4], 0),
  (88, .iload_n 3, 1, [3], 0),
  (89, .imul, 1, [], 0),
  (90, .putfield 162, 3, [3, 8, 2198], 0),
  (93, .iload 4, 2, [4], 0),
  (95, .istore_n 2, 1, [2], 0),
  (96, .iinc 4 1, 3, [4], 1),
  (99, .goto (-64), 3, [20], 0),
  (102, .iload_n 2, 1, [2], 0),
  (103, .ireturn, 1, [], 0)]
def cd_Meeting_timesMet : List Ent := [(0, .iconst 0, 1, [], 0),
  (1, .istore_n 2, 1, [2], 0),
  (2, .iconst 0, 1, [], 0),
  (3, .istore_n 3, 1, [3], 0),
  (4, .iload_n 3, 1, [3], 0),
  (5, .aload_n 0, 1, [0], 0),
  (6, .getfield 38, 3, [3, 1, 2191], 0),
  (9, .getfield 61, 3, [9, 11, 1161], 0),
  (12, .if_icmp .ge 44, 3, [31], 0),
  (15, .aload_n 0, 1, [0], 0),
  (16, .iload_n 3, 1, [3], 0),
  (17, .invokevirtual 149, 3, [0, 95, 1, 3, 5031, 5032, 5033, 1012], 0),
  (20, .istore 4, 2, [4], 0),
  (22, .iload_n 2, 1, [2], 0),
  (23, .iload 4, 2, [4], 0),
  (25, .iconst (-1), 1, [], (-1)),
  (26, .if_icmp .ne 7, 3, [19], 0),
  (29, .iconst 0, 1, [], 0),
  (30, .goto 18, 3, [27], 0),
  (33, .aload_n 0, 1, [0], 0),
  (34, .getfield 28, 3, [3, 0, 2189], 0),
  (37, .aload_n 0, 1, [0], 0),
  (38, .iload 4, 2, [4], 0),
  (40, .iload_n 3, 1, [3], 0),
  (41, .invokevirtual 134, 3, [0, 77, 2, 3, 4185, 4186, 4187, 1012], 0),
  (44, .iload_n 1, 1, [1], 0),
  (45, .invokevirtual 155, 3, [0, 123, 2, 10, 5162, 5163, 5164, 1013], 0),
  (48, .iadd, 1, [], 0),
  (49, .istore_n 2, 1, [2], 0),
  (50, .iinc 3 1, 3, [3], 1),
  (53, .goto (-49), 3, [4], 0),
  (56, .iload_n 2, 1, [2], 0),
  (57, .ireturn, 1, [], 0)]
def cd_Ways_timesBetween : List Ent := [(0, .lload_n 1, 1, [1], 0),
  (1, .invokestatic 60, 3, [1, 80, 1, 4222, 4204, 1013], 0),
  (4, .istore 4, 2, [4], 0),
  (6, .iconst 0, 1, [], 0),
  (7, .istore 5, 2, [5], 0),
  (9, .iconst 1, 1, [], 1),
  (10, .istore 6, 2, [6], 0),
  (12, .iload 6, 2, [6], 0),
  (14, .aload_n 0, 1, [0], 0),
  (15, .getfield 46, 3, [10, 0, 2128], 0),
  (18, .getfield 64, 3, [6, 1, 2087], 0),
  (21, .iconst 1, 1, [], 1),
  (22, .isub, 1, [], 0),
  (23, .if_icmp .ge 37, 3, [30], 0),
  (26, .iload 5, 2, [5], 0),
  (28, .iload 4, 2, [4], 0),
  (30, .iload 6, 2, [6], 0),
  (32, .aload_n 0, 1, [0], 0),
  (33, .getfield 46, 3, [10, 0, 2128], 0),
  (36, .getfield 64, 3, [6, 1, 2087], 0),
  (39, .invokestatic 70, 3, [1, 82, 3, 4223, 4212, 1013], 0),
  (42, .iload_n 3, 1, [3], 0),
  (43, .if_icmp .ne 7, 3, [25], 0),
  (46, .iconst 1, 1, [], 1),
  (47, .goto 4, 3, [26], 0),
  (50, .iconst 0, 1, [], 0),
  (51, .iadd, 1, [], 0),
  (52, .istore 5, 2, [5], 0),
  (54, .iinc 6 1, 3, [6], 1),
  (57, .goto (-45), 3, [7], 0),
  (60, .iload 5, 2, [5], 0),
  (62, .ireturn, 1, [], 0)]
def cd_Told_keepAsks : List Ent := [(0, .aload_n 1, 1, [1], 0),
  (1, .aload_n 0, 1, [0], 0),
  (2, .getfield 15, 3, [8, 2, 3063], 0),
  (5, .invokestatic 37, 3, [4, 48, 2, 0, 4049, 1001], 0),
  (8, .aload_n 0, 1, [0], 0),
  (9, .iload_n 2, 1, [2], 0),
  (10, .putfield 41, 3, [8, 3, 3065], 0),
  (13, .return_, 1, [], 0)]
def cd_X_restOf : List Ent := [(0, .iload_n 1, 1, [1], 0),
  (1, .ifCond .lt 14, 3, [7], 0),
  (4, .iload_n 1, 1, [1], 0),
  (5, .aload_n 0, 1, [0], 0),
  (6, .getfield 99, 3, [11, 15, 3107], 0),
  (9, .getfield 316, 3, [8, 3, 3066], 0),
  (12, .if_icmp .lt 7, 3, [9], 0),
  (15, .iconst (-1), 1, [], (-1)),
  (16, .goto 12, 3, [14], 0),
  (19, .aload_n 0, 1, [0], 0),
  (20, .getfield 99, 3, [11, 15, 3107], 0),
  (23, .getfield 319, 3, [8, 2, 3064], 0),
  (26, .iload_n 1, 1, [1], 0),
  (27, .iaload, 1, [], 0),
  (28, .ireturn, 1, [], 0)]
def cd_X_middle : List Ent := [(0, .aload_n 0, 1, [0], 0),
  (1, .getfield 25, 3, [11, 4, 3096], 0),
  (4, .iload_n 1, 1, [1], 0),
  (5, .invokevirtual 152, 3, [0, 51, 1, 9, 4063, 4064, 4065, 1007], 0),
  (8, .ifCond .ne 5, 3, [7], 0),
  (11, .iconst (-1), 1, [], (-1)),
  (12, .ireturn, 1, [], 0),
  (13, .aload_n 0, 1, [0], 0),
  (14, .invokevirtual 278, 3, [0, 117, 0, 11, 5136, 5138, 39, 1001], 0),
  (17, .astore_n 2, 1, [2], 0),
  (18, .aload_n 2, 1, [2], 0),
  (19, .iload_n 1, 1, [1], 0),
  (20, .invokevirtual 313, 3, [0, 121, 1, 3, 5154, 5155, 5156, 1012], 0),
  (23, .istore_n 3, 1, [3], 0),
  (24, .aload_n 0, 1, [0], 0),
  (25, .getfield 99, 3, [11, 15, 3107], 0),
  (28, .aload_n 2, 1, [2], 0),
  (29, .getfield 320, 3, [3, 8, 2199], 0),
  (32, .putfield 323, 3, [8, 6, 3072], 0),
  (35, .iload_n 3, 1, [3], 0),
  (36, .ireturn, 1, [], 0)]
def cd_X_middleBy : List Ent := [(0, .aload_n 0, 1, [0], 0),
  (1, .getfield 99, 3, [11, 15, 3107], 0),
  (4, .getfield 323, 3, [8, 6, 3072], 0),
  (7, .ireturn, 1, [], 0)]
def cd_X_ring : List Ent := [(0, .aload_n 0, 1, [0], 0),
  (1, .getfield 92, 3, [11, 14, 3106], 0),
  (4, .aload_n 0, 1, [0], 0),
  (5, .getfield 9, 3, [11, 0, 3092], 0),
  (8, .aload_n 0, 1, [0], 0),
  (9, .invokevirtual 111, 3, [0, 16, 0, 11, 3157, 3159, 1, 1001], 0),
  (12, .invokevirtual 326, 3, [0, 129, 2, 5, 5187, 5188, 5189, 1016], 0),
  (15, .ifCond .ne 6, 3, [10], 0),
  (18, .bipush (-2), 2, [], (-2)),
  (20, .ireturn, 1, [], 0),
  (21, .aload_n 0, 1, [0], 0),
  (22, .getfield 92, 3, [11, 14, 3106], 0),
  (25, .invokevirtual 330, 3, [0, 130, 0, 5, 5193, 5194, 5195, 1016], 0),
  (28, .ifCond .ne 5, 3, [16], 0),
  (31, .iconst (-1), 1, [], (-1)),
  (32, .ireturn, 1, [], 0),
  (33, .aload_n 0, 1, [0], 0),
  (34, .getfield 92, 3, [11, 14, 3106], 0),
  (37, .invokevirtual 334, 3, [0, 134, 0, 5, 5209, 5210, 5211, 1016], 0),
  (40, .aload_n 0, 1, [0], 0),
  (41, .getfield 99, 3, [11, 15, 3107], 0),
  (44, .aload_n 0, 1, [0], 0),
  (45, .getfield 92, 3, [11, 14, 3106], 0),
  (48, .getfield 337, 3, [5, 3, 3043], 0),
  (51, .aload_n 0, 1, [0], 0),
  (52, .getfield 92, 3, [11, 14, 3106], 0),
  (55, .getfield 340, 3, [5, 2, 3041], 0),
  (58, .invokevirtual 343, 3, [0, 139, 2, 8, 5234, 5235, 5236, 1017], 0),
  (61, .aload_n 0, 1, [0], 0),
  (62, .getfield 92, 3, [11, 14, 3106], 0),
  (65, .invokevirtual 346, 3, [0, 140, 0, 5, 5238, 5239, 6000, 1016], 0),
  (68, .ireturn, 1, [], 0)]
def cd_Ring_take : List Ent := [(0, .iload_n 2, 1, [2], 0),
  (1, .iconst 2, 1, [], 2),
  (2, .if_icmp .lt 15, 3, [10], 0),
  (5, .iload_n 2, 1, [2], 0),
  (6, .bipush 8, 2, [], 8),
  (8, .if_icmp .gt 9, 3, [10], 0),
  (11, .iload_n 2, 1, [2], 0),
  (12, .aload_n 1, 1, [1], 0),
  (13, .arraylength, 1, [], 0),
  (14, .if_icmp .le 5, 3, [12], 0),
  (17, .iconst 0, 1, [], 0),
  (18, .ireturn, 1, [], 0),
  (19, .iconst 0, 1, [], 0),
  (20, .istore_n 3, 1, [3], 0),
  (21, .iconst 0, 1, [], 0),
  (22, .istore 4, 2, [4], 0),
  (24, .iload 4, 2, [4], 0),
  (26, .iload_n 2, 1, [2], 0),
  (27, .if_icmp .ge 54, 3, [47], 0),
  (30, .aload_n 1, 1, [1], 0),
  (31, .iload 4, 2, [4], 0),
  (33, .iaload, 1, [], 0),
  (34, .istore 5, 2, [5], 0),
  (36, .aload_n 0, 1, [0], 0),
  (37, .getfield 18, 3, [5, 0, 3038], 0),
  (40, .iload 5, 2, [5], 0),
  (42, .invokevirtual 22, 3, [0, 51, 1, 9, 5191, 4064, 4065, 1007], 0),
  (45, .ifCond .eq 12, 3, [32], 0),
  (48, .iload_n 3, 1, [3], 0),
  (49, .iload 5, 2, [5], 0),
  (51, .invokestatic 28, 3, [4, 66, 2, 0, 4135, 1001], 0),
  (54, .ifCond .eq 5, 3, [34], 0),
  (57, .iconst 0, 1, [], 0),
  (58, .ireturn, 1, [], 0),
  (59, .iload_n 3, 1, [3], 0),
  (60, .iconst 1, 1, [], 1),
  (61, .iload 5, 2, [5], 0),
  (63, .ishl, 1, [], 0),
  (64, .ior, 1, [], 0),
  (65, .istore_n 3, 1, [3], 0),
  (66, .aload_n 0, 1, [0], 0),
  (67, .getfield 9, 3, [5, 1, 3039], 0),
  (70, .iload 4, 2, [4], 0),
  (72, .iload 5, 2, [5], 0),
  (74, .iastore, 1, [], 0),
  (75, .iinc 4 1, 3, [4], 1),
  (78, .goto (-54), 3, [16], 0),
  (81, .aload_n 0, 1, [0], 0),
  (82, .iload_n 2, 1, [2], 0),
  (83, .putfield 32, 3, [5, 2, 3040], 0),
  (86, .iconst 1, 1, [], 1),
  (87, .ireturn, 1, [], 0)]
def cd_Ring_closes : List Ent := [(0, .iconst 0, 1, [], 0),
  (1, .istore_n 1, 1, [1], 0),
  (2, .iload_n 1, 1, [1], 0),
  (3, .aload_n 0, 1, [0], 0),
  (4, .getfield 32, 3, [5, 2, 3040], 0),
  (7, .if_icmp .ge 20, 3, [15], 0),
  (10, .aload_n 0, 1, [0], 0),
  (11, .iload_n 1, 1, [1], 0),
  (12, .invokevirtual 46, 3, [0, 131, 1, 5, 5197, 5199, 42, 1016], 0),
  (15, .iconst (-1), 1, [], (-1)),
  (16, .if_icmp .ne 5, 3, [13], 0),
  (19, .iconst 0, 1, [], 0),
  (20, .ireturn, 1, [], 0),
  (21, .iinc 1 1, 3, [1], 1),
  (24, .goto (-22), 3, [2], 0),
  (27, .iconst 1, 1, [], 1),
  (28, .ireturn, 1, [], 0)]
def cd_Ring_painsFrom : List Ent := [(0, .aload_n 0, 1, [0], 0),
  (1, .getfield 18, 3, [5, 0, 3038], 0),
  (4, .getfield 40, 3, [9, 13, 1171], 0),
  (7, .aload_n 0, 1, [0], 0),
  (8, .iload_n 1, 1, [1], 0),
  (9, .invokevirtual 43, 3, [0, 132, 1, 5, 5201, 5203, 43, 1016], 0),
  (12, .bipush 8, 2, [], 8),
  (14, .imul, 1, [], 0),
  (15, .aload_n 0, 1, [0], 0),
  (16, .iload_n 1, 1, [1], 0),
  (17, .iconst 1, 1, [], 1),
  (18, .iadd, 1, [], 0),
  (19, .invokevirtual 43, 3, [0, 132, 1, 5, 5201, 5203, 43, 1016], 0),
  (22, .iadd, 1, [], 0),
  (23, .iaload, 1, [], 0),
  (24, .ireturn, 1, [], 0)]
def cd_Ring_at : List Ent := [(0, .aload_n 0, 1, [0], 0),
  (1, .getfield 9, 3, [5, 1, 3039], 0),
  (4, .aload_n 0, 1, [0], 0),
  (5, .iload_n 1, 1, [1], 0),
  (6, .invokevirtual 36, 3, [0, 133, 1, 5, 5205, 5207, 44, 1016], 0),
  (9, .iaload, 1, [], 0),
  (10, .ireturn, 1, [], 0)]
def cd_Ring_spot : List Ent := [(0, .aload_n 0, 1, [0], 0),
  (1, .getfield 32, 3, [5, 2, 3040], 0),
  (4, .ifCond .le 12, 3, [8], 0),
  (7, .iload_n 1, 1, [1], 0),
  (8, .aload_n 0, 1, [0], 0),
  (9, .getfield 32, 3, [5, 2, 3040], 0),
  (12, .irem, 1, [], 0),
  (13, .goto 4, 3, [9], 0),
  (16, .iconst 0, 1, [], 0),
  (17, .ireturn, 1, [], 0)]
def cd_Ring_reckon : List Ent := [(0, .aload_n 0, 1, [0], 0),
  (1, .getfield 15, 3, [5, 3, 3042], 0),
  (4, .iconst 0, 1, [], 0),
  (5, .invokestatic 49, 3, [1, 276, 2, 5213, 1130, 1008], 0),
  (8, .iconst 0, 1, [], 0),
  (9, .istore_n 1, 1, [1], 0),
  (10, .iload_n 1, 1, [1], 0),
  (11, .aload_n 0, 1, [0], 0),
  (12, .getfield 32, 3, [5, 2, 3040], 0),
  (15, .if_icmp .ge 40, 3, [31], 0),
  (18, .aload_n 0, 1, [0], 0),
  (19, .aload_n 0, 1, [0], 0),
  (20, .getfield 9, 3, [5, 1, 3039], 0),
  (23, .iload_n 1, 1, [1], 0),
  (24, .iaload, 1, [], 0),
  (25, .invokevirtual 55, 3, [0, 135, 1, 5, 5214, 5216, 45, 1016], 0),
  (28, .istore_n 2, 1, [2], 0),
  (29, .iload_n 2, 1, [2], 0),
  (30, .iconst (-1), 1, [], (-1)),
  (31, .if_icmp .eq 18, 3, [29], 0),
  (34, .aload_n 0, 1, [0], 0),
  (35, .iload_n 2, 1, [2], 0),
  (36, .iload_n 1, 1, [1], 0),
  (37, .invokevirtual 58, 3, [0, 136, 2, 5, 5219, 5221, 46, 1016], 0),
  (40, .ifCond .eq 9, 3, [29], 0),
  (43, .aload_n 0, 1, [0], 0),
  (44, .iload_n 2, 1, [2], 0),
  (45, .iload_n 1, 1, [1], 0),
  (46, .invokevirtual 61, 3, [0, 137, 2, 5, 5225, 5227, 47, 1016], 0),
  (49, .iinc 1 1, 3, [1], 1),
  (52, .goto (-42), 3, [6], 0),
  (55, .return_, 1, [], 0)]
def cd_Ring_madeBy : List Ent := [(0, .iconst 0, 1, [], 0),
  (1, .istore_n 2, 1, [2], 0),
  (2, .iload_n 2, 1, [2], 0),
  (3, .aload_n 0, 1, [0], 0),
  (4, .getfield 18, 3, [5, 0, 3038], 0),
  (7, .getfield 65, 3, [9, 8, 1152], 0),
  (10, .if_icmp .ge 24, 3, [18], 0),
  (13, .aload_n 0, 1, [0], 0),
  (14, .getfield 18, 3, [5, 0, 3038], 0),
  (17, .iload_n 2, 1, [2], 0),
  (18, .iconst 1, 1, [], 1),
  (19, .invokevirtual 68, 3, [0, 61, 2, 9, 5218, 4105, 4106, 1007], 0),
  (22, .iload_n 1, 1, [1], 0),
  (23, .if_icmp .ne 5, 3, [16], 0),
  (26, .iload_n 2, 1, [2], 0),
  (27, .ireturn, 1, [], 0),
  (28, .iinc 2 1, 3, [2], 1),
  (31, .goto (-29), 3, [2], 0),
  (34, .iconst (-1), 1, [], (-1)),
  (35, .ireturn, 1, [], 0)]
def cd_Ring_goes : List Ent := [(0, .iconst 1, 1, [], 1),
  (1, .aload_n 0, 1, [0], 0),
  (2, .iload_n 2, 1, [2], 0),
  (3, .invokevirtual 43, 3, [0, 132, 1, 5, 5201, 5203, 43, 1016], 0),
  (6, .ishl, 1, [], 0),
  (7, .istore_n 3, 1, [3], 0),
  (8, .iconst 1, 1, [], 1),
  (9, .istore 4, 2, [4], 0),
  (11, .iload 4, 2, [4], 0),
  (13, .aload_n 0, 1, [0], 0),
  (14, .getfield 18, 3, [5, 0, 3038], 0),
  (17, .getfield 72, 3, [9, 15, 1181], 0),
  (20, .if_icmp .ge 56, 3, [42], 0),
  (23, .aload_n 0, 1, [0], 0),
  (24, .iload_n 2, 1, [2], 0),
  (25, .iload 4, 2, [4], 0),
  (27, .iadd, 1, [], 0),
  (28, .invokevirtual 43, 3, [0, 132, 1, 5, 5201, 5203, 43, 1016], 0),
  (31, .istore 5, 2, [5], 0),
  (33, .aload_n 0, 1, [0], 0),
  (34, .getfield 18, 3, [5, 0, 3038], 0),
  (37, .aload_n 0, 1, [0], 0),
  (38, .getfield 18, 3, [5, 0, 3038], 0),
  (41, .getfield 75, 3, [9, 16, 1186], 0),
  (44, .aload_n 0, 1, [0], 0),
  (45, .getfield 18, 3, [5, 0, 3038], 0),
  (48, .iload_n 1, 1, [1], 0),
  (49, .invokevirtual 78, 3, [0, 60, 1, 9, 5223, 4101, 4102, 1007], 0),
  (52, .iload_n 3, 1, [3], 0),
  (53, .iload 5, 2, [5], 0),
  (55, .invokevirtual 81, 3, [0, 67, 4, 9, 5224, 4138, 4139, 1007], 0),
  (58, .ifCond .ne 5, 3, [34], 0),
  (61, .iconst 0, 1, [], 0),
  (62, .ireturn, 1, [], 0),
  (63, .iload_n 3, 1, [3], 0),
  (64, .iconst 1, 1, [], 1),
  (65, .iload 5, 2, [5], 0),
  (67, .ishl, 1, [], 0),
  (68, .ior, 1, [], 0),
  (69, .istore_n 3, 1, [3], 0),
  (70, .iinc 4 1, 3, [4], 1),
  (73, .goto (-62), 3, [8], 0),
  (76, .iconst 1, 1, [], 1),
  (77, .ireturn, 1, [], 0)]
def cd_Ring_send : List Ent := [(0, .iconst 0, 1, [], 0),
  (1, .istore_n 3, 1, [3], 0),
  (2, .iload_n 3, 1, [3], 0),
  (3, .aload_n 0, 1, [0], 0),
  (4, .getfield 18, 3, [5, 0, 3038], 0),
  (7, .getfield 72, 3, [9, 15, 1181], 0),
  (10, .iconst 1, 1, [], 1),
  (11, .isub, 1, [], 0),
  (12, .if_icmp .ge 31, 3, [27], 0),
  (15, .aload_n 0, 1, [0], 0),
  (16, .getfield 15, 3, [5, 3, 3042], 0),
  (19, .aload_n 0, 1, [0], 0),
  (20, .iload_n 2, 1, [2], 0),
  (21, .iload_n 3, 1, [3], 0),
  (22, .iadd, 1, [], 0),
  (23, .invokevirtual 36, 3, [0, 133, 1, 5, 5205, 5207, 44, 1016], 0),
  (26, .dup2, 1, [], 0),
  (27, .iaload, 1, [], 0),
  (28, .aload_n 0, 1, [0], 0),
  (29, .iload_n 2, 1, [2], 0),
  (30, .iload_n 3, 1, [3], 0),
  (31, .iadd, 1, [], 0),
  (32, .invokevirtual 46, 3, [0, 131, 1, 5, 5197, 5199, 42, 1016], 0),
  (35, .isub, 1, [], 0),
  (36, .iastore, 1, [], 0),
  (37, .iinc 3 1, 3, [3], 1),
  (40, .goto (-38), 3, [2], 0),
  (43, .aload_n 0, 1, [0], 0),
  (44, .iload_n 2, 1, [2], 0),
  (45, .aload_n 0, 1, [0], 0),
  (46, .getfield 18, 3, [5, 0, 3038], 0),
  (49, .getfield 72, 3, [9, 15, 1181], 0),
  (52, .iadd, 1, [], 0),
  (53, .iconst 1, 1, [], 1),
  (54, .isub, 1, [], 0),
  (55, .invokevirtual 36, 3, [0, 133, 1, 5, 5205, 5207, 44, 1016], 0),
  (58, .istore_n 3, 1, [3], 0),
  (59, .aload_n 0, 1, [0], 0),
  (60, .getfield 15, 3, [5, 3, 3042], 0),
  (63, .iload_n 3, 1, [3], 0),
  (64, .dup2, 1, [], 0),
  (65, .iaload, 1, [], 0),
  (66, .aload_n 0, 1, [0], 0),
  (67, .aload_n 0, 1, [0], 0),
  (68, .getfield 9, 3, [5, 1, 3039], 0),
  (71, .iload_n 3, 1, [3], 0),
  (72, .iaload, 1, [], 0),
  (73, .aload_n 0, 1, [0], 0),
  (74, .getfield 18, 3, [5, 0, 3038], 0),
  (77, .iload_n 1, 1, [1], 0),
  (78, .iconst 0, 1, [], 0),
  (79, .invokevirtual 68, 3, [0, 61, 2, 9, 5218, 4105, 4106, 1007], 0),
  (82, .invokevirtual 85, 3, [0, 138, 2, 5, 5229, 5231, 48, 1016], 0),
  (85, .iadd, 1, [], 0),
  (86, .iastore, 1, [], 0),
  (87, .return_, 1, [], 0)]
def cd_Ring_worth : List Ent := [(0, .iconst 0, 1, [], 0),
  (1, .istore_n 3, 1, [3], 0),
  (2, .iload_n 3, 1, [3], 0),
  (3, .aload_n 0, 1, [0], 0),
  (4, .getfield 18, 3, [5, 0, 3038], 0),
  (7, .getfield 88, 3, [9, 11, 1163], 0),
  (10, .if_icmp .ge 45, 3, [29], 0),
  (13, .aload_n 0, 1, [0], 0),
  (14, .getfield 18, 3, [5, 0, 3038], 0),
  (17, .iload_n 3, 1, [3], 0),
  (18, .iconst 0, 1, [], 0),
  (19, .invokevirtual 91, 3, [0, 63, 2, 9, 5233, 4115, 4116, 1007], 0),
  (22, .iload_n 1, 1, [1], 0),
  (23, .if_icmp .ne 26, 3, [27], 0),
  (26, .aload_n 0, 1, [0], 0),
  (27, .getfield 18, 3, [5, 0, 3038], 0),
  (30, .iload_n 3, 1, [3], 0),
  (31, .iconst 1, 1, [], 1),
  (32, .invokevirtual 91, 3, [0, 63, 2, 9, 5233, 4115, 4116, 1007], 0),
  (35, .iload_n 2, 1, [2], 0),
  (36, .if_icmp .ne 13, 3, [27], 0),
  (39, .aload_n 0, 1, [0], 0),
  (40, .getfield 18, 3, [5, 0, 3038], 0),
  (43, .iload_n 3, 1, [3], 0),
  (44, .iconst 2, 1, [], 2),
  (45, .invokevirtual 91, 3, [0, 63, 2, 9, 5233, 4115, 4116, 1007], 0),
  (48, .ireturn, 1, [], 0),
  (49, .iinc 3 1, 3, [3], 1),
  (52, .goto (-50), 3, [2], 0),
  (55, .iconst 0, 1, [], 0),
  (56, .ireturn, 1, [], 0)]
def cd_Told_keepGains : List Ent := [(0, .aload_n 1, 1, [1], 0),
  (1, .aload_n 0, 1, [0], 0),
  (2, .getfield 18, 3, [8, 4, 3067], 0),
  (5, .invokestatic 37, 3, [4, 48, 2, 0, 4049, 1001], 0),
  (8, .aload_n 0, 1, [0], 0),
  (9, .iload_n 2, 1, [2], 0),
  (10, .putfield 44, 3, [8, 5, 3069], 0),
  (13, .return_, 1, [], 0)]
def cd_Ring_losers : List Ent := [(0, .iconst 0, 1, [], 0),
  (1, .istore_n 1, 1, [1], 0),
  (2, .iconst 0, 1, [], 0),
  (3, .istore_n 2, 1, [2], 0),
  (4, .iload_n 2, 1, [2], 0),
  (5, .aload_n 0, 1, [0], 0),
  (6, .getfield 32, 3, [5, 2, 3040], 0),
  (9, .if_icmp .ge 33, 3, [26], 0),
  (12, .iload_n 1, 1, [1], 0),
  (13, .aload_n 0, 1, [0], 0),
  (14, .getfield 15, 3, [5, 3, 3042], 0),
  (17, .iload_n 2, 1, [2], 0),
  (18, .iaload, 1, [], 0),
  (19, .ifCond .ge 14, 3, [21], 0),
  (22, .iconst 1, 1, [], 1),
  (23, .aload_n 0, 1, [0], 0),
  (24, .getfield 9, 3, [5, 1, 3039], 0),
  (27, .iload_n 2, 1, [2], 0),
  (28, .iaload, 1, [], 0),
  (29, .ishl, 1, [], 0),
  (30, .goto 4, 3, [22], 0),
  (33, .iconst 0, 1, [], 0),
  (34, .ior, 1, [], 0),
  (35, .istore_n 1, 1, [1], 0),
  (36, .iinc 2 1, 3, [2], 1),
  (39, .goto (-35), 3, [4], 0),
  (42, .iload_n 1, 1, [1], 0),
  (43, .ireturn, 1, [], 0)]
def cd_X_lasts : List Ent := [(0, .aload_n 0, 1, [0], 0),
  (1, .getfield 92, 3, [11, 14, 3106], 0),
  (4, .aload_n 0, 1, [0], 0),
  (5, .getfield 9, 3, [11, 0, 3092], 0),
  (8, .aload_n 0, 1, [0], 0),
  (9, .invokevirtual 111, 3, [0, 16, 0, 11, 3157, 3159, 1, 1001], 0),
  (12, .invokevirtual 326, 3, [0, 129, 2, 5, 5187, 5188, 5189, 1016], 0),
  (15, .ifCond .ne 6, 3, [10], 0),
  (18, .bipush (-2), 2, [], (-2)),
  (20, .ireturn, 1, [], 0),
  (21, .iconst 0, 1, [], 0),
  (22, .istore_n 1, 1, [1], 0),
  (23, .iload_n 1, 1, [1], 0),
  (24, .bipush 8, 2, [], 8),
  (26, .if_icmp .gt 67, 3, [45], 0),
  (29, .aload_n 0, 1, [0], 0),
  (30, .getfield 92, 3, [11, 14, 3106], 0),
  (33, .getfield 340, 3, [5, 2, 3041], 0),
  (36, .iconst 2, 1, [], 2),
  (37, .if_icmp .lt 13, 3, [24], 0),
  (40, .aload_n 0, 1, [0], 0),
  (41, .getfield 92, 3, [11, 14, 3106], 0),
  (44, .invokevirtual 330, 3, [0, 130, 0, 5, 5193, 5194, 5195, 1016], 0),
  (47, .ifCond .ne 5, 3, [26], 0),
  (50, .iconst (-1), 1, [], (-1)),
  (51, .ireturn, 1, [], 0),
  (52, .aload_n 0, 1, [0], 0),
  (53, .getfield 92, 3, [11, 14, 3106], 0),
  (56, .invokevirtual 334, 3, [0, 134, 0, 5, 5209, 5210, 5211, 1016], 0),
  (59, .aload_n 0, 1, [0], 0),
  (60, .getfield 92, 3, [11, 14, 3106], 0),
  (63, .invokevirtual 346, 3, [0, 140, 0, 5, 5238, 5239, 6000, 1016], 0),
  (66, .istore_n 2, 1, [2], 0),
  (67, .iload_n 2, 1, [2], 0),
  (68, .ifCond .ne 11, 3, [39], 0),
  (71, .aload_n 0, 1, [0], 0),
  (72, .getfield 92, 3, [11, 14, 3106], 0),
  (75, .invokevirtual 353, 3, [0, 142, 0, 5, 6006, 6007, 6008, 1016], 0),
  (78, .ireturn, 1, [], 0),
  (79, .aload_n 0, 1, [0], 0),
  (80, .getfield 92, 3, [11, 14, 3106], 0),
  (83, .iload_n 2, 1, [2], 0),
  (84, .invokevirtual 356, 3, [0, 143, 1, 5, 6010, 6011, 6012, 1016], 0),
  (87, .iinc 1 1, 3, [1], 1),
  (90, .goto (-67), 3, [12], 0),
  (93, .iconst (-1), 1, [], (-1)),
  (94, .ireturn, 1, [], 0)]
def cd_Ring_members : List Ent := [(0, .iconst 0, 1, [], 0),
  (1, .istore_n 1, 1, [1], 0),
  (2, .iconst 0, 1, [], 0),
  (3, .istore_n 2, 1, [2], 0),
  (4, .iload_n 2, 1, [2], 0),
  (5, .aload_n 0, 1, [0], 0),
  (6, .getfield 32, 3, [5, 2, 3040], 0),
  (9, .if_icmp .ge 20, 3, [19], 0),
  (12, .iload_n 1, 1, [1], 0),
  (13, .iconst 1, 1, [], 1),
  (14, .aload_n 0, 1, [0], 0),
  (15, .getfield 9, 3, [5, 1, 3039], 0),
  (18, .iload_n 2, 1, [2], 0),
  (19, .iaload, 1, [], 0),
  (20, .ishl, 1, [], 0),
  (21, .ior, 1, [], 0),
  (22, .istore_n 1, 1, [1], 0),
  (23, .iinc 2 1, 3, [2], 1),
  (26, .goto (-22), 3, [4], 0),
  (29, .iload_n 1, 1, [1], 0),
  (30, .ireturn, 1, [], 0)]
def cd_Ring_leave : List Ent := [(0, .iconst 0, 1, [], 0),
  (1, .istore_n 2, 1, [2], 0),
  (2, .iconst 0, 1, [], 0),
  (3, .istore_n 3, 1, [3], 0),
  (4, .iload_n 3, 1, [3], 0),
  (5, .aload_n 0, 1, [0], 0),
  (6, .getfield 32, 3, [5, 2, 3040], 0),
  (9, .if_icmp .ge 37, 3, [26], 0),
  (12, .iload_n 1, 1, [1], 0),
  (13, .aload_n 0, 1, [0], 0),
  (14, .getfield 9, 3, [5, 1, 3039], 0),
  (17, .iload_n 3, 1, [3], 0),
  (18, .iaload, 1, [], 0),
  (19, .invokestatic 28, 3, [4, 66, 2, 0, 4135, 1001], 0),
  (22, .ifCond .ne 18, 3, [24], 0),
  (25, .aload_n 0, 1, [0], 0),
  (26, .getfield 9, 3, [5, 1, 3039], 0),
  (29, .iload_n 2, 1, [2], 0),
  (30, .aload_n 0, 1, [0], 0),
  (31, .getfield 9, 3, [5, 1, 3039], 0),
  (34, .iload_n 3, 1, [3], 0),
  (35, .iaload, 1, [], 0),
  (36, .iastore, 1, [], 0),
  (37, .iinc 2 1, 3, [2], 1),
  (40, .iinc 3 1, 3, [3], 1),
  (43, .goto (-39), 3, [4], 0),
  (46, .aload_n 0, 1, [0], 0),
  (47, .iload_n 2, 1, [2], 0),
  (48, .putfield 32, 3, [5, 2, 3040], 0),
  (51, .return_, 1, [], 0)]
def cd_X_quarrel : List Ent := [(0, .aload_n 0, 1, [0], 0),
  (1, .getfield 25, 3, [11, 4, 3096], 0),
  (4, .iload_n 1, 1, [1], 0),
  (5, .invokevirtual 152, 3, [0, 51, 1, 9, 4063, 4064, 4065, 1007], 0),
  (8, .ifCond .eq 19, 3, [13], 0),
  (11, .aload_n 0, 1, [0], 0),
  (12, .getfield 25, 3, [11, 4, 3096], 0),
  (15, .iload_n 2, 1, [2], 0),
  (16, .invokevirtual 152, 3, [0, 51, 1, 9, 4063, 4064, 4065, 1007], 0),
  (19, .ifCond .eq 8, 3, [13], 0),
  (22, .iload_n 1, 1, [1], 0),
  (23, .iload_n 2, 1, [2], 0),
  (24, .if_icmp .ne 5, 3, [15], 0),
  (27, .iconst (-1), 1, [], (-1)),
  (28, .ireturn, 1, [], 0),
  (29, .aload_n 0, 1, [0], 0),
  (30, .invokevirtual 278, 3, [0, 117, 0, 11, 5136, 5138, 39, 1001], 0),
  (33, .astore_n 3, 1, [3], 0),
  (34, .aload_n 3, 1, [3], 0),
  (35, .getfield 161, 3, [3, 0, 2190], 0),
  (38, .getfield 165, 3, [10, 0, 2129], 0),
  (41, .getfield 359, 3, [6, 4, 2097], 0),
  (44, .iload_n 1, 1, [1], 0),
  (45, .bipush 8, 2, [], 8),
  (47, .imul, 1, [], 0),
  (48, .iload_n 2, 1, [2], 0),
  (49, .iadd, 1, [], 0),
  (50, .iconst (-1), 1, [], (-1)),
  (51, .iastore, 1, [], 0),
  (52, .aload_n 3, 1, [3], 0),
  (53, .getfield 161, 3, [3, 0, 2190], 0),
  (56, .getfield 165, 3, [10, 0, 2129], 0),
  (59, .getfield 359, 3, [6, 4, 2097], 0),
  (62, .iload_n 2, 1, [2], 0),
  (63, .bipush 8, 2, [], 8),
  (65, .imul, 1, [], 0),
  (66, .iload_n 1, 1, [1], 0),
  (67, .iadd, 1, [], 0),
  (68, .iconst (-1), 1, [], (-1)),
  (69, .iastore, 1, [], 0),
  (70, .aload_n 3, 1, [3], 0),
  (71, .invokevirtual 172, 3, [0, 57, 0, 3, 4088, 4089, 4090, 1012], 0),
  (74, .aload_n 0, 1, [0], 0),
  (75, .getfield 99, 3, [11, 15, 3107], 0),
  (78, .aload_n 0, 1, [0], 0),
  (79, .getfield 25, 3, [11, 4, 3096], 0),
  (82, .invokevirtual 360, 3, [0, 145, 0, 9, 6018, 6019, 6020, 1007], 0),
  (85, .aload_n 3, 1, [3], 0),
  (86, .invokevirtual 363, 3, [0, 146, 0, 3, 6022, 6023, 6024, 1012], 0),
  (89, .iconst (-1), 1, [], (-1)),
  (90, .ixor, 1, [], 0),
  (91, .iand, 1, [], 0),
  (92, .putfield 366, 3, [8, 7, 3074], 0),
  (95, .aload_n 3, 1, [3], 0),
  (96, .invokevirtual 208, 3, [0, 87, 0, 3, 4232, 4233, 4234, 1012], 0),
  (99, .ireturn, 1, [], 0)]
def cd_Village_allWants : List Ent := [(0, .iconst 1, 1, [], 1),
  (1, .aload_n 0, 1, [0], 0),
  (2, .getfield 71, 3, [9, 11, 1160], 0),
  (5, .ishl, 1, [], 0),
  (6, .iconst 1, 1, [], 1),
  (7, .isub, 1, [], 0),
  (8, .ireturn, 1, [], 0)]
def cd_Meeting_metWants : List Ent := [(0, .iconst 0, 1, [], 0),
  (1, .istore_n 1, 1, [1], 0),
  (2, .iconst 0, 1, [], 0),
  (3, .istore_n 2, 1, [2], 0),
  (4, .iload_n 2, 1, [2], 0),
  (5, .aload_n 0, 1, [0], 0),
  (6, .getfield 38, 3, [3, 1, 2191], 0),
  (9, .getfield 61, 3, [9, 11, 1161], 0),
  (12, .if_icmp .ge 28, 3, [24], 0),
  (15, .iload_n 1, 1, [1], 0),
  (16, .aload_n 0, 1, [0], 0),
  (17, .iload_n 2, 1, [2], 0),
  (18, .invokevirtual 149, 3, [0, 95, 1, 3, 5031, 5032, 5033, 1012], 0),
  (21, .iconst (-1), 1, [], (-1)),
  (22, .if_icmp .ne 7, 3, [17], 0),
  (25, .iconst 0, 1, [], 0),
  (26, .goto 6, 3, [20], 0),
  (29, .iconst 1, 1, [], 1),
  (30, .iload_n 2, 1, [2], 0),
  (31, .ishl, 1, [], 0),
  (32, .ior, 1, [], 0),
  (33, .istore_n 1, 1, [1], 0),
  (34, .iinc 2 1, 3, [2], 1),
  (37, .goto (-33), 3, [4], 0),
  (40, .iload_n 1, 1, [1], 0),
  (41, .ireturn, 1, [], 0)]
def cd_X_starves : List Ent := [(0, .aload_n 0, 1, [0], 0),
  (1, .getfield 99, 3, [11, 15, 3107], 0),
  (4, .getfield 366, 3, [8, 7, 3074], 0),
  (7, .ireturn, 1, [], 0)]
def cd_X_mend : List Ent := [(0, .aload_n 0, 1, [0], 0),
  (1, .invokevirtual 175, 3, [0, 55, 0, 11, 4079, 4081, 17, 1001], 0),
  (4, .invokevirtual 208, 3, [0, 87, 0, 3, 4232, 4233, 4234, 1012], 0),
  (7, .istore_n 1, 1, [1], 0),
  (8, .iconst (-1), 1, [], (-1)),
  (9, .istore_n 2, 1, [2], 0),
  (10, .aload_n 0, 1, [0], 0),
  (11, .invokevirtual 278, 3, [0, 117, 0, 11, 5136, 5138, 39, 1001], 0),
  (14, .astore_n 3, 1, [3], 0),
  (15, .iconst 0, 1, [], 0),
  (16, .istore 4, 2, [4], 0),
  (18, .iload 4, 2, [4], 0),
  (20, .aload_n 0, 1, [0], 0),
  (21, .getfield 25, 3, [11, 4, 3096], 0),
  (24, .getfield 305, 3, [9, 0, 1136], 0),
  (27, .if_icmp .ge 85, 3, [57], 0),
  (30, .iload_n 1, 1, [1], 0),
  (31, .aload_n 0, 1, [0], 0),
  (32, .getfield 25, 3, [11, 4, 3096], 0),
  (35, .getfield 369, 3, [9, 11, 1165], 0),
  (38, .if_icmp .ge 74, 3, [57], 0),
  (41, .iconst 0, 1, [], 0),
  (42, .istore 5, 2, [5], 0),
  (44, .iload 5, 2, [5], 0),
  (46, .aload_n 0, 1, [0], 0),
  (47, .getfield 25, 3, [11, 4, 3096], 0),
  (50, .getfield 305, 3, [9, 0, 1136], 0),
  (53, .if_icmp .ge 53, 3, [55], 0),
  (56, .iload 4, 2, [4], 0),
  (58, .iload 5, 2, [5], 0),
  (60, .if_icmp .ne 7, 3, [33], 0),
  (63, .iconst (-1), 1, [], (-1)),
  (64, .goto 16, 3, [41], 0),
  (67, .aload_n 0, 1, [0], 0),
  (68, .aload_n 3, 1, [3], 0),
  (69, .iload 4, 2, [4], 0),
  (71, .bipush 8, 2, [], 8),
  (73, .imul, 1, [], 0),
  (74, .iload 5, 2, [5], 0),
  (76, .iadd, 1, [], 0),
  (77, .invokevirtual 372, 3, [0, 149, 2, 11, 6034, 6036, 49, 1001], 0),
  (80, .istore 6, 2, [6], 0),
  (82, .iload 6, 2, [6], 0),
  (84, .iload_n 1, 1, [1], 0),
  (85, .if_icmp .le 15, 3, [53], 0),
  (88, .iload 6, 2, [6], 0),
  (90, .istore_n 1, 1, [1], 0),
  (91, .bipush 10, 2, [], 10),
  (93, .iload 4, 2, [4], 0),
  (95, .imul, 1, [], 0),
  (96, .iload 5, 2, [5], 0),
  (98, .iadd, 1, [], 0),
  (99, .istore_n 2, 1, [2], 0),
  (100, .iinc 5 1, 3, [5], 1),
  (103, .goto (-59), 3, [23], 0),
  (106, .iinc 4 1, 3, [4], 1),
  (109, .goto (-91), 3, [11], 0),
  (112, .iload_n 2, 1, [2], 0),
  (113, .ireturn, 1, [], 0)]
def cd_X_mendedMost : List Ent := [(0, .aload_n 1, 1, [1], 0),
  (1, .getfield 161, 3, [3, 0, 2190], 0),
  (4, .getfield 165, 3, [10, 0, 2129], 0),
  (7, .astore_n 3, 1, [3], 0),
  (8, .aload_n 3, 1, [3], 0),
  (9, .getfield 359, 3, [6, 4, 2097], 0),
  (12, .iload_n 2, 1, [2], 0),
  (13, .iaload, 1, [], 0),
  (14, .iconst (-1), 1, [], (-1)),
  (15, .if_icmp .eq 5, 3, [12], 0),
  (18, .iconst (-1), 1, [], (-1)),
  (19, .ireturn, 1, [], 0),
  (20, .aload_n 3, 1, [3], 0),
  (21, .getfield 359, 3, [6, 4, 2097], 0),
  (24, .iload_n 2, 1, [2], 0),
  (25, .iconst 0, 1, [], 0),
  (26, .iastore, 1, [], 0),
  (27, .aload_n 3, 1, [3], 0),
  (28, .getfield 376, 3, [6, 5, 2100], 0),
  (31, .iload_n 2, 1, [2], 0),
  (32, .iconst 1, 1, [], 1),
  (33, .iastore, 1, [], 0),
  (34, .aload_n 1, 1, [1], 0),
  (35, .invokevirtual 377, 3, [0, 150, 0, 3, 6038, 6039, 6040, 1012], 0),
  (38, .aload_n 3, 1, [3], 0),
  (39, .getfield 359, 3, [6, 4, 2097], 0),
  (42, .iload_n 2, 1, [2], 0),
  (43, .iconst (-1), 1, [], (-1)),
  (44, .iastore, 1, [], 0),
  (45, .aload_n 1, 1, [1], 0),
  (46, .invokevirtual 208, 3, [0, 87, 0, 3, 4232, 4233, 4234, 1012], 0),
  (49, .ireturn, 1, [], 0)]
def cd_Meeting_find : List Ent := [(0, .aload_n 0, 1, [0], 0),
  (1, .getfield 28, 3, [3, 0, 2189], 0),
  (4, .invokevirtual 39, 3, [0, 58, 0, 10, 4092, 4093, 4094, 1013], 0),
  (7, .aload_n 0, 1, [0], 0),
  (8, .iconst 0, 1, [], 0),
  (9, .invokevirtual 42, 3, [0, 69, 1, 3, 4145, 4147, 22, 1012], 0),
  (12, .return_, 1, [], 0)]
def cd_X_live : List Ent := [(0, .aload_n 0, 1, [0], 0),
  (1, .invokevirtual 278, 3, [0, 117, 0, 11, 5136, 5138, 39, 1001], 0),
  (4, .astore_n 1, 1, [1], 0),
  (5, .iconst 1, 1, [], 1),
  (6, .istore_n 2, 1, [2], 0),
  (7, .iload_n 2, 1, [2], 0),
  (8, .aload_n 0, 1, [0], 0),
  (9, .getfield 25, 3, [11, 4, 3096], 0),
  (12, .getfield 305, 3, [9, 0, 1136], 0),
  (15, .if_icmp .gt 49, 3, [34], 0),
  (18, .iconst 1, 1, [], 1),
  (19, .istore_n 3, 1, [3], 0),
  (20, .iload_n 3, 1, [3], 0),
  (21, .iconst 1, 1, [], 1),
  (22, .aload_n 0, 1, [0], 0),
  (23, .getfield 25, 3, [11, 4, 3096], 0),
  (26, .getfield 305, 3, [9, 0, 1136], 0),
  (29, .ishl, 1, [], 0),
  (30, .if_icmp .ge 28, 3, [32], 0),
  (33, .iload_n 3, 1, [3], 0),
  (34, .invokestatic 380, 3, [1, 278, 1, 6046, 5001, 1025], 0),
  (37, .iload_n 2, 1, [2], 0),
  (38, .if_icmp .ne 14, 3, [30], 0),
  (41, .aload_n 0, 1, [0], 0),
  (42, .aload_n 1, 1, [1], 0),
  (43, .iload_n 3, 1, [3], 0),
  (44, .invokevirtual 385, 3, [0, 152, 2, 11, 6047, 6049, 50, 1001], 0),
  (47, .ifCond .eq 5, 3, [30], 0),
  (50, .iload_n 3, 1, [3], 0),
  (51, .ireturn, 1, [], 0),
  (52, .iinc 3 1, 3, [3], 1),
  (55, .goto (-35), 3, [12], 0),
  (58, .iinc 2 1, 3, [2], 1),
  (61, .goto (-54), 3, [5], 0),
  (64, .iconst 0, 1, [], 0),
  (65, .ireturn, 1, [], 0)]
def cd_X_livesBy : List Ent := [(0, .aload_n 0, 1, [0], 0),
  (1, .getfield 25, 3, [11, 4, 3096], 0),
  (4, .iload_n 2, 1, [2], 0),
  (5, .invokevirtual 389, 3, [0, 153, 1, 9, 6051, 6052, 6053, 1007], 0),
  (8, .istore_n 3, 1, [3], 0),
  (9, .iload_n 3, 1, [3], 0),
  (10, .ifCond .ne 5, 3, [9], 0),
  (13, .iconst 0, 1, [], 0),
  (14, .ireturn, 1, [], 0),
  (15, .aload_n 1, 1, [1], 0),
  (16, .getfield 161, 3, [3, 0, 2190], 0),
  (19, .getfield 165, 3, [10, 0, 2129], 0),
  (22, .iload_n 2, 1, [2], 0),
  (23, .putfield 392, 3, [6, 6, 2103], 0),
  (26, .aload_n 1, 1, [1], 0),
  (27, .invokevirtual 377, 3, [0, 150, 0, 3, 6038, 6039, 6040, 1012], 0),
  (30, .aload_n 1, 1, [1], 0),
  (31, .invokevirtual 208, 3, [0, 87, 0, 3, 4232, 4233, 4234, 1012], 0),
  (34, .iload_n 3, 1, [3], 0),
  (35, .invokestatic 380, 3, [1, 278, 1, 6046, 5001, 1025], 0),
  (38, .if_icmp .ne 7, 3, [23], 0),
  (41, .iconst 1, 1, [], 1),
  (42, .goto 4, 3, [24], 0),
  (45, .iconst 0, 1, [], 0),
  (46, .ireturn, 1, [], 0)]
def cd_Village_wantsOf : List Ent := [(0, .iconst 0, 1, [], 0),
  (1, .istore_n 2, 1, [2], 0),
  (2, .iconst 0, 1, [], 0),
  (3, .istore_n 3, 1, [3], 0),
  (4, .iload_n 3, 1, [3], 0),
  (5, .aload_n 0, 1, [0], 0),
  (6, .getfield 71, 3, [9, 11, 1160], 0),
  (9, .if_icmp .ge 32, 3, [25], 0),
  (12, .iload_n 2, 1, [2], 0),
  (13, .iload_n 1, 1, [1], 0),
  (14, .aload_n 0, 1, [0], 0),
  (15, .iload_n 3, 1, [3], 0),
  (16, .iconst 0, 1, [], 0),
  (17, .invokevirtual 82, 3, [0, 63, 2, 9, 4171, 4115, 4116, 1007], 0),
  (20, .invokestatic 85, 3, [4, 66, 2, 0, 4135, 1001], 0),
  (23, .ifCond .eq 9, 3, [20], 0),
  (26, .iconst 1, 1, [], 1),
  (27, .iload_n 3, 1, [3], 0),
  (28, .ishl, 1, [], 0),
  (29, .goto 4, 3, [21], 0),
  (32, .iconst 0, 1, [], 0),
  (33, .ior, 1, [], 0),
  (34, .istore_n 2, 1, [2], 0),
  (35, .iinc 3 1, 3, [3], 1),
  (38, .goto (-34), 3, [4], 0),
  (41, .iload_n 2, 1, [2], 0),
  (42, .ireturn, 1, [], 0)]
def cd_X_stop : List Ent := [(0, .aload_n 0, 1, [0], 0),
  (1, .invokevirtual 278, 3, [0, 117, 0, 11, 5136, 5138, 39, 1001], 0),
  (4, .astore_n 1, 1, [1], 0),
  (5, .iconst 0, 1, [], 0),
  (6, .istore_n 2, 1, [2], 0),
  (7, .iload_n 2, 1, [2], 0),
  (8, .aload_n 0, 1, [0], 0),
  (9, .getfield 25, 3, [11, 4, 3096], 0),
  (12, .getfield 305, 3, [9, 0, 1136], 0),
  (15, .if_icmp .gt 49, 3, [34], 0),
  (18, .iconst 0, 1, [], 0),
  (19, .istore_n 3, 1, [3], 0),
  (20, .iload_n 3, 1, [3], 0),
  (21, .iconst 1, 1, [], 1),
  (22, .aload_n 0, 1, [0], 0),
  (23, .getfield 25, 3, [11, 4, 3096], 0),
  (26, .getfield 305, 3, [9, 0, 1136], 0),
  (29, .ishl, 1, [], 0),
  (30, .if_icmp .ge 28, 3, [32], 0),
  (33, .iload_n 3, 1, [3], 0),
  (34, .invokestatic 380, 3, [1, 278, 1, 6046, 5001, 1025], 0),
  (37, .iload_n 2, 1, [2], 0),
  (38, .if_icmp .ne 14, 3, [30], 0),
  (41, .aload_n 0, 1, [0], 0),
  (42, .aload_n 1, 1, [1], 0),
  (43, .iload_n 3, 1, [3], 0),
  (44, .invokevirtual 393, 3, [0, 155, 2, 11, 6060, 6062, 51, 1001], 0),
  (47, .ifCond .eq 5, 3, [30], 0),
  (50, .iload_n 3, 1, [3], 0),
  (51, .ireturn, 1, [], 0),
  (52, .iinc 3 1, 3, [3], 1),
  (55, .goto (-35), 3, [12], 0),
  (58, .iinc 2 1, 3, [2], 1),
  (61, .goto (-54), 3, [5], 0),
  (64, .iconst 0, 1, [], 0),
  (65, .ireturn, 1, [], 0)]
def cd_X_stopsBy : List Ent := [(0, .aload_n 1, 1, [1], 0),
  (1, .getfield 161, 3, [3, 0, 2190], 0),
  (4, .getfield 165, 3, [10, 0, 2129], 0),
  (7, .iload_n 2, 1, [2], 0),
  (8, .iconst (-1), 1, [], (-1)),
  (9, .ixor, 1, [], 0),
  (10, .putfield 396, 3, [6, 7, 2106], 0),
  (13, .aload_n 1, 1, [1], 0),
  (14, .invokevirtual 377, 3, [0, 150, 0, 3, 6038, 6039, 6040, 1012], 0),
  (17, .aload_n 1, 1, [1], 0),
  (18, .invokevirtual 208, 3, [0, 87, 0, 3, 4232, 4233, 4234, 1012], 0),
  (21, .ifCond .ne 7, 3, [14], 0),
  (24, .iconst 1, 1, [], 1),
  (25, .goto 4, 3, [15], 0),
  (28, .iconst 0, 1, [], 0),
  (29, .ireturn, 1, [], 0)]
def cd_X_other : List Ent := [(0, .iload_n 1, 1, [1], 0),
  (1, .iconst 2, 1, [], 2),
  (2, .if_icmp .lt 27, 3, [16], 0),
  (5, .iload_n 1, 1, [1], 0),
  (6, .bipush 6, 2, [], 6),
  (8, .if_icmp .gt 21, 3, [16], 0),
  (11, .iload_n 2, 1, [2], 0),
  (12, .ifCond .lt 17, 3, [16], 0),
  (15, .iload_n 2, 1, [2], 0),
  (16, .iconst 3, 1, [], 3),
  (17, .if_icmp .gt 12, 3, [16], 0),
  (20, .iload_n 3, 1, [3], 0),
  (21, .ifCond .lt 8, 3, [16], 0),
  (24, .iload_n 3, 1, [3], 0),
  (25, .iconst 2, 1, [], 2),
  (26, .if_icmp .le 5, 3, [18], 0),
  (29, .iconst (-1), 1, [], (-1)),
  (30, .ireturn, 1, [], 0),
  (31, .aload_n 0, 1, [0], 0),
  (32, .invokevirtual 278, 3, [0, 117, 0, 11, 5136, 5138, 39, 1001], 0),
  (35, .astore 4, 2, [4], 0),
  (37, .aload 4, 2, [4], 0),
  (39, .getfield 161, 3, [3, 0, 2190], 0),
  (42, .getfield 165, 3, [10, 0, 2129], 0),
  (45, .iload_n 1, 1, [1], 0),
  (46, .putfield 281, 3, [6, 1, 2088], 0),
  (49, .aload 4, 2, [4], 0),
  (51, .getfield 161, 3, [3, 0, 2190], 0),
  (54, .getfield 165, 3, [10, 0, 2129], 0),
  (57, .iload_n 2, 1, [2], 0),
  (58, .putfield 399, 3, [6, 2, 2091], 0),
  (61, .aload 4, 2, [4], 0),
  (63, .invokevirtual 172, 3, [0, 57, 0, 3, 4088, 4089, 4090, 1012], 0),
  (66, .iload_n 3, 1, [3], 0),
  (67, .ifCond .ne 9, 3, [38], 0),
  (70, .aload 4, 2, [4], 0),
  (72, .invokevirtual 208, 3, [0, 87, 0, 3, 4232, 4233, 4234, 1012], 0),
  (75, .ireturn, 1, [], 0),
  (76, .iload_n 3, 1, [3], 0),
  (77, .iconst 1, 1, [], 1),
  (78, .if_icmp .ne 11, 3, [44], 0),
  (81, .aload 4, 2, [4], 0),
  (83, .invokevirtual 214, 3, [0, 92, 0, 3, 5019, 5020, 5021, 1012], 0),
  (86, .goto 8, 3, [46], 0),
  (89, .aload 4, 2, [4], 0),
  (91, .invokevirtual 220, 3, [0, 94, 0, 3, 5027, 5028, 5029, 1012], 0),
  (94, .ireturn, 1, [], 0)]
def cd_X_note : List Ent := [(0, .aload_n 0, 1, [0], 0),
  (1, .getfield 25, 3, [11, 4, 3096], 0),
  (4, .iload_n 1, 1, [1], 0),
  (5, .invokevirtual 136, 3, [0, 53, 1, 9, 4071, 4072, 4073, 1007], 0),
  (8, .ifCond .eq 46, 3, [25], 0),
  (11, .aload_n 0, 1, [0], 0),
  (12, .getfield 25, 3, [11, 4, 3096], 0),
  (15, .iload_n 2, 1, [2], 0),
  (16, .invokevirtual 152, 3, [0, 51, 1, 9, 4063, 4064, 4065, 1007], 0),
  (19, .ifCond .eq 35, 3, [25], 0),
  (22, .aload_n 0, 1, [0], 0),
  (23, .getfield 25, 3, [11, 4, 3096], 0),
  (26, .iload_n 3, 1, [3], 0),
  (27, .invokevirtual 152, 3, [0, 51, 1, 9, 4063, 4064, 4065, 1007], 0),
  (30, .ifCond .eq 24, 3, [25], 0),
  (33, .iload_n 2, 1, [2], 0),
  (34, .iload_n 3, 1, [3], 0),
  (35, .if_icmp .eq 19, 3, [25], 0),
  (38, .iload 4, 2, [4], 0),
  (40, .ifCond .lt 14, 3, [25], 0),
  (43, .iload 4, 2, [4], 0),
  (45, .bipush 48, 2, [], 48),
  (47, .if_icmp .ge 7, 3, [25], 0),
  (50, .iconst 1, 1, [], 1),
  (51, .goto 4, 3, [26], 0),
  (54, .iconst 0, 1, [], 0),
  (55, .istore 5, 2, [5], 0),
  (57, .iload 5, 2, [5], 0),
  (59, .ifCond .eq 18, 3, [37], 0),
  (62, .aload_n 0, 1, [0], 0),
  (63, .getfield 45, 3, [11, 8, 3100], 0),
  (66, .iload_n 1, 1, [1], 0),
  (67, .iload_n 2, 1, [2], 0),
  (68, .iload_n 3, 1, [3], 0),
  (69, .iload 4, 2, [4], 0),
  (71, .invokevirtual 402, 3, [0, 158, 4, 0, 6072, 6073, 6074, 1010], 0),
  (74, .goto 4, 3, [38], 0),
  (77, .iconst (-1), 1, [], (-1)),
  (78, .ireturn, 1, [], 0)]
def cd_Book_add : List Ent := [(0, .iconst 0, 1, [], 0),
  (1, .istore 5, 2, [5], 0),
  (3, .iconst 0, 1, [], 0),
  (4, .istore 6, 2, [6], 0),
  (6, .iload 6, 2, [6], 0),
  (8, .aload_n 0, 1, [0], 0),
  (9, .getfield 30, 3, [0, 0, 2022], 0),
  (12, .if_icmp .ge 30, 3, [22], 0),
  (15, .iload 5, 2, [5], 0),
  (17, .aload_n 0, 1, [0], 0),
  (18, .getfield 9, 3, [0, 1, 2024], 0),
  (21, .iload 6, 2, [6], 0),
  (23, .iaload, 1, [], 0),
  (24, .iload_n 1, 1, [1], 0),
  (25, .if_icmp .ne 7, 3, [17], 0),
  (28, .iconst 1, 1, [], 1),
  (29, .goto 4, 3, [18], 0),
  (32, .iconst 0, 1, [], 0),
  (33, .iadd, 1, [], 0),
  (34, .istore 5, 2, [5], 0),
  (36, .iinc 6 1, 3, [6], 1),
  (39, .goto (-33), 3, [4], 0),
  (42, .aload_n 0, 1, [0], 0),
  (43, .getfield 30, 3, [0, 0, 2022], 0),
  (46, .bipush 40, 2, [], 40),
  (48, .if_icmp .ge 10, 3, [29], 0),
  (51, .iload 5, 2, [5], 0),
  (53, .bipush 8, 2, [], 8),
  (55, .if_icmp .lt 5, 3, [31], 0),
  (58, .iconst (-1), 1, [], (-1)),
  (59, .ireturn, 1, [], 0),
  (60, .aload_n 0, 1, [0], 0),
  (61, .getfield 9, 3, [0, 1, 2024], 0),
  (64, .aload_n 0, 1, [0], 0),
  (65, .getfield 30, 3, [0, 0, 2022], 0),
  (68, .iload_n 1, 1, [1], 0),
  (69, .iastore, 1, [], 0),
  (70, .aload_n 0, 1, [0], 0),
  (71, .getfield 15, 3, [0, 2, 2025], 0),
  (74, .aload_n 0, 1, [0], 0),
  (75, .getfield 30, 3, [0, 0, 2022], 0),
  (78, .iload_n 2, 1, [2], 0),
  (79, .iastore, 1, [], 0),
  (80, .aload_n 0, 1, [0], 0),
  (81, .getfield 18, 3, [0, 3, 2026], 0),
  (84, .aload_n 0, 1, [0], 0),
  (85, .getfield 30, 3, [0, 0, 2022], 0),
  (88, .iload_n 3, 1, [3], 0),
  (89, .iastore, 1, [], 0),
  (90, .aload_n 0, 1, [0], 0),
  (91, .getfield 21, 3, [0, 4, 2027], 0),
  (94, .aload_n 0, 1, [0], 0),
  (95, .getfield 30, 3, [0, 0, 2022], 0),
  (98, .iload 4, 2, [4], 0),
  (100, .iastore, 1, [], 0),
  (101, .aload_n 0, 1, [0], 0),
  (102, .dup, 1, [], 0),
  (103, .getfield 30, 3, [0, 0, 2022], 0),
  (106, .iconst 1, 1, [], 1),
  (107, .iadd, 1, [], 0),
  (108, .putfield 30, 3, [0, 0, 2022], 0),
  (111, .aload_n 0, 1, [0], 0),
  (112, .getfield 30, 3, [0, 0, 2022], 0),
  (115, .iconst 1, 1, [], 1),
  (116, .isub, 1, [], 0),
  (117, .ireturn, 1, [], 0)]
def cd_X_lies : List Ent := [(0, .aload_n 0, 1, [0], 0),
  (1, .getfield 25, 3, [11, 4, 3096], 0),
  (4, .iload_n 1, 1, [1], 0),
  (5, .invokevirtual 136, 3, [0, 53, 1, 9, 4071, 4072, 4073, 1007], 0),
  (8, .ifCond .eq 12, 3, [10], 0),
  (11, .iload_n 2, 1, [2], 0),
  (12, .ifCond .lt 8, 3, [10], 0),
  (15, .iload_n 2, 1, [2], 0),
  (16, .iconst 2, 1, [], 2),
  (17, .if_icmp .le 5, 3, [12], 0),
  (20, .iconst (-1), 1, [], (-1)),
  (21, .ireturn, 1, [], 0),
  (22, .aload_n 0, 1, [0], 0),
  (23, .getfield 45, 3, [11, 8, 3100], 0),
  (26, .iload_n 1, 1, [1], 0),
  (27, .aload_n 0, 1, [0], 0),
  (28, .getfield 25, 3, [11, 4, 3096], 0),
  (31, .invokevirtual 406, 3, [0, 160, 2, 0, 6080, 6081, 6082, 1010], 0),
  (34, .istore_n 3, 1, [3], 0),
  (35, .iload_n 2, 1, [2], 0),
  (36, .ifCond .ne 8, 3, [24], 0),
  (39, .iload_n 3, 1, [3], 0),
  (40, .invokestatic 380, 3, [1, 278, 1, 6046, 5001, 1025], 0),
  (43, .ireturn, 1, [], 0),
  (44, .iload_n 2, 1, [2], 0),
  (45, .iconst 1, 1, [], 1),
  (46, .if_icmp .ne 7, 3, [29], 0),
  (49, .iload_n 3, 1, [3], 0),
  (50, .goto 16, 3, [36], 0),
  (53, .aload_n 0, 1, [0], 0),
  (54, .getfield 45, 3, [11, 8, 3100], 0),
  (57, .iload_n 1, 1, [1], 0),
  (58, .iload_n 3, 1, [3], 0),
  (59, .aload_n 0, 1, [0], 0),
  (60, .getfield 25, 3, [11, 4, 3096], 0),
  (63, .invokevirtual 410, 3, [0, 163, 3, 0, 6096, 6097, 6098, 1010], 0),
  (66, .ireturn, 1, [], 0)]
def cd_Book_found : List Ent := [(0, .aload_n 0, 1, [0], 0),
  (1, .iload_n 1, 1, [1], 0),
  (2, .invokevirtual 38, 3, [0, 161, 1, 0, 6084, 6086, 52, 1010], 0),
  (5, .istore_n 3, 1, [3], 0),
  (6, .iconst 1, 1, [], 1),
  (7, .iload_n 3, 1, [3], 0),
  (8, .ishl, 1, [], 0),
  (9, .iconst 1, 1, [], 1),
  (10, .isub, 1, [], 0),
  (11, .istore 4, 2, [4], 0),
  (13, .iload 4, 2, [4], 0),
  (15, .istore 5, 2, [5], 0),
  (17, .iconst 0, 1, [], 0),
  (18, .istore 6, 2, [6], 0),
  (20, .iload 6, 2, [6], 0),
  (22, .iload 4, 2, [4], 0),
  (24, .if_icmp .ge 38, 3, [33], 0),
  (27, .iload 6, 2, [6], 0),
  (29, .invokestatic 42, 3, [1, 278, 1, 6088, 5001, 1025], 0),
  (32, .iload 5, 2, [5], 0),
  (34, .invokestatic 42, 3, [1, 278, 1, 6088, 5001, 1025], 0),
  (37, .if_icmp .ge 19, 3, [31], 0),
  (40, .aload_n 0, 1, [0], 0),
  (41, .iload_n 1, 1, [1], 0),
  (42, .iload_n 3, 1, [3], 0),
  (43, .iload 6, 2, [6], 0),
  (45, .aload_n 2, 1, [2], 0),
  (46, .invokevirtual 47, 3, [0, 162, 4, 0, 6089, 6091, 53, 1010], 0),
  (49, .ifCond .eq 7, 3, [31], 0),
  (52, .iload 6, 2, [6], 0),
  (54, .istore 5, 2, [5], 0),
  (56, .iinc 6 1, 3, [6], 1),
  (59, .goto (-39), 3, [14], 0),
  (62, .iload 5, 2, [5], 0),
  (64, .ireturn, 1, [], 0)]
def cd_Book_sort : List Ent := [(0, .iconst 0, 1, [], 0),
  (1, .istore_n 2, 1, [2], 0),
  (2, .iconst 0, 1, [], 0),
  (3, .istore_n 3, 1, [3], 0),
  (4, .iload_n 3, 1, [3], 0),
  (5, .aload_n 0, 1, [0], 0),
  (6, .getfield 30, 3, [0, 0, 2022], 0),
  (9, .if_icmp .ge 113, 3, [70], 0),
  (12, .iload_n 2, 1, [2], 0),
  (13, .bipush 8, 2, [], 8),
  (15, .if_icmp .ge 107, 3, [70], 0),
  (18, .aload_n 0, 1, [0], 0),
  (19, .getfield 9, 3, [0, 1, 2024], 0),
  (22, .iload_n 3, 1, [3], 0),
  (23, .iaload, 1, [], 0),
  (24, .iload_n 1, 1, [1], 0),
  (25, .if_icmp .ne 91, 3, [68], 0),
  (28, .iload_n 2, 1, [2], 0),
  (29, .istore 4, 2, [4], 0),
  (31, .iload 4, 2, [4], 0),
  (33, .ifCond .le 64, 3, [57], 0),
  (36, .aload_n 0, 1, [0], 0),
  (37, .getfield 21, 3, [0, 4, 2027], 0),
  (40, .aload_n 0, 1, [0], 0),
  (41, .getfield 24, 3, [0, 5, 2028], 0),
  (44, .iload 4, 2, [4], 0),
  (46, .iconst 1, 1, [], 1),
  (47, .isub, 1, [], 0),
  (48, .iaload, 1, [], 0),
  (49, .iaload, 1, [], 0),
  (50, .aload_n 0, 1, [0], 0),
  (51, .getfield 21, 3, [0, 4, 2027], 0),
  (54, .iload_n 3, 1, [3], 0),
  (55, .iaload, 1, [], 0),
  (56, .if_icmp .le 41, 3, [57], 0),
  (59, .aload_n 0, 1, [0], 0),
  (60, .getfield 24, 3, [0, 5, 2028], 0),
  (63, .iload 4, 2, [4], 0),
  (65, .aload_n 0, 1, [0], 0),
  (66, .getfield 24, 3, [0, 5, 2028], 0),
  (69, .iload 4, 2, [4], 0),
  (71, .iconst 1, 1, [], 1),
  (72, .isub, 1, [], 0),
  (73, .iaload, 1, [], 0),
  (74, .iastore, 1, [], 0),
  (75, .aload_n 0, 1, [0], 0),
  (76, .getfield 27, 3, [0, 6, 2029], 0),
  (79, .iload 4, 2, [4], 0),
  (81, .aload_n 0, 1, [0], 0),
  (82, .getfield 27, 3, [0, 6, 2029], 0),
  (85, .iload 4, 2, [4], 0),
  (87, .iconst 1, 1, [], 1),
  (88, .isub, 1, [], 0),
  (89, .iaload, 1, [], 0),
  (90, .iastore, 1, [], 0),
  (91, .iinc 4 (-1), 3, [4], (-1)),
  (94, .goto (-63), 3, [19], 0),
  (97, .aload_n 0, 1, [0], 0),
  (98, .getfield 24, 3, [0, 5, 2028], 0),
  (101, .iload 4, 2, [4], 0),
  (103, .iload_n 3, 1, [3], 0),
  (104, .iastore, 1, [], 0),
  (105, .aload_n 0, 1, [0], 0),
  (106, .getfield 27, 3, [0, 6, 2029], 0),
  (109, .iload 4, 2, [4], 0),
  (111, .iload_n 2, 1, [2], 0),
  (112, .iastore, 1, [], 0),
  (113, .iinc 2 1, 3, [2], 1),
  (116, .iinc 3 1, 3, [3], 1),
  (119, .goto (-115), 3, [4], 0),
  (122, .iload_n 2, 1, [2], 0),
  (123, .ireturn, 1, [], 0)]
def cd_Book_areTrue : List Ent := [(0, .iconst (-1), 1, [], (-1)),
  (1, .istore 5, 2, [5], 0),
  (3, .iconst 0, 1, [], 0),
  (4, .istore 6, 2, [6], 0),
  (6, .iload 6, 2, [6], 0),
  (8, .iload_n 2, 1, [2], 0),
  (9, .if_icmp .ge 109, 3, [61], 0),
  (12, .iload_n 3, 1, [3], 0),
  (13, .aload_n 0, 1, [0], 0),
  (14, .getfield 27, 3, [0, 6, 2029], 0),
  (17, .iload 6, 2, [6], 0),
  (19, .iaload, 1, [], 0),
  (20, .invokestatic 51, 3, [4, 66, 2, 0, 4135, 1001], 0),
  (23, .ifCond .ne 89, 3, [59], 0),
  (26, .aload_n 0, 1, [0], 0),
  (27, .getfield 24, 3, [0, 5, 2028], 0),
  (30, .iload 6, 2, [6], 0),
  (32, .iaload, 1, [], 0),
  (33, .istore 7, 2, [7], 0),
  (35, .iload 5, 2, [5], 0),
  (37, .iconst (-1), 1, [], (-1)),
  (38, .if_icmp .ne 22, 3, [31], 0),
  (41, .aload 4, 2, [4], 0),
  (43, .iload_n 1, 1, [1], 0),
  (44, .invokevirtual 55, 3, [0, 60, 1, 9, 6094, 4101, 4102, 1007], 0),
  (47, .aload_n 0, 1, [0], 0),
  (48, .getfield 15, 3, [0, 2, 2025], 0),
  (51, .iload 7, 2, [7], 0),
  (53, .iaload, 1, [], 0),
  (54, .invokestatic 51, 3, [4, 66, 2, 0, 4135, 1001], 0),
  (57, .goto 20, 3, [40], 0),
  (60, .iload 5, 2, [5], 0),
  (62, .aload_n 0, 1, [0], 0),
  (63, .getfield 15, 3, [0, 2, 2025], 0),
  (66, .iload 7, 2, [7], 0),
  (68, .iaload, 1, [], 0),
  (69, .if_icmp .ne 7, 3, [39], 0),
  (72, .iconst 1, 1, [], 1),
  (73, .goto 4, 3, [40], 0),
  (76, .iconst 0, 1, [], 0),
  (77, .istore 8, 2, [8], 0),
  (79, .iload 8, 2, [8], 0),
  (81, .ifCond .eq 20, 3, [52], 0),
  (84, .aload_n 0, 1, [0], 0),
  (85, .getfield 21, 3, [0, 4, 2027], 0),
  (88, .iload 7, 2, [7], 0),
  (90, .iaload, 1, [], 0),
  (91, .aload 4, 2, [4], 0),
  (93, .iload_n 1, 1, [1], 0),
  (94, .iconst 3, 1, [], 3),
  (95, .invokevirtual 60, 3, [0, 61, 2, 9, 6095, 4105, 4106, 1007], 0),
  (98, .if_icmp .ge 5, 3, [54], 0),
  (101, .iconst 0, 1, [], 0),
  (102, .ireturn, 1, [], 0),
  (103, .aload_n 0, 1, [0], 0),
  (104, .getfield 18, 3, [0, 3, 2026], 0),
  (107, .iload 7, 2, [7], 0),
  (109, .iaload, 1, [], 0),
  (110, .istore 5, 2, [5], 0),
  (112, .iinc 6 1, 3, [6], 1),
  (115, .goto (-109), 3, [4], 0),
  (118, .iconst 1, 1, [], 1),
  (119, .ireturn, 1, [], 0)]
def cd_Book_holder : List Ent := [(0, .aload_n 0, 1, [0], 0),
  (1, .iload_n 1, 1, [1], 0),
  (2, .invokevirtual 38, 3, [0, 161, 1, 0, 6084, 6086, 52, 1010], 0),
  (5, .istore 4, 2, [4], 0),
  (7, .aload_n 3, 1, [3], 0),
  (8, .iload_n 1, 1, [1], 0),
  (9, .iconst 1, 1, [], 1),
  (10, .invokevirtual 60, 3, [0, 61, 2, 9, 6095, 4105, 4106, 1007], 0),
  (13, .istore 5, 2, [5], 0),
  (15, .iconst 0, 1, [], 0),
  (16, .istore 6, 2, [6], 0),
  (18, .iload 6, 2, [6], 0),
  (20, .iload 4, 2, [4], 0),
  (22, .if_icmp .ge 42, 3, [33], 0),
  (25, .iload_n 2, 1, [2], 0),
  (26, .aload_n 0, 1, [0], 0),
  (27, .getfield 27, 3, [0, 6, 2029], 0),
  (30, .iload 6, 2, [6], 0),
  (32, .iaload, 1, [], 0),
  (33, .invokestatic 51, 3, [4, 66, 2, 0, 4135, 1001], 0),
  (36, .ifCond .eq 8, 3, [23], 0),
  (39, .iload 5, 2, [5], 0),
  (41, .goto 15, 3, [30], 0),
  (44, .aload_n 0, 1, [0], 0),
  (45, .getfield 18, 3, [0, 3, 2026], 0),
  (48, .aload_n 0, 1, [0], 0),
  (49, .getfield 24, 3, [0, 5, 2028], 0),
  (52, .iload 6, 2, [6], 0),
  (54, .iaload, 1, [], 0),
  (55, .iaload, 1, [], 0),
  (56, .istore 5, 2, [5], 0),
  (58, .iinc 6 1, 3, [6], 1),
  (61, .goto (-43), 3, [11], 0),
  (64, .iload 5, 2, [5], 0),
  (66, .ireturn, 1, [], 0)]
def cd_X_image : List Ent := [(0, .iload_n 1, 1, [1], 0),
  (1, .ifCond .lt 12, 3, [7], 0),
  (4, .iload_n 1, 1, [1], 0),
  (5, .aload_n 0, 1, [0], 0),
  (6, .getfield 52, 3, [11, 9, 3101], 0),
  (9, .arraylength, 1, [], 0),
  (10, .if_icmp .lt 5, 3, [9], 0),
  (13, .iconst 0, 1, [], 0),
  (14, .ireturn, 1, [], 0),
  (15, .aload_n 0, 1, [0], 0),
  (16, .getfield 52, 3, [11, 9, 3101], 0),
  (19, .iload_n 1, 1, [1], 0),
  (20, .aaload, 1, [], 0),
  (21, .astore_n 2, 1, [2], 0),
  (22, .aload_n 2, 1, [2], 0),
  (23, .getfield 414, 3, [2, 1, 2060], 0),
  (26, .aload_n 0, 1, [0], 0),
  (27, .getfield 25, 3, [11, 4, 3096], 0),
  (30, .invokevirtual 127, 3, [0, 47, 1, 9, 4044, 4045, 4046, 1007], 0),
  (33, .aload_n 2, 1, [2], 0),
  (34, .getfield 415, 3, [2, 2, 2062], 0),
  (37, .aload_n 0, 1, [0], 0),
  (38, .getfield 35, 3, [11, 6, 3098], 0),
  (41, .invokevirtual 230, 3, [0, 101, 1, 4, 5065, 5066, 5067, 1009], 0),
  (44, .aload_n 2, 1, [2], 0),
  (45, .getfield 416, 3, [2, 3, 2064], 0),
  (48, .aload_n 0, 1, [0], 0),
  (49, .getfield 45, 3, [11, 8, 3100], 0),
  (52, .invokevirtual 417, 3, [0, 165, 1, 0, 6104, 6105, 6106, 1010], 0),
  (55, .aload_n 2, 1, [2], 0),
  (56, .iconst 1, 1, [], 1),
  (57, .putfield 420, 3, [2, 0, 2058], 0),
  (60, .iconst 1, 1, [], 1),
  (61, .ireturn, 1, [], 0)]
def cd_Book_copy : List Ent := [(0, .aload_n 0, 1, [0], 0),
  (1, .aload_n 1, 1, [1], 0),
  (2, .getfield 30, 3, [0, 0, 2022], 0),
  (5, .putfield 30, 3, [0, 0, 2022], 0),
  (8, .aload_n 1, 1, [1], 0),
  (9, .getfield 9, 3, [0, 1, 2024], 0),
  (12, .aload_n 0, 1, [0], 0),
  (13, .getfield 9, 3, [0, 1, 2024], 0),
  (16, .invokestatic 34, 3, [4, 48, 2, 0, 4049, 1001], 0),
  (19, .aload_n 1, 1, [1], 0),
  (20, .getfield 15, 3, [0, 2, 2025], 0),
  (23, .aload_n 0, 1, [0], 0),
  (24, .getfield 15, 3, [0, 2, 2025], 0),
  (27, .invokestatic 34, 3, [4, 48, 2, 0, 4049, 1001], 0),
  (30, .aload_n 1, 1, [1], 0),
  (31, .getfield 18, 3, [0, 3, 2026], 0),
  (34, .aload_n 0, 1, [0], 0),
  (35, .getfield 18, 3, [0, 3, 2026], 0),
  (38, .invokestatic 34, 3, [4, 48, 2, 0, 4049, 1001], 0),
  (41, .aload_n 1, 1, [1], 0),
  (42, .getfield 21, 3, [0, 4, 2027], 0),
  (45, .aload_n 0, 1, [0], 0),
  (46, .getfield 21, 3, [0, 4, 2027], 0),
  (49, .invokestatic 34, 3, [4, 48, 2, 0, 4049, 1001], 0),
  (52, .return_, 1, [], 0)]
def cd_X_restore : List Ent := [(0, .iload_n 1, 1, [1], 0),
  (1, .ifCond .lt 24, 3, [13], 0),
  (4, .iload_n 1, 1, [1], 0),
  (5, .aload_n 0, 1, [0], 0),
  (6, .getfield 52, 3, [11, 9, 3101], 0),
  (9, .arraylength, 1, [], 0),
  (10, .if_icmp .ge 15, 3, [13], 0),
  (13, .aload_n 0, 1, [0], 0),
  (14, .getfield 52, 3, [11, 9, 3101], 0),
  (17, .iload_n 1, 1, [1], 0),
  (18, .aaload, 1, [], 0),
  (19, .getfield 420, 3, [2, 0, 2058], 0),
  (22, .ifCond .ne 5, 3, [15], 0),
  (25, .iconst 0, 1, [], 0),
  (26, .ireturn, 1, [], 0),
  (27, .aload_n 0, 1, [0], 0),
  (28, .getfield 52, 3, [11, 9, 3101], 0),
  (31, .iload_n 1, 1, [1], 0),
  (32, .aaload, 1, [], 0),
  (33, .astore_n 2, 1, [2], 0),
  (34, .aload_n 0, 1, [0], 0),
  (35, .getfield 25, 3, [11, 4, 3096], 0),
  (38, .aload_n 2, 1, [2], 0),
  (39, .getfield 414, 3, [2, 1, 2060], 0),
  (42, .invokevirtual 127, 3, [0, 47, 1, 9, 4044, 4045, 4046, 1007], 0),
  (45, .aload_n 0, 1, [0], 0),
  (46, .getfield 35, 3, [11, 6, 3098], 0),
  (49, .aload_n 2, 1, [2], 0),
  (50, .getfield 415, 3, [2, 2, 2062], 0),
  (53, .invokevirtual 230, 3, [0, 101, 1, 4, 5065, 5066, 5067, 1009], 0),
  (56, .aload_n 0, 1, [0], 0),
  (57, .getfield 45, 3, [11, 8, 3100], 0),
  (60, .aload_n 2, 1, [2], 0),
  (61, .getfield 416, 3, [2, 3, 2064], 0),
  (64, .invokevirtual 417, 3, [0, 165, 1, 0, 6104, 6105, 6106, 1010], 0),
  (67, .aload_n 0, 1, [0], 0),
  (68, .iconst 1, 1, [], 1),
  (69, .putfield 78, 3, [11, 12, 3104], 0),
  (72, .iconst 1, 1, [], 1),
  (73, .ireturn, 1, [], 0)]
def cd_X_count : List Ent := [(0, .iload_n 1, 1, [1], 0),
  (1, .tableswitch 120 0 8 #[51, 59, 67, 75, 83, 91, 99, 107, 115], 51, [37, 2, 6, 10, 14, 18, 22, 26, 30, 34], 0),
  (52, .aload_n 0, 1, [0], 0),
  (53, .getfield 25, 3, [11, 4, 3096], 0),
  (56, .getfield 305, 3, [9, 0, 1136], 0),
  (59, .ireturn, 1, [], 0),
  (60, .aload_n 0, 1, [0], 0),
  (61, .getfield 25, 3, [11, 4, 3096], 0),
  (64, .getfield 423, 3, [9, 5, 1145], 0),
  (67, .ireturn, 1, [], 0),
  (68, .aload_n 0, 1, [0], 0),
  (69, .getfield 25, 3, [11, 4, 3096], 0),
  (72, .getfield 233, 3, [9, 8, 1154], 0),
  (75, .ireturn, 1, [], 0),
  (76, .aload_n 0, 1, [0], 0),
  (77, .getfield 25, 3, [11, 4, 3096], 0),
  (80, .getfield 369, 3, [9, 11, 1165], 0),
  (83, .ireturn, 1, [], 0),
  (84, .aload_n 0, 1, [0], 0),
  (85, .getfield 25, 3, [11, 4, 3096], 0),
  (88, .getfield 189, 3, [9, 15, 1182], 0),
  (91, .ireturn, 1, [], 0),
  (92, .aload_n 0, 1, [0], 0),
  (93, .getfield 25, 3, [11, 4, 3096], 0),
  (96, .getfield 426, 3, [9, 16, 1187], 0),
  (99, .ireturn, 1, [], 0),
  (100, .aload_n 0, 1, [0], 0),
  (101, .getfield 35, 3, [11, 6, 3098], 0),
  (104, .getfield 130, 3, [4, 0, 1234], 0),
  (107, .ireturn, 1, [], 0),
  (108, .aload_n 0, 1, [0], 0),
  (109, .getfield 45, 3, [11, 8, 3100], 0),
  (112, .getfield 133, 3, [0, 0, 2023], 0),
  (115, .ireturn, 1, [], 0),
  (116, .aload_n 0, 1, [0], 0),
  (117, .getfield 103, 3, [11, 1, 3093], 0),
  (120, .ireturn, 1, [], 0),
  (121, .iconst (-1), 1, [], (-1)),
  (122, .ireturn, 1, [], 0)]
def cd_M_thrown : List Ent := [(0, .aload_n 0, 1, [0], 0),
  (1, .getfield 1, 3, [12, 0, 7006], 0),
  (4, .ireturn, 1, [], 0)]
def cd_M_feed : List Ent := [(0, .aload_n 0, 1, [0], 0),
  (1, .iconst 0, 1, [], 0),
  (2, .putfield 1, 3, [12, 0, 7006], 0),
  (5, .aload_n 0, 1, [0], 0),
  (6, .getfield 7, 3, [12, 2, 7008], 0),
  (9, .bipush 20, 2, [], 20),
  (11, .iadd, 1, [], 0),
  (12, .sipush 1040, 3, [], 1040),
  (15, .if_icmp .le 5, 3, [11], 0),
  (18, .iconst (-1), 1, [], (-1)),
  (19, .ireturn, 1, [], 0),
  (20, .aload_n 0, 1, [0], 0),
  (21, .iload_n 1, 1, [1], 0),
  (22, .invokevirtual 10, 3, [0, 170, 1, 12, 6215, 6217, 55, 1018], 0),
  (25, .aload_n 0, 1, [0], 0),
  (26, .iload_n 2, 1, [2], 0),
  (27, .invokevirtual 10, 3, [0, 170, 1, 12, 6215, 6217, 55, 1018], 0),
  (30, .aload_n 0, 1, [0], 0),
  (31, .iload_n 3, 1, [3], 0),
  (32, .invokevirtual 10, 3, [0, 170, 1, 12, 6215, 6217, 55, 1018], 0),
  (35, .aload_n 0, 1, [0], 0),
  (36, .iload 4, 2, [4], 0),
  (38, .invokevirtual 10, 3, [0, 170, 1, 12, 6215, 6217, 55, 1018], 0),
  (41, .aload_n 0, 1, [0], 0),
  (42, .iload 5, 2, [5], 0),
  (44, .invokevirtual 10, 3, [0, 170, 1, 12, 6215, 6217, 55, 1018], 0),
  (47, .aload_n 0, 1, [0], 0),
  (48, .getfield 7, 3, [12, 2, 7008], 0),
  (51, .ireturn, 1, [], 0)]
def cd_M_four : List Ent := [(0, .bipush 24, 2, [], 24),
  (2, .istore_n 2, 1, [2], 0),
  (3, .iload_n 2, 1, [2], 0),
  (4, .ifCond .lt 32, 3, [21], 0),
  (7, .aload_n 0, 1, [0], 0),
  (8, .getfield 14, 3, [12, 1, 7007], 0),
  (11, .aload_n 0, 1, [0], 0),
  (12, .getfield 7, 3, [12, 2, 7008], 0),
  (15, .iload_n 1, 1, [1], 0),
  (16, .iload_n 2, 1, [2], 0),
  (17, .ishr, 1, [], 0),
  (18, .i2b, 1, [], 0),
  (19, .bastore, 1, [], 0),
  (20, .aload_n 0, 1, [0], 0),
  (21, .dup, 1, [], 0),
  (22, .getfield 7, 3, [12, 2, 7008], 0),
  (25, .iconst 1, 1, [], 1),
  (26, .iadd, 1, [], 0),
  (27, .putfield 7, 3, [12, 2, 7008], 0),
  (30, .iinc 2 (-8), 3, [2], (-8)),
  (33, .goto (-30), 3, [2], 0),
  (36, .return_, 1, [], 0)]
def cd_M_end : List Ent := [(0, .aload_n 0, 1, [0], 0),
  (1, .iconst 0, 1, [], 0),
  (2, .putfield 1, 3, [12, 0, 7006], 0),
  (5, .iload_n 1, 1, [1], 0),
  (6, .ifCond .lt 11, 3, [9], 0),
  (9, .iload_n 1, 1, [1], 0),
  (10, .aload_n 0, 1, [0], 0),
  (11, .getfield 7, 3, [12, 2, 7008], 0),
  (14, .if_icmp .le 5, 3, [11], 0),
  (17, .iconst 0, 1, [], 0),
  (18, .ireturn, 1, [], 0),
  (19, .aload_n 0, 1, [0], 0),
  (20, .iload_n 1, 1, [1], 0),
  (21, .putfield 7, 3, [12, 2, 7008], 0),
  (24, .iconst 1, 1, [], 1),
  (25, .ireturn, 1, [], 0)]
def cd_M_init : List Ent := [(0, .aload_n 0, 1, [0], 0),
  (1, .invokespecial 27, 3, [20, 0, 0, 6228, 1032, 1033], 0),
  (4, .aload_n 0, 1, [0], 0),
  (5, .sipush 1040, 3, [], 1040),
  (8, .newarray .byte, 2, [22, 1122], 0),
  (10, .putfield 14, 3, [12, 1, 7007], 0),
  (13, .aload_n 0, 1, [0], 0),
  (14, .sipush 645, 3, [], 645),
  (17, .newarray .int, 2, [20, 1121], 0),
  (19, .putfield 33, 3, [12, 6, 7012], 0),
  (22, .aload_n 0, 1, [0], 0),
  (23, .sipush 333, 3, [], 333),
  (26, .newarray .int, 2, [20, 1121], 0),
  (28, .putfield 37, 3, [12, 7, 7013], 0),
  (31, .aload_n 0, 1, [0], 0),
  (32, .sipush 150, 3, [], 150),
  (35, .newarray .int, 2, [20, 1121], 0),
  (37, .putfield 40, 3, [12, 8, 7014], 0),
  (40, .aload_n 0, 1, [0], 0),
  (41, .bipush 28, 2, [], 28),
  (43, .newarray .long, 2, [21, 2184], 0),
  (45, .putfield 43, 3, [12, 9, 7015], 0),
  (48, .aload_n 0, 1, [0], 0),
  (49, .bipush 17, 2, [], 17),
  (51, .newarray .long, 2, [21, 2184], 0),
  (53, .putfield 47, 3, [12, 10, 7016], 0),
  (56, .aload_n 0, 1, [0], 0),
  (57, .bipush 64, 2, [], 64),
  (59, .newarray .int, 2, [20, 1121], 0),
  (61, .putfield 50, 3, [12, 21, 7027], 0),
  (64, .aload_n 0, 1, [0], 0),
  (65, .bipush 64, 2, [], 64),
  (67, .newarray .int, 2, [20, 1121], 0),
  (69, .putfield 53, 3, [12, 22, 7028], 0),
  (72, .aload_n 0, 1, [0], 0),
  (73, .bipush 64, 2, [], 64),
  (75, .newarray .int, 2, [20, 1121], 0),
  (77, .putfield 56, 3, [12, 23, 7029], 0),
  (80, .aload_n 0, 1, [0], 0),
  (81, .bipush 8, 2, [], 8),
  (83, .newarray .int, 2, [20, 1121], 0),
  (85, .putfield 59, 3, [12, 24, 7030], 0),
  (88, .aload_n 0, 1, [0], 0),
  (89, .bipush 6, 2, [], 6),
  (91, .newarray .int, 2, [20, 1121], 0),
  (93, .putfield 62, 3, [12, 28, 7034], 0),
  (96, .aload_n 0, 1, [0], 0),
  (97, .bipush 6, 2, [], 6),
  (99, .newarray .int, 2, [20, 1121], 0),
  (101, .putfield 65, 3, [12, 29, 7035], 0),
  (104, .aload_n 0, 1, [0], 0),
  (105, .bipush 6, 2, [], 6),
  (107, .newarray .int, 2, [20, 1121], 0),
  (109, .putfield 68, 3, [12, 30, 7036], 0),
  (112, .aload_n 0, 1, [0], 0),
  (113, .bipush 6, 2, [], 6),
  (115, .newarray .int, 2, [20, 1121], 0),
  (117, .putfield 71, 3, [12, 31, 7037], 0),
  (120, .aload_n 0, 1, [0], 0),
  (121, .bipush 6, 2, [], 6),
  (123, .newarray .int, 2, [20, 1121], 0),
  (125, .putfield 74, 3, [12, 32, 7038], 0),
  (128, .aload_n 0, 1, [0], 0),
  (129, .bipush 8, 2, [], 8),
  (131, .newarray .int, 2, [20, 1121], 0),
  (133, .putfield 77, 3, [12, 33, 7039], 0),
  (136, .aload_n 0, 1, [0], 0),
  (137, .sipush 128, 3, [], 128),
  (140, .newarray .int, 2, [20, 1121], 0),
  (142, .putfield 80, 3, [12, 37, 7043], 0),
  (145, .aload_n 0, 1, [0], 0),
  (146, .sipush 128, 3, [], 128),
  (149, .newarray .int, 2, [20, 1121], 0),
  (151, .putfield 83, 3, [12, 38, 7044], 0),
  (154, .aload_n 0, 1, [0], 0),
  (155, .sipush 128, 3, [], 128),
  (158, .newarray .int, 2, [20, 1121], 0),
  (160, .putfield 86, 3, [12, 39, 7045], 0),
  (163, .aload_n 0, 1, [0], 0),
  (164, .sipush 128, 3, [], 128),
  (167, .newarray .int, 2, [20, 1121], 0),
  (169, .putfield 89, 3, [12, 40, 7046], 0),
  (172, .aload_n 0, 1, [0], 0),
  (173, .sipush 256, 3, [], 256),
  (176, .newarray .boolean, 2, [23, 8007], 0),
  (178, .putfield 92, 3, [12, 43, 7049], 0),
  (181, .aload_n 0, 1, [0], 0),
  (182, .sipush 256, 3, [], 256),
  (185, .newarray .int, 2, [20, 1121], 0),
  (187, .putfield 96, 3, [12, 44, 7050], 0),
  (190, .aload_n 0, 1, [0], 0),
  (191, .bipush 8, 2, [], 8),
  (193, .newarray .int, 2, [20, 1121], 0),
  (195, .putfield 99, 3, [12, 45, 7051], 0),
  (198, .aload_n 0, 1, [0], 0),
  (199, .sipush 256, 3, [], 256),
  (202, .newarray .long, 2, [21, 2184], 0),
  (204, .putfield 102, 3, [12, 46, 7052], 0),
  (207, .aload_n 0, 1, [0], 0),
  (208, .bipush 16, 2, [], 16),
  (210, .newarray .int, 2, [20, 1121], 0),
  (212, .putfield 105, 3, [12, 52, 7058], 0),
  (215, .aload_n 0, 1, [0], 0),
  (216, .bipush 16, 2, [], 16),
  (218, .newarray .int, 2, [20, 1121], 0),
  (220, .putfield 108, 3, [12, 53, 7059], 0),
  (223, .aload_n 0, 1, [0], 0),
  (224, .bipush 16, 2, [], 16),
  (226, .newarray .int, 2, [20, 1121], 0),
  (228, .putfield 111, 3, [12, 54, 7060], 0),
  (231, .aload_n 0, 1, [0], 0),
  (232, .bipush 16, 2, [], 16),
  (234, .newarray .int, 2, [20, 1121], 0),
  (236, .putfield 114, 3, [12, 55, 7061], 0),
  (239, .aload_n 0, 1, [0], 0),
  (240, .bipush 16, 2, [], 16),
  (242, .newarray .int, 2, [20, 1121], 0),
  (244, .putfield 117, 3, [12, 56, 7062], 0),
  (247, .aload_n 0, 1, [0], 0),
  (248, .iconst 5, 1, [], 5),
  (249, .newarray .int, 2, [20, 1121], 0),
  (251, .putfield 120, 3, [12, 57, 7063], 0),
  (254, .aload_n 0, 1, [0], 0),
  (255, .bipush 48, 2, [], 48),
  (257, .newarray .int, 2, [20, 1121], 0),
  (259, .putfield 123, 3, [12, 58, 7064], 0),
  (262, .aload_n 0, 1, [0], 0),
  (263, .iconst (-1), 1, [], (-1)),
  (264, .putfield 126, 3, [12, 62, 7068], 0),
  (267, .aload_n 0, 1, [0], 0),
  (268, .iconst (-1), 1, [], (-1)),
  (269, .putfield 129, 3, [12, 64, 7070], 0),
  (272, .aload_n 0, 1, [0], 0),
  (273, .bipush 8, 2, [], 8),
  (275, .newarray .int, 2, [20, 1121], 0),
  (277, .putfield 132, 3, [12, 65, 7071], 0),
  (280, .aload_n 0, 1, [0], 0),
  (281, .bipush 8, 2, [], 8),
  (283, .newarray .int, 2, [20, 1121], 0),
  (285, .putfield 135, 3, [12, 67, 7073], 0),
  (288, .aload_n 0, 1, [0], 0),
  (289, .bipush 8, 2, [], 8),
  (291, .newarray .int, 2, [20, 1121], 0),
  (293, .putfield 138, 3, [12, 68, 7074], 0),
  (296, .aload_n 0, 1, [0], 0),
  (297, .bipush 8, 2, [], 8),
  (299, .newarray .int, 2, [20, 1121], 0),
  (301, .putfield 141, 3, [12, 69, 7075], 0),
  (304, .aload_n 0, 1, [0], 0),
  (305, .iconst (-1), 1, [], (-1)),
  (306, .putfield 144, 3, [12, 72, 7078], 0),
  (309, .aload_n 0, 1, [0], 0),
  (310, .bipush 8, 2, [], 8),
  (312, .newarray .int, 2, [20, 1121], 0),
  (314, .putfield 147, 3, [12, 73, 7079], 0),
  (317, .aload_n 0, 1, [0], 0),
  (318, .bipush 8, 2, [], 8),
  (320, .newarray .int, 2, [20, 1121], 0),
  (322, .putfield 150, 3, [12, 74, 7080], 0),
  (325, .aload_n 0, 1, [0], 0),
  (326, .sipush 1290, 3, [], 1290),
  (329, .newarray .int, 2, [20, 1121], 0),
  (331, .putfield 153, 3, [12, 77, 7083], 0),
  (334, .aload_n 0, 1, [0], 0),
  (335, .bipush 28, 2, [], 28),
  (337, .newarray .long, 2, [21, 2184], 0),
  (339, .putfield 156, 3, [12, 78, 7084], 0),
  (342, .aload_n 0, 1, [0], 0),
  (343, .iconst 2, 1, [], 2),
  (344, .newarray .boolean, 2, [23, 8007], 0),
  (346, .putfield 159, 3, [12, 79, 7085], 0),
  (349, .aload_n 0, 1, [0], 0),
  (350, .getfield 47, 3, [12, 10, 7016], 0),
  (353, .iconst 0, 1, [], 0),
  (354, .ldc2_w 162, 3, [6229], 7825519),
  (357, .lastore, 1, [], 0),
  (358, .aload_n 0, 1, [0], 0),
  (359, .getfield 47, 3, [12, 10, 7016], 0),
  (362, .iconst 1, 1, [], 1),
  (363, .ldc2_w 164, 3, [6230], 28518),
  (366, .lastore, 1, [], 0),
  (367, .aload_n 0, 1, [0], 0),
  (368, .getfield 47, 3, [12, 10, 7016], 0),
  (371, .iconst 2, 1, [], 2),
  (372, .ldc2_w 166, 3, [6231], 1634954099),
  (375, .lastore, 1, [], 0),
  (376, .aload_n 0, 1, [0], 0),
  (377, .getfield 47, 3, [12, 10, 7016], 0),
  (380, .iconst 3, 1, [], 3),
  (381, .ldc2_w 168, 3, [6232], 1936683636),
  (384, .lastore, 1, [], 0),
  (385, .aload_n 0, 1, [0], 0),
  (386, .getfield 47, 3, [12, 10, 7016], 0),
  (389, .iconst 4, 1, [], 4),
  (390, .ldc2_w 170, 3, [6233], 469785863539),
  (393, .lastore, 1, [], 0),
  (394, .aload_n 0, 1, [0], 0),
  (395, .getfield 47, 3, [12, 10, 7016], 0),
  (398, .iconst 5, 1, [], 5),
  (399, .ldc2_w 172, 3, [6234], 2003399784),
  (402, .lastore, 1, [], 0),
  (403, .aload_n 0, 1, [0], 0),
  (404, .getfield 47, 3, [12, 10, 7016], 0),
  (407, .bipush 6, 2, [], 6),
  (409, .ldc2_w 174, 3, [6235], 512735736947),
  (412, .lastore, 1, [], 0),
  (413, .aload_n 0, 1, [0], 0),
  (414, .getfield 47, 3, [12, 10, 7016], 0),
  (417, .bipush 7, 2, [], 7),
  (419, .ldc2_w 176, 3, [6236], 25209),
  (422, .lastore, 1, [], 0),
  (423, .aload_n 0, 1, [0], 0),
  (424, .getfield 47, 3, [12, 10, 7016], 0),
  (427, .bipush 8, 2, [], 8),
  (429, .ldc2_w 178, 3, [6237], 444150998387),
  (432, .lastore, 1, [], 0),
  (433, .aload_n 0, 1, [0], 0),
  (434, .getfield 47, 3, [12, 10, 7016], 0),
  (437, .bipush 9, 2, [], 9),
  (439, .ldc2_w 180, 3, [6238], 7102839),
  (442, .lastore, 1, [], 0),
  (443, .aload_n 0, 1, [0], 0),
  (444, .getfield 47, 3, [12, 10, 7016], 0),
  (447, .bipush 10, 2, [], 10),
  (449, .ldc2_w 182, 3, [6239], 6385273),
  (452, .lastore, 1, [], 0),
  (453, .aload_n 0, 1, [0], 0),
  (454, .getfield 47, 3, [12, 10, 7016], 0),
  (457, .bipush 11, 2, [], 11),
  (459, .ldc2_w 184, 3, [7000], 439855772532),
  (462, .lastore, 1, [], 0),
  (463, .aload_n 0, 1, [0], 0),
  (464, .getfield 47, 3, [12, 10, 7016], 0),
  (467, .bipush 12, 2, [], 12),
  (469, .ldc2_w 186, 3, [7001], 1869505381),
  (472, .lastore, 1, [], 0),
  (473, .aload_n 0, 1, [0], 0),
  (474, .getfield 47, 3, [12, 10, 7016], 0),
  (477, .bipush 13, 2, [], 13),
  (479, .ldc2_w 188, 3, [7002], 500086304371),
  (482, .lastore, 1, [], 0),
  (483, .aload_n 0, 1, [0], 0),
  (484, .getfield 47, 3, [12, 10, 7016], 0),
  (487, .bipush 14, 2, [], 14),
  (489, .ldc2_w 190, 3, [7003], 1734964837),
  (492, .lastore, 1, [], 0),
  (493, .aload_n 0, 1, [0], 0),
  (494, .getfield 47, 3, [12, 10, 7016], 0),
  (497, .bipush 15, 2, [], 15),
  (499, .ldc2_w 192, 3, [7004], 7697253),
  (502, .lastore, 1, [], 0),
  (503, .aload_n 0, 1, [0], 0),
  (504, .getfield 47, 3, [12, 10, 7016], 0),
  (507, .bipush 16, 2, [], 16),
  (509, .ldc2_w 194, 3, [7005], 2002872692),
  (512, .lastore, 1, [], 0),
  (513, .aload_n 0, 1, [0], 0),
  (514, .getfield 33, 3, [12, 6, 7012], 0),
  (517, .iconst 4, 1, [], 4),
  (518, .iconst 3, 1, [], 3),
  (519, .iastore, 1, [], 0),
  (520, .aload_n 0, 1, [0], 0),
  (521, .getfield 33, 3, [12, 6, 7012], 0),
  (524, .iconst 5, 1, [], 5),
  (525, .iconst 1, 1, [], 1),
  (526, .iastore, 1, [], 0),
  (527, .return_, 1, [], 0)]
def cd_M_village : List Ent := [(0, .aload_n 0, 1, [0], 0),
  (1, .iconst 0, 1, [], 0),
  (2, .putfield 1, 3, [12, 0, 7006], 0),
  (5, .aload_n 0, 1, [0], 0),
  (6, .sipush 1000, 3, [], 1000),
  (9, .invokevirtual 295, 3, [0, 174, 1, 12, 8012, 8014, 56, 1018], 0),
  (12, .aload_n 0, 1, [0], 0),
  (13, .iconst 0, 1, [], 0),
  (14, .putfield 223, 3, [12, 15, 7021], 0),
  (17, .iconst 0, 1, [], 0),
  (18, .istore_n 1, 1, [1], 0),
  (19, .iload_n 1, 1, [1], 0),
  (20, .sipush 333, 3, [], 333),
  (23, .if_icmp .ge 16, 3, [21], 0),
  (26, .aload_n 0, 1, [0], 0),
  (27, .getfield 37, 3, [12, 7, 7013], 0),
  (30, .iload_n 1, 1, [1], 0),
  (31, .iconst 0, 1, [], 0),
  (32, .iastore, 1, [], 0),
  (33, .iinc 1 1, 3, [1], 1),
  (36, .goto (-17), 3, [11], 0),
  (39, .aload_n 0, 1, [0], 0),
  (40, .getfield 37, 3, [12, 7, 7013], 0),
  (43, .iconst 4, 1, [], 4),
  (44, .iconst 3, 1, [], 3),
  (45, .iastore, 1, [], 0),
  (46, .aload_n 0, 1, [0], 0),
  (47, .getfield 37, 3, [12, 7, 7013], 0),
  (50, .iconst 5, 1, [], 5),
  (51, .iconst 1, 1, [], 1),
  (52, .iastore, 1, [], 0),
  (53, .aload_n 0, 1, [0], 0),
  (54, .iconst 0, 1, [], 0),
  (55, .putfield 291, 3, [12, 19, 7025], 0),
  (58, .aload_n 0, 1, [0], 0),
  (59, .iconst 0, 1, [], 0),
  (60, .putfield 288, 3, [12, 20, 7026], 0),
  (63, .aload_n 0, 1, [0], 0),
  (64, .invokevirtual 235, 3, [0, 175, 0, 12, 8016, 8018, 57, 1018], 0),
  (67, .aload_n 0, 1, [0], 0),
  (68, .getfield 206, 3, [12, 11, 7017], 0),
  (71, .ifCond .eq 39, 3, [61], 0),
  (74, .aload_n 0, 1, [0], 0),
  (75, .invokevirtual 298, 3, [0, 179, 0, 12, 8030, 8032, 59, 1018], 0),
  (78, .ifCond .eq 12, 3, [49], 0),
  (81, .aload_n 0, 1, [0], 0),
  (82, .bipush 59, 2, [], 59),
  (84, .invokevirtual 301, 3, [0, 195, 1, 12, 8093, 8095, 74, 1018], 0),
  (87, .ifCond .ne 10, 3, [54], 0),
  (90, .iconst (-1), 1, [], (-1)),
  (91, .aload_n 0, 1, [0], 0),
  (92, .getfield 226, 3, [12, 16, 7022], 0),
  (95, .isub, 1, [], 0),
  (96, .ireturn, 1, [], 0),
  (97, .aload_n 0, 1, [0], 0),
  (98, .dup, 1, [], 0),
  (99, .getfield 288, 3, [12, 20, 7026], 0),
  (102, .iconst 1, 1, [], 1),
  (103, .iadd, 1, [], 0),
  (104, .putfield 288, 3, [12, 20, 7026], 0),
  (107, .goto (-40), 3, [39], 0),
  (110, .iconst 0, 1, [], 0),
  (111, .istore_n 1, 1, [1], 0),
  (112, .iload_n 1, 1, [1], 0),
  (113, .sipush 645, 3, [], 645),
  (116, .if_icmp .ge 32, 3, [81], 0),
  (119, .aload_n 0, 1, [0], 0),
  (120, .getfield 33, 3, [12, 6, 7012], 0),
  (123, .iload_n 1, 1, [1], 0),
  (124, .iload_n 1, 1, [1], 0),
  (125, .sipush 333, 3, [], 333),
  (128, .if_icmp .ge 12, 3, [77], 0),
  (131, .aload_n 0, 1, [0], 0),
  (132, .getfield 37, 3, [12, 7, 7013], 0),
  (135, .iload_n 1, 1, [1], 0),
  (136, .iaload, 1, [], 0),
  (137, .goto 4, 3, [78], 0),
  (140, .iconst 0, 1, [], 0),
  (141, .iastore, 1, [], 0),
  (142, .iinc 1 1, 3, [1], 1),
  (145, .goto (-33), 3, [63], 0),
  (148, .iconst 0, 1, [], 0),
  (149, .istore_n 1, 1, [1], 0),
  (150, .iload_n 1, 1, [1], 0),
  (151, .bipush 14, 2, [], 14),
  (153, .if_icmp .ge 24, 3, [98], 0),
  (156, .aload_n 0, 1, [0], 0),
  (157, .getfield 43, 3, [12, 9, 7015], 0),
  (160, .iload_n 1, 1, [1], 0),
  (161, .aload_n 0, 1, [0], 0),
  (162, .getfield 43, 3, [12, 9, 7015], 0),
  (165, .bipush 14, 2, [], 14),
  (167, .iload_n 1, 1, [1], 0),
  (168, .iadd, 1, [], 0),
  (169, .laload, 1, [], 0),
  (170, .lastore, 1, [], 0),
  (171, .iinc 1 1, 3, [1], 1),
  (174, .goto (-24), 3, [83], 0),
  (177, .aload_n 0, 1, [0], 0),
  (178, .getfield 288, 3, [12, 20, 7026], 0),
  (181, .ireturn, 1, [], 0)]
def cd_M_taken : List Ent := [(0, .aload_n 0, 1, [0], 0),
  (1, .aload_n 0, 1, [0], 0),
  (2, .getfield 7, 3, [12, 2, 7008], 0),
  (5, .putfield 18, 3, [12, 3, 7009], 0),
  (8, .aload_n 0, 1, [0], 0),
  (9, .iconst 0, 1, [], 0),
  (10, .putfield 7, 3, [12, 2, 7008], 0),
  (13, .aload_n 0, 1, [0], 0),
  (14, .iconst 0, 1, [], 0),
  (15, .putfield 21, 3, [12, 4, 7010], 0),
  (18, .aload_n 0, 1, [0], 0),
  (19, .iload_n 1, 1, [1], 0),
  (20, .putfield 24, 3, [12, 5, 7011], 0),
  (23, .return_, 1, [], 0)]
def cd_M_next : List Ent := [(0, .aload_n 0, 1, [0], 0),
  (1, .invokevirtual 196, 3, [0, 176, 0, 12, 8020, 8022, 58, 1018], 0),
  (4, .bipush 32, 2, [], 32),
  (6, .if_icmp .eq 12, 3, [8], 0),
  (9, .aload_n 0, 1, [0], 0),
  (10, .invokevirtual 196, 3, [0, 176, 0, 12, 8020, 8022, 58, 1018], 0),
  (13, .bipush 10, 2, [], 10),
  (15, .if_icmp .ne 16, 3, [15], 0),
  (18, .aload_n 0, 1, [0], 0),
  (19, .dup, 1, [], 0),
  (20, .getfield 21, 3, [12, 4, 7010], 0),
  (23, .iconst 1, 1, [], 1),
  (24, .iadd, 1, [], 0),
  (25, .putfield 21, 3, [12, 4, 7010], 0),
  (28, .goto (-28), 3, [0], 0),
  (31, .aload_n 0, 1, [0], 0),
  (32, .aload_n 0, 1, [0], 0),
  (33, .getfield 21, 3, [12, 4, 7010], 0),
  (36, .putfield 200, 3, [12, 12, 7018], 0),
  (39, .aload_n 0, 1, [0], 0),
  (40, .iconst 0, 1, [], 0),
  (41, .putfield 203, 3, [12, 13, 7019], 0),
  (44, .aload_n 0, 1, [0], 0),
  (45, .getfield 18, 3, [12, 3, 7009], 0),
  (48, .aload_n 0, 1, [0], 0),
  (49, .getfield 24, 3, [12, 5, 7011], 0),
  (52, .if_icmp .le 28, 3, [40], 0),
  (55, .aload_n 0, 1, [0], 0),
  (56, .getfield 21, 3, [12, 4, 7010], 0),
  (59, .aload_n 0, 1, [0], 0),
  (60, .getfield 24, 3, [12, 5, 7011], 0),
  (63, .if_icmp .lt 17, 3, [40], 0),
  (66, .aload_n 0, 1, [0], 0),
  (67, .aload_n 0, 1, [0], 0),
  (68, .getfield 24, 3, [12, 5, 7011], 0),
  (71, .putfield 200, 3, [12, 12, 7018], 0),
  (74, .aload_n 0, 1, [0], 0),
  (75, .iconst 4, 1, [], 4),
  (76, .putfield 206, 3, [12, 11, 7017], 0),
  (79, .return_, 1, [], 0),
  (80, .aload_n 0, 1, [0], 0),
  (81, .invokevirtual 196, 3, [0, 176, 0, 12, 8020, 8022, 58, 1018], 0),
  (84, .istore_n 1, 1, [1], 0),
  (85, .iload_n 1, 1, [1], 0),
  (86, .ifCond .ge 9, 3, [49], 0),
  (89, .aload_n 0, 1, [0], 0),
  (90, .iconst 0, 1, [], 0),
  (91, .putfield 206, 3, [12, 11, 7017], 0),
  (94, .return_, 1, [], 0),
  (95, .iload_n 1, 1, [1], 0),
  (96, .invokestatic 209, 3, [1, 177, 1, 8024, 8025, 1018], 0),
  (99, .ifCond .ne 41, 3, [73], 0),
  (102, .iload_n 1, 1, [1], 0),
  (103, .invokestatic 213, 3, [1, 178, 1, 8027, 8028, 1018], 0),
  (106, .ifCond .ne 34, 3, [73], 0),
  (109, .aload_n 0, 1, [0], 0),
  (110, .iload_n 1, 1, [1], 0),
  (111, .bipush 59, 2, [], 59),
  (113, .if_icmp .ne 7, 3, [61], 0),
  (116, .iconst 3, 1, [], 3),
  (117, .goto 4, 3, [62], 0),
  (120, .iconst 4, 1, [], 4),
  (121, .putfield 206, 3, [12, 11, 7017], 0),
  (124, .aload_n 0, 1, [0], 0),
  (125, .iload_n 1, 1, [1], 0),
  (126, .putfield 216, 3, [12, 14, 7020], 0),
  (129, .aload_n 0, 1, [0], 0),
  (130, .dup, 1, [], 0),
  (131, .getfield 21, 3, [12, 4, 7010], 0),
  (134, .iconst 1, 1, [], 1),
  (135, .iadd, 1, [], 0),
  (136, .putfield 21, 3, [12, 4, 7010], 0),
  (139, .return_, 1, [], 0),
  (140, .iload_n 1, 1, [1], 0),
  (141, .invokestatic 209, 3, [1, 177, 1, 8024, 8025, 1018], 0),
  (144, .istore_n 2, 1, [2], 0),
  (145, .iconst 1, 1, [], 1),
  (146, .istore_n 3, 1, [3], 0),
  (147, .aload_n 0, 1, [0], 0),
  (148, .lconst 0, 1, [], 0),
  (149, .putfield 219, 3, [12, 17, 7023], 0),
  (152, .aload_n 0, 1, [0], 0),
  (153, .iconst 0, 1, [], 0),
  (154, .putfield 216, 3, [12, 14, 7020], 0),
  (157, .aload_n 0, 1, [0], 0),
  (158, .invokevirtual 196, 3, [0, 176, 0, 12, 8020, 8022, 58, 1018], 0),
  (161, .invokestatic 209, 3, [1, 177, 1, 8024, 8025, 1018], 0),
  (164, .ifCond .ne 13, 3, [92], 0),
  (167, .aload_n 0, 1, [0], 0),
  (168, .invokevirtual 196, 3, [0, 176, 0, 12, 8020, 8022, 58, 1018], 0),
  (171, .invokestatic 213, 3, [1, 178, 1, 8027, 8028, 1018], 0),
  (174, .ifCond .eq 100, 3, [145], 0),
  (177, .iload_n 3, 1, [3], 0),
  (178, .ifCond .eq 18, 3, [101], 0),
  (181, .aload_n 0, 1, [0], 0),
  (182, .invokevirtual 196, 3, [0, 176, 0, 12, 8020, 8022, 58, 1018], 0),
  (185, .invokestatic 209, 3, [1, 177, 1, 8024, 8025, 1018], 0),
  (188, .iload_n 2, 1, [2], 0),
  (189, .if_icmp .ne 7, 3, [101], 0),
  (192, .iconst 1, 1, [], 1),
  (193, .goto 4, 3, [102], 0),
  (196, .iconst 0, 1, [], 0),
  (197, .istore_n 3, 1, [3], 0),
  (198, .aload_n 0, 1, [0], 0),
  (199, .getfield 203, 3, [12, 13, 7019], 0),
  (202, .bipush 6, 2, [], 6),
  (204, .if_icmp .ge 20, 3, [117], 0),
  (207, .aload_n 0, 1, [0], 0),
  (208, .aload_n 0, 1, [0], 0),
  (209, .getfield 219, 3, [12, 17, 7023], 0),
  (212, .bipush 8, 2, [], 8),
  (214, .lshl, 1, [], 0),
  (215, .aload_n 0, 1, [0], 0),
  (216, .invokevirtual 196, 3, [0, 176, 0, 12, 8020, 8022, 58, 1018], 0),
  (219, .i2l, 1, [], 0),
  (220, .lor, 1, [], 0),
  (221, .putfield 219, 3, [12, 17, 7023], 0),
  (224, .aload_n 0, 1, [0], 0),
  (225, .getfield 203, 3, [12, 13, 7019], 0),
  (228, .iconst 3, 1, [], 3),
  (229, .if_icmp .ge 22, 3, [132], 0),
  (232, .aload_n 0, 1, [0], 0),
  (233, .bipush 10, 2, [], 10),
  (235, .aload_n 0, 1, [0], 0),
  (236, .getfield 216, 3, [12, 14, 7020], 0),
  (239, .imul, 1, [], 0),
  (240, .aload_n 0, 1, [0], 0),
  (241, .invokevirtual 196, 3, [0, 176, 0, 12, 8020, 8022, 58, 1018], 0),
  (244, .iadd, 1, [], 0),
  (245, .bipush 48, 2, [], 48),
  (247, .isub, 1, [], 0),
  (248, .putfield 216, 3, [12, 14, 7020], 0),
  (251, .aload_n 0, 1, [0], 0),
  (252, .dup, 1, [], 0),
  (253, .getfield 203, 3, [12, 13, 7019], 0),
  (256, .iconst 1, 1, [], 1),
  (257, .iadd, 1, [], 0),
  (258, .putfield 203, 3, [12, 13, 7019], 0),
  (261, .aload_n 0, 1, [0], 0),
  (262, .dup, 1, [], 0),
  (263, .getfield 21, 3, [12, 4, 7010], 0),
  (266, .iconst 1, 1, [], 1),
  (267, .iadd, 1, [], 0),
  (268, .putfield 21, 3, [12, 4, 7010], 0),
  (271, .goto (-114), 3, [84], 0),
  (274, .aload_n 0, 1, [0], 0),
  (275, .iload_n 3, 1, [3], 0),
  (276, .ifCond .eq 20, 3, [156], 0),
  (279, .aload_n 0, 1, [0], 0),
  (280, .getfield 203, 3, [12, 13, 7019], 0),
  (283, .iload_n 2, 1, [2], 0),
  (284, .ifCond .eq 8, 3, [154], 0),
  (287, .bipush 6, 2, [], 6),
  (289, .goto 4, 3, [155], 0),
  (292, .iconst 3, 1, [], 3),
  (293, .if_icmp .le 7, 3, [158], 0),
  (296, .iconst 4, 1, [], 4),
  (297, .goto 12, 3, [163], 0),
  (300, .iload_n 2, 1, [2], 0),
  (301, .ifCond .eq 7, 3, [162], 0),
  (304, .iconst 1, 1, [], 1),
  (305, .goto 4, 3, [163], 0),
  (308, .iconst 2, 1, [], 2),
  (309, .putfield 206, 3, [12, 11, 7017], 0),
  (312, .return_, 1, [], 0)]
def cd_M_peek : List Ent := [(0, .aload_n 0, 1, [0], 0),
  (1, .getfield 21, 3, [12, 4, 7010], 0),
  (4, .aload_n 0, 1, [0], 0),
  (5, .getfield 18, 3, [12, 3, 7009], 0),
  (8, .if_icmp .ge 19, 3, [13], 0),
  (11, .aload_n 0, 1, [0], 0),
  (12, .getfield 14, 3, [12, 1, 7007], 0),
  (15, .aload_n 0, 1, [0], 0),
  (16, .getfield 21, 3, [12, 4, 7010], 0),
  (19, .baload, 1, [], 0),
  (20, .sipush 255, 3, [], 255),
  (23, .iand, 1, [], 0),
  (24, .goto 4, 3, [14], 0),
  (27, .iconst (-1), 1, [], (-1)),
  (28, .ireturn, 1, [], 0)]
def cd_M_isSmall : List Ent := [(0, .iload_n 0, 1, [0], 0),
  (1, .bipush 97, 2, [], 97),
  (3, .if_icmp .lt 13, 3, [8], 0),
  (6, .iload_n 0, 1, [0], 0),
  (7, .bipush 122, 2, [], 122),
  (9, .if_icmp .gt 7, 3, [8], 0),
  (12, .iconst 1, 1, [], 1),
  (13, .goto 4, 3, [9], 0),
  (16, .iconst 0, 1, [], 0),
  (17, .ireturn, 1, [], 0)]
def cd_M_isDigit : List Ent := [(0, .iload_n 0, 1, [0], 0),
  (1, .bipush 48, 2, [], 48),
  (3, .if_icmp .lt 13, 3, [8], 0),
  (6, .iload_n 0, 1, [0], 0),
  (7, .bipush 57, 2, [], 57),
  (9, .if_icmp .gt 7, 3, [8], 0),
  (12, .iconst 1, 1, [], 1),
  (13, .goto 4, 3, [9], 0),
  (16, .iconst 0, 1, [], 0),
  (17, .ireturn, 1, [], 0)]
def cd_M_line : List Ent := [(0, .aload_n 0, 1, [0], 0),
  (1, .ldc2_w 162, 3, [6229], 7825519),
  (4, .invokevirtual 253, 3, [0, 180, 1, 12, 8034, 8036, 60, 1018], 0),
  (7, .ifCond .eq 8, 3, [7], 0),
  (10, .aload_n 0, 1, [0], 0),
  (11, .invokevirtual 257, 3, [0, 181, 0, 12, 8038, 8040, 61, 1018], 0),
  (14, .ireturn, 1, [], 0),
  (15, .aload_n 0, 1, [0], 0),
  (16, .ldc2_w 168, 3, [6232], 1936683636),
  (19, .invokevirtual 253, 3, [0, 180, 1, 12, 8034, 8036, 60, 1018], 0),
  (22, .ifCond .eq 8, 3, [14], 0),
  (25, .aload_n 0, 1, [0], 0),
  (26, .invokevirtual 260, 3, [0, 188, 0, 12, 8065, 8067, 67, 1018], 0),
  (29, .ireturn, 1, [], 0),
  (30, .aload_n 0, 1, [0], 0),
  (31, .ldc2_w 170, 3, [6233], 469785863539),
  (34, .invokevirtual 253, 3, [0, 180, 1, 12, 8034, 8036, 60, 1018], 0),
  (37, .ifCond .eq 8, 3, [21], 0),
  (40, .aload_n 0, 1, [0], 0),
  (41, .invokevirtual 263, 3, [0, 189, 0, 12, 8069, 8071, 68, 1018], 0),
  (44, .ireturn, 1, [], 0),
  (45, .aload_n 0, 1, [0], 0),
  (46, .ldc2_w 174, 3, [6235], 512735736947),
  (49, .invokevirtual 253, 3, [0, 180, 1, 12, 8034, 8036, 60, 1018], 0),
  (52, .ifCond .eq 8, 3, [28], 0),
  (55, .aload_n 0, 1, [0], 0),
  (56, .invokevirtual 266, 3, [0, 192, 0, 12, 8081, 8083, 71, 1018], 0),
  (59, .ireturn, 1, [], 0),
  (60, .aload_n 0, 1, [0], 0),
  (61, .ldc2_w 178, 3, [6237], 444150998387),
  (64, .invokevirtual 253, 3, [0, 180, 1, 12, 8034, 8036, 60, 1018], 0),
  (67, .ifCond .eq 8, 3, [35], 0),
  (70, .aload_n 0, 1, [0], 0),
  (71, .invokevirtual 269, 3, [0, 193, 0, 12, 8085, 8087, 72, 1018], 0),
  (74, .ireturn, 1, [], 0),
  (75, .aload_n 0, 1, [0], 0),
  (76, .ldc2_w 180, 3, [6238], 7102839),
  (79, .invokevirtual 253, 3, [0, 180, 1, 12, 8034, 8036, 60, 1018], 0),
  (82, .ifCond .eq 10, 3, [42], 0),
  (85, .aload_n 0, 1, [0], 0),
  (86, .invokevirtual 272, 3, [0, 194, 0, 12, 8089, 8091, 73, 1018], 0),
  (89, .goto 8, 3, [45], 0),
  (92, .aload_n 0, 1, [0], 0),
  (93, .iconst 1, 1, [], 1),
  (94, .invokevirtual 232, 3, [0, 182, 1, 12, 8042, 8044, 62, 1018], 0),
  (97, .ireturn, 1, [], 0)]
def cd_M_isWord : List Ent := [(0, .aload_n 0, 1, [0], 0),
  (1, .getfield 206, 3, [12, 11, 7017], 0),
  (4, .iconst 1, 1, [], 1),
  (5, .if_icmp .ne 16, 3, [11], 0),
  (8, .aload_n 0, 1, [0], 0),
  (9, .getfield 219, 3, [12, 17, 7023], 0),
  (12, .lload_n 1, 1, [1], 0),
  (13, .lcmp, 1, [], 0),
  (14, .ifCond .ne 7, 3, [11], 0),
  (17, .iconst 1, 1, [], 1),
  (18, .goto 4, 3, [12], 0),
  (21, .iconst 0, 1, [], 0),
  (22, .ireturn, 1, [], 0)]
def cd_M_readWho : List Ent := [(0, .aload_n 0, 1, [0], 0),
  (1, .getfield 37, 3, [12, 7, 7013], 0),
  (4, .iconst 0, 1, [], 0),
  (5, .iaload, 1, [], 0),
  (6, .istore_n 1, 1, [1], 0),
  (7, .iload_n 1, 1, [1], 0),
  (8, .bipush 8, 2, [], 8),
  (10, .if_icmp .ne 9, 3, [12], 0),
  (13, .aload_n 0, 1, [0], 0),
  (14, .iconst 4, 1, [], 4),
  (15, .invokevirtual 232, 3, [0, 182, 1, 12, 8042, 8044, 62, 1018], 0),
  (18, .ireturn, 1, [], 0),
  (19, .aload_n 0, 1, [0], 0),
  (20, .invokevirtual 235, 3, [0, 175, 0, 12, 8016, 8018, 57, 1018], 0),
  (23, .aload_n 0, 1, [0], 0),
  (24, .invokevirtual 275, 3, [0, 183, 0, 12, 8046, 8048, 63, 1018], 0),
  (27, .ifCond .ne 5, 3, [19], 0),
  (30, .iconst 0, 1, [], 0),
  (31, .ireturn, 1, [], 0),
  (32, .aload_n 0, 1, [0], 0),
  (33, .getfield 43, 3, [12, 9, 7015], 0),
  (36, .bipush 14, 2, [], 14),
  (38, .iload_n 1, 1, [1], 0),
  (39, .iadd, 1, [], 0),
  (40, .aload_n 0, 1, [0], 0),
  (41, .getfield 219, 3, [12, 17, 7023], 0),
  (44, .lastore, 1, [], 0),
  (45, .aload_n 0, 1, [0], 0),
  (46, .invokevirtual 235, 3, [0, 175, 0, 12, 8016, 8018, 57, 1018], 0),
  (49, .aload_n 0, 1, [0], 0),
  (50, .getfield 37, 3, [12, 7, 7013], 0),
  (53, .bipush 7, 2, [], 7),
  (55, .iload_n 1, 1, [1], 0),
  (56, .iadd, 1, [], 0),
  (57, .iconst 0, 1, [], 0),
  (58, .iastore, 1, [], 0),
  (59, .aload_n 0, 1, [0], 0),
  (60, .getfield 37, 3, [12, 7, 7013], 0),
  (63, .bipush 15, 2, [], 15),
  (65, .iload_n 1, 1, [1], 0),
  (66, .iadd, 1, [], 0),
  (67, .iconst 0, 1, [], 0),
  (68, .iastore, 1, [], 0),
  (69, .aload_n 0, 1, [0], 0),
  (70, .ldc2_w 164, 3, [6230], 28518),
  (73, .invokevirtual 253, 3, [0, 180, 1, 12, 8034, 8036, 60, 1018], 0),
  (76, .ifCond .eq 32, 3, [64], 0),
  (79, .aload_n 0, 1, [0], 0),
  (80, .invokevirtual 235, 3, [0, 175, 0, 12, 8016, 8018, 57, 1018], 0),
  (83, .aload_n 0, 1, [0], 0),
  (84, .iconst 0, 1, [], 0),
  (85, .bipush 9, 2, [], 9),
  (87, .invokevirtual 278, 3, [0, 186, 2, 12, 8058, 8060, 66, 1018], 0),
  (90, .ifCond .ne 5, 3, [56], 0),
  (93, .iconst 0, 1, [], 0),
  (94, .ireturn, 1, [], 0),
  (95, .aload_n 0, 1, [0], 0),
  (96, .getfield 37, 3, [12, 7, 7013], 0),
  (99, .bipush 7, 2, [], 7),
  (101, .iload_n 1, 1, [1], 0),
  (102, .iadd, 1, [], 0),
  (103, .aload_n 0, 1, [0], 0),
  (104, .getfield 242, 3, [12, 18, 7024], 0),
  (107, .iastore, 1, [], 0),
  (108, .aload_n 0, 1, [0], 0),
  (109, .ldc2_w 166, 3, [6231], 1634954099),
  (112, .invokevirtual 253, 3, [0, 180, 1, 12, 8034, 8036, 60, 1018], 0),
  (115, .ifCond .eq 32, 3, [85], 0),
  (118, .aload_n 0, 1, [0], 0),
  (119, .invokevirtual 235, 3, [0, 175, 0, 12, 8016, 8018, 57, 1018], 0),
  (122, .aload_n 0, 1, [0], 0),
  (123, .iconst 0, 1, [], 0),
  (124, .bipush 99, 2, [], 99),
  (126, .invokevirtual 278, 3, [0, 186, 2, 12, 8058, 8060, 66, 1018], 0),
  (129, .ifCond .ne 5, 3, [77], 0),
  (132, .iconst 0, 1, [], 0),
  (133, .ireturn, 1, [], 0),
  (134, .aload_n 0, 1, [0], 0),
  (135, .getfield 37, 3, [12, 7, 7013], 0),
  (138, .bipush 15, 2, [], 15),
  (140, .iload_n 1, 1, [1], 0),
  (141, .iadd, 1, [], 0),
  (142, .aload_n 0, 1, [0], 0),
  (143, .getfield 242, 3, [12, 18, 7024], 0),
  (146, .iastore, 1, [], 0),
  (147, .aload_n 0, 1, [0], 0),
  (148, .getfield 37, 3, [12, 7, 7013], 0),
  (151, .iconst 0, 1, [], 0),
  (152, .dup2, 1, [], 0),
  (153, .iaload, 1, [], 0),
  (154, .iconst 1, 1, [], 1),
  (155, .iadd, 1, [], 0),
  (156, .iastore, 1, [], 0),
  (157, .iconst 1, 1, [], 1),
  (158, .ireturn, 1, [], 0)]
def cd_M_bad : List Ent := [(0, .aload_n 0, 1, [0], 0),
  (1, .iload_n 1, 1, [1], 0),
  (2, .putfield 223, 3, [12, 15, 7021], 0),
  (5, .aload_n 0, 1, [0], 0),
  (6, .aload_n 0, 1, [0], 0),
  (7, .getfield 200, 3, [12, 12, 7018], 0),
  (10, .putfield 226, 3, [12, 16, 7022], 0),
  (13, .iconst 0, 1, [], 0),
  (14, .ireturn, 1, [], 0)]
def cd_M_fresh : List Ent := [(0, .aload_n 0, 1, [0], 0),
  (1, .invokevirtual 245, 3, [0, 184, 0, 12, 8050, 8052, 64, 1018], 0),
  (4, .ifCond .ne 9, 3, [7], 0),
  (7, .aload_n 0, 1, [0], 0),
  (8, .iconst 1, 1, [], 1),
  (9, .invokevirtual 232, 3, [0, 182, 1, 12, 8042, 8044, 62, 1018], 0),
  (12, .ireturn, 1, [], 0),
  (13, .aload_n 0, 1, [0], 0),
  (14, .bipush 14, 2, [], 14),
  (16, .aload_n 0, 1, [0], 0),
  (17, .getfield 37, 3, [12, 7, 7013], 0),
  (20, .iconst 0, 1, [], 0),
  (21, .iaload, 1, [], 0),
  (22, .invokevirtual 249, 3, [0, 185, 2, 12, 8054, 8056, 65, 1018], 0),
  (25, .ifCond .ge 18, 3, [23], 0),
  (28, .aload_n 0, 1, [0], 0),
  (29, .bipush 22, 2, [], 22),
  (31, .aload_n 0, 1, [0], 0),
  (32, .getfield 37, 3, [12, 7, 7013], 0),
  (35, .iconst 1, 1, [], 1),
  (36, .iaload, 1, [], 0),
  (37, .invokevirtual 249, 3, [0, 185, 2, 12, 8054, 8056, 65, 1018], 0),
  (40, .ifCond .lt 11, 3, [27], 0),
  (43, .aload_n 0, 1, [0], 0),
  (44, .iconst 3, 1, [], 3),
  (45, .invokevirtual 232, 3, [0, 182, 1, 12, 8042, 8044, 62, 1018], 0),
  (48, .ifCond .eq 7, 3, [29], 0),
  (51, .iconst 1, 1, [], 1),
  (52, .goto 4, 3, [30], 0),
  (55, .iconst 0, 1, [], 0),
  (56, .ireturn, 1, [], 0)]
def cd_M_isName : List Ent := [(0, .aload_n 0, 1, [0], 0),
  (1, .getfield 206, 3, [12, 11, 7017], 0),
  (4, .iconst 1, 1, [], 1),
  (5, .if_icmp .ne 7, 3, [6], 0),
  (8, .iconst 1, 1, [], 1),
  (9, .goto 4, 3, [7], 0),
  (12, .iconst 0, 1, [], 0),
  (13, .istore_n 1, 1, [1], 0),
  (14, .iconst 0, 1, [], 0),
  (15, .istore_n 2, 1, [2], 0),
  (16, .iload_n 2, 1, [2], 0),
  (17, .bipush 17, 2, [], 17),
  (19, .if_icmp .ge 33, 3, [29], 0),
  (22, .iload_n 1, 1, [1], 0),
  (23, .ifCond .eq 21, 3, [25], 0),
  (26, .aload_n 0, 1, [0], 0),
  (27, .getfield 219, 3, [12, 17, 7023], 0),
  (30, .aload_n 0, 1, [0], 0),
  (31, .getfield 47, 3, [12, 10, 7016], 0),
  (34, .iload_n 2, 1, [2], 0),
  (35, .laload, 1, [], 0),
  (36, .lcmp, 1, [], 0),
  (37, .ifCond .eq 7, 3, [25], 0),
  (40, .iconst 1, 1, [], 1),
  (41, .goto 4, 3, [26], 0),
  (44, .iconst 0, 1, [], 0),
  (45, .istore_n 1, 1, [1], 0),
  (46, .iinc 2 1, 3, [2], 1),
  (49, .goto (-33), 3, [10], 0),
  (52, .iload_n 1, 1, [1], 0),
  (53, .ireturn, 1, [], 0)]
def cd_M_find : List Ent := [(0, .iconst 0, 1, [], 0),
  (1, .istore_n 3, 1, [3], 0),
  (2, .iload_n 3, 1, [3], 0),
  (3, .iload_n 2, 1, [2], 0),
  (4, .if_icmp .ge 27, 3, [19], 0),
  (7, .aload_n 0, 1, [0], 0),
  (8, .getfield 43, 3, [12, 9, 7015], 0),
  (11, .iload_n 1, 1, [1], 0),
  (12, .iload_n 3, 1, [3], 0),
  (13, .iadd, 1, [], 0),
  (14, .laload, 1, [], 0),
  (15, .aload_n 0, 1, [0], 0),
  (16, .getfield 219, 3, [12, 17, 7023], 0),
  (19, .lcmp, 1, [], 0),
  (20, .ifCond .ne 5, 3, [17], 0),
  (23, .iload_n 3, 1, [3], 0),
  (24, .ireturn, 1, [], 0),
  (25, .iinc 3 1, 3, [3], 1),
  (28, .goto (-26), 3, [2], 0),
  (31, .iconst (-1), 1, [], (-1)),
  (32, .ireturn, 1, [], 0)]
def cd_M_takes : List Ent := [(0, .aload_n 0, 1, [0], 0),
  (1, .getfield 206, 3, [12, 11, 7017], 0),
  (4, .iconst 2, 1, [], 2),
  (5, .if_icmp .eq 9, 3, [8], 0),
  (8, .aload_n 0, 1, [0], 0),
  (9, .iconst 1, 1, [], 1),
  (10, .invokevirtual 232, 3, [0, 182, 1, 12, 8042, 8044, 62, 1018], 0),
  (13, .ireturn, 1, [], 0),
  (14, .aload_n 0, 1, [0], 0),
  (15, .getfield 216, 3, [12, 14, 7020], 0),
  (18, .iload_n 1, 1, [1], 0),
  (19, .iload_n 2, 1, [2], 0),
  (20, .invokestatic 238, 3, [1, 187, 3, 8062, 8063, 1018], 0),
  (23, .ifCond .ne 9, 3, [18], 0),
  (26, .aload_n 0, 1, [0], 0),
  (27, .iconst 2, 1, [], 2),
  (28, .invokevirtual 232, 3, [0, 182, 1, 12, 8042, 8044, 62, 1018], 0),
  (31, .ireturn, 1, [], 0),
  (32, .aload_n 0, 1, [0], 0),
  (33, .aload_n 0, 1, [0], 0),
  (34, .getfield 216, 3, [12, 14, 7020], 0),
  (37, .putfield 242, 3, [12, 18, 7024], 0),
  (40, .aload_n 0, 1, [0], 0),
  (41, .invokevirtual 235, 3, [0, 175, 0, 12, 8016, 8018, 57, 1018], 0),
  (44, .iconst 1, 1, [], 1),
  (45, .ireturn, 1, [], 0)]
def cd_M_isIn : List Ent := [(0, .iload_n 0, 1, [0], 0),
  (1, .iload_n 1, 1, [1], 0),
  (2, .if_icmp .lt 12, 3, [8], 0),
  (5, .iload_n 0, 1, [0], 0),
  (6, .iload_n 2, 1, [2], 0),
  (7, .if_icmp .gt 7, 3, [8], 0),
  (10, .iconst 1, 1, [], 1),
  (11, .goto 4, 3, [9], 0),
  (14, .iconst 0, 1, [], 0),
  (15, .ireturn, 1, [], 0)]
def cd_M_readSort : List Ent := [(0, .aload_n 0, 1, [0], 0),
  (1, .getfield 37, 3, [12, 7, 7013], 0),
  (4, .iconst 1, 1, [], 1),
  (5, .iaload, 1, [], 0),
  (6, .bipush 6, 2, [], 6),
  (8, .if_icmp .ne 9, 3, [10], 0),
  (11, .aload_n 0, 1, [0], 0),
  (12, .iconst 4, 1, [], 4),
  (13, .invokevirtual 232, 3, [0, 182, 1, 12, 8042, 8044, 62, 1018], 0),
  (16, .ireturn, 1, [], 0),
  (17, .aload_n 0, 1, [0], 0),
  (18, .invokevirtual 235, 3, [0, 175, 0, 12, 8016, 8018, 57, 1018], 0),
  (21, .aload_n 0, 1, [0], 0),
  (22, .invokevirtual 275, 3, [0, 183, 0, 12, 8046, 8048, 63, 1018], 0),
  (25, .ifCond .ne 5, 3, [17], 0),
  (28, .iconst 0, 1, [], 0),
  (29, .ireturn, 1, [], 0),
  (30, .aload_n 0, 1, [0], 0),
  (31, .getfield 43, 3, [12, 9, 7015], 0),
  (34, .bipush 22, 2, [], 22),
  (36, .aload_n 0, 1, [0], 0),
  (37, .getfield 37, 3, [12, 7, 7013], 0),
  (40, .iconst 1, 1, [], 1),
  (41, .iaload, 1, [], 0),
  (42, .iadd, 1, [], 0),
  (43, .aload_n 0, 1, [0], 0),
  (44, .getfield 219, 3, [12, 17, 7023], 0),
  (47, .lastore, 1, [], 0),
  (48, .aload_n 0, 1, [0], 0),
  (49, .invokevirtual 235, 3, [0, 175, 0, 12, 8016, 8018, 57, 1018], 0),
  (52, .aload_n 0, 1, [0], 0),
  (53, .iconst 1, 1, [], 1),
  (54, .bipush 48, 2, [], 48),
  (56, .invokevirtual 278, 3, [0, 186, 2, 12, 8058, 8060, 66, 1018], 0),
  (59, .ifCond .ne 5, 3, [37], 0),
  (62, .iconst 0, 1, [], 0),
  (63, .ireturn, 1, [], 0),
  (64, .aload_n 0, 1, [0], 0),
  (65, .getfield 37, 3, [12, 7, 7013], 0),
  (68, .bipush 23, 2, [], 23),
  (70, .aload_n 0, 1, [0], 0),
  (71, .getfield 37, 3, [12, 7, 7013], 0),
  (74, .iconst 1, 1, [], 1),
  (75, .iaload, 1, [], 0),
  (76, .iadd, 1, [], 0),
  (77, .aload_n 0, 1, [0], 0),
  (78, .getfield 242, 3, [12, 18, 7024], 0),
  (81, .iastore, 1, [], 0),
  (82, .aload_n 0, 1, [0], 0),
  (83, .getfield 37, 3, [12, 7, 7013], 0),
  (86, .iconst 1, 1, [], 1),
  (87, .dup2, 1, [], 0),
  (88, .iaload, 1, [], 0),
  (89, .iconst 1, 1, [], 1),
  (90, .iadd, 1, [], 0),
  (91, .iastore, 1, [], 0),
  (92, .iconst 1, 1, [], 1),
  (93, .ireturn, 1, [], 0)]
def cd_M_readMakes : List Ent := [(0, .aload_n 0, 1, [0], 0),
  (1, .invokevirtual 235, 3, [0, 175, 0, 12, 8016, 8018, 57, 1018], 0),
  (4, .aload_n 0, 1, [0], 0),
  (5, .iconst (-1), 1, [], (-1)),
  (6, .invokevirtual 282, 3, [0, 190, 1, 12, 8073, 8075, 69, 1018], 0),
  (9, .ifCond .ne 5, 3, [8], 0),
  (12, .iconst 0, 1, [], 0),
  (13, .ireturn, 1, [], 0),
  (14, .aload_n 0, 1, [0], 0),
  (15, .getfield 242, 3, [12, 18, 7024], 0),
  (18, .istore_n 1, 1, [1], 0),
  (19, .iconst (-1), 1, [], (-1)),
  (20, .istore_n 2, 1, [2], 0),
  (21, .aload_n 0, 1, [0], 0),
  (22, .ldc2_w 172, 3, [6234], 2003399784),
  (25, .invokevirtual 253, 3, [0, 180, 1, 12, 8034, 8036, 60, 1018], 0),
  (28, .ifCond .eq 22, 3, [28], 0),
  (31, .aload_n 0, 1, [0], 0),
  (32, .invokevirtual 235, 3, [0, 175, 0, 12, 8016, 8018, 57, 1018], 0),
  (35, .aload_n 0, 1, [0], 0),
  (36, .iload_n 1, 1, [1], 0),
  (37, .invokevirtual 282, 3, [0, 190, 1, 12, 8073, 8075, 69, 1018], 0),
  (40, .ifCond .ne 5, 3, [25], 0),
  (43, .iconst 0, 1, [], 0),
  (44, .ireturn, 1, [], 0),
  (45, .aload_n 0, 1, [0], 0),
  (46, .getfield 242, 3, [12, 18, 7024], 0),
  (49, .istore_n 2, 1, [2], 0),
  (50, .aload_n 0, 1, [0], 0),
  (51, .invokevirtual 285, 3, [0, 191, 0, 12, 8077, 8079, 70, 1018], 0),
  (54, .ifCond .ne 5, 3, [33], 0),
  (57, .iconst 0, 1, [], 0),
  (58, .ireturn, 1, [], 0),
  (59, .aload_n 0, 1, [0], 0),
  (60, .getfield 242, 3, [12, 18, 7024], 0),
  (63, .istore_n 3, 1, [3], 0),
  (64, .aload_n 0, 1, [0], 0),
  (65, .getfield 206, 3, [12, 11, 7017], 0),
  (68, .iconst 2, 1, [], 2),
  (69, .if_icmp .ne 38, 3, [59], 0),
  (72, .aload_n 0, 1, [0], 0),
  (73, .getfield 216, 3, [12, 14, 7020], 0),
  (76, .iconst 1, 1, [], 1),
  (77, .bipush 9, 2, [], 9),
  (79, .invokestatic 238, 3, [1, 187, 3, 8062, 8063, 1018], 0),
  (82, .ifCond .eq 25, 3, [59], 0),
  (85, .aload_n 0, 1, [0], 0),
  (86, .getfield 37, 3, [12, 7, 7013], 0),
  (89, .iconst 2, 1, [], 2),
  (90, .iaload, 1, [], 0),
  (91, .aload_n 0, 1, [0], 0),
  (92, .getfield 216, 3, [12, 14, 7020], 0),
  (95, .iadd, 1, [], 0),
  (96, .bipush 16, 2, [], 16),
  (98, .if_icmp .le 9, 3, [59], 0),
  (101, .aload_n 0, 1, [0], 0),
  (102, .iconst 4, 1, [], 4),
  (103, .invokevirtual 232, 3, [0, 182, 1, 12, 8042, 8044, 62, 1018], 0),
  (106, .ireturn, 1, [], 0),
  (107, .aload_n 0, 1, [0], 0),
  (108, .iconst 1, 1, [], 1),
  (109, .bipush 9, 2, [], 9),
  (111, .invokevirtual 278, 3, [0, 186, 2, 12, 8058, 8060, 66, 1018], 0),
  (114, .ifCond .ne 5, 3, [66], 0),
  (117, .iconst 0, 1, [], 0),
  (118, .ireturn, 1, [], 0),
  (119, .aload_n 0, 1, [0], 0),
  (120, .getfield 242, 3, [12, 18, 7024], 0),
  (123, .istore 4, 2, [4], 0),
  (125, .aload_n 0, 1, [0], 0),
  (126, .iconst 0, 1, [], 0),
  (127, .bipush 47, 2, [], 47),
  (129, .invokevirtual 278, 3, [0, 186, 2, 12, 8058, 8060, 66, 1018], 0),
  (132, .ifCond .ne 5, 3, [76], 0),
  (135, .iconst 0, 1, [], 0),
  (136, .ireturn, 1, [], 0),
  (137, .iconst 0, 1, [], 0),
  (138, .istore 5, 2, [5], 0),
  (140, .iload 5, 2, [5], 0),
  (142, .iload 4, 2, [4], 0),
  (144, .if_icmp .ge 86, 3, [135], 0),
  (147, .bipush 29, 2, [], 29),
  (149, .iconst 5, 1, [], 5),
  (150, .aload_n 0, 1, [0], 0),
  (151, .getfield 37, 3, [12, 7, 7013], 0),
  (154, .iconst 2, 1, [], 2),
  (155, .iaload, 1, [], 0),
  (156, .imul, 1, [], 0),
  (157, .iadd, 1, [], 0),
  (158, .istore 6, 2, [6], 0),
  (160, .aload_n 0, 1, [0], 0),
  (161, .getfield 37, 3, [12, 7, 7013], 0),
  (164, .iload 6, 2, [6], 0),
  (166, .aload_n 0, 1, [0], 0),
  (167, .getfield 288, 3, [12, 20, 7026], 0),
  (170, .iastore, 1, [], 0),
  (171, .aload_n 0, 1, [0], 0),
  (172, .getfield 37, 3, [12, 7, 7013], 0),
  (175, .iload 6, 2, [6], 0),
  (177, .iconst 1, 1, [], 1),
  (178, .iadd, 1, [], 0),
  (179, .iload_n 3, 1, [3], 0),
  (180, .iastore, 1, [], 0),
  (181, .aload_n 0, 1, [0], 0),
  (182, .getfield 37, 3, [12, 7, 7013], 0),
  (185, .iload 6, 2, [6], 0),
  (187, .iconst 2, 1, [], 2),
  (188, .iadd, 1, [], 0),
  (189, .iload_n 1, 1, [1], 0),
  (190, .iastore, 1, [], 0),
  (191, .aload_n 0, 1, [0], 0),
  (192, .getfield 37, 3, [12, 7, 7013], 0),
  (195, .iload 6, 2, [6], 0),
  (197, .iconst 3, 1, [], 3),
  (198, .iadd, 1, [], 0),
  (199, .iload_n 2, 1, [2], 0),
  (200, .iastore, 1, [], 0),
  (201, .aload_n 0, 1, [0], 0),
  (202, .getfield 37, 3, [12, 7, 7013], 0),
  (205, .iload 6, 2, [6], 0),
  (207, .iconst 4, 1, [], 4),
  (208, .iadd, 1, [], 0),
  (209, .aload_n 0, 1, [0], 0),
  (210, .getfield 242, 3, [12, 18, 7024], 0),
  (213, .iastore, 1, [], 0),
  (214, .aload_n 0, 1, [0], 0),
  (215, .getfield 37, 3, [12, 7, 7013], 0),
  (218, .iconst 2, 1, [], 2),
  (219, .dup2, 1, [], 0),
  (220, .iaload, 1, [], 0),
  (221, .iconst 1, 1, [], 1),
  (222, .iadd, 1, [], 0),
  (223, .iastore, 1, [], 0),
  (224, .iinc 5 1, 3, [5], 1),
  (227, .goto (-87), 3, [78], 0),
  (230, .iconst 1, 1, [], 1),
  (231, .ireturn, 1, [], 0)]
def cd_M_takesWho : List Ent := [(0, .aload_n 0, 1, [0], 0),
  (1, .invokevirtual 245, 3, [0, 184, 0, 12, 8050, 8052, 64, 1018], 0),
  (4, .ifCond .ne 9, 3, [7], 0),
  (7, .aload_n 0, 1, [0], 0),
  (8, .iconst 1, 1, [], 1),
  (9, .invokevirtual 232, 3, [0, 182, 1, 12, 8042, 8044, 62, 1018], 0),
  (12, .ireturn, 1, [], 0),
  (13, .aload_n 0, 1, [0], 0),
  (14, .aload_n 0, 1, [0], 0),
  (15, .bipush 14, 2, [], 14),
  (17, .aload_n 0, 1, [0], 0),
  (18, .getfield 37, 3, [12, 7, 7013], 0),
  (21, .iconst 0, 1, [], 0),
  (22, .iaload, 1, [], 0),
  (23, .invokevirtual 249, 3, [0, 185, 2, 12, 8054, 8056, 65, 1018], 0),
  (26, .putfield 242, 3, [12, 18, 7024], 0),
  (29, .aload_n 0, 1, [0], 0),
  (30, .getfield 242, 3, [12, 18, 7024], 0),
  (33, .ifCond .lt 11, 3, [23], 0),
  (36, .aload_n 0, 1, [0], 0),
  (37, .getfield 242, 3, [12, 18, 7024], 0),
  (40, .iload_n 1, 1, [1], 0),
  (41, .if_icmp .ne 9, 3, [27], 0),
  (44, .aload_n 0, 1, [0], 0),
  (45, .iconst 3, 1, [], 3),
  (46, .invokevirtual 232, 3, [0, 182, 1, 12, 8042, 8044, 62, 1018], 0),
  (49, .ireturn, 1, [], 0),
  (50, .aload_n 0, 1, [0], 0),
  (51, .invokevirtual 235, 3, [0, 175, 0, 12, 8016, 8018, 57, 1018], 0),
  (54, .iconst 1, 1, [], 1),
  (55, .ireturn, 1, [], 0)]
def cd_M_takesSort : List Ent := [(0, .aload_n 0, 1, [0], 0),
  (1, .invokevirtual 245, 3, [0, 184, 0, 12, 8050, 8052, 64, 1018], 0),
  (4, .ifCond .ne 9, 3, [7], 0),
  (7, .aload_n 0, 1, [0], 0),
  (8, .iconst 1, 1, [], 1),
  (9, .invokevirtual 232, 3, [0, 182, 1, 12, 8042, 8044, 62, 1018], 0),
  (12, .ireturn, 1, [], 0),
  (13, .aload_n 0, 1, [0], 0),
  (14, .aload_n 0, 1, [0], 0),
  (15, .bipush 22, 2, [], 22),
  (17, .aload_n 0, 1, [0], 0),
  (18, .getfield 37, 3, [12, 7, 7013], 0),
  (21, .iconst 1, 1, [], 1),
  (22, .iaload, 1, [], 0),
  (23, .invokevirtual 249, 3, [0, 185, 2, 12, 8054, 8056, 65, 1018], 0),
  (26, .putfield 242, 3, [12, 18, 7024], 0),
  (29, .aload_n 0, 1, [0], 0),
  (30, .getfield 242, 3, [12, 18, 7024], 0),
  (33, .ifCond .ge 9, 3, [23], 0),
  (36, .aload_n 0, 1, [0], 0),
  (37, .iconst 3, 1, [], 3),
  (38, .invokevirtual 232, 3, [0, 182, 1, 12, 8042, 8044, 62, 1018], 0),
  (41, .ireturn, 1, [], 0),
  (42, .aload_n 0, 1, [0], 0),
  (43, .invokevirtual 235, 3, [0, 175, 0, 12, 8016, 8018, 57, 1018], 0),
  (46, .iconst 1, 1, [], 1),
  (47, .ireturn, 1, [], 0)]
def cd_M_readWants : List Ent := [(0, .aload_n 0, 1, [0], 0),
  (1, .getfield 37, 3, [12, 7, 7013], 0),
  (4, .iconst 3, 1, [], 3),
  (5, .iaload, 1, [], 0),
  (6, .bipush 8, 2, [], 8),
  (8, .if_icmp .ne 9, 3, [10], 0),
  (11, .aload_n 0, 1, [0], 0),
  (12, .iconst 4, 1, [], 4),
  (13, .invokevirtual 232, 3, [0, 182, 1, 12, 8042, 8044, 62, 1018], 0),
  (16, .ireturn, 1, [], 0),
  (17, .aload_n 0, 1, [0], 0),
  (18, .invokevirtual 235, 3, [0, 175, 0, 12, 8016, 8018, 57, 1018], 0),
  (21, .bipush 109, 2, [], 109),
  (23, .iconst 4, 1, [], 4),
  (24, .aload_n 0, 1, [0], 0),
  (25, .getfield 37, 3, [12, 7, 7013], 0),
  (28, .iconst 3, 1, [], 3),
  (29, .iaload, 1, [], 0),
  (30, .imul, 1, [], 0),
  (31, .iadd, 1, [], 0),
  (32, .istore_n 1, 1, [1], 0),
  (33, .aload_n 0, 1, [0], 0),
  (34, .iconst (-1), 1, [], (-1)),
  (35, .invokevirtual 282, 3, [0, 190, 1, 12, 8073, 8075, 69, 1018], 0),
  (38, .ifCond .ne 5, 3, [27], 0),
  (41, .iconst 0, 1, [], 0),
  (42, .ireturn, 1, [], 0),
  (43, .aload_n 0, 1, [0], 0),
  (44, .getfield 37, 3, [12, 7, 7013], 0),
  (47, .iload_n 1, 1, [1], 0),
  (48, .aload_n 0, 1, [0], 0),
  (49, .getfield 242, 3, [12, 18, 7024], 0),
  (52, .iastore, 1, [], 0),
  (53, .aload_n 0, 1, [0], 0),
  (54, .invokevirtual 285, 3, [0, 191, 0, 12, 8077, 8079, 70, 1018], 0),
  (57, .ifCond .ne 5, 3, [38], 0),
  (60, .iconst 0, 1, [], 0),
  (61, .ireturn, 1, [], 0),
  (62, .aload_n 0, 1, [0], 0),
  (63, .getfield 37, 3, [12, 7, 7013], 0),
  (66, .iload_n 1, 1, [1], 0),
  (67, .iconst 1, 1, [], 1),
  (68, .iadd, 1, [], 0),
  (69, .aload_n 0, 1, [0], 0),
  (70, .getfield 242, 3, [12, 18, 7024], 0),
  (73, .iastore, 1, [], 0),
  (74, .aload_n 0, 1, [0], 0),
  (75, .iconst 0, 1, [], 0),
  (76, .sipush 999, 3, [], 999),
  (79, .invokevirtual 278, 3, [0, 186, 2, 12, 8058, 8060, 66, 1018], 0),
  (82, .ifCond .ne 5, 3, [53], 0),
  (85, .iconst 0, 1, [], 0),
  (86, .ireturn, 1, [], 0),
  (87, .aload_n 0, 1, [0], 0),
  (88, .getfield 37, 3, [12, 7, 7013], 0),
  (91, .iload_n 1, 1, [1], 0),
  (92, .iconst 2, 1, [], 2),
  (93, .iadd, 1, [], 0),
  (94, .aload_n 0, 1, [0], 0),
  (95, .getfield 242, 3, [12, 18, 7024], 0),
  (98, .iastore, 1, [], 0),
  (99, .aload_n 0, 1, [0], 0),
  (100, .getfield 37, 3, [12, 7, 7013], 0),
  (103, .iload_n 1, 1, [1], 0),
  (104, .iconst 3, 1, [], 3),
  (105, .iadd, 1, [], 0),
  (106, .bipush 47, 2, [], 47),
  (108, .iastore, 1, [], 0),
  (109, .aload_n 0, 1, [0], 0),
  (110, .ldc2_w 176, 3, [6236], 25209),
  (113, .invokevirtual 253, 3, [0, 180, 1, 12, 8034, 8036, 60, 1018], 0),
  (116, .ifCond .eq 31, 3, [89], 0),
  (119, .aload_n 0, 1, [0], 0),
  (120, .invokevirtual 235, 3, [0, 175, 0, 12, 8016, 8018, 57, 1018], 0),
  (123, .aload_n 0, 1, [0], 0),
  (124, .iconst 0, 1, [], 0),
  (125, .bipush 47, 2, [], 47),
  (127, .invokevirtual 278, 3, [0, 186, 2, 12, 8058, 8060, 66, 1018], 0),
  (130, .ifCond .ne 5, 3, [81], 0),
  (133, .iconst 0, 1, [], 0),
  (134, .ireturn, 1, [], 0),
  (135, .aload_n 0, 1, [0], 0),
  (136, .getfield 37, 3, [12, 7, 7013], 0),
  (139, .iload_n 1, 1, [1], 0),
  (140, .iconst 3, 1, [], 3),
  (141, .iadd, 1, [], 0),
  (142, .aload_n 0, 1, [0], 0),
  (143, .getfield 242, 3, [12, 18, 7024], 0),
  (146, .iastore, 1, [], 0),
  (147, .aload_n 0, 1, [0], 0),
  (148, .getfield 37, 3, [12, 7, 7013], 0),
  (151, .iconst 3, 1, [], 3),
  (152, .dup2, 1, [], 0),
  (153, .iaload, 1, [], 0),
  (154, .iconst 1, 1, [], 1),
  (155, .iadd, 1, [], 0),
  (156, .iastore, 1, [], 0),
  (157, .iconst 1, 1, [], 1),
  (158, .ireturn, 1, [], 0)]
def cd_M_readGives : List Ent := [(0, .aload_n 0, 1, [0], 0),
  (1, .invokevirtual 235, 3, [0, 175, 0, 12, 8016, 8018, 57, 1018], 0),
  (4, .aload_n 0, 1, [0], 0),
  (5, .iconst (-1), 1, [], (-1)),
  (6, .invokevirtual 282, 3, [0, 190, 1, 12, 8073, 8075, 69, 1018], 0),
  (9, .ifCond .ne 5, 3, [8], 0),
  (12, .iconst 0, 1, [], 0),
  (13, .ireturn, 1, [], 0),
  (14, .aload_n 0, 1, [0], 0),
  (15, .getfield 242, 3, [12, 18, 7024], 0),
  (18, .istore_n 1, 1, [1], 0),
  (19, .aload_n 0, 1, [0], 0),
  (20, .invokevirtual 245, 3, [0, 184, 0, 12, 8050, 8052, 64, 1018], 0),
  (23, .ifCond .ne 9, 3, [18], 0),
  (26, .aload_n 0, 1, [0], 0),
  (27, .iconst 1, 1, [], 1),
  (28, .invokevirtual 232, 3, [0, 182, 1, 12, 8042, 8044, 62, 1018], 0),
  (31, .ireturn, 1, [], 0),
  (32, .aload_n 0, 1, [0], 0),
  (33, .bipush 14, 2, [], 14),
  (35, .aload_n 0, 1, [0], 0),
  (36, .getfield 37, 3, [12, 7, 7013], 0),
  (39, .iconst 0, 1, [], 0),
  (40, .iaload, 1, [], 0),
  (41, .invokevirtual 249, 3, [0, 185, 2, 12, 8054, 8056, 65, 1018], 0),
  (44, .istore_n 2, 1, [2], 0),
  (45, .iload_n 2, 1, [2], 0),
  (46, .ifCond .lt 27, 3, [43], 0),
  (49, .iload_n 2, 1, [2], 0),
  (50, .iload_n 1, 1, [1], 0),
  (51, .if_icmp .eq 22, 3, [43], 0),
  (54, .aload_n 0, 1, [0], 0),
  (55, .getfield 37, 3, [12, 7, 7013], 0),
  (58, .sipush 269, 3, [], 269),
  (61, .bipush 8, 2, [], 8),
  (63, .iload_n 1, 1, [1], 0),
  (64, .imul, 1, [], 0),
  (65, .iadd, 1, [], 0),
  (66, .iload_n 2, 1, [2], 0),
  (67, .iadd, 1, [], 0),
  (68, .iaload, 1, [], 0),
  (69, .iconst 1, 1, [], 1),
  (70, .if_icmp .ne 9, 3, [47], 0),
  (73, .aload_n 0, 1, [0], 0),
  (74, .iconst 3, 1, [], 3),
  (75, .invokevirtual 232, 3, [0, 182, 1, 12, 8042, 8044, 62, 1018], 0),
  (78, .ireturn, 1, [], 0),
  (79, .aload_n 0, 1, [0], 0),
  (80, .invokevirtual 235, 3, [0, 175, 0, 12, 8016, 8018, 57, 1018], 0),
  (83, .aload_n 0, 1, [0], 0),
  (84, .iconst 0, 1, [], 0),
  (85, .bipush 99, 2, [], 99),
  (87, .invokevirtual 278, 3, [0, 186, 2, 12, 8058, 8060, 66, 1018], 0),
  (90, .ifCond .ne 5, 3, [56], 0),
  (93, .iconst 0, 1, [], 0),
  (94, .ireturn, 1, [], 0),
  (95, .aload_n 0, 1, [0], 0),
  (96, .getfield 37, 3, [12, 7, 7013], 0),
  (99, .sipush 141, 3, [], 141),
  (102, .bipush 8, 2, [], 8),
  (104, .iload_n 1, 1, [1], 0),
  (105, .imul, 1, [], 0),
  (106, .iadd, 1, [], 0),
  (107, .iload_n 2, 1, [2], 0),
  (108, .iadd, 1, [], 0),
  (109, .aload_n 0, 1, [0], 0),
  (110, .getfield 242, 3, [12, 18, 7024], 0),
  (113, .iastore, 1, [], 0),
  (114, .aload_n 0, 1, [0], 0),
  (115, .iconst 0, 1, [], 0),
  (116, .bipush 9, 2, [], 9),
  (118, .invokevirtual 278, 3, [0, 186, 2, 12, 8058, 8060, 66, 1018], 0),
  (121, .ifCond .ne 5, 3, [75], 0),
  (124, .iconst 0, 1, [], 0),
  (125, .ireturn, 1, [], 0),
  (126, .aload_n 0, 1, [0], 0),
  (127, .getfield 37, 3, [12, 7, 7013], 0),
  (130, .sipush 205, 3, [], 205),
  (133, .bipush 8, 2, [], 8),
  (135, .iload_n 1, 1, [1], 0),
  (136, .imul, 1, [], 0),
  (137, .iadd, 1, [], 0),
  (138, .iload_n 2, 1, [2], 0),
  (139, .iadd, 1, [], 0),
  (140, .aload_n 0, 1, [0], 0),
  (141, .getfield 242, 3, [12, 18, 7024], 0),
  (144, .iastore, 1, [], 0),
  (145, .aload_n 0, 1, [0], 0),
  (146, .getfield 37, 3, [12, 7, 7013], 0),
  (149, .sipush 269, 3, [], 269),
  (152, .bipush 8, 2, [], 8),
  (154, .iload_n 1, 1, [1], 0),
  (155, .imul, 1, [], 0),
  (156, .iadd, 1, [], 0),
  (157, .iload_n 2, 1, [2], 0),
  (158, .iadd, 1, [], 0),
  (159, .iconst 1, 1, [], 1),
  (160, .iastore, 1, [], 0),
  (161, .iconst 1, 1, [], 1),
  (162, .ireturn, 1, [], 0)]
def cd_M_readLaw : List Ent := [(0, .aload_n 0, 1, [0], 0),
  (1, .getfield 291, 3, [12, 19, 7025], 0),
  (4, .ifCond .eq 9, 3, [7], 0),
  (7, .aload_n 0, 1, [0], 0),
  (8, .iconst 3, 1, [], 3),
  (9, .invokevirtual 232, 3, [0, 182, 1, 12, 8042, 8044, 62, 1018], 0),
  (12, .ireturn, 1, [], 0),
  (13, .aload_n 0, 1, [0], 0),
  (14, .iconst 1, 1, [], 1),
  (15, .putfield 291, 3, [12, 19, 7025], 0),
  (18, .aload_n 0, 1, [0], 0),
  (19, .invokevirtual 235, 3, [0, 175, 0, 12, 8016, 8018, 57, 1018], 0),
  (22, .aload_n 0, 1, [0], 0),
  (23, .iconst 2, 1, [], 2),
  (24, .bipush 6, 2, [], 6),
  (26, .invokevirtual 278, 3, [0, 186, 2, 12, 8058, 8060, 66, 1018], 0),
  (29, .ifCond .ne 5, 3, [19], 0),
  (32, .iconst 0, 1, [], 0),
  (33, .ireturn, 1, [], 0),
  (34, .aload_n 0, 1, [0], 0),
  (35, .getfield 37, 3, [12, 7, 7013], 0),
  (38, .iconst 4, 1, [], 4),
  (39, .aload_n 0, 1, [0], 0),
  (40, .getfield 242, 3, [12, 18, 7024], 0),
  (43, .iastore, 1, [], 0),
  (44, .aload_n 0, 1, [0], 0),
  (45, .ldc2_w 182, 3, [6239], 6385273),
  (48, .invokevirtual 253, 3, [0, 180, 1, 12, 8034, 8036, 60, 1018], 0),
  (51, .ifCond .eq 7, 3, [31], 0),
  (54, .iconst 0, 1, [], 0),
  (55, .goto 46, 3, [50], 0),
  (58, .aload_n 0, 1, [0], 0),
  (59, .ldc2_w 184, 3, [7000], 439855772532),
  (62, .invokevirtual 253, 3, [0, 180, 1, 12, 8034, 8036, 60, 1018], 0),
  (65, .ifCond .eq 7, 3, [37], 0),
  (68, .iconst 1, 1, [], 1),
  (69, .goto 32, 3, [50], 0),
  (72, .aload_n 0, 1, [0], 0),
  (73, .ldc2_w 186, 3, [7001], 1869505381),
  (76, .invokevirtual 253, 3, [0, 180, 1, 12, 8034, 8036, 60, 1018], 0),
  (79, .ifCond .eq 7, 3, [43], 0),
  (82, .iconst 2, 1, [], 2),
  (83, .goto 18, 3, [50], 0),
  (86, .aload_n 0, 1, [0], 0),
  (87, .ldc2_w 188, 3, [7002], 500086304371),
  (90, .invokevirtual 253, 3, [0, 180, 1, 12, 8034, 8036, 60, 1018], 0),
  (93, .ifCond .eq 7, 3, [49], 0),
  (96, .iconst 3, 1, [], 3),
  (97, .goto 4, 3, [50], 0),
  (100, .iconst (-1), 1, [], (-1)),
  (101, .istore_n 1, 1, [1], 0),
  (102, .iload_n 1, 1, [1], 0),
  (103, .ifCond .ge 9, 3, [57], 0),
  (106, .aload_n 0, 1, [0], 0),
  (107, .iconst 1, 1, [], 1),
  (108, .invokevirtual 232, 3, [0, 182, 1, 12, 8042, 8044, 62, 1018], 0),
  (111, .ireturn, 1, [], 0),
  (112, .aload_n 0, 1, [0], 0),
  (113, .getfield 37, 3, [12, 7, 7013], 0),
  (116, .iconst 5, 1, [], 5),
  (117, .iload_n 1, 1, [1], 0),
  (118, .iastore, 1, [], 0),
  (119, .aload_n 0, 1, [0], 0),
  (120, .invokevirtual 235, 3, [0, 175, 0, 12, 8016, 8018, 57, 1018], 0),
  (123, .iconst 1, 1, [], 1),
  (124, .ireturn, 1, [], 0)]
def cd_M_sign : List Ent := [(0, .aload_n 0, 1, [0], 0),
  (1, .iload_n 1, 1, [1], 0),
  (2, .invokevirtual 229, 3, [0, 196, 1, 12, 8097, 8099, 75, 1018], 0),
  (5, .ifCond .ne 9, 3, [8], 0),
  (8, .aload_n 0, 1, [0], 0),
  (9, .iconst 1, 1, [], 1),
  (10, .invokevirtual 232, 3, [0, 182, 1, 12, 8042, 8044, 62, 1018], 0),
  (13, .ireturn, 1, [], 0),
  (14, .aload_n 0, 1, [0], 0),
  (15, .invokevirtual 235, 3, [0, 175, 0, 12, 8016, 8018, 57, 1018], 0),
  (18, .iconst 1, 1, [], 1),
  (19, .ireturn, 1, [], 0)]
def cd_M_isSign : List Ent := [(0, .aload_n 0, 1, [0], 0),
  (1, .getfield 206, 3, [12, 11, 7017], 0),
  (4, .iconst 3, 1, [], 3),
  (5, .if_icmp .ne 15, 3, [10], 0),
  (8, .aload_n 0, 1, [0], 0),
  (9, .getfield 216, 3, [12, 14, 7020], 0),
  (12, .iload_n 1, 1, [1], 0),
  (13, .if_icmp .ne 7, 3, [10], 0),
  (16, .iconst 1, 1, [], 1),
  (17, .goto 4, 3, [11], 0),
  (20, .iconst 0, 1, [], 0),
  (21, .ireturn, 1, [], 0)]
def cd_M_fault : List Ent := [(0, .aload_n 0, 1, [0], 0),
  (1, .iconst 0, 1, [], 0),
  (2, .putfield 1, 3, [12, 0, 7006], 0),
  (5, .aload_n 0, 1, [0], 0),
  (6, .getfield 223, 3, [12, 15, 7021], 0),
  (9, .ireturn, 1, [], 0)]
def cd_M_unit : List Ent := [(0, .aload_n 0, 1, [0], 0),
  (1, .aload_n 0, 1, [0], 0),
  (2, .iload_n 1, 1, [1], 0),
  (3, .invokevirtual 308, 3, [0, 199, 1, 12, 8109, 8111, 76, 1018], 0),
  (6, .ifCond .eq 12, 3, [10], 0),
  (9, .iload_n 2, 1, [2], 0),
  (10, .iconst 0, 1, [], 0),
  (11, .iconst 4, 1, [], 4),
  (12, .invokestatic 238, 3, [1, 187, 3, 8062, 8063, 1018], 0),
  (15, .ifCond .ne 7, 3, [12], 0),
  (18, .iconst 1, 1, [], 1),
  (19, .goto 4, 3, [13], 0),
  (22, .iconst 0, 1, [], 0),
  (23, .invokevirtual 311, 3, [0, 200, 1, 12, 8113, 8115, 77, 1018], 0),
  (26, .ifCond .eq 5, 3, [17], 0),
  (29, .iconst 0, 1, [], 0),
  (30, .ireturn, 1, [], 0),
  (31, .iload_n 2, 1, [2], 0),
  (32, .iconst 4, 1, [], 4),
  (33, .if_icmp .ne 11, 3, [24], 0),
  (36, .aload_n 0, 1, [0], 0),
  (37, .iload_n 1, 1, [1], 0),
  (38, .invokevirtual 315, 3, [0, 201, 1, 12, 8117, 8119, 78, 1018], 0),
  (41, .goto 18, 3, [36], 0),
  (44, .aload_n 0, 1, [0], 0),
  (45, .getfield 33, 3, [12, 6, 7012], 0),
  (48, .bipush 29, 2, [], 29),
  (50, .iconst 5, 1, [], 5),
  (51, .iload_n 1, 1, [1], 0),
  (52, .imul, 1, [], 0),
  (53, .iadd, 1, [], 0),
  (54, .iconst 1, 1, [], 1),
  (55, .iadd, 1, [], 0),
  (56, .iload_n 2, 1, [2], 0),
  (57, .iadd, 1, [], 0),
  (58, .iaload, 1, [], 0),
  (59, .ireturn, 1, [], 0)]
def cd_M_isUnit : List Ent := [(0, .iload_n 1, 1, [1], 0),
  (1, .iconst 0, 1, [], 0),
  (2, .aload_n 0, 1, [0], 0),
  (3, .getfield 33, 3, [12, 6, 7012], 0),
  (6, .iconst 2, 1, [], 2),
  (7, .iaload, 1, [], 0),
  (8, .iconst 1, 1, [], 1),
  (9, .isub, 1, [], 0),
  (10, .invokestatic 238, 3, [1, 187, 3, 8062, 8063, 1018], 0),
  (13, .ireturn, 1, [], 0)]
def cd_M_throwsIf : List Ent := [(0, .aload_n 0, 1, [0], 0),
  (1, .iload_n 1, 1, [1], 0),
  (2, .ifCond .eq 7, 3, [5], 0),
  (5, .iconst 1, 1, [], 1),
  (6, .goto 4, 3, [6], 0),
  (9, .iconst 0, 1, [], 0),
  (10, .putfield 1, 3, [12, 0, 7006], 0),
  (13, .iload_n 1, 1, [1], 0),
  (14, .ireturn, 1, [], 0)]
def cd_M_spoils : List Ent := [(0, .aload_n 0, 1, [0], 0),
  (1, .getfield 33, 3, [12, 6, 7012], 0),
  (4, .bipush 29, 2, [], 29),
  (6, .iconst 5, 1, [], 5),
  (7, .iload_n 1, 1, [1], 0),
  (8, .imul, 1, [], 0),
  (9, .iadd, 1, [], 0),
  (10, .iconst 4, 1, [], 4),
  (11, .iadd, 1, [], 0),
  (12, .iaload, 1, [], 0),
  (13, .aload_n 0, 1, [0], 0),
  (14, .getfield 33, 3, [12, 6, 7012], 0),
  (17, .bipush 23, 2, [], 23),
  (19, .aload_n 0, 1, [0], 0),
  (20, .iload_n 1, 1, [1], 0),
  (21, .invokevirtual 304, 3, [0, 202, 1, 12, 8121, 8123, 79, 1018], 0),
  (24, .iadd, 1, [], 0),
  (25, .iaload, 1, [], 0),
  (26, .iadd, 1, [], 0),
  (27, .ireturn, 1, [], 0)]
def cd_M_sortOf : List Ent := [(0, .aload_n 0, 1, [0], 0),
  (1, .getfield 33, 3, [12, 6, 7012], 0),
  (4, .bipush 29, 2, [], 29),
  (6, .iconst 5, 1, [], 5),
  (7, .iload_n 1, 1, [1], 0),
  (8, .imul, 1, [], 0),
  (9, .iadd, 1, [], 0),
  (10, .iconst 1, 1, [], 1),
  (11, .iadd, 1, [], 0),
  (12, .iaload, 1, [], 0),
  (13, .ireturn, 1, [], 0)]
def cd_M_want : List Ent := [(0, .aload_n 0, 1, [0], 0),
  (1, .aload_n 0, 1, [0], 0),
  (2, .iload_n 1, 1, [1], 0),
  (3, .invokevirtual 318, 3, [0, 204, 1, 12, 8129, 8131, 80, 1018], 0),
  (6, .ifCond .eq 12, 3, [10], 0),
  (9, .iload_n 2, 1, [2], 0),
  (10, .iconst 0, 1, [], 0),
  (11, .iconst 3, 1, [], 3),
  (12, .invokestatic 238, 3, [1, 187, 3, 8062, 8063, 1018], 0),
  (15, .ifCond .ne 7, 3, [12], 0),
  (18, .iconst 1, 1, [], 1),
  (19, .goto 4, 3, [13], 0),
  (22, .iconst 0, 1, [], 0),
  (23, .invokevirtual 311, 3, [0, 200, 1, 12, 8113, 8115, 77, 1018], 0),
  (26, .ifCond .eq 7, 3, [17], 0),
  (29, .iconst 0, 1, [], 0),
  (30, .goto 16, 3, [27], 0),
  (33, .aload_n 0, 1, [0], 0),
  (34, .getfield 33, 3, [12, 6, 7012], 0),
  (37, .bipush 109, 2, [], 109),
  (39, .iconst 4, 1, [], 4),
  (40, .iload_n 1, 1, [1], 0),
  (41, .imul, 1, [], 0),
  (42, .iadd, 1, [], 0),
  (43, .iload_n 2, 1, [2], 0),
  (44, .iadd, 1, [], 0),
  (45, .iaload, 1, [], 0),
  (46, .ireturn, 1, [], 0)]
def cd_M_isWant : List Ent := [(0, .iload_n 1, 1, [1], 0),
  (1, .iconst 0, 1, [], 0),
  (2, .aload_n 0, 1, [0], 0),
  (3, .getfield 33, 3, [12, 6, 7012], 0),
  (6, .iconst 3, 1, [], 3),
  (7, .iaload, 1, [], 0),
  (8, .iconst 1, 1, [], 1),
  (9, .isub, 1, [], 0),
  (10, .invokestatic 238, 3, [1, 187, 3, 8062, 8063, 1018], 0),
  (13, .ireturn, 1, [], 0)]
def cd_M_giving : List Ent := [(0, .aload_n 0, 1, [0], 0),
  (1, .iconst 0, 1, [], 0),
  (2, .putfield 1, 3, [12, 0, 7006], 0),
  (5, .aload_n 0, 1, [0], 0),
  (6, .iload_n 1, 1, [1], 0),
  (7, .invokevirtual 321, 3, [0, 206, 1, 12, 8137, 8139, 81, 1018], 0),
  (10, .ifCond .eq 29, 3, [22], 0),
  (13, .aload_n 0, 1, [0], 0),
  (14, .iload_n 2, 1, [2], 0),
  (15, .invokevirtual 321, 3, [0, 206, 1, 12, 8137, 8139, 81, 1018], 0),
  (18, .ifCond .eq 21, 3, [22], 0),
  (21, .aload_n 0, 1, [0], 0),
  (22, .getfield 33, 3, [12, 6, 7012], 0),
  (25, .sipush 269, 3, [], 269),
  (28, .bipush 8, 2, [], 8),
  (30, .iload_n 1, 1, [1], 0),
  (31, .imul, 1, [], 0),
  (32, .iadd, 1, [], 0),
  (33, .iload_n 2, 1, [2], 0),
  (34, .iadd, 1, [], 0),
  (35, .iaload, 1, [], 0),
  (36, .ifCond .ne 5, 3, [24], 0),
  (39, .iconst (-1), 1, [], (-1)),
  (40, .ireturn, 1, [], 0),
  (41, .iload_n 3, 1, [3], 0),
  (42, .ifCond .ne 21, 3, [37], 0),
  (45, .aload_n 0, 1, [0], 0),
  (46, .getfield 33, 3, [12, 6, 7012], 0),
  (49, .sipush 141, 3, [], 141),
  (52, .bipush 8, 2, [], 8),
  (54, .iload_n 1, 1, [1], 0),
  (55, .imul, 1, [], 0),
  (56, .iadd, 1, [], 0),
  (57, .iload_n 2, 1, [2], 0),
  (58, .iadd, 1, [], 0),
  (59, .iaload, 1, [], 0),
  (60, .goto 27, 3, [52], 0),
  (63, .iload_n 3, 1, [3], 0),
  (64, .iconst 1, 1, [], 1),
  (65, .if_icmp .ne 21, 3, [51], 0),
  (68, .aload_n 0, 1, [0], 0),
  (69, .getfield 33, 3, [12, 6, 7012], 0),
  (72, .sipush 205, 3, [], 205),
  (75, .bipush 8, 2, [], 8),
  (77, .iload_n 1, 1, [1], 0),
  (78, .imul, 1, [], 0),
  (79, .iadd, 1, [], 0),
  (80, .iload_n 2, 1, [2], 0),
  (81, .iadd, 1, [], 0),
  (82, .iaload, 1, [], 0),
  (83, .goto 4, 3, [52], 0),
  (86, .iconst (-1), 1, [], (-1)),
  (87, .ireturn, 1, [], 0)]
def cd_M_isWho : List Ent := [(0, .iload_n 1, 1, [1], 0),
  (1, .iconst 0, 1, [], 0),
  (2, .aload_n 0, 1, [0], 0),
  (3, .getfield 33, 3, [12, 6, 7012], 0),
  (6, .iconst 0, 1, [], 0),
  (7, .iaload, 1, [], 0),
  (8, .iconst 1, 1, [], 1),
  (9, .isub, 1, [], 0),
  (10, .invokestatic 238, 3, [1, 187, 3, 8062, 8063, 1018], 0),
  (13, .ireturn, 1, [], 0)]
def cd_M_way : List Ent := [(0, .aload_n 0, 1, [0], 0),
  (1, .iconst 0, 1, [], 0),
  (2, .putfield 1, 3, [12, 0, 7006], 0),
  (5, .aload_n 0, 1, [0], 0),
  (6, .iload_n 1, 1, [1], 0),
  (7, .invokevirtual 308, 3, [0, 199, 1, 12, 8109, 8111, 76, 1018], 0),
  (10, .ifCond .eq 20, 3, [16], 0),
  (13, .aload_n 0, 1, [0], 0),
  (14, .iload_n 2, 1, [2], 0),
  (15, .invokevirtual 318, 3, [0, 204, 1, 12, 8129, 8131, 80, 1018], 0),
  (18, .ifCond .eq 12, 3, [16], 0),
  (21, .iload_n 3, 1, [3], 0),
  (22, .iconst 0, 1, [], 0),
  (23, .iconst 2, 1, [], 2),
  (24, .invokestatic 238, 3, [1, 187, 3, 8062, 8063, 1018], 0),
  (27, .ifCond .ne 5, 3, [18], 0),
  (30, .iconst (-1), 1, [], (-1)),
  (31, .ireturn, 1, [], 0),
  (32, .aload_n 0, 1, [0], 0),
  (33, .invokevirtual 374, 3, [0, 208, 0, 12, 8145, 8147, 82, 1018], 0),
  (36, .aload_n 0, 1, [0], 0),
  (37, .invokevirtual 377, 3, [0, 209, 0, 12, 8149, 8151, 83, 1018], 0),
  (40, .aload_n 0, 1, [0], 0),
  (41, .iload_n 1, 1, [1], 0),
  (42, .iload_n 2, 1, [2], 0),
  (43, .invokevirtual 380, 3, [0, 220, 2, 12, 8193, 8195, 93, 1018], 0),
  (46, .ifCond .ne 5, 3, [29], 0),
  (49, .iconst (-1), 1, [], (-1)),
  (50, .ireturn, 1, [], 0),
  (51, .aload_n 0, 1, [0], 0),
  (52, .aload_n 0, 1, [0], 0),
  (53, .getfield 89, 3, [12, 40, 7046], 0),
  (56, .bipush 8, 2, [], 8),
  (58, .iload_n 1, 1, [1], 0),
  (59, .imul, 1, [], 0),
  (60, .iload_n 2, 1, [2], 0),
  (61, .iadd, 1, [], 0),
  (62, .iaload, 1, [], 0),
  (63, .putfield 383, 3, [12, 41, 7047], 0),
  (66, .aload_n 0, 1, [0], 0),
  (67, .aload_n 0, 1, [0], 0),
  (68, .getfield 324, 3, [12, 25, 7031], 0),
  (71, .putfield 386, 3, [12, 42, 7048], 0),
  (74, .iload_n 3, 1, [3], 0),
  (75, .ifCond .ne 17, 3, [54], 0),
  (78, .aload_n 0, 1, [0], 0),
  (79, .getfield 80, 3, [12, 37, 7043], 0),
  (82, .bipush 8, 2, [], 8),
  (84, .iload_n 1, 1, [1], 0),
  (85, .imul, 1, [], 0),
  (86, .iload_n 2, 1, [2], 0),
  (87, .iadd, 1, [], 0),
  (88, .iaload, 1, [], 0),
  (89, .goto 33, 3, [74], 0),
  (92, .iload_n 3, 1, [3], 0),
  (93, .iconst 1, 1, [], 1),
  (94, .if_icmp .ne 17, 3, [66], 0),
  (97, .aload_n 0, 1, [0], 0),
  (98, .getfield 83, 3, [12, 38, 7044], 0),
  (101, .bipush 8, 2, [], 8),
  (103, .iload_n 1, 1, [1], 0),
  (104, .imul, 1, [], 0),
  (105, .iload_n 2, 1, [2], 0),
  (106, .iadd, 1, [], 0),
  (107, .iaload, 1, [], 0),
  (108, .goto 14, 3, [74], 0),
  (111, .aload_n 0, 1, [0], 0),
  (112, .getfield 86, 3, [12, 39, 7045], 0),
  (115, .bipush 8, 2, [], 8),
  (117, .iload_n 1, 1, [1], 0),
  (118, .imul, 1, [], 0),
  (119, .iload_n 2, 1, [2], 0),
  (120, .iadd, 1, [], 0),
  (121, .iaload, 1, [], 0),
  (122, .ireturn, 1, [], 0)]
def cd_M_asTold : List Ent := [(0, .iconst 0, 1, [], 0),
  (1, .istore_n 1, 1, [1], 0),
  (2, .iload_n 1, 1, [1], 0),
  (3, .bipush 64, 2, [], 64),
  (5, .if_icmp .ge 57, 3, [37], 0),
  (8, .aload_n 0, 1, [0], 0),
  (9, .getfield 50, 3, [12, 21, 7027], 0),
  (12, .iload_n 1, 1, [1], 0),
  (13, .aload_n 0, 1, [0], 0),
  (14, .getfield 33, 3, [12, 6, 7012], 0),
  (17, .sipush 269, 3, [], 269),
  (20, .iload_n 1, 1, [1], 0),
  (21, .iadd, 1, [], 0),
  (22, .iaload, 1, [], 0),
  (23, .iastore, 1, [], 0),
  (24, .aload_n 0, 1, [0], 0),
  (25, .getfield 53, 3, [12, 22, 7028], 0),
  (28, .iload_n 1, 1, [1], 0),
  (29, .aload_n 0, 1, [0], 0),
  (30, .getfield 33, 3, [12, 6, 7012], 0),
  (33, .sipush 141, 3, [], 141),
  (36, .iload_n 1, 1, [1], 0),
  (37, .iadd, 1, [], 0),
  (38, .iaload, 1, [], 0),
  (39, .iastore, 1, [], 0),
  (40, .aload_n 0, 1, [0], 0),
  (41, .getfield 56, 3, [12, 23, 7029], 0),
  (44, .iload_n 1, 1, [1], 0),
  (45, .aload_n 0, 1, [0], 0),
  (46, .getfield 33, 3, [12, 6, 7012], 0),
  (49, .sipush 205, 3, [], 205),
  (52, .iload_n 1, 1, [1], 0),
  (53, .iadd, 1, [], 0),
  (54, .iaload, 1, [], 0),
  (55, .iastore, 1, [], 0),
  (56, .iinc 1 1, 3, [1], 1),
  (59, .goto (-57), 3, [2], 0),
  (62, .iconst 0, 1, [], 0),
  (63, .istore_n 1, 1, [1], 0),
  (64, .iload_n 1, 1, [1], 0),
  (65, .bipush 8, 2, [], 8),
  (67, .if_icmp .ge 24, 3, [54], 0),
  (70, .aload_n 0, 1, [0], 0),
  (71, .getfield 59, 3, [12, 24, 7030], 0),
  (74, .iload_n 1, 1, [1], 0),
  (75, .aload_n 0, 1, [0], 0),
  (76, .getfield 33, 3, [12, 6, 7012], 0),
  (79, .bipush 15, 2, [], 15),
  (81, .iload_n 1, 1, [1], 0),
  (82, .iadd, 1, [], 0),
  (83, .iaload, 1, [], 0),
  (84, .iastore, 1, [], 0),
  (85, .iinc 1 1, 3, [1], 1),
  (88, .goto (-24), 3, [39], 0),
  (91, .aload_n 0, 1, [0], 0),
  (92, .aload_n 0, 1, [0], 0),
  (93, .getfield 33, 3, [12, 6, 7012], 0),
  (96, .iconst 4, 1, [], 4),
  (97, .iaload, 1, [], 0),
  (98, .putfield 324, 3, [12, 25, 7031], 0),
  (101, .aload_n 0, 1, [0], 0),
  (102, .aload_n 0, 1, [0], 0),
  (103, .getfield 33, 3, [12, 6, 7012], 0),
  (106, .iconst 5, 1, [], 5),
  (107, .iaload, 1, [], 0),
  (108, .putfield 327, 3, [12, 26, 7032], 0),
  (111, .aload_n 0, 1, [0], 0),
  (112, .sipush 255, 3, [], 255),
  (115, .putfield 330, 3, [12, 27, 7033], 0),
  (118, .return_, 1, [], 0)]
def cd_M_weigh : List Ent := [(0, .iconst 0, 1, [], 0),
  (1, .istore_n 1, 1, [1], 0),
  (2, .iload_n 1, 1, [1], 0),
  (3, .aload_n 0, 1, [0], 0),
  (4, .getfield 33, 3, [12, 6, 7012], 0),
  (7, .iconst 2, 1, [], 2),
  (8, .iaload, 1, [], 0),
  (9, .if_icmp .ge 201, 3, [135], 0),
  (12, .iload_n 1, 1, [1], 0),
  (13, .ifCond .le 147, 3, [109], 0),
  (16, .aload_n 0, 1, [0], 0),
  (17, .getfield 33, 3, [12, 6, 7012], 0),
  (20, .bipush 29, 2, [], 29),
  (22, .iconst 5, 1, [], 5),
  (23, .iload_n 1, 1, [1], 0),
  (24, .imul, 1, [], 0),
  (25, .iadd, 1, [], 0),
  (26, .iaload, 1, [], 0),
  (27, .aload_n 0, 1, [0], 0),
  (28, .getfield 33, 3, [12, 6, 7012], 0),
  (31, .bipush 29, 2, [], 29),
  (33, .iconst 5, 1, [], 5),
  (34, .iload_n 1, 1, [1], 0),
  (35, .imul, 1, [], 0),
  (36, .iadd, 1, [], 0),
  (37, .iconst 5, 1, [], 5),
  (38, .isub, 1, [], 0),
  (39, .iaload, 1, [], 0),
  (40, .if_icmp .ne 120, 3, [109], 0),
  (43, .iconst 0, 1, [], 0),
  (44, .istore_n 2, 1, [2], 0),
  (45, .iload_n 2, 1, [2], 0),
  (46, .bipush 8, 2, [], 8),
  (48, .if_icmp .ge 109, 3, [108], 0),
  (51, .aload_n 0, 1, [0], 0),
  (52, .getfield 80, 3, [12, 37, 7043], 0),
  (55, .bipush 8, 2, [], 8),
  (57, .iload_n 1, 1, [1], 0),
  (58, .imul, 1, [], 0),
  (59, .iload_n 2, 1, [2], 0),
  (60, .iadd, 1, [], 0),
  (61, .aload_n 0, 1, [0], 0),
  (62, .getfield 80, 3, [12, 37, 7043], 0),
  (65, .bipush 8, 2, [], 8),
  (67, .iload_n 1, 1, [1], 0),
  (68, .imul, 1, [], 0),
  (69, .iload_n 2, 1, [2], 0),
  (70, .iadd, 1, [], 0),
  (71, .bipush 8, 2, [], 8),
  (73, .isub, 1, [], 0),
  (74, .iaload, 1, [], 0),
  (75, .iastore, 1, [], 0),
  (76, .aload_n 0, 1, [0], 0),
  (77, .getfield 83, 3, [12, 38, 7044], 0),
  (80, .bipush 8, 2, [], 8),
  (82, .iload_n 1, 1, [1], 0),
  (83, .imul, 1, [], 0),
  (84, .iload_n 2, 1, [2], 0),
  (85, .iadd, 1, [], 0),
  (86, .aload_n 0, 1, [0], 0),
  (87, .getfield 83, 3, [12, 38, 7044], 0),
  (90, .bipush 8, 2, [], 8),
  (92, .iload_n 1, 1, [1], 0),
  (93, .imul, 1, [], 0),
  (94, .iload_n 2, 1, [2], 0),
  (95, .iadd, 1, [], 0),
  (96, .bipush 8, 2, [], 8),
  (98, .isub, 1, [], 0),
  (99, .iaload, 1, [], 0),
  (100, .iastore, 1, [], 0),
  (101, .aload_n 0, 1, [0], 0),
  (102, .getfield 86, 3, [12, 39, 7045], 0),
  (105, .bipush 8, 2, [], 8),
  (107, .iload_n 1, 1, [1], 0),
  (108, .imul, 1, [], 0),
  (109, .iload_n 2, 1, [2], 0),
  (110, .iadd, 1, [], 0),
  (111, .aload_n 0, 1, [0], 0),
  (112, .getfield 86, 3, [12, 39, 7045], 0),
  (115, .bipush 8, 2, [], 8),
  (117, .iload_n 1, 1, [1], 0),
  (118, .imul, 1, [], 0),
  (119, .iload_n 2, 1, [2], 0),
  (120, .iadd, 1, [], 0),
  (121, .bipush 8, 2, [], 8),
  (123, .isub, 1, [], 0),
  (124, .iaload, 1, [], 0),
  (125, .iastore, 1, [], 0),
  (126, .aload_n 0, 1, [0], 0),
  (127, .getfield 89, 3, [12, 40, 7046], 0),
  (130, .bipush 8, 2, [], 8),
  (132, .iload_n 1, 1, [1], 0),
  (133, .imul, 1, [], 0),
  (134, .iload_n 2, 1, [2], 0),
  (135, .iadd, 1, [], 0),
  (136, .aload_n 0, 1, [0], 0),
  (137, .getfield 89, 3, [12, 40, 7046], 0),
  (140, .bipush 8, 2, [], 8),
  (142, .iload_n 1, 1, [1], 0),
  (143, .imul, 1, [], 0),
  (144, .iload_n 2, 1, [2], 0),
  (145, .iadd, 1, [], 0),
  (146, .bipush 8, 2, [], 8),
  (148, .isub, 1, [], 0),
  (149, .iaload, 1, [], 0),
  (150, .iastore, 1, [], 0),
  (151, .iinc 2 1, 3, [2], 1),
  (154, .goto (-109), 3, [31], 0),
  (157, .goto 47, 3, [133], 0),
  (160, .aload_n 0, 1, [0], 0),
  (161, .iload_n 1, 1, [1], 0),
  (162, .invokevirtual 368, 3, [0, 210, 1, 12, 8153, 8155, 84, 1018], 0),
  (165, .ifCond .eq 11, 3, [117], 0),
  (168, .aload_n 0, 1, [0], 0),
  (169, .iload_n 1, 1, [1], 0),
  (170, .invokevirtual 371, 3, [0, 212, 1, 12, 8160, 8162, 85, 1018], 0),
  (173, .goto 31, 3, [133], 0),
  (176, .iconst 0, 1, [], 0),
  (177, .istore_n 2, 1, [2], 0),
  (178, .iload_n 2, 1, [2], 0),
  (179, .bipush 8, 2, [], 8),
  (181, .if_icmp .ge 23, 3, [133], 0),
  (184, .aload_n 0, 1, [0], 0),
  (185, .getfield 80, 3, [12, 37, 7043], 0),
  (188, .bipush 8, 2, [], 8),
  (190, .iload_n 1, 1, [1], 0),
  (191, .imul, 1, [], 0),
  (192, .iload_n 2, 1, [2], 0),
  (193, .iadd, 1, [], 0),
  (194, .ldc_w 358, 3, [8164], 1000000000),
  (197, .iastore, 1, [], 0),
  (198, .iinc 2 1, 3, [2], 1),
  (201, .goto (-23), 3, [119], 0),
  (204, .iinc 1 1, 3, [1], 1),
  (207, .goto (-205), 3, [2], 0),
  (210, .return_, 1, [], 0)]
def cd_M_areFirsts : List Ent := [(0, .aload_n 0, 1, [0], 0),
  (1, .getfield 330, 3, [12, 27, 7033], 0),
  (4, .aload_n 0, 1, [0], 0),
  (5, .getfield 33, 3, [12, 6, 7012], 0),
  (8, .bipush 29, 2, [], 29),
  (10, .iconst 5, 1, [], 5),
  (11, .iload_n 1, 1, [1], 0),
  (12, .imul, 1, [], 0),
  (13, .iadd, 1, [], 0),
  (14, .iconst 2, 1, [], 2),
  (15, .iadd, 1, [], 0),
  (16, .iaload, 1, [], 0),
  (17, .invokestatic 333, 3, [1, 211, 2, 8157, 8158, 1018], 0),
  (20, .ifCond .eq 46, 3, [41], 0),
  (23, .aload_n 0, 1, [0], 0),
  (24, .getfield 33, 3, [12, 6, 7012], 0),
  (27, .bipush 29, 2, [], 29),
  (29, .iconst 5, 1, [], 5),
  (30, .iload_n 1, 1, [1], 0),
  (31, .imul, 1, [], 0),
  (32, .iadd, 1, [], 0),
  (33, .iconst 3, 1, [], 3),
  (34, .iadd, 1, [], 0),
  (35, .iaload, 1, [], 0),
  (36, .ifCond .lt 26, 3, [39], 0),
  (39, .aload_n 0, 1, [0], 0),
  (40, .getfield 330, 3, [12, 27, 7033], 0),
  (43, .aload_n 0, 1, [0], 0),
  (44, .getfield 33, 3, [12, 6, 7012], 0),
  (47, .bipush 29, 2, [], 29),
  (49, .iconst 5, 1, [], 5),
  (50, .iload_n 1, 1, [1], 0),
  (51, .imul, 1, [], 0),
  (52, .iadd, 1, [], 0),
  (53, .iconst 3, 1, [], 3),
  (54, .iadd, 1, [], 0),
  (55, .iaload, 1, [], 0),
  (56, .invokestatic 333, 3, [1, 211, 2, 8157, 8158, 1018], 0),
  (59, .ifCond .eq 7, 3, [41], 0),
  (62, .iconst 1, 1, [], 1),
  (63, .goto 4, 3, [42], 0),
  (66, .iconst 0, 1, [], 0),
  (67, .ireturn, 1, [], 0)]
def cd_M_has : List Ent := [(0, .iload_n 0, 1, [0], 0),
  (1, .iload_n 1, 1, [1], 0),
  (2, .ishr, 1, [], 0),
  (3, .iconst 1, 1, [], 1),
  (4, .iand, 1, [], 0),
  (5, .iconst 1, 1, [], 1),
  (6, .if_icmp .ne 7, 3, [9], 0),
  (9, .iconst 1, 1, [], 1),
  (10, .goto 4, 3, [10], 0),
  (13, .iconst 0, 1, [], 0),
  (14, .ireturn, 1, [], 0)]
def cd_M_weighUnit : List Ent := [(0, .iconst 0, 1, [], 0),
  (1, .istore_n 2, 1, [2], 0),
  (2, .iload_n 2, 1, [2], 0),
  (3, .bipush 8, 2, [], 8),
  (5, .if_icmp .ge 23, 3, [16], 0),
  (8, .aload_n 0, 1, [0], 0),
  (9, .getfield 80, 3, [12, 37, 7043], 0),
  (12, .bipush 8, 2, [], 8),
  (14, .iload_n 1, 1, [1], 0),
  (15, .imul, 1, [], 0),
  (16, .iload_n 2, 1, [2], 0),
  (17, .iadd, 1, [], 0),
  (18, .ldc_w 358, 3, [8164], 1000000000),
  (21, .iastore, 1, [], 0),
  (22, .iinc 2 1, 3, [2], 1),
  (25, .goto (-23), 3, [2], 0),
  (28, .aload_n 0, 1, [0], 0),
  (29, .getfield 33, 3, [12, 6, 7012], 0),
  (32, .bipush 29, 2, [], 29),
  (34, .iconst 5, 1, [], 5),
  (35, .iload_n 1, 1, [1], 0),
  (36, .imul, 1, [], 0),
  (37, .iadd, 1, [], 0),
  (38, .iconst 4, 1, [], 4),
  (39, .iadd, 1, [], 0),
  (40, .iaload, 1, [], 0),
  (41, .istore_n 2, 1, [2], 0),
  (42, .aload_n 0, 1, [0], 0),
  (43, .aload_n 0, 1, [0], 0),
  (44, .getfield 324, 3, [12, 25, 7031], 0),
  (47, .invokevirtual 359, 3, [0, 213, 1, 12, 8165, 8167, 86, 1018], 0),
  (50, .aload_n 0, 1, [0], 0),
  (51, .iload_n 1, 1, [1], 0),
  (52, .aload_n 0, 1, [0], 0),
  (53, .getfield 33, 3, [12, 6, 7012], 0),
  (56, .bipush 23, 2, [], 23),
  (58, .aload_n 0, 1, [0], 0),
  (59, .iload_n 1, 1, [1], 0),
  (60, .invokevirtual 304, 3, [0, 202, 1, 12, 8121, 8123, 79, 1018], 0),
  (63, .iadd, 1, [], 0),
  (64, .iaload, 1, [], 0),
  (65, .iconst 1, 1, [], 1),
  (66, .isub, 1, [], 0),
  (67, .invokevirtual 362, 3, [0, 214, 2, 12, 8169, 8171, 87, 1018], 0),
  (70, .ifCond .eq 247, 3, [187], 0),
  (73, .aload_n 0, 1, [0], 0),
  (74, .getfield 324, 3, [12, 25, 7031], 0),
  (77, .iconst 1, 1, [], 1),
  (78, .isub, 1, [], 0),
  (79, .istore_n 3, 1, [3], 0),
  (80, .iconst 0, 1, [], 0),
  (81, .istore 4, 2, [4], 0),
  (83, .iload 4, 2, [4], 0),
  (85, .aload_n 0, 1, [0], 0),
  (86, .getfield 33, 3, [12, 6, 7012], 0),
  (89, .iconst 3, 1, [], 3),
  (90, .iaload, 1, [], 0),
  (91, .if_icmp .ge 223, 3, [186], 0),
  (94, .aload_n 0, 1, [0], 0),
  (95, .getfield 33, 3, [12, 6, 7012], 0),
  (98, .bipush 109, 2, [], 109),
  (100, .iconst 4, 1, [], 4),
  (101, .iload 4, 2, [4], 0),
  (103, .imul, 1, [], 0),
  (104, .iadd, 1, [], 0),
  (105, .iaload, 1, [], 0),
  (106, .aload_n 0, 1, [0], 0),
  (107, .getfield 62, 3, [12, 28, 7034], 0),
  (110, .iload_n 3, 1, [3], 0),
  (111, .iaload, 1, [], 0),
  (112, .if_icmp .ne 196, 3, [184], 0),
  (115, .aload_n 0, 1, [0], 0),
  (116, .getfield 33, 3, [12, 6, 7012], 0),
  (119, .bipush 109, 2, [], 109),
  (121, .iconst 4, 1, [], 4),
  (122, .iload 4, 2, [4], 0),
  (124, .imul, 1, [], 0),
  (125, .iadd, 1, [], 0),
  (126, .iconst 1, 1, [], 1),
  (127, .iadd, 1, [], 0),
  (128, .iaload, 1, [], 0),
  (129, .aload_n 0, 1, [0], 0),
  (130, .iload_n 1, 1, [1], 0),
  (131, .invokevirtual 304, 3, [0, 202, 1, 12, 8121, 8123, 79, 1018], 0),
  (134, .if_icmp .ne 174, 3, [184], 0),
  (137, .iload_n 2, 1, [2], 0),
  (138, .aload_n 0, 1, [0], 0),
  (139, .getfield 68, 3, [12, 30, 7036], 0),
  (142, .iload_n 3, 1, [3], 0),
  (143, .iaload, 1, [], 0),
  (144, .iadd, 1, [], 0),
  (145, .aload_n 0, 1, [0], 0),
  (146, .iload_n 1, 1, [1], 0),
  (147, .iload 4, 2, [4], 0),
  (149, .invokevirtual 365, 3, [0, 219, 2, 12, 8189, 8191, 92, 1018], 0),
  (152, .if_icmp .le 6, 3, [97], 0),
  (155, .goto 153, 3, [184], 0),
  (158, .aload_n 0, 1, [0], 0),
  (159, .getfield 71, 3, [12, 31, 7037], 0),
  (162, .iload_n 3, 1, [3], 0),
  (163, .iaload, 1, [], 0),
  (164, .aload_n 0, 1, [0], 0),
  (165, .getfield 74, 3, [12, 32, 7038], 0),
  (168, .iload_n 3, 1, [3], 0),
  (169, .iaload, 1, [], 0),
  (170, .iadd, 1, [], 0),
  (171, .istore 5, 2, [5], 0),
  (173, .bipush 8, 2, [], 8),
  (175, .iload_n 1, 1, [1], 0),
  (176, .imul, 1, [], 0),
  (177, .iload 4, 2, [4], 0),
  (179, .iadd, 1, [], 0),
  (180, .istore 6, 2, [6], 0),
  (182, .iload 5, 2, [5], 0),
  (184, .aload_n 0, 1, [0], 0),
  (185, .getfield 80, 3, [12, 37, 7043], 0),
  (188, .iload 6, 2, [6], 0),
  (190, .iaload, 1, [], 0),
  (191, .if_icmp .gt 117, 3, [184], 0),
  (194, .iload 5, 2, [5], 0),
  (196, .aload_n 0, 1, [0], 0),
  (197, .getfield 80, 3, [12, 37, 7043], 0),
  (200, .iload 6, 2, [6], 0),
  (202, .iaload, 1, [], 0),
  (203, .if_icmp .ne 22, 3, [135], 0),
  (206, .aload_n 0, 1, [0], 0),
  (207, .getfield 68, 3, [12, 30, 7036], 0),
  (210, .iload_n 3, 1, [3], 0),
  (211, .iaload, 1, [], 0),
  (212, .aload_n 0, 1, [0], 0),
  (213, .getfield 83, 3, [12, 38, 7044], 0),
  (216, .iload 6, 2, [6], 0),
  (218, .iaload, 1, [], 0),
  (219, .if_icmp .lt 6, 3, [135], 0),
  (222, .goto 86, 3, [184], 0),
  (225, .aload_n 0, 1, [0], 0),
  (226, .getfield 80, 3, [12, 37, 7043], 0),
  (229, .iload 6, 2, [6], 0),
  (231, .iload 5, 2, [5], 0),
  (233, .iastore, 1, [], 0),
  (234, .aload_n 0, 1, [0], 0),
  (235, .getfield 83, 3, [12, 38, 7044], 0),
  (238, .iload 6, 2, [6], 0),
  (240, .aload_n 0, 1, [0], 0),
  (241, .getfield 68, 3, [12, 30, 7036], 0),
  (244, .iload_n 3, 1, [3], 0),
  (245, .iaload, 1, [], 0),
  (246, .iastore, 1, [], 0),
  (247, .aload_n 0, 1, [0], 0),
  (248, .getfield 86, 3, [12, 39, 7045], 0),
  (251, .iload 6, 2, [6], 0),
  (253, .aload_n 0, 1, [0], 0),
  (254, .getfield 71, 3, [12, 31, 7037], 0),
  (257, .iload_n 3, 1, [3], 0),
  (258, .iaload, 1, [], 0),
  (259, .iastore, 1, [], 0),
  (260, .aload_n 0, 1, [0], 0),
  (261, .getfield 89, 3, [12, 40, 7046], 0),
  (264, .iload 6, 2, [6], 0),
  (266, .iconst 0, 1, [], 0),
  (267, .iastore, 1, [], 0),
  (268, .iconst 0, 1, [], 0),
  (269, .istore 7, 2, [7], 0),
  (271, .iload 7, 2, [7], 0),
  (273, .aload_n 0, 1, [0], 0),
  (274, .getfield 324, 3, [12, 25, 7031], 0),
  (277, .if_icmp .ge 31, 3, [184], 0),
  (280, .aload_n 0, 1, [0], 0),
  (281, .getfield 89, 3, [12, 40, 7046], 0),
  (284, .iload 6, 2, [6], 0),
  (286, .dup2, 1, [], 0),
  (287, .iaload, 1, [], 0),
  (288, .aload_n 0, 1, [0], 0),
  (289, .getfield 62, 3, [12, 28, 7034], 0),
  (292, .iload 7, 2, [7], 0),
  (294, .iaload, 1, [], 0),
  (295, .iconst 3, 1, [], 3),
  (296, .iload 7, 2, [7], 0),
  (298, .imul, 1, [], 0),
  (299, .ishl, 1, [], 0),
  (300, .ior, 1, [], 0),
  (301, .iastore, 1, [], 0),
  (302, .iinc 7 1, 3, [7], 1),
  (305, .goto (-34), 3, [163], 0),
  (308, .iinc 4 1, 3, [4], 1),
  (311, .goto (-228), 3, [52], 0),
  (314, .goto (-264), 3, [31], 0),
  (317, .return_, 1, [], 0)]
def cd_M_begin : List Ent := [(0, .aload_n 0, 1, [0], 0),
  (1, .iload_n 1, 1, [1], 0),
  (2, .putfield 342, 3, [12, 35, 7041], 0),
  (5, .aload_n 0, 1, [0], 0),
  (6, .iconst 0, 1, [], 0),
  (7, .putfield 345, 3, [12, 36, 7042], 0),
  (10, .aload_n 0, 1, [0], 0),
  (11, .getfield 65, 3, [12, 29, 7035], 0),
  (14, .iconst 0, 1, [], 0),
  (15, .iconst 0, 1, [], 0),
  (16, .iastore, 1, [], 0),
  (17, .aload_n 0, 1, [0], 0),
  (18, .iconst 0, 1, [], 0),
  (19, .putfield 339, 3, [12, 34, 7040], 0),
  (22, .iconst 0, 1, [], 0),
  (23, .istore_n 2, 1, [2], 0),
  (24, .iload_n 2, 1, [2], 0),
  (25, .bipush 8, 2, [], 8),
  (27, .if_icmp .ge 16, 3, [26], 0),
  (30, .aload_n 0, 1, [0], 0),
  (31, .getfield 77, 3, [12, 33, 7039], 0),
  (34, .iload_n 2, 1, [2], 0),
  (35, .iconst 0, 1, [], 0),
  (36, .iastore, 1, [], 0),
  (37, .iinc 2 1, 3, [2], 1),
  (40, .goto (-16), 3, [16], 0),
  (43, .return_, 1, [], 0)]
def cd_M_nextRow : List Ent := [(0, .aload_n 0, 1, [0], 0),
  (1, .getfield 345, 3, [12, 36, 7042], 0),
  (4, .aload_n 0, 1, [0], 0),
  (5, .getfield 342, 3, [12, 35, 7041], 0),
  (8, .if_icmp .ne 21, 3, [15], 0),
  (11, .aload_n 0, 1, [0], 0),
  (12, .dup, 1, [], 0),
  (13, .getfield 345, 3, [12, 36, 7042], 0),
  (16, .iconst 1, 1, [], 1),
  (17, .isub, 1, [], 0),
  (18, .putfield 345, 3, [12, 36, 7042], 0),
  (21, .aload_n 0, 1, [0], 0),
  (22, .aload_n 0, 1, [0], 0),
  (23, .getfield 345, 3, [12, 36, 7042], 0),
  (26, .invokevirtual 348, 3, [0, 215, 1, 12, 8173, 8175, 88, 1018], 0),
  (29, .aload_n 0, 1, [0], 0),
  (30, .getfield 345, 3, [12, 36, 7042], 0),
  (33, .ifCond .lt 153, 3, [100], 0),
  (36, .aload_n 0, 1, [0], 0),
  (37, .getfield 65, 3, [12, 29, 7035], 0),
  (40, .aload_n 0, 1, [0], 0),
  (41, .getfield 345, 3, [12, 36, 7042], 0),
  (44, .iaload, 1, [], 0),
  (45, .istore_n 3, 1, [3], 0),
  (46, .aload_n 0, 1, [0], 0),
  (47, .getfield 65, 3, [12, 29, 7035], 0),
  (50, .aload_n 0, 1, [0], 0),
  (51, .getfield 345, 3, [12, 36, 7042], 0),
  (54, .dup2, 1, [], 0),
  (55, .iaload, 1, [], 0),
  (56, .iconst 1, 1, [], 1),
  (57, .iadd, 1, [], 0),
  (58, .iastore, 1, [], 0),
  (59, .iload_n 3, 1, [3], 0),
  (60, .aload_n 0, 1, [0], 0),
  (61, .getfield 33, 3, [12, 6, 7012], 0),
  (64, .iconst 0, 1, [], 0),
  (65, .iaload, 1, [], 0),
  (66, .if_icmp .ne 31, 3, [53], 0),
  (69, .aload_n 0, 1, [0], 0),
  (70, .dup, 1, [], 0),
  (71, .getfield 345, 3, [12, 36, 7042], 0),
  (74, .iconst 1, 1, [], 1),
  (75, .isub, 1, [], 0),
  (76, .putfield 345, 3, [12, 36, 7042], 0),
  (79, .aload_n 0, 1, [0], 0),
  (80, .getfield 345, 3, [12, 36, 7042], 0),
  (83, .ifCond .lt (-54), 3, [15], 0),
  (86, .aload_n 0, 1, [0], 0),
  (87, .aload_n 0, 1, [0], 0),
  (88, .getfield 345, 3, [12, 36, 7042], 0),
  (91, .invokevirtual 348, 3, [0, 215, 1, 12, 8173, 8175, 88, 1018], 0),
  (94, .goto (-65), 3, [15], 0),
  (97, .aload_n 0, 1, [0], 0),
  (98, .iload_n 1, 1, [1], 0),
  (99, .iload_n 3, 1, [3], 0),
  (100, .aload_n 0, 1, [0], 0),
  (101, .getfield 345, 3, [12, 36, 7042], 0),
  (104, .invokevirtual 351, 3, [0, 216, 3, 12, 8177, 8179, 89, 1018], 0),
  (107, .ifCond .ne 6, 3, [61], 0),
  (110, .goto (-81), 3, [15], 0),
  (113, .aload_n 0, 1, [0], 0),
  (114, .iload_n 3, 1, [3], 0),
  (115, .aload_n 0, 1, [0], 0),
  (116, .getfield 345, 3, [12, 36, 7042], 0),
  (119, .aload_n 0, 1, [0], 0),
  (120, .getfield 342, 3, [12, 35, 7041], 0),
  (123, .invokevirtual 354, 3, [0, 218, 3, 12, 8185, 8187, 91, 1018], 0),
  (126, .aload_n 0, 1, [0], 0),
  (127, .getfield 68, 3, [12, 30, 7036], 0),
  (130, .aload_n 0, 1, [0], 0),
  (131, .getfield 345, 3, [12, 36, 7042], 0),
  (134, .iaload, 1, [], 0),
  (135, .iload_n 2, 1, [2], 0),
  (136, .if_icmp .le 14, 3, [80], 0),
  (139, .aload_n 0, 1, [0], 0),
  (140, .aload_n 0, 1, [0], 0),
  (141, .getfield 345, 3, [12, 36, 7042], 0),
  (144, .invokevirtual 348, 3, [0, 215, 1, 12, 8173, 8175, 88, 1018], 0),
  (147, .goto (-118), 3, [15], 0),
  (150, .aload_n 0, 1, [0], 0),
  (151, .dup, 1, [], 0),
  (152, .getfield 345, 3, [12, 36, 7042], 0),
  (155, .iconst 1, 1, [], 1),
  (156, .iadd, 1, [], 0),
  (157, .putfield 345, 3, [12, 36, 7042], 0),
  (160, .aload_n 0, 1, [0], 0),
  (161, .getfield 345, 3, [12, 36, 7042], 0),
  (164, .aload_n 0, 1, [0], 0),
  (165, .getfield 342, 3, [12, 35, 7041], 0),
  (168, .if_icmp .ne 5, 3, [93], 0),
  (171, .iconst 1, 1, [], 1),
  (172, .ireturn, 1, [], 0),
  (173, .aload_n 0, 1, [0], 0),
  (174, .getfield 65, 3, [12, 29, 7035], 0),
  (177, .aload_n 0, 1, [0], 0),
  (178, .getfield 345, 3, [12, 36, 7042], 0),
  (181, .iconst 0, 1, [], 0),
  (182, .iastore, 1, [], 0),
  (183, .goto (-154), 3, [15], 0),
  (186, .iconst 0, 1, [], 0),
  (187, .ireturn, 1, [], 0)]
def cd_M_away : List Ent := [(0, .aload_n 0, 1, [0], 0),
  (1, .getfield 77, 3, [12, 33, 7039], 0),
  (4, .aload_n 0, 1, [0], 0),
  (5, .getfield 62, 3, [12, 28, 7034], 0),
  (8, .iload_n 1, 1, [1], 0),
  (9, .iaload, 1, [], 0),
  (10, .dup2, 1, [], 0),
  (11, .iaload, 1, [], 0),
  (12, .iconst 1, 1, [], 1),
  (13, .isub, 1, [], 0),
  (14, .iastore, 1, [], 0),
  (15, .aload_n 0, 1, [0], 0),
  (16, .dup, 1, [], 0),
  (17, .getfield 339, 3, [12, 34, 7040], 0),
  (20, .aload_n 0, 1, [0], 0),
  (21, .getfield 327, 3, [12, 26, 7032], 0),
  (24, .iconst 3, 1, [], 3),
  (25, .if_icmp .ne 22, 3, [30], 0),
  (28, .iconst 1, 1, [], 1),
  (29, .aload_n 0, 1, [0], 0),
  (30, .getfield 33, 3, [12, 6, 7012], 0),
  (33, .bipush 7, 2, [], 7),
  (35, .aload_n 0, 1, [0], 0),
  (36, .getfield 62, 3, [12, 28, 7034], 0),
  (39, .iload_n 1, 1, [1], 0),
  (40, .iaload, 1, [], 0),
  (41, .iadd, 1, [], 0),
  (42, .iaload, 1, [], 0),
  (43, .ishl, 1, [], 0),
  (44, .goto 4, 3, [31], 0),
  (47, .iconst 0, 1, [], 0),
  (48, .ixor, 1, [], 0),
  (49, .putfield 339, 3, [12, 34, 7040], 0),
  (52, .return_, 1, [], 0)]
def cd_M_mayCome : List Ent := [(0, .aload_n 0, 1, [0], 0),
  (1, .getfield 330, 3, [12, 27, 7033], 0),
  (4, .iload_n 2, 1, [2], 0),
  (5, .invokestatic 333, 3, [1, 211, 2, 8157, 8158, 1018], 0),
  (8, .ifCond .ne 5, 3, [7], 0),
  (11, .iconst 0, 1, [], 0),
  (12, .ireturn, 1, [], 0),
  (13, .iload_n 3, 1, [3], 0),
  (14, .ifCond .ne 10, 3, [14], 0),
  (17, .aload_n 0, 1, [0], 0),
  (18, .iload_n 1, 1, [1], 0),
  (19, .iload_n 2, 1, [2], 0),
  (20, .invokevirtual 336, 3, [0, 217, 2, 12, 8181, 8183, 90, 1018], 0),
  (23, .ireturn, 1, [], 0),
  (24, .aload_n 0, 1, [0], 0),
  (25, .getfield 50, 3, [12, 21, 7027], 0),
  (28, .bipush 8, 2, [], 8),
  (30, .aload_n 0, 1, [0], 0),
  (31, .getfield 62, 3, [12, 28, 7034], 0),
  (34, .iload_n 3, 1, [3], 0),
  (35, .iconst 1, 1, [], 1),
  (36, .isub, 1, [], 0),
  (37, .iaload, 1, [], 0),
  (38, .imul, 1, [], 0),
  (39, .iload_n 2, 1, [2], 0),
  (40, .iadd, 1, [], 0),
  (41, .iaload, 1, [], 0),
  (42, .ifCond .ne 5, 3, [30], 0),
  (45, .iconst 0, 1, [], 0),
  (46, .ireturn, 1, [], 0),
  (47, .aload_n 0, 1, [0], 0),
  (48, .getfield 327, 3, [12, 26, 7032], 0),
  (51, .iconst 1, 1, [], 1),
  (52, .if_icmp .ne 27, 3, [48], 0),
  (55, .aload_n 0, 1, [0], 0),
  (56, .getfield 77, 3, [12, 33, 7039], 0),
  (59, .iload_n 2, 1, [2], 0),
  (60, .iaload, 1, [], 0),
  (61, .ifCond .eq 12, 3, [44], 0),
  (64, .aload_n 0, 1, [0], 0),
  (65, .iload_n 1, 1, [1], 0),
  (66, .iload_n 2, 1, [2], 0),
  (67, .invokevirtual 336, 3, [0, 217, 2, 12, 8181, 8183, 90, 1018], 0),
  (70, .ifCond .eq 7, 3, [46], 0),
  (73, .iconst 1, 1, [], 1),
  (74, .goto 4, 3, [47], 0),
  (77, .iconst 0, 1, [], 0),
  (78, .ireturn, 1, [], 0),
  (79, .aload_n 0, 1, [0], 0),
  (80, .getfield 327, 3, [12, 26, 7032], 0),
  (83, .iconst 2, 1, [], 2),
  (84, .if_icmp .ne 27, 3, [66], 0),
  (87, .aload_n 0, 1, [0], 0),
  (88, .getfield 77, 3, [12, 33, 7039], 0),
  (91, .iload_n 2, 1, [2], 0),
  (92, .iaload, 1, [], 0),
  (93, .ifCond .ne 16, 3, [64], 0),
  (96, .aload_n 0, 1, [0], 0),
  (97, .iload_n 1, 1, [1], 0),
  (98, .iload_n 2, 1, [2], 0),
  (99, .invokevirtual 336, 3, [0, 217, 2, 12, 8181, 8183, 90, 1018], 0),
  (102, .ifCond .ne 7, 3, [64], 0),
  (105, .iconst 1, 1, [], 1),
  (106, .goto 4, 3, [65], 0),
  (109, .iconst 0, 1, [], 0),
  (110, .ireturn, 1, [], 0),
  (111, .aload_n 0, 1, [0], 0),
  (112, .getfield 327, 3, [12, 26, 7032], 0),
  (115, .iconst 3, 1, [], 3),
  (116, .if_icmp .ne 22, 3, [80], 0),
  (119, .aload_n 0, 1, [0], 0),
  (120, .getfield 339, 3, [12, 34, 7040], 0),
  (123, .aload_n 0, 1, [0], 0),
  (124, .getfield 33, 3, [12, 6, 7012], 0),
  (127, .bipush 7, 2, [], 7),
  (129, .iload_n 2, 1, [2], 0),
  (130, .iadd, 1, [], 0),
  (131, .iaload, 1, [], 0),
  (132, .invokestatic 333, 3, [1, 211, 2, 8157, 8158, 1018], 0),
  (135, .ifCond .ne 7, 3, [82], 0),
  (138, .iconst 1, 1, [], 1),
  (139, .goto 4, 3, [83], 0),
  (142, .iconst 0, 1, [], 0),
  (143, .ireturn, 1, [], 0)]
def cd_M_isFirst : List Ent := [(0, .aload_n 0, 1, [0], 0),
  (1, .getfield 33, 3, [12, 6, 7012], 0),
  (4, .bipush 29, 2, [], 29),
  (6, .iconst 5, 1, [], 5),
  (7, .iload_n 1, 1, [1], 0),
  (8, .imul, 1, [], 0),
  (9, .iadd, 1, [], 0),
  (10, .iconst 2, 1, [], 2),
  (11, .iadd, 1, [], 0),
  (12, .iaload, 1, [], 0),
  (13, .iload_n 2, 1, [2], 0),
  (14, .if_icmp .eq 20, 3, [24], 0),
  (17, .aload_n 0, 1, [0], 0),
  (18, .getfield 33, 3, [12, 6, 7012], 0),
  (21, .bipush 29, 2, [], 29),
  (23, .iconst 5, 1, [], 5),
  (24, .iload_n 1, 1, [1], 0),
  (25, .imul, 1, [], 0),
  (26, .iadd, 1, [], 0),
  (27, .iconst 3, 1, [], 3),
  (28, .iadd, 1, [], 0),
  (29, .iaload, 1, [], 0),
  (30, .iload_n 2, 1, [2], 0),
  (31, .if_icmp .ne 7, 3, [26], 0),
  (34, .iconst 1, 1, [], 1),
  (35, .goto 4, 3, [27], 0),
  (38, .iconst 0, 1, [], 0),
  (39, .ireturn, 1, [], 0)]
def cd_M_put : List Ent := [(0, .aload_n 0, 1, [0], 0),
  (1, .getfield 62, 3, [12, 28, 7034], 0),
  (4, .iload_n 2, 1, [2], 0),
  (5, .iload_n 1, 1, [1], 0),
  (6, .iastore, 1, [], 0),
  (7, .aload_n 0, 1, [0], 0),
  (8, .getfield 77, 3, [12, 33, 7039], 0),
  (11, .iload_n 1, 1, [1], 0),
  (12, .dup2, 1, [], 0),
  (13, .iaload, 1, [], 0),
  (14, .iconst 1, 1, [], 1),
  (15, .iadd, 1, [], 0),
  (16, .iastore, 1, [], 0),
  (17, .aload_n 0, 1, [0], 0),
  (18, .dup, 1, [], 0),
  (19, .getfield 339, 3, [12, 34, 7040], 0),
  (22, .aload_n 0, 1, [0], 0),
  (23, .getfield 327, 3, [12, 26, 7032], 0),
  (26, .iconst 3, 1, [], 3),
  (27, .if_icmp .ne 17, 3, [29], 0),
  (30, .iconst 1, 1, [], 1),
  (31, .aload_n 0, 1, [0], 0),
  (32, .getfield 33, 3, [12, 6, 7012], 0),
  (35, .bipush 7, 2, [], 7),
  (37, .iload_n 1, 1, [1], 0),
  (38, .iadd, 1, [], 0),
  (39, .iaload, 1, [], 0),
  (40, .ishl, 1, [], 0),
  (41, .goto 4, 3, [30], 0),
  (44, .iconst 0, 1, [], 0),
  (45, .ixor, 1, [], 0),
  (46, .putfield 339, 3, [12, 34, 7040], 0),
  (49, .iload_n 2, 1, [2], 0),
  (50, .ifCond .ne 7, 3, [36], 0),
  (53, .iconst 0, 1, [], 0),
  (54, .goto 16, 3, [46], 0),
  (57, .bipush 8, 2, [], 8),
  (59, .aload_n 0, 1, [0], 0),
  (60, .getfield 62, 3, [12, 28, 7034], 0),
  (63, .iload_n 2, 1, [2], 0),
  (64, .iconst 1, 1, [], 1),
  (65, .isub, 1, [], 0),
  (66, .iaload, 1, [], 0),
  (67, .imul, 1, [], 0),
  (68, .iload_n 1, 1, [1], 0),
  (69, .iadd, 1, [], 0),
  (70, .istore 4, 2, [4], 0),
  (72, .aload_n 0, 1, [0], 0),
  (73, .getfield 68, 3, [12, 30, 7036], 0),
  (76, .iload_n 2, 1, [2], 0),
  (77, .iload_n 2, 1, [2], 0),
  (78, .ifCond .ne 7, 3, [54], 0),
  (81, .iconst 0, 1, [], 0),
  (82, .goto 19, 3, [65], 0),
  (85, .aload_n 0, 1, [0], 0),
  (86, .getfield 68, 3, [12, 30, 7036], 0),
  (89, .iload_n 2, 1, [2], 0),
  (90, .iconst 1, 1, [], 1),
  (91, .isub, 1, [], 0),
  (92, .iaload, 1, [], 0),
  (93, .aload_n 0, 1, [0], 0),
  (94, .getfield 56, 3, [12, 23, 7029], 0),
  (97, .iload 4, 2, [4], 0),
  (99, .iaload, 1, [], 0),
  (100, .iadd, 1, [], 0),
  (101, .iastore, 1, [], 0),
  (102, .aload_n 0, 1, [0], 0),
  (103, .getfield 71, 3, [12, 31, 7037], 0),
  (106, .iload_n 2, 1, [2], 0),
  (107, .iload_n 2, 1, [2], 0),
  (108, .ifCond .ne 7, 3, [73], 0),
  (111, .iconst 0, 1, [], 0),
  (112, .goto 19, 3, [84], 0),
  (115, .aload_n 0, 1, [0], 0),
  (116, .getfield 71, 3, [12, 31, 7037], 0),
  (119, .iload_n 2, 1, [2], 0),
  (120, .iconst 1, 1, [], 1),
  (121, .isub, 1, [], 0),
  (122, .iaload, 1, [], 0),
  (123, .aload_n 0, 1, [0], 0),
  (124, .getfield 53, 3, [12, 22, 7028], 0),
  (127, .iload 4, 2, [4], 0),
  (129, .iaload, 1, [], 0),
  (130, .iadd, 1, [], 0),
  (131, .iastore, 1, [], 0),
  (132, .aload_n 0, 1, [0], 0),
  (133, .getfield 74, 3, [12, 32, 7038], 0),
  (136, .iload_n 2, 1, [2], 0),
  (137, .iload_n 2, 1, [2], 0),
  (138, .ifCond .ne 7, 3, [92], 0),
  (141, .iconst 0, 1, [], 0),
  (142, .goto 29, 3, [110], 0),
  (145, .aload_n 0, 1, [0], 0),
  (146, .getfield 74, 3, [12, 32, 7038], 0),
  (149, .iload_n 2, 1, [2], 0),
  (150, .iconst 1, 1, [], 1),
  (151, .isub, 1, [], 0),
  (152, .iaload, 1, [], 0),
  (153, .iload_n 2, 1, [2], 0),
  (154, .iload_n 3, 1, [3], 0),
  (155, .iconst 1, 1, [], 1),
  (156, .isub, 1, [], 0),
  (157, .if_icmp .ge 12, 3, [108], 0),
  (160, .aload_n 0, 1, [0], 0),
  (161, .getfield 59, 3, [12, 24, 7030], 0),
  (164, .iload_n 1, 1, [1], 0),
  (165, .iaload, 1, [], 0),
  (166, .goto 4, 3, [109], 0),
  (169, .iconst 0, 1, [], 0),
  (170, .iadd, 1, [], 0),
  (171, .iastore, 1, [], 0),
  (172, .return_, 1, [], 0)]
def cd_M_lastHour : List Ent := [(0, .aload_n 0, 1, [0], 0),
  (1, .getfield 33, 3, [12, 6, 7012], 0),
  (4, .bipush 109, 2, [], 109),
  (6, .iconst 4, 1, [], 4),
  (7, .iload_n 2, 1, [2], 0),
  (8, .imul, 1, [], 0),
  (9, .iadd, 1, [], 0),
  (10, .iconst 3, 1, [], 3),
  (11, .iadd, 1, [], 0),
  (12, .iaload, 1, [], 0),
  (13, .istore_n 3, 1, [3], 0),
  (14, .aload_n 0, 1, [0], 0),
  (15, .iload_n 1, 1, [1], 0),
  (16, .invokevirtual 315, 3, [0, 201, 1, 12, 8117, 8119, 78, 1018], 0),
  (19, .iconst 1, 1, [], 1),
  (20, .isub, 1, [], 0),
  (21, .istore 4, 2, [4], 0),
  (23, .iload_n 3, 1, [3], 0),
  (24, .iload 4, 2, [4], 0),
  (26, .if_icmp .ge 7, 3, [22], 0),
  (29, .iload_n 3, 1, [3], 0),
  (30, .goto 5, 3, [23], 0),
  (33, .iload 4, 2, [4], 0),
  (35, .ireturn, 1, [], 0)]
def cd_M_isWay : List Ent := [(0, .aload_n 0, 1, [0], 0),
  (1, .getfield 80, 3, [12, 37, 7043], 0),
  (4, .bipush 8, 2, [], 8),
  (6, .iload_n 1, 1, [1], 0),
  (7, .imul, 1, [], 0),
  (8, .iload_n 2, 1, [2], 0),
  (9, .iadd, 1, [], 0),
  (10, .iaload, 1, [], 0),
  (11, .ldc_w 358, 3, [8164], 1000000000),
  (14, .if_icmp .ge 7, 3, [12], 0),
  (17, .iconst 1, 1, [], 1),
  (18, .goto 4, 3, [13], 0),
  (21, .iconst 0, 1, [], 0),
  (22, .ireturn, 1, [], 0)]
def cd_M_hand : List Ent := [(0, .aload_n 0, 1, [0], 0),
  (1, .iconst 0, 1, [], 0),
  (2, .putfield 1, 3, [12, 0, 7006], 0),
  (5, .iload_n 1, 1, [1], 0),
  (6, .iconst 0, 1, [], 0),
  (7, .aload_n 0, 1, [0], 0),
  (8, .getfield 386, 3, [12, 42, 7048], 0),
  (11, .iconst 1, 1, [], 1),
  (12, .isub, 1, [], 0),
  (13, .invokestatic 238, 3, [1, 187, 3, 8062, 8063, 1018], 0),
  (16, .ifCond .eq 17, 3, [20], 0),
  (19, .aload_n 0, 1, [0], 0),
  (20, .getfield 383, 3, [12, 41, 7047], 0),
  (23, .iconst 3, 1, [], 3),
  (24, .iload_n 1, 1, [1], 0),
  (25, .imul, 1, [], 0),
  (26, .ishr, 1, [], 0),
  (27, .bipush 7, 2, [], 7),
  (29, .iand, 1, [], 0),
  (30, .goto 4, 3, [21], 0),
  (33, .iconst (-1), 1, [], (-1)),
  (34, .ireturn, 1, [], 0)]
def cd_M_most : List Ent := [(0, .aload_n 0, 1, [0], 0),
  (1, .iconst 0, 1, [], 0),
  (2, .putfield 1, 3, [12, 0, 7006], 0),
  (5, .aload_n 0, 1, [0], 0),
  (6, .invokevirtual 374, 3, [0, 208, 0, 12, 8145, 8147, 82, 1018], 0),
  (9, .aload_n 0, 1, [0], 0),
  (10, .invokevirtual 377, 3, [0, 209, 0, 12, 8149, 8151, 83, 1018], 0),
  (13, .aload_n 0, 1, [0], 0),
  (14, .invokevirtual 395, 3, [0, 223, 0, 12, 8205, 8207, 94, 1018], 0),
  (17, .ireturn, 1, [], 0)]
def cd_M_mostMet : List Ent := [(0, .aload_n 0, 1, [0], 0),
  (1, .invokevirtual 389, 3, [0, 224, 0, 12, 8209, 8211, 95, 1018], 0),
  (4, .iconst 0, 1, [], 0),
  (5, .istore_n 1, 1, [1], 0),
  (6, .iconst 0, 1, [], 0),
  (7, .istore_n 2, 1, [2], 0),
  (8, .iload_n 2, 1, [2], 0),
  (9, .sipush 256, 3, [], 256),
  (12, .if_icmp .ge 31, 3, [23], 0),
  (15, .aload_n 0, 1, [0], 0),
  (16, .getfield 92, 3, [12, 43, 7049], 0),
  (19, .iload_n 2, 1, [2], 0),
  (20, .baload, 1, [], 0),
  (21, .ifCond .eq 16, 3, [21], 0),
  (24, .iload_n 2, 1, [2], 0),
  (25, .invokestatic 392, 3, [1, 225, 1, 8213, 8214, 1018], 0),
  (28, .iload_n 1, 1, [1], 0),
  (29, .if_icmp .le 8, 3, [21], 0),
  (32, .iload_n 2, 1, [2], 0),
  (33, .invokestatic 392, 3, [1, 225, 1, 8213, 8214, 1018], 0),
  (36, .istore_n 1, 1, [1], 0),
  (37, .iinc 2 1, 3, [2], 1),
  (40, .goto (-32), 3, [6], 0),
  (43, .iload_n 1, 1, [1], 0),
  (44, .ireturn, 1, [], 0)]
def cd_M_meets : List Ent := [(0, .iconst 0, 1, [], 0),
  (1, .istore_n 1, 1, [1], 0),
  (2, .iload_n 1, 1, [1], 0),
  (3, .sipush 256, 3, [], 256),
  (6, .if_icmp .ge 24, 3, [16], 0),
  (9, .aload_n 0, 1, [0], 0),
  (10, .getfield 92, 3, [12, 43, 7049], 0),
  (13, .iload_n 1, 1, [1], 0),
  (14, .iload_n 1, 1, [1], 0),
  (15, .ifCond .ne 7, 3, [12], 0),
  (18, .iconst 1, 1, [], 1),
  (19, .goto 4, 3, [13], 0),
  (22, .iconst 0, 1, [], 0),
  (23, .bastore, 1, [], 0),
  (24, .iinc 1 1, 3, [1], 1),
  (27, .goto (-25), 3, [2], 0),
  (30, .iconst 0, 1, [], 0),
  (31, .istore_n 1, 1, [1], 0),
  (32, .iload_n 1, 1, [1], 0),
  (33, .aload_n 0, 1, [0], 0),
  (34, .getfield 33, 3, [12, 6, 7012], 0),
  (37, .iconst 2, 1, [], 2),
  (38, .iaload, 1, [], 0),
  (39, .if_icmp .ge 91, 3, [72], 0),
  (42, .sipush 255, 3, [], 255),
  (45, .istore_n 2, 1, [2], 0),
  (46, .iload_n 2, 1, [2], 0),
  (47, .ifCond .le 77, 3, [70], 0),
  (50, .iconst 0, 1, [], 0),
  (51, .istore_n 3, 1, [3], 0),
  (52, .iload_n 3, 1, [3], 0),
  (53, .aload_n 0, 1, [0], 0),
  (54, .getfield 33, 3, [12, 6, 7012], 0),
  (57, .iconst 3, 1, [], 3),
  (58, .iaload, 1, [], 0),
  (59, .if_icmp .ge 59, 3, [68], 0),
  (62, .aload_n 0, 1, [0], 0),
  (63, .getfield 92, 3, [12, 43, 7049], 0),
  (66, .iload_n 2, 1, [2], 0),
  (67, .baload, 1, [], 0),
  (68, .ifCond .ne 50, 3, [68], 0),
  (71, .aload_n 0, 1, [0], 0),
  (72, .getfield 92, 3, [12, 43, 7049], 0),
  (75, .iload_n 2, 1, [2], 0),
  (76, .iload_n 2, 1, [2], 0),
  (77, .iload_n 3, 1, [3], 0),
  (78, .invokestatic 333, 3, [1, 211, 2, 8157, 8158, 1018], 0),
  (81, .ifCond .eq 29, 3, [64], 0),
  (84, .aload_n 0, 1, [0], 0),
  (85, .getfield 92, 3, [12, 43, 7049], 0),
  (88, .iload_n 2, 1, [2], 0),
  (89, .iconst 1, 1, [], 1),
  (90, .iload_n 3, 1, [3], 0),
  (91, .ishl, 1, [], 0),
  (92, .ixor, 1, [], 0),
  (93, .baload, 1, [], 0),
  (94, .ifCond .eq 16, 3, [64], 0),
  (97, .aload_n 0, 1, [0], 0),
  (98, .iload_n 1, 1, [1], 0),
  (99, .iload_n 3, 1, [3], 0),
  (100, .invokevirtual 380, 3, [0, 220, 2, 12, 8193, 8195, 93, 1018], 0),
  (103, .ifCond .eq 7, 3, [64], 0),
  (106, .iconst 1, 1, [], 1),
  (107, .goto 4, 3, [65], 0),
  (110, .iconst 0, 1, [], 0),
  (111, .bastore, 1, [], 0),
  (112, .iinc 3 1, 3, [3], 1),
  (115, .goto (-63), 3, [30], 0),
  (118, .iinc 2 (-1), 3, [2], (-1)),
  (121, .goto (-75), 3, [26], 0),
  (124, .iinc 1 1, 3, [1], 1),
  (127, .goto (-95), 3, [18], 0),
  (130, .return_, 1, [], 0)]
def cd_M_count1 : List Ent := [(0, .iconst 0, 1, [], 0),
  (1, .istore_n 1, 1, [1], 0),
  (2, .iload_n 0, 1, [0], 0),
  (3, .istore_n 2, 1, [2], 0),
  (4, .iload_n 2, 1, [2], 0),
  (5, .ifCond .eq 15, 3, [14], 0),
  (8, .iinc 1 1, 3, [1], 1),
  (11, .iload_n 2, 1, [2], 0),
  (12, .iload_n 2, 1, [2], 0),
  (13, .iconst 1, 1, [], 1),
  (14, .isub, 1, [], 0),
  (15, .iand, 1, [], 0),
  (16, .istore_n 2, 1, [2], 0),
  (17, .goto (-13), 3, [4], 0),
  (20, .iload_n 1, 1, [1], 0),
  (21, .ireturn, 1, [], 0)]
def cd_M_bars : List Ent := [(0, .aload_n 0, 1, [0], 0),
  (1, .iconst 0, 1, [], 0),
  (2, .putfield 1, 3, [12, 0, 7006], 0),
  (5, .aload_n 0, 1, [0], 0),
  (6, .invokevirtual 374, 3, [0, 208, 0, 12, 8145, 8147, 82, 1018], 0),
  (9, .aload_n 0, 1, [0], 0),
  (10, .invokevirtual 377, 3, [0, 209, 0, 12, 8149, 8151, 83, 1018], 0),
  (13, .iconst 0, 1, [], 0),
  (14, .istore_n 1, 1, [1], 0),
  (15, .iconst 1, 1, [], 1),
  (16, .istore_n 2, 1, [2], 0),
  (17, .iload_n 2, 1, [2], 0),
  (18, .iconst 1, 1, [], 1),
  (19, .aload_n 0, 1, [0], 0),
  (20, .getfield 33, 3, [12, 6, 7012], 0),
  (23, .iconst 3, 1, [], 3),
  (24, .iaload, 1, [], 0),
  (25, .ishl, 1, [], 0),
  (26, .if_icmp .ge 124, 3, [81], 0),
  (29, .iconst 0, 1, [], 0),
  (30, .istore_n 3, 1, [3], 0),
  (31, .iconst 0, 1, [], 0),
  (32, .istore 4, 2, [4], 0),
  (34, .iload 4, 2, [4], 0),
  (36, .aload_n 0, 1, [0], 0),
  (37, .getfield 33, 3, [12, 6, 7012], 0),
  (40, .iconst 2, 1, [], 2),
  (41, .iaload, 1, [], 0),
  (42, .if_icmp .ge 77, 3, [66], 0),
  (45, .iconst 0, 1, [], 0),
  (46, .istore 5, 2, [5], 0),
  (48, .iconst 0, 1, [], 0),
  (49, .istore 6, 2, [6], 0),
  (51, .iload 6, 2, [6], 0),
  (53, .aload_n 0, 1, [0], 0),
  (54, .getfield 33, 3, [12, 6, 7012], 0),
  (57, .iconst 3, 1, [], 3),
  (58, .iaload, 1, [], 0),
  (59, .if_icmp .ge 41, 3, [56], 0),
  (62, .iload 5, 2, [5], 0),
  (64, .ifCond .ne 23, 3, [50], 0),
  (67, .iload_n 2, 1, [2], 0),
  (68, .iload 6, 2, [6], 0),
  (70, .invokestatic 333, 3, [1, 211, 2, 8157, 8158, 1018], 0),
  (73, .ifCond .eq 18, 3, [52], 0),
  (76, .aload_n 0, 1, [0], 0),
  (77, .iload 4, 2, [4], 0),
  (79, .iload 6, 2, [6], 0),
  (81, .invokevirtual 380, 3, [0, 220, 2, 12, 8193, 8195, 93, 1018], 0),
  (84, .ifCond .eq 7, 3, [52], 0),
  (87, .iconst 1, 1, [], 1),
  (88, .goto 4, 3, [53], 0),
  (91, .iconst 0, 1, [], 0),
  (92, .istore 5, 2, [5], 0),
  (94, .iinc 6 1, 3, [6], 1),
  (97, .goto (-46), 3, [33], 0),
  (100, .iload_n 3, 1, [3], 0),
  (101, .iload 5, 2, [5], 0),
  (103, .ifCond .eq 7, 3, [61], 0),
  (106, .iconst 1, 1, [], 1),
  (107, .goto 4, 3, [62], 0),
  (110, .iconst 0, 1, [], 0),
  (111, .iadd, 1, [], 0),
  (112, .istore_n 3, 1, [3], 0),
  (113, .iinc 4 1, 3, [4], 1),
  (116, .goto (-82), 3, [23], 0),
  (119, .iload_n 2, 1, [2], 0),
  (120, .invokestatic 392, 3, [1, 225, 1, 8213, 8214, 1018], 0),
  (123, .iload_n 3, 1, [3], 0),
  (124, .if_icmp .le 20, 3, [79], 0),
  (127, .iload_n 1, 1, [1], 0),
  (128, .ifCond .eq 14, 3, [77], 0),
  (131, .iload_n 2, 1, [2], 0),
  (132, .invokestatic 392, 3, [1, 225, 1, 8213, 8214, 1018], 0),
  (135, .iload_n 1, 1, [1], 0),
  (136, .invokestatic 392, 3, [1, 225, 1, 8213, 8214, 1018], 0),
  (139, .if_icmp .ge 5, 3, [79], 0),
  (142, .iload_n 2, 1, [2], 0),
  (143, .istore_n 1, 1, [1], 0),
  (144, .iinc 2 1, 3, [2], 1),
  (147, .goto (-130), 3, [11], 0),
  (150, .iload_n 1, 1, [1], 0),
  (151, .ireturn, 1, [], 0)]
def cd_M_best : List Ent := [(0, .aload_n 0, 1, [0], 0),
  (1, .iconst 0, 1, [], 0),
  (2, .putfield 1, 3, [12, 0, 7006], 0),
  (5, .aload_n 0, 1, [0], 0),
  (6, .invokevirtual 374, 3, [0, 208, 0, 12, 8145, 8147, 82, 1018], 0),
  (9, .aload_n 0, 1, [0], 0),
  (10, .invokevirtual 377, 3, [0, 209, 0, 12, 8149, 8151, 83, 1018], 0),
  (13, .aload_n 0, 1, [0], 0),
  (14, .invokevirtual 416, 3, [0, 228, 0, 12, 8224, 8226, 96, 1018], 0),
  (17, .iload_n 1, 1, [1], 0),
  (18, .ifCond .ne 10, 3, [14], 0),
  (21, .aload_n 0, 1, [0], 0),
  (22, .getfield 407, 3, [12, 47, 7053], 0),
  (25, .goto 28, 3, [27], 0),
  (28, .iload_n 1, 1, [1], 0),
  (29, .iconst 1, 1, [], 1),
  (30, .if_icmp .ne 10, 3, [20], 0),
  (33, .aload_n 0, 1, [0], 0),
  (34, .getfield 410, 3, [12, 48, 7054], 0),
  (37, .goto 16, 3, [27], 0),
  (40, .iload_n 1, 1, [1], 0),
  (41, .iconst 2, 1, [], 2),
  (42, .if_icmp .ne 10, 3, [26], 0),
  (45, .aload_n 0, 1, [0], 0),
  (46, .getfield 413, 3, [12, 49, 7055], 0),
  (49, .goto 4, 3, [27], 0),
  (52, .iconst (-1), 1, [], (-1)),
  (53, .ireturn, 1, [], 0)]
def cd_M_bestDay : List Ent := [(0, .lconst 0, 1, [], 0),
  (1, .lstore_n 1, 1, [1], 0),
  (2, .iconst 0, 1, [], 0),
  (3, .istore_n 3, 1, [3], 0),
  (4, .iload_n 3, 1, [3], 0),
  (5, .bipush 8, 2, [], 8),
  (7, .if_icmp .ge 20, 3, [16], 0),
  (10, .lload_n 1, 1, [1], 0),
  (11, .ldc2_w 400, 3, [8228], 16),
  (14, .iload_n 3, 1, [3], 0),
  (15, .invokestatic 402, 3, [1, 229, 1, 8229, 8230, 1018], 0),
  (18, .lmul, 1, [], 0),
  (19, .ladd, 1, [], 0),
  (20, .lstore_n 1, 1, [1], 0),
  (21, .iinc 3 1, 3, [3], 1),
  (24, .goto (-20), 3, [4], 0),
  (27, .iconst 0, 1, [], 0),
  (28, .istore_n 3, 1, [3], 0),
  (29, .iload_n 3, 1, [3], 0),
  (30, .sipush 256, 3, [], 256),
  (33, .if_icmp .ge 33, 3, [37], 0),
  (36, .aload_n 0, 1, [0], 0),
  (37, .getfield 96, 3, [12, 44, 7050], 0),
  (40, .iload_n 3, 1, [3], 0),
  (41, .iload_n 3, 1, [3], 0),
  (42, .ifCond .ne 7, 3, [28], 0),
  (45, .iconst 0, 1, [], 0),
  (46, .goto 6, 3, [29], 0),
  (49, .ldc_w 406, 3, [8233], (-1000000000)),
  (52, .iastore, 1, [], 0),
  (53, .aload_n 0, 1, [0], 0),
  (54, .getfield 102, 3, [12, 46, 7052], 0),
  (57, .iload_n 3, 1, [3], 0),
  (58, .lload_n 1, 1, [1], 0),
  (59, .lastore, 1, [], 0),
  (60, .iinc 3 1, 3, [3], 1),
  (63, .goto (-34), 3, [18], 0),
  (66, .iconst 0, 1, [], 0),
  (67, .istore_n 3, 1, [3], 0),
  (68, .iload_n 3, 1, [3], 0),
  (69, .aload_n 0, 1, [0], 0),
  (70, .getfield 33, 3, [12, 6, 7012], 0),
  (73, .iconst 2, 1, [], 2),
  (74, .iaload, 1, [], 0),
  (75, .if_icmp .ge 206, 3, [153], 0),
  (78, .sipush 255, 3, [], 255),
  (81, .istore 4, 2, [4], 0),
  (83, .iload 4, 2, [4], 0),
  (85, .ifCond .le 190, 3, [151], 0),
  (88, .iconst 0, 1, [], 0),
  (89, .istore 5, 2, [5], 0),
  (91, .iload 5, 2, [5], 0),
  (93, .aload_n 0, 1, [0], 0),
  (94, .getfield 33, 3, [12, 6, 7012], 0),
  (97, .iconst 3, 1, [], 3),
  (98, .iaload, 1, [], 0),
  (99, .if_icmp .ge 170, 3, [149], 0),
  (102, .iload 4, 2, [4], 0),
  (104, .iconst 1, 1, [], 1),
  (105, .iload 5, 2, [5], 0),
  (107, .ishl, 1, [], 0),
  (108, .ixor, 1, [], 0),
  (109, .istore 6, 2, [6], 0),
  (111, .iload 4, 2, [4], 0),
  (113, .iload 5, 2, [5], 0),
  (115, .invokestatic 333, 3, [1, 211, 2, 8157, 8158, 1018], 0),
  (118, .ifCond .eq 145, 3, [147], 0),
  (121, .aload_n 0, 1, [0], 0),
  (122, .iload_n 3, 1, [3], 0),
  (123, .iload 5, 2, [5], 0),
  (125, .invokevirtual 380, 3, [0, 220, 2, 12, 8193, 8195, 93, 1018], 0),
  (128, .ifCond .eq 135, 3, [147], 0),
  (131, .aload_n 0, 1, [0], 0),
  (132, .getfield 96, 3, [12, 44, 7050], 0),
  (135, .iload 6, 2, [6], 0),
  (137, .iaload, 1, [], 0),
  (138, .ldc_w 406, 3, [8233], (-1000000000)),
  (141, .if_icmp .ne 6, 3, [79], 0),
  (144, .goto 119, 3, [147], 0),
  (147, .aload_n 0, 1, [0], 0),
  (148, .getfield 96, 3, [12, 44, 7050], 0),
  (151, .iload 6, 2, [6], 0),
  (153, .iaload, 1, [], 0),
  (154, .aload_n 0, 1, [0], 0),
  (155, .getfield 33, 3, [12, 6, 7012], 0),
  (158, .bipush 109, 2, [], 109),
  (160, .iconst 4, 1, [], 4),
  (161, .iload 5, 2, [5], 0),
  (163, .imul, 1, [], 0),
  (164, .iadd, 1, [], 0),
  (165, .iconst 2, 1, [], 2),
  (166, .iadd, 1, [], 0),
  (167, .iaload, 1, [], 0),
  (168, .iadd, 1, [], 0),
  (169, .aload_n 0, 1, [0], 0),
  (170, .getfield 80, 3, [12, 37, 7043], 0),
  (173, .bipush 8, 2, [], 8),
  (175, .iload_n 3, 1, [3], 0),
  (176, .imul, 1, [], 0),
  (177, .iload 5, 2, [5], 0),
  (179, .iadd, 1, [], 0),
  (180, .iaload, 1, [], 0),
  (181, .isub, 1, [], 0),
  (182, .istore 7, 2, [7], 0),
  (184, .aload_n 0, 1, [0], 0),
  (185, .getfield 102, 3, [12, 46, 7052], 0),
  (188, .iload 6, 2, [6], 0),
  (190, .laload, 1, [], 0),
  (191, .bipush 16, 2, [], 16),
  (193, .iload_n 3, 1, [3], 0),
  (194, .isub, 1, [], 0),
  (195, .i2l, 1, [], 0),
  (196, .iload 5, 2, [5], 0),
  (198, .invokestatic 402, 3, [1, 229, 1, 8229, 8230, 1018], 0),
  (201, .lmul, 1, [], 0),
  (202, .lsub, 1, [], 0),
  (203, .lstore 8, 2, [8], 0),
  (205, .iload 7, 2, [7], 0),
  (207, .aload_n 0, 1, [0], 0),
  (208, .getfield 96, 3, [12, 44, 7050], 0),
  (211, .iload 4, 2, [4], 0),
  (213, .iaload, 1, [], 0),
  (214, .if_icmp .lt 49, 3, [147], 0),
  (217, .iload 7, 2, [7], 0),
  (219, .aload_n 0, 1, [0], 0),
  (220, .getfield 96, 3, [12, 44, 7050], 0),
  (223, .iload 4, 2, [4], 0),
  (225, .iaload, 1, [], 0),
  (226, .if_icmp .ne 19, 3, [137], 0),
  (229, .lload 8, 2, [8], 0),
  (231, .aload_n 0, 1, [0], 0),
  (232, .getfield 102, 3, [12, 46, 7052], 0),
  (235, .iload 4, 2, [4], 0),
  (237, .laload, 1, [], 0),
  (238, .lcmp, 1, [], 0),
  (239, .ifCond .lt 6, 3, [137], 0),
  (242, .goto 21, 3, [147], 0),
  (245, .aload_n 0, 1, [0], 0),
  (246, .getfield 96, 3, [12, 44, 7050], 0),
  (249, .iload 4, 2, [4], 0),
  (251, .iload 7, 2, [7], 0),
  (253, .iastore, 1, [], 0),
  (254, .aload_n 0, 1, [0], 0),
  (255, .getfield 102, 3, [12, 46, 7052], 0),
  (258, .iload 4, 2, [4], 0),
  (260, .lload 8, 2, [8], 0),
  (262, .lastore, 1, [], 0),
  (263, .iinc 5 1, 3, [5], 1),
  (266, .goto (-175), 3, [51], 0),
  (269, .iinc 4 (-1), 3, [4], (-1)),
  (272, .goto (-189), 3, [47], 0),
  (275, .iinc 3 1, 3, [3], 1),
  (278, .goto (-210), 3, [39], 0),
  (281, .iconst 0, 1, [], 0),
  (282, .istore_n 3, 1, [3], 0),
  (283, .iconst 1, 1, [], 1),
  (284, .istore 4, 2, [4], 0),
  (286, .iload 4, 2, [4], 0),
  (288, .sipush 256, 3, [], 256),
  (291, .if_icmp .ge 99, 3, [209], 0),
  (294, .aload_n 0, 1, [0], 0),
  (295, .getfield 96, 3, [12, 44, 7050], 0),
  (298, .iload 4, 2, [4], 0),
  (300, .iaload, 1, [], 0),
  (301, .ldc_w 406, 3, [8233], (-1000000000)),
  (304, .if_icmp .eq 80, 3, [207], 0),
  (307, .aload_n 0, 1, [0], 0),
  (308, .getfield 96, 3, [12, 44, 7050], 0),
  (311, .iload 4, 2, [4], 0),
  (313, .iaload, 1, [], 0),
  (314, .aload_n 0, 1, [0], 0),
  (315, .getfield 96, 3, [12, 44, 7050], 0),
  (318, .iload_n 3, 1, [3], 0),
  (319, .iaload, 1, [], 0),
  (320, .if_icmp .ge 6, 3, [176], 0),
  (323, .goto 61, 3, [207], 0),
  (326, .iload 4, 2, [4], 0),
  (328, .invokestatic 392, 3, [1, 225, 1, 8213, 8214, 1018], 0),
  (331, .iload_n 3, 1, [3], 0),
  (332, .invokestatic 392, 3, [1, 225, 1, 8213, 8214, 1018], 0),
  (335, .isub, 1, [], 0),
  (336, .istore 5, 2, [5], 0),
  (338, .aload_n 0, 1, [0], 0),
  (339, .getfield 96, 3, [12, 44, 7050], 0),
  (342, .iload 4, 2, [4], 0),
  (344, .iaload, 1, [], 0),
  (345, .aload_n 0, 1, [0], 0),
  (346, .getfield 96, 3, [12, 44, 7050], 0),
  (349, .iload_n 3, 1, [3], 0),
  (350, .iaload, 1, [], 0),
  (351, .if_icmp .gt 30, 3, [205], 0),
  (354, .iload 5, 2, [5], 0),
  (356, .ifCond .gt 25, 3, [205], 0),
  (359, .iload 5, 2, [5], 0),
  (361, .ifCond .ne 23, 3, [207], 0),
  (364, .aload_n 0, 1, [0], 0),
  (365, .getfield 102, 3, [12, 46, 7052], 0),
  (368, .iload 4, 2, [4], 0),
  (370, .laload, 1, [], 0),
  (371, .aload_n 0, 1, [0], 0),
  (372, .getfield 102, 3, [12, 46, 7052], 0),
  (375, .iload_n 3, 1, [3], 0),
  (376, .laload, 1, [], 0),
  (377, .lcmp, 1, [], 0),
  (378, .ifCond .ge 6, 3, [207], 0),
  (381, .iload 4, 2, [4], 0),
  (383, .istore_n 3, 1, [3], 0),
  (384, .iinc 4 1, 3, [4], 1),
  (387, .goto (-101), 3, [157], 0),
  (390, .aload_n 0, 1, [0], 0),
  (391, .aload_n 0, 1, [0], 0),
  (392, .getfield 96, 3, [12, 44, 7050], 0),
  (395, .iload_n 3, 1, [3], 0),
  (396, .iaload, 1, [], 0),
  (397, .putfield 407, 3, [12, 47, 7053], 0),
  (400, .aload_n 0, 1, [0], 0),
  (401, .iload_n 3, 1, [3], 0),
  (402, .invokestatic 392, 3, [1, 225, 1, 8213, 8214, 1018], 0),
  (405, .putfield 410, 3, [12, 48, 7054], 0),
  (408, .aload_n 0, 1, [0], 0),
  (409, .iconst 0, 1, [], 0),
  (410, .putfield 413, 3, [12, 49, 7055], 0),
  (413, .aload_n 0, 1, [0], 0),
  (414, .getfield 102, 3, [12, 46, 7052], 0),
  (417, .iload_n 3, 1, [3], 0),
  (418, .laload, 1, [], 0),
  (419, .lstore 4, 2, [4], 0),
  (421, .bipush 7, 2, [], 7),
  (423, .istore 6, 2, [6], 0),
  (425, .iload 6, 2, [6], 0),
  (427, .ifCond .lt 79, 3, [270], 0),
  (430, .lload 4, 2, [4], 0),
  (432, .ldc2_w 398, 3, [8232], 17),
  (435, .lrem, 1, [], 0),
  (436, .l2i, 1, [], 0),
  (437, .istore 7, 2, [7], 0),
  (439, .lload 4, 2, [4], 0),
  (441, .ldc2_w 398, 3, [8232], 17),
  (444, .ldiv, 1, [], 0),
  (445, .lstore 4, 2, [4], 0),
  (447, .aload_n 0, 1, [0], 0),
  (448, .getfield 99, 3, [12, 45, 7051], 0),
  (451, .iload 6, 2, [6], 0),
  (453, .iload 7, 2, [7], 0),
  (455, .bipush 16, 2, [], 16),
  (457, .if_icmp .ne 7, 3, [248], 0),
  (460, .iconst (-1), 1, [], (-1)),
  (461, .goto 5, 3, [249], 0),
  (464, .iload 7, 2, [7], 0),
  (466, .iastore, 1, [], 0),
  (467, .aload_n 0, 1, [0], 0),
  (468, .dup, 1, [], 0),
  (469, .getfield 413, 3, [12, 49, 7055], 0),
  (472, .iload 7, 2, [7], 0),
  (474, .bipush 16, 2, [], 16),
  (476, .if_icmp .ne 7, 3, [258], 0),
  (479, .iconst 0, 1, [], 0),
  (480, .goto 16, 3, [266], 0),
  (483, .aload_n 0, 1, [0], 0),
  (484, .getfield 86, 3, [12, 39, 7045], 0),
  (487, .bipush 8, 2, [], 8),
  (489, .iload 7, 2, [7], 0),
  (491, .imul, 1, [], 0),
  (492, .iload 6, 2, [6], 0),
  (494, .iadd, 1, [], 0),
  (495, .iaload, 1, [], 0),
  (496, .iadd, 1, [], 0),
  (497, .putfield 413, 3, [12, 49, 7055], 0),
  (500, .iinc 6 (-1), 3, [6], (-1)),
  (503, .goto (-78), 3, [229], 0),
  (506, .return_, 1, [], 0)]
def cd_M_seventeen : List Ent := [(0, .lconst 1, 1, [], 1),
  (1, .lstore_n 1, 1, [1], 0),
  (2, .iload_n 0, 1, [0], 0),
  (3, .istore_n 3, 1, [3], 0),
  (4, .iload_n 3, 1, [3], 0),
  (5, .bipush 7, 2, [], 7),
  (7, .if_icmp .ge 15, 3, [13], 0),
  (10, .ldc2_w 398, 3, [8232], 17),
  (13, .lload_n 1, 1, [1], 0),
  (14, .lmul, 1, [], 0),
  (15, .lstore_n 1, 1, [1], 0),
  (16, .iinc 3 1, 3, [3], 1),
  (19, .goto (-15), 3, [4], 0),
  (22, .lload_n 1, 1, [1], 0),
  (23, .lreturn, 1, [], 0)]
def cd_M_bestOf : List Ent := [(0, .aload_n 0, 1, [0], 0),
  (1, .iconst 0, 1, [], 0),
  (2, .putfield 1, 3, [12, 0, 7006], 0),
  (5, .aload_n 0, 1, [0], 0),
  (6, .iload_n 1, 1, [1], 0),
  (7, .invokevirtual 318, 3, [0, 204, 1, 12, 8129, 8131, 80, 1018], 0),
  (10, .ifCond .ne 5, 3, [9], 0),
  (13, .iconst (-1), 1, [], (-1)),
  (14, .ireturn, 1, [], 0),
  (15, .aload_n 0, 1, [0], 0),
  (16, .invokevirtual 374, 3, [0, 208, 0, 12, 8145, 8147, 82, 1018], 0),
  (19, .aload_n 0, 1, [0], 0),
  (20, .invokevirtual 377, 3, [0, 209, 0, 12, 8149, 8151, 83, 1018], 0),
  (23, .aload_n 0, 1, [0], 0),
  (24, .invokevirtual 416, 3, [0, 228, 0, 12, 8224, 8226, 96, 1018], 0),
  (27, .aload_n 0, 1, [0], 0),
  (28, .getfield 99, 3, [12, 45, 7051], 0),
  (31, .iload_n 1, 1, [1], 0),
  (32, .iaload, 1, [], 0),
  (33, .ireturn, 1, [], 0)]
def cd_M_plan : List Ent := [(0, .aload_n 0, 1, [0], 0),
  (1, .iconst 0, 1, [], 0),
  (2, .putfield 1, 3, [12, 0, 7006], 0),
  (5, .aload_n 0, 1, [0], 0),
  (6, .sipush 500, 3, [], 500),
  (9, .invokevirtual 295, 3, [0, 174, 1, 12, 8012, 8014, 56, 1018], 0),
  (12, .aload_n 0, 1, [0], 0),
  (13, .iconst 0, 1, [], 0),
  (14, .putfield 223, 3, [12, 15, 7021], 0),
  (17, .aload_n 0, 1, [0], 0),
  (18, .iconst 0, 1, [], 0),
  (19, .putfield 419, 3, [12, 50, 7056], 0),
  (22, .aload_n 0, 1, [0], 0),
  (23, .invokevirtual 235, 3, [0, 175, 0, 12, 8016, 8018, 57, 1018], 0),
  (26, .aload_n 0, 1, [0], 0),
  (27, .getfield 206, 3, [12, 11, 7017], 0),
  (30, .ifCond .eq 39, 3, [36], 0),
  (33, .aload_n 0, 1, [0], 0),
  (34, .invokevirtual 422, 3, [0, 232, 0, 12, 9002, 9004, 97, 1018], 0),
  (37, .ifCond .eq 12, 3, [24], 0),
  (40, .aload_n 0, 1, [0], 0),
  (41, .bipush 59, 2, [], 59),
  (43, .invokevirtual 301, 3, [0, 195, 1, 12, 8093, 8095, 74, 1018], 0),
  (46, .ifCond .ne 10, 3, [29], 0),
  (49, .iconst (-1), 1, [], (-1)),
  (50, .aload_n 0, 1, [0], 0),
  (51, .getfield 226, 3, [12, 16, 7022], 0),
  (54, .isub, 1, [], 0),
  (55, .ireturn, 1, [], 0),
  (56, .aload_n 0, 1, [0], 0),
  (57, .dup, 1, [], 0),
  (58, .getfield 419, 3, [12, 50, 7056], 0),
  (61, .iconst 1, 1, [], 1),
  (62, .iadd, 1, [], 0),
  (63, .putfield 419, 3, [12, 50, 7056], 0),
  (66, .goto (-40), 3, [14], 0),
  (69, .aload_n 0, 1, [0], 0),
  (70, .invokevirtual 425, 3, [0, 233, 0, 12, 9006, 9008, 98, 1018], 0),
  (73, .aload_n 0, 1, [0], 0),
  (74, .getfield 419, 3, [12, 50, 7056], 0),
  (77, .ireturn, 1, [], 0)]
def cd_M_act0 : List Ent := [(0, .aload_n 0, 1, [0], 0),
  (1, .ldc2_w 190, 3, [7003], 1734964837),
  (4, .invokevirtual 253, 3, [0, 180, 1, 12, 8034, 8036, 60, 1018], 0),
  (7, .ifCond .eq 7, 3, [6], 0),
  (10, .iconst 0, 1, [], 0),
  (11, .goto 32, 3, [19], 0),
  (14, .aload_n 0, 1, [0], 0),
  (15, .ldc2_w 192, 3, [7004], 7697253),
  (18, .invokevirtual 253, 3, [0, 180, 1, 12, 8034, 8036, 60, 1018], 0),
  (21, .ifCond .eq 7, 3, [12], 0),
  (24, .iconst 1, 1, [], 1),
  (25, .goto 18, 3, [19], 0),
  (28, .aload_n 0, 1, [0], 0),
  (29, .ldc2_w 194, 3, [7005], 2002872692),
  (32, .invokevirtual 253, 3, [0, 180, 1, 12, 8034, 8036, 60, 1018], 0),
  (35, .ifCond .eq 7, 3, [18], 0),
  (38, .iconst 2, 1, [], 2),
  (39, .goto 4, 3, [19], 0),
  (42, .iconst (-1), 1, [], (-1)),
  (43, .istore_n 1, 1, [1], 0),
  (44, .iload_n 1, 1, [1], 0),
  (45, .ifCond .ge 9, 3, [26], 0),
  (48, .aload_n 0, 1, [0], 0),
  (49, .iconst 1, 1, [], 1),
  (50, .invokevirtual 232, 3, [0, 182, 1, 12, 8042, 8044, 62, 1018], 0),
  (53, .ireturn, 1, [], 0),
  (54, .aload_n 0, 1, [0], 0),
  (55, .getfield 419, 3, [12, 50, 7056], 0),
  (58, .bipush 50, 2, [], 50),
  (60, .if_icmp .ne 9, 3, [34], 0),
  (63, .aload_n 0, 1, [0], 0),
  (64, .iconst 4, 1, [], 4),
  (65, .invokevirtual 232, 3, [0, 182, 1, 12, 8042, 8044, 62, 1018], 0),
  (68, .ireturn, 1, [], 0),
  (69, .aload_n 0, 1, [0], 0),
  (70, .getfield 40, 3, [12, 8, 7014], 0),
  (73, .iconst 3, 1, [], 3),
  (74, .aload_n 0, 1, [0], 0),
  (75, .getfield 419, 3, [12, 50, 7056], 0),
  (78, .imul, 1, [], 0),
  (79, .iload_n 1, 1, [1], 0),
  (80, .iastore, 1, [], 0),
  (81, .aload_n 0, 1, [0], 0),
  (82, .getfield 40, 3, [12, 8, 7014], 0),
  (85, .iconst 3, 1, [], 3),
  (86, .aload_n 0, 1, [0], 0),
  (87, .getfield 419, 3, [12, 50, 7056], 0),
  (90, .imul, 1, [], 0),
  (91, .iconst 2, 1, [], 2),
  (92, .iadd, 1, [], 0),
  (93, .iconst (-1), 1, [], (-1)),
  (94, .iastore, 1, [], 0),
  (95, .aload_n 0, 1, [0], 0),
  (96, .invokevirtual 235, 3, [0, 175, 0, 12, 8016, 8018, 57, 1018], 0),
  (99, .aload_n 0, 1, [0], 0),
  (100, .iload_n 1, 1, [1], 0),
  (101, .iconst 2, 1, [], 2),
  (102, .if_icmp .ne 7, 3, [60], 0),
  (105, .iconst 1, 1, [], 1),
  (106, .goto 4, 3, [61], 0),
  (109, .iconst 0, 1, [], 0),
  (110, .iload_n 1, 1, [1], 0),
  (111, .iconst 2, 1, [], 2),
  (112, .if_icmp .ne 8, 3, [66], 0),
  (115, .bipush 47, 2, [], 47),
  (117, .goto 11, 3, [72], 0),
  (120, .aload_n 0, 1, [0], 0),
  (121, .getfield 33, 3, [12, 6, 7012], 0),
  (124, .iconst 2, 1, [], 2),
  (125, .iaload, 1, [], 0),
  (126, .iconst 1, 1, [], 1),
  (127, .isub, 1, [], 0),
  (128, .invokevirtual 278, 3, [0, 186, 2, 12, 8058, 8060, 66, 1018], 0),
  (131, .ifCond .ne 5, 3, [76], 0),
  (134, .iconst 0, 1, [], 0),
  (135, .ireturn, 1, [], 0),
  (136, .aload_n 0, 1, [0], 0),
  (137, .getfield 40, 3, [12, 8, 7014], 0),
  (140, .iconst 3, 1, [], 3),
  (141, .aload_n 0, 1, [0], 0),
  (142, .getfield 419, 3, [12, 50, 7056], 0),
  (145, .imul, 1, [], 0),
  (146, .iconst 1, 1, [], 1),
  (147, .iadd, 1, [], 0),
  (148, .aload_n 0, 1, [0], 0),
  (149, .getfield 242, 3, [12, 18, 7024], 0),
  (152, .iastore, 1, [], 0),
  (153, .iload_n 1, 1, [1], 0),
  (154, .ifCond .le 5, 3, [91], 0),
  (157, .iconst 1, 1, [], 1),
  (158, .ireturn, 1, [], 0),
  (159, .aload_n 0, 1, [0], 0),
  (160, .invokevirtual 245, 3, [0, 184, 0, 12, 8050, 8052, 64, 1018], 0),
  (163, .ifCond .ne 9, 3, [98], 0),
  (166, .aload_n 0, 1, [0], 0),
  (167, .iconst 1, 1, [], 1),
  (168, .invokevirtual 232, 3, [0, 182, 1, 12, 8042, 8044, 62, 1018], 0),
  (171, .ireturn, 1, [], 0),
  (172, .aload_n 0, 1, [0], 0),
  (173, .iconst 0, 1, [], 0),
  (174, .aload_n 0, 1, [0], 0),
  (175, .getfield 33, 3, [12, 6, 7012], 0),
  (178, .iconst 0, 1, [], 0),
  (179, .iaload, 1, [], 0),
  (180, .invokevirtual 249, 3, [0, 185, 2, 12, 8054, 8056, 65, 1018], 0),
  (183, .istore_n 2, 1, [2], 0),
  (184, .iload_n 2, 1, [2], 0),
  (185, .ifCond .ge 9, 3, [112], 0),
  (188, .aload_n 0, 1, [0], 0),
  (189, .iconst 3, 1, [], 3),
  (190, .invokevirtual 232, 3, [0, 182, 1, 12, 8042, 8044, 62, 1018], 0),
  (193, .ireturn, 1, [], 0),
  (194, .aload_n 0, 1, [0], 0),
  (195, .getfield 40, 3, [12, 8, 7014], 0),
  (198, .iconst 3, 1, [], 3),
  (199, .aload_n 0, 1, [0], 0),
  (200, .getfield 419, 3, [12, 50, 7056], 0),
  (203, .imul, 1, [], 0),
  (204, .iconst 2, 1, [], 2),
  (205, .iadd, 1, [], 0),
  (206, .iload_n 2, 1, [2], 0),
  (207, .iastore, 1, [], 0),
  (208, .aload_n 0, 1, [0], 0),
  (209, .invokevirtual 235, 3, [0, 175, 0, 12, 8016, 8018, 57, 1018], 0),
  (212, .iconst 1, 1, [], 1),
  (213, .ireturn, 1, [], 0)]
def cd_M_keepPlan : List Ent := [(0, .aload_n 0, 1, [0], 0),
  (1, .getfield 33, 3, [12, 6, 7012], 0),
  (4, .sipush 333, 3, [], 333),
  (7, .aload_n 0, 1, [0], 0),
  (8, .getfield 419, 3, [12, 50, 7056], 0),
  (11, .iastore, 1, [], 0),
  (12, .iconst 0, 1, [], 0),
  (13, .istore_n 1, 1, [1], 0),
  (14, .iload_n 1, 1, [1], 0),
  (15, .iconst 3, 1, [], 3),
  (16, .aload_n 0, 1, [0], 0),
  (17, .getfield 419, 3, [12, 50, 7056], 0),
  (20, .imul, 1, [], 0),
  (21, .if_icmp .ge 25, 3, [26], 0),
  (24, .aload_n 0, 1, [0], 0),
  (25, .getfield 33, 3, [12, 6, 7012], 0),
  (28, .sipush 334, 3, [], 334),
  (31, .iload_n 1, 1, [1], 0),
  (32, .iadd, 1, [], 0),
  (33, .aload_n 0, 1, [0], 0),
  (34, .getfield 40, 3, [12, 8, 7014], 0),
  (37, .iload_n 1, 1, [1], 0),
  (38, .iaload, 1, [], 0),
  (39, .iastore, 1, [], 0),
  (40, .iinc 1 1, 3, [1], 1),
  (43, .goto (-29), 3, [8], 0),
  (46, .return_, 1, [], 0)]
def cd_M_drawn : List Ent := [(0, .aload_n 0, 1, [0], 0),
  (1, .iconst 0, 1, [], 0),
  (2, .putfield 1, 3, [12, 0, 7006], 0),
  (5, .iload_n 1, 1, [1], 0),
  (6, .iconst 1, 1, [], 1),
  (7, .bipush 50, 2, [], 50),
  (9, .invokestatic 238, 3, [1, 187, 3, 8062, 8063, 1018], 0),
  (12, .ifCond .eq 12, 3, [13], 0),
  (15, .aload_n 0, 1, [0], 0),
  (16, .getfield 33, 3, [12, 6, 7012], 0),
  (19, .iconst 2, 1, [], 2),
  (20, .iaload, 1, [], 0),
  (21, .ifCond .ne 5, 3, [15], 0),
  (24, .iconst (-1), 1, [], (-1)),
  (25, .ireturn, 1, [], 0),
  (26, .aload_n 0, 1, [0], 0),
  (27, .iload_n 2, 1, [2], 0),
  (28, .putfield 428, 3, [12, 51, 7057], 0),
  (31, .aload_n 0, 1, [0], 0),
  (32, .iconst 0, 1, [], 0),
  (33, .putfield 419, 3, [12, 50, 7056], 0),
  (36, .aload_n 0, 1, [0], 0),
  (37, .getfield 419, 3, [12, 50, 7056], 0),
  (40, .iload_n 1, 1, [1], 0),
  (41, .if_icmp .ge 123, 3, [97], 0),
  (44, .aload_n 0, 1, [0], 0),
  (45, .iconst 4, 1, [], 4),
  (46, .invokevirtual 432, 3, [0, 235, 1, 12, 9014, 9016, 99, 1018], 0),
  (49, .istore_n 3, 1, [3], 0),
  (50, .aload_n 0, 1, [0], 0),
  (51, .aload_n 0, 1, [0], 0),
  (52, .getfield 33, 3, [12, 6, 7012], 0),
  (55, .iconst 2, 1, [], 2),
  (56, .iaload, 1, [], 0),
  (57, .invokevirtual 432, 3, [0, 235, 1, 12, 9014, 9016, 99, 1018], 0),
  (60, .istore 4, 2, [4], 0),
  (62, .aload_n 0, 1, [0], 0),
  (63, .aload_n 0, 1, [0], 0),
  (64, .getfield 33, 3, [12, 6, 7012], 0),
  (67, .iconst 0, 1, [], 0),
  (68, .iaload, 1, [], 0),
  (69, .invokevirtual 432, 3, [0, 235, 1, 12, 9014, 9016, 99, 1018], 0),
  (72, .istore 5, 2, [5], 0),
  (74, .aload_n 0, 1, [0], 0),
  (75, .getfield 40, 3, [12, 8, 7014], 0),
  (78, .iconst 3, 1, [], 3),
  (79, .aload_n 0, 1, [0], 0),
  (80, .getfield 419, 3, [12, 50, 7056], 0),
  (83, .imul, 1, [], 0),
  (84, .iload_n 3, 1, [3], 0),
  (85, .ifCond .ne 7, 3, [53], 0),
  (88, .iconst 1, 1, [], 1),
  (89, .goto 13, 3, [59], 0),
  (92, .iload_n 3, 1, [3], 0),
  (93, .iconst 1, 1, [], 1),
  (94, .if_icmp .ne 7, 3, [58], 0),
  (97, .iconst 2, 1, [], 2),
  (98, .goto 4, 3, [59], 0),
  (101, .iconst 0, 1, [], 0),
  (102, .iastore, 1, [], 0),
  (103, .aload_n 0, 1, [0], 0),
  (104, .getfield 40, 3, [12, 8, 7014], 0),
  (107, .iconst 3, 1, [], 3),
  (108, .aload_n 0, 1, [0], 0),
  (109, .getfield 419, 3, [12, 50, 7056], 0),
  (112, .imul, 1, [], 0),
  (113, .iconst 1, 1, [], 1),
  (114, .iadd, 1, [], 0),
  (115, .iload_n 3, 1, [3], 0),
  (116, .iconst 1, 1, [], 1),
  (117, .if_icmp .ne 7, 3, [73], 0),
  (120, .iconst 1, 1, [], 1),
  (121, .goto 5, 3, [74], 0),
  (124, .iload 4, 2, [4], 0),
  (126, .iastore, 1, [], 0),
  (127, .aload_n 0, 1, [0], 0),
  (128, .getfield 40, 3, [12, 8, 7014], 0),
  (131, .iconst 3, 1, [], 3),
  (132, .aload_n 0, 1, [0], 0),
  (133, .getfield 419, 3, [12, 50, 7056], 0),
  (136, .imul, 1, [], 0),
  (137, .iconst 2, 1, [], 2),
  (138, .iadd, 1, [], 0),
  (139, .iload_n 3, 1, [3], 0),
  (140, .iconst 1, 1, [], 1),
  (141, .if_icmp .le 8, 3, [88], 0),
  (144, .iload 5, 2, [5], 0),
  (146, .goto 4, 3, [89], 0),
  (149, .iconst (-1), 1, [], (-1)),
  (150, .iastore, 1, [], 0),
  (151, .aload_n 0, 1, [0], 0),
  (152, .dup, 1, [], 0),
  (153, .getfield 419, 3, [12, 50, 7056], 0),
  (156, .iconst 1, 1, [], 1),
  (157, .iadd, 1, [], 0),
  (158, .putfield 419, 3, [12, 50, 7056], 0),
  (161, .goto (-125), 3, [21], 0),
  (164, .aload_n 0, 1, [0], 0),
  (165, .invokevirtual 425, 3, [0, 233, 0, 12, 9006, 9008, 98, 1018], 0),
  (168, .iload_n 1, 1, [1], 0),
  (169, .ireturn, 1, [], 0)]
def cd_M_draw : List Ent := [(0, .aload_n 0, 1, [0], 0),
  (1, .aload_n 0, 1, [0], 0),
  (2, .getfield 428, 3, [12, 51, 7057], 0),
  (5, .ldc_w 431, 3, [9018], 1103515245),
  (8, .imul, 1, [], 0),
  (9, .sipush 12345, 3, [], 12345),
  (12, .iadd, 1, [], 0),
  (13, .putfield 428, 3, [12, 51, 7057], 0),
  (16, .aload_n 0, 1, [0], 0),
  (17, .getfield 428, 3, [12, 51, 7057], 0),
  (20, .bipush 8, 2, [], 8),
  (22, .iushr, 1, [], 0),
  (23, .iload_n 1, 1, [1], 0),
  (24, .irem, 1, [], 0),
  (25, .ireturn, 1, [], 0)]
def cd_M_act2 : List Ent := [(0, .aload_n 0, 1, [0], 0),
  (1, .iload_n 1, 1, [1], 0),
  (2, .iconst 0, 1, [], 0),
  (3, .aload_n 0, 1, [0], 0),
  (4, .getfield 33, 3, [12, 6, 7012], 0),
  (7, .sipush 333, 3, [], 333),
  (10, .iaload, 1, [], 0),
  (11, .iconst 1, 1, [], 1),
  (12, .isub, 1, [], 0),
  (13, .invokestatic 238, 3, [1, 187, 3, 8062, 8063, 1018], 0),
  (16, .ifCond .eq 12, 3, [16], 0),
  (19, .iload_n 2, 1, [2], 0),
  (20, .iconst 0, 1, [], 0),
  (21, .iconst 2, 1, [], 2),
  (22, .invokestatic 238, 3, [1, 187, 3, 8062, 8063, 1018], 0),
  (25, .ifCond .ne 7, 3, [18], 0),
  (28, .iconst 1, 1, [], 1),
  (29, .goto 4, 3, [19], 0),
  (32, .iconst 0, 1, [], 0),
  (33, .invokevirtual 311, 3, [0, 200, 1, 12, 8113, 8115, 77, 1018], 0),
  (36, .ifCond .eq 7, 3, [23], 0),
  (39, .iconst 0, 1, [], 0),
  (40, .goto 17, 3, [33], 0),
  (43, .aload_n 0, 1, [0], 0),
  (44, .getfield 33, 3, [12, 6, 7012], 0),
  (47, .sipush 334, 3, [], 334),
  (50, .iconst 3, 1, [], 3),
  (51, .iload_n 1, 1, [1], 0),
  (52, .imul, 1, [], 0),
  (53, .iadd, 1, [], 0),
  (54, .iload_n 2, 1, [2], 0),
  (55, .iadd, 1, [], 0),
  (56, .iaload, 1, [], 0),
  (57, .ireturn, 1, [], 0)]
def cd_M_judge : List Ent := [(0, .aload_n 0, 1, [0], 0),
  (1, .iconst 0, 1, [], 0),
  (2, .putfield 1, 3, [12, 0, 7006], 0),
  (5, .iconst 0, 1, [], 0),
  (6, .istore_n 1, 1, [1], 0),
  (7, .iload_n 1, 1, [1], 0),
  (8, .bipush 16, 2, [], 16),
  (10, .if_icmp .ge 44, 3, [35], 0),
  (13, .aload_n 0, 1, [0], 0),
  (14, .getfield 105, 3, [12, 52, 7058], 0),
  (17, .iload_n 1, 1, [1], 0),
  (18, .iconst (-1), 1, [], (-1)),
  (19, .iastore, 1, [], 0),
  (20, .aload_n 0, 1, [0], 0),
  (21, .getfield 108, 3, [12, 53, 7059], 0),
  (24, .iload_n 1, 1, [1], 0),
  (25, .iconst 1, 1, [], 1),
  (26, .iastore, 1, [], 0),
  (27, .aload_n 0, 1, [0], 0),
  (28, .getfield 111, 3, [12, 54, 7060], 0),
  (31, .iload_n 1, 1, [1], 0),
  (32, .iconst 0, 1, [], 0),
  (33, .iastore, 1, [], 0),
  (34, .aload_n 0, 1, [0], 0),
  (35, .getfield 114, 3, [12, 55, 7061], 0),
  (38, .iload_n 1, 1, [1], 0),
  (39, .iconst 0, 1, [], 0),
  (40, .iastore, 1, [], 0),
  (41, .aload_n 0, 1, [0], 0),
  (42, .getfield 117, 3, [12, 56, 7062], 0),
  (45, .iload_n 1, 1, [1], 0),
  (46, .iconst 0, 1, [], 0),
  (47, .iastore, 1, [], 0),
  (48, .iinc 1 1, 3, [1], 1),
  (51, .goto (-44), 3, [5], 0),
  (54, .aload_n 0, 1, [0], 0),
  (55, .iconst 0, 1, [], 0),
  (56, .putfield 438, 3, [12, 59, 7065], 0),
  (59, .aload_n 0, 1, [0], 0),
  (60, .iconst 0, 1, [], 0),
  (61, .putfield 435, 3, [12, 60, 7066], 0),
  (64, .aload_n 0, 1, [0], 0),
  (65, .iconst 0, 1, [], 0),
  (66, .putfield 459, 3, [12, 61, 7067], 0),
  (69, .iconst 0, 1, [], 0),
  (70, .istore_n 1, 1, [1], 0),
  (71, .iconst 0, 1, [], 0),
  (72, .istore_n 2, 1, [2], 0),
  (73, .iload_n 2, 1, [2], 0),
  (74, .aload_n 0, 1, [0], 0),
  (75, .getfield 33, 3, [12, 6, 7012], 0),
  (78, .sipush 333, 3, [], 333),
  (81, .iaload, 1, [], 0),
  (82, .if_icmp .ge 28, 3, [69], 0),
  (85, .iload_n 1, 1, [1], 0),
  (86, .ifCond .ne 24, 3, [69], 0),
  (89, .aload_n 0, 1, [0], 0),
  (90, .iload_n 2, 1, [2], 0),
  (91, .invokevirtual 462, 3, [0, 238, 1, 12, 9027, 9029, 100, 1018], 0),
  (94, .istore_n 1, 1, [1], 0),
  (95, .iload_n 2, 1, [2], 0),
  (96, .iload_n 1, 1, [1], 0),
  (97, .ifCond .ne 7, 3, [65], 0),
  (100, .iconst 1, 1, [], 1),
  (101, .goto 4, 3, [66], 0),
  (104, .iconst 0, 1, [], 0),
  (105, .iadd, 1, [], 0),
  (106, .istore_n 2, 1, [2], 0),
  (107, .goto (-34), 3, [48], 0),
  (110, .aload_n 0, 1, [0], 0),
  (111, .getfield 120, 3, [12, 57, 7063], 0),
  (114, .iconst 0, 1, [], 0),
  (115, .iload_n 1, 1, [1], 0),
  (116, .iastore, 1, [], 0),
  (117, .aload_n 0, 1, [0], 0),
  (118, .getfield 120, 3, [12, 57, 7063], 0),
  (121, .iconst 1, 1, [], 1),
  (122, .aload_n 0, 1, [0], 0),
  (123, .getfield 438, 3, [12, 59, 7065], 0),
  (126, .iastore, 1, [], 0),
  (127, .aload_n 0, 1, [0], 0),
  (128, .getfield 120, 3, [12, 57, 7063], 0),
  (131, .iconst 2, 1, [], 2),
  (132, .aload_n 0, 1, [0], 0),
  (133, .getfield 435, 3, [12, 60, 7066], 0),
  (136, .iastore, 1, [], 0),
  (137, .aload_n 0, 1, [0], 0),
  (138, .getfield 120, 3, [12, 57, 7063], 0),
  (141, .iconst 3, 1, [], 3),
  (142, .aload_n 0, 1, [0], 0),
  (143, .getfield 459, 3, [12, 61, 7067], 0),
  (146, .iastore, 1, [], 0),
  (147, .aload_n 0, 1, [0], 0),
  (148, .getfield 120, 3, [12, 57, 7063], 0),
  (151, .iconst 4, 1, [], 4),
  (152, .iconst 0, 1, [], 0),
  (153, .iastore, 1, [], 0),
  (154, .aload_n 0, 1, [0], 0),
  (155, .aload_n 0, 1, [0], 0),
  (156, .getfield 33, 3, [12, 6, 7012], 0),
  (159, .iconst 2, 1, [], 2),
  (160, .iaload, 1, [], 0),
  (161, .putfield 126, 3, [12, 62, 7068], 0),
  (164, .iconst 0, 1, [], 0),
  (165, .istore_n 3, 1, [3], 0),
  (166, .iload_n 3, 1, [3], 0),
  (167, .aload_n 0, 1, [0], 0),
  (168, .getfield 33, 3, [12, 6, 7012], 0),
  (171, .iconst 2, 1, [], 2),
  (172, .iaload, 1, [], 0),
  (173, .if_icmp .ge 141, 3, [198], 0),
  (176, .aload_n 0, 1, [0], 0),
  (177, .getfield 120, 3, [12, 57, 7063], 0),
  (180, .iconst 4, 1, [], 4),
  (181, .dup2, 1, [], 0),
  (182, .iaload, 1, [], 0),
  (183, .aload_n 0, 1, [0], 0),
  (184, .getfield 105, 3, [12, 52, 7058], 0),
  (187, .iload_n 3, 1, [3], 0),
  (188, .iaload, 1, [], 0),
  (189, .bipush (-2), 2, [], (-2)),
  (191, .if_icmp .eq 21, 3, [132], 0),
  (194, .aload_n 0, 1, [0], 0),
  (195, .getfield 438, 3, [12, 59, 7065], 0),
  (198, .aload_n 0, 1, [0], 0),
  (199, .iload_n 3, 1, [3], 0),
  (200, .invokevirtual 315, 3, [0, 201, 1, 12, 8117, 8119, 78, 1018], 0),
  (203, .if_icmp .lt 9, 3, [132], 0),
  (206, .iconst 1, 1, [], 1),
  (207, .iload_n 3, 1, [3], 0),
  (208, .ishl, 1, [], 0),
  (209, .goto 4, 3, [133], 0),
  (212, .iconst 0, 1, [], 0),
  (213, .ior, 1, [], 0),
  (214, .iastore, 1, [], 0),
  (215, .aload_n 0, 1, [0], 0),
  (216, .getfield 123, 3, [12, 58, 7064], 0),
  (219, .iconst 3, 1, [], 3),
  (220, .iload_n 3, 1, [3], 0),
  (221, .imul, 1, [], 0),
  (222, .aload_n 0, 1, [0], 0),
  (223, .getfield 105, 3, [12, 52, 7058], 0),
  (226, .iload_n 3, 1, [3], 0),
  (227, .iaload, 1, [], 0),
  (228, .bipush (-2), 2, [], (-2)),
  (230, .if_icmp .ne 7, 3, [148], 0),
  (233, .iconst (-1), 1, [], (-1)),
  (234, .goto 34, 3, [168], 0),
  (237, .aload_n 0, 1, [0], 0),
  (238, .getfield 105, 3, [12, 52, 7058], 0),
  (241, .iload_n 3, 1, [3], 0),
  (242, .iaload, 1, [], 0),
  (243, .ifCond .ge 19, 3, [164], 0),
  (246, .aload_n 0, 1, [0], 0),
  (247, .getfield 33, 3, [12, 6, 7012], 0),
  (250, .bipush 29, 2, [], 29),
  (252, .iconst 5, 1, [], 5),
  (253, .iload_n 3, 1, [3], 0),
  (254, .imul, 1, [], 0),
  (255, .iadd, 1, [], 0),
  (256, .iconst 2, 1, [], 2),
  (257, .iadd, 1, [], 0),
  (258, .iaload, 1, [], 0),
  (259, .goto 9, 3, [168], 0),
  (262, .aload_n 0, 1, [0], 0),
  (263, .getfield 105, 3, [12, 52, 7058], 0),
  (266, .iload_n 3, 1, [3], 0),
  (267, .iaload, 1, [], 0),
  (268, .iastore, 1, [], 0),
  (269, .aload_n 0, 1, [0], 0),
  (270, .getfield 123, 3, [12, 58, 7064], 0),
  (273, .iconst 3, 1, [], 3),
  (274, .iload_n 3, 1, [3], 0),
  (275, .imul, 1, [], 0),
  (276, .iconst 1, 1, [], 1),
  (277, .iadd, 1, [], 0),
  (278, .aload_n 0, 1, [0], 0),
  (279, .getfield 108, 3, [12, 53, 7059], 0),
  (282, .iload_n 3, 1, [3], 0),
  (283, .iaload, 1, [], 0),
  (284, .iastore, 1, [], 0),
  (285, .aload_n 0, 1, [0], 0),
  (286, .getfield 123, 3, [12, 58, 7064], 0),
  (289, .iconst 3, 1, [], 3),
  (290, .iload_n 3, 1, [3], 0),
  (291, .imul, 1, [], 0),
  (292, .iconst 2, 1, [], 2),
  (293, .iadd, 1, [], 0),
  (294, .aload_n 0, 1, [0], 0),
  (295, .iload_n 3, 1, [3], 0),
  (296, .invokevirtual 450, 3, [0, 239, 1, 12, 9031, 9033, 101, 1018], 0),
  (299, .ifCond .ne 7, 3, [194], 0),
  (302, .iconst 1, 1, [], 1),
  (303, .goto 4, 3, [195], 0),
  (306, .iconst 0, 1, [], 0),
  (307, .iastore, 1, [], 0),
  (308, .iinc 3 1, 3, [3], 1),
  (311, .goto (-145), 3, [105], 0),
  (314, .iload_n 1, 1, [1], 0),
  (315, .ifCond .le 7, 3, [202], 0),
  (318, .iload_n 2, 1, [2], 0),
  (319, .goto 4, 3, [203], 0),
  (322, .iconst (-1), 1, [], (-1)),
  (323, .ireturn, 1, [], 0)]
def cd_M_does : List Ent := [(0, .aload_n 0, 1, [0], 0),
  (1, .getfield 33, 3, [12, 6, 7012], 0),
  (4, .sipush 334, 3, [], 334),
  (7, .iconst 3, 1, [], 3),
  (8, .iload_n 1, 1, [1], 0),
  (9, .imul, 1, [], 0),
  (10, .iadd, 1, [], 0),
  (11, .iaload, 1, [], 0),
  (12, .istore_n 2, 1, [2], 0),
  (13, .aload_n 0, 1, [0], 0),
  (14, .getfield 33, 3, [12, 6, 7012], 0),
  (17, .sipush 334, 3, [], 334),
  (20, .iconst 3, 1, [], 3),
  (21, .iload_n 1, 1, [1], 0),
  (22, .imul, 1, [], 0),
  (23, .iadd, 1, [], 0),
  (24, .iconst 1, 1, [], 1),
  (25, .iadd, 1, [], 0),
  (26, .iaload, 1, [], 0),
  (27, .istore_n 3, 1, [3], 0),
  (28, .iload_n 2, 1, [2], 0),
  (29, .iconst 2, 1, [], 2),
  (30, .if_icmp .ne 29, 3, [39], 0),
  (33, .aload_n 0, 1, [0], 0),
  (34, .getfield 438, 3, [12, 59, 7065], 0),
  (37, .iload_n 3, 1, [3], 0),
  (38, .iadd, 1, [], 0),
  (39, .bipush 47, 2, [], 47),
  (41, .if_icmp .le 6, 3, [31], 0),
  (44, .bipush 8, 2, [], 8),
  (46, .ireturn, 1, [], 0),
  (47, .aload_n 0, 1, [0], 0),
  (48, .dup, 1, [], 0),
  (49, .getfield 438, 3, [12, 59, 7065], 0),
  (52, .iload_n 3, 1, [3], 0),
  (53, .iadd, 1, [], 0),
  (54, .putfield 438, 3, [12, 59, 7065], 0),
  (57, .iconst 0, 1, [], 0),
  (58, .ireturn, 1, [], 0),
  (59, .iload_n 2, 1, [2], 0),
  (60, .iconst 1, 1, [], 1),
  (61, .if_icmp .ne 57, 3, [76], 0),
  (64, .aload_n 0, 1, [0], 0),
  (65, .iload_n 3, 1, [3], 0),
  (66, .invokevirtual 450, 3, [0, 239, 1, 12, 9031, 9033, 101, 1018], 0),
  (69, .istore 4, 2, [4], 0),
  (71, .iload 4, 2, [4], 0),
  (73, .ifCond .le 6, 3, [50], 0),
  (76, .iload 4, 2, [4], 0),
  (78, .ireturn, 1, [], 0),
  (79, .aload_n 0, 1, [0], 0),
  (80, .dup, 1, [], 0),
  (81, .getfield 435, 3, [12, 60, 7066], 0),
  (84, .iconst 1, 1, [], 1),
  (85, .aload_n 0, 1, [0], 0),
  (86, .aload_n 0, 1, [0], 0),
  (87, .getfield 105, 3, [12, 52, 7058], 0),
  (90, .iload_n 3, 1, [3], 0),
  (91, .iaload, 1, [], 0),
  (92, .iload_n 3, 1, [3], 0),
  (93, .invokevirtual 447, 3, [0, 241, 2, 12, 9039, 9041, 103, 1018], 0),
  (96, .ishl, 1, [], 0),
  (97, .ior, 1, [], 0),
  (98, .putfield 435, 3, [12, 60, 7066], 0),
  (101, .aload_n 0, 1, [0], 0),
  (102, .getfield 105, 3, [12, 52, 7058], 0),
  (105, .iload_n 3, 1, [3], 0),
  (106, .bipush (-2), 2, [], (-2)),
  (108, .iastore, 1, [], 0),
  (109, .aload_n 0, 1, [0], 0),
  (110, .getfield 108, 3, [12, 53, 7059], 0),
  (113, .iload_n 3, 1, [3], 0),
  (114, .iconst 0, 1, [], 0),
  (115, .iastore, 1, [], 0),
  (116, .iconst 0, 1, [], 0),
  (117, .ireturn, 1, [], 0),
  (118, .aload_n 0, 1, [0], 0),
  (119, .iload_n 3, 1, [3], 0),
  (120, .invokevirtual 444, 3, [0, 240, 1, 12, 9035, 9037, 102, 1018], 0),
  (123, .ifCond .le 9, 3, [84], 0),
  (126, .aload_n 0, 1, [0], 0),
  (127, .iload_n 3, 1, [3], 0),
  (128, .invokevirtual 444, 3, [0, 240, 1, 12, 9035, 9037, 102, 1018], 0),
  (131, .ireturn, 1, [], 0),
  (132, .aload_n 0, 1, [0], 0),
  (133, .getfield 33, 3, [12, 6, 7012], 0),
  (136, .sipush 334, 3, [], 334),
  (139, .iconst 3, 1, [], 3),
  (140, .iload_n 1, 1, [1], 0),
  (141, .imul, 1, [], 0),
  (142, .iadd, 1, [], 0),
  (143, .iconst 2, 1, [], 2),
  (144, .iadd, 1, [], 0),
  (145, .iaload, 1, [], 0),
  (146, .istore 4, 2, [4], 0),
  (148, .aload_n 0, 1, [0], 0),
  (149, .iload_n 3, 1, [3], 0),
  (150, .iload 4, 2, [4], 0),
  (152, .invokevirtual 453, 3, [0, 242, 2, 12, 9043, 9045, 104, 1018], 0),
  (155, .istore 5, 2, [5], 0),
  (157, .iload 5, 2, [5], 0),
  (159, .ifCond .ge 5, 3, [104], 0),
  (162, .iconst 4, 1, [], 4),
  (163, .ireturn, 1, [], 0),
  (164, .aload_n 0, 1, [0], 0),
  (165, .iload_n 3, 1, [3], 0),
  (166, .iload 5, 2, [5], 0),
  (168, .iload 4, 2, [4], 0),
  (170, .invokevirtual 456, 3, [0, 244, 3, 12, 9051, 9053, 106, 1018], 0),
  (173, .ifCond .eq 5, 3, [112], 0),
  (176, .iconst 5, 1, [], 5),
  (177, .ireturn, 1, [], 0),
  (178, .aload_n 0, 1, [0], 0),
  (179, .getfield 114, 3, [12, 55, 7061], 0),
  (182, .iload_n 3, 1, [3], 0),
  (183, .dup2, 1, [], 0),
  (184, .iaload, 1, [], 0),
  (185, .iconst 1, 1, [], 1),
  (186, .iload 5, 2, [5], 0),
  (188, .ishl, 1, [], 0),
  (189, .iconst 1, 1, [], 1),
  (190, .iload 4, 2, [4], 0),
  (192, .ishl, 1, [], 0),
  (193, .ior, 1, [], 0),
  (194, .ior, 1, [], 0),
  (195, .iastore, 1, [], 0),
  (196, .aload_n 0, 1, [0], 0),
  (197, .getfield 117, 3, [12, 56, 7062], 0),
  (200, .iload_n 3, 1, [3], 0),
  (201, .dup2, 1, [], 0),
  (202, .iaload, 1, [], 0),
  (203, .iconst 1, 1, [], 1),
  (204, .aload_n 0, 1, [0], 0),
  (205, .getfield 33, 3, [12, 6, 7012], 0),
  (208, .bipush 7, 2, [], 7),
  (210, .iload 5, 2, [5], 0),
  (212, .iadd, 1, [], 0),
  (213, .iaload, 1, [], 0),
  (214, .ishl, 1, [], 0),
  (215, .iconst 1, 1, [], 1),
  (216, .aload_n 0, 1, [0], 0),
  (217, .getfield 33, 3, [12, 6, 7012], 0),
  (220, .bipush 7, 2, [], 7),
  (222, .iload 4, 2, [4], 0),
  (224, .iadd, 1, [], 0),
  (225, .iaload, 1, [], 0),
  (226, .ishl, 1, [], 0),
  (227, .ior, 1, [], 0),
  (228, .ior, 1, [], 0),
  (229, .iastore, 1, [], 0),
  (230, .aload_n 0, 1, [0], 0),
  (231, .getfield 105, 3, [12, 52, 7058], 0),
  (234, .iload_n 3, 1, [3], 0),
  (235, .iload 4, 2, [4], 0),
  (237, .iastore, 1, [], 0),
  (238, .aload_n 0, 1, [0], 0),
  (239, .getfield 108, 3, [12, 53, 7059], 0),
  (242, .iload_n 3, 1, [3], 0),
  (243, .dup2, 1, [], 0),
  (244, .iaload, 1, [], 0),
  (245, .iconst 1, 1, [], 1),
  (246, .iadd, 1, [], 0),
  (247, .iastore, 1, [], 0),
  (248, .aload_n 0, 1, [0], 0),
  (249, .getfield 111, 3, [12, 54, 7060], 0),
  (252, .iload_n 3, 1, [3], 0),
  (253, .aload_n 0, 1, [0], 0),
  (254, .getfield 438, 3, [12, 59, 7065], 0),
  (257, .aload_n 0, 1, [0], 0),
  (258, .getfield 33, 3, [12, 6, 7012], 0),
  (261, .sipush 205, 3, [], 205),
  (264, .bipush 8, 2, [], 8),
  (266, .iload 5, 2, [5], 0),
  (268, .imul, 1, [], 0),
  (269, .iadd, 1, [], 0),
  (270, .iload 4, 2, [4], 0),
  (272, .iadd, 1, [], 0),
  (273, .iaload, 1, [], 0),
  (274, .iadd, 1, [], 0),
  (275, .iastore, 1, [], 0),
  (276, .aload_n 0, 1, [0], 0),
  (277, .dup, 1, [], 0),
  (278, .getfield 459, 3, [12, 61, 7067], 0),
  (281, .aload_n 0, 1, [0], 0),
  (282, .getfield 33, 3, [12, 6, 7012], 0),
  (285, .sipush 141, 3, [], 141),
  (288, .bipush 8, 2, [], 8),
  (290, .iload 5, 2, [5], 0),
  (292, .imul, 1, [], 0),
  (293, .iadd, 1, [], 0),
  (294, .iload 4, 2, [4], 0),
  (296, .iadd, 1, [], 0),
  (297, .iaload, 1, [], 0),
  (298, .iadd, 1, [], 0),
  (299, .putfield 459, 3, [12, 61, 7067], 0),
  (302, .iconst 0, 1, [], 0),
  (303, .ireturn, 1, [], 0)]
def cd_M_whyNoUse : List Ent := [(0, .aload_n 0, 1, [0], 0),
  (1, .iload_n 1, 1, [1], 0),
  (2, .invokevirtual 444, 3, [0, 240, 1, 12, 9035, 9037, 102, 1018], 0),
  (5, .ifCond .le 9, 3, [8], 0),
  (8, .aload_n 0, 1, [0], 0),
  (9, .iload_n 1, 1, [1], 0),
  (10, .invokevirtual 444, 3, [0, 240, 1, 12, 9035, 9037, 102, 1018], 0),
  (13, .ireturn, 1, [], 0),
  (14, .aload_n 0, 1, [0], 0),
  (15, .getfield 108, 3, [12, 53, 7059], 0),
  (18, .iload_n 1, 1, [1], 0),
  (19, .iaload, 1, [], 0),
  (20, .aload_n 0, 1, [0], 0),
  (21, .getfield 33, 3, [12, 6, 7012], 0),
  (24, .iconst 4, 1, [], 4),
  (25, .iaload, 1, [], 0),
  (26, .if_icmp .eq 6, 3, [19], 0),
  (29, .bipush 6, 2, [], 6),
  (31, .ireturn, 1, [], 0),
  (32, .aload_n 0, 1, [0], 0),
  (33, .aload_n 0, 1, [0], 0),
  (34, .getfield 105, 3, [12, 52, 7058], 0),
  (37, .iload_n 1, 1, [1], 0),
  (38, .iaload, 1, [], 0),
  (39, .iload_n 1, 1, [1], 0),
  (40, .invokevirtual 447, 3, [0, 241, 2, 12, 9039, 9041, 103, 1018], 0),
  (43, .ifCond .ge 8, 3, [29], 0),
  (46, .bipush 7, 2, [], 7),
  (48, .goto 4, 3, [30], 0),
  (51, .iconst 0, 1, [], 0),
  (52, .ireturn, 1, [], 0)]
def cd_M_whyNot : List Ent := [(0, .aload_n 0, 1, [0], 0),
  (1, .getfield 438, 3, [12, 59, 7065], 0),
  (4, .aload_n 0, 1, [0], 0),
  (5, .getfield 33, 3, [12, 6, 7012], 0),
  (8, .bipush 29, 2, [], 29),
  (10, .iconst 5, 1, [], 5),
  (11, .iload_n 1, 1, [1], 0),
  (12, .imul, 1, [], 0),
  (13, .iadd, 1, [], 0),
  (14, .iconst 4, 1, [], 4),
  (15, .iadd, 1, [], 0),
  (16, .iaload, 1, [], 0),
  (17, .if_icmp .ge 7, 3, [15], 0),
  (20, .iconst 1, 1, [], 1),
  (21, .goto 48, 3, [39], 0),
  (24, .aload_n 0, 1, [0], 0),
  (25, .getfield 105, 3, [12, 52, 7058], 0),
  (28, .iload_n 1, 1, [1], 0),
  (29, .iaload, 1, [], 0),
  (30, .bipush (-2), 2, [], (-2)),
  (32, .if_icmp .eq 15, 3, [27], 0),
  (35, .aload_n 0, 1, [0], 0),
  (36, .getfield 438, 3, [12, 59, 7065], 0),
  (39, .aload_n 0, 1, [0], 0),
  (40, .iload_n 1, 1, [1], 0),
  (41, .invokevirtual 315, 3, [0, 201, 1, 12, 8117, 8119, 78, 1018], 0),
  (44, .if_icmp .lt 7, 3, [29], 0),
  (47, .iconst 2, 1, [], 2),
  (48, .goto 21, 3, [39], 0),
  (51, .aload_n 0, 1, [0], 0),
  (52, .getfield 111, 3, [12, 54, 7060], 0),
  (55, .iload_n 1, 1, [1], 0),
  (56, .iaload, 1, [], 0),
  (57, .aload_n 0, 1, [0], 0),
  (58, .getfield 438, 3, [12, 59, 7065], 0),
  (61, .if_icmp .le 7, 3, [38], 0),
  (64, .iconst 3, 1, [], 3),
  (65, .goto 4, 3, [39], 0),
  (68, .iconst 0, 1, [], 0),
  (69, .ireturn, 1, [], 0)]
def cd_M_wantFor : List Ent := [(0, .iconst 0, 1, [], 0),
  (1, .istore_n 3, 1, [3], 0),
  (2, .iload_n 3, 1, [3], 0),
  (3, .aload_n 0, 1, [0], 0),
  (4, .getfield 33, 3, [12, 6, 7012], 0),
  (7, .iconst 3, 1, [], 3),
  (8, .iaload, 1, [], 0),
  (9, .if_icmp .ge 78, 3, [54], 0),
  (12, .aload_n 0, 1, [0], 0),
  (13, .getfield 33, 3, [12, 6, 7012], 0),
  (16, .bipush 109, 2, [], 109),
  (18, .iconst 4, 1, [], 4),
  (19, .iload_n 3, 1, [3], 0),
  (20, .imul, 1, [], 0),
  (21, .iadd, 1, [], 0),
  (22, .iaload, 1, [], 0),
  (23, .iload_n 1, 1, [1], 0),
  (24, .if_icmp .ne 57, 3, [52], 0),
  (27, .aload_n 0, 1, [0], 0),
  (28, .getfield 33, 3, [12, 6, 7012], 0),
  (31, .bipush 109, 2, [], 109),
  (33, .iconst 4, 1, [], 4),
  (34, .iload_n 3, 1, [3], 0),
  (35, .imul, 1, [], 0),
  (36, .iadd, 1, [], 0),
  (37, .iconst 1, 1, [], 1),
  (38, .iadd, 1, [], 0),
  (39, .iaload, 1, [], 0),
  (40, .aload_n 0, 1, [0], 0),
  (41, .iload_n 2, 1, [2], 0),
  (42, .invokevirtual 304, 3, [0, 202, 1, 12, 8121, 8123, 79, 1018], 0),
  (45, .if_icmp .ne 36, 3, [52], 0),
  (48, .aload_n 0, 1, [0], 0),
  (49, .getfield 435, 3, [12, 60, 7066], 0),
  (52, .iload_n 3, 1, [3], 0),
  (53, .invokestatic 333, 3, [1, 211, 2, 8157, 8158, 1018], 0),
  (56, .ifCond .ne 25, 3, [52], 0),
  (59, .aload_n 0, 1, [0], 0),
  (60, .getfield 33, 3, [12, 6, 7012], 0),
  (63, .bipush 109, 2, [], 109),
  (65, .iconst 4, 1, [], 4),
  (66, .iload_n 3, 1, [3], 0),
  (67, .imul, 1, [], 0),
  (68, .iadd, 1, [], 0),
  (69, .iconst 3, 1, [], 3),
  (70, .iadd, 1, [], 0),
  (71, .iaload, 1, [], 0),
  (72, .aload_n 0, 1, [0], 0),
  (73, .getfield 438, 3, [12, 59, 7065], 0),
  (76, .if_icmp .lt 5, 3, [52], 0),
  (79, .iload_n 3, 1, [3], 0),
  (80, .ireturn, 1, [], 0),
  (81, .iinc 3 1, 3, [3], 1),
  (84, .goto (-82), 3, [2], 0),
  (87, .iconst (-1), 1, [], (-1)),
  (88, .ireturn, 1, [], 0)]
def cd_M_giver : List Ent := [(0, .aload_n 0, 1, [0], 0),
  (1, .getfield 105, 3, [12, 52, 7058], 0),
  (4, .iload_n 1, 1, [1], 0),
  (5, .iaload, 1, [], 0),
  (6, .ifCond .lt 38, 3, [27], 0),
  (9, .aload_n 0, 1, [0], 0),
  (10, .getfield 33, 3, [12, 6, 7012], 0),
  (13, .sipush 269, 3, [], 269),
  (16, .bipush 8, 2, [], 8),
  (18, .aload_n 0, 1, [0], 0),
  (19, .getfield 105, 3, [12, 52, 7058], 0),
  (22, .iload_n 1, 1, [1], 0),
  (23, .iaload, 1, [], 0),
  (24, .imul, 1, [], 0),
  (25, .iadd, 1, [], 0),
  (26, .iload_n 2, 1, [2], 0),
  (27, .iadd, 1, [], 0),
  (28, .iaload, 1, [], 0),
  (29, .iconst 1, 1, [], 1),
  (30, .if_icmp .ne 12, 3, [25], 0),
  (33, .aload_n 0, 1, [0], 0),
  (34, .getfield 105, 3, [12, 52, 7058], 0),
  (37, .iload_n 1, 1, [1], 0),
  (38, .iaload, 1, [], 0),
  (39, .goto 4, 3, [26], 0),
  (42, .iconst (-1), 1, [], (-1)),
  (43, .ireturn, 1, [], 0),
  (44, .aload_n 0, 1, [0], 0),
  (45, .iload_n 1, 1, [1], 0),
  (46, .invokevirtual 441, 3, [0, 243, 1, 12, 9047, 9049, 105, 1018], 0),
  (49, .istore_n 3, 1, [3], 0),
  (50, .aload_n 0, 1, [0], 0),
  (51, .getfield 33, 3, [12, 6, 7012], 0),
  (54, .sipush 269, 3, [], 269),
  (57, .bipush 8, 2, [], 8),
  (59, .iload_n 3, 1, [3], 0),
  (60, .imul, 1, [], 0),
  (61, .iadd, 1, [], 0),
  (62, .iload_n 2, 1, [2], 0),
  (63, .iadd, 1, [], 0),
  (64, .iaload, 1, [], 0),
  (65, .iconst 1, 1, [], 1),
  (66, .if_icmp .ne 5, 3, [45], 0),
  (69, .iload_n 3, 1, [3], 0),
  (70, .ireturn, 1, [], 0),
  (71, .aload_n 0, 1, [0], 0),
  (72, .getfield 33, 3, [12, 6, 7012], 0),
  (75, .bipush 29, 2, [], 29),
  (77, .iconst 5, 1, [], 5),
  (78, .iload_n 1, 1, [1], 0),
  (79, .imul, 1, [], 0),
  (80, .iadd, 1, [], 0),
  (81, .iconst 2, 1, [], 2),
  (82, .iadd, 1, [], 0),
  (83, .iaload, 1, [], 0),
  (84, .aload_n 0, 1, [0], 0),
  (85, .getfield 33, 3, [12, 6, 7012], 0),
  (88, .bipush 29, 2, [], 29),
  (90, .iconst 5, 1, [], 5),
  (91, .iload_n 1, 1, [1], 0),
  (92, .imul, 1, [], 0),
  (93, .iadd, 1, [], 0),
  (94, .iconst 3, 1, [], 3),
  (95, .iadd, 1, [], 0),
  (96, .iaload, 1, [], 0),
  (97, .iadd, 1, [], 0),
  (98, .iload_n 3, 1, [3], 0),
  (99, .isub, 1, [], 0),
  (100, .istore 4, 2, [4], 0),
  (102, .aload_n 0, 1, [0], 0),
  (103, .getfield 33, 3, [12, 6, 7012], 0),
  (106, .bipush 29, 2, [], 29),
  (108, .iconst 5, 1, [], 5),
  (109, .iload_n 1, 1, [1], 0),
  (110, .imul, 1, [], 0),
  (111, .iadd, 1, [], 0),
  (112, .iconst 3, 1, [], 3),
  (113, .iadd, 1, [], 0),
  (114, .iaload, 1, [], 0),
  (115, .ifCond .lt 28, 3, [94], 0),
  (118, .aload_n 0, 1, [0], 0),
  (119, .getfield 33, 3, [12, 6, 7012], 0),
  (122, .sipush 269, 3, [], 269),
  (125, .bipush 8, 2, [], 8),
  (127, .iload 4, 2, [4], 0),
  (129, .imul, 1, [], 0),
  (130, .iadd, 1, [], 0),
  (131, .iload_n 2, 1, [2], 0),
  (132, .iadd, 1, [], 0),
  (133, .iaload, 1, [], 0),
  (134, .iconst 1, 1, [], 1),
  (135, .if_icmp .ne 8, 3, [94], 0),
  (138, .iload 4, 2, [4], 0),
  (140, .goto 4, 3, [95], 0),
  (143, .iconst (-1), 1, [], (-1)),
  (144, .ireturn, 1, [], 0)]
def cd_M_lesserFirst : List Ent := [(0, .aload_n 0, 1, [0], 0),
  (1, .getfield 33, 3, [12, 6, 7012], 0),
  (4, .bipush 29, 2, [], 29),
  (6, .iconst 5, 1, [], 5),
  (7, .iload_n 1, 1, [1], 0),
  (8, .imul, 1, [], 0),
  (9, .iadd, 1, [], 0),
  (10, .iconst 2, 1, [], 2),
  (11, .iadd, 1, [], 0),
  (12, .iaload, 1, [], 0),
  (13, .istore_n 2, 1, [2], 0),
  (14, .aload_n 0, 1, [0], 0),
  (15, .getfield 33, 3, [12, 6, 7012], 0),
  (18, .bipush 29, 2, [], 29),
  (20, .iconst 5, 1, [], 5),
  (21, .iload_n 1, 1, [1], 0),
  (22, .imul, 1, [], 0),
  (23, .iadd, 1, [], 0),
  (24, .iconst 3, 1, [], 3),
  (25, .iadd, 1, [], 0),
  (26, .iaload, 1, [], 0),
  (27, .istore_n 3, 1, [3], 0),
  (28, .iload_n 3, 1, [3], 0),
  (29, .ifCond .lt 8, 3, [27], 0),
  (32, .iload_n 2, 1, [2], 0),
  (33, .iload_n 3, 1, [3], 0),
  (34, .if_icmp .ge 7, 3, [29], 0),
  (37, .iload_n 2, 1, [2], 0),
  (38, .goto 4, 3, [30], 0),
  (41, .iload_n 3, 1, [3], 0),
  (42, .ireturn, 1, [], 0)]
def cd_M_forbids : List Ent := [(0, .aload_n 0, 1, [0], 0),
  (1, .getfield 114, 3, [12, 55, 7061], 0),
  (4, .iload_n 1, 1, [1], 0),
  (5, .iaload, 1, [], 0),
  (6, .iconst 1, 1, [], 1),
  (7, .iload_n 2, 1, [2], 0),
  (8, .ishl, 1, [], 0),
  (9, .ior, 1, [], 0),
  (10, .istore 4, 2, [4], 0),
  (12, .aload_n 0, 1, [0], 0),
  (13, .getfield 33, 3, [12, 6, 7012], 0),
  (16, .iconst 5, 1, [], 5),
  (17, .iaload, 1, [], 0),
  (18, .iconst 1, 1, [], 1),
  (19, .if_icmp .ne 27, 3, [28], 0),
  (22, .iload 4, 2, [4], 0),
  (24, .iload_n 3, 1, [3], 0),
  (25, .invokestatic 333, 3, [1, 211, 2, 8157, 8158, 1018], 0),
  (28, .ifCond .eq 16, 3, [26], 0),
  (31, .aload_n 0, 1, [0], 0),
  (32, .iload_n 1, 1, [1], 0),
  (33, .iload_n 3, 1, [3], 0),
  (34, .invokevirtual 336, 3, [0, 217, 2, 12, 8181, 8183, 90, 1018], 0),
  (37, .ifCond .ne 7, 3, [26], 0),
  (40, .iconst 1, 1, [], 1),
  (41, .goto 4, 3, [27], 0),
  (44, .iconst 0, 1, [], 0),
  (45, .ireturn, 1, [], 0),
  (46, .aload_n 0, 1, [0], 0),
  (47, .getfield 33, 3, [12, 6, 7012], 0),
  (50, .iconst 5, 1, [], 5),
  (51, .iaload, 1, [], 0),
  (52, .iconst 2, 1, [], 2),
  (53, .if_icmp .ne 27, 3, [47], 0),
  (56, .iload 4, 2, [4], 0),
  (58, .iload_n 3, 1, [3], 0),
  (59, .invokestatic 333, 3, [1, 211, 2, 8157, 8158, 1018], 0),
  (62, .ifCond .ne 12, 3, [43], 0),
  (65, .aload_n 0, 1, [0], 0),
  (66, .iload_n 1, 1, [1], 0),
  (67, .iload_n 3, 1, [3], 0),
  (68, .invokevirtual 336, 3, [0, 217, 2, 12, 8181, 8183, 90, 1018], 0),
  (71, .ifCond .eq 7, 3, [45], 0),
  (74, .iconst 1, 1, [], 1),
  (75, .goto 4, 3, [46], 0),
  (78, .iconst 0, 1, [], 0),
  (79, .ireturn, 1, [], 0),
  (80, .aload_n 0, 1, [0], 0),
  (81, .getfield 33, 3, [12, 6, 7012], 0),
  (84, .iconst 5, 1, [], 5),
  (85, .iaload, 1, [], 0),
  (86, .iconst 3, 1, [], 3),
  (87, .if_icmp .ne 40, 3, [76], 0),
  (90, .aload_n 0, 1, [0], 0),
  (91, .getfield 117, 3, [12, 56, 7062], 0),
  (94, .iload_n 1, 1, [1], 0),
  (95, .iaload, 1, [], 0),
  (96, .iconst 1, 1, [], 1),
  (97, .aload_n 0, 1, [0], 0),
  (98, .getfield 33, 3, [12, 6, 7012], 0),
  (101, .bipush 7, 2, [], 7),
  (103, .iload_n 2, 1, [2], 0),
  (104, .iadd, 1, [], 0),
  (105, .iaload, 1, [], 0),
  (106, .ishl, 1, [], 0),
  (107, .ior, 1, [], 0),
  (108, .aload_n 0, 1, [0], 0),
  (109, .getfield 33, 3, [12, 6, 7012], 0),
  (112, .bipush 7, 2, [], 7),
  (114, .iload_n 3, 1, [3], 0),
  (115, .iadd, 1, [], 0),
  (116, .iaload, 1, [], 0),
  (117, .invokestatic 333, 3, [1, 211, 2, 8157, 8158, 1018], 0),
  (120, .ifCond .eq 7, 3, [76], 0),
  (123, .iconst 1, 1, [], 1),
  (124, .goto 4, 3, [77], 0),
  (127, .iconst 0, 1, [], 0),
  (128, .ireturn, 1, [], 0)]
def cd_M_judged : List Ent := [(0, .aload_n 0, 1, [0], 0),
  (1, .iconst 0, 1, [], 0),
  (2, .putfield 1, 3, [12, 0, 7006], 0),
  (5, .aload_n 0, 1, [0], 0),
  (6, .getfield 126, 3, [12, 62, 7068], 0),
  (9, .ifCond .lt 21, 3, [16], 0),
  (12, .iload_n 1, 1, [1], 0),
  (13, .iconst 0, 1, [], 0),
  (14, .iconst 4, 1, [], 4),
  (15, .invokestatic 238, 3, [1, 187, 3, 8062, 8063, 1018], 0),
  (18, .ifCond .eq 12, 3, [16], 0),
  (21, .aload_n 0, 1, [0], 0),
  (22, .getfield 120, 3, [12, 57, 7063], 0),
  (25, .iload_n 1, 1, [1], 0),
  (26, .iaload, 1, [], 0),
  (27, .goto 4, 3, [17], 0),
  (30, .iconst (-1), 1, [], (-1)),
  (31, .ireturn, 1, [], 0)]
def cd_M_holds : List Ent := [(0, .aload_n 0, 1, [0], 0),
  (1, .iconst 0, 1, [], 0),
  (2, .putfield 1, 3, [12, 0, 7006], 0),
  (5, .iload_n 1, 1, [1], 0),
  (6, .iconst 0, 1, [], 0),
  (7, .aload_n 0, 1, [0], 0),
  (8, .getfield 126, 3, [12, 62, 7068], 0),
  (11, .iconst 1, 1, [], 1),
  (12, .isub, 1, [], 0),
  (13, .invokestatic 238, 3, [1, 187, 3, 8062, 8063, 1018], 0),
  (16, .ifCond .eq 25, 3, [25], 0),
  (19, .iload_n 2, 1, [2], 0),
  (20, .iconst 0, 1, [], 0),
  (21, .iconst 2, 1, [], 2),
  (22, .invokestatic 238, 3, [1, 187, 3, 8062, 8063, 1018], 0),
  (25, .ifCond .eq 16, 3, [25], 0),
  (28, .aload_n 0, 1, [0], 0),
  (29, .getfield 123, 3, [12, 58, 7064], 0),
  (32, .iconst 3, 1, [], 3),
  (33, .iload_n 1, 1, [1], 0),
  (34, .imul, 1, [], 0),
  (35, .iload_n 2, 1, [2], 0),
  (36, .iadd, 1, [], 0),
  (37, .iaload, 1, [], 0),
  (38, .goto 4, 3, [26], 0),
  (41, .iconst (-1), 1, [], (-1)),
  (42, .ireturn, 1, [], 0)]
def cd_M_ways : List Ent := [(0, .aload_n 0, 1, [0], 0),
  (1, .iconst 0, 1, [], 0),
  (2, .putfield 1, 3, [12, 0, 7006], 0),
  (5, .aload_n 0, 1, [0], 0),
  (6, .iload_n 1, 1, [1], 0),
  (7, .invokevirtual 308, 3, [0, 199, 1, 12, 8109, 8111, 76, 1018], 0),
  (10, .ifCond .eq 21, 3, [16], 0),
  (13, .aload_n 0, 1, [0], 0),
  (14, .iload_n 2, 1, [2], 0),
  (15, .invokevirtual 318, 3, [0, 204, 1, 12, 8129, 8131, 80, 1018], 0),
  (18, .ifCond .eq 13, 3, [16], 0),
  (21, .iload_n 3, 1, [3], 0),
  (22, .iconst 2, 1, [], 2),
  (23, .bipush 6, 2, [], 6),
  (25, .invokestatic 238, 3, [1, 187, 3, 8062, 8063, 1018], 0),
  (28, .ifCond .ne 5, 3, [18], 0),
  (31, .iconst (-1), 1, [], (-1)),
  (32, .ireturn, 1, [], 0),
  (33, .aload_n 0, 1, [0], 0),
  (34, .invokevirtual 374, 3, [0, 208, 0, 12, 8145, 8147, 82, 1018], 0),
  (37, .aload_n 0, 1, [0], 0),
  (38, .getfield 33, 3, [12, 6, 7012], 0),
  (41, .bipush 109, 2, [], 109),
  (43, .iconst 4, 1, [], 4),
  (44, .iload_n 2, 1, [2], 0),
  (45, .imul, 1, [], 0),
  (46, .iadd, 1, [], 0),
  (47, .iconst 1, 1, [], 1),
  (48, .iadd, 1, [], 0),
  (49, .iaload, 1, [], 0),
  (50, .aload_n 0, 1, [0], 0),
  (51, .iload_n 1, 1, [1], 0),
  (52, .invokevirtual 304, 3, [0, 202, 1, 12, 8121, 8123, 79, 1018], 0),
  (55, .if_icmp .eq 5, 3, [36], 0),
  (58, .iconst 0, 1, [], 0),
  (59, .ireturn, 1, [], 0),
  (60, .iconst 0, 1, [], 0),
  (61, .istore 4, 2, [4], 0),
  (63, .aload_n 0, 1, [0], 0),
  (64, .iload_n 1, 1, [1], 0),
  (65, .iload_n 2, 1, [2], 0),
  (66, .invokevirtual 365, 3, [0, 219, 2, 12, 8189, 8191, 92, 1018], 0),
  (69, .aload_n 0, 1, [0], 0),
  (70, .getfield 33, 3, [12, 6, 7012], 0),
  (73, .bipush 29, 2, [], 29),
  (75, .iconst 5, 1, [], 5),
  (76, .iload_n 1, 1, [1], 0),
  (77, .imul, 1, [], 0),
  (78, .iadd, 1, [], 0),
  (79, .iconst 4, 1, [], 4),
  (80, .iadd, 1, [], 0),
  (81, .iaload, 1, [], 0),
  (82, .isub, 1, [], 0),
  (83, .istore 5, 2, [5], 0),
  (85, .aload_n 0, 1, [0], 0),
  (86, .iload_n 3, 1, [3], 0),
  (87, .invokevirtual 359, 3, [0, 213, 1, 12, 8165, 8167, 86, 1018], 0),
  (90, .iload 5, 2, [5], 0),
  (92, .ifCond .ge 5, 3, [61], 0),
  (95, .iconst 0, 1, [], 0),
  (96, .ireturn, 1, [], 0),
  (97, .aload_n 0, 1, [0], 0),
  (98, .iload_n 1, 1, [1], 0),
  (99, .iload 5, 2, [5], 0),
  (101, .invokevirtual 362, 3, [0, 214, 2, 12, 8169, 8171, 87, 1018], 0),
  (104, .ifCond .eq 38, 3, [88], 0),
  (107, .iload 4, 2, [4], 0),
  (109, .aload_n 0, 1, [0], 0),
  (110, .getfield 62, 3, [12, 28, 7034], 0),
  (113, .iload_n 3, 1, [3], 0),
  (114, .iconst 1, 1, [], 1),
  (115, .isub, 1, [], 0),
  (116, .iaload, 1, [], 0),
  (117, .aload_n 0, 1, [0], 0),
  (118, .getfield 33, 3, [12, 6, 7012], 0),
  (121, .bipush 109, 2, [], 109),
  (123, .iconst 4, 1, [], 4),
  (124, .iload_n 2, 1, [2], 0),
  (125, .imul, 1, [], 0),
  (126, .iadd, 1, [], 0),
  (127, .iaload, 1, [], 0),
  (128, .if_icmp .ne 7, 3, [84], 0),
  (131, .iconst 1, 1, [], 1),
  (132, .goto 4, 3, [85], 0),
  (135, .iconst 0, 1, [], 0),
  (136, .iadd, 1, [], 0),
  (137, .istore 4, 2, [4], 0),
  (139, .goto (-42), 3, [61], 0),
  (142, .iload 4, 2, [4], 0),
  (144, .ireturn, 1, [], 0)]
def cd_M_latest : List Ent := [(0, .aload_n 0, 1, [0], 0),
  (1, .iconst 0, 1, [], 0),
  (2, .putfield 1, 3, [12, 0, 7006], 0),
  (5, .aload_n 0, 1, [0], 0),
  (6, .iload_n 1, 1, [1], 0),
  (7, .invokevirtual 308, 3, [0, 199, 1, 12, 8109, 8111, 76, 1018], 0),
  (10, .ifCond .eq 32, 3, [25], 0),
  (13, .aload_n 0, 1, [0], 0),
  (14, .iload_n 2, 1, [2], 0),
  (15, .invokevirtual 318, 3, [0, 204, 1, 12, 8129, 8131, 80, 1018], 0),
  (18, .ifCond .eq 24, 3, [25], 0),
  (21, .aload_n 0, 1, [0], 0),
  (22, .getfield 33, 3, [12, 6, 7012], 0),
  (25, .bipush 109, 2, [], 109),
  (27, .iconst 4, 1, [], 4),
  (28, .iload_n 2, 1, [2], 0),
  (29, .imul, 1, [], 0),
  (30, .iadd, 1, [], 0),
  (31, .iconst 1, 1, [], 1),
  (32, .iadd, 1, [], 0),
  (33, .iaload, 1, [], 0),
  (34, .aload_n 0, 1, [0], 0),
  (35, .iload_n 1, 1, [1], 0),
  (36, .invokevirtual 304, 3, [0, 202, 1, 12, 8121, 8123, 79, 1018], 0),
  (39, .if_icmp .eq 5, 3, [27], 0),
  (42, .iconst (-1), 1, [], (-1)),
  (43, .ireturn, 1, [], 0),
  (44, .aload_n 0, 1, [0], 0),
  (45, .invokevirtual 374, 3, [0, 208, 0, 12, 8145, 8147, 82, 1018], 0),
  (48, .aload_n 0, 1, [0], 0),
  (49, .iload_n 1, 1, [1], 0),
  (50, .iload_n 2, 1, [2], 0),
  (51, .invokevirtual 365, 3, [0, 219, 2, 12, 8189, 8191, 92, 1018], 0),
  (54, .aload_n 0, 1, [0], 0),
  (55, .getfield 33, 3, [12, 6, 7012], 0),
  (58, .bipush 29, 2, [], 29),
  (60, .iconst 5, 1, [], 5),
  (61, .iload_n 1, 1, [1], 0),
  (62, .imul, 1, [], 0),
  (63, .iadd, 1, [], 0),
  (64, .iconst 4, 1, [], 4),
  (65, .iadd, 1, [], 0),
  (66, .iaload, 1, [], 0),
  (67, .isub, 1, [], 0),
  (68, .istore_n 3, 1, [3], 0),
  (69, .iconst 0, 1, [], 0),
  (70, .istore 4, 2, [4], 0),
  (72, .aload_n 0, 1, [0], 0),
  (73, .aload_n 0, 1, [0], 0),
  (74, .getfield 324, 3, [12, 25, 7031], 0),
  (77, .invokevirtual 359, 3, [0, 213, 1, 12, 8165, 8167, 86, 1018], 0),
  (80, .iload_n 3, 1, [3], 0),
  (81, .ifCond .ge 5, 3, [55], 0),
  (84, .iconst (-1), 1, [], (-1)),
  (85, .ireturn, 1, [], 0),
  (86, .aload_n 0, 1, [0], 0),
  (87, .iload_n 1, 1, [1], 0),
  (88, .iload_n 3, 1, [3], 0),
  (89, .invokevirtual 362, 3, [0, 214, 2, 12, 8169, 8171, 87, 1018], 0),
  (92, .ifCond .eq 49, 3, [88], 0),
  (95, .aload_n 0, 1, [0], 0),
  (96, .getfield 62, 3, [12, 28, 7034], 0),
  (99, .aload_n 0, 1, [0], 0),
  (100, .getfield 324, 3, [12, 25, 7031], 0),
  (103, .iconst 1, 1, [], 1),
  (104, .isub, 1, [], 0),
  (105, .iaload, 1, [], 0),
  (106, .aload_n 0, 1, [0], 0),
  (107, .getfield 33, 3, [12, 6, 7012], 0),
  (110, .bipush 109, 2, [], 109),
  (112, .iconst 4, 1, [], 4),
  (113, .iload_n 2, 1, [2], 0),
  (114, .imul, 1, [], 0),
  (115, .iadd, 1, [], 0),
  (116, .iaload, 1, [], 0),
  (117, .if_icmp .eq 6, 3, [77], 0),
  (120, .goto (-34), 3, [55], 0),
  (123, .iconst 1, 1, [], 1),
  (124, .istore 4, 2, [4], 0),
  (126, .aload_n 0, 1, [0], 0),
  (127, .getfield 68, 3, [12, 30, 7036], 0),
  (130, .aload_n 0, 1, [0], 0),
  (131, .getfield 324, 3, [12, 25, 7031], 0),
  (134, .iconst 1, 1, [], 1),
  (135, .isub, 1, [], 0),
  (136, .iaload, 1, [], 0),
  (137, .istore_n 3, 1, [3], 0),
  (138, .goto (-52), 3, [55], 0),
  (141, .iload 4, 2, [4], 0),
  (143, .ifCond .eq 14, 3, [97], 0),
  (146, .aload_n 0, 1, [0], 0),
  (147, .iload_n 1, 1, [1], 0),
  (148, .iload_n 2, 1, [2], 0),
  (149, .invokevirtual 365, 3, [0, 219, 2, 12, 8189, 8191, 92, 1018], 0),
  (152, .iload_n 3, 1, [3], 0),
  (153, .isub, 1, [], 0),
  (154, .goto 4, 3, [98], 0),
  (157, .iconst (-1), 1, [], (-1)),
  (158, .ireturn, 1, [], 0)]
def cd_M_middle : List Ent := [(0, .aload_n 0, 1, [0], 0),
  (1, .iconst 0, 1, [], 0),
  (2, .putfield 1, 3, [12, 0, 7006], 0),
  (5, .aload_n 0, 1, [0], 0),
  (6, .iload_n 1, 1, [1], 0),
  (7, .invokevirtual 321, 3, [0, 206, 1, 12, 8137, 8139, 81, 1018], 0),
  (10, .ifCond .ne 5, 3, [9], 0),
  (13, .iconst (-1), 1, [], (-1)),
  (14, .ireturn, 1, [], 0),
  (15, .aload_n 0, 1, [0], 0),
  (16, .invokevirtual 374, 3, [0, 208, 0, 12, 8145, 8147, 82, 1018], 0),
  (19, .aload_n 0, 1, [0], 0),
  (20, .iload_n 1, 1, [1], 0),
  (21, .invokevirtual 468, 3, [0, 250, 1, 12, 9075, 9077, 107, 1018], 0),
  (24, .istore_n 2, 1, [2], 0),
  (25, .aload_n 0, 1, [0], 0),
  (26, .aload_n 0, 1, [0], 0),
  (27, .getfield 465, 3, [12, 63, 7069], 0),
  (30, .putfield 129, 3, [12, 64, 7070], 0),
  (33, .iload_n 2, 1, [2], 0),
  (34, .ireturn, 1, [], 0)]
def cd_M_asksBest : List Ent := [(0, .aload_n 0, 1, [0], 0),
  (1, .getfield 59, 3, [12, 24, 7030], 0),
  (4, .iload_n 1, 1, [1], 0),
  (5, .iaload, 1, [], 0),
  (6, .istore_n 2, 1, [2], 0),
  (7, .iconst 0, 1, [], 0),
  (8, .istore_n 3, 1, [3], 0),
  (9, .aload_n 0, 1, [0], 0),
  (10, .iconst 0, 1, [], 0),
  (11, .putfield 465, 3, [12, 63, 7069], 0),
  (14, .iconst 1, 1, [], 1),
  (15, .istore 4, 2, [4], 0),
  (17, .iload 4, 2, [4], 0),
  (19, .bipush 20, 2, [], 20),
  (21, .if_icmp .gt 145, 3, [92], 0),
  (24, .aload_n 0, 1, [0], 0),
  (25, .getfield 59, 3, [12, 24, 7030], 0),
  (28, .iload_n 1, 1, [1], 0),
  (29, .iload 4, 2, [4], 0),
  (31, .iastore, 1, [], 0),
  (32, .aload_n 0, 1, [0], 0),
  (33, .invokevirtual 377, 3, [0, 209, 0, 12, 8149, 8151, 83, 1018], 0),
  (36, .aload_n 0, 1, [0], 0),
  (37, .invokevirtual 416, 3, [0, 228, 0, 12, 8224, 8226, 96, 1018], 0),
  (40, .iconst 0, 1, [], 0),
  (41, .istore 5, 2, [5], 0),
  (43, .iconst 0, 1, [], 0),
  (44, .istore 6, 2, [6], 0),
  (46, .iload 6, 2, [6], 0),
  (48, .aload_n 0, 1, [0], 0),
  (49, .getfield 33, 3, [12, 6, 7012], 0),
  (52, .iconst 3, 1, [], 3),
  (53, .iaload, 1, [], 0),
  (54, .if_icmp .ge 79, 3, [76], 0),
  (57, .iconst 1, 1, [], 1),
  (58, .istore 7, 2, [7], 0),
  (60, .iload 7, 2, [7], 0),
  (62, .aload_n 0, 1, [0], 0),
  (63, .getfield 324, 3, [12, 25, 7031], 0),
  (66, .iconst 1, 1, [], 1),
  (67, .isub, 1, [], 0),
  (68, .if_icmp .ge 59, 3, [74], 0),
  (71, .aload_n 0, 1, [0], 0),
  (72, .getfield 99, 3, [12, 45, 7051], 0),
  (75, .iload 6, 2, [6], 0),
  (77, .iaload, 1, [], 0),
  (78, .ifCond .lt 49, 3, [74], 0),
  (81, .iload 5, 2, [5], 0),
  (83, .aload_n 0, 1, [0], 0),
  (84, .getfield 89, 3, [12, 40, 7046], 0),
  (87, .bipush 8, 2, [], 8),
  (89, .aload_n 0, 1, [0], 0),
  (90, .getfield 99, 3, [12, 45, 7051], 0),
  (93, .iload 6, 2, [6], 0),
  (95, .iaload, 1, [], 0),
  (96, .imul, 1, [], 0),
  (97, .iload 6, 2, [6], 0),
  (99, .iadd, 1, [], 0),
  (100, .iaload, 1, [], 0),
  (101, .iconst 3, 1, [], 3),
  (102, .iload 7, 2, [7], 0),
  (104, .imul, 1, [], 0),
  (105, .ishr, 1, [], 0),
  (106, .bipush 7, 2, [], 7),
  (108, .iand, 1, [], 0),
  (109, .iload_n 1, 1, [1], 0),
  (110, .if_icmp .ne 7, 3, [69], 0),
  (113, .iconst 1, 1, [], 1),
  (114, .goto 4, 3, [70], 0),
  (117, .iconst 0, 1, [], 0),
  (118, .iadd, 1, [], 0),
  (119, .istore 5, 2, [5], 0),
  (121, .iinc 7 1, 3, [7], 1),
  (124, .goto (-64), 3, [36], 0),
  (127, .iinc 6 1, 3, [6], 1),
  (130, .goto (-84), 3, [28], 0),
  (133, .iload 4, 2, [4], 0),
  (135, .iload 5, 2, [5], 0),
  (137, .imul, 1, [], 0),
  (138, .aload_n 0, 1, [0], 0),
  (139, .getfield 465, 3, [12, 63, 7069], 0),
  (142, .if_icmp .gt 6, 3, [83], 0),
  (145, .goto 15, 3, [90], 0),
  (148, .aload_n 0, 1, [0], 0),
  (149, .iload 4, 2, [4], 0),
  (151, .iload 5, 2, [5], 0),
  (153, .imul, 1, [], 0),
  (154, .putfield 465, 3, [12, 63, 7069], 0),
  (157, .iload 4, 2, [4], 0),
  (159, .istore_n 3, 1, [3], 0),
  (160, .iinc 4 1, 3, [4], 1),
  (163, .goto (-146), 3, [12], 0),
  (166, .aload_n 0, 1, [0], 0),
  (167, .getfield 59, 3, [12, 24, 7030], 0),
  (170, .iload_n 1, 1, [1], 0),
  (171, .iload_n 2, 1, [2], 0),
  (172, .iastore, 1, [], 0),
  (173, .iload_n 3, 1, [3], 0),
  (174, .ireturn, 1, [], 0)]
def cd_M_middleBy : List Ent := [(0, .aload_n 0, 1, [0], 0),
  (1, .iconst 0, 1, [], 0),
  (2, .putfield 1, 3, [12, 0, 7006], 0),
  (5, .aload_n 0, 1, [0], 0),
  (6, .getfield 129, 3, [12, 64, 7070], 0),
  (9, .ireturn, 1, [], 0)]
def cd_M_rest : List Ent := [(0, .aload_n 0, 1, [0], 0),
  (1, .iconst 0, 1, [], 0),
  (2, .putfield 1, 3, [12, 0, 7006], 0),
  (5, .aload_n 0, 1, [0], 0),
  (6, .invokevirtual 374, 3, [0, 208, 0, 12, 8145, 8147, 82, 1018], 0),
  (9, .iconst (-1), 1, [], (-1)),
  (10, .istore_n 1, 1, [1], 0),
  (11, .iconst 1, 1, [], 1),
  (12, .istore_n 2, 1, [2], 0),
  (13, .iload_n 2, 1, [2], 0),
  (14, .bipush 6, 2, [], 6),
  (16, .if_icmp .gt 96, 3, [61], 0),
  (19, .iload_n 1, 1, [1], 0),
  (20, .ifCond .ge 92, 3, [61], 0),
  (23, .iconst 0, 1, [], 0),
  (24, .istore_n 3, 1, [3], 0),
  (25, .iconst 0, 1, [], 0),
  (26, .istore 4, 2, [4], 0),
  (28, .iload 4, 2, [4], 0),
  (30, .aload_n 0, 1, [0], 0),
  (31, .getfield 33, 3, [12, 6, 7012], 0),
  (34, .iconst 0, 1, [], 0),
  (35, .iaload, 1, [], 0),
  (36, .if_icmp .ge 64, 3, [55], 0),
  (39, .aload_n 0, 1, [0], 0),
  (40, .getfield 33, 3, [12, 6, 7012], 0),
  (43, .bipush 15, 2, [], 15),
  (45, .iload 4, 2, [4], 0),
  (47, .iadd, 1, [], 0),
  (48, .iaload, 1, [], 0),
  (49, .ifCond .ne 6, 3, [32], 0),
  (52, .goto 42, 3, [53], 0),
  (55, .aload_n 0, 1, [0], 0),
  (56, .iload 4, 2, [4], 0),
  (58, .invokevirtual 468, 3, [0, 250, 1, 12, 9075, 9077, 107, 1018], 0),
  (61, .istore 5, 2, [5], 0),
  (63, .iload_n 3, 1, [3], 0),
  (64, .ifCond .ne 15, 3, [44], 0),
  (67, .iload 5, 2, [5], 0),
  (69, .aload_n 0, 1, [0], 0),
  (70, .getfield 59, 3, [12, 24, 7030], 0),
  (73, .iload 4, 2, [4], 0),
  (75, .iaload, 1, [], 0),
  (76, .if_icmp .eq 7, 3, [46], 0),
  (79, .iconst 1, 1, [], 1),
  (80, .goto 4, 3, [47], 0),
  (83, .iconst 0, 1, [], 0),
  (84, .istore_n 3, 1, [3], 0),
  (85, .aload_n 0, 1, [0], 0),
  (86, .getfield 59, 3, [12, 24, 7030], 0),
  (89, .iload 4, 2, [4], 0),
  (91, .iload 5, 2, [5], 0),
  (93, .iastore, 1, [], 0),
  (94, .iinc 4 1, 3, [4], 1),
  (97, .goto (-69), 3, [18], 0),
  (100, .iload_n 3, 1, [3], 0),
  (101, .ifCond .ne 5, 3, [59], 0),
  (104, .iload_n 2, 1, [2], 0),
  (105, .istore_n 1, 1, [1], 0),
  (106, .iinc 2 1, 3, [2], 1),
  (109, .goto (-96), 3, [9], 0),
  (112, .aload_n 0, 1, [0], 0),
  (113, .aload_n 0, 1, [0], 0),
  (114, .getfield 33, 3, [12, 6, 7012], 0),
  (117, .iconst 0, 1, [], 0),
  (118, .iaload, 1, [], 0),
  (119, .putfield 471, 3, [12, 66, 7072], 0),
  (122, .iconst 0, 1, [], 0),
  (123, .istore_n 2, 1, [2], 0),
  (124, .iload_n 2, 1, [2], 0),
  (125, .bipush 8, 2, [], 8),
  (127, .if_icmp .ge 21, 3, [82], 0),
  (130, .aload_n 0, 1, [0], 0),
  (131, .getfield 132, 3, [12, 65, 7071], 0),
  (134, .iload_n 2, 1, [2], 0),
  (135, .aload_n 0, 1, [0], 0),
  (136, .getfield 59, 3, [12, 24, 7030], 0),
  (139, .iload_n 2, 1, [2], 0),
  (140, .iaload, 1, [], 0),
  (141, .iastore, 1, [], 0),
  (142, .iinc 2 1, 3, [2], 1),
  (145, .goto (-21), 3, [69], 0),
  (148, .iload_n 1, 1, [1], 0),
  (149, .ireturn, 1, [], 0)]
def cd_M_restOf : List Ent := [(0, .aload_n 0, 1, [0], 0),
  (1, .iconst 0, 1, [], 0),
  (2, .putfield 1, 3, [12, 0, 7006], 0),
  (5, .iload_n 1, 1, [1], 0),
  (6, .iconst 0, 1, [], 0),
  (7, .aload_n 0, 1, [0], 0),
  (8, .getfield 471, 3, [12, 66, 7072], 0),
  (11, .iconst 1, 1, [], 1),
  (12, .isub, 1, [], 0),
  (13, .invokestatic 238, 3, [1, 187, 3, 8062, 8063, 1018], 0),
  (16, .ifCond .eq 12, 3, [16], 0),
  (19, .aload_n 0, 1, [0], 0),
  (20, .getfield 132, 3, [12, 65, 7071], 0),
  (23, .iload_n 1, 1, [1], 0),
  (24, .iaload, 1, [], 0),
  (25, .goto 4, 3, [17], 0),
  (28, .iconst (-1), 1, [], (-1)),
  (29, .ireturn, 1, [], 0)]
def cd_M_ring : List Ent := [(0, .aload_n 0, 1, [0], 0),
  (1, .iconst 0, 1, [], 0),
  (2, .putfield 1, 3, [12, 0, 7006], 0),
  (5, .aload_n 0, 1, [0], 0),
  (6, .sipush 1040, 3, [], 1040),
  (9, .invokevirtual 295, 3, [0, 174, 1, 12, 8012, 8014, 56, 1018], 0),
  (12, .aload_n 0, 1, [0], 0),
  (13, .invokevirtual 486, 3, [0, 255, 0, 12, 9095, 9097, 108, 1018], 0),
  (16, .ifCond .ne 6, 3, [11], 0),
  (19, .bipush (-2), 2, [], (-2)),
  (21, .ireturn, 1, [], 0),
  (22, .aload_n 0, 1, [0], 0),
  (23, .invokevirtual 489, 3, [0, 257, 0, 12, 9103, 9105, 110, 1018], 0),
  (26, .ifCond .ne 5, 3, [16], 0),
  (29, .iconst (-1), 1, [], (-1)),
  (30, .ireturn, 1, [], 0),
  (31, .aload_n 0, 1, [0], 0),
  (32, .invokevirtual 492, 3, [0, 258, 0, 12, 9107, 9109, 111, 1018], 0),
  (35, .iconst 0, 1, [], 0),
  (36, .istore_n 1, 1, [1], 0),
  (37, .aload_n 0, 1, [0], 0),
  (38, .aload_n 0, 1, [0], 0),
  (39, .getfield 474, 3, [12, 70, 7076], 0),
  (42, .putfield 495, 3, [12, 71, 7077], 0),
  (45, .iconst 0, 1, [], 0),
  (46, .istore_n 2, 1, [2], 0),
  (47, .iload_n 2, 1, [2], 0),
  (48, .aload_n 0, 1, [0], 0),
  (49, .getfield 474, 3, [12, 70, 7076], 0),
  (52, .if_icmp .ge 45, 3, [56], 0),
  (55, .aload_n 0, 1, [0], 0),
  (56, .getfield 141, 3, [12, 69, 7075], 0),
  (59, .iload_n 2, 1, [2], 0),
  (60, .aload_n 0, 1, [0], 0),
  (61, .getfield 138, 3, [12, 68, 7074], 0),
  (64, .iload_n 2, 1, [2], 0),
  (65, .iaload, 1, [], 0),
  (66, .iastore, 1, [], 0),
  (67, .iload_n 1, 1, [1], 0),
  (68, .aload_n 0, 1, [0], 0),
  (69, .getfield 138, 3, [12, 68, 7074], 0),
  (72, .iload_n 2, 1, [2], 0),
  (73, .iaload, 1, [], 0),
  (74, .ifCond .ge 14, 3, [51], 0),
  (77, .iconst 1, 1, [], 1),
  (78, .aload_n 0, 1, [0], 0),
  (79, .getfield 135, 3, [12, 67, 7073], 0),
  (82, .iload_n 2, 1, [2], 0),
  (83, .iaload, 1, [], 0),
  (84, .ishl, 1, [], 0),
  (85, .goto 4, 3, [52], 0),
  (88, .iconst 0, 1, [], 0),
  (89, .ior, 1, [], 0),
  (90, .istore_n 1, 1, [1], 0),
  (91, .iinc 2 1, 3, [2], 1),
  (94, .goto (-47), 3, [26], 0),
  (97, .iload_n 1, 1, [1], 0),
  (98, .ireturn, 1, [], 0)]
def cd_M_isRing : List Ent := [(0, .aload_n 0, 1, [0], 0),
  (1, .getfield 18, 3, [12, 3, 7009], 0),
  (4, .iconst 2, 1, [], 2),
  (5, .bipush 8, 2, [], 8),
  (7, .invokestatic 238, 3, [1, 187, 3, 8062, 8063, 1018], 0),
  (10, .ifCond .ne 5, 3, [8], 0),
  (13, .iconst 0, 1, [], 0),
  (14, .ireturn, 1, [], 0),
  (15, .aload_n 0, 1, [0], 0),
  (16, .aload_n 0, 1, [0], 0),
  (17, .getfield 18, 3, [12, 3, 7009], 0),
  (20, .putfield 474, 3, [12, 70, 7076], 0),
  (23, .iconst 0, 1, [], 0),
  (24, .istore_n 1, 1, [1], 0),
  (25, .iconst 0, 1, [], 0),
  (26, .istore_n 2, 1, [2], 0),
  (27, .iload_n 2, 1, [2], 0),
  (28, .aload_n 0, 1, [0], 0),
  (29, .getfield 18, 3, [12, 3, 7009], 0),
  (32, .if_icmp .ge 59, 3, [54], 0),
  (35, .aload_n 0, 1, [0], 0),
  (36, .getfield 135, 3, [12, 67, 7073], 0),
  (39, .iload_n 2, 1, [2], 0),
  (40, .aload_n 0, 1, [0], 0),
  (41, .iload_n 2, 1, [2], 0),
  (42, .invokevirtual 477, 3, [0, 256, 1, 12, 9099, 9101, 109, 1018], 0),
  (45, .iastore, 1, [], 0),
  (46, .aload_n 0, 1, [0], 0),
  (47, .aload_n 0, 1, [0], 0),
  (48, .getfield 135, 3, [12, 67, 7073], 0),
  (51, .iload_n 2, 1, [2], 0),
  (52, .iaload, 1, [], 0),
  (53, .invokevirtual 321, 3, [0, 206, 1, 12, 8137, 8139, 81, 1018], 0),
  (56, .ifCond .eq 16, 3, [41], 0),
  (59, .iload_n 1, 1, [1], 0),
  (60, .aload_n 0, 1, [0], 0),
  (61, .getfield 135, 3, [12, 67, 7073], 0),
  (64, .iload_n 2, 1, [2], 0),
  (65, .iaload, 1, [], 0),
  (66, .invokestatic 333, 3, [1, 211, 2, 8157, 8158, 1018], 0),
  (69, .ifCond .eq 5, 3, [43], 0),
  (72, .iconst 0, 1, [], 0),
  (73, .ireturn, 1, [], 0),
  (74, .iload_n 1, 1, [1], 0),
  (75, .iconst 1, 1, [], 1),
  (76, .aload_n 0, 1, [0], 0),
  (77, .getfield 135, 3, [12, 67, 7073], 0),
  (80, .iload_n 2, 1, [2], 0),
  (81, .iaload, 1, [], 0),
  (82, .ishl, 1, [], 0),
  (83, .ior, 1, [], 0),
  (84, .istore_n 1, 1, [1], 0),
  (85, .iinc 2 1, 3, [2], 1),
  (88, .goto (-61), 3, [16], 0),
  (91, .iconst 1, 1, [], 1),
  (92, .ireturn, 1, [], 0)]
def cd_M_octet : List Ent := [(0, .aload_n 0, 1, [0], 0),
  (1, .getfield 14, 3, [12, 1, 7007], 0),
  (4, .iload_n 1, 1, [1], 0),
  (5, .baload, 1, [], 0),
  (6, .sipush 255, 3, [], 255),
  (9, .iand, 1, [], 0),
  (10, .ireturn, 1, [], 0)]
def cd_M_goesRound : List Ent := [(0, .iconst 0, 1, [], 0),
  (1, .istore_n 1, 1, [1], 0),
  (2, .iload_n 1, 1, [1], 0),
  (3, .aload_n 0, 1, [0], 0),
  (4, .getfield 474, 3, [12, 70, 7076], 0),
  (7, .if_icmp .ge 46, 3, [32], 0),
  (10, .aload_n 0, 1, [0], 0),
  (11, .getfield 33, 3, [12, 6, 7012], 0),
  (14, .sipush 269, 3, [], 269),
  (17, .bipush 8, 2, [], 8),
  (19, .aload_n 0, 1, [0], 0),
  (20, .getfield 135, 3, [12, 67, 7073], 0),
  (23, .iload_n 1, 1, [1], 0),
  (24, .iaload, 1, [], 0),
  (25, .imul, 1, [], 0),
  (26, .iadd, 1, [], 0),
  (27, .aload_n 0, 1, [0], 0),
  (28, .getfield 135, 3, [12, 67, 7073], 0),
  (31, .iload_n 1, 1, [1], 0),
  (32, .iconst 1, 1, [], 1),
  (33, .iadd, 1, [], 0),
  (34, .aload_n 0, 1, [0], 0),
  (35, .getfield 474, 3, [12, 70, 7076], 0),
  (38, .irem, 1, [], 0),
  (39, .iaload, 1, [], 0),
  (40, .iadd, 1, [], 0),
  (41, .iaload, 1, [], 0),
  (42, .ifCond .ne 5, 3, [30], 0),
  (45, .iconst 0, 1, [], 0),
  (46, .ireturn, 1, [], 0),
  (47, .iinc 1 1, 3, [1], 1),
  (50, .goto (-48), 3, [2], 0),
  (53, .iconst 1, 1, [], 1),
  (54, .ireturn, 1, [], 0)]
def cd_M_gain0 : List Ent := [(0, .iconst 0, 1, [], 0),
  (1, .istore_n 1, 1, [1], 0),
  (2, .iload_n 1, 1, [1], 0),
  (3, .aload_n 0, 1, [0], 0),
  (4, .getfield 474, 3, [12, 70, 7076], 0),
  (7, .if_icmp .ge 16, 3, [13], 0),
  (10, .aload_n 0, 1, [0], 0),
  (11, .getfield 138, 3, [12, 68, 7074], 0),
  (14, .iload_n 1, 1, [1], 0),
  (15, .iconst 0, 1, [], 0),
  (16, .iastore, 1, [], 0),
  (17, .iinc 1 1, 3, [1], 1),
  (20, .goto (-18), 3, [2], 0),
  (23, .iconst 0, 1, [], 0),
  (24, .istore_n 1, 1, [1], 0),
  (25, .iload_n 1, 1, [1], 0),
  (26, .aload_n 0, 1, [0], 0),
  (27, .getfield 474, 3, [12, 70, 7076], 0),
  (30, .if_icmp .ge 236, 3, [164], 0),
  (33, .aload_n 0, 1, [0], 0),
  (34, .aload_n 0, 1, [0], 0),
  (35, .getfield 135, 3, [12, 67, 7073], 0),
  (38, .iload_n 1, 1, [1], 0),
  (39, .iaload, 1, [], 0),
  (40, .invokevirtual 480, 3, [0, 259, 1, 12, 9111, 9113, 112, 1018], 0),
  (43, .istore_n 2, 1, [2], 0),
  (44, .iload_n 2, 1, [2], 0),
  (45, .ifCond .lt 215, 3, [162], 0),
  (48, .aload_n 0, 1, [0], 0),
  (49, .iload_n 2, 1, [2], 0),
  (50, .iload_n 1, 1, [1], 0),
  (51, .invokevirtual 483, 3, [0, 260, 2, 12, 9115, 9117, 113, 1018], 0),
  (54, .ifCond .ne 6, 3, [34], 0),
  (57, .goto 203, 3, [162], 0),
  (60, .iconst 0, 1, [], 0),
  (61, .istore_n 3, 1, [3], 0),
  (62, .iload_n 3, 1, [3], 0),
  (63, .iconst 1, 1, [], 1),
  (64, .iadd, 1, [], 0),
  (65, .aload_n 0, 1, [0], 0),
  (66, .getfield 33, 3, [12, 6, 7012], 0),
  (69, .iconst 4, 1, [], 4),
  (70, .iaload, 1, [], 0),
  (71, .if_icmp .ge 66, 3, [86], 0),
  (74, .aload_n 0, 1, [0], 0),
  (75, .getfield 138, 3, [12, 68, 7074], 0),
  (78, .iload_n 1, 1, [1], 0),
  (79, .iload_n 3, 1, [3], 0),
  (80, .iadd, 1, [], 0),
  (81, .aload_n 0, 1, [0], 0),
  (82, .getfield 474, 3, [12, 70, 7076], 0),
  (85, .irem, 1, [], 0),
  (86, .dup2, 1, [], 0),
  (87, .iaload, 1, [], 0),
  (88, .aload_n 0, 1, [0], 0),
  (89, .getfield 33, 3, [12, 6, 7012], 0),
  (92, .sipush 141, 3, [], 141),
  (95, .bipush 8, 2, [], 8),
  (97, .aload_n 0, 1, [0], 0),
  (98, .getfield 135, 3, [12, 67, 7073], 0),
  (101, .iload_n 1, 1, [1], 0),
  (102, .iload_n 3, 1, [3], 0),
  (103, .iadd, 1, [], 0),
  (104, .aload_n 0, 1, [0], 0),
  (105, .getfield 474, 3, [12, 70, 7076], 0),
  (108, .irem, 1, [], 0),
  (109, .iaload, 1, [], 0),
  (110, .imul, 1, [], 0),
  (111, .iadd, 1, [], 0),
  (112, .aload_n 0, 1, [0], 0),
  (113, .getfield 135, 3, [12, 67, 7073], 0),
  (116, .iload_n 1, 1, [1], 0),
  (117, .iload_n 3, 1, [3], 0),
  (118, .iadd, 1, [], 0),
  (119, .iconst 1, 1, [], 1),
  (120, .iadd, 1, [], 0),
  (121, .aload_n 0, 1, [0], 0),
  (122, .getfield 474, 3, [12, 70, 7076], 0),
  (125, .irem, 1, [], 0),
  (126, .iaload, 1, [], 0),
  (127, .iadd, 1, [], 0),
  (128, .iaload, 1, [], 0),
  (129, .isub, 1, [], 0),
  (130, .iastore, 1, [], 0),
  (131, .iinc 3 1, 3, [3], 1),
  (134, .goto (-72), 3, [36], 0),
  (137, .iload_n 1, 1, [1], 0),
  (138, .aload_n 0, 1, [0], 0),
  (139, .getfield 33, 3, [12, 6, 7012], 0),
  (142, .iconst 4, 1, [], 4),
  (143, .iaload, 1, [], 0),
  (144, .iadd, 1, [], 0),
  (145, .iconst 1, 1, [], 1),
  (146, .isub, 1, [], 0),
  (147, .aload_n 0, 1, [0], 0),
  (148, .getfield 474, 3, [12, 70, 7076], 0),
  (151, .irem, 1, [], 0),
  (152, .istore_n 3, 1, [3], 0),
  (153, .iconst (-1), 1, [], (-1)),
  (154, .istore 4, 2, [4], 0),
  (156, .iconst 0, 1, [], 0),
  (157, .istore 5, 2, [5], 0),
  (159, .iload 5, 2, [5], 0),
  (161, .aload_n 0, 1, [0], 0),
  (162, .getfield 33, 3, [12, 6, 7012], 0),
  (165, .iconst 3, 1, [], 3),
  (166, .iaload, 1, [], 0),
  (167, .if_icmp .ge 73, 3, [150], 0),
  (170, .iload 4, 2, [4], 0),
  (172, .ifCond .ge 68, 3, [150], 0),
  (175, .aload_n 0, 1, [0], 0),
  (176, .getfield 33, 3, [12, 6, 7012], 0),
  (179, .bipush 109, 2, [], 109),
  (181, .iconst 4, 1, [], 4),
  (182, .iload 5, 2, [5], 0),
  (184, .imul, 1, [], 0),
  (185, .iadd, 1, [], 0),
  (186, .iaload, 1, [], 0),
  (187, .aload_n 0, 1, [0], 0),
  (188, .getfield 135, 3, [12, 67, 7073], 0),
  (191, .iload_n 3, 1, [3], 0),
  (192, .iaload, 1, [], 0),
  (193, .if_icmp .ne 41, 3, [148], 0),
  (196, .aload_n 0, 1, [0], 0),
  (197, .getfield 33, 3, [12, 6, 7012], 0),
  (200, .bipush 109, 2, [], 109),
  (202, .iconst 4, 1, [], 4),
  (203, .iload 5, 2, [5], 0),
  (205, .imul, 1, [], 0),
  (206, .iadd, 1, [], 0),
  (207, .iconst 1, 1, [], 1),
  (208, .iadd, 1, [], 0),
  (209, .iaload, 1, [], 0),
  (210, .aload_n 0, 1, [0], 0),
  (211, .iload_n 2, 1, [2], 0),
  (212, .invokevirtual 304, 3, [0, 202, 1, 12, 8121, 8123, 79, 1018], 0),
  (215, .if_icmp .ne 19, 3, [148], 0),
  (218, .aload_n 0, 1, [0], 0),
  (219, .getfield 33, 3, [12, 6, 7012], 0),
  (222, .bipush 109, 2, [], 109),
  (224, .iconst 4, 1, [], 4),
  (225, .iload 5, 2, [5], 0),
  (227, .imul, 1, [], 0),
  (228, .iadd, 1, [], 0),
  (229, .iconst 2, 1, [], 2),
  (230, .iadd, 1, [], 0),
  (231, .iaload, 1, [], 0),
  (232, .istore 4, 2, [4], 0),
  (234, .iinc 5 1, 3, [5], 1),
  (237, .goto (-78), 3, [102], 0),
  (240, .aload_n 0, 1, [0], 0),
  (241, .getfield 138, 3, [12, 68, 7074], 0),
  (244, .iload_n 3, 1, [3], 0),
  (245, .dup2, 1, [], 0),
  (246, .iaload, 1, [], 0),
  (247, .iload 4, 2, [4], 0),
  (249, .ifCond .ge 7, 3, [159], 0),
  (252, .iconst 0, 1, [], 0),
  (253, .goto 5, 3, [160], 0),
  (256, .iload 4, 2, [4], 0),
  (258, .iadd, 1, [], 0),
  (259, .iastore, 1, [], 0),
  (260, .iinc 1 1, 3, [1], 1),
  (263, .goto (-238), 3, [15], 0),
  (266, .return_, 1, [], 0)]
def cd_M_unitBy : List Ent := [(0, .iconst 0, 1, [], 0),
  (1, .istore_n 2, 1, [2], 0),
  (2, .iload_n 2, 1, [2], 0),
  (3, .aload_n 0, 1, [0], 0),
  (4, .getfield 33, 3, [12, 6, 7012], 0),
  (7, .iconst 2, 1, [], 2),
  (8, .iaload, 1, [], 0),
  (9, .if_icmp .ge 28, 3, [24], 0),
  (12, .aload_n 0, 1, [0], 0),
  (13, .getfield 33, 3, [12, 6, 7012], 0),
  (16, .bipush 29, 2, [], 29),
  (18, .iconst 5, 1, [], 5),
  (19, .iload_n 2, 1, [2], 0),
  (20, .imul, 1, [], 0),
  (21, .iadd, 1, [], 0),
  (22, .iconst 2, 1, [], 2),
  (23, .iadd, 1, [], 0),
  (24, .iaload, 1, [], 0),
  (25, .iload_n 1, 1, [1], 0),
  (26, .if_icmp .ne 5, 3, [22], 0),
  (29, .iload_n 2, 1, [2], 0),
  (30, .ireturn, 1, [], 0),
  (31, .iinc 2 1, 3, [2], 1),
  (34, .goto (-32), 3, [2], 0),
  (37, .iconst (-1), 1, [], (-1)),
  (38, .ireturn, 1, [], 0)]
def cd_M_goesOn : List Ent := [(0, .iconst 1, 1, [], 1),
  (1, .aload_n 0, 1, [0], 0),
  (2, .getfield 135, 3, [12, 67, 7073], 0),
  (5, .iload_n 2, 1, [2], 0),
  (6, .iaload, 1, [], 0),
  (7, .ishl, 1, [], 0),
  (8, .istore_n 3, 1, [3], 0),
  (9, .iconst 1, 1, [], 1),
  (10, .aload_n 0, 1, [0], 0),
  (11, .getfield 33, 3, [12, 6, 7012], 0),
  (14, .bipush 7, 2, [], 7),
  (16, .aload_n 0, 1, [0], 0),
  (17, .getfield 135, 3, [12, 67, 7073], 0),
  (20, .iload_n 2, 1, [2], 0),
  (21, .iaload, 1, [], 0),
  (22, .iadd, 1, [], 0),
  (23, .iaload, 1, [], 0),
  (24, .ishl, 1, [], 0),
  (25, .istore 4, 2, [4], 0),
  (27, .iconst 1, 1, [], 1),
  (28, .istore 5, 2, [5], 0),
  (30, .iload 5, 2, [5], 0),
  (32, .aload_n 0, 1, [0], 0),
  (33, .getfield 33, 3, [12, 6, 7012], 0),
  (36, .iconst 4, 1, [], 4),
  (37, .iaload, 1, [], 0),
  (38, .if_icmp .ge 141, 3, [107], 0),
  (41, .aload_n 0, 1, [0], 0),
  (42, .getfield 135, 3, [12, 67, 7073], 0),
  (45, .iload_n 2, 1, [2], 0),
  (46, .iload 5, 2, [5], 0),
  (48, .iadd, 1, [], 0),
  (49, .aload_n 0, 1, [0], 0),
  (50, .getfield 474, 3, [12, 70, 7076], 0),
  (53, .irem, 1, [], 0),
  (54, .iaload, 1, [], 0),
  (55, .istore 6, 2, [6], 0),
  (57, .aload_n 0, 1, [0], 0),
  (58, .getfield 33, 3, [12, 6, 7012], 0),
  (61, .iconst 5, 1, [], 5),
  (62, .iaload, 1, [], 0),
  (63, .iconst 1, 1, [], 1),
  (64, .if_icmp .ne 24, 3, [54], 0),
  (67, .iload_n 3, 1, [3], 0),
  (68, .iload 6, 2, [6], 0),
  (70, .invokestatic 333, 3, [1, 211, 2, 8157, 8158, 1018], 0),
  (73, .ifCond .eq 15, 3, [54], 0),
  (76, .aload_n 0, 1, [0], 0),
  (77, .iload_n 1, 1, [1], 0),
  (78, .iload 6, 2, [6], 0),
  (80, .invokevirtual 336, 3, [0, 217, 2, 12, 8181, 8183, 90, 1018], 0),
  (83, .ifCond .ne 5, 3, [54], 0),
  (86, .iconst 0, 1, [], 0),
  (87, .ireturn, 1, [], 0),
  (88, .aload_n 0, 1, [0], 0),
  (89, .getfield 33, 3, [12, 6, 7012], 0),
  (92, .iconst 5, 1, [], 5),
  (93, .iaload, 1, [], 0),
  (94, .iconst 2, 1, [], 2),
  (95, .if_icmp .ne 24, 3, [71], 0),
  (98, .iload_n 3, 1, [3], 0),
  (99, .iload 6, 2, [6], 0),
  (101, .invokestatic 333, 3, [1, 211, 2, 8157, 8158, 1018], 0),
  (104, .ifCond .ne 13, 3, [69], 0),
  (107, .aload_n 0, 1, [0], 0),
  (108, .iload_n 1, 1, [1], 0),
  (109, .iload 6, 2, [6], 0),
  (111, .invokevirtual 336, 3, [0, 217, 2, 12, 8181, 8183, 90, 1018], 0),
  (114, .ifCond .eq 5, 3, [71], 0),
  (117, .iconst 0, 1, [], 0),
  (118, .ireturn, 1, [], 0),
  (119, .aload_n 0, 1, [0], 0),
  (120, .getfield 33, 3, [12, 6, 7012], 0),
  (123, .iconst 5, 1, [], 5),
  (124, .iaload, 1, [], 0),
  (125, .iconst 3, 1, [], 3),
  (126, .if_icmp .ne 23, 3, [88], 0),
  (129, .iload 4, 2, [4], 0),
  (131, .aload_n 0, 1, [0], 0),
  (132, .getfield 33, 3, [12, 6, 7012], 0),
  (135, .bipush 7, 2, [], 7),
  (137, .iload 6, 2, [6], 0),
  (139, .iadd, 1, [], 0),
  (140, .iaload, 1, [], 0),
  (141, .invokestatic 333, 3, [1, 211, 2, 8157, 8158, 1018], 0),
  (144, .ifCond .eq 5, 3, [88], 0),
  (147, .iconst 0, 1, [], 0),
  (148, .ireturn, 1, [], 0),
  (149, .iload_n 3, 1, [3], 0),
  (150, .iconst 1, 1, [], 1),
  (151, .iload 6, 2, [6], 0),
  (153, .ishl, 1, [], 0),
  (154, .ior, 1, [], 0),
  (155, .istore_n 3, 1, [3], 0),
  (156, .iload 4, 2, [4], 0),
  (158, .iconst 1, 1, [], 1),
  (159, .aload_n 0, 1, [0], 0),
  (160, .getfield 33, 3, [12, 6, 7012], 0),
  (163, .bipush 7, 2, [], 7),
  (165, .iload 6, 2, [6], 0),
  (167, .iadd, 1, [], 0),
  (168, .iaload, 1, [], 0),
  (169, .ishl, 1, [], 0),
  (170, .ior, 1, [], 0),
  (171, .istore 4, 2, [4], 0),
  (173, .iinc 5 1, 3, [5], 1),
  (176, .goto (-146), 3, [21], 0),
  (179, .iconst 1, 1, [], 1),
  (180, .ireturn, 1, [], 0)]
def cd_M_gain1 : List Ent := [(0, .aload_n 0, 1, [0], 0),
  (1, .iload_n 1, 1, [1], 0),
  (2, .iconst 0, 1, [], 0),
  (3, .aload_n 0, 1, [0], 0),
  (4, .getfield 495, 3, [12, 71, 7077], 0),
  (7, .iconst 1, 1, [], 1),
  (8, .isub, 1, [], 0),
  (9, .invokestatic 238, 3, [1, 187, 3, 8062, 8063, 1018], 0),
  (12, .ifCond .ne 7, 3, [11], 0),
  (15, .iconst 1, 1, [], 1),
  (16, .goto 4, 3, [12], 0),
  (19, .iconst 0, 1, [], 0),
  (20, .invokevirtual 311, 3, [0, 200, 1, 12, 8113, 8115, 77, 1018], 0),
  (23, .ifCond .eq 7, 3, [16], 0),
  (26, .iconst 0, 1, [], 0),
  (27, .goto 9, 3, [20], 0),
  (30, .aload_n 0, 1, [0], 0),
  (31, .getfield 141, 3, [12, 69, 7075], 0),
  (34, .iload_n 1, 1, [1], 0),
  (35, .iaload, 1, [], 0),
  (36, .ireturn, 1, [], 0)]
def cd_M_lasts : List Ent := [(0, .aload_n 0, 1, [0], 0),
  (1, .iconst 0, 1, [], 0),
  (2, .putfield 1, 3, [12, 0, 7006], 0),
  (5, .aload_n 0, 1, [0], 0),
  (6, .sipush 1040, 3, [], 1040),
  (9, .invokevirtual 295, 3, [0, 174, 1, 12, 8012, 8014, 56, 1018], 0),
  (12, .aload_n 0, 1, [0], 0),
  (13, .invokevirtual 486, 3, [0, 255, 0, 12, 9095, 9097, 108, 1018], 0),
  (16, .ifCond .ne 6, 3, [11], 0),
  (19, .bipush (-2), 2, [], (-2)),
  (21, .ireturn, 1, [], 0),
  (22, .aload_n 0, 1, [0], 0),
  (23, .getfield 474, 3, [12, 70, 7076], 0),
  (26, .iconst 1, 1, [], 1),
  (27, .if_icmp .le 90, 3, [66], 0),
  (30, .aload_n 0, 1, [0], 0),
  (31, .invokevirtual 489, 3, [0, 257, 0, 12, 9103, 9105, 110, 1018], 0),
  (34, .ifCond .eq 83, 3, [66], 0),
  (37, .aload_n 0, 1, [0], 0),
  (38, .invokevirtual 492, 3, [0, 258, 0, 12, 9107, 9109, 111, 1018], 0),
  (41, .iconst 0, 1, [], 0),
  (42, .istore_n 1, 1, [1], 0),
  (43, .iconst 0, 1, [], 0),
  (44, .istore_n 2, 1, [2], 0),
  (45, .iconst 0, 1, [], 0),
  (46, .istore_n 3, 1, [3], 0),
  (47, .iload_n 3, 1, [3], 0),
  (48, .aload_n 0, 1, [0], 0),
  (49, .getfield 474, 3, [12, 70, 7076], 0),
  (52, .if_icmp .ge 47, 3, [56], 0),
  (55, .aload_n 0, 1, [0], 0),
  (56, .getfield 138, 3, [12, 68, 7074], 0),
  (59, .iload_n 3, 1, [3], 0),
  (60, .iaload, 1, [], 0),
  (61, .ifCond .ge 6, 3, [36], 0),
  (64, .goto 29, 3, [54], 0),
  (67, .aload_n 0, 1, [0], 0),
  (68, .getfield 135, 3, [12, 67, 7073], 0),
  (71, .iload_n 1, 1, [1], 0),
  (72, .aload_n 0, 1, [0], 0),
  (73, .getfield 135, 3, [12, 67, 7073], 0),
  (76, .iload_n 3, 1, [3], 0),
  (77, .iaload, 1, [], 0),
  (78, .iastore, 1, [], 0),
  (79, .iload_n 2, 1, [2], 0),
  (80, .iconst 1, 1, [], 1),
  (81, .aload_n 0, 1, [0], 0),
  (82, .getfield 135, 3, [12, 67, 7073], 0),
  (85, .iload_n 3, 1, [3], 0),
  (86, .iaload, 1, [], 0),
  (87, .ishl, 1, [], 0),
  (88, .ior, 1, [], 0),
  (89, .istore_n 2, 1, [2], 0),
  (90, .iinc 1 1, 3, [1], 1),
  (93, .iinc 3 1, 3, [3], 1),
  (96, .goto (-49), 3, [26], 0),
  (99, .iload_n 1, 1, [1], 0),
  (100, .aload_n 0, 1, [0], 0),
  (101, .getfield 474, 3, [12, 70, 7076], 0),
  (104, .if_icmp .ne 5, 3, [62], 0),
  (107, .iload_n 2, 1, [2], 0),
  (108, .ireturn, 1, [], 0),
  (109, .aload_n 0, 1, [0], 0),
  (110, .iload_n 1, 1, [1], 0),
  (111, .putfield 474, 3, [12, 70, 7076], 0),
  (114, .goto (-92), 3, [11], 0),
  (117, .iconst (-1), 1, [], (-1)),
  (118, .ireturn, 1, [], 0)]
def cd_M_quarrel : List Ent := [(0, .aload_n 0, 1, [0], 0),
  (1, .iconst 0, 1, [], 0),
  (2, .putfield 1, 3, [12, 0, 7006], 0),
  (5, .iload_n 1, 1, [1], 0),
  (6, .iload_n 2, 1, [2], 0),
  (7, .if_icmp .eq 19, 3, [14], 0),
  (10, .aload_n 0, 1, [0], 0),
  (11, .iload_n 1, 1, [1], 0),
  (12, .invokevirtual 321, 3, [0, 206, 1, 12, 8137, 8139, 81, 1018], 0),
  (15, .ifCond .eq 11, 3, [14], 0),
  (18, .aload_n 0, 1, [0], 0),
  (19, .iload_n 2, 1, [2], 0),
  (20, .invokevirtual 321, 3, [0, 206, 1, 12, 8137, 8139, 81, 1018], 0),
  (23, .ifCond .ne 5, 3, [16], 0),
  (26, .iconst (-1), 1, [], (-1)),
  (27, .ireturn, 1, [], 0),
  (28, .aload_n 0, 1, [0], 0),
  (29, .invokevirtual 374, 3, [0, 208, 0, 12, 8145, 8147, 82, 1018], 0),
  (32, .aload_n 0, 1, [0], 0),
  (33, .getfield 50, 3, [12, 21, 7027], 0),
  (36, .bipush 8, 2, [], 8),
  (38, .iload_n 1, 1, [1], 0),
  (39, .imul, 1, [], 0),
  (40, .iload_n 2, 1, [2], 0),
  (41, .iadd, 1, [], 0),
  (42, .iconst 0, 1, [], 0),
  (43, .iastore, 1, [], 0),
  (44, .aload_n 0, 1, [0], 0),
  (45, .getfield 50, 3, [12, 21, 7027], 0),
  (48, .bipush 8, 2, [], 8),
  (50, .iload_n 2, 1, [2], 0),
  (51, .imul, 1, [], 0),
  (52, .iload_n 1, 1, [1], 0),
  (53, .iadd, 1, [], 0),
  (54, .iconst 0, 1, [], 0),
  (55, .iastore, 1, [], 0),
  (56, .aload_n 0, 1, [0], 0),
  (57, .invokevirtual 377, 3, [0, 209, 0, 12, 8149, 8151, 83, 1018], 0),
  (60, .aload_n 0, 1, [0], 0),
  (61, .invokevirtual 416, 3, [0, 228, 0, 12, 8224, 8226, 96, 1018], 0),
  (64, .aload_n 0, 1, [0], 0),
  (65, .iconst 0, 1, [], 0),
  (66, .putfield 144, 3, [12, 72, 7078], 0),
  (69, .iconst 0, 1, [], 0),
  (70, .istore_n 3, 1, [3], 0),
  (71, .iload_n 3, 1, [3], 0),
  (72, .aload_n 0, 1, [0], 0),
  (73, .getfield 33, 3, [12, 6, 7012], 0),
  (76, .iconst 3, 1, [], 3),
  (77, .iaload, 1, [], 0),
  (78, .if_icmp .ge 34, 3, [68], 0),
  (81, .aload_n 0, 1, [0], 0),
  (82, .dup, 1, [], 0),
  (83, .getfield 144, 3, [12, 72, 7078], 0),
  (86, .aload_n 0, 1, [0], 0),
  (87, .getfield 99, 3, [12, 45, 7051], 0),
  (90, .iload_n 3, 1, [3], 0),
  (91, .iaload, 1, [], 0),
  (92, .ifCond .ge 9, 3, [63], 0),
  (95, .iconst 1, 1, [], 1),
  (96, .iload_n 3, 1, [3], 0),
  (97, .ishl, 1, [], 0),
  (98, .goto 4, 3, [64], 0),
  (101, .iconst 0, 1, [], 0),
  (102, .ior, 1, [], 0),
  (103, .putfield 144, 3, [12, 72, 7078], 0),
  (106, .iinc 3 1, 3, [3], 1),
  (109, .goto (-38), 3, [45], 0),
  (112, .aload_n 0, 1, [0], 0),
  (113, .invokevirtual 395, 3, [0, 223, 0, 12, 8205, 8207, 94, 1018], 0),
  (116, .ireturn, 1, [], 0)]
def cd_M_starves : List Ent := [(0, .aload_n 0, 1, [0], 0),
  (1, .iconst 0, 1, [], 0),
  (2, .putfield 1, 3, [12, 0, 7006], 0),
  (5, .aload_n 0, 1, [0], 0),
  (6, .getfield 144, 3, [12, 72, 7078], 0),
  (9, .ireturn, 1, [], 0)]
def cd_M_mend : List Ent := [(0, .aload_n 0, 1, [0], 0),
  (1, .iconst 0, 1, [], 0),
  (2, .putfield 1, 3, [12, 0, 7006], 0),
  (5, .aload_n 0, 1, [0], 0),
  (6, .invokevirtual 374, 3, [0, 208, 0, 12, 8145, 8147, 82, 1018], 0),
  (9, .aload_n 0, 1, [0], 0),
  (10, .invokevirtual 377, 3, [0, 209, 0, 12, 8149, 8151, 83, 1018], 0),
  (13, .aload_n 0, 1, [0], 0),
  (14, .invokevirtual 395, 3, [0, 223, 0, 12, 8205, 8207, 94, 1018], 0),
  (17, .istore_n 1, 1, [1], 0),
  (18, .iconst (-1), 1, [], (-1)),
  (19, .istore_n 2, 1, [2], 0),
  (20, .iconst 0, 1, [], 0),
  (21, .istore_n 3, 1, [3], 0),
  (22, .iload_n 3, 1, [3], 0),
  (23, .aload_n 0, 1, [0], 0),
  (24, .getfield 33, 3, [12, 6, 7012], 0),
  (27, .iconst 0, 1, [], 0),
  (28, .iaload, 1, [], 0),
  (29, .if_icmp .ge 140, 3, [101], 0),
  (32, .iconst 0, 1, [], 0),
  (33, .istore 4, 2, [4], 0),
  (35, .iload 4, 2, [4], 0),
  (37, .aload_n 0, 1, [0], 0),
  (38, .getfield 33, 3, [12, 6, 7012], 0),
  (41, .iconst 0, 1, [], 0),
  (42, .iaload, 1, [], 0),
  (43, .if_icmp .ge 120, 3, [99], 0),
  (46, .iload_n 3, 1, [3], 0),
  (47, .iload 4, 2, [4], 0),
  (49, .if_icmp .eq 108, 3, [97], 0),
  (52, .aload_n 0, 1, [0], 0),
  (53, .getfield 33, 3, [12, 6, 7012], 0),
  (56, .sipush 269, 3, [], 269),
  (59, .bipush 8, 2, [], 8),
  (61, .iload_n 3, 1, [3], 0),
  (62, .imul, 1, [], 0),
  (63, .iadd, 1, [], 0),
  (64, .iload 4, 2, [4], 0),
  (66, .iadd, 1, [], 0),
  (67, .iaload, 1, [], 0),
  (68, .iconst 1, 1, [], 1),
  (69, .if_icmp .ne 6, 3, [44], 0),
  (72, .goto 85, 3, [97], 0),
  (75, .aload_n 0, 1, [0], 0),
  (76, .getfield 50, 3, [12, 21, 7027], 0),
  (79, .bipush 8, 2, [], 8),
  (81, .iload_n 3, 1, [3], 0),
  (82, .imul, 1, [], 0),
  (83, .iload 4, 2, [4], 0),
  (85, .iadd, 1, [], 0),
  (86, .iconst 1, 1, [], 1),
  (87, .iastore, 1, [], 0),
  (88, .aload_n 0, 1, [0], 0),
  (89, .getfield 53, 3, [12, 22, 7028], 0),
  (92, .bipush 8, 2, [], 8),
  (94, .iload_n 3, 1, [3], 0),
  (95, .imul, 1, [], 0),
  (96, .iload 4, 2, [4], 0),
  (98, .iadd, 1, [], 0),
  (99, .iconst 0, 1, [], 0),
  (100, .iastore, 1, [], 0),
  (101, .aload_n 0, 1, [0], 0),
  (102, .getfield 56, 3, [12, 23, 7029], 0),
  (105, .bipush 8, 2, [], 8),
  (107, .iload_n 3, 1, [3], 0),
  (108, .imul, 1, [], 0),
  (109, .iload 4, 2, [4], 0),
  (111, .iadd, 1, [], 0),
  (112, .iconst 1, 1, [], 1),
  (113, .iastore, 1, [], 0),
  (114, .aload_n 0, 1, [0], 0),
  (115, .invokevirtual 377, 3, [0, 209, 0, 12, 8149, 8151, 83, 1018], 0),
  (118, .aload_n 0, 1, [0], 0),
  (119, .invokevirtual 395, 3, [0, 223, 0, 12, 8205, 8207, 94, 1018], 0),
  (122, .istore 5, 2, [5], 0),
  (124, .aload_n 0, 1, [0], 0),
  (125, .getfield 50, 3, [12, 21, 7027], 0),
  (128, .bipush 8, 2, [], 8),
  (130, .iload_n 3, 1, [3], 0),
  (131, .imul, 1, [], 0),
  (132, .iload 4, 2, [4], 0),
  (134, .iadd, 1, [], 0),
  (135, .iconst 0, 1, [], 0),
  (136, .iastore, 1, [], 0),
  (137, .iload 5, 2, [5], 0),
  (139, .iload_n 1, 1, [1], 0),
  (140, .if_icmp .gt 6, 3, [89], 0),
  (143, .goto 14, 3, [97], 0),
  (146, .iload 5, 2, [5], 0),
  (148, .istore_n 1, 1, [1], 0),
  (149, .bipush 10, 2, [], 10),
  (151, .iload_n 3, 1, [3], 0),
  (152, .imul, 1, [], 0),
  (153, .iload 4, 2, [4], 0),
  (155, .iadd, 1, [], 0),
  (156, .istore_n 2, 1, [2], 0),
  (157, .iinc 4 1, 3, [4], 1),
  (160, .goto (-125), 3, [22], 0),
  (163, .iinc 3 1, 3, [3], 1),
  (166, .goto (-144), 3, [14], 0),
  (169, .iload_n 2, 1, [2], 0),
  (170, .ireturn, 1, [], 0)]
def cd_M_live : List Ent := [(0, .aload_n 0, 1, [0], 0),
  (1, .iconst 0, 1, [], 0),
  (2, .putfield 1, 3, [12, 0, 7006], 0),
  (5, .iconst 0, 1, [], 0),
  (6, .istore_n 1, 1, [1], 0),
  (7, .iconst 1, 1, [], 1),
  (8, .istore_n 2, 1, [2], 0),
  (9, .iload_n 2, 1, [2], 0),
  (10, .iconst 1, 1, [], 1),
  (11, .aload_n 0, 1, [0], 0),
  (12, .getfield 33, 3, [12, 6, 7012], 0),
  (15, .iconst 0, 1, [], 0),
  (16, .iaload, 1, [], 0),
  (17, .ishl, 1, [], 0),
  (18, .if_icmp .ge 114, 3, [75], 0),
  (21, .iload_n 1, 1, [1], 0),
  (22, .ifCond .le 17, 3, [23], 0),
  (25, .iload_n 2, 1, [2], 0),
  (26, .invokestatic 392, 3, [1, 225, 1, 8213, 8214, 1018], 0),
  (29, .iload_n 1, 1, [1], 0),
  (30, .invokestatic 392, 3, [1, 225, 1, 8213, 8214, 1018], 0),
  (33, .if_icmp .lt 6, 3, [23], 0),
  (36, .goto 90, 3, [73], 0),
  (39, .iconst 0, 1, [], 0),
  (40, .istore_n 3, 1, [3], 0),
  (41, .iconst 0, 1, [], 0),
  (42, .istore 4, 2, [4], 0),
  (44, .iload 4, 2, [4], 0),
  (46, .aload_n 0, 1, [0], 0),
  (47, .getfield 33, 3, [12, 6, 7012], 0),
  (50, .iconst 3, 1, [], 3),
  (51, .iaload, 1, [], 0),
  (52, .if_icmp .ge 39, 3, [54], 0),
  (55, .iload_n 3, 1, [3], 0),
  (56, .iload_n 2, 1, [2], 0),
  (57, .aload_n 0, 1, [0], 0),
  (58, .getfield 33, 3, [12, 6, 7012], 0),
  (61, .bipush 109, 2, [], 109),
  (63, .iconst 4, 1, [], 4),
  (64, .iload 4, 2, [4], 0),
  (66, .imul, 1, [], 0),
  (67, .iadd, 1, [], 0),
  (68, .iaload, 1, [], 0),
  (69, .invokestatic 333, 3, [1, 211, 2, 8157, 8158, 1018], 0),
  (72, .ifCond .eq 10, 3, [49], 0),
  (75, .iconst 1, 1, [], 1),
  (76, .iload 4, 2, [4], 0),
  (78, .ishl, 1, [], 0),
  (79, .goto 4, 3, [50], 0),
  (82, .iconst 0, 1, [], 0),
  (83, .ior, 1, [], 0),
  (84, .istore_n 3, 1, [3], 0),
  (85, .iinc 4 1, 3, [4], 1),
  (88, .goto (-44), 3, [27], 0),
  (91, .iload_n 3, 1, [3], 0),
  (92, .ifCond .ne 6, 3, [57], 0),
  (95, .goto 31, 3, [73], 0),
  (98, .aload_n 0, 1, [0], 0),
  (99, .invokevirtual 374, 3, [0, 208, 0, 12, 8145, 8147, 82, 1018], 0),
  (102, .aload_n 0, 1, [0], 0),
  (103, .iload_n 2, 1, [2], 0),
  (104, .putfield 330, 3, [12, 27, 7033], 0),
  (107, .aload_n 0, 1, [0], 0),
  (108, .invokevirtual 377, 3, [0, 209, 0, 12, 8149, 8151, 83, 1018], 0),
  (111, .aload_n 0, 1, [0], 0),
  (112, .invokevirtual 389, 3, [0, 224, 0, 12, 8209, 8211, 95, 1018], 0),
  (115, .aload_n 0, 1, [0], 0),
  (116, .getfield 92, 3, [12, 43, 7049], 0),
  (119, .iload_n 3, 1, [3], 0),
  (120, .baload, 1, [], 0),
  (121, .ifCond .eq 5, 3, [73], 0),
  (124, .iload_n 2, 1, [2], 0),
  (125, .istore_n 1, 1, [1], 0),
  (126, .iinc 2 1, 3, [2], 1),
  (129, .goto (-120), 3, [7], 0),
  (132, .iload_n 1, 1, [1], 0),
  (133, .ireturn, 1, [], 0)]
def cd_M_stop : List Ent := [(0, .aload_n 0, 1, [0], 0),
  (1, .iconst 0, 1, [], 0),
  (2, .putfield 1, 3, [12, 0, 7006], 0),
  (5, .iconst (-1), 1, [], (-1)),
  (6, .istore_n 1, 1, [1], 0),
  (7, .iconst 0, 1, [], 0),
  (8, .istore_n 2, 1, [2], 0),
  (9, .iload_n 2, 1, [2], 0),
  (10, .iconst 1, 1, [], 1),
  (11, .aload_n 0, 1, [0], 0),
  (12, .getfield 33, 3, [12, 6, 7012], 0),
  (15, .iconst 0, 1, [], 0),
  (16, .iaload, 1, [], 0),
  (17, .ishl, 1, [], 0),
  (18, .if_icmp .ge 76, 3, [52], 0),
  (21, .iload_n 1, 1, [1], 0),
  (22, .ifCond .lt 17, 3, [23], 0),
  (25, .iload_n 2, 1, [2], 0),
  (26, .invokestatic 392, 3, [1, 225, 1, 8213, 8214, 1018], 0),
  (29, .iload_n 1, 1, [1], 0),
  (30, .invokestatic 392, 3, [1, 225, 1, 8213, 8214, 1018], 0),
  (33, .if_icmp .lt 6, 3, [23], 0),
  (36, .goto 52, 3, [50], 0),
  (39, .aload_n 0, 1, [0], 0),
  (40, .invokevirtual 374, 3, [0, 208, 0, 12, 8145, 8147, 82, 1018], 0),
  (43, .iconst 0, 1, [], 0),
  (44, .istore_n 3, 1, [3], 0),
  (45, .iload_n 3, 1, [3], 0),
  (46, .bipush 64, 2, [], 64),
  (48, .if_icmp .ge 27, 3, [43], 0),
  (51, .iload_n 2, 1, [2], 0),
  (52, .iload_n 3, 1, [3], 0),
  (53, .bipush 8, 2, [], 8),
  (55, .idiv, 1, [], 0),
  (56, .invokestatic 333, 3, [1, 211, 2, 8157, 8158, 1018], 0),
  (59, .ifCond .eq 10, 3, [41], 0),
  (62, .aload_n 0, 1, [0], 0),
  (63, .getfield 50, 3, [12, 21, 7027], 0),
  (66, .iload_n 3, 1, [3], 0),
  (67, .iconst 0, 1, [], 0),
  (68, .iastore, 1, [], 0),
  (69, .iinc 3 1, 3, [3], 1),
  (72, .goto (-27), 3, [27], 0),
  (75, .aload_n 0, 1, [0], 0),
  (76, .invokevirtual 377, 3, [0, 209, 0, 12, 8149, 8151, 83, 1018], 0),
  (79, .aload_n 0, 1, [0], 0),
  (80, .invokevirtual 395, 3, [0, 223, 0, 12, 8205, 8207, 94, 1018], 0),
  (83, .ifCond .ne 5, 3, [50], 0),
  (86, .iload_n 2, 1, [2], 0),
  (87, .istore_n 1, 1, [1], 0),
  (88, .iinc 2 1, 3, [2], 1),
  (91, .goto (-82), 3, [7], 0),
  (94, .iload_n 1, 1, [1], 0),
  (95, .ireturn, 1, [], 0)]
def cd_M_other : List Ent := [(0, .aload_n 0, 1, [0], 0),
  (1, .iconst 0, 1, [], 0),
  (2, .putfield 1, 3, [12, 0, 7006], 0),
  (5, .iload_n 1, 1, [1], 0),
  (6, .iconst 2, 1, [], 2),
  (7, .bipush 6, 2, [], 6),
  (9, .invokestatic 238, 3, [1, 187, 3, 8062, 8063, 1018], 0),
  (12, .ifCond .eq 21, 3, [18], 0),
  (15, .iload_n 2, 1, [2], 0),
  (16, .iconst 0, 1, [], 0),
  (17, .iconst 3, 1, [], 3),
  (18, .invokestatic 238, 3, [1, 187, 3, 8062, 8063, 1018], 0),
  (21, .ifCond .eq 12, 3, [18], 0),
  (24, .iload_n 3, 1, [3], 0),
  (25, .iconst 0, 1, [], 0),
  (26, .iconst 2, 1, [], 2),
  (27, .invokestatic 238, 3, [1, 187, 3, 8062, 8063, 1018], 0),
  (30, .ifCond .ne 5, 3, [20], 0),
  (33, .iconst (-1), 1, [], (-1)),
  (34, .ireturn, 1, [], 0),
  (35, .aload_n 0, 1, [0], 0),
  (36, .invokevirtual 374, 3, [0, 208, 0, 12, 8145, 8147, 82, 1018], 0),
  (39, .aload_n 0, 1, [0], 0),
  (40, .iload_n 1, 1, [1], 0),
  (41, .putfield 324, 3, [12, 25, 7031], 0),
  (44, .aload_n 0, 1, [0], 0),
  (45, .iload_n 2, 1, [2], 0),
  (46, .putfield 327, 3, [12, 26, 7032], 0),
  (49, .aload_n 0, 1, [0], 0),
  (50, .invokevirtual 377, 3, [0, 209, 0, 12, 8149, 8151, 83, 1018], 0),
  (53, .iload_n 3, 1, [3], 0),
  (54, .ifCond .ne 8, 3, [35], 0),
  (57, .aload_n 0, 1, [0], 0),
  (58, .invokevirtual 395, 3, [0, 223, 0, 12, 8205, 8207, 94, 1018], 0),
  (61, .ireturn, 1, [], 0),
  (62, .aload_n 0, 1, [0], 0),
  (63, .invokevirtual 416, 3, [0, 228, 0, 12, 8224, 8226, 96, 1018], 0),
  (66, .iload_n 3, 1, [3], 0),
  (67, .iconst 1, 1, [], 1),
  (68, .if_icmp .ne 10, 3, [43], 0),
  (71, .aload_n 0, 1, [0], 0),
  (72, .getfield 407, 3, [12, 47, 7053], 0),
  (75, .goto 7, 3, [45], 0),
  (78, .aload_n 0, 1, [0], 0),
  (79, .getfield 413, 3, [12, 49, 7055], 0),
  (82, .ireturn, 1, [], 0)]
def cd_M_note : List Ent := [(0, .aload_n 0, 1, [0], 0),
  (1, .iconst 0, 1, [], 0),
  (2, .putfield 1, 3, [12, 0, 7006], 0),
  (5, .aload_n 0, 1, [0], 0),
  (6, .getfield 33, 3, [12, 6, 7012], 0),
  (9, .sipush 484, 3, [], 484),
  (12, .iaload, 1, [], 0),
  (13, .bipush 40, 2, [], 40),
  (15, .if_icmp .eq 43, 3, [29], 0),
  (18, .aload_n 0, 1, [0], 0),
  (19, .iload_n 1, 1, [1], 0),
  (20, .invokevirtual 308, 3, [0, 199, 1, 12, 8109, 8111, 76, 1018], 0),
  (23, .ifCond .eq 35, 3, [29], 0),
  (26, .aload_n 0, 1, [0], 0),
  (27, .iload_n 2, 1, [2], 0),
  (28, .invokevirtual 321, 3, [0, 206, 1, 12, 8137, 8139, 81, 1018], 0),
  (31, .ifCond .eq 27, 3, [29], 0),
  (34, .aload_n 0, 1, [0], 0),
  (35, .iload_n 3, 1, [3], 0),
  (36, .invokevirtual 321, 3, [0, 206, 1, 12, 8137, 8139, 81, 1018], 0),
  (39, .ifCond .eq 19, 3, [29], 0),
  (42, .iload_n 2, 1, [2], 0),
  (43, .iload_n 3, 1, [3], 0),
  (44, .if_icmp .eq 14, 3, [29], 0),
  (47, .iload 4, 2, [4], 0),
  (49, .iconst 0, 1, [], 0),
  (50, .bipush 47, 2, [], 47),
  (52, .invokestatic 238, 3, [1, 187, 3, 8062, 8063, 1018], 0),
  (55, .ifCond .ne 5, 3, [31], 0),
  (58, .iconst (-1), 1, [], (-1)),
  (59, .ireturn, 1, [], 0),
  (60, .aload_n 0, 1, [0], 0),
  (61, .iload_n 1, 1, [1], 0),
  (62, .invokevirtual 501, 3, [0, 270, 1, 12, 9155, 9157, 114, 1018], 0),
  (65, .aload_n 0, 1, [0], 0),
  (66, .getfield 498, 3, [12, 75, 7081], 0),
  (69, .bipush 8, 2, [], 8),
  (71, .if_icmp .ne 5, 3, [40], 0),
  (74, .iconst (-1), 1, [], (-1)),
  (75, .ireturn, 1, [], 0),
  (76, .sipush 485, 3, [], 485),
  (79, .iconst 4, 1, [], 4),
  (80, .aload_n 0, 1, [0], 0),
  (81, .getfield 33, 3, [12, 6, 7012], 0),
  (84, .sipush 484, 3, [], 484),
  (87, .iaload, 1, [], 0),
  (88, .imul, 1, [], 0),
  (89, .iadd, 1, [], 0),
  (90, .istore 5, 2, [5], 0),
  (92, .aload_n 0, 1, [0], 0),
  (93, .getfield 33, 3, [12, 6, 7012], 0),
  (96, .iload 5, 2, [5], 0),
  (98, .iload_n 1, 1, [1], 0),
  (99, .iastore, 1, [], 0),
  (100, .aload_n 0, 1, [0], 0),
  (101, .getfield 33, 3, [12, 6, 7012], 0),
  (104, .iload 5, 2, [5], 0),
  (106, .iconst 1, 1, [], 1),
  (107, .iadd, 1, [], 0),
  (108, .iload_n 2, 1, [2], 0),
  (109, .iastore, 1, [], 0),
  (110, .aload_n 0, 1, [0], 0),
  (111, .getfield 33, 3, [12, 6, 7012], 0),
  (114, .iload 5, 2, [5], 0),
  (116, .iconst 2, 1, [], 2),
  (117, .iadd, 1, [], 0),
  (118, .iload_n 3, 1, [3], 0),
  (119, .iastore, 1, [], 0),
  (120, .aload_n 0, 1, [0], 0),
  (121, .getfield 33, 3, [12, 6, 7012], 0),
  (124, .iload 5, 2, [5], 0),
  (126, .iconst 3, 1, [], 3),
  (127, .iadd, 1, [], 0),
  (128, .iload 4, 2, [4], 0),
  (130, .iastore, 1, [], 0),
  (131, .aload_n 0, 1, [0], 0),
  (132, .getfield 33, 3, [12, 6, 7012], 0),
  (135, .sipush 484, 3, [], 484),
  (138, .dup2, 1, [], 0),
  (139, .iaload, 1, [], 0),
  (140, .iconst 1, 1, [], 1),
  (141, .iadd, 1, [], 0),
  (142, .iastore, 1, [], 0),
  (143, .aload_n 0, 1, [0], 0),
  (144, .getfield 33, 3, [12, 6, 7012], 0),
  (147, .sipush 484, 3, [], 484),
  (150, .iaload, 1, [], 0),
  (151, .iconst 1, 1, [], 1),
  (152, .isub, 1, [], 0),
  (153, .ireturn, 1, [], 0)]
def cd_M_notesOf : List Ent := [(0, .aload_n 0, 1, [0], 0),
  (1, .iconst 0, 1, [], 0),
  (2, .putfield 498, 3, [12, 75, 7081], 0),
  (5, .iconst 0, 1, [], 0),
  (6, .istore_n 2, 1, [2], 0),
  (7, .iload_n 2, 1, [2], 0),
  (8, .aload_n 0, 1, [0], 0),
  (9, .getfield 33, 3, [12, 6, 7012], 0),
  (12, .sipush 484, 3, [], 484),
  (15, .iaload, 1, [], 0),
  (16, .if_icmp .ge 130, 3, [88], 0),
  (19, .aload_n 0, 1, [0], 0),
  (20, .getfield 33, 3, [12, 6, 7012], 0),
  (23, .sipush 485, 3, [], 485),
  (26, .iconst 4, 1, [], 4),
  (27, .iload_n 2, 1, [2], 0),
  (28, .imul, 1, [], 0),
  (29, .iadd, 1, [], 0),
  (30, .iaload, 1, [], 0),
  (31, .iload_n 1, 1, [1], 0),
  (32, .if_icmp .eq 6, 3, [22], 0),
  (35, .goto 105, 3, [86], 0),
  (38, .aload_n 0, 1, [0], 0),
  (39, .getfield 147, 3, [12, 73, 7079], 0),
  (42, .aload_n 0, 1, [0], 0),
  (43, .getfield 498, 3, [12, 75, 7081], 0),
  (46, .sipush 485, 3, [], 485),
  (49, .iconst 4, 1, [], 4),
  (50, .iload_n 2, 1, [2], 0),
  (51, .imul, 1, [], 0),
  (52, .iadd, 1, [], 0),
  (53, .iastore, 1, [], 0),
  (54, .aload_n 0, 1, [0], 0),
  (55, .getfield 498, 3, [12, 75, 7081], 0),
  (58, .istore_n 3, 1, [3], 0),
  (59, .iload_n 3, 1, [3], 0),
  (60, .ifCond .le 60, 3, [74], 0),
  (63, .aload_n 0, 1, [0], 0),
  (64, .getfield 33, 3, [12, 6, 7012], 0),
  (67, .aload_n 0, 1, [0], 0),
  (68, .getfield 147, 3, [12, 73, 7079], 0),
  (71, .aload_n 0, 1, [0], 0),
  (72, .getfield 150, 3, [12, 74, 7080], 0),
  (75, .iload_n 3, 1, [3], 0),
  (76, .iconst 1, 1, [], 1),
  (77, .isub, 1, [], 0),
  (78, .iaload, 1, [], 0),
  (79, .iaload, 1, [], 0),
  (80, .iconst 3, 1, [], 3),
  (81, .iadd, 1, [], 0),
  (82, .iaload, 1, [], 0),
  (83, .aload_n 0, 1, [0], 0),
  (84, .getfield 33, 3, [12, 6, 7012], 0),
  (87, .sipush 485, 3, [], 485),
  (90, .iconst 4, 1, [], 4),
  (91, .iload_n 2, 1, [2], 0),
  (92, .imul, 1, [], 0),
  (93, .iadd, 1, [], 0),
  (94, .iconst 3, 1, [], 3),
  (95, .iadd, 1, [], 0),
  (96, .iaload, 1, [], 0),
  (97, .if_icmp .le 23, 3, [74], 0),
  (100, .aload_n 0, 1, [0], 0),
  (101, .getfield 150, 3, [12, 74, 7080], 0),
  (104, .iload_n 3, 1, [3], 0),
  (105, .aload_n 0, 1, [0], 0),
  (106, .getfield 150, 3, [12, 74, 7080], 0),
  (109, .iload_n 3, 1, [3], 0),
  (110, .iconst 1, 1, [], 1),
  (111, .isub, 1, [], 0),
  (112, .iaload, 1, [], 0),
  (113, .iastore, 1, [], 0),
  (114, .iinc 3 (-1), 3, [3], (-1)),
  (117, .goto (-58), 3, [35], 0),
  (120, .aload_n 0, 1, [0], 0),
  (121, .getfield 150, 3, [12, 74, 7080], 0),
  (124, .iload_n 3, 1, [3], 0),
  (125, .aload_n 0, 1, [0], 0),
  (126, .getfield 498, 3, [12, 75, 7081], 0),
  (129, .iastore, 1, [], 0),
  (130, .aload_n 0, 1, [0], 0),
  (131, .dup, 1, [], 0),
  (132, .getfield 498, 3, [12, 75, 7081], 0),
  (135, .iconst 1, 1, [], 1),
  (136, .iadd, 1, [], 0),
  (137, .putfield 498, 3, [12, 75, 7081], 0),
  (140, .iinc 2 1, 3, [2], 1),
  (143, .goto (-136), 3, [5], 0),
  (146, .return_, 1, [], 0)]
def cd_M_lies : List Ent := [(0, .aload_n 0, 1, [0], 0),
  (1, .iconst 0, 1, [], 0),
  (2, .putfield 1, 3, [12, 0, 7006], 0),
  (5, .aload_n 0, 1, [0], 0),
  (6, .iload_n 1, 1, [1], 0),
  (7, .invokevirtual 308, 3, [0, 199, 1, 12, 8109, 8111, 76, 1018], 0),
  (10, .ifCond .eq 12, 3, [12], 0),
  (13, .iload_n 2, 1, [2], 0),
  (14, .iconst 0, 1, [], 0),
  (15, .iconst 2, 1, [], 2),
  (16, .invokestatic 238, 3, [1, 187, 3, 8062, 8063, 1018], 0),
  (19, .ifCond .ne 5, 3, [14], 0),
  (22, .iconst (-1), 1, [], (-1)),
  (23, .ireturn, 1, [], 0),
  (24, .aload_n 0, 1, [0], 0),
  (25, .iload_n 1, 1, [1], 0),
  (26, .invokevirtual 501, 3, [0, 270, 1, 12, 9155, 9157, 114, 1018], 0),
  (29, .iconst 1, 1, [], 1),
  (30, .aload_n 0, 1, [0], 0),
  (31, .getfield 498, 3, [12, 75, 7081], 0),
  (34, .ishl, 1, [], 0),
  (35, .iconst 1, 1, [], 1),
  (36, .isub, 1, [], 0),
  (37, .istore_n 3, 1, [3], 0),
  (38, .iconst 0, 1, [], 0),
  (39, .istore 4, 2, [4], 0),
  (41, .iload 4, 2, [4], 0),
  (43, .iconst 1, 1, [], 1),
  (44, .aload_n 0, 1, [0], 0),
  (45, .getfield 498, 3, [12, 75, 7081], 0),
  (48, .ishl, 1, [], 0),
  (49, .if_icmp .ge 34, 3, [46], 0),
  (52, .iload 4, 2, [4], 0),
  (54, .invokestatic 392, 3, [1, 225, 1, 8213, 8214, 1018], 0),
  (57, .iload_n 3, 1, [3], 0),
  (58, .invokestatic 392, 3, [1, 225, 1, 8213, 8214, 1018], 0),
  (61, .if_icmp .ge 16, 3, [44], 0),
  (64, .aload_n 0, 1, [0], 0),
  (65, .iload_n 1, 1, [1], 0),
  (66, .iload 4, 2, [4], 0),
  (68, .invokevirtual 507, 3, [0, 272, 2, 12, 9163, 9165, 115, 1018], 0),
  (71, .ifCond .eq 6, 3, [44], 0),
  (74, .iload 4, 2, [4], 0),
  (76, .istore_n 3, 1, [3], 0),
  (77, .iinc 4 1, 3, [4], 1),
  (80, .goto (-39), 3, [26], 0),
  (83, .iload_n 2, 1, [2], 0),
  (84, .iconst 2, 1, [], 2),
  (85, .if_icmp .ge 16, 3, [56], 0),
  (88, .iload_n 2, 1, [2], 0),
  (89, .ifCond .ne 10, 3, [54], 0),
  (92, .iload_n 3, 1, [3], 0),
  (93, .invokestatic 392, 3, [1, 225, 1, 8213, 8214, 1018], 0),
  (96, .goto 4, 3, [55], 0),
  (99, .iload_n 3, 1, [3], 0),
  (100, .ireturn, 1, [], 0),
  (101, .aload_n 0, 1, [0], 0),
  (102, .iload_n 1, 1, [1], 0),
  (103, .iload_n 3, 1, [3], 0),
  (104, .invokevirtual 507, 3, [0, 272, 2, 12, 9163, 9165, 115, 1018], 0),
  (107, .pop, 1, [], 0),
  (108, .aload_n 0, 1, [0], 0),
  (109, .getfield 504, 3, [12, 76, 7082], 0),
  (112, .ifCond .ge 19, 3, [75], 0),
  (115, .aload_n 0, 1, [0], 0),
  (116, .getfield 33, 3, [12, 6, 7012], 0),
  (119, .bipush 29, 2, [], 29),
  (121, .iconst 5, 1, [], 5),
  (122, .iload_n 1, 1, [1], 0),
  (123, .imul, 1, [], 0),
  (124, .iadd, 1, [], 0),
  (125, .iconst 2, 1, [], 2),
  (126, .iadd, 1, [], 0),
  (127, .iaload, 1, [], 0),
  (128, .goto 7, 3, [77], 0),
  (131, .aload_n 0, 1, [0], 0),
  (132, .getfield 504, 3, [12, 76, 7082], 0),
  (135, .ireturn, 1, [], 0)]
def cd_M_areTrue : List Ent := [(0, .aload_n 0, 1, [0], 0),
  (1, .iconst (-1), 1, [], (-1)),
  (2, .putfield 504, 3, [12, 76, 7082], 0),
  (5, .iconst 0, 1, [], 0),
  (6, .istore_n 3, 1, [3], 0),
  (7, .iload_n 3, 1, [3], 0),
  (8, .aload_n 0, 1, [0], 0),
  (9, .getfield 498, 3, [12, 75, 7081], 0),
  (12, .if_icmp .ge 123, 3, [79], 0),
  (15, .iload_n 2, 1, [2], 0),
  (16, .aload_n 0, 1, [0], 0),
  (17, .getfield 150, 3, [12, 74, 7080], 0),
  (20, .iload_n 3, 1, [3], 0),
  (21, .iaload, 1, [], 0),
  (22, .invokestatic 333, 3, [1, 211, 2, 8157, 8158, 1018], 0),
  (25, .ifCond .eq 6, 3, [17], 0),
  (28, .goto 101, 3, [77], 0),
  (31, .aload_n 0, 1, [0], 0),
  (32, .getfield 147, 3, [12, 73, 7079], 0),
  (35, .aload_n 0, 1, [0], 0),
  (36, .getfield 150, 3, [12, 74, 7080], 0),
  (39, .iload_n 3, 1, [3], 0),
  (40, .iaload, 1, [], 0),
  (41, .iaload, 1, [], 0),
  (42, .istore 4, 2, [4], 0),
  (44, .aload_n 0, 1, [0], 0),
  (45, .getfield 33, 3, [12, 6, 7012], 0),
  (48, .iload 4, 2, [4], 0),
  (50, .iconst 3, 1, [], 3),
  (51, .iadd, 1, [], 0),
  (52, .iaload, 1, [], 0),
  (53, .aload_n 0, 1, [0], 0),
  (54, .getfield 33, 3, [12, 6, 7012], 0),
  (57, .bipush 29, 2, [], 29),
  (59, .iconst 5, 1, [], 5),
  (60, .iload_n 1, 1, [1], 0),
  (61, .imul, 1, [], 0),
  (62, .iadd, 1, [], 0),
  (63, .iconst 4, 1, [], 4),
  (64, .iadd, 1, [], 0),
  (65, .iaload, 1, [], 0),
  (66, .if_icmp .ge 5, 3, [44], 0),
  (69, .iconst 0, 1, [], 0),
  (70, .ireturn, 1, [], 0),
  (71, .aload_n 0, 1, [0], 0),
  (72, .getfield 504, 3, [12, 76, 7082], 0),
  (75, .ifCond .ge 23, 3, [58], 0),
  (78, .aload_n 0, 1, [0], 0),
  (79, .iload_n 1, 1, [1], 0),
  (80, .aload_n 0, 1, [0], 0),
  (81, .getfield 33, 3, [12, 6, 7012], 0),
  (84, .iload 4, 2, [4], 0),
  (86, .iconst 1, 1, [], 1),
  (87, .iadd, 1, [], 0),
  (88, .iaload, 1, [], 0),
  (89, .invokevirtual 336, 3, [0, 217, 2, 12, 8181, 8183, 90, 1018], 0),
  (92, .ifCond .ne 24, 3, [69], 0),
  (95, .goto 19, 3, [67], 0),
  (98, .aload_n 0, 1, [0], 0),
  (99, .getfield 33, 3, [12, 6, 7012], 0),
  (102, .iload 4, 2, [4], 0),
  (104, .iconst 1, 1, [], 1),
  (105, .iadd, 1, [], 0),
  (106, .iaload, 1, [], 0),
  (107, .aload_n 0, 1, [0], 0),
  (108, .getfield 504, 3, [12, 76, 7082], 0),
  (111, .if_icmp .eq 5, 3, [69], 0),
  (114, .iconst 0, 1, [], 0),
  (115, .ireturn, 1, [], 0),
  (116, .aload_n 0, 1, [0], 0),
  (117, .aload_n 0, 1, [0], 0),
  (118, .getfield 33, 3, [12, 6, 7012], 0),
  (121, .iload 4, 2, [4], 0),
  (123, .iconst 2, 1, [], 2),
  (124, .iadd, 1, [], 0),
  (125, .iaload, 1, [], 0),
  (126, .putfield 504, 3, [12, 76, 7082], 0),
  (129, .iinc 3 1, 3, [3], 1),
  (132, .goto (-125), 3, [5], 0),
  (135, .iconst 1, 1, [], 1),
  (136, .ireturn, 1, [], 0)]
def cd_M_image : List Ent := [(0, .aload_n 0, 1, [0], 0),
  (1, .iconst 0, 1, [], 0),
  (2, .putfield 1, 3, [12, 0, 7006], 0),
  (5, .iload_n 1, 1, [1], 0),
  (6, .iconst 0, 1, [], 0),
  (7, .iconst 1, 1, [], 1),
  (8, .invokestatic 238, 3, [1, 187, 3, 8062, 8063, 1018], 0),
  (11, .ifCond .ne 5, 3, [10], 0),
  (14, .iconst 0, 1, [], 0),
  (15, .ireturn, 1, [], 0),
  (16, .iconst 0, 1, [], 0),
  (17, .istore_n 2, 1, [2], 0),
  (18, .iload_n 2, 1, [2], 0),
  (19, .sipush 645, 3, [], 645),
  (22, .if_icmp .ge 27, 3, [29], 0),
  (25, .aload_n 0, 1, [0], 0),
  (26, .getfield 153, 3, [12, 77, 7083], 0),
  (29, .sipush 645, 3, [], 645),
  (32, .iload_n 1, 1, [1], 0),
  (33, .imul, 1, [], 0),
  (34, .iload_n 2, 1, [2], 0),
  (35, .iadd, 1, [], 0),
  (36, .aload_n 0, 1, [0], 0),
  (37, .getfield 33, 3, [12, 6, 7012], 0),
  (40, .iload_n 2, 1, [2], 0),
  (41, .iaload, 1, [], 0),
  (42, .iastore, 1, [], 0),
  (43, .iinc 2 1, 3, [2], 1),
  (46, .goto (-28), 3, [12], 0),
  (49, .iconst 0, 1, [], 0),
  (50, .istore_n 2, 1, [2], 0),
  (51, .iload_n 2, 1, [2], 0),
  (52, .bipush 14, 2, [], 14),
  (54, .if_icmp .ge 26, 3, [48], 0),
  (57, .aload_n 0, 1, [0], 0),
  (58, .getfield 156, 3, [12, 78, 7084], 0),
  (61, .bipush 14, 2, [], 14),
  (63, .iload_n 1, 1, [1], 0),
  (64, .imul, 1, [], 0),
  (65, .iload_n 2, 1, [2], 0),
  (66, .iadd, 1, [], 0),
  (67, .aload_n 0, 1, [0], 0),
  (68, .getfield 43, 3, [12, 9, 7015], 0),
  (71, .iload_n 2, 1, [2], 0),
  (72, .laload, 1, [], 0),
  (73, .lastore, 1, [], 0),
  (74, .iinc 2 1, 3, [2], 1),
  (77, .goto (-26), 3, [31], 0),
  (80, .aload_n 0, 1, [0], 0),
  (81, .getfield 159, 3, [12, 79, 7085], 0),
  (84, .iload_n 1, 1, [1], 0),
  (85, .iconst 1, 1, [], 1),
  (86, .bastore, 1, [], 0),
  (87, .iconst 1, 1, [], 1),
  (88, .ireturn, 1, [], 0)]
def cd_M_restore : List Ent := [(0, .aload_n 0, 1, [0], 0),
  (1, .iconst 0, 1, [], 0),
  (2, .putfield 1, 3, [12, 0, 7006], 0),
  (5, .iload_n 1, 1, [1], 0),
  (6, .iconst 0, 1, [], 0),
  (7, .iconst 1, 1, [], 1),
  (8, .invokestatic 238, 3, [1, 187, 3, 8062, 8063, 1018], 0),
  (11, .ifCond .eq 12, 3, [13], 0),
  (14, .aload_n 0, 1, [0], 0),
  (15, .getfield 159, 3, [12, 79, 7085], 0),
  (18, .iload_n 1, 1, [1], 0),
  (19, .baload, 1, [], 0),
  (20, .ifCond .ne 5, 3, [15], 0),
  (23, .iconst 0, 1, [], 0),
  (24, .ireturn, 1, [], 0),
  (25, .iconst 0, 1, [], 0),
  (26, .istore_n 2, 1, [2], 0),
  (27, .iload_n 2, 1, [2], 0),
  (28, .sipush 645, 3, [], 645),
  (31, .if_icmp .ge 27, 3, [34], 0),
  (34, .aload_n 0, 1, [0], 0),
  (35, .getfield 33, 3, [12, 6, 7012], 0),
  (38, .iload_n 2, 1, [2], 0),
  (39, .aload_n 0, 1, [0], 0),
  (40, .getfield 153, 3, [12, 77, 7083], 0),
  (43, .sipush 645, 3, [], 645),
  (46, .iload_n 1, 1, [1], 0),
  (47, .imul, 1, [], 0),
  (48, .iload_n 2, 1, [2], 0),
  (49, .iadd, 1, [], 0),
  (50, .iaload, 1, [], 0),
  (51, .iastore, 1, [], 0),
  (52, .iinc 2 1, 3, [2], 1),
  (55, .goto (-28), 3, [17], 0),
  (58, .iconst 0, 1, [], 0),
  (59, .istore_n 2, 1, [2], 0),
  (60, .iload_n 2, 1, [2], 0),
  (61, .bipush 14, 2, [], 14),
  (63, .if_icmp .ge 26, 3, [53], 0),
  (66, .aload_n 0, 1, [0], 0),
  (67, .getfield 43, 3, [12, 9, 7015], 0),
  (70, .iload_n 2, 1, [2], 0),
  (71, .aload_n 0, 1, [0], 0),
  (72, .getfield 156, 3, [12, 78, 7084], 0),
  (75, .bipush 14, 2, [], 14),
  (77, .iload_n 1, 1, [1], 0),
  (78, .imul, 1, [], 0),
  (79, .iload_n 2, 1, [2], 0),
  (80, .iadd, 1, [], 0),
  (81, .laload, 1, [], 0),
  (82, .lastore, 1, [], 0),
  (83, .iinc 2 1, 3, [2], 1),
  (86, .goto (-26), 3, [36], 0),
  (89, .iconst 1, 1, [], 1),
  (90, .ireturn, 1, [], 0)]
def cd_M_count : List Ent := [(0, .aload_n 0, 1, [0], 0),
  (1, .iconst 0, 1, [], 0),
  (2, .putfield 1, 3, [12, 0, 7006], 0),
  (5, .iload_n 1, 1, [1], 0),
  (6, .tableswitch 115 0 8 #[50, 57, 64, 71, 78, 85, 92, 101, 110], 50, [48, 5, 10, 15, 20, 25, 30, 35, 40, 45], 0),
  (56, .aload_n 0, 1, [0], 0),
  (57, .getfield 33, 3, [12, 6, 7012], 0),
  (60, .iconst 0, 1, [], 0),
  (61, .iaload, 1, [], 0),
  (62, .ireturn, 1, [], 0),
  (63, .aload_n 0, 1, [0], 0),
  (64, .getfield 33, 3, [12, 6, 7012], 0),
  (67, .iconst 1, 1, [], 1),
  (68, .iaload, 1, [], 0),
  (69, .ireturn, 1, [], 0),
  (70, .aload_n 0, 1, [0], 0),
  (71, .getfield 33, 3, [12, 6, 7012], 0),
  (74, .iconst 2, 1, [], 2),
  (75, .iaload, 1, [], 0),
  (76, .ireturn, 1, [], 0),
  (77, .aload_n 0, 1, [0], 0),
  (78, .getfield 33, 3, [12, 6, 7012], 0),
  (81, .iconst 3, 1, [], 3),
  (82, .iaload, 1, [], 0),
  (83, .ireturn, 1, [], 0),
  (84, .aload_n 0, 1, [0], 0),
  (85, .getfield 33, 3, [12, 6, 7012], 0),
  (88, .iconst 4, 1, [], 4),
  (89, .iaload, 1, [], 0),
  (90, .ireturn, 1, [], 0),
  (91, .aload_n 0, 1, [0], 0),
  (92, .getfield 33, 3, [12, 6, 7012], 0),
  (95, .iconst 5, 1, [], 5),
  (96, .iaload, 1, [], 0),
  (97, .ireturn, 1, [], 0),
  (98, .aload_n 0, 1, [0], 0),
  (99, .getfield 33, 3, [12, 6, 7012], 0),
  (102, .sipush 333, 3, [], 333),
  (105, .iaload, 1, [], 0),
  (106, .ireturn, 1, [], 0),
  (107, .aload_n 0, 1, [0], 0),
  (108, .getfield 33, 3, [12, 6, 7012], 0),
  (111, .sipush 484, 3, [], 484),
  (114, .iaload, 1, [], 0),
  (115, .ireturn, 1, [], 0),
  (116, .aload_n 0, 1, [0], 0),
  (117, .getfield 7, 3, [12, 2, 7008], 0),
  (120, .ireturn, 1, [], 0),
  (121, .iconst (-1), 1, [], (-1)),
  (122, .ireturn, 1, [], 0)]
def cd_JA_fillI : List Ent := [(0, .iconst 0, 1, [], 0),
  (1, .istore_n 2, 1, [2], 0),
  (2, .aload_n 0, 1, [0], 0),
  (3, .arraylength, 1, [], 0),
  (4, .istore_n 3, 1, [3], 0),
  (5, .iload_n 2, 1, [2], 0),
  (6, .iload_n 3, 1, [3], 0),
  (7, .if_icmp .ge 13, 3, [14], 0),
  (10, .aload_n 0, 1, [0], 0),
  (11, .iload_n 2, 1, [2], 0),
  (12, .iload_n 1, 1, [1], 0),
  (13, .iastore, 1, [], 0),
  (14, .iinc 2 1, 3, [2], 1),
  (17, .goto (-12), 3, [5], 0),
  (20, .return_, 1, [], 0)]
def cd_JA_fillL : List Ent := [(0, .iconst 0, 1, [], 0),
  (1, .istore_n 3, 1, [3], 0),
  (2, .aload_n 0, 1, [0], 0),
  (3, .arraylength, 1, [], 0),
  (4, .istore 4, 2, [4], 0),
  (6, .iload_n 3, 1, [3], 0),
  (7, .iload 4, 2, [4], 0),
  (9, .if_icmp .ge 13, 3, [14], 0),
  (12, .aload_n 0, 1, [0], 0),
  (13, .iload_n 3, 1, [3], 0),
  (14, .lload_n 1, 1, [1], 0),
  (15, .lastore, 1, [], 0),
  (16, .iinc 3 1, 3, [3], 1),
  (19, .goto (-13), 3, [5], 0),
  (22, .return_, 1, [], 0)]
def cd_JI_bitCount : List Ent := [(0, .iload_n 0, 1, [0], 0),
  (1, .iload_n 0, 1, [0], 0),
  (2, .iconst 1, 1, [], 1),
  (3, .iushr, 1, [], 0),
  (4, .ldc_w 265, 3, [5003], 1431655765),
  (7, .iand, 1, [], 0),
  (8, .isub, 1, [], 0),
  (9, .istore_n 0, 1, [0], 0),
  (10, .iload_n 0, 1, [0], 0),
  (11, .ldc_w 266, 3, [5004], 858993459),
  (14, .iand, 1, [], 0),
  (15, .iload_n 0, 1, [0], 0),
  (16, .iconst 2, 1, [], 2),
  (17, .iushr, 1, [], 0),
  (18, .ldc_w 266, 3, [5004], 858993459),
  (21, .iand, 1, [], 0),
  (22, .iadd, 1, [], 0),
  (23, .istore_n 0, 1, [0], 0),
  (24, .iload_n 0, 1, [0], 0),
  (25, .iload_n 0, 1, [0], 0),
  (26, .iconst 4, 1, [], 4),
  (27, .iushr, 1, [], 0),
  (28, .iadd, 1, [], 0),
  (29, .ldc_w 267, 3, [5005], 252645135),
  (32, .iand, 1, [], 0),
  (33, .istore_n 0, 1, [0], 0),
  (34, .iload_n 0, 1, [0], 0),
  (35, .iload_n 0, 1, [0], 0),
  (36, .bipush 8, 2, [], 8),
  (38, .iushr, 1, [], 0),
  (39, .iadd, 1, [], 0),
  (40, .istore_n 0, 1, [0], 0),
  (41, .iload_n 0, 1, [0], 0),
  (42, .iload_n 0, 1, [0], 0),
  (43, .bipush 16, 2, [], 16),
  (45, .iushr, 1, [], 0),
  (46, .iadd, 1, [], 0),
  (47, .istore_n 0, 1, [0], 0),
  (48, .iload_n 0, 1, [0], 0),
  (49, .bipush 63, 2, [], 63),
  (51, .iand, 1, [], 0),
  (52, .ireturn, 1, [], 0)]
def cd_law : List Ent := [(0, .new 8, 3, [11, 1026, 1027, 1001], 0),
  (3, .dup, 1, [], 0),
  (4, .invokespecial 25, 3, [2, 0, 0, 1028, 1029, 1001], 0),
  (7, .astore_n 1, 1, [1], 0),
  (8, .new 26, 3, [12, 6224, 6218, 1018], 0),
  (11, .dup, 1, [], 0),
  (12, .invokespecial 28, 3, [2, 172, 0, 6225, 6226, 1018], 0),
  (15, .astore_n 2, 1, [2], 0),
  (16, .iconst 1, 1, [], 1),
  (17, .newarray .long, 2, [21, 2184], 0),
  (19, .astore_n 3, 1, [3], 0),
  (20, .iconst 0, 1, [], 0),
  (21, .istore 4, 2, [4], 0),
  (23, .iload 4, 2, [4], 0),
  (25, .aload_n 0, 1, [0], 0),
  (26, .arraylength, 1, [], 0),
  (27, .bipush 6, 2, [], 6),
  (29, .isub, 1, [], 0),
  (30, .if_icmp .gt 1395, 3, [852], 0),
  (33, .aload_n 0, 1, [0], 0),
  (34, .iload 4, 2, [4], 0),
  (36, .iaload, 1, [], 0),
  (37, .bipush 63, 2, [], 63),
  (39, .iand, 1, [], 0),
  (40, .tableswitch 1379 0 38 #[172, 245, 270, 283, 296, 364, 432, 481, 530, 555, 568, 581, 606, 631, 644, 681, 749, 762, 787, 824, 873, 910, 923, 948, 973, 986, 999, 1055, 1068, 1105, 1118, 1131, 1144, 1157, 1206, 1267, 1304, 1329, 1354], 172, [850, 25, 82, 99, 106, 113, 158, 203, 240, 277, 294, 301, 308, 325, 342, 349, 376, 421, 428, 445, 472, 509, 536, 543, 560, 577, 584, 591, 626, 633, 660, 667, 674, 681, 688, 725, 772, 799, 816, 833], 0),
  (212, .aload_n 1, 1, [1], 0),
  (213, .aload_n 0, 1, [0], 0),
  (214, .iload 4, 2, [4], 0),
  (216, .iconst 1, 1, [], 1),
  (217, .iadd, 1, [], 0),
  (218, .iaload, 1, [], 0),
  (219, .aload_n 0, 1, [0], 0),
  (220, .iload 4, 2, [4], 0),
  (222, .iconst 2, 1, [], 2),
  (223, .iadd, 1, [], 0),
  (224, .iaload, 1, [], 0),
  (225, .aload_n 0, 1, [0], 0),
  (226, .iload 4, 2, [4], 0),
  (228, .iconst 3, 1, [], 3),
  (229, .iadd, 1, [], 0),
  (230, .iaload, 1, [], 0),
  (231, .aload_n 0, 1, [0], 0),
  (232, .iload 4, 2, [4], 0),
  (234, .iconst 4, 1, [], 4),
  (235, .iadd, 1, [], 0),
  (236, .iaload, 1, [], 0),
  (237, .aload_n 0, 1, [0], 0),
  (238, .iload 4, 2, [4], 0),
  (240, .iconst 5, 1, [], 5),
  (241, .iadd, 1, [], 0),
  (242, .iaload, 1, [], 0),
  (243, .invokevirtual 29, 3, [0, 12, 5, 11, 3141, 3142, 3143, 1001], 0),
  (246, .aload_n 2, 1, [2], 0),
  (247, .aload_n 0, 1, [0], 0),
  (248, .iload 4, 2, [4], 0),
  (250, .iconst 1, 1, [], 1),
  (251, .iadd, 1, [], 0),
  (252, .iaload, 1, [], 0),
  (253, .aload_n 0, 1, [0], 0),
  (254, .iload 4, 2, [4], 0),
  (256, .iconst 2, 1, [], 2),
  (257, .iadd, 1, [], 0),
  (258, .iaload, 1, [], 0),
  (259, .aload_n 0, 1, [0], 0),
  (260, .iload 4, 2, [4], 0),
  (262, .iconst 3, 1, [], 3),
  (263, .iadd, 1, [], 0),
  (264, .iaload, 1, [], 0),
  (265, .aload_n 0, 1, [0], 0),
  (266, .iload 4, 2, [4], 0),
  (268, .iconst 4, 1, [], 4),
  (269, .iadd, 1, [], 0),
  (270, .iaload, 1, [], 0),
  (271, .aload_n 0, 1, [0], 0),
  (272, .iload 4, 2, [4], 0),
  (274, .iconst 5, 1, [], 5),
  (275, .iadd, 1, [], 0),
  (276, .iaload, 1, [], 0),
  (277, .invokevirtual 33, 3, [0, 169, 5, 12, 6211, 6212, 6213, 1018], 0),
  (280, .if_icmp .eq 1139, 3, [850], 0),
  (283, .iconst 0, 1, [], 0),
  (284, .ireturn, 1, [], 0),
  (285, .aload_n 1, 1, [1], 0),
  (286, .aload_n 0, 1, [0], 0),
  (287, .iload 4, 2, [4], 0),
  (289, .iconst 1, 1, [], 1),
  (290, .iadd, 1, [], 0),
  (291, .iaload, 1, [], 0),
  (292, .invokevirtual 34, 3, [0, 14, 1, 11, 3149, 3150, 3151, 1001], 0),
  (295, .aload_n 2, 1, [2], 0),
  (296, .aload_n 0, 1, [0], 0),
  (297, .iload 4, 2, [4], 0),
  (299, .iconst 1, 1, [], 1),
  (300, .iadd, 1, [], 0),
  (301, .iaload, 1, [], 0),
  (302, .invokevirtual 38, 3, [0, 171, 1, 12, 6220, 6221, 6222, 1018], 0),
  (305, .if_icmp .eq 1114, 3, [850], 0),
  (308, .iconst 0, 1, [], 0),
  (309, .ireturn, 1, [], 0),
  (310, .aload_n 1, 1, [1], 0),
  (311, .invokevirtual 39, 3, [0, 15, 0, 11, 3153, 3154, 3155, 1001], 0),
  (314, .aload_n 2, 1, [2], 0),
  (315, .invokevirtual 43, 3, [0, 173, 0, 12, 8008, 8009, 8010, 1018], 0),
  (318, .if_icmp .eq 1101, 3, [850], 0),
  (321, .iconst 0, 1, [], 0),
  (322, .ireturn, 1, [], 0),
  (323, .aload_n 1, 1, [1], 0),
  (324, .invokevirtual 44, 3, [0, 49, 0, 11, 4055, 4056, 4057, 1001], 0),
  (327, .aload_n 2, 1, [2], 0),
  (328, .invokevirtual 47, 3, [0, 197, 0, 12, 8101, 8102, 8103, 1018], 0),
  (331, .if_icmp .eq 1088, 3, [850], 0),
  (334, .iconst 0, 1, [], 0),
  (335, .ireturn, 1, [], 0),
  (336, .aload_n 1, 1, [1], 0),
  (337, .aload_n 0, 1, [0], 0),
  (338, .iload 4, 2, [4], 0),
  (340, .iconst 1, 1, [], 1),
  (341, .iadd, 1, [], 0),
  (342, .iaload, 1, [], 0),
  (343, .aload_n 0, 1, [0], 0),
  (344, .iload 4, 2, [4], 0),
  (346, .iconst 2, 1, [], 2),
  (347, .iadd, 1, [], 0),
  (348, .iaload, 1, [], 0),
  (349, .aload_n 3, 1, [3], 0),
  (350, .invokestatic 48, 3, [7, 279, 4, 6117, 6118, 1000], 0),
  (353, .istore 5, 2, [5], 0),
  (355, .aload_n 2, 1, [2], 0),
  (356, .aload_n 0, 1, [0], 0),
  (357, .iload 4, 2, [4], 0),
  (359, .iconst 1, 1, [], 1),
  (360, .iadd, 1, [], 0),
  (361, .iaload, 1, [], 0),
  (362, .aload_n 0, 1, [0], 0),
  (363, .iload 4, 2, [4], 0),
  (365, .iconst 2, 1, [], 2),
  (366, .iadd, 1, [], 0),
  (367, .iaload, 1, [], 0),
  (368, .invokevirtual 53, 3, [0, 198, 2, 12, 8105, 8106, 8107, 1018], 0),
  (371, .istore 6, 2, [6], 0),
  (373, .aload_n 2, 1, [2], 0),
  (374, .invokevirtual 54, 3, [0, 168, 0, 12, 6207, 6208, 6209, 1018], 0),
  (377, .iload 5, 2, [5], 0),
  (379, .if_icmp .eq 5, 3, [146], 0),
  (382, .iconst 0, 1, [], 0),
  (383, .ireturn, 1, [], 0),
  (384, .iload 5, 2, [5], 0),
  (386, .ifCond .ne 15, 3, [157], 0),
  (389, .aload_n 3, 1, [3], 0),
  (390, .iconst 0, 1, [], 0),
  (391, .laload, 1, [], 0),
  (392, .iload 6, 2, [6], 0),
  (394, .i2l, 1, [], 0),
  (395, .lcmp, 1, [], 0),
  (396, .ifCond .eq 5, 3, [157], 0),
  (399, .iconst 0, 1, [], 0),
  (400, .ireturn, 1, [], 0),
  (401, .goto 1018, 3, [850], 0),
  (404, .aload_n 1, 1, [1], 0),
  (405, .aload_n 0, 1, [0], 0),
  (406, .iload 4, 2, [4], 0),
  (408, .iconst 1, 1, [], 1),
  (409, .iadd, 1, [], 0),
  (410, .iaload, 1, [], 0),
  (411, .aload_n 0, 1, [0], 0),
  (412, .iload 4, 2, [4], 0),
  (414, .iconst 2, 1, [], 2),
  (415, .iadd, 1, [], 0),
  (416, .iaload, 1, [], 0),
  (417, .aload_n 3, 1, [3], 0),
  (418, .invokestatic 57, 3, [7, 280, 4, 6186, 6187, 1000], 0),
  (421, .istore 5, 2, [5], 0),
  (423, .aload_n 2, 1, [2], 0),
  (424, .aload_n 0, 1, [0], 0),
  (425, .iload 4, 2, [4], 0),
  (427, .iconst 1, 1, [], 1),
  (428, .iadd, 1, [], 0),
  (429, .iaload, 1, [], 0),
  (430, .aload_n 0, 1, [0], 0),
  (431, .iload 4, 2, [4], 0),
  (433, .iconst 2, 1, [], 2),
  (434, .iadd, 1, [], 0),
  (435, .iaload, 1, [], 0),
  (436, .invokevirtual 59, 3, [0, 203, 2, 12, 8125, 8126, 8127, 1018], 0),
  (439, .istore 6, 2, [6], 0),
  (441, .aload_n 2, 1, [2], 0),
  (442, .invokevirtual 54, 3, [0, 168, 0, 12, 6207, 6208, 6209, 1018], 0),
  (445, .iload 5, 2, [5], 0),
  (447, .if_icmp .eq 5, 3, [191], 0),
  (450, .iconst 0, 1, [], 0),
  (451, .ireturn, 1, [], 0),
  (452, .iload 5, 2, [5], 0),
  (454, .ifCond .ne 15, 3, [202], 0),
  (457, .aload_n 3, 1, [3], 0),
  (458, .iconst 0, 1, [], 0),
  (459, .laload, 1, [], 0),
  (460, .iload 6, 2, [6], 0),
  (462, .i2l, 1, [], 0),
  (463, .lcmp, 1, [], 0),
  (464, .ifCond .eq 5, 3, [202], 0),
  (467, .iconst 0, 1, [], 0),
  (468, .ireturn, 1, [], 0),
  (469, .goto 950, 3, [850], 0),
  (472, .aload_n 1, 1, [1], 0),
  (473, .aload_n 0, 1, [0], 0),
  (474, .iload 4, 2, [4], 0),
  (476, .iconst 1, 1, [], 1),
  (477, .iadd, 1, [], 0),
  (478, .iaload, 1, [], 0),
  (479, .aload_n 0, 1, [0], 0),
  (480, .iload 4, 2, [4], 0),
  (482, .iconst 2, 1, [], 2),
  (483, .iadd, 1, [], 0),
  (484, .iaload, 1, [], 0),
  (485, .aload_n 0, 1, [0], 0),
  (486, .iload 4, 2, [4], 0),
  (488, .iconst 3, 1, [], 3),
  (489, .iadd, 1, [], 0),
  (490, .iaload, 1, [], 0),
  (491, .invokevirtual 60, 3, [0, 50, 3, 11, 4059, 4060, 4061, 1001], 0),
  (494, .aload_n 2, 1, [2], 0),
  (495, .aload_n 0, 1, [0], 0),
  (496, .iload 4, 2, [4], 0),
  (498, .iconst 1, 1, [], 1),
  (499, .iadd, 1, [], 0),
  (500, .iaload, 1, [], 0),
  (501, .aload_n 0, 1, [0], 0),
  (502, .iload 4, 2, [4], 0),
  (504, .iconst 2, 1, [], 2),
  (505, .iadd, 1, [], 0),
  (506, .iaload, 1, [], 0),
  (507, .aload_n 0, 1, [0], 0),
  (508, .iload 4, 2, [4], 0),
  (510, .iconst 3, 1, [], 3),
  (511, .iadd, 1, [], 0),
  (512, .iaload, 1, [], 0),
  (513, .invokevirtual 64, 3, [0, 205, 3, 12, 8133, 8134, 8135, 1018], 0),
  (516, .if_icmp .eq 903, 3, [850], 0),
  (519, .iconst 0, 1, [], 0),
  (520, .ireturn, 1, [], 0),
  (521, .aload_n 1, 1, [1], 0),
  (522, .aload_n 0, 1, [0], 0),
  (523, .iload 4, 2, [4], 0),
  (525, .iconst 1, 1, [], 1),
  (526, .iadd, 1, [], 0),
  (527, .iaload, 1, [], 0),
  (528, .aload_n 0, 1, [0], 0),
  (529, .iload 4, 2, [4], 0),
  (531, .iconst 2, 1, [], 2),
  (532, .iadd, 1, [], 0),
  (533, .iaload, 1, [], 0),
  (534, .aload_n 0, 1, [0], 0),
  (535, .iload 4, 2, [4], 0),
  (537, .iconst 3, 1, [], 3),
  (538, .iadd, 1, [], 0),
  (539, .iaload, 1, [], 0),
  (540, .invokevirtual 65, 3, [0, 52, 3, 11, 4067, 4068, 4069, 1001], 0),
  (543, .aload_n 2, 1, [2], 0),
  (544, .aload_n 0, 1, [0], 0),
  (545, .iload 4, 2, [4], 0),
  (547, .iconst 1, 1, [], 1),
  (548, .iadd, 1, [], 0),
  (549, .iaload, 1, [], 0),
  (550, .aload_n 0, 1, [0], 0),
  (551, .iload 4, 2, [4], 0),
  (553, .iconst 2, 1, [], 2),
  (554, .iadd, 1, [], 0),
  (555, .iaload, 1, [], 0),
  (556, .aload_n 0, 1, [0], 0),
  (557, .iload 4, 2, [4], 0),
  (559, .iconst 3, 1, [], 3),
  (560, .iadd, 1, [], 0),
  (561, .iaload, 1, [], 0),
  (562, .invokevirtual 68, 3, [0, 207, 3, 12, 8141, 8142, 8143, 1018], 0),
  (565, .if_icmp .eq 854, 3, [850], 0),
  (568, .iconst 0, 1, [], 0),
  (569, .ireturn, 1, [], 0),
  (570, .aload_n 1, 1, [1], 0),
  (571, .aload_n 0, 1, [0], 0),
  (572, .iload 4, 2, [4], 0),
  (574, .iconst 1, 1, [], 1),
  (575, .iadd, 1, [], 0),
  (576, .iaload, 1, [], 0),
  (577, .invokevirtual 69, 3, [0, 85, 1, 11, 4224, 4225, 4226, 1001], 0),
  (580, .aload_n 2, 1, [2], 0),
  (581, .aload_n 0, 1, [0], 0),
  (582, .iload 4, 2, [4], 0),
  (584, .iconst 1, 1, [], 1),
  (585, .iadd, 1, [], 0),
  (586, .iaload, 1, [], 0),
  (587, .invokevirtual 72, 3, [0, 221, 1, 12, 8197, 8198, 8199, 1018], 0),
  (590, .if_icmp .eq 829, 3, [850], 0),
  (593, .iconst 0, 1, [], 0),
  (594, .ireturn, 1, [], 0),
  (595, .aload_n 1, 1, [1], 0),
  (596, .invokevirtual 73, 3, [0, 86, 0, 11, 4228, 4229, 4230, 1001], 0),
  (599, .aload_n 2, 1, [2], 0),
  (600, .invokevirtual 76, 3, [0, 222, 0, 12, 8201, 8202, 8203, 1018], 0),
  (603, .if_icmp .eq 816, 3, [850], 0),
  (606, .iconst 0, 1, [], 0),
  (607, .ireturn, 1, [], 0),
  (608, .aload_n 1, 1, [1], 0),
  (609, .invokevirtual 77, 3, [0, 89, 0, 11, 5007, 5008, 5009, 1001], 0),
  (612, .aload_n 2, 1, [2], 0),
  (613, .invokevirtual 80, 3, [0, 226, 0, 12, 8216, 8217, 8218, 1018], 0),
  (616, .if_icmp .eq 803, 3, [850], 0),
  (619, .iconst 0, 1, [], 0),
  (620, .ireturn, 1, [], 0),
  (621, .aload_n 1, 1, [1], 0),
  (622, .aload_n 0, 1, [0], 0),
  (623, .iload 4, 2, [4], 0),
  (625, .iconst 1, 1, [], 1),
  (626, .iadd, 1, [], 0),
  (627, .iaload, 1, [], 0),
  (628, .invokevirtual 81, 3, [0, 91, 1, 11, 5015, 5016, 5017, 1001], 0),
  (631, .aload_n 2, 1, [2], 0),
  (632, .aload_n 0, 1, [0], 0),
  (633, .iload 4, 2, [4], 0),
  (635, .iconst 1, 1, [], 1),
  (636, .iadd, 1, [], 0),
  (637, .iaload, 1, [], 0),
  (638, .invokevirtual 84, 3, [0, 227, 1, 12, 8220, 8221, 8222, 1018], 0),
  (641, .if_icmp .eq 778, 3, [850], 0),
  (644, .iconst 0, 1, [], 0),
  (645, .ireturn, 1, [], 0),
  (646, .aload_n 1, 1, [1], 0),
  (647, .aload_n 0, 1, [0], 0),
  (648, .iload 4, 2, [4], 0),
  (650, .iconst 1, 1, [], 1),
  (651, .iadd, 1, [], 0),
  (652, .iaload, 1, [], 0),
  (653, .invokevirtual 85, 3, [0, 96, 1, 11, 5036, 5037, 5038, 1001], 0),
  (656, .aload_n 2, 1, [2], 0),
  (657, .aload_n 0, 1, [0], 0),
  (658, .iload 4, 2, [4], 0),
  (660, .iconst 1, 1, [], 1),
  (661, .iadd, 1, [], 0),
  (662, .iaload, 1, [], 0),
  (663, .invokevirtual 88, 3, [0, 230, 1, 12, 8234, 8235, 8236, 1018], 0),
  (666, .if_icmp .eq 753, 3, [850], 0),
  (669, .iconst 0, 1, [], 0),
  (670, .ireturn, 1, [], 0),
  (671, .aload_n 1, 1, [1], 0),
  (672, .invokevirtual 89, 3, [0, 97, 0, 11, 5041, 5042, 5043, 1001], 0),
  (675, .aload_n 2, 1, [2], 0),
  (676, .invokevirtual 92, 3, [0, 231, 0, 12, 8238, 8239, 9000, 1018], 0),
  (679, .if_icmp .eq 740, 3, [850], 0),
  (682, .iconst 0, 1, [], 0),
  (683, .ireturn, 1, [], 0),
  (684, .aload_n 1, 1, [1], 0),
  (685, .aload_n 0, 1, [0], 0),
  (686, .iload 4, 2, [4], 0),
  (688, .iconst 1, 1, [], 1),
  (689, .iadd, 1, [], 0),
  (690, .iaload, 1, [], 0),
  (691, .aload_n 0, 1, [0], 0),
  (692, .iload 4, 2, [4], 0),
  (694, .iconst 2, 1, [], 2),
  (695, .iadd, 1, [], 0),
  (696, .iaload, 1, [], 0),
  (697, .invokevirtual 93, 3, [0, 102, 2, 11, 5070, 5071, 5072, 1001], 0),
  (700, .aload_n 2, 1, [2], 0),
  (701, .aload_n 0, 1, [0], 0),
  (702, .iload 4, 2, [4], 0),
  (704, .iconst 1, 1, [], 1),
  (705, .iadd, 1, [], 0),
  (706, .iaload, 1, [], 0),
  (707, .aload_n 0, 1, [0], 0),
  (708, .iload 4, 2, [4], 0),
  (710, .iconst 2, 1, [], 2),
  (711, .iadd, 1, [], 0),
  (712, .iaload, 1, [], 0),
  (713, .invokevirtual 96, 3, [0, 234, 2, 12, 9010, 9011, 9012, 1018], 0),
  (716, .if_icmp .eq 703, 3, [850], 0),
  (719, .iconst 0, 1, [], 0),
  (720, .ireturn, 1, [], 0),
  (721, .aload_n 1, 1, [1], 0),
  (722, .aload_n 0, 1, [0], 0),
  (723, .iload 4, 2, [4], 0),
  (725, .iconst 1, 1, [], 1),
  (726, .iadd, 1, [], 0),
  (727, .iaload, 1, [], 0),
  (728, .aload_n 0, 1, [0], 0),
  (729, .iload 4, 2, [4], 0),
  (731, .iconst 2, 1, [], 2),
  (732, .iadd, 1, [], 0),
  (733, .iaload, 1, [], 0),
  (734, .aload_n 3, 1, [3], 0),
  (735, .invokestatic 97, 3, [7, 281, 4, 6193, 6194, 1000], 0),
  (738, .istore 5, 2, [5], 0),
  (740, .aload_n 2, 1, [2], 0),
  (741, .aload_n 0, 1, [0], 0),
  (742, .iload 4, 2, [4], 0),
  (744, .iconst 1, 1, [], 1),
  (745, .iadd, 1, [], 0),
  (746, .iaload, 1, [], 0),
  (747, .aload_n 0, 1, [0], 0),
  (748, .iload 4, 2, [4], 0),
  (750, .iconst 2, 1, [], 2),
  (751, .iadd, 1, [], 0),
  (752, .iaload, 1, [], 0),
  (753, .invokevirtual 99, 3, [0, 236, 2, 12, 9019, 9020, 9021, 1018], 0),
  (756, .istore 6, 2, [6], 0),
  (758, .aload_n 2, 1, [2], 0),
  (759, .invokevirtual 54, 3, [0, 168, 0, 12, 6207, 6208, 6209, 1018], 0),
  (762, .iload 5, 2, [5], 0),
  (764, .if_icmp .eq 5, 3, [409], 0),
  (767, .iconst 0, 1, [], 0),
  (768, .ireturn, 1, [], 0),
  (769, .iload 5, 2, [5], 0),
  (771, .ifCond .ne 15, 3, [420], 0),
  (774, .aload_n 3, 1, [3], 0),
  (775, .iconst 0, 1, [], 0),
  (776, .laload, 1, [], 0),
  (777, .iload 6, 2, [6], 0),
  (779, .i2l, 1, [], 0),
  (780, .lcmp, 1, [], 0),
  (781, .ifCond .eq 5, 3, [420], 0),
  (784, .iconst 0, 1, [], 0),
  (785, .ireturn, 1, [], 0),
  (786, .goto 633, 3, [850], 0),
  (789, .aload_n 1, 1, [1], 0),
  (790, .invokevirtual 100, 3, [0, 105, 0, 11, 5083, 5084, 5085, 1001], 0),
  (793, .aload_n 2, 1, [2], 0),
  (794, .invokevirtual 103, 3, [0, 237, 0, 12, 9023, 9024, 9025, 1018], 0),
  (797, .if_icmp .eq 622, 3, [850], 0),
  (800, .iconst 0, 1, [], 0),
  (801, .ireturn, 1, [], 0),
  (802, .aload_n 1, 1, [1], 0),
  (803, .aload_n 0, 1, [0], 0),
  (804, .iload 4, 2, [4], 0),
  (806, .iconst 1, 1, [], 1),
  (807, .iadd, 1, [], 0),
  (808, .iaload, 1, [], 0),
  (809, .invokevirtual 104, 3, [0, 114, 1, 11, 5124, 5125, 5126, 1001], 0),
  (812, .aload_n 2, 1, [2], 0),
  (813, .aload_n 0, 1, [0], 0),
  (814, .iload 4, 2, [4], 0),
  (816, .iconst 1, 1, [], 1),
  (817, .iadd, 1, [], 0),
  (818, .iaload, 1, [], 0),
  (819, .invokevirtual 107, 3, [0, 245, 1, 12, 9055, 9056, 9057, 1018], 0),
  (822, .if_icmp .eq 597, 3, [850], 0),
  (825, .iconst 0, 1, [], 0),
  (826, .ireturn, 1, [], 0),
  (827, .aload_n 1, 1, [1], 0),
  (828, .aload_n 0, 1, [0], 0),
  (829, .iload 4, 2, [4], 0),
  (831, .iconst 1, 1, [], 1),
  (832, .iadd, 1, [], 0),
  (833, .iaload, 1, [], 0),
  (834, .aload_n 0, 1, [0], 0),
  (835, .iload 4, 2, [4], 0),
  (837, .iconst 2, 1, [], 2),
  (838, .iadd, 1, [], 0),
  (839, .iaload, 1, [], 0),
  (840, .invokevirtual 108, 3, [0, 115, 2, 11, 5128, 5129, 5130, 1001], 0),
  (843, .aload_n 2, 1, [2], 0),
  (844, .aload_n 0, 1, [0], 0),
  (845, .iload 4, 2, [4], 0),
  (847, .iconst 1, 1, [], 1),
  (848, .iadd, 1, [], 0),
  (849, .iaload, 1, [], 0),
  (850, .aload_n 0, 1, [0], 0),
  (851, .iload 4, 2, [4], 0),
  (853, .iconst 2, 1, [], 2),
  (854, .iadd, 1, [], 0),
  (855, .iaload, 1, [], 0),
  (856, .invokevirtual 111, 3, [0, 246, 2, 12, 9059, 9060, 9061, 1018], 0),
  (859, .if_icmp .eq 560, 3, [850], 0),
  (862, .iconst 0, 1, [], 0),
  (863, .ireturn, 1, [], 0),
  (864, .aload_n 1, 1, [1], 0),
  (865, .aload_n 0, 1, [0], 0),
  (866, .iload 4, 2, [4], 0),
  (868, .iconst 1, 1, [], 1),
  (869, .iadd, 1, [], 0),
  (870, .iaload, 1, [], 0),
  (871, .aload_n 0, 1, [0], 0),
  (872, .iload 4, 2, [4], 0),
  (874, .iconst 2, 1, [], 2),
  (875, .iadd, 1, [], 0),
  (876, .iaload, 1, [], 0),
  (877, .aload_n 0, 1, [0], 0),
  (878, .iload 4, 2, [4], 0),
  (880, .iconst 3, 1, [], 3),
  (881, .iadd, 1, [], 0),
  (882, .iaload, 1, [], 0),
  (883, .invokevirtual 112, 3, [0, 116, 3, 11, 5132, 5133, 5134, 1001], 0),
  (886, .aload_n 2, 1, [2], 0),
  (887, .aload_n 0, 1, [0], 0),
  (888, .iload 4, 2, [4], 0),
  (890, .iconst 1, 1, [], 1),
  (891, .iadd, 1, [], 0),
  (892, .iaload, 1, [], 0),
  (893, .aload_n 0, 1, [0], 0),
  (894, .iload 4, 2, [4], 0),
  (896, .iconst 2, 1, [], 2),
  (897, .iadd, 1, [], 0),
  (898, .iaload, 1, [], 0),
  (899, .aload_n 0, 1, [0], 0),
  (900, .iload 4, 2, [4], 0),
  (902, .iconst 3, 1, [], 3),
  (903, .iadd, 1, [], 0),
  (904, .iaload, 1, [], 0),
  (905, .invokevirtual 115, 3, [0, 247, 3, 12, 9063, 9064, 9065, 1018], 0),
  (908, .if_icmp .eq 511, 3, [850], 0),
  (911, .iconst 0, 1, [], 0),
  (912, .ireturn, 1, [], 0),
  (913, .aload_n 1, 1, [1], 0),
  (914, .aload_n 0, 1, [0], 0),
  (915, .iload 4, 2, [4], 0),
  (917, .iconst 1, 1, [], 1),
  (918, .iadd, 1, [], 0),
  (919, .iaload, 1, [], 0),
  (920, .aload_n 0, 1, [0], 0),
  (921, .iload 4, 2, [4], 0),
  (923, .iconst 2, 1, [], 2),
  (924, .iadd, 1, [], 0),
  (925, .iaload, 1, [], 0),
  (926, .invokevirtual 116, 3, [0, 118, 2, 11, 5141, 5142, 5143, 1001], 0),
  (929, .aload_n 2, 1, [2], 0),
  (930, .aload_n 0, 1, [0], 0),
  (931, .iload 4, 2, [4], 0),
  (933, .iconst 1, 1, [], 1),
  (934, .iadd, 1, [], 0),
  (935, .iaload, 1, [], 0),
  (936, .aload_n 0, 1, [0], 0),
  (937, .iload 4, 2, [4], 0),
  (939, .iconst 2, 1, [], 2),
  (940, .iadd, 1, [], 0),
  (941, .iaload, 1, [], 0),
  (942, .invokevirtual 119, 3, [0, 248, 2, 12, 9067, 9068, 9069, 1018], 0),
  (945, .if_icmp .eq 474, 3, [850], 0),
  (948, .iconst 0, 1, [], 0),
  (949, .ireturn, 1, [], 0),
  (950, .aload_n 1, 1, [1], 0),
  (951, .invokevirtual 120, 3, [0, 119, 0, 11, 5146, 5147, 5148, 1001], 0),
  (954, .aload_n 2, 1, [2], 0),
  (955, .invokevirtual 123, 3, [0, 252, 0, 12, 9083, 9084, 9085, 1018], 0),
  (958, .if_icmp .eq 461, 3, [850], 0),
  (961, .iconst 0, 1, [], 0),
  (962, .ireturn, 1, [], 0),
  (963, .aload_n 1, 1, [1], 0),
  (964, .aload_n 0, 1, [0], 0),
  (965, .iload 4, 2, [4], 0),
  (967, .iconst 1, 1, [], 1),
  (968, .iadd, 1, [], 0),
  (969, .iaload, 1, [], 0),
  (970, .invokevirtual 124, 3, [0, 125, 1, 11, 5171, 5172, 5173, 1001], 0),
  (973, .aload_n 2, 1, [2], 0),
  (974, .aload_n 0, 1, [0], 0),
  (975, .iload 4, 2, [4], 0),
  (977, .iconst 1, 1, [], 1),
  (978, .iadd, 1, [], 0),
  (979, .iaload, 1, [], 0),
  (980, .invokevirtual 127, 3, [0, 253, 1, 12, 9087, 9088, 9089, 1018], 0),
  (983, .if_icmp .eq 436, 3, [850], 0),
  (986, .iconst 0, 1, [], 0),
  (987, .ireturn, 1, [], 0),
  (988, .aload_n 1, 1, [1], 0),
  (989, .aload_n 0, 1, [0], 0),
  (990, .iload 4, 2, [4], 0),
  (992, .iconst 1, 1, [], 1),
  (993, .iadd, 1, [], 0),
  (994, .iaload, 1, [], 0),
  (995, .invokevirtual 128, 3, [0, 126, 1, 11, 5175, 5176, 5177, 1001], 0),
  (998, .aload_n 2, 1, [2], 0),
  (999, .aload_n 0, 1, [0], 0),
  (1000, .iload 4, 2, [4], 0),
  (1002, .iconst 1, 1, [], 1),
  (1003, .iadd, 1, [], 0),
  (1004, .iaload, 1, [], 0),
  (1005, .invokevirtual 131, 3, [0, 249, 1, 12, 9071, 9072, 9073, 1018], 0),
  (1008, .if_icmp .eq 411, 3, [850], 0),
  (1011, .iconst 0, 1, [], 0),
  (1012, .ireturn, 1, [], 0),
  (1013, .aload_n 1, 1, [1], 0),
  (1014, .invokevirtual 132, 3, [0, 127, 0, 11, 5179, 5180, 5181, 1001], 0),
  (1017, .aload_n 2, 1, [2], 0),
  (1018, .invokevirtual 135, 3, [0, 251, 0, 12, 9079, 9080, 9081, 1018], 0),
  (1021, .if_icmp .eq 398, 3, [850], 0),
  (1024, .iconst 0, 1, [], 0),
  (1025, .ireturn, 1, [], 0),
  (1026, .aload_n 1, 1, [1], 0),
  (1027, .invokevirtual 136, 3, [0, 128, 0, 11, 5183, 5184, 5185, 1001], 0),
  (1030, .aload_n 2, 1, [2], 0),
  (1031, .invokevirtual 139, 3, [0, 254, 0, 12, 9091, 9092, 9093, 1018], 0),
  (1034, .if_icmp .eq 385, 3, [850], 0),
  (1037, .iconst 0, 1, [], 0),
  (1038, .ireturn, 1, [], 0),
  (1039, .aload_n 1, 1, [1], 0),
  (1040, .aload_n 0, 1, [0], 0),
  (1041, .iload 4, 2, [4], 0),
  (1043, .iconst 1, 1, [], 1),
  (1044, .iadd, 1, [], 0),
  (1045, .iaload, 1, [], 0),
  (1046, .aload_n 3, 1, [3], 0),
  (1047, .invokestatic 140, 3, [7, 282, 3, 6200, 6201, 1000], 0),
  (1050, .istore 5, 2, [5], 0),
  (1052, .aload_n 2, 1, [2], 0),
  (1053, .aload_n 0, 1, [0], 0),
  (1054, .iload 4, 2, [4], 0),
  (1056, .iconst 1, 1, [], 1),
  (1057, .iadd, 1, [], 0),
  (1058, .iaload, 1, [], 0),
  (1059, .invokevirtual 143, 3, [0, 261, 1, 12, 9119, 9120, 9121, 1018], 0),
  (1062, .istore 6, 2, [6], 0),
  (1064, .aload_n 2, 1, [2], 0),
  (1065, .invokevirtual 54, 3, [0, 168, 0, 12, 6207, 6208, 6209, 1018], 0),
  (1068, .iload 5, 2, [5], 0),
  (1070, .if_icmp .eq 5, 3, [614], 0),
  (1073, .iconst 0, 1, [], 0),
  (1074, .ireturn, 1, [], 0),
  (1075, .iload 5, 2, [5], 0),
  (1077, .ifCond .ne 15, 3, [625], 0),
  (1080, .aload_n 3, 1, [3], 0),
  (1081, .iconst 0, 1, [], 0),
  (1082, .laload, 1, [], 0),
  (1083, .iload 6, 2, [6], 0),
  (1085, .i2l, 1, [], 0),
  (1086, .lcmp, 1, [], 0),
  (1087, .ifCond .eq 5, 3, [625], 0),
  (1090, .iconst 0, 1, [], 0),
  (1091, .ireturn, 1, [], 0),
  (1092, .goto 327, 3, [850], 0),
  (1095, .aload_n 1, 1, [1], 0),
  (1096, .invokevirtual 144, 3, [0, 141, 0, 11, 6002, 6003, 6004, 1001], 0),
  (1099, .aload_n 2, 1, [2], 0),
  (1100, .invokevirtual 147, 3, [0, 262, 0, 12, 9123, 9124, 9125, 1018], 0),
  (1103, .if_icmp .eq 316, 3, [850], 0),
  (1106, .iconst 0, 1, [], 0),
  (1107, .ireturn, 1, [], 0),
  (1108, .aload_n 1, 1, [1], 0),
  (1109, .aload_n 0, 1, [0], 0),
  (1110, .iload 4, 2, [4], 0),
  (1112, .iconst 1, 1, [], 1),
  (1113, .iadd, 1, [], 0),
  (1114, .iaload, 1, [], 0),
  (1115, .aload_n 0, 1, [0], 0),
  (1116, .iload 4, 2, [4], 0),
  (1118, .iconst 2, 1, [], 2),
  (1119, .iadd, 1, [], 0),
  (1120, .iaload, 1, [], 0),
  (1121, .invokevirtual 148, 3, [0, 144, 2, 11, 6014, 6015, 6016, 1001], 0),
  (1124, .aload_n 2, 1, [2], 0),
  (1125, .aload_n 0, 1, [0], 0),
  (1126, .iload 4, 2, [4], 0),
  (1128, .iconst 1, 1, [], 1),
  (1129, .iadd, 1, [], 0),
  (1130, .iaload, 1, [], 0),
  (1131, .aload_n 0, 1, [0], 0),
  (1132, .iload 4, 2, [4], 0),
  (1134, .iconst 2, 1, [], 2),
  (1135, .iadd, 1, [], 0),
  (1136, .iaload, 1, [], 0),
  (1137, .invokevirtual 151, 3, [0, 263, 2, 12, 9127, 9128, 9129, 1018], 0),
  (1140, .if_icmp .eq 279, 3, [850], 0),
  (1143, .iconst 0, 1, [], 0),
  (1144, .ireturn, 1, [], 0),
  (1145, .aload_n 1, 1, [1], 0),
  (1146, .invokevirtual 152, 3, [0, 147, 0, 11, 6026, 6027, 6028, 1001], 0),
  (1149, .aload_n 2, 1, [2], 0),
  (1150, .invokevirtual 155, 3, [0, 264, 0, 12, 9131, 9132, 9133, 1018], 0),
  (1153, .if_icmp .eq 266, 3, [850], 0),
  (1156, .iconst 0, 1, [], 0),
  (1157, .ireturn, 1, [], 0),
  (1158, .aload_n 1, 1, [1], 0),
  (1159, .invokevirtual 156, 3, [0, 148, 0, 11, 6030, 6031, 6032, 1001], 0),
  (1162, .aload_n 2, 1, [2], 0),
  (1163, .invokevirtual 159, 3, [0, 265, 0, 12, 9135, 9136, 9137, 1018], 0),
  (1166, .if_icmp .eq 253, 3, [850], 0),
  (1169, .iconst 0, 1, [], 0),
  (1170, .ireturn, 1, [], 0),
  (1171, .aload_n 1, 1, [1], 0),
  (1172, .invokevirtual 160, 3, [0, 151, 0, 11, 6042, 6043, 6044, 1001], 0),
  (1175, .aload_n 2, 1, [2], 0),
  (1176, .invokevirtual 163, 3, [0, 266, 0, 12, 9139, 9140, 9141, 1018], 0),
  (1179, .if_icmp .eq 240, 3, [850], 0),
  (1182, .iconst 0, 1, [], 0),
  (1183, .ireturn, 1, [], 0),
  (1184, .aload_n 1, 1, [1], 0),
  (1185, .invokevirtual 164, 3, [0, 154, 0, 11, 6056, 6057, 6058, 1001], 0),
  (1188, .aload_n 2, 1, [2], 0),
  (1189, .invokevirtual 167, 3, [0, 267, 0, 12, 9143, 9144, 9145, 1018], 0),
  (1192, .if_icmp .eq 227, 3, [850], 0),
  (1195, .iconst 0, 1, [], 0),
  (1196, .ireturn, 1, [], 0),
  (1197, .aload_n 1, 1, [1], 0),
  (1198, .aload_n 0, 1, [0], 0),
  (1199, .iload 4, 2, [4], 0),
  (1201, .iconst 1, 1, [], 1),
  (1202, .iadd, 1, [], 0),
  (1203, .iaload, 1, [], 0),
  (1204, .aload_n 0, 1, [0], 0),
  (1205, .iload 4, 2, [4], 0),
  (1207, .iconst 2, 1, [], 2),
  (1208, .iadd, 1, [], 0),
  (1209, .iaload, 1, [], 0),
  (1210, .aload_n 0, 1, [0], 0),
  (1211, .iload 4, 2, [4], 0),
  (1213, .iconst 3, 1, [], 3),
  (1214, .iadd, 1, [], 0),
  (1215, .iaload, 1, [], 0),
  (1216, .invokevirtual 168, 3, [0, 156, 3, 11, 6064, 6065, 6066, 1001], 0),
  (1219, .aload_n 2, 1, [2], 0),
  (1220, .aload_n 0, 1, [0], 0),
  (1221, .iload 4, 2, [4], 0),
  (1223, .iconst 1, 1, [], 1),
  (1224, .iadd, 1, [], 0),
  (1225, .iaload, 1, [], 0),
  (1226, .aload_n 0, 1, [0], 0),
  (1227, .iload 4, 2, [4], 0),
  (1229, .iconst 2, 1, [], 2),
  (1230, .iadd, 1, [], 0),
  (1231, .iaload, 1, [], 0),
  (1232, .aload_n 0, 1, [0], 0),
  (1233, .iload 4, 2, [4], 0),
  (1235, .iconst 3, 1, [], 3),
  (1236, .iadd, 1, [], 0),
  (1237, .iaload, 1, [], 0),
  (1238, .invokevirtual 171, 3, [0, 268, 3, 12, 9147, 9148, 9149, 1018], 0),
  (1241, .if_icmp .eq 178, 3, [850], 0),
  (1244, .iconst 0, 1, [], 0),
  (1245, .ireturn, 1, [], 0),
  (1246, .aload_n 1, 1, [1], 0),
  (1247, .aload_n 0, 1, [0], 0),
  (1248, .iload 4, 2, [4], 0),
  (1250, .iconst 1, 1, [], 1),
  (1251, .iadd, 1, [], 0),
  (1252, .iaload, 1, [], 0),
  (1253, .aload_n 0, 1, [0], 0),
  (1254, .iload 4, 2, [4], 0),
  (1256, .iconst 2, 1, [], 2),
  (1257, .iadd, 1, [], 0),
  (1258, .iaload, 1, [], 0),
  (1259, .aload_n 0, 1, [0], 0),
  (1260, .iload 4, 2, [4], 0),
  (1262, .iconst 3, 1, [], 3),
  (1263, .iadd, 1, [], 0),
  (1264, .iaload, 1, [], 0),
  (1265, .aload_n 0, 1, [0], 0),
  (1266, .iload 4, 2, [4], 0),
  (1268, .iconst 4, 1, [], 4),
  (1269, .iadd, 1, [], 0),
  (1270, .iaload, 1, [], 0),
  (1271, .invokevirtual 172, 3, [0, 157, 4, 11, 6068, 6069, 6070, 1001], 0),
  (1274, .aload_n 2, 1, [2], 0),
  (1275, .aload_n 0, 1, [0], 0),
  (1276, .iload 4, 2, [4], 0),
  (1278, .iconst 1, 1, [], 1),
  (1279, .iadd, 1, [], 0),
  (1280, .iaload, 1, [], 0),
  (1281, .aload_n 0, 1, [0], 0),
  (1282, .iload 4, 2, [4], 0),
  (1284, .iconst 2, 1, [], 2),
  (1285, .iadd, 1, [], 0),
  (1286, .iaload, 1, [], 0),
  (1287, .aload_n 0, 1, [0], 0),
  (1288, .iload 4, 2, [4], 0),
  (1290, .iconst 3, 1, [], 3),
  (1291, .iadd, 1, [], 0),
  (1292, .iaload, 1, [], 0),
  (1293, .aload_n 0, 1, [0], 0),
  (1294, .iload 4, 2, [4], 0),
  (1296, .iconst 4, 1, [], 4),
  (1297, .iadd, 1, [], 0),
  (1298, .iaload, 1, [], 0),
  (1299, .invokevirtual 176, 3, [0, 269, 4, 12, 9151, 9152, 9153, 1018], 0),
  (1302, .if_icmp .eq 117, 3, [850], 0),
  (1305, .iconst 0, 1, [], 0),
  (1306, .ireturn, 1, [], 0),
  (1307, .aload_n 1, 1, [1], 0),
  (1308, .aload_n 0, 1, [0], 0),
  (1309, .iload 4, 2, [4], 0),
  (1311, .iconst 1, 1, [], 1),
  (1312, .iadd, 1, [], 0),
  (1313, .iaload, 1, [], 0),
  (1314, .aload_n 0, 1, [0], 0),
  (1315, .iload 4, 2, [4], 0),
  (1317, .iconst 2, 1, [], 2),
  (1318, .iadd, 1, [], 0),
  (1319, .iaload, 1, [], 0),
  (1320, .invokevirtual 177, 3, [0, 159, 2, 11, 6076, 6077, 6078, 1001], 0),
  (1323, .aload_n 2, 1, [2], 0),
  (1324, .aload_n 0, 1, [0], 0),
  (1325, .iload 4, 2, [4], 0),
  (1327, .iconst 1, 1, [], 1),
  (1328, .iadd, 1, [], 0),
  (1329, .iaload, 1, [], 0),
  (1330, .aload_n 0, 1, [0], 0),
  (1331, .iload 4, 2, [4], 0),
  (1333, .iconst 2, 1, [], 2),
  (1334, .iadd, 1, [], 0),
  (1335, .iaload, 1, [], 0),
  (1336, .invokevirtual 180, 3, [0, 271, 2, 12, 9159, 9160, 9161, 1018], 0),
  (1339, .if_icmp .eq 80, 3, [850], 0),
  (1342, .iconst 0, 1, [], 0),
  (1343, .ireturn, 1, [], 0),
  (1344, .aload_n 1, 1, [1], 0),
  (1345, .aload_n 0, 1, [0], 0),
  (1346, .iload 4, 2, [4], 0),
  (1348, .iconst 1, 1, [], 1),
  (1349, .iadd, 1, [], 0),
  (1350, .iaload, 1, [], 0),
  (1351, .invokevirtual 181, 3, [0, 164, 1, 11, 6100, 6101, 6102, 1001], 0),
  (1354, .aload_n 2, 1, [2], 0),
  (1355, .aload_n 0, 1, [0], 0),
  (1356, .iload 4, 2, [4], 0),
  (1358, .iconst 1, 1, [], 1),
  (1359, .iadd, 1, [], 0),
  (1360, .iaload, 1, [], 0),
  (1361, .invokevirtual 184, 3, [0, 273, 1, 12, 9167, 9168, 9169, 1018], 0),
  (1364, .if_icmp .eq 55, 3, [850], 0),
  (1367, .iconst 0, 1, [], 0),
  (1368, .ireturn, 1, [], 0),
  (1369, .aload_n 1, 1, [1], 0),
  (1370, .aload_n 0, 1, [0], 0),
  (1371, .iload 4, 2, [4], 0),
  (1373, .iconst 1, 1, [], 1),
  (1374, .iadd, 1, [], 0),
  (1375, .iaload, 1, [], 0),
  (1376, .invokevirtual 185, 3, [0, 166, 1, 11, 6109, 6110, 6111, 1001], 0),
  (1379, .aload_n 2, 1, [2], 0),
  (1380, .aload_n 0, 1, [0], 0),
  (1381, .iload 4, 2, [4], 0),
  (1383, .iconst 1, 1, [], 1),
  (1384, .iadd, 1, [], 0),
  (1385, .iaload, 1, [], 0),
  (1386, .invokevirtual 188, 3, [0, 274, 1, 12, 9171, 9172, 9173, 1018], 0),
  (1389, .if_icmp .eq 30, 3, [850], 0),
  (1392, .iconst 0, 1, [], 0),
  (1393, .ireturn, 1, [], 0),
  (1394, .aload_n 1, 1, [1], 0),
  (1395, .aload_n 0, 1, [0], 0),
  (1396, .iload 4, 2, [4], 0),
  (1398, .iconst 1, 1, [], 1),
  (1399, .iadd, 1, [], 0),
  (1400, .iaload, 1, [], 0),
  (1401, .invokevirtual 189, 3, [0, 167, 1, 11, 6113, 6114, 6115, 1001], 0),
  (1404, .aload_n 2, 1, [2], 0),
  (1405, .aload_n 0, 1, [0], 0),
  (1406, .iload 4, 2, [4], 0),
  (1408, .iconst 1, 1, [], 1),
  (1409, .iadd, 1, [], 0),
  (1410, .iaload, 1, [], 0),
  (1411, .invokevirtual 192, 3, [0, 275, 1, 12, 9175, 9176, 9177, 1018], 0),
  (1414, .if_icmp .eq 5, 3, [850], 0),
  (1417, .iconst 0, 1, [], 0),
  (1418, .ireturn, 1, [], 0),
  (1419, .iinc 4 6, 3, [4], 6),
  (1422, .goto (-1399), 3, [13], 0),
  (1425, .iconst 1, 1, [], 1),
  (1426, .ireturn, 1, [], 0)]
def cdML : List (List Ent) := [cd_X_init, [], cd_Village_init, cd_Plan_init, cd_Book_init, cd_Image_init, cd_Terms_init, cd_Ways_init, cd_Meeting_init, cd_Day_init, cd_Ring_init, cd_Told_init, cd_X_feed, cd_X_feedNumber, cd_X_end, cd_X_village, cd_X_takeTape, cd_Tokens_start, cd_Tokens_advance, cd_Tokens_isDigit, cd_Tokens_isLetter, cd_Tokens_takeRun, cd_Tokens_takeWord, cd_Village_read, cd_Village_clear, cd_Village_line, cd_Tokens_word, cd_Village_whoLine, cd_Tokens_fail, cd_Village_isNewName, cd_Tokens_isName, cd_Village_indexOf, cd_Tokens_takeValue, cd_Tokens_skipWord, cd_Tokens_isNumber, cd_Village_join, cd_Village_sortLine, cd_Village_makesLine, cd_Village_takePerson, cd_Village_person, cd_Village_takeSort, cd_Village_addUnit, cd_Village_wantsLine, cd_Village_givesLine, cd_Village_lawLine, cd_Tokens_semicolon, cd_Tokens_faultAnswer, cd_Village_copy, cd_X_copyAll, cd_X_fault, cd_X_giving, cd_Village_hasPerson, cd_X_way, cd_Village_hasUnit, cd_Village_hasWant, cd_X_asTold, cd_Terms_reset, cd_Meeting_weigh, cd_Ways_walkAll, cd_Ways_walkUnit, cd_Village_firsts, cd_Village_ofUnit, cd_Ways_measureRooms, cd_Village_ofWant, cd_Ways_onward, cd_Ways_arrive, cd_X_has, cd_Village_lets, cd_Ways_step, cd_Meeting_choose, cd_Meeting_takenAsking, cd_Ways_asking, cd_Meeting_solve, cd_Meeting_bestOfSort, cd_Village_wantsOfSort, cd_Meeting_meetBy, cd_Meeting_appraise, cd_Meeting_taken, cd_Ways_cost, cd_Meeting_digitOf, cd_Ways_path, cd_Told_keepWay, cd_Ways_handOf, cd_Ways_hours, cd_Ways_pains, cd_X_hand, cd_X_most, cd_Meeting_matched, cd_Meeting_lookAround, cd_X_bars, cd_Meeting_barring, cd_X_best, cd_Meeting_sum, cd_Meeting_metCount, cd_Meeting_painsMet, cd_Meeting_unitFor, cd_X_bestOf, cd_X_plan, cd_Plan_read, cd_Plan_readAct, cd_Plan_add, cd_Plan_copy, cd_X_drawn, cd_Plan_draw, cd_Plan_next, cd_X_judge, cd_Day_go, cd_Day_begin, cd_Day_doAct, cd_Day_give, cd_Day_giver, cd_Day_use, cd_Day_wantMet, cd_Day_close, cd_X_judged, cd_X_holds, cd_X_ways, cd_X_supposing, cd_X_latest, cd_X_rest, cd_X_askAnew, cd_Meeting_middleAsk, cd_Meeting_timesMet, cd_Ways_timesBetween, cd_Told_keepAsks, cd_X_restOf, cd_X_middle, cd_X_middleBy, cd_X_ring, cd_Ring_take, cd_Ring_closes, cd_Ring_painsFrom, cd_Ring_at, cd_Ring_spot, cd_Ring_reckon, cd_Ring_madeBy, cd_Ring_goes, cd_Ring_send, cd_Ring_worth, cd_Told_keepGains, cd_Ring_losers, cd_X_lasts, cd_Ring_members, cd_Ring_leave, cd_X_quarrel, cd_Village_allWants, cd_Meeting_metWants, cd_X_starves, cd_X_mend, cd_X_mendedMost, cd_Meeting_find, cd_X_live, cd_X_livesBy, cd_Village_wantsOf, cd_X_stop, cd_X_stopsBy, cd_X_other, cd_X_note, cd_Book_add, cd_X_lies, cd_Book_found, cd_Book_sort, cd_Book_areTrue, cd_Book_holder, cd_X_image, cd_Book_copy, cd_X_restore, cd_X_count, cd_M_thrown, cd_M_feed, cd_M_four, cd_M_end, cd_M_init, cd_M_village, cd_M_taken, cd_M_next, cd_M_peek, cd_M_isSmall, cd_M_isDigit, cd_M_line, cd_M_isWord, cd_M_readWho, cd_M_bad, cd_M_fresh, cd_M_isName, cd_M_find, cd_M_takes, cd_M_isIn, cd_M_readSort, cd_M_readMakes, cd_M_takesWho, cd_M_takesSort, cd_M_readWants, cd_M_readGives, cd_M_readLaw, cd_M_sign, cd_M_isSign, cd_M_fault, cd_M_unit, cd_M_isUnit, cd_M_throwsIf, cd_M_spoils, cd_M_sortOf, cd_M_want, cd_M_isWant, cd_M_giving, cd_M_isWho, cd_M_way, cd_M_asTold, cd_M_weigh, cd_M_areFirsts, cd_M_has, cd_M_weighUnit, cd_M_begin, cd_M_nextRow, cd_M_away, cd_M_mayCome, cd_M_isFirst, cd_M_put, cd_M_lastHour, cd_M_isWay, cd_M_hand, cd_M_most, cd_M_mostMet, cd_M_meets, cd_M_count1, cd_M_bars, cd_M_best, cd_M_bestDay, cd_M_seventeen, cd_M_bestOf, cd_M_plan, cd_M_act0, cd_M_keepPlan, cd_M_drawn, cd_M_draw, cd_M_act2, cd_M_judge, cd_M_does, cd_M_whyNoUse, cd_M_whyNot, cd_M_wantFor, cd_M_giver, cd_M_lesserFirst, cd_M_forbids, cd_M_judged, cd_M_holds, cd_M_ways, cd_M_latest, cd_M_middle, cd_M_asksBest, cd_M_middleBy, cd_M_rest, cd_M_restOf, cd_M_ring, cd_M_isRing, cd_M_octet, cd_M_goesRound, cd_M_gain0, cd_M_unitBy, cd_M_goesOn, cd_M_gain1, cd_M_lasts, cd_M_quarrel, cd_M_starves, cd_M_mend, cd_M_live, cd_M_stop, cd_M_other, cd_M_note, cd_M_notesOf, cd_M_lies, cd_M_areTrue, cd_M_image, cd_M_restore, cd_M_count, cd_JA_fillI, cd_JA_fillL, cd_JI_bitCount, [], [], [], []]
def cdM (j : Nat) : List Ent := nthA [] cdML j
end
section

/-! calls by depth; the methods' contracts out of the small machine -/
def tokL : List Int := [16998, 411, 33850, 385418, 6936589, 459818, 12253591, 79, 3913426, 8798, 1132, 3379448, 305537, 10941229, 144941, 15827, 453701]
def tokF : Nat → Int := fun j => if j < 17 then nthA 0 tokL j else 0
def tokW (w : Wd) : Wd := ub (ub (ubf (mkNew w) 3 tokF) 2 1 1) 2 0 1
def extTok (argv : List MV) (w : Wd) (Q : MV → Wd → Prop) : Prop := argv = [mR 2, mR 1] ∧ w 401 0 = 3 ∧ Q none (tokW w)
def extG (ok : Prop) (v : Int) (w : Wd) (Q : MV → Wd → Prop) : Prop := w 401 1 < 512 ∧ (ok → Q (mI 0) (ub (ub w 185 0 v) 401 1 (w 401 1 + 1))) ∧ (¬ ok → Q (mI 1) (ub w 401 1 (w 401 1 + 1)))
def extUnit (argv : List MV) (w : Wd) (Q : MV → Wd → Prop) : Prop := ∃ u what, argv = [mR 0, mI u, mI what, mR 185] ∧ (0 ≤ w 4 8 ∧ w 4 8 ≤ 16) ∧ extG (((0 ≤ u ∧ u < w 4 8) ∧ 0 ≤ what) ∧ what < 5) (w 11 (u * 5 + what).toNat) w Q
def extWant (argv : List MV) (w : Wd) (Q : MV → Wd → Prop) : Prop := ∃ u what, argv = [mR 0, mI u, mI what, mR 185] ∧ (0 ≤ w 4 11 ∧ w 4 11 ≤ 8) ∧ extG (((0 ≤ u ∧ u < w 4 11) ∧ 0 ≤ what) ∧ what < 4) (w 13 (u * 4 + what).toNat) w Q
def extAct (argv : List MV) (w : Wd) (Q : MV → Wd → Prop) : Prop := ∃ i what, argv = [mR 0, mI i, mI what, mR 185] ∧ (0 ≤ w 28 0 ∧ w 28 0 ≤ 50) ∧ extG (((0 ≤ i ∧ i < w 28 0) ∧ 0 ≤ what) ∧ what < 3) (if what = 0 then w 29 i.toNat else if what = 1 then w 30 i.toNat else w 31 i.toNat) w Q
def extGain (argv : List MV) (w : Wd) (Q : MV → Wd → Prop) : Prop := ∃ i, argv = [mR 0, mI i, mR 185] ∧ (0 ≤ w 140 5 ∧ w 140 5 ≤ 8) ∧ extG (0 ≤ i ∧ i < w 140 5) (w 143 i.toNat) w Q
def Cw : Nat → CWt
  | 0 => fun _ _ _ _ => False
  | d + 1 => fun j argv w Q => if j = 1 then extTok argv w Q else if j = 279 then extUnit argv w Q else if j = 280 then extWant argv w Q else if j = 281 then extAct argv w Q else if j = 282 then extGain argv w Q
    else (fArgs argv).length ≤ mxM j ∧ Wp (Cw d) (cdM j) (rkM j, phM j, w 401 0 + (nAl j : Int)) (fun v w' => if phM j = 1 then w' 401 0 = w 401 0 + (nAl j : Int) ∧ Q v w' else Q v w') 0 (mkLoc (mxM j) argv) [] w
theorem extG_mono {ok : Prop} {v : Int} {w : Wd} {Q Q' : MV → Wd → Prop} (hQ : ∀ r w, Q r w → Q' r w) (h : extG ok v w Q) : extG ok v w Q' := ⟨h.1, fun q => hQ _ _ (h.2.1 q), fun q => hQ _ _ (h.2.2 q)⟩
theorem Cw_mono : ∀ (d j : Nat) (a : List MV) (w : Wd) (Q Q' : MV → Wd → Prop), (∀ r w, Q r w → Q' r w) → Cw d j a w Q → Cw d j a w Q'
  | 0, _, _, _, _, _, _, h => h
  | d + 1, j, a, w, Q, Q', hQ, h => by
    unfold Cw at h ⊢
    by_cases q1 : j = 1
    · rw [if_pos q1] at h ⊢; exact ⟨h.1, h.2.1, hQ _ _ h.2.2⟩
    · rw [if_neg q1] at h ⊢
      by_cases q2 : j = 279
      · rw [if_pos q2] at h ⊢; obtain ⟨u, x, h1, h2, h3⟩ := h; exact ⟨u, x, h1, h2, extG_mono hQ h3⟩
      · rw [if_neg q2] at h ⊢
        by_cases q3 : j = 280
        · rw [if_pos q3] at h ⊢; obtain ⟨u, x, h1, h2, h3⟩ := h; exact ⟨u, x, h1, h2, extG_mono hQ h3⟩
        · rw [if_neg q3] at h ⊢
          by_cases q4 : j = 281
          · rw [if_pos q4] at h ⊢; obtain ⟨u, x, h1, h2, h3⟩ := h; exact ⟨u, x, h1, h2, extG_mono hQ h3⟩
          · rw [if_neg q4] at h ⊢
            by_cases q5 : j = 282
            · rw [if_pos q5] at h ⊢; obtain ⟨u, h1, h2, h3⟩ := h; exact ⟨u, h1, h2, extG_mono hQ h3⟩
            · rw [if_neg q5] at h ⊢
              refine ⟨h.1, Wp.mono (fun j a w Q Q' => Cw_mono d j a w Q Q') (fun r w' hq => ?_) h.2⟩
              by_cases z : phM j = 1
              · rw [if_pos z] at hq ⊢; exact ⟨hq.1, hQ _ _ hq.2⟩
              · rw [if_neg z] at hq ⊢; exact hQ _ _ hq
/-- one step back, in a method -/
theorem Wp.s {d : Nat} {cd : List Ent} {pr : Pr} {Q : MV → Wd → Prop} {i : Nat} {l s : List MV} {w : Wd} (h : F (Cw d) cd pr Q (Wp (Cw d) cd pr Q) i l s w) : Wp (Cw d) cd pr Q i l s w := Wp.st (fun j a w Q Q' => Cw_mono d j a w Q Q') h
theorem Cw_in {d j : Nat} {argv : List MV} {w : Wd} {Q : MV → Wd → Prop} (hj : ¬ j = 1 ∧ j < 279) (hp : ¬ phM j = 1) (hlen : (fArgs argv).length ≤ mxM j) (h : ∀ n1, Wp (Cw d) (cdM j) (rkM j, phM j, n1) Q 0 (mkLoc (mxM j) argv) [] w) : Cw (d + 1) j argv w Q := by
  unfold Cw
  rw [if_neg hj.1, if_neg (by omega), if_neg (by omega), if_neg (by omega), if_neg (by omega)]
  refine ⟨hlen, Wp.mono (fun j a w Q Q' => Cw_mono d j a w Q Q') (fun r w' hq => ?_) (h _)⟩
  rw [if_neg hp]; exact hq
end
section
/-! numbers: Int against the machine's words -/
def in32 (x : Int) : Prop := -2147483648 ≤ x ∧ x < 2147483648
def in64 (x : Int) : Prop := -9223372036854775808 ≤ x ∧ x < 9223372036854775808
theorem k3i_rt {x : Int} (h : in32 x) : (Int32.ofInt x).toInt = x := Int32.toInt_ofInt_of_le (by have := h.1; omega) (by have := h.2; omega)
theorem k3l_rt {x : Int} (h : in64 x) : (Int64.ofInt x).toInt = x := Int64.toInt_ofInt_of_le (by have := h.1; omega) (by have := h.2; omega)
theorem k3i_in (y : Int32) : in32 y.toInt := by
  have h1 := Int32.le_toInt y
  have h2 := Int32.toInt_lt y
  unfold in32
  omega
theorem k3l_in (y : Int64) : in64 y.toInt := by
  have h1 := Int64.le_toInt y
  have h2 := Int64.toInt_lt y
  unfold in64
  omega
theorem k3i_back (y : Int32) : Int32.ofInt y.toInt = y := Int32.ofInt_toInt y
theorem k3l_back (y : Int64) : Int64.ofInt y.toInt = y := Int64.ofInt_toInt y
theorem w32_toInt (x : Int) : w32 x = (Int32.ofInt x).toInt := by rw [Int32.toInt_ofInt]; rfl
theorem w64_toInt (x : Int) : w64 x = (Int64.ofInt x).toInt := by rw [Int64.toInt_ofInt]; rfl
theorem w32_in (x : Int) : in32 (w32 x) := by rw [w32_toInt]; exact k3i_in _
theorem w64_in (x : Int) : in64 (w64 x) := by rw [w64_toInt]; exact k3l_in _
theorem w32_of (x : Int) : Int32.ofInt (w32 x) = Int32.ofInt x := by rw [w32_toInt, k3i_back]
theorem w64_of (x : Int) : Int64.ofInt (w64 x) = Int64.ofInt x := by rw [w64_toInt, k3l_back]
theorem w32_id {x : Int} (h : in32 x) : w32 x = x := by rw [w32_toInt, k3i_rt h]
theorem w64_id {x : Int} (h : in64 x) : w64 x = x := by rw [w64_toInt, k3l_rt h]
theorem k3i_add (a b : Int) : Int32.ofInt a + Int32.ofInt b = Int32.ofInt (w32 (a + b)) := by rw [w32_of, Int32.ofInt_add]
theorem k3i_sub (a b : Int) : Int32.ofInt a - Int32.ofInt b = Int32.ofInt (w32 (a - b)) := by rw [w32_of, Int32.ofInt_sub]
theorem k3i_mul (a b : Int) : Int32.ofInt a * Int32.ofInt b = Int32.ofInt (w32 (a * b)) := by rw [w32_of, Int32.ofInt_mul]
theorem k3l_add (a b : Int) : Int64.ofInt a + Int64.ofInt b = Int64.ofInt (w64 (a + b)) := by rw [w64_of, Int64.ofInt_add]
theorem k3l_sub (a b : Int) : Int64.ofInt a - Int64.ofInt b = Int64.ofInt (w64 (a - b)) := by rw [w64_of, Int64.ofInt_sub]
theorem k3l_mul (a b : Int) : Int64.ofInt a * Int64.ofInt b = Int64.ofInt (w64 (a * b)) := by rw [w64_of, Int64.ofInt_mul]
theorem k3i_eq {a b : Int} (ha : in32 a) (hb : in32 b) : Int32.ofInt a = Int32.ofInt b ↔ a = b := by
  constructor
  · intro h
    have := congrArg Int32.toInt h
    rwa [k3i_rt ha, k3i_rt hb] at this
  · intro h; rw [h]
theorem k3i_lt {a b : Int} (ha : in32 a) (hb : in32 b) : Int32.ofInt a < Int32.ofInt b ↔ a < b := by rw [Int32.lt_iff_toInt_lt, k3i_rt ha, k3i_rt hb]
theorem k3i_le {a b : Int} (ha : in32 a) (hb : in32 b) : Int32.ofInt a ≤ Int32.ofInt b ↔ a ≤ b := by rw [Int32.le_iff_toInt_le, k3i_rt ha, k3i_rt hb]
theorem k3l_lt {a b : Int} (ha : in64 a) (hb : in64 b) : Int64.ofInt a < Int64.ofInt b ↔ a < b := by rw [Int64.lt_iff_toInt_lt, k3l_rt ha, k3l_rt hb]
theorem k3l_eq {a b : Int} (ha : in64 a) (hb : in64 b) : Int64.ofInt a = Int64.ofInt b ↔ a = b := by
  constructor
  · intro h
    have := congrArg Int64.toInt h
    rwa [k3l_rt ha, k3l_rt hb] at this
  · intro h; rw [h]
theorem in32_0 : in32 0 := by unfold in32; omega
theorem k3i_z : (0 : Int32) = Int32.ofInt 0 := rfl
theorem k3i_div {a b : Int} (ha : in32 a) (hb : in32 b) : Int32.ofInt a / Int32.ofInt b = Int32.ofInt (w32 (a.tdiv b)) := by
  rw [w32_toInt, k3i_back]
  apply Int32.toInt_inj.mp
  rw [Int32.toInt_div, k3i_rt ha, k3i_rt hb, Int32.toInt_ofInt]
theorem k3l_div {a b : Int} (ha : in64 a) (hb : in64 b) : Int64.ofInt a / Int64.ofInt b = Int64.ofInt (w64 (a.tdiv b)) := by
  rw [w64_toInt, k3l_back]
  apply Int64.toInt_inj.mp
  rw [Int64.toInt_div, k3l_rt ha, k3l_rt hb, Int64.toInt_ofInt]
theorem tmod_in32 {a b : Int} (ha : in32 a) (hb : in32 b) (h0 : ¬ b = 0) : in32 (a.tmod b) := by
  have h1 : (Int32.ofInt a % Int32.ofInt b).toInt = a.tmod b := by rw [Int32.toInt_mod, k3i_rt ha, k3i_rt hb]
  rw [← h1]; exact k3i_in _
theorem tmod_in64 {a b : Int} (ha : in64 a) (hb : in64 b) (h0 : ¬ b = 0) : in64 (a.tmod b) := by
  have h1 : (Int64.ofInt a % Int64.ofInt b).toInt = a.tmod b := by rw [Int64.toInt_mod, k3l_rt ha, k3l_rt hb]
  rw [← h1]; exact k3l_in _
theorem k3i_rem {a b : Int} (ha : in32 a) (hb : in32 b) (h0 : ¬ b = 0) : Int32.ofInt a - Int32.ofInt a / Int32.ofInt b * Int32.ofInt b = Int32.ofInt (a.tmod b) := by
  apply Int32.toInt_inj.mp
  rw [rem_toInt, k3i_rt ha, k3i_rt hb, k3i_rt (tmod_in32 ha hb h0)]
theorem k3l_rem {a b : Int} (ha : in64 a) (hb : in64 b) (h0 : ¬ b = 0) : Int64.ofInt a - Int64.ofInt a / Int64.ofInt b * Int64.ofInt b = Int64.ofInt (a.tmod b) := by
  apply Int64.toInt_inj.mp
  rw [Jvm.Kit.i64_rem, k3l_rt ha, k3l_rt hb, k3l_rt (tmod_in64 ha hb h0)]
theorem i2l_of {a : Int} (ha : in32 a) : (Int32.ofInt a).toInt64 = Int64.ofInt a := by
  apply Int64.toInt_inj.mp
  rw [Int32.toInt_toInt64, k3i_rt ha, k3l_rt]
  unfold in32 at ha; unfold in64; omega
theorem l2i_of (a : Int) : (Int64.ofInt a).toInt32 = Int32.ofInt (w32 a) := by
  rw [w32_of]; exact Int64.toInt32_ofInt
theorem in32_64 {x : Int} (h : in32 x) : in64 x := by unfold in32 at h; unfold in64; omega
theorem cmp3_of {a b : Int} (ha : in64 a) (hb : in64 b) : lg_cmp (Int64.ofInt a) (Int64.ofInt b) = Int32.ofInt (cmp3 a b) := by
  unfold lg_cmp cmp3
  by_cases h1 : a < b
  · rw [if_pos h1, if_neg (fun h => by have := (k3l_lt hb ha).mp h; omega), if_neg (fun h => by have := (k3l_eq ha hb).mp h; omega)]; rfl
  · by_cases h2 : a = b
    · subst h2
      rw [if_neg h1, if_pos rfl, if_neg (fun h => h1 ((k3l_lt ha ha).mp h)), if_pos rfl]; rfl
    · rw [if_neg h1, if_neg h2, if_pos ((k3l_lt hb ha).mpr (by omega))]; rfl
theorem cmp3_in (a b : Int) : in32 (cmp3 a b) := by
  unfold cmp3 in32
  split
  · omega
  · split <;> omega
theorem ix_nat {j : Int} (h : in32 j) : (Int32.ofInt j).toNatClampNeg = j.toNat := by rw [Int32.toNatClampNeg, k3i_rt h]
theorem ix_in {j : Int} (h : in32 j) {n : Nat} (h0 : 0 ≤ j) (h1 : j < n) : vp_in (Int32.ofInt j) n := by rw [vp_in_iff, k3i_rt h]; exact ⟨h0, h1⟩
theorem mx32 {a b : Int} (ha : in32 a) (hb : in32 b) : (if Int32.ofInt a < Int32.ofInt b then Int32.ofInt b else Int32.ofInt a) = Int32.ofInt (max a b) := by
  by_cases h : a < b
  · rw [if_pos ((k3i_lt ha hb).mpr h), Int.max_eq_right (by omega)]
  · rw [if_neg (fun q => h ((k3i_lt ha hb).mp q)), Int.max_eq_left (by omega)]
theorem mn32 {a b : Int} (ha : in32 a) (hb : in32 b) : (if Int32.ofInt b < Int32.ofInt a then Int32.ofInt b else Int32.ofInt a) = Int32.ofInt (min a b) := by
  by_cases h : b < a
  · rw [if_pos ((k3i_lt hb ha).mpr h), Int.min_eq_right (by omega)]
  · rw [if_neg (fun q => h ((k3i_lt hb ha).mp q)), Int.min_eq_left (by omega)]
theorem mx64 {a b : Int} (ha : in64 a) (hb : in64 b) : (if Int64.ofInt b < Int64.ofInt a then Int64.ofInt a else Int64.ofInt b) = Int64.ofInt (max a b) := by
  by_cases h : b < a
  · rw [if_pos ((k3l_lt hb ha).mpr h), Int.max_eq_left (by omega)]
  · rw [if_neg (fun q => h ((k3l_lt hb ha).mp q)), Int.max_eq_right (by omega)]
theorem mxin32 {a b : Int} (ha : in32 a) (hb : in32 b) : in32 (max a b) := by unfold in32 at *; omega
theorem mnin32 {a b : Int} (ha : in32 a) (hb : in32 b) : in32 (min a b) := by unfold in32 at *; omega
theorem mxin64 {a b : Int} (ha : in64 a) (hb : in64 b) : in64 (max a b) := by unfold in64 at *; omega
theorem mnin64 {a b : Int} (ha : in64 a) (hb : in64 b) : in64 (min a b) := by unfold in64 at *; omega
theorem ubf_self (w : Wd) (h : Nat) (f : Nat → Int) : ubf w h f h = f := by unfold ubf; rw [if_pos rfl]
theorem ubf_ne {w : Wd} {h h' : Nat} (f : Nat → Int) (q : ¬ h' = h) : ubf w h f h' = w h' := by unfold ubf; rw [if_neg q]
theorem ub_ubf (w : Wd) (h j : Nat) (x : Int) : ub w h j x = ubf w h (up1 (w h) j x) := rfl
theorem ub_ne {w : Wd} {h h' : Nat} (j : Nat) (x : Int) (q : ¬ h' = h) : ub w h j x h' = w h' := ubf_ne _ q
theorem ub_self (w : Wd) (h j : Nat) (x : Int) : ub w h j x h = up1 (w h) j x := ubf_self _ _ _
theorem up1_self (f : Nat → Int) (j : Nat) (x : Int) : up1 f j x j = x := by unfold up1; rw [if_pos rfl]
theorem up1_ne {f : Nat → Int} {i j : Nat} (x : Int) (q : ¬ j = i) : up1 f i x j = f j := by unfold up1; rw [if_neg q]
end
section
/-- a private method of a class that the tables say can be made, by its rows of tables_1 -/
def lw_okq (q : MethodName × Nat) : Prop := (q.1.cls ≠ "java/lang/invoke/MethodHandle" ∧ q.1.cls ≠ "java/lang/invoke/VarHandle") ∧ Cond.instantiable q.1.cls q.2 ∈ tables_1 ∧ Cond.privateMethod q.1 ∈ tables_1 ∧ Cond.instanceMethod q.1 ∈ tables_1
theorem lw_p0 : lw_okq (⟨"ThirdHands", "feedNumber", "(I)V"⟩, 16) := ⟨⟨by decide +kernel, by decide +kernel⟩, List.mem_of_getElem? (i := 27) (by decide +kernel), List.mem_of_getElem? (i := 626) (by decide +kernel), List.mem_of_getElem? (i := 627) (by decide +kernel)⟩
theorem lw_p1 : lw_okq (⟨"ThirdHands", "takeTape", "()I"⟩, 16) := ⟨⟨by decide +kernel, by decide +kernel⟩, List.mem_of_getElem? (i := 27) (by decide +kernel), List.mem_of_getElem? (i := 638) (by decide +kernel), List.mem_of_getElem? (i := 639) (by decide +kernel)⟩
theorem lw_p2 : lw_okq (⟨"ThirdHands$Tokens", "takeRun", "(II)V"⟩, 9) := ⟨⟨by decide +kernel, by decide +kernel⟩, List.mem_of_getElem? (i := 35) (by decide +kernel), List.mem_of_getElem? (i := 659) (by decide +kernel), List.mem_of_getElem? (i := 660) (by decide +kernel)⟩
theorem lw_p3 : lw_okq (⟨"ThirdHands$Tokens", "takeWord", "(I)V"⟩, 9) := ⟨⟨by decide +kernel, by decide +kernel⟩, List.mem_of_getElem? (i := 35) (by decide +kernel), List.mem_of_getElem? (i := 663) (by decide +kernel), List.mem_of_getElem? (i := 664) (by decide +kernel)⟩
theorem lw_p4 : lw_okq (⟨"ThirdHands$Village", "clear", "()V"⟩, 18) := ⟨⟨by decide +kernel, by decide +kernel⟩, List.mem_of_getElem? (i := 124) (by decide +kernel), List.mem_of_getElem? (i := 671) (by decide +kernel), List.mem_of_getElem? (i := 672) (by decide +kernel)⟩
theorem lw_p5 : lw_okq (⟨"ThirdHands$Village", "line", "(LThirdHands$Tokens;)Z"⟩, 18) := ⟨⟨by decide +kernel, by decide +kernel⟩, List.mem_of_getElem? (i := 124) (by decide +kernel), List.mem_of_getElem? (i := 675) (by decide +kernel), List.mem_of_getElem? (i := 676) (by decide +kernel)⟩
theorem lw_p6 : lw_okq (⟨"ThirdHands$Village", "whoLine", "(LThirdHands$Tokens;)Z"⟩, 18) := ⟨⟨by decide +kernel, by decide +kernel⟩, List.mem_of_getElem? (i := 124) (by decide +kernel), List.mem_of_getElem? (i := 683) (by decide +kernel), List.mem_of_getElem? (i := 684) (by decide +kernel)⟩
theorem lw_p7 : lw_okq (⟨"ThirdHands$Village", "isNewName", "(LThirdHands$Tokens;)Z"⟩, 18) := ⟨⟨by decide +kernel, by decide +kernel⟩, List.mem_of_getElem? (i := 124) (by decide +kernel), List.mem_of_getElem? (i := 692) (by decide +kernel), List.mem_of_getElem? (i := 693) (by decide +kernel)⟩
theorem lw_p8 : lw_okq (⟨"ThirdHands$Village", "join", "(I)V"⟩, 18) := ⟨⟨by decide +kernel, by decide +kernel⟩, List.mem_of_getElem? (i := 124) (by decide +kernel), List.mem_of_getElem? (i := 717) (by decide +kernel), List.mem_of_getElem? (i := 718) (by decide +kernel)⟩
theorem lw_p9 : lw_okq (⟨"ThirdHands$Village", "sortLine", "(LThirdHands$Tokens;)Z"⟩, 18) := ⟨⟨by decide +kernel, by decide +kernel⟩, List.mem_of_getElem? (i := 124) (by decide +kernel), List.mem_of_getElem? (i := 721) (by decide +kernel), List.mem_of_getElem? (i := 722) (by decide +kernel)⟩
theorem lw_p10 : lw_okq (⟨"ThirdHands$Village", "makesLine", "(LThirdHands$Tokens;)Z"⟩, 18) := ⟨⟨by decide +kernel, by decide +kernel⟩, List.mem_of_getElem? (i := 124) (by decide +kernel), List.mem_of_getElem? (i := 725) (by decide +kernel), List.mem_of_getElem? (i := 726) (by decide +kernel)⟩
theorem lw_p11 : lw_okq (⟨"ThirdHands$Village", "takePerson", "(LThirdHands$Tokens;I)I"⟩, 18) := ⟨⟨by decide +kernel, by decide +kernel⟩, List.mem_of_getElem? (i := 124) (by decide +kernel), List.mem_of_getElem? (i := 729) (by decide +kernel), List.mem_of_getElem? (i := 730) (by decide +kernel)⟩
theorem lw_p12 : lw_okq (⟨"ThirdHands$Village", "takeSort", "(LThirdHands$Tokens;)I"⟩, 18) := ⟨⟨by decide +kernel, by decide +kernel⟩, List.mem_of_getElem? (i := 124) (by decide +kernel), List.mem_of_getElem? (i := 737) (by decide +kernel), List.mem_of_getElem? (i := 738) (by decide +kernel)⟩
theorem lw_p13 : lw_okq (⟨"ThirdHands$Village", "addUnit", "(IIIII)V"⟩, 18) := ⟨⟨by decide +kernel, by decide +kernel⟩, List.mem_of_getElem? (i := 124) (by decide +kernel), List.mem_of_getElem? (i := 741) (by decide +kernel), List.mem_of_getElem? (i := 742) (by decide +kernel)⟩
theorem lw_p14 : lw_okq (⟨"ThirdHands$Village", "wantsLine", "(LThirdHands$Tokens;)Z"⟩, 18) := ⟨⟨by decide +kernel, by decide +kernel⟩, List.mem_of_getElem? (i := 124) (by decide +kernel), List.mem_of_getElem? (i := 745) (by decide +kernel), List.mem_of_getElem? (i := 746) (by decide +kernel)⟩
theorem lw_p15 : lw_okq (⟨"ThirdHands$Village", "givesLine", "(LThirdHands$Tokens;)Z"⟩, 18) := ⟨⟨by decide +kernel, by decide +kernel⟩, List.mem_of_getElem? (i := 124) (by decide +kernel), List.mem_of_getElem? (i := 749) (by decide +kernel), List.mem_of_getElem? (i := 750) (by decide +kernel)⟩
def lw_privs_1 : List (MethodName × Nat) := [(⟨"ThirdHands", "feedNumber", "(I)V"⟩, 16), (⟨"ThirdHands", "takeTape", "()I"⟩, 16), (⟨"ThirdHands$Tokens", "takeRun", "(II)V"⟩, 9), (⟨"ThirdHands$Tokens", "takeWord", "(I)V"⟩, 9), (⟨"ThirdHands$Village", "clear", "()V"⟩, 18), (⟨"ThirdHands$Village", "line", "(LThirdHands$Tokens;)Z"⟩, 18), (⟨"ThirdHands$Village", "whoLine", "(LThirdHands$Tokens;)Z"⟩, 18), (⟨"ThirdHands$Village", "isNewName", "(LThirdHands$Tokens;)Z"⟩, 18), (⟨"ThirdHands$Village", "join", "(I)V"⟩, 18), (⟨"ThirdHands$Village", "sortLine", "(LThirdHands$Tokens;)Z"⟩, 18), (⟨"ThirdHands$Village", "makesLine", "(LThirdHands$Tokens;)Z"⟩, 18), (⟨"ThirdHands$Village", "takePerson", "(LThirdHands$Tokens;I)I"⟩, 18), (⟨"ThirdHands$Village", "takeSort", "(LThirdHands$Tokens;)I"⟩, 18), (⟨"ThirdHands$Village", "addUnit", "(IIIII)V"⟩, 18), (⟨"ThirdHands$Village", "wantsLine", "(LThirdHands$Tokens;)Z"⟩, 18), (⟨"ThirdHands$Village", "givesLine", "(LThirdHands$Tokens;)Z"⟩, 18)]
theorem lw_r1 : ∀ q ∈ lw_privs_1, lw_okq q := List.forall_mem_cons.mpr ⟨lw_p0, List.forall_mem_cons.mpr ⟨lw_p1, List.forall_mem_cons.mpr ⟨lw_p2, List.forall_mem_cons.mpr ⟨lw_p3, List.forall_mem_cons.mpr ⟨lw_p4, List.forall_mem_cons.mpr ⟨lw_p5, List.forall_mem_cons.mpr ⟨lw_p6, List.forall_mem_cons.mpr ⟨lw_p7, List.forall_mem_cons.mpr ⟨lw_p8, List.forall_mem_cons.mpr ⟨lw_p9, List.forall_mem_cons.mpr ⟨lw_p10, List.forall_mem_cons.mpr ⟨lw_p11, List.forall_mem_cons.mpr ⟨lw_p12, List.forall_mem_cons.mpr ⟨lw_p13, List.forall_mem_cons.mpr ⟨lw_p14, List.forall_mem_cons.mpr ⟨lw_p15, fun _ h => absurd h List.not_mem_nil⟩⟩⟩⟩⟩⟩⟩⟩⟩⟩⟩⟩⟩⟩⟩⟩
theorem lw_p16 : lw_okq (⟨"ThirdHands$Village", "lawLine", "(LThirdHands$Tokens;)Z"⟩, 18) := ⟨⟨by decide +kernel, by decide +kernel⟩, List.mem_of_getElem? (i := 124) (by decide +kernel), List.mem_of_getElem? (i := 753) (by decide +kernel), List.mem_of_getElem? (i := 754) (by decide +kernel)⟩
theorem lw_p17 : lw_okq (⟨"ThirdHands", "asTold", "()LThirdHands$Meeting;"⟩, 16) := ⟨⟨by decide +kernel, by decide +kernel⟩, List.mem_of_getElem? (i := 27) (by decide +kernel), List.mem_of_getElem? (i := 800) (by decide +kernel), List.mem_of_getElem? (i := 801) (by decide +kernel)⟩
theorem lw_p18 : lw_okq (⟨"ThirdHands$Ways", "measureRooms", "()V"⟩, 16) := ⟨⟨by decide +kernel, by decide +kernel⟩, List.mem_of_getElem? (i := 317) (by decide +kernel), List.mem_of_getElem? (i := 831) (by decide +kernel), List.mem_of_getElem? (i := 832) (by decide +kernel)⟩
theorem lw_p19 : lw_okq (⟨"ThirdHands$Ways", "onward", "(I)V"⟩, 16) := ⟨⟨by decide +kernel, by decide +kernel⟩, List.mem_of_getElem? (i := 317) (by decide +kernel), List.mem_of_getElem? (i := 844) (by decide +kernel), List.mem_of_getElem? (i := 845) (by decide +kernel)⟩
theorem lw_p20 : lw_okq (⟨"ThirdHands$Ways", "arrive", "(I)V"⟩, 16) := ⟨⟨by decide +kernel, by decide +kernel⟩, List.mem_of_getElem? (i := 317) (by decide +kernel), List.mem_of_getElem? (i := 848) (by decide +kernel), List.mem_of_getElem? (i := 849) (by decide +kernel)⟩
theorem lw_p21 : lw_okq (⟨"ThirdHands$Ways", "step", "(III)V"⟩, 16) := ⟨⟨by decide +kernel, by decide +kernel⟩, List.mem_of_getElem? (i := 317) (by decide +kernel), List.mem_of_getElem? (i := 862) (by decide +kernel), List.mem_of_getElem? (i := 863) (by decide +kernel)⟩
theorem lw_p22 : lw_okq (⟨"ThirdHands$Meeting", "choose", "(I)V"⟩, 9) := ⟨⟨by decide +kernel, by decide +kernel⟩, List.mem_of_getElem? (i := 315) (by decide +kernel), List.mem_of_getElem? (i := 866) (by decide +kernel), List.mem_of_getElem? (i := 867) (by decide +kernel)⟩
theorem lw_p23 : lw_okq (⟨"ThirdHands$Meeting", "takenAsking", "(II)J"⟩, 9) := ⟨⟨by decide +kernel, by decide +kernel⟩, List.mem_of_getElem? (i := 315) (by decide +kernel), List.mem_of_getElem? (i := 871) (by decide +kernel), List.mem_of_getElem? (i := 872) (by decide +kernel)⟩
theorem lw_p24 : lw_okq (⟨"ThirdHands$Meeting", "solve", "()V"⟩, 9) := ⟨⟨by decide +kernel, by decide +kernel⟩, List.mem_of_getElem? (i := 315) (by decide +kernel), List.mem_of_getElem? (i := 880) (by decide +kernel), List.mem_of_getElem? (i := 881) (by decide +kernel)⟩
theorem lw_p25 : lw_okq (⟨"ThirdHands$Meeting", "bestOfSort", "(I)J"⟩, 9) := ⟨⟨by decide +kernel, by decide +kernel⟩, List.mem_of_getElem? (i := 315) (by decide +kernel), List.mem_of_getElem? (i := 884) (by decide +kernel), List.mem_of_getElem? (i := 885) (by decide +kernel)⟩
theorem lw_p26 : lw_okq (⟨"ThirdHands$Meeting", "meetBy", "(II)V"⟩, 9) := ⟨⟨by decide +kernel, by decide +kernel⟩, List.mem_of_getElem? (i := 315) (by decide +kernel), List.mem_of_getElem? (i := 898) (by decide +kernel), List.mem_of_getElem? (i := 899) (by decide +kernel)⟩
theorem lw_p27 : lw_okq (⟨"ThirdHands$Meeting", "appraise", "(I)I"⟩, 9) := ⟨⟨by decide +kernel, by decide +kernel⟩, List.mem_of_getElem? (i := 315) (by decide +kernel), List.mem_of_getElem? (i := 902) (by decide +kernel), List.mem_of_getElem? (i := 903) (by decide +kernel)⟩
theorem lw_p28 : lw_okq (⟨"ThirdHands$Meeting", "lookAround", "()V"⟩, 9) := ⟨⟨by decide +kernel, by decide +kernel⟩, List.mem_of_getElem? (i := 315) (by decide +kernel), List.mem_of_getElem? (i := 957) (by decide +kernel), List.mem_of_getElem? (i := 958) (by decide +kernel)⟩
theorem lw_p29 : lw_okq (⟨"ThirdHands$Plan", "readAct", "(LThirdHands$Tokens;LThirdHands$Village;)Z"⟩, 5) := ⟨⟨by decide +kernel, by decide +kernel⟩, List.mem_of_getElem? (i := 227) (by decide +kernel), List.mem_of_getElem? (i := 1010) (by decide +kernel), List.mem_of_getElem? (i := 1011) (by decide +kernel)⟩
theorem lw_p30 : lw_okq (⟨"ThirdHands$Plan", "add", "(III)V"⟩, 5) := ⟨⟨by decide +kernel, by decide +kernel⟩, List.mem_of_getElem? (i := 227) (by decide +kernel), List.mem_of_getElem? (i := 1019) (by decide +kernel), List.mem_of_getElem? (i := 1020) (by decide +kernel)⟩
theorem lw_p31 : lw_okq (⟨"ThirdHands$Plan", "next", "(I)I"⟩, 5) := ⟨⟨by decide +kernel, by decide +kernel⟩, List.mem_of_getElem? (i := 227) (by decide +kernel), List.mem_of_getElem? (i := 1039) (by decide +kernel), List.mem_of_getElem? (i := 1040) (by decide +kernel)⟩
def lw_privs_2 : List (MethodName × Nat) := [(⟨"ThirdHands$Village", "lawLine", "(LThirdHands$Tokens;)Z"⟩, 18), (⟨"ThirdHands", "asTold", "()LThirdHands$Meeting;"⟩, 16), (⟨"ThirdHands$Ways", "measureRooms", "()V"⟩, 16), (⟨"ThirdHands$Ways", "onward", "(I)V"⟩, 16), (⟨"ThirdHands$Ways", "arrive", "(I)V"⟩, 16), (⟨"ThirdHands$Ways", "step", "(III)V"⟩, 16), (⟨"ThirdHands$Meeting", "choose", "(I)V"⟩, 9), (⟨"ThirdHands$Meeting", "takenAsking", "(II)J"⟩, 9), (⟨"ThirdHands$Meeting", "solve", "()V"⟩, 9), (⟨"ThirdHands$Meeting", "bestOfSort", "(I)J"⟩, 9), (⟨"ThirdHands$Meeting", "meetBy", "(II)V"⟩, 9), (⟨"ThirdHands$Meeting", "appraise", "(I)I"⟩, 9), (⟨"ThirdHands$Meeting", "lookAround", "()V"⟩, 9), (⟨"ThirdHands$Plan", "readAct", "(LThirdHands$Tokens;LThirdHands$Village;)Z"⟩, 5), (⟨"ThirdHands$Plan", "add", "(III)V"⟩, 5), (⟨"ThirdHands$Plan", "next", "(I)I"⟩, 5)]
theorem lw_r2 : ∀ q ∈ lw_privs_2, lw_okq q := List.forall_mem_cons.mpr ⟨lw_p16, List.forall_mem_cons.mpr ⟨lw_p17, List.forall_mem_cons.mpr ⟨lw_p18, List.forall_mem_cons.mpr ⟨lw_p19, List.forall_mem_cons.mpr ⟨lw_p20, List.forall_mem_cons.mpr ⟨lw_p21, List.forall_mem_cons.mpr ⟨lw_p22, List.forall_mem_cons.mpr ⟨lw_p23, List.forall_mem_cons.mpr ⟨lw_p24, List.forall_mem_cons.mpr ⟨lw_p25, List.forall_mem_cons.mpr ⟨lw_p26, List.forall_mem_cons.mpr ⟨lw_p27, List.forall_mem_cons.mpr ⟨lw_p28, List.forall_mem_cons.mpr ⟨lw_p29, List.forall_mem_cons.mpr ⟨lw_p30, List.forall_mem_cons.mpr ⟨lw_p31, fun _ h => absurd h List.not_mem_nil⟩⟩⟩⟩⟩⟩⟩⟩⟩⟩⟩⟩⟩⟩⟩⟩
theorem lw_p32 : lw_okq (⟨"ThirdHands$Day", "begin", "(LThirdHands$Village;)V"⟩, 12) := ⟨⟨by decide +kernel, by decide +kernel⟩, List.mem_of_getElem? (i := 460) (by decide +kernel), List.mem_of_getElem? (i := 1052) (by decide +kernel), List.mem_of_getElem? (i := 1053) (by decide +kernel)⟩
theorem lw_p33 : lw_okq (⟨"ThirdHands$Day", "doAct", "(LThirdHands$Village;III)I"⟩, 12) := ⟨⟨by decide +kernel, by decide +kernel⟩, List.mem_of_getElem? (i := 460) (by decide +kernel), List.mem_of_getElem? (i := 1057) (by decide +kernel), List.mem_of_getElem? (i := 1058) (by decide +kernel)⟩
theorem lw_p34 : lw_okq (⟨"ThirdHands$Day", "give", "(LThirdHands$Village;II)I"⟩, 12) := ⟨⟨by decide +kernel, by decide +kernel⟩, List.mem_of_getElem? (i := 460) (by decide +kernel), List.mem_of_getElem? (i := 1061) (by decide +kernel), List.mem_of_getElem? (i := 1062) (by decide +kernel)⟩
theorem lw_p35 : lw_okq (⟨"ThirdHands$Day", "giver", "(LThirdHands$Village;II)I"⟩, 12) := ⟨⟨by decide +kernel, by decide +kernel⟩, List.mem_of_getElem? (i := 460) (by decide +kernel), List.mem_of_getElem? (i := 1065) (by decide +kernel), List.mem_of_getElem? (i := 1066) (by decide +kernel)⟩
theorem lw_p36 : lw_okq (⟨"ThirdHands$Day", "use", "(LThirdHands$Village;I)I"⟩, 12) := ⟨⟨by decide +kernel, by decide +kernel⟩, List.mem_of_getElem? (i := 460) (by decide +kernel), List.mem_of_getElem? (i := 1072) (by decide +kernel), List.mem_of_getElem? (i := 1073) (by decide +kernel)⟩
theorem lw_p37 : lw_okq (⟨"ThirdHands$Day", "wantMet", "(LThirdHands$Village;I)I"⟩, 12) := ⟨⟨by decide +kernel, by decide +kernel⟩, List.mem_of_getElem? (i := 460) (by decide +kernel), List.mem_of_getElem? (i := 1076) (by decide +kernel), List.mem_of_getElem? (i := 1077) (by decide +kernel)⟩
theorem lw_p38 : lw_okq (⟨"ThirdHands$Day", "close", "(LThirdHands$Village;)V"⟩, 12) := ⟨⟨by decide +kernel, by decide +kernel⟩, List.mem_of_getElem? (i := 460) (by decide +kernel), List.mem_of_getElem? (i := 1081) (by decide +kernel), List.mem_of_getElem? (i := 1082) (by decide +kernel)⟩
theorem lw_p39 : lw_okq (⟨"ThirdHands", "supposing", "()LThirdHands$Meeting;"⟩, 16) := ⟨⟨by decide +kernel, by decide +kernel⟩, List.mem_of_getElem? (i := 27) (by decide +kernel), List.mem_of_getElem? (i := 1097) (by decide +kernel), List.mem_of_getElem? (i := 1098) (by decide +kernel)⟩
theorem lw_p40 : lw_okq (⟨"ThirdHands", "askAnew", "(LThirdHands$Meeting;)Z"⟩, 16) := ⟨⟨by decide +kernel, by decide +kernel⟩, List.mem_of_getElem? (i := 27) (by decide +kernel), List.mem_of_getElem? (i := 1111) (by decide +kernel), List.mem_of_getElem? (i := 1112) (by decide +kernel)⟩
theorem lw_p41 : lw_okq (⟨"ThirdHands$Meeting", "timesMet", "(I)I"⟩, 9) := ⟨⟨by decide +kernel, by decide +kernel⟩, List.mem_of_getElem? (i := 315) (by decide +kernel), List.mem_of_getElem? (i := 1119) (by decide +kernel), List.mem_of_getElem? (i := 1120) (by decide +kernel)⟩
theorem lw_p42 : lw_okq (⟨"ThirdHands$Ring", "painsFrom", "(I)I"⟩, 4) := ⟨⟨by decide +kernel, by decide +kernel⟩, List.mem_of_getElem? (i := 513) (by decide +kernel), List.mem_of_getElem? (i := 1158) (by decide +kernel), List.mem_of_getElem? (i := 1159) (by decide +kernel)⟩
theorem lw_p43 : lw_okq (⟨"ThirdHands$Ring", "at", "(I)I"⟩, 4) := ⟨⟨by decide +kernel, by decide +kernel⟩, List.mem_of_getElem? (i := 513) (by decide +kernel), List.mem_of_getElem? (i := 1162) (by decide +kernel), List.mem_of_getElem? (i := 1163) (by decide +kernel)⟩
theorem lw_p44 : lw_okq (⟨"ThirdHands$Ring", "spot", "(I)I"⟩, 4) := ⟨⟨by decide +kernel, by decide +kernel⟩, List.mem_of_getElem? (i := 513) (by decide +kernel), List.mem_of_getElem? (i := 1166) (by decide +kernel), List.mem_of_getElem? (i := 1167) (by decide +kernel)⟩
theorem lw_p45 : lw_okq (⟨"ThirdHands$Ring", "madeBy", "(I)I"⟩, 4) := ⟨⟨by decide +kernel, by decide +kernel⟩, List.mem_of_getElem? (i := 513) (by decide +kernel), List.mem_of_getElem? (i := 1175) (by decide +kernel), List.mem_of_getElem? (i := 1176) (by decide +kernel)⟩
theorem lw_p46 : lw_okq (⟨"ThirdHands$Ring", "goes", "(II)Z"⟩, 4) := ⟨⟨by decide +kernel, by decide +kernel⟩, List.mem_of_getElem? (i := 513) (by decide +kernel), List.mem_of_getElem? (i := 1180) (by decide +kernel), List.mem_of_getElem? (i := 1181) (by decide +kernel)⟩
theorem lw_p47 : lw_okq (⟨"ThirdHands$Ring", "send", "(II)V"⟩, 4) := ⟨⟨by decide +kernel, by decide +kernel⟩, List.mem_of_getElem? (i := 513) (by decide +kernel), List.mem_of_getElem? (i := 1186) (by decide +kernel), List.mem_of_getElem? (i := 1187) (by decide +kernel)⟩
def lw_privs_3 : List (MethodName × Nat) := [(⟨"ThirdHands$Day", "begin", "(LThirdHands$Village;)V"⟩, 12), (⟨"ThirdHands$Day", "doAct", "(LThirdHands$Village;III)I"⟩, 12), (⟨"ThirdHands$Day", "give", "(LThirdHands$Village;II)I"⟩, 12), (⟨"ThirdHands$Day", "giver", "(LThirdHands$Village;II)I"⟩, 12), (⟨"ThirdHands$Day", "use", "(LThirdHands$Village;I)I"⟩, 12), (⟨"ThirdHands$Day", "wantMet", "(LThirdHands$Village;I)I"⟩, 12), (⟨"ThirdHands$Day", "close", "(LThirdHands$Village;)V"⟩, 12), (⟨"ThirdHands", "supposing", "()LThirdHands$Meeting;"⟩, 16), (⟨"ThirdHands", "askAnew", "(LThirdHands$Meeting;)Z"⟩, 16), (⟨"ThirdHands$Meeting", "timesMet", "(I)I"⟩, 9), (⟨"ThirdHands$Ring", "painsFrom", "(I)I"⟩, 4), (⟨"ThirdHands$Ring", "at", "(I)I"⟩, 4), (⟨"ThirdHands$Ring", "spot", "(I)I"⟩, 4), (⟨"ThirdHands$Ring", "madeBy", "(I)I"⟩, 4), (⟨"ThirdHands$Ring", "goes", "(II)Z"⟩, 4), (⟨"ThirdHands$Ring", "send", "(II)V"⟩, 4)]
theorem lw_r3 : ∀ q ∈ lw_privs_3, lw_okq q := List.forall_mem_cons.mpr ⟨lw_p32, List.forall_mem_cons.mpr ⟨lw_p33, List.forall_mem_cons.mpr ⟨lw_p34, List.forall_mem_cons.mpr ⟨lw_p35, List.forall_mem_cons.mpr ⟨lw_p36, List.forall_mem_cons.mpr ⟨lw_p37, List.forall_mem_cons.mpr ⟨lw_p38, List.forall_mem_cons.mpr ⟨lw_p39, List.forall_mem_cons.mpr ⟨lw_p40, List.forall_mem_cons.mpr ⟨lw_p41, List.forall_mem_cons.mpr ⟨lw_p42, List.forall_mem_cons.mpr ⟨lw_p43, List.forall_mem_cons.mpr ⟨lw_p44, List.forall_mem_cons.mpr ⟨lw_p45, List.forall_mem_cons.mpr ⟨lw_p46, List.forall_mem_cons.mpr ⟨lw_p47, fun _ h => absurd h List.not_mem_nil⟩⟩⟩⟩⟩⟩⟩⟩⟩⟩⟩⟩⟩⟩⟩⟩
theorem lw_p48 : lw_okq (⟨"ThirdHands$Ring", "worth", "(II)I"⟩, 4) := ⟨⟨by decide +kernel, by decide +kernel⟩, List.mem_of_getElem? (i := 513) (by decide +kernel), List.mem_of_getElem? (i := 1190) (by decide +kernel), List.mem_of_getElem? (i := 1191) (by decide +kernel)⟩
theorem lw_p49 : lw_okq (⟨"ThirdHands", "mendedMost", "(LThirdHands$Meeting;I)I"⟩, 16) := ⟨⟨by decide +kernel, by decide +kernel⟩, List.mem_of_getElem? (i := 27) (by decide +kernel), List.mem_of_getElem? (i := 1235) (by decide +kernel), List.mem_of_getElem? (i := 1236) (by decide +kernel)⟩
theorem lw_p50 : lw_okq (⟨"ThirdHands", "livesBy", "(LThirdHands$Meeting;I)Z"⟩, 16) := ⟨⟨by decide +kernel, by decide +kernel⟩, List.mem_of_getElem? (i := 27) (by decide +kernel), List.mem_of_getElem? (i := 1248) (by decide +kernel), List.mem_of_getElem? (i := 1249) (by decide +kernel)⟩
theorem lw_p51 : lw_okq (⟨"ThirdHands", "stopsBy", "(LThirdHands$Meeting;I)Z"⟩, 16) := ⟨⟨by decide +kernel, by decide +kernel⟩, List.mem_of_getElem? (i := 27) (by decide +kernel), List.mem_of_getElem? (i := 1261) (by decide +kernel), List.mem_of_getElem? (i := 1262) (by decide +kernel)⟩
theorem lw_p52 : lw_okq (⟨"ThirdHands$Book", "sort", "(I)I"⟩, 7) := ⟨⟨by decide +kernel, by decide +kernel⟩, List.mem_of_getElem? (i := 257) (by decide +kernel), List.mem_of_getElem? (i := 1285) (by decide +kernel), List.mem_of_getElem? (i := 1286) (by decide +kernel)⟩
theorem lw_p53 : lw_okq (⟨"ThirdHands$Book", "areTrue", "(IIILThirdHands$Village;)Z"⟩, 7) := ⟨⟨by decide +kernel, by decide +kernel⟩, List.mem_of_getElem? (i := 257) (by decide +kernel), List.mem_of_getElem? (i := 1290) (by decide +kernel), List.mem_of_getElem? (i := 1291) (by decide +kernel)⟩
theorem lw_p54 : lw_okq (⟨"java/lang/Throwable", "fillInStackTrace", "(I)Ljava/lang/Throwable;"⟩, 6) := ⟨⟨by decide +kernel, by decide +kernel⟩, List.mem_of_getElem? (i := 1362) (by decide +kernel), List.mem_of_getElem? (i := 1360) (by decide +kernel), List.mem_of_getElem? (i := 1361) (by decide +kernel)⟩
theorem lw_p55 : lw_okq (⟨"ThirdHandsModel", "four", "(I)V"⟩, 80) := ⟨⟨by decide +kernel, by decide +kernel⟩, List.mem_of_getElem? (i := 1418) (by decide +kernel), List.mem_of_getElem? (i := 1416) (by decide +kernel), List.mem_of_getElem? (i := 1417) (by decide +kernel)⟩
theorem lw_p56 : lw_okq (⟨"ThirdHandsModel", "taken", "(I)V"⟩, 80) := ⟨⟨by decide +kernel, by decide +kernel⟩, List.mem_of_getElem? (i := 1418) (by decide +kernel), List.mem_of_getElem? (i := 1693) (by decide +kernel), List.mem_of_getElem? (i := 1694) (by decide +kernel)⟩
theorem lw_p57 : lw_okq (⟨"ThirdHandsModel", "next", "()V"⟩, 80) := ⟨⟨by decide +kernel, by decide +kernel⟩, List.mem_of_getElem? (i := 1418) (by decide +kernel), List.mem_of_getElem? (i := 1697) (by decide +kernel), List.mem_of_getElem? (i := 1698) (by decide +kernel)⟩
theorem lw_p58 : lw_okq (⟨"ThirdHandsModel", "peek", "()I"⟩, 80) := ⟨⟨by decide +kernel, by decide +kernel⟩, List.mem_of_getElem? (i := 1418) (by decide +kernel), List.mem_of_getElem? (i := 1701) (by decide +kernel), List.mem_of_getElem? (i := 1702) (by decide +kernel)⟩
theorem lw_p59 : lw_okq (⟨"ThirdHandsModel", "line", "()Z"⟩, 80) := ⟨⟨by decide +kernel, by decide +kernel⟩, List.mem_of_getElem? (i := 1418) (by decide +kernel), List.mem_of_getElem? (i := 1711) (by decide +kernel), List.mem_of_getElem? (i := 1712) (by decide +kernel)⟩
theorem lw_p60 : lw_okq (⟨"ThirdHandsModel", "isWord", "(J)Z"⟩, 80) := ⟨⟨by decide +kernel, by decide +kernel⟩, List.mem_of_getElem? (i := 1418) (by decide +kernel), List.mem_of_getElem? (i := 1715) (by decide +kernel), List.mem_of_getElem? (i := 1716) (by decide +kernel)⟩
theorem lw_p61 : lw_okq (⟨"ThirdHandsModel", "readWho", "()Z"⟩, 80) := ⟨⟨by decide +kernel, by decide +kernel⟩, List.mem_of_getElem? (i := 1418) (by decide +kernel), List.mem_of_getElem? (i := 1719) (by decide +kernel), List.mem_of_getElem? (i := 1720) (by decide +kernel)⟩
theorem lw_p62 : lw_okq (⟨"ThirdHandsModel", "bad", "(I)Z"⟩, 80) := ⟨⟨by decide +kernel, by decide +kernel⟩, List.mem_of_getElem? (i := 1418) (by decide +kernel), List.mem_of_getElem? (i := 1723) (by decide +kernel), List.mem_of_getElem? (i := 1724) (by decide +kernel)⟩
theorem lw_p63 : lw_okq (⟨"ThirdHandsModel", "fresh", "()Z"⟩, 80) := ⟨⟨by decide +kernel, by decide +kernel⟩, List.mem_of_getElem? (i := 1418) (by decide +kernel), List.mem_of_getElem? (i := 1727) (by decide +kernel), List.mem_of_getElem? (i := 1728) (by decide +kernel)⟩
def lw_privs_4 : List (MethodName × Nat) := [(⟨"ThirdHands$Ring", "worth", "(II)I"⟩, 4), (⟨"ThirdHands", "mendedMost", "(LThirdHands$Meeting;I)I"⟩, 16), (⟨"ThirdHands", "livesBy", "(LThirdHands$Meeting;I)Z"⟩, 16), (⟨"ThirdHands", "stopsBy", "(LThirdHands$Meeting;I)Z"⟩, 16), (⟨"ThirdHands$Book", "sort", "(I)I"⟩, 7), (⟨"ThirdHands$Book", "areTrue", "(IIILThirdHands$Village;)Z"⟩, 7), (⟨"java/lang/Throwable", "fillInStackTrace", "(I)Ljava/lang/Throwable;"⟩, 6), (⟨"ThirdHandsModel", "four", "(I)V"⟩, 80), (⟨"ThirdHandsModel", "taken", "(I)V"⟩, 80), (⟨"ThirdHandsModel", "next", "()V"⟩, 80), (⟨"ThirdHandsModel", "peek", "()I"⟩, 80), (⟨"ThirdHandsModel", "line", "()Z"⟩, 80), (⟨"ThirdHandsModel", "isWord", "(J)Z"⟩, 80), (⟨"ThirdHandsModel", "readWho", "()Z"⟩, 80), (⟨"ThirdHandsModel", "bad", "(I)Z"⟩, 80), (⟨"ThirdHandsModel", "fresh", "()Z"⟩, 80)]
theorem lw_r4 : ∀ q ∈ lw_privs_4, lw_okq q := List.forall_mem_cons.mpr ⟨lw_p48, List.forall_mem_cons.mpr ⟨lw_p49, List.forall_mem_cons.mpr ⟨lw_p50, List.forall_mem_cons.mpr ⟨lw_p51, List.forall_mem_cons.mpr ⟨lw_p52, List.forall_mem_cons.mpr ⟨lw_p53, List.forall_mem_cons.mpr ⟨lw_p54, List.forall_mem_cons.mpr ⟨lw_p55, List.forall_mem_cons.mpr ⟨lw_p56, List.forall_mem_cons.mpr ⟨lw_p57, List.forall_mem_cons.mpr ⟨lw_p58, List.forall_mem_cons.mpr ⟨lw_p59, List.forall_mem_cons.mpr ⟨lw_p60, List.forall_mem_cons.mpr ⟨lw_p61, List.forall_mem_cons.mpr ⟨lw_p62, List.forall_mem_cons.mpr ⟨lw_p63, fun _ h => absurd h List.not_mem_nil⟩⟩⟩⟩⟩⟩⟩⟩⟩⟩⟩⟩⟩⟩⟩⟩
theorem lw_p64 : lw_okq (⟨"ThirdHandsModel", "isName", "()Z"⟩, 80) := ⟨⟨by decide +kernel, by decide +kernel⟩, List.mem_of_getElem? (i := 1418) (by decide +kernel), List.mem_of_getElem? (i := 1731) (by decide +kernel), List.mem_of_getElem? (i := 1732) (by decide +kernel)⟩
theorem lw_p65 : lw_okq (⟨"ThirdHandsModel", "find", "(II)I"⟩, 80) := ⟨⟨by decide +kernel, by decide +kernel⟩, List.mem_of_getElem? (i := 1418) (by decide +kernel), List.mem_of_getElem? (i := 1735) (by decide +kernel), List.mem_of_getElem? (i := 1736) (by decide +kernel)⟩
theorem lw_p66 : lw_okq (⟨"ThirdHandsModel", "takes", "(II)Z"⟩, 80) := ⟨⟨by decide +kernel, by decide +kernel⟩, List.mem_of_getElem? (i := 1418) (by decide +kernel), List.mem_of_getElem? (i := 1739) (by decide +kernel), List.mem_of_getElem? (i := 1740) (by decide +kernel)⟩
theorem lw_p67 : lw_okq (⟨"ThirdHandsModel", "readSort", "()Z"⟩, 80) := ⟨⟨by decide +kernel, by decide +kernel⟩, List.mem_of_getElem? (i := 1418) (by decide +kernel), List.mem_of_getElem? (i := 1746) (by decide +kernel), List.mem_of_getElem? (i := 1747) (by decide +kernel)⟩
theorem lw_p68 : lw_okq (⟨"ThirdHandsModel", "readMakes", "()Z"⟩, 80) := ⟨⟨by decide +kernel, by decide +kernel⟩, List.mem_of_getElem? (i := 1418) (by decide +kernel), List.mem_of_getElem? (i := 1750) (by decide +kernel), List.mem_of_getElem? (i := 1751) (by decide +kernel)⟩
theorem lw_p69 : lw_okq (⟨"ThirdHandsModel", "takesWho", "(I)Z"⟩, 80) := ⟨⟨by decide +kernel, by decide +kernel⟩, List.mem_of_getElem? (i := 1418) (by decide +kernel), List.mem_of_getElem? (i := 1754) (by decide +kernel), List.mem_of_getElem? (i := 1755) (by decide +kernel)⟩
theorem lw_p70 : lw_okq (⟨"ThirdHandsModel", "takesSort", "()Z"⟩, 80) := ⟨⟨by decide +kernel, by decide +kernel⟩, List.mem_of_getElem? (i := 1418) (by decide +kernel), List.mem_of_getElem? (i := 1758) (by decide +kernel), List.mem_of_getElem? (i := 1759) (by decide +kernel)⟩
theorem lw_p71 : lw_okq (⟨"ThirdHandsModel", "readWants", "()Z"⟩, 80) := ⟨⟨by decide +kernel, by decide +kernel⟩, List.mem_of_getElem? (i := 1418) (by decide +kernel), List.mem_of_getElem? (i := 1762) (by decide +kernel), List.mem_of_getElem? (i := 1763) (by decide +kernel)⟩
theorem lw_p72 : lw_okq (⟨"ThirdHandsModel", "readGives", "()Z"⟩, 80) := ⟨⟨by decide +kernel, by decide +kernel⟩, List.mem_of_getElem? (i := 1418) (by decide +kernel), List.mem_of_getElem? (i := 1766) (by decide +kernel), List.mem_of_getElem? (i := 1767) (by decide +kernel)⟩
theorem lw_p73 : lw_okq (⟨"ThirdHandsModel", "readLaw", "()Z"⟩, 80) := ⟨⟨by decide +kernel, by decide +kernel⟩, List.mem_of_getElem? (i := 1418) (by decide +kernel), List.mem_of_getElem? (i := 1770) (by decide +kernel), List.mem_of_getElem? (i := 1771) (by decide +kernel)⟩
theorem lw_p74 : lw_okq (⟨"ThirdHandsModel", "sign", "(I)Z"⟩, 80) := ⟨⟨by decide +kernel, by decide +kernel⟩, List.mem_of_getElem? (i := 1418) (by decide +kernel), List.mem_of_getElem? (i := 1774) (by decide +kernel), List.mem_of_getElem? (i := 1775) (by decide +kernel)⟩
theorem lw_p75 : lw_okq (⟨"ThirdHandsModel", "isSign", "(I)Z"⟩, 80) := ⟨⟨by decide +kernel, by decide +kernel⟩, List.mem_of_getElem? (i := 1418) (by decide +kernel), List.mem_of_getElem? (i := 1778) (by decide +kernel), List.mem_of_getElem? (i := 1779) (by decide +kernel)⟩
theorem lw_p76 : lw_okq (⟨"ThirdHandsModel", "isUnit", "(I)Z"⟩, 80) := ⟨⟨by decide +kernel, by decide +kernel⟩, List.mem_of_getElem? (i := 1418) (by decide +kernel), List.mem_of_getElem? (i := 1790) (by decide +kernel), List.mem_of_getElem? (i := 1791) (by decide +kernel)⟩
theorem lw_p77 : lw_okq (⟨"ThirdHandsModel", "throwsIf", "(Z)Z"⟩, 80) := ⟨⟨by decide +kernel, by decide +kernel⟩, List.mem_of_getElem? (i := 1418) (by decide +kernel), List.mem_of_getElem? (i := 1794) (by decide +kernel), List.mem_of_getElem? (i := 1795) (by decide +kernel)⟩
theorem lw_p78 : lw_okq (⟨"ThirdHandsModel", "spoils", "(I)I"⟩, 80) := ⟨⟨by decide +kernel, by decide +kernel⟩, List.mem_of_getElem? (i := 1418) (by decide +kernel), List.mem_of_getElem? (i := 1798) (by decide +kernel), List.mem_of_getElem? (i := 1799) (by decide +kernel)⟩
theorem lw_p79 : lw_okq (⟨"ThirdHandsModel", "sortOf", "(I)I"⟩, 80) := ⟨⟨by decide +kernel, by decide +kernel⟩, List.mem_of_getElem? (i := 1418) (by decide +kernel), List.mem_of_getElem? (i := 1802) (by decide +kernel), List.mem_of_getElem? (i := 1803) (by decide +kernel)⟩
def lw_privs_5 : List (MethodName × Nat) := [(⟨"ThirdHandsModel", "isName", "()Z"⟩, 80), (⟨"ThirdHandsModel", "find", "(II)I"⟩, 80), (⟨"ThirdHandsModel", "takes", "(II)Z"⟩, 80), (⟨"ThirdHandsModel", "readSort", "()Z"⟩, 80), (⟨"ThirdHandsModel", "readMakes", "()Z"⟩, 80), (⟨"ThirdHandsModel", "takesWho", "(I)Z"⟩, 80), (⟨"ThirdHandsModel", "takesSort", "()Z"⟩, 80), (⟨"ThirdHandsModel", "readWants", "()Z"⟩, 80), (⟨"ThirdHandsModel", "readGives", "()Z"⟩, 80), (⟨"ThirdHandsModel", "readLaw", "()Z"⟩, 80), (⟨"ThirdHandsModel", "sign", "(I)Z"⟩, 80), (⟨"ThirdHandsModel", "isSign", "(I)Z"⟩, 80), (⟨"ThirdHandsModel", "isUnit", "(I)Z"⟩, 80), (⟨"ThirdHandsModel", "throwsIf", "(Z)Z"⟩, 80), (⟨"ThirdHandsModel", "spoils", "(I)I"⟩, 80), (⟨"ThirdHandsModel", "sortOf", "(I)I"⟩, 80)]
theorem lw_r5 : ∀ q ∈ lw_privs_5, lw_okq q := List.forall_mem_cons.mpr ⟨lw_p64, List.forall_mem_cons.mpr ⟨lw_p65, List.forall_mem_cons.mpr ⟨lw_p66, List.forall_mem_cons.mpr ⟨lw_p67, List.forall_mem_cons.mpr ⟨lw_p68, List.forall_mem_cons.mpr ⟨lw_p69, List.forall_mem_cons.mpr ⟨lw_p70, List.forall_mem_cons.mpr ⟨lw_p71, List.forall_mem_cons.mpr ⟨lw_p72, List.forall_mem_cons.mpr ⟨lw_p73, List.forall_mem_cons.mpr ⟨lw_p74, List.forall_mem_cons.mpr ⟨lw_p75, List.forall_mem_cons.mpr ⟨lw_p76, List.forall_mem_cons.mpr ⟨lw_p77, List.forall_mem_cons.mpr ⟨lw_p78, List.forall_mem_cons.mpr ⟨lw_p79, fun _ h => absurd h List.not_mem_nil⟩⟩⟩⟩⟩⟩⟩⟩⟩⟩⟩⟩⟩⟩⟩⟩
theorem lw_p80 : lw_okq (⟨"ThirdHandsModel", "isWant", "(I)Z"⟩, 80) := ⟨⟨by decide +kernel, by decide +kernel⟩, List.mem_of_getElem? (i := 1418) (by decide +kernel), List.mem_of_getElem? (i := 1810) (by decide +kernel), List.mem_of_getElem? (i := 1811) (by decide +kernel)⟩
theorem lw_p81 : lw_okq (⟨"ThirdHandsModel", "isWho", "(I)Z"⟩, 80) := ⟨⟨by decide +kernel, by decide +kernel⟩, List.mem_of_getElem? (i := 1418) (by decide +kernel), List.mem_of_getElem? (i := 1818) (by decide +kernel), List.mem_of_getElem? (i := 1819) (by decide +kernel)⟩
theorem lw_p82 : lw_okq (⟨"ThirdHandsModel", "asTold", "()V"⟩, 80) := ⟨⟨by decide +kernel, by decide +kernel⟩, List.mem_of_getElem? (i := 1418) (by decide +kernel), List.mem_of_getElem? (i := 1826) (by decide +kernel), List.mem_of_getElem? (i := 1827) (by decide +kernel)⟩
theorem lw_p83 : lw_okq (⟨"ThirdHandsModel", "weigh", "()V"⟩, 80) := ⟨⟨by decide +kernel, by decide +kernel⟩, List.mem_of_getElem? (i := 1418) (by decide +kernel), List.mem_of_getElem? (i := 1830) (by decide +kernel), List.mem_of_getElem? (i := 1831) (by decide +kernel)⟩
theorem lw_p84 : lw_okq (⟨"ThirdHandsModel", "areFirsts", "(I)Z"⟩, 80) := ⟨⟨by decide +kernel, by decide +kernel⟩, List.mem_of_getElem? (i := 1418) (by decide +kernel), List.mem_of_getElem? (i := 1834) (by decide +kernel), List.mem_of_getElem? (i := 1835) (by decide +kernel)⟩
theorem lw_p85 : lw_okq (⟨"ThirdHandsModel", "weighUnit", "(I)V"⟩, 80) := ⟨⟨by decide +kernel, by decide +kernel⟩, List.mem_of_getElem? (i := 1418) (by decide +kernel), List.mem_of_getElem? (i := 1841) (by decide +kernel), List.mem_of_getElem? (i := 1842) (by decide +kernel)⟩
theorem lw_p86 : lw_okq (⟨"ThirdHandsModel", "begin", "(I)V"⟩, 80) := ⟨⟨by decide +kernel, by decide +kernel⟩, List.mem_of_getElem? (i := 1418) (by decide +kernel), List.mem_of_getElem? (i := 1846) (by decide +kernel), List.mem_of_getElem? (i := 1847) (by decide +kernel)⟩
theorem lw_p87 : lw_okq (⟨"ThirdHandsModel", "nextRow", "(II)Z"⟩, 80) := ⟨⟨by decide +kernel, by decide +kernel⟩, List.mem_of_getElem? (i := 1418) (by decide +kernel), List.mem_of_getElem? (i := 1850) (by decide +kernel), List.mem_of_getElem? (i := 1851) (by decide +kernel)⟩
theorem lw_p88 : lw_okq (⟨"ThirdHandsModel", "away", "(I)V"⟩, 80) := ⟨⟨by decide +kernel, by decide +kernel⟩, List.mem_of_getElem? (i := 1418) (by decide +kernel), List.mem_of_getElem? (i := 1854) (by decide +kernel), List.mem_of_getElem? (i := 1855) (by decide +kernel)⟩
theorem lw_p89 : lw_okq (⟨"ThirdHandsModel", "mayCome", "(III)Z"⟩, 80) := ⟨⟨by decide +kernel, by decide +kernel⟩, List.mem_of_getElem? (i := 1418) (by decide +kernel), List.mem_of_getElem? (i := 1858) (by decide +kernel), List.mem_of_getElem? (i := 1859) (by decide +kernel)⟩
theorem lw_p90 : lw_okq (⟨"ThirdHandsModel", "isFirst", "(II)Z"⟩, 80) := ⟨⟨by decide +kernel, by decide +kernel⟩, List.mem_of_getElem? (i := 1418) (by decide +kernel), List.mem_of_getElem? (i := 1862) (by decide +kernel), List.mem_of_getElem? (i := 1863) (by decide +kernel)⟩
theorem lw_p91 : lw_okq (⟨"ThirdHandsModel", "put", "(III)V"⟩, 80) := ⟨⟨by decide +kernel, by decide +kernel⟩, List.mem_of_getElem? (i := 1418) (by decide +kernel), List.mem_of_getElem? (i := 1866) (by decide +kernel), List.mem_of_getElem? (i := 1867) (by decide +kernel)⟩
theorem lw_p92 : lw_okq (⟨"ThirdHandsModel", "lastHour", "(II)I"⟩, 80) := ⟨⟨by decide +kernel, by decide +kernel⟩, List.mem_of_getElem? (i := 1418) (by decide +kernel), List.mem_of_getElem? (i := 1870) (by decide +kernel), List.mem_of_getElem? (i := 1871) (by decide +kernel)⟩
theorem lw_p93 : lw_okq (⟨"ThirdHandsModel", "isWay", "(II)Z"⟩, 80) := ⟨⟨by decide +kernel, by decide +kernel⟩, List.mem_of_getElem? (i := 1418) (by decide +kernel), List.mem_of_getElem? (i := 1874) (by decide +kernel), List.mem_of_getElem? (i := 1875) (by decide +kernel)⟩
theorem lw_p94 : lw_okq (⟨"ThirdHandsModel", "mostMet", "()I"⟩, 80) := ⟨⟨by decide +kernel, by decide +kernel⟩, List.mem_of_getElem? (i := 1418) (by decide +kernel), List.mem_of_getElem? (i := 1886) (by decide +kernel), List.mem_of_getElem? (i := 1887) (by decide +kernel)⟩
theorem lw_p95 : lw_okq (⟨"ThirdHandsModel", "meets", "()V"⟩, 80) := ⟨⟨by decide +kernel, by decide +kernel⟩, List.mem_of_getElem? (i := 1418) (by decide +kernel), List.mem_of_getElem? (i := 1890) (by decide +kernel), List.mem_of_getElem? (i := 1891) (by decide +kernel)⟩
def lw_privs_6 : List (MethodName × Nat) := [(⟨"ThirdHandsModel", "isWant", "(I)Z"⟩, 80), (⟨"ThirdHandsModel", "isWho", "(I)Z"⟩, 80), (⟨"ThirdHandsModel", "asTold", "()V"⟩, 80), (⟨"ThirdHandsModel", "weigh", "()V"⟩, 80), (⟨"ThirdHandsModel", "areFirsts", "(I)Z"⟩, 80), (⟨"ThirdHandsModel", "weighUnit", "(I)V"⟩, 80), (⟨"ThirdHandsModel", "begin", "(I)V"⟩, 80), (⟨"ThirdHandsModel", "nextRow", "(II)Z"⟩, 80), (⟨"ThirdHandsModel", "away", "(I)V"⟩, 80), (⟨"ThirdHandsModel", "mayCome", "(III)Z"⟩, 80), (⟨"ThirdHandsModel", "isFirst", "(II)Z"⟩, 80), (⟨"ThirdHandsModel", "put", "(III)V"⟩, 80), (⟨"ThirdHandsModel", "lastHour", "(II)I"⟩, 80), (⟨"ThirdHandsModel", "isWay", "(II)Z"⟩, 80), (⟨"ThirdHandsModel", "mostMet", "()I"⟩, 80), (⟨"ThirdHandsModel", "meets", "()V"⟩, 80)]
theorem lw_r6 : ∀ q ∈ lw_privs_6, lw_okq q := List.forall_mem_cons.mpr ⟨lw_p80, List.forall_mem_cons.mpr ⟨lw_p81, List.forall_mem_cons.mpr ⟨lw_p82, List.forall_mem_cons.mpr ⟨lw_p83, List.forall_mem_cons.mpr ⟨lw_p84, List.forall_mem_cons.mpr ⟨lw_p85, List.forall_mem_cons.mpr ⟨lw_p86, List.forall_mem_cons.mpr ⟨lw_p87, List.forall_mem_cons.mpr ⟨lw_p88, List.forall_mem_cons.mpr ⟨lw_p89, List.forall_mem_cons.mpr ⟨lw_p90, List.forall_mem_cons.mpr ⟨lw_p91, List.forall_mem_cons.mpr ⟨lw_p92, List.forall_mem_cons.mpr ⟨lw_p93, List.forall_mem_cons.mpr ⟨lw_p94, List.forall_mem_cons.mpr ⟨lw_p95, fun _ h => absurd h List.not_mem_nil⟩⟩⟩⟩⟩⟩⟩⟩⟩⟩⟩⟩⟩⟩⟩⟩
theorem lw_p96 : lw_okq (⟨"ThirdHandsModel", "bestDay", "()V"⟩, 80) := ⟨⟨by decide +kernel, by decide +kernel⟩, List.mem_of_getElem? (i := 1418) (by decide +kernel), List.mem_of_getElem? (i := 1905) (by decide +kernel), List.mem_of_getElem? (i := 1906) (by decide +kernel)⟩
theorem lw_p97 : lw_okq (⟨"ThirdHandsModel", "act", "()Z"⟩, 80) := ⟨⟨by decide +kernel, by decide +kernel⟩, List.mem_of_getElem? (i := 1418) (by decide +kernel), List.mem_of_getElem? (i := 1923) (by decide +kernel), List.mem_of_getElem? (i := 1924) (by decide +kernel)⟩
theorem lw_p98 : lw_okq (⟨"ThirdHandsModel", "keepPlan", "()V"⟩, 80) := ⟨⟨by decide +kernel, by decide +kernel⟩, List.mem_of_getElem? (i := 1418) (by decide +kernel), List.mem_of_getElem? (i := 1927) (by decide +kernel), List.mem_of_getElem? (i := 1928) (by decide +kernel)⟩
theorem lw_p99 : lw_okq (⟨"ThirdHandsModel", "draw", "(I)I"⟩, 80) := ⟨⟨by decide +kernel, by decide +kernel⟩, List.mem_of_getElem? (i := 1418) (by decide +kernel), List.mem_of_getElem? (i := 1935) (by decide +kernel), List.mem_of_getElem? (i := 1936) (by decide +kernel)⟩
theorem lw_p100 : lw_okq (⟨"ThirdHandsModel", "does", "(I)I"⟩, 80) := ⟨⟨by decide +kernel, by decide +kernel⟩, List.mem_of_getElem? (i := 1418) (by decide +kernel), List.mem_of_getElem? (i := 1948) (by decide +kernel), List.mem_of_getElem? (i := 1949) (by decide +kernel)⟩
theorem lw_p101 : lw_okq (⟨"ThirdHandsModel", "whyNoUse", "(I)I"⟩, 80) := ⟨⟨by decide +kernel, by decide +kernel⟩, List.mem_of_getElem? (i := 1418) (by decide +kernel), List.mem_of_getElem? (i := 1952) (by decide +kernel), List.mem_of_getElem? (i := 1953) (by decide +kernel)⟩
theorem lw_p102 : lw_okq (⟨"ThirdHandsModel", "whyNot", "(I)I"⟩, 80) := ⟨⟨by decide +kernel, by decide +kernel⟩, List.mem_of_getElem? (i := 1418) (by decide +kernel), List.mem_of_getElem? (i := 1956) (by decide +kernel), List.mem_of_getElem? (i := 1957) (by decide +kernel)⟩
theorem lw_p103 : lw_okq (⟨"ThirdHandsModel", "wantFor", "(II)I"⟩, 80) := ⟨⟨by decide +kernel, by decide +kernel⟩, List.mem_of_getElem? (i := 1418) (by decide +kernel), List.mem_of_getElem? (i := 1960) (by decide +kernel), List.mem_of_getElem? (i := 1961) (by decide +kernel)⟩
theorem lw_p104 : lw_okq (⟨"ThirdHandsModel", "giver", "(II)I"⟩, 80) := ⟨⟨by decide +kernel, by decide +kernel⟩, List.mem_of_getElem? (i := 1418) (by decide +kernel), List.mem_of_getElem? (i := 1964) (by decide +kernel), List.mem_of_getElem? (i := 1965) (by decide +kernel)⟩
theorem lw_p105 : lw_okq (⟨"ThirdHandsModel", "lesserFirst", "(I)I"⟩, 80) := ⟨⟨by decide +kernel, by decide +kernel⟩, List.mem_of_getElem? (i := 1418) (by decide +kernel), List.mem_of_getElem? (i := 1968) (by decide +kernel), List.mem_of_getElem? (i := 1969) (by decide +kernel)⟩
theorem lw_p106 : lw_okq (⟨"ThirdHandsModel", "forbids", "(III)Z"⟩, 80) := ⟨⟨by decide +kernel, by decide +kernel⟩, List.mem_of_getElem? (i := 1418) (by decide +kernel), List.mem_of_getElem? (i := 1972) (by decide +kernel), List.mem_of_getElem? (i := 1973) (by decide +kernel)⟩
theorem lw_p107 : lw_okq (⟨"ThirdHandsModel", "asksBest", "(I)I"⟩, 80) := ⟨⟨by decide +kernel, by decide +kernel⟩, List.mem_of_getElem? (i := 1418) (by decide +kernel), List.mem_of_getElem? (i := 1996) (by decide +kernel), List.mem_of_getElem? (i := 1997) (by decide +kernel)⟩
theorem lw_p108 : lw_okq (⟨"ThirdHandsModel", "isRing", "()Z"⟩, 80) := ⟨⟨by decide +kernel, by decide +kernel⟩, List.mem_of_getElem? (i := 1418) (by decide +kernel), List.mem_of_getElem? (i := 2016) (by decide +kernel), List.mem_of_getElem? (i := 2017) (by decide +kernel)⟩
theorem lw_p109 : lw_okq (⟨"ThirdHandsModel", "octet", "(I)I"⟩, 80) := ⟨⟨by decide +kernel, by decide +kernel⟩, List.mem_of_getElem? (i := 1418) (by decide +kernel), List.mem_of_getElem? (i := 2020) (by decide +kernel), List.mem_of_getElem? (i := 2021) (by decide +kernel)⟩
theorem lw_p110 : lw_okq (⟨"ThirdHandsModel", "goesRound", "()Z"⟩, 80) := ⟨⟨by decide +kernel, by decide +kernel⟩, List.mem_of_getElem? (i := 1418) (by decide +kernel), List.mem_of_getElem? (i := 2024) (by decide +kernel), List.mem_of_getElem? (i := 2025) (by decide +kernel)⟩
theorem lw_p111 : lw_okq (⟨"ThirdHandsModel", "gain", "()V"⟩, 80) := ⟨⟨by decide +kernel, by decide +kernel⟩, List.mem_of_getElem? (i := 1418) (by decide +kernel), List.mem_of_getElem? (i := 2028) (by decide +kernel), List.mem_of_getElem? (i := 2029) (by decide +kernel)⟩
def lw_privs_7 : List (MethodName × Nat) := [(⟨"ThirdHandsModel", "bestDay", "()V"⟩, 80), (⟨"ThirdHandsModel", "act", "()Z"⟩, 80), (⟨"ThirdHandsModel", "keepPlan", "()V"⟩, 80), (⟨"ThirdHandsModel", "draw", "(I)I"⟩, 80), (⟨"ThirdHandsModel", "does", "(I)I"⟩, 80), (⟨"ThirdHandsModel", "whyNoUse", "(I)I"⟩, 80), (⟨"ThirdHandsModel", "whyNot", "(I)I"⟩, 80), (⟨"ThirdHandsModel", "wantFor", "(II)I"⟩, 80), (⟨"ThirdHandsModel", "giver", "(II)I"⟩, 80), (⟨"ThirdHandsModel", "lesserFirst", "(I)I"⟩, 80), (⟨"ThirdHandsModel", "forbids", "(III)Z"⟩, 80), (⟨"ThirdHandsModel", "asksBest", "(I)I"⟩, 80), (⟨"ThirdHandsModel", "isRing", "()Z"⟩, 80), (⟨"ThirdHandsModel", "octet", "(I)I"⟩, 80), (⟨"ThirdHandsModel", "goesRound", "()Z"⟩, 80), (⟨"ThirdHandsModel", "gain", "()V"⟩, 80)]
theorem lw_r7 : ∀ q ∈ lw_privs_7, lw_okq q := List.forall_mem_cons.mpr ⟨lw_p96, List.forall_mem_cons.mpr ⟨lw_p97, List.forall_mem_cons.mpr ⟨lw_p98, List.forall_mem_cons.mpr ⟨lw_p99, List.forall_mem_cons.mpr ⟨lw_p100, List.forall_mem_cons.mpr ⟨lw_p101, List.forall_mem_cons.mpr ⟨lw_p102, List.forall_mem_cons.mpr ⟨lw_p103, List.forall_mem_cons.mpr ⟨lw_p104, List.forall_mem_cons.mpr ⟨lw_p105, List.forall_mem_cons.mpr ⟨lw_p106, List.forall_mem_cons.mpr ⟨lw_p107, List.forall_mem_cons.mpr ⟨lw_p108, List.forall_mem_cons.mpr ⟨lw_p109, List.forall_mem_cons.mpr ⟨lw_p110, List.forall_mem_cons.mpr ⟨lw_p111, fun _ h => absurd h List.not_mem_nil⟩⟩⟩⟩⟩⟩⟩⟩⟩⟩⟩⟩⟩⟩⟩⟩
theorem lw_p112 : lw_okq (⟨"ThirdHandsModel", "unitBy", "(I)I"⟩, 80) := ⟨⟨by decide +kernel, by decide +kernel⟩, List.mem_of_getElem? (i := 1418) (by decide +kernel), List.mem_of_getElem? (i := 2032) (by decide +kernel), List.mem_of_getElem? (i := 2033) (by decide +kernel)⟩
theorem lw_p113 : lw_okq (⟨"ThirdHandsModel", "goesOn", "(II)Z"⟩, 80) := ⟨⟨by decide +kernel, by decide +kernel⟩, List.mem_of_getElem? (i := 1418) (by decide +kernel), List.mem_of_getElem? (i := 2036) (by decide +kernel), List.mem_of_getElem? (i := 2037) (by decide +kernel)⟩
theorem lw_p114 : lw_okq (⟨"ThirdHandsModel", "notesOf", "(I)V"⟩, 80) := ⟨⟨by decide +kernel, by decide +kernel⟩, List.mem_of_getElem? (i := 1418) (by decide +kernel), List.mem_of_getElem? (i := 2076) (by decide +kernel), List.mem_of_getElem? (i := 2077) (by decide +kernel)⟩
theorem lw_p115 : lw_okq (⟨"ThirdHandsModel", "areTrue", "(II)Z"⟩, 80) := ⟨⟨by decide +kernel, by decide +kernel⟩, List.mem_of_getElem? (i := 1418) (by decide +kernel), List.mem_of_getElem? (i := 2084) (by decide +kernel), List.mem_of_getElem? (i := 2085) (by decide +kernel)⟩
def lw_privs_8 : List (MethodName × Nat) := [(⟨"ThirdHandsModel", "unitBy", "(I)I"⟩, 80), (⟨"ThirdHandsModel", "goesOn", "(II)Z"⟩, 80), (⟨"ThirdHandsModel", "notesOf", "(I)V"⟩, 80), (⟨"ThirdHandsModel", "areTrue", "(II)Z"⟩, 80)]
theorem lw_r8 : ∀ q ∈ lw_privs_8, lw_okq q := List.forall_mem_cons.mpr ⟨lw_p112, List.forall_mem_cons.mpr ⟨lw_p113, List.forall_mem_cons.mpr ⟨lw_p114, List.forall_mem_cons.mpr ⟨lw_p115, fun _ h => absurd h List.not_mem_nil⟩⟩⟩⟩
def lw_privs : List (MethodName × Nat) := lw_privs_1 ++ (lw_privs_2 ++ (lw_privs_3 ++ (lw_privs_4 ++ (lw_privs_5 ++ (lw_privs_6 ++ (lw_privs_7 ++ (lw_privs_8)))))))
def lw_tbl : List Cond := k2_sels lw_privs ++ tables_1
theorem lw_privs_ok : ∀ q ∈ lw_privs, lw_okq q := by
  show ∀ q ∈ lw_privs_1 ++ (lw_privs_2 ++ (lw_privs_3 ++ (lw_privs_4 ++ (lw_privs_5 ++ (lw_privs_6 ++ (lw_privs_7 ++ (lw_privs_8))))))), lw_okq q
  exact List.forall_mem_append.mpr ⟨lw_r1, List.forall_mem_append.mpr ⟨lw_r2, List.forall_mem_append.mpr ⟨lw_r3, List.forall_mem_append.mpr ⟨lw_r4, List.forall_mem_append.mpr ⟨lw_r5, List.forall_mem_append.mpr ⟨lw_r6, List.forall_mem_append.mpr ⟨lw_r7, lw_r8⟩⟩⟩⟩⟩⟩⟩
def RX0 : String := "ThirdHands$Book"
def TX0 : u_T := fun k => match k with
  | 0 => ("ThirdHands$Book", "notes", "I", false)
  | 1 => ("ThirdHands$Book", "unit", "[I", true)
  | 2 => ("ThirdHands$Book", "from", "[I", true)
  | 3 => ("ThirdHands$Book", "to", "[I", true)
  | 4 => ("ThirdHands$Book", "hour", "[I", true)
  | 5 => ("ThirdHands$Book", "sorted", "[I", true)
  | _ => ("ThirdHands$Book", "rank", "[I", true)
def tyX0 : Nat → FieldType := fun k => match k with
  | 0 => .int
  | 1 => .array .int
  | 2 => .array .int
  | 3 => .array .int
  | 4 => .array .int
  | 5 => .array .int
  | _ => .array .int
abbrev wsX00 : List Cond := u_ws RX0 TX0 7
theorem nmX0 : ∀ a, a < 7 → ∀ b, b < 7 → a ≠ b → (TX0 a).2.1 ≠ (TX0 b).2.1 := by decide +kernel
theorem tyX0_ok : ∀ k, k < 7 → parseFieldDescriptor (TX0 k).2.2.1 = some (tyX0 k) := by decide +kernel
abbrev cX0_init : ByteArray := prog_2_method_1_code
def yX0_init : MethodName := ⟨RX0, "<init>", "()V"⟩
abbrev cX0_copy : ByteArray := prog_2_method_2_code
def yX0_copy : MethodName := ⟨RX0, "copy", "(LThirdHands$Book;)V"⟩
abbrev cX0_add : ByteArray := prog_2_method_3_code
def yX0_add : MethodName := ⟨RX0, "add", "(IIII)I"⟩
abbrev cX0_sort : ByteArray := prog_2_method_4_code
def yX0_sort : MethodName := ⟨RX0, "sort", "(I)I"⟩
abbrev cX0_found : ByteArray := prog_2_method_5_code
def yX0_found : MethodName := ⟨RX0, "found", "(ILThirdHands$Village;)I"⟩
abbrev cX0_areTrue : ByteArray := prog_2_method_6_code
def yX0_areTrue : MethodName := ⟨RX0, "areTrue", "(IIILThirdHands$Village;)Z"⟩
abbrev cX0_holder : ByteArray := prog_2_method_7_code
def yX0_holder : MethodName := ⟨RX0, "holder", "(IILThirdHands$Village;)I"⟩
def RX1 : String := "ThirdHands$Day"
def TX1 : u_T := fun k => match k with
  | 0 => ("ThirdHands$Day", "done", "Z", false)
  | 1 => ("ThirdHands$Day", "why", "I", false)
  | 2 => ("ThirdHands$Day", "hour", "I", false)
  | 3 => ("ThirdHands$Day", "met", "I", false)
  | 4 => ("ThirdHands$Day", "pains", "I", false)
  | 5 => ("ThirdHands$Day", "spoilt", "I", false)
  | 6 => ("ThirdHands$Day", "units", "I", false)
  | 7 => ("ThirdHands$Day", "usable", "I", false)
  | 8 => ("ThirdHands$Day", "who", "[I", true)
  | 9 => ("ThirdHands$Day", "nth", "[I", true)
  | 10 => ("ThirdHands$Day", "had", "[I", true)
  | _ => ("ThirdHands$Day", "due", "[I", true)
def tyX1 : Nat → FieldType := fun k => match k with
  | 0 => .boolean
  | 1 => .int
  | 2 => .int
  | 3 => .int
  | 4 => .int
  | 5 => .int
  | 6 => .int
  | 7 => .int
  | 8 => .array .int
  | 9 => .array .int
  | 10 => .array .int
  | _ => .array .int
abbrev wsX10 : List Cond := u_ws RX1 TX1 12
theorem nmX1 : ∀ a, a < 12 → ∀ b, b < 12 → a ≠ b → (TX1 a).2.1 ≠ (TX1 b).2.1 := by decide +kernel
theorem tyX1_ok : ∀ k, k < 12 → parseFieldDescriptor (TX1 k).2.2.1 = some (tyX1 k) := by decide +kernel
abbrev cX1_init : ByteArray := prog_3_method_1_code
def yX1_init : MethodName := ⟨RX1, "<init>", "()V"⟩
abbrev cX1_go : ByteArray := prog_3_method_2_code
def yX1_go : MethodName := ⟨RX1, "go", "(LThirdHands$Village;LThirdHands$Plan;)I"⟩
abbrev cX1_begin : ByteArray := prog_3_method_3_code
def yX1_begin : MethodName := ⟨RX1, "begin", "(LThirdHands$Village;)V"⟩
abbrev cX1_close : ByteArray := prog_3_method_4_code
def yX1_close : MethodName := ⟨RX1, "close", "(LThirdHands$Village;)V"⟩
abbrev cX1_doAct : ByteArray := prog_3_method_5_code
def yX1_doAct : MethodName := ⟨RX1, "doAct", "(LThirdHands$Village;III)I"⟩
abbrev cX1_give : ByteArray := prog_3_method_6_code
def yX1_give : MethodName := ⟨RX1, "give", "(LThirdHands$Village;II)I"⟩
abbrev cX1_giver : ByteArray := prog_3_method_7_code
def yX1_giver : MethodName := ⟨RX1, "giver", "(LThirdHands$Village;II)I"⟩
abbrev cX1_use : ByteArray := prog_3_method_8_code
def yX1_use : MethodName := ⟨RX1, "use", "(LThirdHands$Village;I)I"⟩
abbrev cX1_wantMet : ByteArray := prog_3_method_9_code
def yX1_wantMet : MethodName := ⟨RX1, "wantMet", "(LThirdHands$Village;I)I"⟩
def RX2 : String := "ThirdHands$Image"
def TX2 : u_T := fun k => match k with
  | 0 => ("ThirdHands$Image", "there", "Z", false)
  | 1 => ("ThirdHands$Image", "village", "LThirdHands$Village;", true)
  | 2 => ("ThirdHands$Image", "plan", "LThirdHands$Plan;", true)
  | _ => ("ThirdHands$Image", "book", "LThirdHands$Book;", true)
def tyX2 : Nat → FieldType := fun k => match k with
  | 0 => .boolean
  | 1 => .object "ThirdHands$Village"
  | 2 => .object "ThirdHands$Plan"
  | _ => .object "ThirdHands$Book"
abbrev wsX20 : List Cond := u_ws RX2 TX2 4
theorem nmX2 : ∀ a, a < 4 → ∀ b, b < 4 → a ≠ b → (TX2 a).2.1 ≠ (TX2 b).2.1 := by decide +kernel
theorem tyX2_ok : ∀ k, k < 4 → parseFieldDescriptor (TX2 k).2.2.1 = some (tyX2 k) := by decide +kernel
abbrev cX2_init : ByteArray := prog_4_method_1_code
def yX2_init : MethodName := ⟨RX2, "<init>", "()V"⟩
def RX3 : String := "ThirdHands$Meeting"
def TX3 : u_T := fun k => match k with
  | 0 => ("ThirdHands$Meeting", "ways", "LThirdHands$Ways;", true)
  | 1 => ("ThirdHands$Meeting", "village", "LThirdHands$Village;", true)
  | 2 => ("ThirdHands$Meeting", "chosen", "[J", true)
  | 3 => ("ThirdHands$Meeting", "doers", "[I", true)
  | 4 => ("ThirdHands$Meeting", "around", "[I", true)
  | 5 => ("ThirdHands$Meeting", "sums", "[J", true)
  | 6 => ("ThirdHands$Meeting", "values", "[J", true)
  | 7 => ("ThirdHands$Meeting", "top", "J", false)
  | _ => ("ThirdHands$Meeting", "gets", "I", false)
def tyX3 : Nat → FieldType := fun k => match k with
  | 0 => .object "ThirdHands$Ways"
  | 1 => .object "ThirdHands$Village"
  | 2 => .array .long
  | 3 => .array .int
  | 4 => .array .int
  | 5 => .array .long
  | 6 => .array .long
  | 7 => .long
  | _ => .int
abbrev wsX30 : List Cond := u_ws RX3 TX3 9
theorem nmX3 : ∀ a, a < 9 → ∀ b, b < 9 → a ≠ b → (TX3 a).2.1 ≠ (TX3 b).2.1 := by decide +kernel
theorem tyX3_ok : ∀ k, k < 9 → parseFieldDescriptor (TX3 k).2.2.1 = some (tyX3 k) := by decide +kernel
abbrev cX3_init : ByteArray := prog_5_method_1_code
def yX3_init : MethodName := ⟨RX3, "<init>", "(LThirdHands$Ways;)V"⟩
abbrev cX3_find : ByteArray := prog_5_method_2_code
def yX3_find : MethodName := ⟨RX3, "find", "()V"⟩
abbrev cX3_weigh : ByteArray := prog_5_method_3_code
def yX3_weigh : MethodName := ⟨RX3, "weigh", "()V"⟩
abbrev cX3_choose : ByteArray := prog_5_method_4_code
def yX3_choose : MethodName := ⟨RX3, "choose", "(I)V"⟩
abbrev cX3_takenAsking : ByteArray := prog_5_method_5_code
def yX3_takenAsking : MethodName := ⟨RX3, "takenAsking", "(II)J"⟩
abbrev cX3_taken : ByteArray := prog_5_method_6_code
def yX3_taken : MethodName := ⟨RX3, "taken", "(II)J"⟩
abbrev cX3_lookAround : ByteArray := prog_5_method_7_code
def yX3_lookAround : MethodName := ⟨RX3, "lookAround", "()V"⟩
abbrev cX3_matched : ByteArray := prog_5_method_8_code
def yX3_matched : MethodName := ⟨RX3, "matched", "()I"⟩
abbrev cX3_barring : ByteArray := prog_5_method_9_code
def yX3_barring : MethodName := ⟨RX3, "barring", "()I"⟩
abbrev cX3_solve : ByteArray := prog_5_method_10_code
def yX3_solve : MethodName := ⟨RX3, "solve", "()V"⟩
abbrev cX3_bestOfSort : ByteArray := prog_5_method_11_code
def yX3_bestOfSort : MethodName := ⟨RX3, "bestOfSort", "(I)J"⟩
abbrev cX3_meetBy : ByteArray := prog_5_method_12_code
def yX3_meetBy : MethodName := ⟨RX3, "meetBy", "(II)V"⟩
abbrev cX3_appraise : ByteArray := prog_5_method_13_code
def yX3_appraise : MethodName := ⟨RX3, "appraise", "(I)I"⟩
abbrev cX3_digitOf : ByteArray := prog_5_method_14_code
def yX3_digitOf : MethodName := ⟨RX3, "digitOf", "(I)I"⟩
abbrev cX3_sum : ByteArray := prog_5_method_15_code
def yX3_sum : MethodName := ⟨RX3, "sum", "()I"⟩
abbrev cX3_metCount : ByteArray := prog_5_method_16_code
def yX3_metCount : MethodName := ⟨RX3, "metCount", "()I"⟩
abbrev cX3_unitFor : ByteArray := prog_5_method_17_code
def yX3_unitFor : MethodName := ⟨RX3, "unitFor", "(I)I"⟩
abbrev cX3_metWants : ByteArray := prog_5_method_18_code
def yX3_metWants : MethodName := ⟨RX3, "metWants", "()I"⟩
abbrev cX3_painsMet : ByteArray := prog_5_method_19_code
def yX3_painsMet : MethodName := ⟨RX3, "painsMet", "()I"⟩
abbrev cX3_timesMet : ByteArray := prog_5_method_20_code
def yX3_timesMet : MethodName := ⟨RX3, "timesMet", "(I)I"⟩
abbrev cX3_middleAsk : ByteArray := prog_5_method_21_code
def yX3_middleAsk : MethodName := ⟨RX3, "middleAsk", "(I)I"⟩
def RX4 : String := "ThirdHands$Plan"
def TX4 : u_T := fun k => match k with
  | 0 => ("ThirdHands$Plan", "acts", "I", false)
  | 1 => ("ThirdHands$Plan", "what", "[I", true)
  | 2 => ("ThirdHands$Plan", "unit", "[I", true)
  | 3 => ("ThirdHands$Plan", "whom", "[I", true)
  | _ => ("ThirdHands$Plan", "seed", "I", false)
def tyX4 : Nat → FieldType := fun k => match k with
  | 0 => .int
  | 1 => .array .int
  | 2 => .array .int
  | 3 => .array .int
  | _ => .int
abbrev wsX40 : List Cond := u_ws RX4 TX4 5
theorem nmX4 : ∀ a, a < 5 → ∀ b, b < 5 → a ≠ b → (TX4 a).2.1 ≠ (TX4 b).2.1 := by decide +kernel
theorem tyX4_ok : ∀ k, k < 5 → parseFieldDescriptor (TX4 k).2.2.1 = some (tyX4 k) := by decide +kernel
abbrev cX4_init : ByteArray := prog_6_method_1_code
def yX4_init : MethodName := ⟨RX4, "<init>", "()V"⟩
abbrev cX4_copy : ByteArray := prog_6_method_2_code
def yX4_copy : MethodName := ⟨RX4, "copy", "(LThirdHands$Plan;)V"⟩
abbrev cX4_add : ByteArray := prog_6_method_3_code
def yX4_add : MethodName := ⟨RX4, "add", "(III)V"⟩
abbrev cX4_read : ByteArray := prog_6_method_4_code
def yX4_read : MethodName := ⟨RX4, "read", "(LThirdHands$Tokens;LThirdHands$Village;)I"⟩
abbrev cX4_readAct : ByteArray := prog_6_method_5_code
def yX4_readAct : MethodName := ⟨RX4, "readAct", "(LThirdHands$Tokens;LThirdHands$Village;)Z"⟩
abbrev cX4_draw : ByteArray := prog_6_method_6_code
def yX4_draw : MethodName := ⟨RX4, "draw", "(IILThirdHands$Village;)V"⟩
abbrev cX4_next : ByteArray := prog_6_method_7_code
def yX4_next : MethodName := ⟨RX4, "next", "(I)I"⟩
def RX5 : String := "ThirdHands$Ring"
def TX5 : u_T := fun k => match k with
  | 0 => ("ThirdHands$Ring", "village", "LThirdHands$Village;", true)
  | 1 => ("ThirdHands$Ring", "order", "[I", true)
  | 2 => ("ThirdHands$Ring", "size", "I", false)
  | _ => ("ThirdHands$Ring", "gains", "[I", true)
def tyX5 : Nat → FieldType := fun k => match k with
  | 0 => .object "ThirdHands$Village"
  | 1 => .array .int
  | 2 => .int
  | _ => .array .int
abbrev wsX50 : List Cond := u_ws RX5 TX5 4
theorem nmX5 : ∀ a, a < 4 → ∀ b, b < 4 → a ≠ b → (TX5 a).2.1 ≠ (TX5 b).2.1 := by decide +kernel
theorem tyX5_ok : ∀ k, k < 4 → parseFieldDescriptor (TX5 k).2.2.1 = some (tyX5 k) := by decide +kernel
abbrev cX5_init : ByteArray := prog_7_method_1_code
def yX5_init : MethodName := ⟨RX5, "<init>", "(LThirdHands$Village;)V"⟩
abbrev cX5_take : ByteArray := prog_7_method_2_code
def yX5_take : MethodName := ⟨RX5, "take", "([II)Z"⟩
abbrev cX5_spot : ByteArray := prog_7_method_3_code
def yX5_spot : MethodName := ⟨RX5, "spot", "(I)I"⟩
abbrev cX5_at : ByteArray := prog_7_method_4_code
def yX5_at : MethodName := ⟨RX5, "at", "(I)I"⟩
abbrev cX5_painsFrom : ByteArray := prog_7_method_5_code
def yX5_painsFrom : MethodName := ⟨RX5, "painsFrom", "(I)I"⟩
abbrev cX5_closes : ByteArray := prog_7_method_6_code
def yX5_closes : MethodName := ⟨RX5, "closes", "()Z"⟩
abbrev cX5_reckon : ByteArray := prog_7_method_7_code
def yX5_reckon : MethodName := ⟨RX5, "reckon", "()V"⟩
abbrev cX5_madeBy : ByteArray := prog_7_method_8_code
def yX5_madeBy : MethodName := ⟨RX5, "madeBy", "(I)I"⟩
abbrev cX5_goes : ByteArray := prog_7_method_9_code
def yX5_goes : MethodName := ⟨RX5, "goes", "(II)Z"⟩
abbrev cX5_send : ByteArray := prog_7_method_10_code
def yX5_send : MethodName := ⟨RX5, "send", "(II)V"⟩
abbrev cX5_worth : ByteArray := prog_7_method_11_code
def yX5_worth : MethodName := ⟨RX5, "worth", "(II)I"⟩
abbrev cX5_losers : ByteArray := prog_7_method_12_code
def yX5_losers : MethodName := ⟨RX5, "losers", "()I"⟩
abbrev cX5_members : ByteArray := prog_7_method_13_code
def yX5_members : MethodName := ⟨RX5, "members", "()I"⟩
abbrev cX5_leave : ByteArray := prog_7_method_14_code
def yX5_leave : MethodName := ⟨RX5, "leave", "(I)V"⟩
def RX6 : String := "ThirdHands$Terms"
def TX6 : u_T := fun k => match k with
  | 0 => ("ThirdHands$Terms", "village", "LThirdHands$Village;", true)
  | 1 => ("ThirdHands$Terms", "n", "I", false)
  | 2 => ("ThirdHands$Terms", "back", "I", false)
  | 3 => ("ThirdHands$Terms", "asks", "[I", true)
  | 4 => ("ThirdHands$Terms", "pains", "[I", true)
  | 5 => ("ThirdHands$Terms", "hours", "[I", true)
  | 6 => ("ThirdHands$Terms", "hands", "I", false)
  | _ => ("ThirdHands$Terms", "givers", "I", false)
def tyX6 : Nat → FieldType := fun k => match k with
  | 0 => .object "ThirdHands$Village"
  | 1 => .int
  | 2 => .int
  | 3 => .array .int
  | 4 => .array .int
  | 5 => .array .int
  | 6 => .int
  | _ => .int
abbrev wsX60 : List Cond := u_ws RX6 TX6 8
theorem nmX6 : ∀ a, a < 8 → ∀ b, b < 8 → a ≠ b → (TX6 a).2.1 ≠ (TX6 b).2.1 := by decide +kernel
theorem tyX6_ok : ∀ k, k < 8 → parseFieldDescriptor (TX6 k).2.2.1 = some (tyX6 k) := by decide +kernel
abbrev cX6_init : ByteArray := prog_8_method_1_code
def yX6_init : MethodName := ⟨RX6, "<init>", "(LThirdHands$Village;)V"⟩
abbrev cX6_reset : ByteArray := prog_8_method_2_code
def yX6_reset : MethodName := ⟨RX6, "reset", "()V"⟩
def RX7 : String := "ThirdHands$Tokens"
def TX7 : u_T := fun k => match k with
  | 0 => ("ThirdHands$Tokens", "text", "[I", true)
  | 1 => ("ThirdHands$Tokens", "words", "[I", true)
  | 2 => ("ThirdHands$Tokens", "length", "I", false)
  | 3 => ("ThirdHands$Tokens", "readable", "I", false)
  | 4 => ("ThirdHands$Tokens", "next", "I", false)
  | 5 => ("ThirdHands$Tokens", "kind", "I", false)
  | 6 => ("ThirdHands$Tokens", "value", "I", false)
  | 7 => ("ThirdHands$Tokens", "place", "I", false)
  | _ => ("ThirdHands$Tokens", "fault", "I", false)
def tyX7 : Nat → FieldType := fun k => match k with
  | 0 => .array .int
  | 1 => .array .int
  | 2 => .int
  | 3 => .int
  | 4 => .int
  | 5 => .int
  | 6 => .int
  | 7 => .int
  | _ => .int
abbrev wsX70 : List Cond := u_ws RX7 TX7 9
theorem nmX7 : ∀ a, a < 9 → ∀ b, b < 9 → a ≠ b → (TX7 a).2.1 ≠ (TX7 b).2.1 := by decide +kernel
theorem tyX7_ok : ∀ k, k < 9 → parseFieldDescriptor (TX7 k).2.2.1 = some (tyX7 k) := by decide +kernel
abbrev cX7_init : ByteArray := prog_9_method_1_code
def yX7_init : MethodName := ⟨RX7, "<init>", "([I)V"⟩
abbrev cX7_start : ByteArray := prog_9_method_2_code
def yX7_start : MethodName := ⟨RX7, "start", "(II)V"⟩
abbrev cX7_advance : ByteArray := prog_9_method_3_code
def yX7_advance : MethodName := ⟨RX7, "advance", "()V"⟩
abbrev cX7_takeRun : ByteArray := prog_9_method_4_code
def yX7_takeRun : MethodName := ⟨RX7, "takeRun", "(II)V"⟩
abbrev cX7_takeWord : ByteArray := prog_9_method_5_code
def yX7_takeWord : MethodName := ⟨RX7, "takeWord", "(I)V"⟩
abbrev cX7_isDigit : ByteArray := prog_9_method_6_code
def yX7_isDigit : MethodName := ⟨RX7, "isDigit", "(I)Z"⟩
abbrev cX7_isLetter : ByteArray := prog_9_method_7_code
def yX7_isLetter : MethodName := ⟨RX7, "isLetter", "(I)Z"⟩
abbrev cX7_fail : ByteArray := prog_9_method_8_code
def yX7_fail : MethodName := ⟨RX7, "fail", "(I)Z"⟩
abbrev cX7_faultAnswer : ByteArray := prog_9_method_9_code
def yX7_faultAnswer : MethodName := ⟨RX7, "faultAnswer", "()I"⟩
abbrev cX7_word : ByteArray := prog_9_method_10_code
def yX7_word : MethodName := ⟨RX7, "word", "()I"⟩
abbrev cX7_skipWord : ByteArray := prog_9_method_11_code
def yX7_skipWord : MethodName := ⟨RX7, "skipWord", "(I)Z"⟩
abbrev cX7_isNumber : ByteArray := prog_9_method_12_code
def yX7_isNumber : MethodName := ⟨RX7, "isNumber", "(II)Z"⟩
abbrev cX7_isName : ByteArray := prog_9_method_13_code
def yX7_isName : MethodName := ⟨RX7, "isName", "()Z"⟩
abbrev cX7_takeValue : ByteArray := prog_9_method_14_code
def yX7_takeValue : MethodName := ⟨RX7, "takeValue", "()I"⟩
abbrev cX7_semicolon : ByteArray := prog_9_method_15_code
def yX7_semicolon : MethodName := ⟨RX7, "semicolon", "()Z"⟩
def RX8 : String := "ThirdHands$Told"
def TX8 : u_T := fun k => match k with
  | 0 => ("ThirdHands$Told", "hand", "[I", true)
  | 1 => ("ThirdHands$Told", "hands", "I", false)
  | 2 => ("ThirdHands$Told", "asks", "[I", true)
  | 3 => ("ThirdHands$Told", "askers", "I", false)
  | 4 => ("ThirdHands$Told", "gains", "[I", true)
  | 5 => ("ThirdHands$Told", "gainers", "I", false)
  | 6 => ("ThirdHands$Told", "middleGets", "I", false)
  | _ => ("ThirdHands$Told", "starving", "I", false)
def tyX8 : Nat → FieldType := fun k => match k with
  | 0 => .array .int
  | 1 => .int
  | 2 => .array .int
  | 3 => .int
  | 4 => .array .int
  | 5 => .int
  | 6 => .int
  | _ => .int
abbrev wsX80 : List Cond := u_ws RX8 TX8 8
theorem nmX8 : ∀ a, a < 8 → ∀ b, b < 8 → a ≠ b → (TX8 a).2.1 ≠ (TX8 b).2.1 := by decide +kernel
theorem tyX8_ok : ∀ k, k < 8 → parseFieldDescriptor (TX8 k).2.2.1 = some (tyX8 k) := by decide +kernel
abbrev cX8_init : ByteArray := prog_10_method_1_code
def yX8_init : MethodName := ⟨RX8, "<init>", "()V"⟩
abbrev cX8_keepWay : ByteArray := prog_10_method_2_code
def yX8_keepWay : MethodName := ⟨RX8, "keepWay", "(II)V"⟩
abbrev cX8_keepAsks : ByteArray := prog_10_method_3_code
def yX8_keepAsks : MethodName := ⟨RX8, "keepAsks", "([II)V"⟩
abbrev cX8_keepGains : ByteArray := prog_10_method_4_code
def yX8_keepGains : MethodName := ⟨RX8, "keepGains", "([II)V"⟩
def RX9 : String := "ThirdHands$Village"
def TX9 : u_T := fun k => match k with
  | 0 => ("ThirdHands$Village", "people", "I", false)
  | 1 => ("ThirdHands$Village", "names", "[I", true)
  | 2 => ("ThirdHands$Village", "towns", "[I", true)
  | 3 => ("ThirdHands$Village", "mates", "[I", true)
  | 4 => ("ThirdHands$Village", "asks", "[I", true)
  | 5 => ("ThirdHands$Village", "sorts", "I", false)
  | 6 => ("ThirdHands$Village", "sortNames", "[I", true)
  | 7 => ("ThirdHands$Village", "lives", "[I", true)
  | 8 => ("ThirdHands$Village", "units", "I", false)
  | 9 => ("ThirdHands$Village", "unit", "[I", true)
  | 10 => ("ThirdHands$Village", "lead", "[I", true)
  | 11 => ("ThirdHands$Village", "wants", "I", false)
  | 12 => ("ThirdHands$Village", "want", "[I", true)
  | 13 => ("ThirdHands$Village", "pains", "[I", true)
  | 14 => ("ThirdHands$Village", "hours", "[I", true)
  | 15 => ("ThirdHands$Village", "n", "I", false)
  | 16 => ("ThirdHands$Village", "back", "I", false)
  | _ => ("ThirdHands$Village", "lawTold", "Z", false)
def tyX9 : Nat → FieldType := fun k => match k with
  | 0 => .int
  | 1 => .array .int
  | 2 => .array .int
  | 3 => .array .int
  | 4 => .array .int
  | 5 => .int
  | 6 => .array .int
  | 7 => .array .int
  | 8 => .int
  | 9 => .array .int
  | 10 => .array .int
  | 11 => .int
  | 12 => .array .int
  | 13 => .array .int
  | 14 => .array .int
  | 15 => .int
  | 16 => .int
  | _ => .boolean
abbrev wsX90 : List Cond := u_ws RX9 TX9 18
theorem nmX9 : ∀ a, a < 18 → ∀ b, b < 18 → a ≠ b → (TX9 a).2.1 ≠ (TX9 b).2.1 := by decide +kernel
theorem tyX9_ok : ∀ k, k < 18 → parseFieldDescriptor (TX9 k).2.2.1 = some (tyX9 k) := by decide +kernel
abbrev cX9_init : ByteArray := prog_11_method_1_code
def yX9_init : MethodName := ⟨RX9, "<init>", "()V"⟩
abbrev cX9_copy : ByteArray := prog_11_method_2_code
def yX9_copy : MethodName := ⟨RX9, "copy", "(LThirdHands$Village;)V"⟩
abbrev cX9_clear : ByteArray := prog_11_method_3_code
def yX9_clear : MethodName := ⟨RX9, "clear", "()V"⟩
abbrev cX9_hasPerson : ByteArray := prog_11_method_4_code
def yX9_hasPerson : MethodName := ⟨RX9, "hasPerson", "(I)Z"⟩
abbrev cX9_hasUnit : ByteArray := prog_11_method_5_code
def yX9_hasUnit : MethodName := ⟨RX9, "hasUnit", "(I)Z"⟩
abbrev cX9_hasWant : ByteArray := prog_11_method_6_code
def yX9_hasWant : MethodName := ⟨RX9, "hasWant", "(I)Z"⟩
abbrev cX9_ofUnit : ByteArray := prog_11_method_7_code
def yX9_ofUnit : MethodName := ⟨RX9, "ofUnit", "(II)I"⟩
abbrev cX9_ofWant : ByteArray := prog_11_method_8_code
def yX9_ofWant : MethodName := ⟨RX9, "ofWant", "(II)I"⟩
abbrev cX9_firsts : ByteArray := prog_11_method_9_code
def yX9_firsts : MethodName := ⟨RX9, "firsts", "(I)I"⟩
abbrev cX9_allWants : ByteArray := prog_11_method_10_code
def yX9_allWants : MethodName := ⟨RX9, "allWants", "()I"⟩
abbrev cX9_wantsOf : ByteArray := prog_11_method_11_code
def yX9_wantsOf : MethodName := ⟨RX9, "wantsOf", "(I)I"⟩
abbrev cX9_wantsOfSort : ByteArray := prog_11_method_12_code
def yX9_wantsOfSort : MethodName := ⟨RX9, "wantsOfSort", "(I)I"⟩
abbrev cX9_lets : ByteArray := prog_11_method_13_code
def yX9_lets : MethodName := ⟨RX9, "lets", "(IIII)Z"⟩
abbrev cX9_read : ByteArray := prog_11_method_14_code
def yX9_read : MethodName := ⟨RX9, "read", "(LThirdHands$Tokens;)I"⟩
abbrev cX9_line : ByteArray := prog_11_method_15_code
def yX9_line : MethodName := ⟨RX9, "line", "(LThirdHands$Tokens;)Z"⟩
abbrev cX9_indexOf : ByteArray := prog_11_method_16_code
def yX9_indexOf : MethodName := ⟨RX9, "indexOf", "([III)I"⟩
abbrev cX9_isNewName : ByteArray := prog_11_method_17_code
def yX9_isNewName : MethodName := ⟨RX9, "isNewName", "(LThirdHands$Tokens;)Z"⟩
abbrev cX9_person : ByteArray := prog_11_method_18_code
def yX9_person : MethodName := ⟨RX9, "person", "(LThirdHands$Tokens;I)I"⟩
abbrev cX9_takePerson : ByteArray := prog_11_method_19_code
def yX9_takePerson : MethodName := ⟨RX9, "takePerson", "(LThirdHands$Tokens;I)I"⟩
abbrev cX9_takeSort : ByteArray := prog_11_method_20_code
def yX9_takeSort : MethodName := ⟨RX9, "takeSort", "(LThirdHands$Tokens;)I"⟩
abbrev cX9_whoLine : ByteArray := prog_11_method_21_code
def yX9_whoLine : MethodName := ⟨RX9, "whoLine", "(LThirdHands$Tokens;)Z"⟩
abbrev cX9_join : ByteArray := prog_11_method_22_code
def yX9_join : MethodName := ⟨RX9, "join", "(I)V"⟩
abbrev cX9_sortLine : ByteArray := prog_11_method_23_code
def yX9_sortLine : MethodName := ⟨RX9, "sortLine", "(LThirdHands$Tokens;)Z"⟩
abbrev cX9_makesLine : ByteArray := prog_11_method_24_code
def yX9_makesLine : MethodName := ⟨RX9, "makesLine", "(LThirdHands$Tokens;)Z"⟩
abbrev cX9_addUnit : ByteArray := prog_11_method_25_code
def yX9_addUnit : MethodName := ⟨RX9, "addUnit", "(IIIII)V"⟩
abbrev cX9_wantsLine : ByteArray := prog_11_method_26_code
def yX9_wantsLine : MethodName := ⟨RX9, "wantsLine", "(LThirdHands$Tokens;)Z"⟩
abbrev cX9_givesLine : ByteArray := prog_11_method_27_code
def yX9_givesLine : MethodName := ⟨RX9, "givesLine", "(LThirdHands$Tokens;)Z"⟩
abbrev cX9_lawLine : ByteArray := prog_11_method_28_code
def yX9_lawLine : MethodName := ⟨RX9, "lawLine", "(LThirdHands$Tokens;)Z"⟩
def RX10 : String := "ThirdHands$Ways"
def TX10 : u_T := fun k => match k with
  | 0 => ("ThirdHands$Ways", "terms", "LThirdHands$Terms;", true)
  | 1 => ("ThirdHands$Ways", "village", "LThirdHands$Village;", true)
  | 2 => ("ThirdHands$Ways", "watched", "I", false)
  | 3 => ("ThirdHands$Ways", "keys", "[J", true)
  | 4 => ("ThirdHands$Ways", "rooms", "[I", true)
  | 5 => ("ThirdHands$Ways", "counts", "[I", true)
  | 6 => ("ThirdHands$Ways", "least", "[I", true)
  | 7 => ("ThirdHands$Ways", "unit", "I", false)
  | 8 => ("ThirdHands$Ways", "firsts", "I", false)
  | 9 => ("ThirdHands$Ways", "wanters", "I", false)
  | 10 => ("ThirdHands$Ways", "room", "I", false)
  | 11 => ("ThirdHands$Ways", "hand", "[I", true)
  | 12 => ("ThirdHands$Ways", "had", "[I", true)
  | 13 => ("ThirdHands$Ways", "spent", "[I", true)
  | 14 => ("ThirdHands$Ways", "cost", "[I", true)
  | _ => ("ThirdHands$Ways", "times", "[I", true)
def tyX10 : Nat → FieldType := fun k => match k with
  | 0 => .object "ThirdHands$Terms"
  | 1 => .object "ThirdHands$Village"
  | 2 => .int
  | 3 => .array .long
  | 4 => .array .int
  | 5 => .array .int
  | 6 => .array .int
  | 7 => .int
  | 8 => .int
  | 9 => .int
  | 10 => .int
  | 11 => .array .int
  | 12 => .array .int
  | 13 => .array .int
  | 14 => .array .int
  | _ => .array .int
abbrev wsX100 : List Cond := u_ws RX10 TX10 16
theorem nmX10 : ∀ a, a < 16 → ∀ b, b < 16 → a ≠ b → (TX10 a).2.1 ≠ (TX10 b).2.1 := by decide +kernel
theorem tyX10_ok : ∀ k, k < 16 → parseFieldDescriptor (TX10 k).2.2.1 = some (tyX10 k) := by decide +kernel
abbrev cX10_init : ByteArray := prog_12_method_1_code
def yX10_init : MethodName := ⟨RX10, "<init>", "(LThirdHands$Terms;)V"⟩
abbrev cX10_cost : ByteArray := prog_12_method_2_code
def yX10_cost : MethodName := ⟨RX10, "cost", "(J)I"⟩
abbrev cX10_hours : ByteArray := prog_12_method_3_code
def yX10_hours : MethodName := ⟨RX10, "hours", "(J)I"⟩
abbrev cX10_path : ByteArray := prog_12_method_4_code
def yX10_path : MethodName := ⟨RX10, "path", "(J)I"⟩
abbrev cX10_handOf : ByteArray := prog_12_method_5_code
def yX10_handOf : MethodName := ⟨RX10, "handOf", "(III)I"⟩
abbrev cX10_asking : ByteArray := prog_12_method_6_code
def yX10_asking : MethodName := ⟨RX10, "asking", "(JI)J"⟩
abbrev cX10_pains : ByteArray := prog_12_method_7_code
def yX10_pains : MethodName := ⟨RX10, "pains", "(J)I"⟩
abbrev cX10_timesBetween : ByteArray := prog_12_method_8_code
def yX10_timesBetween : MethodName := ⟨RX10, "timesBetween", "(JI)I"⟩
abbrev cX10_walkAll : ByteArray := prog_12_method_9_code
def yX10_walkAll : MethodName := ⟨RX10, "walkAll", "()V"⟩
abbrev cX10_walkUnit : ByteArray := prog_12_method_10_code
def yX10_walkUnit : MethodName := ⟨RX10, "walkUnit", "(I)V"⟩
abbrev cX10_measureRooms : ByteArray := prog_12_method_11_code
def yX10_measureRooms : MethodName := ⟨RX10, "measureRooms", "()V"⟩
abbrev cX10_onward : ByteArray := prog_12_method_12_code
def yX10_onward : MethodName := ⟨RX10, "onward", "(I)V"⟩
abbrev cX10_step : ByteArray := prog_12_method_13_code
def yX10_step : MethodName := ⟨RX10, "step", "(III)V"⟩
abbrev cX10_arrive : ByteArray := prog_12_method_14_code
def yX10_arrive : MethodName := ⟨RX10, "arrive", "(I)V"⟩
def RX11 : String := "ThirdHands"
def TX11 : u_T := fun k => match k with
  | 0 => ("ThirdHands", "tape", "[I", true)
  | 1 => ("ThirdHands", "bytes", "I", false)
  | 2 => ("ThirdHands", "fault", "I", false)
  | 3 => ("ThirdHands", "tokens", "LThirdHands$Tokens;", true)
  | 4 => ("ThirdHands", "village", "LThirdHands$Village;", true)
  | 5 => ("ThirdHands", "draft", "LThirdHands$Village;", true)
  | 6 => ("ThirdHands", "plan", "LThirdHands$Plan;", true)
  | 7 => ("ThirdHands", "planDraft", "LThirdHands$Plan;", true)
  | 8 => ("ThirdHands", "book", "LThirdHands$Book;", true)
  | 9 => ("ThirdHands", "images", "[LThirdHands$Image;", true)
  | 10 => ("ThirdHands", "told", "LThirdHands$Meeting;", true)
  | 11 => ("ThirdHands", "trial", "LThirdHands$Meeting;", true)
  | 12 => ("ThirdHands", "stale", "Z", false)
  | 13 => ("ThirdHands", "day", "LThirdHands$Day;", true)
  | 14 => ("ThirdHands", "ringNow", "LThirdHands$Ring;", true)
  | _ => ("ThirdHands", "last", "LThirdHands$Told;", true)
def tyX11 : Nat → FieldType := fun k => match k with
  | 0 => .array .int
  | 1 => .int
  | 2 => .int
  | 3 => .object "ThirdHands$Tokens"
  | 4 => .object "ThirdHands$Village"
  | 5 => .object "ThirdHands$Village"
  | 6 => .object "ThirdHands$Plan"
  | 7 => .object "ThirdHands$Plan"
  | 8 => .object "ThirdHands$Book"
  | 9 => .array (.object "ThirdHands$Image")
  | 10 => .object "ThirdHands$Meeting"
  | 11 => .object "ThirdHands$Meeting"
  | 12 => .boolean
  | 13 => .object "ThirdHands$Day"
  | 14 => .object "ThirdHands$Ring"
  | _ => .object "ThirdHands$Told"
abbrev wsX110 : List Cond := u_ws RX11 TX11 16
theorem nmX11 : ∀ a, a < 16 → ∀ b, b < 16 → a ≠ b → (TX11 a).2.1 ≠ (TX11 b).2.1 := by decide +kernel
theorem tyX11_ok : ∀ k, k < 16 → parseFieldDescriptor (TX11 k).2.2.1 = some (tyX11 k) := by decide +kernel
abbrev cX11_init : ByteArray := prog_1_method_1_code
def yX11_init : MethodName := ⟨RX11, "<init>", "()V"⟩
abbrev cX11_feed : ByteArray := prog_1_method_2_code
def yX11_feed : MethodName := ⟨RX11, "feed", "(IIIII)I"⟩
abbrev cX11_feedNumber : ByteArray := prog_1_method_3_code
def yX11_feedNumber : MethodName := ⟨RX11, "feedNumber", "(I)V"⟩
abbrev cX11_end : ByteArray := prog_1_method_4_code
def yX11_end : MethodName := ⟨RX11, "end", "(I)Z"⟩
abbrev cX11_takeTape : ByteArray := prog_1_method_5_code
def yX11_takeTape : MethodName := ⟨RX11, "takeTape", "()I"⟩
abbrev cX11_village : ByteArray := prog_1_method_6_code
def yX11_village : MethodName := ⟨RX11, "village", "()I"⟩
abbrev cX11_fault : ByteArray := prog_1_method_7_code
def yX11_fault : MethodName := ⟨RX11, "fault", "()I"⟩
abbrev cX11_unit : ByteArray := prog_1_method_8_code
def yX11_unit : MethodName := ⟨RX11, "unit", "(II)I"⟩
abbrev cX11_want : ByteArray := prog_1_method_9_code
def yX11_want : MethodName := ⟨RX11, "want", "(II)I"⟩
abbrev cX11_giving : ByteArray := prog_1_method_10_code
def yX11_giving : MethodName := ⟨RX11, "giving", "(III)I"⟩
abbrev cX11_asTold : ByteArray := prog_1_method_11_code
def yX11_asTold : MethodName := ⟨RX11, "asTold", "()LThirdHands$Meeting;"⟩
abbrev cX11_supposing : ByteArray := prog_1_method_12_code
def yX11_supposing : MethodName := ⟨RX11, "supposing", "()LThirdHands$Meeting;"⟩
abbrev cX11_way : ByteArray := prog_1_method_13_code
def yX11_way : MethodName := ⟨RX11, "way", "(III)I"⟩
abbrev cX11_hand : ByteArray := prog_1_method_14_code
def yX11_hand : MethodName := ⟨RX11, "hand", "(I)I"⟩
abbrev cX11_most : ByteArray := prog_1_method_15_code
def yX11_most : MethodName := ⟨RX11, "most", "()I"⟩
abbrev cX11_bars : ByteArray := prog_1_method_16_code
def yX11_bars : MethodName := ⟨RX11, "bars", "()I"⟩
abbrev cX11_best : ByteArray := prog_1_method_17_code
def yX11_best : MethodName := ⟨RX11, "best", "(I)I"⟩
abbrev cX11_bestOf : ByteArray := prog_1_method_18_code
def yX11_bestOf : MethodName := ⟨RX11, "bestOf", "(I)I"⟩
abbrev cX11_plan : ByteArray := prog_1_method_19_code
def yX11_plan : MethodName := ⟨RX11, "plan", "()I"⟩
abbrev cX11_drawn : ByteArray := prog_1_method_20_code
def yX11_drawn : MethodName := ⟨RX11, "drawn", "(II)I"⟩
abbrev cX11_act : ByteArray := prog_1_method_21_code
def yX11_act : MethodName := ⟨RX11, "act", "(II)I"⟩
abbrev cX11_judge : ByteArray := prog_1_method_22_code
def yX11_judge : MethodName := ⟨RX11, "judge", "()I"⟩
abbrev cX11_judged : ByteArray := prog_1_method_23_code
def yX11_judged : MethodName := ⟨RX11, "judged", "(I)I"⟩
abbrev cX11_holds : ByteArray := prog_1_method_24_code
def yX11_holds : MethodName := ⟨RX11, "holds", "(II)I"⟩
abbrev cX11_ways : ByteArray := prog_1_method_25_code
def yX11_ways : MethodName := ⟨RX11, "ways", "(III)I"⟩
abbrev cX11_latest : ByteArray := prog_1_method_26_code
def yX11_latest : MethodName := ⟨RX11, "latest", "(II)I"⟩
abbrev cX11_rest : ByteArray := prog_1_method_27_code
def yX11_rest : MethodName := ⟨RX11, "rest", "()I"⟩
abbrev cX11_askAnew : ByteArray := prog_1_method_28_code
def yX11_askAnew : MethodName := ⟨RX11, "askAnew", "(LThirdHands$Meeting;)Z"⟩
abbrev cX11_restOf : ByteArray := prog_1_method_29_code
def yX11_restOf : MethodName := ⟨RX11, "restOf", "(I)I"⟩
abbrev cX11_middle : ByteArray := prog_1_method_30_code
def yX11_middle : MethodName := ⟨RX11, "middle", "(I)I"⟩
abbrev cX11_middleBy : ByteArray := prog_1_method_31_code
def yX11_middleBy : MethodName := ⟨RX11, "middleBy", "()I"⟩
abbrev cX11_ring : ByteArray := prog_1_method_32_code
def yX11_ring : MethodName := ⟨RX11, "ring", "()I"⟩
abbrev cX11_gain : ByteArray := prog_1_method_33_code
def yX11_gain : MethodName := ⟨RX11, "gain", "(I)I"⟩
abbrev cX11_lasts : ByteArray := prog_1_method_34_code
def yX11_lasts : MethodName := ⟨RX11, "lasts", "()I"⟩
abbrev cX11_quarrel : ByteArray := prog_1_method_35_code
def yX11_quarrel : MethodName := ⟨RX11, "quarrel", "(II)I"⟩
abbrev cX11_starves : ByteArray := prog_1_method_36_code
def yX11_starves : MethodName := ⟨RX11, "starves", "()I"⟩
abbrev cX11_mend : ByteArray := prog_1_method_37_code
def yX11_mend : MethodName := ⟨RX11, "mend", "()I"⟩
abbrev cX11_mendedMost : ByteArray := prog_1_method_38_code
def yX11_mendedMost : MethodName := ⟨RX11, "mendedMost", "(LThirdHands$Meeting;I)I"⟩
abbrev cX11_live : ByteArray := prog_1_method_39_code
def yX11_live : MethodName := ⟨RX11, "live", "()I"⟩
abbrev cX11_livesBy : ByteArray := prog_1_method_40_code
def yX11_livesBy : MethodName := ⟨RX11, "livesBy", "(LThirdHands$Meeting;I)Z"⟩
abbrev cX11_stop : ByteArray := prog_1_method_41_code
def yX11_stop : MethodName := ⟨RX11, "stop", "()I"⟩
abbrev cX11_stopsBy : ByteArray := prog_1_method_42_code
def yX11_stopsBy : MethodName := ⟨RX11, "stopsBy", "(LThirdHands$Meeting;I)Z"⟩
abbrev cX11_other : ByteArray := prog_1_method_43_code
def yX11_other : MethodName := ⟨RX11, "other", "(III)I"⟩
abbrev cX11_note : ByteArray := prog_1_method_44_code
def yX11_note : MethodName := ⟨RX11, "note", "(IIII)I"⟩
abbrev cX11_lies : ByteArray := prog_1_method_45_code
def yX11_lies : MethodName := ⟨RX11, "lies", "(II)I"⟩
abbrev cX11_image : ByteArray := prog_1_method_46_code
def yX11_image : MethodName := ⟨RX11, "image", "(I)Z"⟩
abbrev cX11_restore : ByteArray := prog_1_method_47_code
def yX11_restore : MethodName := ⟨RX11, "restore", "(I)Z"⟩
abbrev cX11_count : ByteArray := prog_1_method_48_code
def yX11_count : MethodName := ⟨RX11, "count", "(I)I"⟩
abbrev cX11_copyAll : ByteArray := prog_1_method_49_code
def yX11_copyAll : MethodName := ⟨RX11, "copyAll", "([I[I)V"⟩
abbrev cX11_has : ByteArray := prog_1_method_50_code
def yX11_has : MethodName := ⟨RX11, "has", "(II)Z"⟩
def RX12 : String := "ThirdHandsModel"
def TX12 : u_T := fun k => match k with
  | 0 => ("ThirdHandsModel", "thrown", "I", false)
  | 1 => ("ThirdHandsModel", "tape", "[B", true)
  | 2 => ("ThirdHandsModel", "length", "I", false)
  | 3 => ("ThirdHandsModel", "size", "I", false)
  | 4 => ("ThirdHandsModel", "p", "I", false)
  | 5 => ("ThirdHandsModel", "limit", "I", false)
  | 6 => ("ThirdHandsModel", "s", "[I", true)
  | 7 => ("ThirdHandsModel", "h", "[I", true)
  | 8 => ("ThirdHandsModel", "acts", "[I", true)
  | 9 => ("ThirdHandsModel", "names", "[J", true)
  | 10 => ("ThirdHandsModel", "reserved", "[J", true)
  | 11 => ("ThirdHandsModel", "token", "I", false)
  | 12 => ("ThirdHandsModel", "at", "I", false)
  | 13 => ("ThirdHandsModel", "span", "I", false)
  | 14 => ("ThirdHandsModel", "number", "I", false)
  | 15 => ("ThirdHandsModel", "fault", "I", false)
  | 16 => ("ThirdHandsModel", "faultAt", "I", false)
  | 17 => ("ThirdHandsModel", "word", "J", false)
  | 18 => ("ThirdHandsModel", "got", "I", false)
  | 19 => ("ThirdHandsModel", "hasLaw", "Z", false)
  | 20 => ("ThirdHandsModel", "lines", "I", false)
  | 21 => ("ThirdHandsModel", "gives", "[I", true)
  | 22 => ("ThirdHandsModel", "pains", "[I", true)
  | 23 => ("ThirdHandsModel", "hours", "[I", true)
  | 24 => ("ThirdHandsModel", "asks", "[I", true)
  | 25 => ("ThirdHandsModel", "law", "I", false)
  | 26 => ("ThirdHandsModel", "back", "I", false)
  | 27 => ("ThirdHandsModel", "hands", "I", false)
  | 28 => ("ThirdHandsModel", "row", "[I", true)
  | 29 => ("ThirdHandsModel", "tries", "[I", true)
  | 30 => ("ThirdHandsModel", "rowHours", "[I", true)
  | 31 => ("ThirdHandsModel", "rowPains", "[I", true)
  | 32 => ("ThirdHandsModel", "rowAsked", "[I", true)
  | 33 => ("ThirdHandsModel", "came", "[I", true)
  | 34 => ("ThirdHandsModel", "towns", "I", false)
  | 35 => ("ThirdHandsModel", "searched", "I", false)
  | 36 => ("ThirdHandsModel", "depth", "I", false)
  | 37 => ("ThirdHandsModel", "wayCost", "[I", true)
  | 38 => ("ThirdHandsModel", "wayHours", "[I", true)
  | 39 => ("ThirdHandsModel", "wayPains", "[I", true)
  | 40 => ("ThirdHandsModel", "wayHands", "[I", true)
  | 41 => ("ThirdHandsModel", "shownHands", "I", false)
  | 42 => ("ThirdHandsModel", "shownMany", "I", false)
  | 43 => ("ThirdHandsModel", "met", "[Z", true)
  | 44 => ("ThirdHandsModel", "sums", "[I", true)
  | 45 => ("ThirdHandsModel", "bestUnit", "[I", true)
  | 46 => ("ThirdHandsModel", "keys", "[J", true)
  | 47 => ("ThirdHandsModel", "bestSum", "I", false)
  | 48 => ("ThirdHandsModel", "bestMany", "I", false)
  | 49 => ("ThirdHandsModel", "bestPains", "I", false)
  | 50 => ("ThirdHandsModel", "coming", "I", false)
  | 51 => ("ThirdHandsModel", "seed", "I", false)
  | 52 => ("ThirdHandsModel", "holder", "[I", true)
  | 53 => ("ThirdHandsModel", "many", "[I", true)
  | 54 => ("ThirdHandsModel", "from", "[I", true)
  | 55 => ("ThirdHandsModel", "hadBy", "[I", true)
  | 56 => ("ThirdHandsModel", "unitTowns", "[I", true)
  | 57 => ("ThirdHandsModel", "judged", "[I", true)
  | 58 => ("ThirdHandsModel", "shown", "[I", true)
  | 59 => ("ThirdHandsModel", "hour", "I", false)
  | 60 => ("ThirdHandsModel", "wantsMet", "I", false)
  | 61 => ("ThirdHandsModel", "painsNow", "I", false)
  | 62 => ("ThirdHandsModel", "judgedUnits", "I", false)
  | 63 => ("ThirdHandsModel", "gets", "I", false)
  | 64 => ("ThirdHandsModel", "middleBy", "I", false)
  | 65 => ("ThirdHandsModel", "rested", "[I", true)
  | 66 => ("ThirdHandsModel", "restedMany", "I", false)
  | 67 => ("ThirdHandsModel", "ring", "[I", true)
  | 68 => ("ThirdHandsModel", "gains", "[I", true)
  | 69 => ("ThirdHandsModel", "gained", "[I", true)
  | 70 => ("ThirdHandsModel", "ringMany", "I", false)
  | 71 => ("ThirdHandsModel", "gainedMany", "I", false)
  | 72 => ("ThirdHandsModel", "starved", "I", false)
  | 73 => ("ThirdHandsModel", "of", "[I", true)
  | 74 => ("ThirdHandsModel", "sorted", "[I", true)
  | 75 => ("ThirdHandsModel", "ofMany", "I", false)
  | 76 => ("ThirdHandsModel", "lastOne", "I", false)
  | 77 => ("ThirdHandsModel", "kept", "[I", true)
  | 78 => ("ThirdHandsModel", "namesKept", "[J", true)
  | _ => ("ThirdHandsModel", "isKept", "[Z", true)
def tyX12 : Nat → FieldType := fun k => match k with
  | 0 => .int
  | 1 => .array .byte
  | 2 => .int
  | 3 => .int
  | 4 => .int
  | 5 => .int
  | 6 => .array .int
  | 7 => .array .int
  | 8 => .array .int
  | 9 => .array .long
  | 10 => .array .long
  | 11 => .int
  | 12 => .int
  | 13 => .int
  | 14 => .int
  | 15 => .int
  | 16 => .int
  | 17 => .long
  | 18 => .int
  | 19 => .boolean
  | 20 => .int
  | 21 => .array .int
  | 22 => .array .int
  | 23 => .array .int
  | 24 => .array .int
  | 25 => .int
  | 26 => .int
  | 27 => .int
  | 28 => .array .int
  | 29 => .array .int
  | 30 => .array .int
  | 31 => .array .int
  | 32 => .array .int
  | 33 => .array .int
  | 34 => .int
  | 35 => .int
  | 36 => .int
  | 37 => .array .int
  | 38 => .array .int
  | 39 => .array .int
  | 40 => .array .int
  | 41 => .int
  | 42 => .int
  | 43 => .array .boolean
  | 44 => .array .int
  | 45 => .array .int
  | 46 => .array .long
  | 47 => .int
  | 48 => .int
  | 49 => .int
  | 50 => .int
  | 51 => .int
  | 52 => .array .int
  | 53 => .array .int
  | 54 => .array .int
  | 55 => .array .int
  | 56 => .array .int
  | 57 => .array .int
  | 58 => .array .int
  | 59 => .int
  | 60 => .int
  | 61 => .int
  | 62 => .int
  | 63 => .int
  | 64 => .int
  | 65 => .array .int
  | 66 => .int
  | 67 => .array .int
  | 68 => .array .int
  | 69 => .array .int
  | 70 => .int
  | 71 => .int
  | 72 => .int
  | 73 => .array .int
  | 74 => .array .int
  | 75 => .int
  | 76 => .int
  | 77 => .array .int
  | 78 => .array .long
  | _ => .array .boolean
abbrev wsX120 : List Cond := u_ws RX12 TX12 80
theorem nmX12 : ∀ a, a < 80 → ∀ b, b < 80 → a ≠ b → (TX12 a).2.1 ≠ (TX12 b).2.1 := by decide +kernel
theorem tyX12_ok : ∀ k, k < 80 → parseFieldDescriptor (TX12 k).2.2.1 = some (tyX12 k) := by decide +kernel
abbrev cX12_thrown : ByteArray := prog_14_method_1_code
def yX12_thrown : MethodName := ⟨RX12, "thrown", "()I"⟩
abbrev cX12_throwsIf : ByteArray := prog_14_method_2_code
def yX12_throwsIf : MethodName := ⟨RX12, "throwsIf", "(Z)Z"⟩
abbrev cX12_feed : ByteArray := prog_14_method_3_code
def yX12_feed : MethodName := ⟨RX12, "feed", "(IIIII)I"⟩
abbrev cX12_four : ByteArray := prog_14_method_4_code
def yX12_four : MethodName := ⟨RX12, "four", "(I)V"⟩
abbrev cX12_end : ByteArray := prog_14_method_5_code
def yX12_end : MethodName := ⟨RX12, "end", "(I)Z"⟩
abbrev cX12_taken : ByteArray := prog_14_method_6_code
def yX12_taken : MethodName := ⟨RX12, "taken", "(I)V"⟩
abbrev cX12_isIn : ByteArray := prog_14_method_7_code
def yX12_isIn : MethodName := ⟨RX12, "isIn", "(III)Z"⟩
abbrev cX12_has : ByteArray := prog_14_method_8_code
def yX12_has : MethodName := ⟨RX12, "has", "(II)Z"⟩
abbrev cX12_count1 : ByteArray := prog_14_method_9_code
def yX12_count1 : MethodName := ⟨RX12, "count1", "(I)I"⟩
abbrev cX12_octet : ByteArray := prog_14_method_10_code
def yX12_octet : MethodName := ⟨RX12, "octet", "(I)I"⟩
abbrev cX12_init : ByteArray := prog_14_method_11_code
def yX12_init : MethodName := ⟨RX12, "<init>", "()V"⟩
abbrev cX12_peek : ByteArray := prog_14_method_12_code
def yX12_peek : MethodName := ⟨RX12, "peek", "()I"⟩
abbrev cX12_isSmall : ByteArray := prog_14_method_13_code
def yX12_isSmall : MethodName := ⟨RX12, "isSmall", "(I)Z"⟩
abbrev cX12_isDigit : ByteArray := prog_14_method_14_code
def yX12_isDigit : MethodName := ⟨RX12, "isDigit", "(I)Z"⟩
abbrev cX12_next : ByteArray := prog_14_method_15_code
def yX12_next : MethodName := ⟨RX12, "next", "()V"⟩
abbrev cX12_bad : ByteArray := prog_14_method_16_code
def yX12_bad : MethodName := ⟨RX12, "bad", "(I)Z"⟩
abbrev cX12_isWord : ByteArray := prog_14_method_17_code
def yX12_isWord : MethodName := ⟨RX12, "isWord", "(J)Z"⟩
abbrev cX12_isSign : ByteArray := prog_14_method_18_code
def yX12_isSign : MethodName := ⟨RX12, "isSign", "(I)Z"⟩
abbrev cX12_sign : ByteArray := prog_14_method_19_code
def yX12_sign : MethodName := ⟨RX12, "sign", "(I)Z"⟩
abbrev cX12_isName : ByteArray := prog_14_method_20_code
def yX12_isName : MethodName := ⟨RX12, "isName", "()Z"⟩
abbrev cX12_takes : ByteArray := prog_14_method_21_code
def yX12_takes : MethodName := ⟨RX12, "takes", "(II)Z"⟩
abbrev cX12_find : ByteArray := prog_14_method_22_code
def yX12_find : MethodName := ⟨RX12, "find", "(II)I"⟩
abbrev cX12_takesWho : ByteArray := prog_14_method_23_code
def yX12_takesWho : MethodName := ⟨RX12, "takesWho", "(I)Z"⟩
abbrev cX12_takesSort : ByteArray := prog_14_method_24_code
def yX12_takesSort : MethodName := ⟨RX12, "takesSort", "()Z"⟩
abbrev cX12_fresh : ByteArray := prog_14_method_25_code
def yX12_fresh : MethodName := ⟨RX12, "fresh", "()Z"⟩
abbrev cX12_line : ByteArray := prog_14_method_26_code
def yX12_line : MethodName := ⟨RX12, "line", "()Z"⟩
abbrev cX12_readWho : ByteArray := prog_14_method_27_code
def yX12_readWho : MethodName := ⟨RX12, "readWho", "()Z"⟩
abbrev cX12_readSort : ByteArray := prog_14_method_28_code
def yX12_readSort : MethodName := ⟨RX12, "readSort", "()Z"⟩
abbrev cX12_readMakes : ByteArray := prog_14_method_29_code
def yX12_readMakes : MethodName := ⟨RX12, "readMakes", "()Z"⟩
abbrev cX12_readWants : ByteArray := prog_14_method_30_code
def yX12_readWants : MethodName := ⟨RX12, "readWants", "()Z"⟩
abbrev cX12_readGives : ByteArray := prog_14_method_31_code
def yX12_readGives : MethodName := ⟨RX12, "readGives", "()Z"⟩
abbrev cX12_readLaw : ByteArray := prog_14_method_32_code
def yX12_readLaw : MethodName := ⟨RX12, "readLaw", "()Z"⟩
abbrev cX12_village : ByteArray := prog_14_method_33_code
def yX12_village : MethodName := ⟨RX12, "village", "()I"⟩
abbrev cX12_fault : ByteArray := prog_14_method_34_code
def yX12_fault : MethodName := ⟨RX12, "fault", "()I"⟩
abbrev cX12_isWho : ByteArray := prog_14_method_35_code
def yX12_isWho : MethodName := ⟨RX12, "isWho", "(I)Z"⟩
abbrev cX12_isUnit : ByteArray := prog_14_method_36_code
def yX12_isUnit : MethodName := ⟨RX12, "isUnit", "(I)Z"⟩
abbrev cX12_isWant : ByteArray := prog_14_method_37_code
def yX12_isWant : MethodName := ⟨RX12, "isWant", "(I)Z"⟩
abbrev cX12_sortOf : ByteArray := prog_14_method_38_code
def yX12_sortOf : MethodName := ⟨RX12, "sortOf", "(I)I"⟩
abbrev cX12_spoils : ByteArray := prog_14_method_39_code
def yX12_spoils : MethodName := ⟨RX12, "spoils", "(I)I"⟩
abbrev cX12_isFirst : ByteArray := prog_14_method_40_code
def yX12_isFirst : MethodName := ⟨RX12, "isFirst", "(II)Z"⟩
abbrev cX12_unit : ByteArray := prog_14_method_41_code
def yX12_unit : MethodName := ⟨RX12, "unit", "(II)I"⟩
abbrev cX12_want : ByteArray := prog_14_method_42_code
def yX12_want : MethodName := ⟨RX12, "want", "(II)I"⟩
abbrev cX12_giving : ByteArray := prog_14_method_43_code
def yX12_giving : MethodName := ⟨RX12, "giving", "(III)I"⟩
abbrev cX12_asTold : ByteArray := prog_14_method_44_code
def yX12_asTold : MethodName := ⟨RX12, "asTold", "()V"⟩
abbrev cX12_mayCome : ByteArray := prog_14_method_45_code
def yX12_mayCome : MethodName := ⟨RX12, "mayCome", "(III)Z"⟩
abbrev cX12_put : ByteArray := prog_14_method_46_code
def yX12_put : MethodName := ⟨RX12, "put", "(III)V"⟩
abbrev cX12_away : ByteArray := prog_14_method_47_code
def yX12_away : MethodName := ⟨RX12, "away", "(I)V"⟩
abbrev cX12_begin : ByteArray := prog_14_method_48_code
def yX12_begin : MethodName := ⟨RX12, "begin", "(I)V"⟩
abbrev cX12_nextRow : ByteArray := prog_14_method_49_code
def yX12_nextRow : MethodName := ⟨RX12, "nextRow", "(II)Z"⟩
abbrev cX12_lastHour : ByteArray := prog_14_method_50_code
def yX12_lastHour : MethodName := ⟨RX12, "lastHour", "(II)I"⟩
abbrev cX12_weighUnit : ByteArray := prog_14_method_51_code
def yX12_weighUnit : MethodName := ⟨RX12, "weighUnit", "(I)V"⟩
abbrev cX12_areFirsts : ByteArray := prog_14_method_52_code
def yX12_areFirsts : MethodName := ⟨RX12, "areFirsts", "(I)Z"⟩
abbrev cX12_weigh : ByteArray := prog_14_method_53_code
def yX12_weigh : MethodName := ⟨RX12, "weigh", "()V"⟩
abbrev cX12_isWay : ByteArray := prog_14_method_54_code
def yX12_isWay : MethodName := ⟨RX12, "isWay", "(II)Z"⟩
abbrev cX12_way : ByteArray := prog_14_method_55_code
def yX12_way : MethodName := ⟨RX12, "way", "(III)I"⟩
abbrev cX12_hand : ByteArray := prog_14_method_56_code
def yX12_hand : MethodName := ⟨RX12, "hand", "(I)I"⟩
abbrev cX12_meets : ByteArray := prog_14_method_57_code
def yX12_meets : MethodName := ⟨RX12, "meets", "()V"⟩
abbrev cX12_mostMet : ByteArray := prog_14_method_58_code
def yX12_mostMet : MethodName := ⟨RX12, "mostMet", "()I"⟩
abbrev cX12_most : ByteArray := prog_14_method_59_code
def yX12_most : MethodName := ⟨RX12, "most", "()I"⟩
abbrev cX12_bars : ByteArray := prog_14_method_60_code
def yX12_bars : MethodName := ⟨RX12, "bars", "()I"⟩
abbrev cX12_seventeen : ByteArray := prog_14_method_61_code
def yX12_seventeen : MethodName := ⟨RX12, "seventeen", "(I)J"⟩
abbrev cX12_bestDay : ByteArray := prog_14_method_62_code
def yX12_bestDay : MethodName := ⟨RX12, "bestDay", "()V"⟩
abbrev cX12_best : ByteArray := prog_14_method_63_code
def yX12_best : MethodName := ⟨RX12, "best", "(I)I"⟩
abbrev cX12_bestOf : ByteArray := prog_14_method_64_code
def yX12_bestOf : MethodName := ⟨RX12, "bestOf", "(I)I"⟩
abbrev cX12_act : ByteArray := prog_14_method_65_code
def yX12_act : MethodName := ⟨RX12, "act", "()Z"⟩
abbrev cX12_keepPlan : ByteArray := prog_14_method_66_code
def yX12_keepPlan : MethodName := ⟨RX12, "keepPlan", "()V"⟩
abbrev cX12_plan : ByteArray := prog_14_method_67_code
def yX12_plan : MethodName := ⟨RX12, "plan", "()I"⟩
abbrev cX12_draw : ByteArray := prog_14_method_68_code
def yX12_draw : MethodName := ⟨RX12, "draw", "(I)I"⟩
abbrev cX12_drawn : ByteArray := prog_14_method_69_code
def yX12_drawn : MethodName := ⟨RX12, "drawn", "(II)I"⟩
abbrev cX12_act_ : ByteArray := prog_14_method_70_code
def yX12_act_ : MethodName := ⟨RX12, "act", "(II)I"⟩
abbrev cX12_wantFor : ByteArray := prog_14_method_71_code
def yX12_wantFor : MethodName := ⟨RX12, "wantFor", "(II)I"⟩
abbrev cX12_lesserFirst : ByteArray := prog_14_method_72_code
def yX12_lesserFirst : MethodName := ⟨RX12, "lesserFirst", "(I)I"⟩
abbrev cX12_giver : ByteArray := prog_14_method_73_code
def yX12_giver : MethodName := ⟨RX12, "giver", "(II)I"⟩
abbrev cX12_forbids : ByteArray := prog_14_method_74_code
def yX12_forbids : MethodName := ⟨RX12, "forbids", "(III)Z"⟩
abbrev cX12_whyNot : ByteArray := prog_14_method_75_code
def yX12_whyNot : MethodName := ⟨RX12, "whyNot", "(I)I"⟩
abbrev cX12_whyNoUse : ByteArray := prog_14_method_76_code
def yX12_whyNoUse : MethodName := ⟨RX12, "whyNoUse", "(I)I"⟩
abbrev cX12_does : ByteArray := prog_14_method_77_code
def yX12_does : MethodName := ⟨RX12, "does", "(I)I"⟩
abbrev cX12_judge : ByteArray := prog_14_method_78_code
def yX12_judge : MethodName := ⟨RX12, "judge", "()I"⟩
abbrev cX12_judged : ByteArray := prog_14_method_79_code
def yX12_judged : MethodName := ⟨RX12, "judged", "(I)I"⟩
abbrev cX12_holds : ByteArray := prog_14_method_80_code
def yX12_holds : MethodName := ⟨RX12, "holds", "(II)I"⟩
abbrev cX12_ways : ByteArray := prog_14_method_81_code
def yX12_ways : MethodName := ⟨RX12, "ways", "(III)I"⟩
abbrev cX12_latest : ByteArray := prog_14_method_82_code
def yX12_latest : MethodName := ⟨RX12, "latest", "(II)I"⟩
abbrev cX12_asksBest : ByteArray := prog_14_method_83_code
def yX12_asksBest : MethodName := ⟨RX12, "asksBest", "(I)I"⟩
abbrev cX12_middle : ByteArray := prog_14_method_84_code
def yX12_middle : MethodName := ⟨RX12, "middle", "(I)I"⟩
abbrev cX12_middleBy : ByteArray := prog_14_method_85_code
def yX12_middleBy : MethodName := ⟨RX12, "middleBy", "()I"⟩
abbrev cX12_rest : ByteArray := prog_14_method_86_code
def yX12_rest : MethodName := ⟨RX12, "rest", "()I"⟩
abbrev cX12_restOf : ByteArray := prog_14_method_87_code
def yX12_restOf : MethodName := ⟨RX12, "restOf", "(I)I"⟩
abbrev cX12_isRing : ByteArray := prog_14_method_88_code
def yX12_isRing : MethodName := ⟨RX12, "isRing", "()Z"⟩
abbrev cX12_goesRound : ByteArray := prog_14_method_89_code
def yX12_goesRound : MethodName := ⟨RX12, "goesRound", "()Z"⟩
abbrev cX12_unitBy : ByteArray := prog_14_method_90_code
def yX12_unitBy : MethodName := ⟨RX12, "unitBy", "(I)I"⟩
abbrev cX12_goesOn : ByteArray := prog_14_method_91_code
def yX12_goesOn : MethodName := ⟨RX12, "goesOn", "(II)Z"⟩
abbrev cX12_gain : ByteArray := prog_14_method_92_code
def yX12_gain : MethodName := ⟨RX12, "gain", "()V"⟩
abbrev cX12_ring : ByteArray := prog_14_method_93_code
def yX12_ring : MethodName := ⟨RX12, "ring", "()I"⟩
abbrev cX12_gain_ : ByteArray := prog_14_method_94_code
def yX12_gain_ : MethodName := ⟨RX12, "gain", "(I)I"⟩
abbrev cX12_lasts : ByteArray := prog_14_method_95_code
def yX12_lasts : MethodName := ⟨RX12, "lasts", "()I"⟩
abbrev cX12_quarrel : ByteArray := prog_14_method_96_code
def yX12_quarrel : MethodName := ⟨RX12, "quarrel", "(II)I"⟩
abbrev cX12_starves : ByteArray := prog_14_method_97_code
def yX12_starves : MethodName := ⟨RX12, "starves", "()I"⟩
abbrev cX12_mend : ByteArray := prog_14_method_98_code
def yX12_mend : MethodName := ⟨RX12, "mend", "()I"⟩
abbrev cX12_live : ByteArray := prog_14_method_99_code
def yX12_live : MethodName := ⟨RX12, "live", "()I"⟩
abbrev cX12_stop : ByteArray := prog_14_method_100_code
def yX12_stop : MethodName := ⟨RX12, "stop", "()I"⟩
abbrev cX12_other : ByteArray := prog_14_method_101_code
def yX12_other : MethodName := ⟨RX12, "other", "(III)I"⟩
abbrev cX12_notesOf : ByteArray := prog_14_method_102_code
def yX12_notesOf : MethodName := ⟨RX12, "notesOf", "(I)V"⟩
abbrev cX12_note : ByteArray := prog_14_method_103_code
def yX12_note : MethodName := ⟨RX12, "note", "(IIII)I"⟩
abbrev cX12_areTrue : ByteArray := prog_14_method_104_code
def yX12_areTrue : MethodName := ⟨RX12, "areTrue", "(II)Z"⟩
abbrev cX12_lies : ByteArray := prog_14_method_105_code
def yX12_lies : MethodName := ⟨RX12, "lies", "(II)I"⟩
abbrev cX12_image : ByteArray := prog_14_method_106_code
def yX12_image : MethodName := ⟨RX12, "image", "(I)Z"⟩
abbrev cX12_restore : ByteArray := prog_14_method_107_code
def yX12_restore : MethodName := ⟨RX12, "restore", "(I)Z"⟩
abbrev cX12_count : ByteArray := prog_14_method_108_code
def yX12_count : MethodName := ⟨RX12, "count", "(I)I"⟩
def RJx145de : String := "java/io/Serializable"
def TJx145de : u_T := fun k => match k with
  | _ => ("", "", "", false)
def tyJx145de : Nat → FieldType := fun k => match k with
  | _ => .int
def RJx9f9b0 : String := "java/lang/CharSequence"
def TJx9f9b0 : u_T := fun k => match k with
  | _ => ("", "", "", false)
def tyJx9f9b0 : Nat → FieldType := fun k => match k with
  | _ => .int
def RJxb160c : String := "java/lang/Comparable"
def TJxb160c : u_T := fun k => match k with
  | _ => ("", "", "", false)
def tyJxb160c : Nat → FieldType := fun k => match k with
  | _ => .int
def RJ6 : String := "java/lang/Integer"
def TJ6 : u_T := fun k => match k with
  | _ => ("", "", "", false)
def tyJ6 : Nat → FieldType := fun k => match k with
  | _ => .int
abbrev cJ6_bitCount_0f7a4 : ByteArray := prog_19_method_49_code
def yJ6_bitCount_0f7a4 : MethodName := ⟨RJ6, "bitCount", "(I)I"⟩
def RJ9 : String := "java/lang/Math"
def TJ9 : u_T := fun k => match k with
  | _ => ("", "", "", false)
def tyJ9 : Nat → FieldType := fun k => match k with
  | _ => .int
abbrev cJ9_max_7cf53 : ByteArray := prog_20_method_65_code
def yJ9_max_7cf53 : MethodName := ⟨RJ9, "max", "(II)I"⟩
abbrev cJ9_max_f86c9 : ByteArray := prog_20_method_66_code
def yJ9_max_f86c9 : MethodName := ⟨RJ9, "max", "(JJ)J"⟩
abbrev cJ9_min_7cf53 : ByteArray := prog_20_method_69_code
def yJ9_min_7cf53 : MethodName := ⟨RJ9, "min", "(II)I"⟩
abbrev cJ9_min_f86c9 : ByteArray := prog_20_method_70_code
def yJ9_min_f86c9 : MethodName := ⟨RJ9, "min", "(JJ)J"⟩
def RJ0 : String := "java/lang/String"
def TJ0 : u_T := fun k => match k with
  | _ => ("", "", "", false)
def tyJ0 : Nat → FieldType := fun k => match k with
  | _ => .int
abbrev cJ0_length_8abf5 : ByteArray := prog_22_method_54_code
def yJ0_length_8abf5 : MethodName := ⟨RJ0, "length", "()I"⟩
abbrev cJ0_charAt_5068e : ByteArray := prog_22_method_56_code
def yJ0_charAt_5068e : MethodName := ⟨RJ0, "charAt", "(I)C"⟩
abbrev cJ0_coder_7d493 : ByteArray := prog_22_method_152_code
def yJ0_coder_7d493 : MethodName := ⟨RJ0, "coder", "()B"⟩
abbrev cJ0_isLatin1_aae02 : ByteArray := prog_22_method_154_code
def yJ0_isLatin1_aae02 : MethodName := ⟨RJ0, "isLatin1", "()Z"⟩
abbrev cJ0_checkIndex_df160 : ByteArray := prog_22_method_155_code
def yJ0_checkIndex_df160 : MethodName := ⟨RJ0, "checkIndex", "(II)V"⟩
def RJ1 : String := "java/lang/StringLatin1"
def TJ1 : u_T := fun k => match k with
  | _ => ("", "", "", false)
def tyJ1 : Nat → FieldType := fun k => match k with
  | _ => .int
abbrev cJ1_charAt_3b067 : ByteArray := prog_23_method_2_code
def yJ1_charAt_3b067 : MethodName := ⟨RJ1, "charAt", "([BI)C"⟩
def RJ2 : String := "java/lang/StringUTF16"
def TJ2 : u_T := fun k => match k with
  | _ => ("", "", "", false)
def tyJ2 : Nat → FieldType := fun k => match k with
  | _ => .int
abbrev cJ2_getChar_3b067 : ByteArray := prog_24_method_5_code
def yJ2_getChar_3b067 : MethodName := ⟨RJ2, "getChar", "([BI)C"⟩
abbrev cJ2_length_9d52b : ByteArray := prog_24_method_6_code
def yJ2_length_9d52b : MethodName := ⟨RJ2, "length", "([B)I"⟩
abbrev cJ2_charAt_3b067 : ByteArray := prog_24_method_83_code
def yJ2_charAt_3b067 : MethodName := ⟨RJ2, "charAt", "([BI)C"⟩
abbrev cJ2_checkIndex_2214a : ByteArray := prog_24_method_91_code
def yJ2_checkIndex_2214a : MethodName := ⟨RJ2, "checkIndex", "(I[B)V"⟩
def RJ10 : String := "java/lang/System"
def TJ10 : u_T := fun k => match k with
  | _ => ("", "", "", false)
def tyJ10 : Nat → FieldType := fun k => match k with
  | _ => .int
def RJxfd54e : String := "java/lang/constant/Constable"
def TJxfd54e : u_T := fun k => match k with
  | _ => ("", "", "", false)
def tyJxfd54e : Nat → FieldType := fun k => match k with
  | _ => .int
def RJx3cf43 : String := "java/lang/constant/ConstantDesc"
def TJx3cf43 : u_T := fun k => match k with
  | _ => ("", "", "", false)
def tyJx3cf43 : Nat → FieldType := fun k => match k with
  | _ => .int
def RJ7 : String := "java/util/Arrays"
def TJ7 : u_T := fun k => match k with
  | _ => ("", "", "", false)
def tyJ7 : Nat → FieldType := fun k => match k with
  | _ => .int
abbrev cJ7_fill_d0a16 : ByteArray := prog_29_method_101_code
def yJ7_fill_d0a16 : MethodName := ⟨RJ7, "fill", "([JJ)V"⟩
abbrev cJ7_fill_53178 : ByteArray := prog_29_method_103_code
def yJ7_fill_53178 : MethodName := ⟨RJ7, "fill", "([II)V"⟩
def RJ3 : String := "jdk/internal/util/Preconditions"
def TJ3 : u_T := fun k => match k with
  | _ => ("", "", "", false)
def tyJ3 : Nat → FieldType := fun k => match k with
  | _ => .int
abbrev cJ3_checkIndex_8e157 : ByteArray := prog_31_method_11_code
def yJ3_checkIndex_8e157 : MethodName := ⟨RJ3, "checkIndex", "(IILjava/util/function/BiFunction;)I"⟩
def RL : String := "ThirdHandsLaw"
abbrev cL_unit : ByteArray := method_3_code
def yL_unit : MethodName := ⟨RL, "unit", "(LThirdHands;II[J)I"⟩
abbrev cL_want : ByteArray := method_4_code
def yL_want : MethodName := ⟨RL, "want", "(LThirdHands;II[J)I"⟩
abbrev cL_act : ByteArray := method_5_code
def yL_act : MethodName := ⟨RL, "act", "(LThirdHands;II[J)I"⟩
abbrev cL_gain : ByteArray := method_6_code
def yL_gain : MethodName := ⟨RL, "gain", "(LThirdHands;I[J)I"⟩
abbrev cL_law : ByteArray := code
def yL_law : MethodName := ⟨RL, "law", "([I)Z"⟩
abbrev vwCl : List vw_C := [(RX0, TX0, 7), (RX1, TX1, 12), (RX2, TX2, 4), (RX3, TX3, 9), (RX4, TX4, 5), (RX5, TX5, 4), (RX6, TX6, 8), (RX7, TX7, 9), (RX8, TX8, 8), (RX9, TX9, 18), (RX10, TX10, 16), (RX11, TX11, 16), (RX12, TX12, 80)]
end
section
def yML : List MethodName := [yX11_init, yX7_init, yX9_init, yX4_init, yX0_init, yX2_init, yX6_init, yX10_init, yX3_init, yX1_init, yX5_init, yX8_init, yX11_feed, yX11_feedNumber, yX11_end, yX11_village, yX11_takeTape, yX7_start, yX7_advance, yX7_isDigit, yX7_isLetter, yX7_takeRun, yX7_takeWord, yX9_read, yX9_clear, yX9_line, yX7_word, yX9_whoLine, yX7_fail, yX9_isNewName, yX7_isName, yX9_indexOf, yX7_takeValue, yX7_skipWord, yX7_isNumber, yX9_join, yX9_sortLine, yX9_makesLine, yX9_takePerson, yX9_person, yX9_takeSort, yX9_addUnit, yX9_wantsLine, yX9_givesLine, yX9_lawLine, yX7_semicolon, yX7_faultAnswer, yX9_copy, yX11_copyAll, yX11_fault, yX11_giving, yX9_hasPerson, yX11_way, yX9_hasUnit, yX9_hasWant, yX11_asTold, yX6_reset, yX3_weigh, yX10_walkAll, yX10_walkUnit, yX9_firsts, yX9_ofUnit, yX10_measureRooms, yX9_ofWant, yX10_onward, yX10_arrive, yX11_has, yX9_lets, yX10_step, yX3_choose, yX3_takenAsking, yX10_asking, yX3_solve, yX3_bestOfSort, yX9_wantsOfSort, yX3_meetBy, yX3_appraise, yX3_taken, yX10_cost, yX3_digitOf, yX10_path, yX8_keepWay, yX10_handOf, yX10_hours, yX10_pains, yX11_hand, yX11_most, yX3_matched, yX3_lookAround, yX11_bars, yX3_barring, yX11_best, yX3_sum, yX3_metCount, yX3_painsMet, yX3_unitFor, yX11_bestOf, yX11_plan, yX4_read, yX4_readAct, yX4_add, yX4_copy, yX11_drawn, yX4_draw, yX4_next, yX11_judge, yX1_go, yX1_begin, yX1_doAct, yX1_give, yX1_giver, yX1_use, yX1_wantMet, yX1_close, yX11_judged, yX11_holds, yX11_ways, yX11_supposing, yX11_latest, yX11_rest, yX11_askAnew, yX3_middleAsk, yX3_timesMet, yX10_timesBetween, yX8_keepAsks, yX11_restOf, yX11_middle, yX11_middleBy, yX11_ring, yX5_take, yX5_closes, yX5_painsFrom, yX5_at, yX5_spot, yX5_reckon, yX5_madeBy, yX5_goes, yX5_send, yX5_worth, yX8_keepGains, yX5_losers, yX11_lasts, yX5_members, yX5_leave, yX11_quarrel, yX9_allWants, yX3_metWants, yX11_starves, yX11_mend, yX11_mendedMost, yX3_find, yX11_live, yX11_livesBy, yX9_wantsOf, yX11_stop, yX11_stopsBy, yX11_other, yX11_note, yX0_add, yX11_lies, yX0_found, yX0_sort, yX0_areTrue, yX0_holder, yX11_image, yX0_copy, yX11_restore, yX11_count, yX12_thrown, yX12_feed, yX12_four, yX12_end, yX12_init, yX12_village, yX12_taken, yX12_next, yX12_peek, yX12_isSmall, yX12_isDigit, yX12_line, yX12_isWord, yX12_readWho, yX12_bad, yX12_fresh, yX12_isName, yX12_find, yX12_takes, yX12_isIn, yX12_readSort, yX12_readMakes, yX12_takesWho, yX12_takesSort, yX12_readWants, yX12_readGives, yX12_readLaw, yX12_sign, yX12_isSign, yX12_fault, yX12_unit, yX12_isUnit, yX12_throwsIf, yX12_spoils, yX12_sortOf, yX12_want, yX12_isWant, yX12_giving, yX12_isWho, yX12_way, yX12_asTold, yX12_weigh, yX12_areFirsts, yX12_has, yX12_weighUnit, yX12_begin, yX12_nextRow, yX12_away, yX12_mayCome, yX12_isFirst, yX12_put, yX12_lastHour, yX12_isWay, yX12_hand, yX12_most, yX12_mostMet, yX12_meets, yX12_count1, yX12_bars, yX12_best, yX12_bestDay, yX12_seventeen, yX12_bestOf, yX12_plan, yX12_act, yX12_keepPlan, yX12_drawn, yX12_draw, yX12_act_, yX12_judge, yX12_does, yX12_whyNoUse, yX12_whyNot, yX12_wantFor, yX12_giver, yX12_lesserFirst, yX12_forbids, yX12_judged, yX12_holds, yX12_ways, yX12_latest, yX12_middle, yX12_asksBest, yX12_middleBy, yX12_rest, yX12_restOf, yX12_ring, yX12_isRing, yX12_octet, yX12_goesRound, yX12_gain, yX12_unitBy, yX12_goesOn, yX12_gain_, yX12_lasts, yX12_quarrel, yX12_starves, yX12_mend, yX12_live, yX12_stop, yX12_other, yX12_note, yX12_notesOf, yX12_lies, yX12_areTrue, yX12_image, yX12_restore, yX12_count, yJ7_fill_53178, yJ7_fill_d0a16, yJ6_bitCount_0f7a4, yL_unit, yL_want, yL_act, yL_gain]
def yM (j : Nat) : MethodName := nthA ⟨"", "", ""⟩ yML j
def rtL : List (Option FieldType) := [none, none, none, none, none, none, none, none, none, none, none, none, (some .int), none, (some .boolean), (some .int), (some .int), none, none, (some .boolean), (some .boolean), none, none, (some .int), none, (some .boolean), (some .int), (some .boolean), (some .boolean), (some .boolean), (some .boolean), (some .int), (some .int), (some .boolean), (some .boolean), none, (some .boolean), (some .boolean), (some .int), (some .int), (some .int), none, (some .boolean), (some .boolean), (some .boolean), (some .boolean), (some .int), none, none, (some .int), (some .int), (some .boolean), (some .int), (some .boolean), (some .boolean), (some (.object "ThirdHands$Meeting")), none, none, none, none, (some .int), (some .int), none, (some .int), none, none, (some .boolean), (some .boolean), none, none, (some .long), (some .long), none, (some .long), (some .int), none, (some .int), (some .long), (some .int), (some .int), (some .int), none, (some .int), (some .int), (some .int), (some .int), (some .int), (some .int), none, (some .int), (some .int), (some .int), (some .int), (some .int), (some .int), (some .int), (some .int), (some .int), (some .int), (some .boolean), none, none, (some .int), none, (some .int), (some .int), (some .int), none, (some .int), (some .int), (some .int), (some .int), (some .int), none, (some .int), (some .int), (some .int), (some (.object "ThirdHands$Meeting")), (some .int), (some .int), (some .boolean), (some .int), (some .int), (some .int), none, (some .int), (some .int), (some .int), (some .int), (some .boolean), (some .boolean), (some .int), (some .int), (some .int), none, (some .int), (some .boolean), none, (some .int), none, (some .int), (some .int), (some .int), none, (some .int), (some .int), (some .int), (some .int), (some .int), (some .int), none, (some .int), (some .boolean), (some .int), (some .int), (some .boolean), (some .int), (some .int), (some .int), (some .int), (some .int), (some .int), (some .boolean), (some .int), (some .boolean), none, (some .boolean), (some .int), (some .int), (some .int), none, (some .boolean), none, (some .int), none, none, (some .int), (some .boolean), (some .boolean), (some .boolean), (some .boolean), (some .boolean), (some .boolean), (some .boolean), (some .boolean), (some .int), (some .boolean), (some .boolean), (some .boolean), (some .boolean), (some .boolean), (some .boolean), (some .boolean), (some .boolean), (some .boolean), (some .boolean), (some .boolean), (some .int), (some .int), (some .boolean), (some .boolean), (some .int), (some .int), (some .int), (some .boolean), (some .int), (some .boolean), (some .int), none, none, (some .boolean), (some .boolean), none, none, (some .boolean), none, (some .boolean), (some .boolean), none, (some .int), (some .boolean), (some .int), (some .int), (some .int), none, (some .int), (some .int), (some .int), none, (some .long), (some .int), (some .int), (some .boolean), none, (some .int), (some .int), (some .int), (some .int), (some .int), (some .int), (some .int), (some .int), (some .int), (some .int), (some .boolean), (some .int), (some .int), (some .int), (some .int), (some .int), (some .int), (some .int), (some .int), (some .int), (some .int), (some .boolean), (some .int), (some .boolean), none, (some .int), (some .boolean), (some .int), (some .int), (some .int), (some .int), (some .int), (some .int), (some .int), (some .int), (some .int), none, (some .int), (some .boolean), (some .boolean), (some .boolean), (some .int), none, none, (some .int), (some .int), (some .int), (some .int), (some .int)]
def rtM (j : Nat) : Option FieldType := nthA none rtL j
def bML : List ByteArray := [cX11_init, cX7_init, cX9_init, cX4_init, cX0_init, cX2_init, cX6_init, cX10_init, cX3_init, cX1_init, cX5_init, cX8_init, cX11_feed, cX11_feedNumber, cX11_end, cX11_village, cX11_takeTape, cX7_start, cX7_advance, cX7_isDigit, cX7_isLetter, cX7_takeRun, cX7_takeWord, cX9_read, cX9_clear, cX9_line, cX7_word, cX9_whoLine, cX7_fail, cX9_isNewName, cX7_isName, cX9_indexOf, cX7_takeValue, cX7_skipWord, cX7_isNumber, cX9_join, cX9_sortLine, cX9_makesLine, cX9_takePerson, cX9_person, cX9_takeSort, cX9_addUnit, cX9_wantsLine, cX9_givesLine, cX9_lawLine, cX7_semicolon, cX7_faultAnswer, cX9_copy, cX11_copyAll, cX11_fault, cX11_giving, cX9_hasPerson, cX11_way, cX9_hasUnit, cX9_hasWant, cX11_asTold, cX6_reset, cX3_weigh, cX10_walkAll, cX10_walkUnit, cX9_firsts, cX9_ofUnit, cX10_measureRooms, cX9_ofWant, cX10_onward, cX10_arrive, cX11_has, cX9_lets, cX10_step, cX3_choose, cX3_takenAsking, cX10_asking, cX3_solve, cX3_bestOfSort, cX9_wantsOfSort, cX3_meetBy, cX3_appraise, cX3_taken, cX10_cost, cX3_digitOf, cX10_path, cX8_keepWay, cX10_handOf, cX10_hours, cX10_pains, cX11_hand, cX11_most, cX3_matched, cX3_lookAround, cX11_bars, cX3_barring, cX11_best, cX3_sum, cX3_metCount, cX3_painsMet, cX3_unitFor, cX11_bestOf, cX11_plan, cX4_read, cX4_readAct, cX4_add, cX4_copy, cX11_drawn, cX4_draw, cX4_next, cX11_judge, cX1_go, cX1_begin, cX1_doAct, cX1_give, cX1_giver, cX1_use, cX1_wantMet, cX1_close, cX11_judged, cX11_holds, cX11_ways, cX11_supposing, cX11_latest, cX11_rest, cX11_askAnew, cX3_middleAsk, cX3_timesMet, cX10_timesBetween, cX8_keepAsks, cX11_restOf, cX11_middle, cX11_middleBy, cX11_ring, cX5_take, cX5_closes, cX5_painsFrom, cX5_at, cX5_spot, cX5_reckon, cX5_madeBy, cX5_goes, cX5_send, cX5_worth, cX8_keepGains, cX5_losers, cX11_lasts, cX5_members, cX5_leave, cX11_quarrel, cX9_allWants, cX3_metWants, cX11_starves, cX11_mend, cX11_mendedMost, cX3_find, cX11_live, cX11_livesBy, cX9_wantsOf, cX11_stop, cX11_stopsBy, cX11_other, cX11_note, cX0_add, cX11_lies, cX0_found, cX0_sort, cX0_areTrue, cX0_holder, cX11_image, cX0_copy, cX11_restore, cX11_count, cX12_thrown, cX12_feed, cX12_four, cX12_end, cX12_init, cX12_village, cX12_taken, cX12_next, cX12_peek, cX12_isSmall, cX12_isDigit, cX12_line, cX12_isWord, cX12_readWho, cX12_bad, cX12_fresh, cX12_isName, cX12_find, cX12_takes, cX12_isIn, cX12_readSort, cX12_readMakes, cX12_takesWho, cX12_takesSort, cX12_readWants, cX12_readGives, cX12_readLaw, cX12_sign, cX12_isSign, cX12_fault, cX12_unit, cX12_isUnit, cX12_throwsIf, cX12_spoils, cX12_sortOf, cX12_want, cX12_isWant, cX12_giving, cX12_isWho, cX12_way, cX12_asTold, cX12_weigh, cX12_areFirsts, cX12_has, cX12_weighUnit, cX12_begin, cX12_nextRow, cX12_away, cX12_mayCome, cX12_isFirst, cX12_put, cX12_lastHour, cX12_isWay, cX12_hand, cX12_most, cX12_mostMet, cX12_meets, cX12_count1, cX12_bars, cX12_best, cX12_bestDay, cX12_seventeen, cX12_bestOf, cX12_plan, cX12_act, cX12_keepPlan, cX12_drawn, cX12_draw, cX12_act_, cX12_judge, cX12_does, cX12_whyNoUse, cX12_whyNot, cX12_wantFor, cX12_giver, cX12_lesserFirst, cX12_forbids, cX12_judged, cX12_holds, cX12_ways, cX12_latest, cX12_middle, cX12_asksBest, cX12_middleBy, cX12_rest, cX12_restOf, cX12_ring, cX12_isRing, cX12_octet, cX12_goesRound, cX12_gain, cX12_unitBy, cX12_goesOn, cX12_gain_, cX12_lasts, cX12_quarrel, cX12_starves, cX12_mend, cX12_live, cX12_stop, cX12_other, cX12_note, cX12_notesOf, cX12_lies, cX12_areTrue, cX12_image, cX12_restore, cX12_count, cJ7_fill_53178, cJ7_fill_d0a16, cJ6_bitCount_0f7a4, cL_unit, cL_want, cL_act, cL_gain]
def bM (j : Nat) : ByteArray := nthA ⟨#[]⟩ bML j
end
section
def pcOf (cd : List Ent) (i : Nat) : Nat := (nthA nE cd i).1
def segW (k : Nat) : List Jvm.Cond := match k with
  | 0 => k2_sels lw_privs
  | 1 => tables_1_1
  | 2 => tables_1_2
  | 3 => tables_1_3
  | 4 => tables_1_4
  | 5 => tables_1_5
  | 6 => tables_1_6
  | 7 => tables_1_7
  | 8 => tables_1_8
  | 9 => tables_1_9
  | _ => []
def hasW (q : Nat) (w : Jvm.Cond) : Bool := decide ((segW (q / 1000))[q % 1000]? = some w)
def fldW (own : String) (idx ci j q : Nat) : Bool := match vwCl[ci]? with
  | some (_, T, N) => decide (j < N) && hasW q (.fieldLink own idx (T j).1 (T j).2.1 (T j).2.2.1)
  | none => false
def fldF (own : String) (nm : String) (ci j : Nat) : Bool := match vwCl[ci]? with
  | some (_, T, _) => if (T j).2.2.2 = true then decide ((T j).1 = own) && decide (nm = "<init>") else true
  | none => false
def in32b (x : Int) : Bool := decide (-2147483648 ≤ x) && decide (x < 2147483648)
def in64b (x : Int) : Bool := decide (-9223372036854775808 ≤ x) && decide (x < 9223372036854775808)
def swB (cd : List Ent) (pc : Nat) : List Int → List Nat → Bool
  | [], [] => true
  | o :: os, t :: ts => decide ((pc : Int) + o = (pcOf cd t : Int)) && swB cd pc os ts
  | _, _ => false
def akd (t : ArrayType) : Nat := match t with
  | .int => 20
  | .long => 21
  | .byte => 22
  | .boolean => 23
  | _ => 99
def nestL : List Jvm.Cond := tables_1.filter (fun w => match w with | .methodLinkNest _ _ _ _ => true | _ => false)
def yW (y : MethodName) (na : Nat) : Bool := decide (y.cls ≠ "java/lang/invoke/MethodHandle") && decide (y.cls ≠ "java/lang/invoke/VarHandle") && decide ((parseMethodDescriptor y.desc).map (fun d => d.parameters.length) = some na)
def linkB (own : String) (idx : Nat) (aux : List Nat) (y : MethodName) : Bool :=
  if a0 aux = 4 ∨ a0 aux = 5 then nestL.any (fun w => match w with | .methodLinkNest o i x _ => decide (o = own) && decide (i = idx) && decide (x = y) | _ => false)
  else hasW (nthA 0 aux 3) (.methodLink own idx y)
/-- what an entry must be, so that the machine's step is the small machine's -/
def chkE (own : String) (nm : String) (b : ByteArray) (mx : Nat) (cd : List Ent) (e : Ent) (nx : Nat) : Bool :=
  match e with
  | (pc, ins, len, aux, c) => decide (decode b pc = .ok (ins, len)) && match ins with
    | .iconst n => decide (len = 1) && decide (nx = pc + 1) && decide (n = c) && in32b c
    | .bipush n => decide (len = 2) && decide (nx = pc + 2) && decide ((Int8.ofInt n).toInt32 = Int32.ofInt c) && in32b c
    | .sipush n => decide (len = 3) && decide (nx = pc + 3) && decide ((Int16.ofInt n).toInt32 = Int32.ofInt c) && in32b c
    | .ldc idx => decide (len = 2) && decide (nx = pc + 2) && hasW (a0 aux) (.constant own idx (Int32.ofInt c)) && in32b c
    | .ldc_w idx => decide (len = 3) && decide (nx = pc + 3) && hasW (a0 aux) (.constant own idx (Int32.ofInt c)) && in32b c
    | .lconst n => decide (len = 1) && decide (nx = pc + 1) && decide (Int64.ofNat n = Int64.ofInt c) && in64b c
    | .ldc2_w idx => decide (len = 3) && decide (nx = pc + 3) && hasW (a0 aux) (.constantLong own idx (Int64.ofInt c)) && in64b c
    | .iload k => decide (len = 2) && decide (nx = pc + 2) && decide (a0 aux = k)
    | .lload k => decide (len = 2) && decide (nx = pc + 2) && decide (a0 aux = k)
    | .aload k => decide (len = 2) && decide (nx = pc + 2) && decide (a0 aux = k)
    | .iload_n k => decide (len = 1) && decide (nx = pc + 1) && decide (a0 aux = (k : Nat))
    | .lload_n k => decide (len = 1) && decide (nx = pc + 1) && decide (a0 aux = (k : Nat))
    | .aload_n k => decide (len = 1) && decide (nx = pc + 1) && decide (a0 aux = (k : Nat))
    | .istore k => decide (len = 2) && decide (nx = pc + 2) && decide (a0 aux = k) && decide (k < mx)
    | .astore k => decide (len = 2) && decide (nx = pc + 2) && decide (a0 aux = k) && decide (k < mx)
    | .lstore k => decide (len = 2) && decide (nx = pc + 2) && decide (a0 aux = k) && decide (k + 1 < mx)
    | .istore_n k => decide (len = 1) && decide (nx = pc + 1) && decide (a0 aux = (k : Nat)) && decide ((k : Nat) < mx)
    | .astore_n k => decide (len = 1) && decide (nx = pc + 1) && decide (a0 aux = (k : Nat)) && decide ((k : Nat) < mx)
    | .lstore_n k => decide (len = 1) && decide (nx = pc + 1) && decide (a0 aux = (k : Nat)) && decide ((k : Nat) + 1 < mx)
    | .iinc k n => decide (len = 3) && decide (nx = pc + 3) && decide (a0 aux = k) && decide (n = c) && decide (k < mx)
    | .goto off => decide (len = 3) && decide ((pc : Int) + off = (pcOf cd (a0 aux) : Int))
    | .ifCond _ off => decide (len = 3) && decide (nx = pc + 3) && decide ((pc : Int) + off = (pcOf cd (a0 aux) : Int))
    | .if_icmp _ off => decide (len = 3) && decide (nx = pc + 3) && decide ((pc : Int) + off = (pcOf cd (a0 aux) : Int))
    | .tableswitch d lo hi os => decide (lo = c) && decide (hi = c + ((aux.drop 1).length : Int) - 1) && decide ((pc : Int) + d = (pcOf cd (a0 aux) : Int)) && swB cd pc os.toList (aux.drop 1)
    | .getfield idx => decide (len = 3) && decide (nx = pc + 3) && fldW own idx (a0 aux) (a1 aux) (a2 aux)
    | .putfield idx => decide (len = 3) && decide (nx = pc + 3) && fldW own idx (a0 aux) (a1 aux) (a2 aux) && fldF own nm (a0 aux) (a1 aux)
    | .newarray t => decide (len = 2) && decide (nx = pc + 2) && decide (a0 aux = akd t) && decide (akd t < 24) && hasW (a1 aux) (.arrayClass (newarray.typeOf t))
    | .anewarray idx => decide (len = 3) && decide (nx = pc + 3) && hasW (a1 aux) (.classLink own idx RX2)
    | .new idx => decide (len = 3) && decide (nx = pc + 3) && (match vwCl[a0 aux]? with
      | some (C, _, N) => hasW (a1 aux) (.classLink own idx C) && hasW (nthA 0 aux 2) (.instantiable C N) && hasW (nthA 0 aux 3) (.initialized C)
      | none => false)
    | .invokevirtual idx => decide (len = 3) && decide (nx = pc + 3) && decide (a1 aux < 279) && yW (yM (a1 aux)) (a2 aux) && (match vwCl[nthA 0 aux 3]? with
      | some (C, _, _) => decide ((yM (a1 aux)).cls = C) && decide (nthA 0 aux 3 < 20) && hasW (nthA 0 aux 4) (.methodLink own idx (yM (a1 aux))) && hasW (nthA 0 aux 5) (.instanceMethod (yM (a1 aux))) && hasW (nthA 0 aux 6) (.selects C (yM (a1 aux)) (yM (a1 aux))) && hasW (nthA 0 aux 7) (.initialized C)
      | none => false)
    | .invokestatic idx => decide (len = 3) && decide (nx = pc + 3) && (match a0 aux with
      | 10 => hasW (nthA 0 aux 3) (.methodLink own idx Lib.Math.max.name) && hasW (nthA 0 aux 4) (.static Lib.Math.max.name) && hasW (nthA 0 aux 5) (.initialized "java/lang/Math") && hasW (nthA 0 aux 6) (.code Lib.Math.max.name Lib.Math.max.code 2 (some .int))
      | 11 => hasW (nthA 0 aux 3) (.methodLink own idx Lib.Math.min.name) && hasW (nthA 0 aux 4) (.static Lib.Math.min.name) && hasW (nthA 0 aux 5) (.initialized "java/lang/Math") && hasW (nthA 0 aux 6) (.code Lib.Math.min.name Lib.Math.min.code 2 (some .int))
      | 12 => hasW (nthA 0 aux 3) (.methodLink own idx Lib.MathLoose.max_long.x) && hasW (nthA 0 aux 4) (.static Lib.MathLoose.max_long.x) && hasW (nthA 0 aux 5) (.initialized "java/lang/Math") && hasW (nthA 0 aux 6) (.code Lib.MathLoose.max_long.x Lib.MathLoose.max_long.code 4 (some .long))
      | 13 => hasW (nthA 0 aux 3) (.methodLink own idx Lib.MathLoose.min_long.x) && hasW (nthA 0 aux 4) (.static Lib.MathLoose.min_long.x) && hasW (nthA 0 aux 5) (.initialized "java/lang/Math") && hasW (nthA 0 aux 6) (.code Lib.MathLoose.min_long.x Lib.MathLoose.min_long.code 4 (some .long))
      | 14 => hasW (nthA 0 aux 3) (.methodLink own idx arraycopyName) && hasW (nthA 0 aux 4) (.native arraycopyName) && hasW (nthA 0 aux 5) (.static arraycopyName) && hasW (nthA 0 aux 6) (.initialized "java/lang/System")
      | 7 => yW (yM (a1 aux)) (a2 aux) && hasW (nthA 0 aux 3) (.methodLink own idx (yM (a1 aux))) && hasW (nthA 0 aux 4) (.static (yM (a1 aux))) && hasW (nthA 0 aux 5) (.initialized (yM (a1 aux)).cls) && decide (279 ≤ a1 aux)
      | _ => decide (a0 aux = 1 ∨ a0 aux = 4) && decide (a1 aux < 279) && yW (yM (a1 aux)) (a2 aux) && linkB own idx aux (yM (a1 aux)) && hasW (nthA 0 aux 4) (.static (yM (a1 aux))) && hasW (nthA 0 aux 5) (.initialized (yM (a1 aux)).cls))
    | .invokespecial idx => decide (len = 3) && decide (nx = pc + 3) && (match a0 aux with
      | 20 => hasW (nthA 0 aux 3) (.methodLink own idx objectInit) && hasW (nthA 0 aux 4) (.instanceMethod objectInit) && hasW (nthA 0 aux 5) (.code objectInit ⟨#[0xb1]⟩ 1 none)
      | _ => decide (a0 aux = 2 ∨ a0 aux = 5) && decide (a1 aux < 279) && yW (yM (a1 aux)) (a2 aux) && decide ((yM (a1 aux)).name = "<init>") && linkB own idx aux (yM (a1 aux)) && hasW (nthA 0 aux 4) (.instanceMethod (yM (a1 aux))) && hasW (nthA 0 aux 5) (.initialized (yM (a1 aux)).cls))
    | .nop => false
    | .return_ => decide (len = 1)
    | .ireturn => decide (len = 1)
    | .lreturn => decide (len = 1)
    | .areturn => decide (len = 1)
    | _ => decide (len = 1) && decide (nx = pc + 1)
def chkR (own nm : String) (b : ByteArray) (mx : Nat) (cd : List Ent) (lo n : Nat) : Bool := (List.range n).all (fun i => chkE own nm b mx cd (nthA nE cd (lo + i)) (pcOf cd (lo + i + 1)))
def cdpL : List Nat := [1030, 1038, 1127, 1230, 2020, 2050, 2082, 2126, 2187, 2223, 3036, 3057, 3144, 3148, 3152, 3156, 3160, 3164, 3171, 3174, 3177, 3181, 3185, 3189, 3193, 3197, 3201, 3205, 3209, 3214, 3218, 3222, 3226, 3230, 3235, 3239, 4003, 4007, 4011, 4015, 4019, 4023, 4027, 4031, 4035, 4039, 4043, 4047, 4050, 4058, 4062, 4066, 4070, 4074, 4078, 4082, 4086, 4091, 4095, 4099, 4103, 4107, 4113, 4117, 4126, 4130, 4136, 4140, 4144, 4148, 4153, 4157, 4162, 4166, 4170, 4180, 4184, 4188, 4192, 4196, 4205, 4210, 4213, 4217, 4221, 4227, 4231, 4235, 4239, 5010, 5014, 5018, 5022, 5026, 5030, 5034, 5039, 5044, 5048, 5052, 5061, 5068, 5073, 5077, 5081, 5086, 5090, 5094, 5099, 5103, 5107, 5114, 5118, 5123, 5127, 5131, 5135, 5139, 5144, 5149, 5153, 5157, 5161, 5165, 5169, 5174, 5178, 5182, 5186, 5190, 5196, 5200, 5204, 5208, 5212, 5217, 5222, 5228, 5232, 5237, 6001, 6005, 6009, 6013, 6017, 6021, 6025, 6029, 6033, 6037, 6041, 6045, 6050, 6054, 6059, 6063, 6067, 6071, 6075, 6079, 6083, 6087, 6092, 6099, 6103, 6107, 6112, 6116, 6210, 6214, 6219, 6223, 6227, 8011, 8015, 8019, 8023, 8026, 8029, 8033, 8037, 8041, 8045, 8049, 8053, 8057, 8061, 8064, 8068, 8072, 8076, 8080, 8084, 8088, 8092, 8096, 8100, 8104, 8108, 8112, 8116, 8120, 8124, 8128, 8132, 8136, 8140, 8144, 8148, 8152, 8156, 8159, 8163, 8168, 8172, 8176, 8180, 8184, 8188, 8192, 8196, 8200, 8204, 8208, 8212, 8215, 8219, 8223, 8227, 8231, 8237, 9001, 9005, 9009, 9013, 9017, 9022, 9026, 9030, 9034, 9038, 9042, 9046, 9050, 9054, 9058, 9062, 9066, 9070, 9074, 9078, 9082, 9086, 9090, 9094, 9098, 9102, 9106, 9110, 9114, 9118, 9122, 9126, 9130, 9134, 9138, 9142, 9146, 9150, 9154, 9158, 9162, 9166, 9170, 9174, 9178, 1131, 4175, 5002, 0, 0, 0, 0]
def ckJ (j : Nat) : Bool := chkR (yM j).cls (yM j).name (bM j) (mxM j) (cdM j) 0 (cdM j).length
end
section
set_option maxRecDepth 100000 in
theorem ckc_0 : ([0, 2, 3, 4, 5, 6, 7, 8, 9, 10, 11, 12, 13, 14, 15, 16] : List Nat).all ckJ = true := by decide +kernel
set_option maxRecDepth 100000 in
theorem ckc_1 : ([17, 18, 19, 20, 21, 22, 23, 24, 25, 26, 27, 28, 29, 30, 31] : List Nat).all ckJ = true := by decide +kernel
set_option maxRecDepth 100000 in
theorem ckc_2 : ([32, 33, 34, 35, 36, 37, 38, 39, 40, 41, 42] : List Nat).all ckJ = true := by decide +kernel
set_option maxRecDepth 100000 in
theorem ckc_3 : ([43, 44, 45, 46, 47, 48, 49, 50, 51, 52, 53, 54, 55, 56, 57, 58] : List Nat).all ckJ = true := by decide +kernel
set_option maxRecDepth 100000 in
theorem ckc_4 : ([59, 60, 61, 62, 63, 64, 65, 66] : List Nat).all ckJ = true := by decide +kernel
set_option maxRecDepth 100000 in
theorem ckc_5 : ([67, 68, 69, 70, 71, 72, 73, 74, 75, 76, 77, 78, 79] : List Nat).all ckJ = true := by decide +kernel
set_option maxRecDepth 100000 in
theorem ckc_6 : ([80, 81, 82, 83, 84, 85, 86, 87, 88, 89, 90, 91, 92, 93, 94, 95, 96, 97, 98, 99, 100, 101] : List Nat).all ckJ = true := by decide +kernel
set_option maxRecDepth 100000 in
theorem ckc_7 : ([102, 103, 104, 105, 106, 107, 108, 109, 110, 111, 112] : List Nat).all ckJ = true := by decide +kernel
set_option maxRecDepth 100000 in
theorem ckc_8 : ([113, 114, 115, 116, 117, 118, 119, 120, 121, 122, 123, 124, 125, 126, 127] : List Nat).all ckJ = true := by decide +kernel
end
section
set_option maxRecDepth 100000 in
theorem ckc_9 : ([128, 129, 130, 131, 132, 133, 134, 135, 136, 137, 138, 139, 140, 141, 142, 143] : List Nat).all ckJ = true := by decide +kernel
set_option maxRecDepth 100000 in
theorem ckc_10 : ([144, 145, 146, 147, 148, 149, 150, 151, 152, 153, 154, 155, 156, 157, 158] : List Nat).all ckJ = true := by decide +kernel
set_option maxRecDepth 100000 in
theorem ckc_11 : ([159, 160, 161, 162, 163, 164, 165, 166, 167, 168, 169, 170, 171] : List Nat).all ckJ = true := by decide +kernel
set_option maxRecDepth 100000 in
theorem ckc_12 : ([172, 173, 174] : List Nat).all ckJ = true := by decide +kernel
set_option maxRecDepth 100000 in
theorem ckc_13 : ([175, 176, 177, 178, 179, 180, 181, 182, 183, 184, 185, 186, 187] : List Nat).all ckJ = true := by decide +kernel
set_option maxRecDepth 100000 in
theorem ckc_14 : ([188, 189, 190, 191, 192, 193] : List Nat).all ckJ = true := by decide +kernel
set_option maxRecDepth 100000 in
theorem ckc_15 : ([194, 195, 196, 197, 198, 199, 200, 201, 202, 203, 204, 205, 206, 207, 208] : List Nat).all ckJ = true := by decide +kernel
set_option maxRecDepth 100000 in
theorem ckc_16 : ([209, 210, 211, 212, 213] : List Nat).all ckJ = true := by decide +kernel
set_option maxRecDepth 100000 in
theorem ckc_17 : ([214, 215, 216, 217, 218, 219, 220, 221, 222, 223] : List Nat).all ckJ = true := by decide +kernel
end
section
set_option maxRecDepth 100000 in
theorem ckc_18 : ([224, 225, 226, 227, 228, 229] : List Nat).all ckJ = true := by decide +kernel
set_option maxRecDepth 100000 in
theorem ckc_19 : ([230, 231, 232, 233, 234, 235, 236] : List Nat).all ckJ = true := by decide +kernel
set_option maxRecDepth 100000 in
theorem ckc_20 : ([237, 238, 239, 240] : List Nat).all ckJ = true := by decide +kernel
set_option maxRecDepth 100000 in
theorem ckc_21 : ([241, 242, 243, 244, 245, 246, 247, 248] : List Nat).all ckJ = true := by decide +kernel
set_option maxRecDepth 100000 in
theorem ckc_22 : ([249, 250, 251, 252, 253, 254, 255, 256, 257] : List Nat).all ckJ = true := by decide +kernel
set_option maxRecDepth 100000 in
theorem ckc_23 : ([258, 259, 260, 261, 262, 263, 264] : List Nat).all ckJ = true := by decide +kernel
set_option maxRecDepth 100000 in
theorem ckc_24 : ([265, 266, 267, 268, 269, 270] : List Nat).all ckJ = true := by decide +kernel
set_option maxRecDepth 100000 in
theorem ckc_25 : ([271, 272, 273, 274, 275, 276, 277, 278] : List Nat).all ckJ = true := by decide +kernel
end
section
set_option maxRecDepth 100000 in
theorem ck_law_0 : chkR "ThirdHandsLaw" "law" code 7 cd_law 0 100 = true := by decide +kernel
set_option maxRecDepth 100000 in
theorem ck_law_1 : chkR "ThirdHandsLaw" "law" code 7 cd_law 100 100 = true := by decide +kernel
set_option maxRecDepth 100000 in
theorem ck_law_2 : chkR "ThirdHandsLaw" "law" code 7 cd_law 200 100 = true := by decide +kernel
set_option maxRecDepth 100000 in
theorem ck_law_3 : chkR "ThirdHandsLaw" "law" code 7 cd_law 300 100 = true := by decide +kernel
end
section
set_option maxRecDepth 100000 in
theorem ck_law_4 : chkR "ThirdHandsLaw" "law" code 7 cd_law 400 100 = true := by decide +kernel
set_option maxRecDepth 100000 in
theorem ck_law_5 : chkR "ThirdHandsLaw" "law" code 7 cd_law 500 100 = true := by decide +kernel
set_option maxRecDepth 100000 in
theorem ck_law_6 : chkR "ThirdHandsLaw" "law" code 7 cd_law 600 100 = true := by decide +kernel
set_option maxRecDepth 100000 in
theorem ck_law_7 : chkR "ThirdHandsLaw" "law" code 7 cd_law 700 100 = true := by decide +kernel
set_option maxRecDepth 100000 in
theorem ck_law_8 : chkR "ThirdHandsLaw" "law" code 7 cd_law 800 54 = true := by decide +kernel
end
section
theorem ck_list {l : List Nat} (h : l.all ckJ = true) : ∀ j ∈ l, ckJ j = true := fun j hj => List.all_eq_true.mp h j hj
theorem ck_in : ∀ j, j < 279 → ¬ j = 1 → j ∈ ([0, 2, 3, 4, 5, 6, 7, 8, 9, 10, 11, 12, 13, 14, 15, 16] ++ ([17, 18, 19, 20, 21, 22, 23, 24, 25, 26, 27, 28, 29, 30, 31] ++ ([32, 33, 34, 35, 36, 37, 38, 39, 40, 41, 42] ++ ([43, 44, 45, 46, 47, 48, 49, 50, 51, 52, 53, 54, 55, 56, 57, 58] ++ ([59, 60, 61, 62, 63, 64, 65, 66] ++ ([67, 68, 69, 70, 71, 72, 73, 74, 75, 76, 77, 78, 79] ++ ([80, 81, 82, 83, 84, 85, 86, 87, 88, 89, 90, 91, 92, 93, 94, 95, 96, 97, 98, 99, 100, 101] ++ ([102, 103, 104, 105, 106, 107, 108, 109, 110, 111, 112] ++ ([113, 114, 115, 116, 117, 118, 119, 120, 121, 122, 123, 124, 125, 126, 127] ++ ([128, 129, 130, 131, 132, 133, 134, 135, 136, 137, 138, 139, 140, 141, 142, 143] ++ ([144, 145, 146, 147, 148, 149, 150, 151, 152, 153, 154, 155, 156, 157, 158] ++ ([159, 160, 161, 162, 163, 164, 165, 166, 167, 168, 169, 170, 171] ++ ([172, 173, 174] ++ ([175, 176, 177, 178, 179, 180, 181, 182, 183, 184, 185, 186, 187] ++ ([188, 189, 190, 191, 192, 193] ++ ([194, 195, 196, 197, 198, 199, 200, 201, 202, 203, 204, 205, 206, 207, 208] ++ ([209, 210, 211, 212, 213] ++ ([214, 215, 216, 217, 218, 219, 220, 221, 222, 223] ++ ([224, 225, 226, 227, 228, 229] ++ ([230, 231, 232, 233, 234, 235, 236] ++ ([237, 238, 239, 240] ++ ([241, 242, 243, 244, 245, 246, 247, 248] ++ ([249, 250, 251, 252, 253, 254, 255, 256, 257] ++ ([258, 259, 260, 261, 262, 263, 264] ++ ([265, 266, 267, 268, 269, 270] ++ ([271, 272, 273, 274, 275, 276, 277, 278]))))))))))))))))))))))))) : List Nat) := by decide +kernel
theorem ck_every {j : Nat} (hj : j < 279) (h1 : ¬ j = 1) : ckJ j = true := by
  have h := ck_in j hj h1
  rcases List.mem_append.mp h with h | h
  · exact ck_list ckc_0 j h
  rcases List.mem_append.mp h with h | h
  · exact ck_list ckc_1 j h
  rcases List.mem_append.mp h with h | h
  · exact ck_list ckc_2 j h
  rcases List.mem_append.mp h with h | h
  · exact ck_list ckc_3 j h
  rcases List.mem_append.mp h with h | h
  · exact ck_list ckc_4 j h
  rcases List.mem_append.mp h with h | h
  · exact ck_list ckc_5 j h
  rcases List.mem_append.mp h with h | h
  · exact ck_list ckc_6 j h
  rcases List.mem_append.mp h with h | h
  · exact ck_list ckc_7 j h
  rcases List.mem_append.mp h with h | h
  · exact ck_list ckc_8 j h
  rcases List.mem_append.mp h with h | h
  · exact ck_list ckc_9 j h
  rcases List.mem_append.mp h with h | h
  · exact ck_list ckc_10 j h
  rcases List.mem_append.mp h with h | h
  · exact ck_list ckc_11 j h
  rcases List.mem_append.mp h with h | h
  · exact ck_list ckc_12 j h
  rcases List.mem_append.mp h with h | h
  · exact ck_list ckc_13 j h
  rcases List.mem_append.mp h with h | h
  · exact ck_list ckc_14 j h
  rcases List.mem_append.mp h with h | h
  · exact ck_list ckc_15 j h
  rcases List.mem_append.mp h with h | h
  · exact ck_list ckc_16 j h
  rcases List.mem_append.mp h with h | h
  · exact ck_list ckc_17 j h
  rcases List.mem_append.mp h with h | h
  · exact ck_list ckc_18 j h
  rcases List.mem_append.mp h with h | h
  · exact ck_list ckc_19 j h
  rcases List.mem_append.mp h with h | h
  · exact ck_list ckc_20 j h
  rcases List.mem_append.mp h with h | h
  · exact ck_list ckc_21 j h
  rcases List.mem_append.mp h with h | h
  · exact ck_list ckc_22 j h
  rcases List.mem_append.mp h with h | h
  · exact ck_list ckc_23 j h
  rcases List.mem_append.mp h with h | h
  · exact ck_list ckc_24 j h
  exact ck_list ckc_25 j h
end
section
/-! the small machine's worlds against the heap -/
def toV (ρ : Nat → Nat) (v : MV) : Value := match v with
  | none => .null
  | some (.inl x) => .int (Int32.ofInt x)
  | some (.inr (.inl x)) => .long (Int64.ofInt x)
  | some (.inr (.inr h)) => .ref (ρ h)
def okV (n : Nat) (v : MV) : Prop := match v with
  | none => True
  | some (.inl x) => in32 x
  | some (.inr (.inl x)) => in64 x
  | some (.inr (.inr h)) => h < n ∨ h = 400
def fvl (ρ : Nat → Nat) (h : Nat) (f : Nat → Int) (j : Nat) : Value :=
  if fty (kd h) j = 2 then (if f j = 0 then .null else .ref (ρ (gr h j))) else if fty (kd h) j = 1 then .long (Int64.ofInt (f j)) else .int (Int32.ofInt (f j))
def celE (κ : Nat → ClassId) (ρ : Nat → Nat) (h : Nat) (f : Nat → Int) : va_E :=
  if kd h < 20 then .inr (kd h, (List.range (szI h).toNat).map (fvl ρ h f))
  else if kd h = 21 then .inl (κ 21, ((szI h).toNat, .inr (.inl (fun j => Int64.ofInt (f j)))))
  else if kd h = 24 then .inl (κ 24, ((szI h).toNat, .inr (.inr (.inr (.inr (fun j => if f j = 0 then none else some (ρ (gr h j))))))))
  else .inl (κ (kd h), ((szI h).toNat, .inl (fun j => Int32.ofInt (f j))))
def wsO (κ : Nat → ClassId) (ρ : Nat → Nat) (w : Wd) (n : Nat) : va_W := (List.range n).map (fun h => (ρ h, celE κ ρ h (w h)))
def tysO (κ : Nat → ClassId) : List (ClassId × FieldType) := [(κ 20, .int), (κ 21, .long), (κ 22, .byte), (κ 23, .boolean), (κ 24, .object "ThirdHands$Image")]
def tyC (h j : Nat) : Nat := if kd h < 20 then fty (kd h) j else if kd h = 21 then 1 else 0
def rfC (h j : Nat) : Prop := (kd h < 20 ∧ fty (kd h) j = 2) ∨ kd h = 24
def okW (n : Nat) (w : Wd) : Prop := ∀ h j, h < n → (if tyC h j = 1 then in64 (w h j) else in32 (w h j)) ∧ (rfC h j → ¬ w h j = 0 → gr h j < n)
theorem wsO_at {κ : Nat → ClassId} {ρ : Nat → Nat} {w : Wd} {n h : Nat} (hh : h < n) : (wsO κ ρ w n)[h]? = some (ρ h, celE κ ρ h (w h)) := by
  unfold wsO
  rw [List.getElem?_map, List.getElem?_range hh]
  rfl
theorem wsO_set {κ : Nat → ClassId} {ρ : Nat → Nat} {w : Wd} {n h : Nat} (hh : h < n) (f : Nat → Int) : (wsO κ ρ w n).set h (ρ h, celE κ ρ h f) = wsO κ ρ (ubf w h f) n := by
  apply List.ext_getElem?
  intro k
  by_cases hk : k = h
  · subst hk
    rw [List.getElem?_set_self (by simpa [wsO] using hh), wsO_at hh, ubf_self]
  · rw [List.getElem?_set_ne (Ne.symm hk)]
    by_cases hn : k < n
    · rw [wsO_at hn, wsO_at hn, ubf_ne _ hk]
    · rw [List.getElem?_eq_none (by simp [wsO]; omega), List.getElem?_eq_none (by simp [wsO]; omega)]
theorem celE_agree {κ : Nat → ClassId} {ρ ρ' : Nat → Nat} {h n : Nat} {f : Nat → Int} (ha : ∀ g, g < n → ρ' g = ρ g) (hr : ∀ j, rfC h j → ¬ f j = 0 → gr h j < n) : celE κ ρ' h f = celE κ ρ h f := by
  unfold celE
  by_cases h1 : kd h < 20
  · rw [if_pos h1, if_pos h1]
    congr 2
    apply List.map_congr_left
    intro j _
    unfold fvl
    by_cases h2 : fty (kd h) j = 2
    · rw [if_pos h2, if_pos h2]
      by_cases h3 : f j = 0
      · rw [if_pos h3, if_pos h3]
      · rw [if_neg h3, if_neg h3, ha _ (hr j (Or.inl ⟨h1, h2⟩) h3)]
    · rw [if_neg h2, if_neg h2]
  · rw [if_neg h1, if_neg h1]
    by_cases h2 : kd h = 21
    · rw [if_pos h2, if_pos h2]
    · rw [if_neg h2, if_neg h2]
      by_cases h3 : kd h = 24
      · rw [if_pos h3, if_pos h3]
        have e : (fun j => if f j = 0 then none else some (ρ' (gr h j))) = (fun j => if f j = 0 then none else some (ρ (gr h j))) := by
          funext j
          by_cases h4 : f j = 0
          · rw [if_pos h4, if_pos h4]
          · rw [if_neg h4, if_neg h4, ha _ (hr j (Or.inr h3) h4)]
        rw [e]
      · rw [if_neg h3, if_neg h3]
theorem wsO_agree {κ : Nat → ClassId} {ρ ρ' : Nat → Nat} {w : Wd} {n : Nat} (ha : ∀ g, g < n → ρ' g = ρ g) (ho : okW n w) : wsO κ ρ' w n = wsO κ ρ w n := by
  unfold wsO
  apply List.map_congr_left
  intro h hh
  have hh := List.mem_range.mp hh
  rw [ha h hh, celE_agree ha (fun j q1 q2 => (ho h j hh).2 q1 q2)]
theorem gr_lt : ∀ h j, gr h j < 186 := by
  have h1 : ∀ l ∈ grL, ∀ x ∈ l, x < 186 := by decide +kernel
  have hn : ∀ (l : List Nat) (j : Nat), (∀ x ∈ l, x < 186) → nthA 0 l j < 186 := by
    intro l
    induction l with
    | nil => intro j _; simp [nthA]
    | cons a t ih =>
      intro j hx
      cases j with
      | zero => exact hx a List.mem_cons_self
      | succ j => exact ih j (fun x q => hx x (List.mem_cons_of_mem _ q))
  have hm : ∀ (L : List (List Nat)) (h : Nat), (∀ l ∈ L, ∀ x ∈ l, x < 186) → ∀ x ∈ nthA [] L h, x < 186 := by
    intro L
    induction L with
    | nil => intro h _ x hx; simp [nthA] at hx
    | cons a t ih =>
      intro h hL
      cases h with
      | zero => exact hL a List.mem_cons_self
      | succ h => exact ih h (fun l q => hL l (List.mem_cons_of_mem _ q))
  intro h j
  exact hn _ j (hm grL h h1)
def SL : Nat → Nat
  | 0 => 0
  | n + 1 => SL n + (szI n).toNat
theorem SL_mono : ∀ (a b : Nat), a ≤ b → SL a ≤ SL b := by
  intro a b h
  induction b with
  | zero => have : a = 0 := by omega
            subst this; exact Nat.le_refl _
  | succ b ih =>
    by_cases q : a = b + 1
    · subst q; exact Nat.le_refl _
    · have := ih (by omega)
      show SL a ≤ SL b + _
      omega
def wsB : List Jvm.Cond := lw_tbl.filter goodWord
theorem seg_in : ∀ (k : Nat) (w : Jvm.Cond), w ∈ segW k → w ∈ lw_tbl := by
  intro k w h
  unfold lw_tbl tables_1
  match k, h with
  | 0, h => exact List.mem_append_left _ h
  | 1, h => exact List.mem_append_right _ (List.mem_append_left _ h)
  | 2, h => exact List.mem_append_right _ (List.mem_append_right _ (List.mem_append_left _ h))
  | 3, h => exact List.mem_append_right _ (List.mem_append_right _ (List.mem_append_right _ (List.mem_append_left _ h)))
  | 4, h => exact List.mem_append_right _ (List.mem_append_right _ (List.mem_append_right _ (List.mem_append_right _ (List.mem_append_left _ h))))
  | 5, h => exact List.mem_append_right _ (List.mem_append_right _ (List.mem_append_right _ (List.mem_append_right _ (List.mem_append_right _ (List.mem_append_left _ h)))))
  | 6, h => exact List.mem_append_right _ (List.mem_append_right _ (List.mem_append_right _ (List.mem_append_right _ (List.mem_append_right _ (List.mem_append_right _ (List.mem_append_left _ h))))))
  | 7, h => exact List.mem_append_right _ (List.mem_append_right _ (List.mem_append_right _ (List.mem_append_right _ (List.mem_append_right _ (List.mem_append_right _ (List.mem_append_right _ (List.mem_append_left _ h)))))))
  | 8, h => exact List.mem_append_right _ (List.mem_append_right _ (List.mem_append_right _ (List.mem_append_right _ (List.mem_append_right _ (List.mem_append_right _ (List.mem_append_right _ (List.mem_append_right _ (List.mem_append_left _ h))))))))
  | 9, h => exact List.mem_append_right _ (List.mem_append_right _ (List.mem_append_right _ (List.mem_append_right _ (List.mem_append_right _ (List.mem_append_right _ (List.mem_append_right _ (List.mem_append_right _ (List.mem_append_right _ h))))))))
  | k + 10, h => simp [segW] at h
theorem hasW_in {q : Nat} {w : Jvm.Cond} (h : hasW q w = true) (hg : goodWord w = true) : w ∈ wsB := by
  unfold hasW at h
  rw [decide_eq_true_eq] at h
  exact List.mem_filter.mpr ⟨seg_in _ _ (List.mem_of_getElem? h), hg⟩
/-- the static facts of the classes -/
def layL : List (List Nat) := [[2030, 2032, 2034, 2036, 2038, 2040, 2042], [3007, 3009, 3011, 3013, 3015, 3017, 3019, 3021, 3023, 3025, 3027, 3029], [2065, 2067, 2069, 2071], [2200, 2202, 2204, 2206, 2208, 2210, 2212, 2214, 2216], [2005, 2007, 2009, 2011, 2013], [3044, 3046, 3048, 3050], [2107, 2109, 2111, 2113, 2115, 2117, 2119, 2121], [1102, 1104, 1106, 1108, 1110, 1112, 1114, 1116, 1118], [3075, 3077, 3079, 3081, 3083, 3085, 3087, 3089], [1189, 1191, 1193, 1195, 1197, 1199, 1201, 1203, 1205, 1207, 1209, 1211, 1213, 1215, 1217, 1219, 1221, 1223], [2151, 2153, 2155, 2157, 2159, 2161, 2163, 2165, 2167, 2169, 2171, 2173, 2175, 2177, 2179, 2181], [3108, 3110, 3112, 3114, 3116, 3118, 3120, 3122, 3124, 3126, 3128, 3130, 3132, 3134, 3136, 3138], [7086, 7088, 7090, 7092, 7094, 7096, 7098, 7100, 7102, 7104, 7106, 7108, 7110, 7112, 7114, 7116, 7118, 7120, 7122, 7124, 7126, 7128, 7130, 7132, 7134, 7136, 7138, 7140, 7142, 7144, 7146, 7148, 7150, 7152, 7154, 7156, 7158, 7160, 7162, 7164, 7166, 7168, 7170, 7172, 7174, 7176, 7178, 7180, 7182, 7184, 7186, 7188, 7190, 7192, 7194, 7196, 7198, 7200, 7202, 7204, 7206, 7208, 7210, 7212, 7214, 7216, 7218, 7220, 7222, 7224, 7226, 7228, 7230, 7232, 7234, 7236, 7238, 8000, 8002, 8004]]
def layB (k : Nat) : Bool := match vwCl[k]? with
  | some (C, T, N) => decide ((nthA [] layL k).length = N) && (List.range N).all (fun j => hasW (nthA 0 (nthA [] layL k) j) (u_lay C T j) && goodWord (u_lay C T j))
  | none => true
set_option maxRecDepth 100000 in
theorem lay_ok : (List.range 13).all layB = true := by decide +kernel
theorem cl_lt {k : Nat} {q : vw_C} (h : vwCl[k]? = some q) : k < 13 := (List.getElem?_eq_some_iff.mp h).1
theorem lay_in {k : Nat} {C : String} {T : u_T} {N : Nat} (h : vwCl[k]? = some (C, T, N)) : ∀ w ∈ u_ws C T N, w ∈ wsB := by
  have h1 := List.all_eq_true.mp lay_ok k (List.mem_range.mpr (cl_lt h))
  unfold layB at h1
  rw [h] at h1
  simp only [Bool.and_eq_true] at h1
  intro w hw
  obtain ⟨j, hj, rfl⟩ := List.mem_map.mp hw
  have h2 := List.all_eq_true.mp h1.2 j hj
  simp only [Bool.and_eq_true] at h2
  exact hasW_in h2.1 h2.2
theorem cl_names {k : Nat} {C : String} {T : u_T} {N : Nat} (h : vwCl[k]? = some (C, T, N)) : ∀ a, a < N → ∀ b, b < N → a ≠ b → (T a).2.1 ≠ (T b).2.1 := by
  have hk := cl_lt h
  match k, hk, h with
  | 0, _, h => cases h; exact nmX0
  | 1, _, h => cases h; exact nmX1
  | 2, _, h => cases h; exact nmX2
  | 3, _, h => cases h; exact nmX3
  | 4, _, h => cases h; exact nmX4
  | 5, _, h => cases h; exact nmX5
  | 6, _, h => cases h; exact nmX6
  | 7, _, h => cases h; exact nmX7
  | 8, _, h => cases h; exact nmX8
  | 9, _, h => cases h; exact nmX9
  | 10, _, h => cases h; exact nmX10
  | 11, _, h => cases h; exact nmX11
  | 12, _, h => cases h; exact nmX12
def tyOf (T : u_T) (j : Nat) : FieldType := (parseFieldDescriptor (T j).2.2.1).getD .int
def tyB (k : Nat) : Bool := match vwCl[k]? with
  | some (_, T, N) => (List.range N).all (fun j => (parseFieldDescriptor (T j).2.2.1).isSome && (match tyOf T j with
    | .int => fty k j == 0
    | .long => fty k j == 1
    | .boolean => fty k j == 3
    | .object _ => fty k j == 2
    | .array _ => fty k j == 2
    | _ => false))
  | none => true
set_option maxRecDepth 100000 in
theorem ty_ok : (List.range 13).all tyB = true := by decide +kernel
theorem cl_ty {k : Nat} {C : String} {T : u_T} {N : Nat} (h : vwCl[k]? = some (C, T, N)) {j : Nat} (hj : j < N) : parseFieldDescriptor (T j).2.2.1 = some (tyOf T j) ∧
    (fty k j = 0 → tyOf T j = .int) ∧ (fty k j = 1 → tyOf T j = .long) ∧ (fty k j = 3 → tyOf T j = .boolean) ∧ (fty k j = 2 → (∃ n, tyOf T j = .object n) ∨ ∃ t, tyOf T j = .array t) := by
  have h1 := List.all_eq_true.mp ty_ok k (List.mem_range.mpr (cl_lt h))
  unfold tyB at h1
  rw [h] at h1
  have h2 := List.all_eq_true.mp h1 j (List.mem_range.mpr hj)
  simp only [Bool.and_eq_true] at h2
  obtain ⟨h2, h3⟩ := h2
  refine ⟨?_, ?_⟩
  · obtain ⟨t, ht⟩ := Option.isSome_iff_exists.mp h2
    unfold tyOf
    rw [ht]; rfl
  · cases e : tyOf T j <;> rw [e] at h3 <;> simp at h3 <;> simp [h3]
def szB (h : Nat) : Bool := if kd h < 20 then (match vwCl[kd h]? with
  | some (_, _, N) => szI h == (N : Int)
  | none => false) else (kd h == 20 || kd h == 21 || kd h == 22 || kd h == 23 || kd h == 24) && decide (0 ≤ szI h) && decide (szI h ≤ 2000)
set_option maxRecDepth 100000 in
theorem sz_ok : (List.range 186).all szB = true := by decide +kernel
theorem sz_cl {h : Nat} (hh : h < 186) (hk : kd h < 20) : ∃ C T, vwCl[kd h]? = some (C, T, (szI h).toNat) ∧ szI h = ((szI h).toNat : Int) := by
  have h1 := List.all_eq_true.mp sz_ok h (List.mem_range.mpr hh)
  unfold szB at h1
  rw [if_pos hk] at h1
  cases e : vwCl[kd h]? with
  | none => rw [e] at h1; cases h1
  | some q =>
    obtain ⟨C, T, N⟩ := q
    rw [e] at h1
    have h2 : szI h = (N : Int) := by simpa using h1
    refine ⟨C, T, ?_, ?_⟩
    · rw [h2, Int.toNat_natCast]
    · rw [h2, Int.toNat_natCast]
theorem sz_arr {h : Nat} (hh : h < 186) (hk : ¬ kd h < 20) : (kd h = 20 ∨ kd h = 21 ∨ kd h = 22 ∨ kd h = 23 ∨ kd h = 24) ∧ 0 ≤ szI h ∧ szI h ≤ 2000 := by
  have h1 := List.all_eq_true.mp sz_ok h (List.mem_range.mpr hh)
  unfold szB at h1
  rw [if_neg hk] at h1
  simp only [Bool.and_eq_true, Bool.or_eq_true, beq_iff_eq, decide_eq_true_eq] at h1
  omega
def refB : Bool := (List.range 186).all (fun h => (List.range (szI h).toNat).all (fun j => if (kd h < 20 ∧ fty (kd h) j = 2) ∨ kd h = 24 then decide ((h, j) ∈ refL) else true)) && refL.all (fun q => decide (q.1 < 186) && decide ((kd q.1 < 20 ∧ fty (kd q.1) q.2 = 2) ∨ kd q.1 = 24) && decide ((q.2 : Int) < szI q.1))
set_option maxRecDepth 100000 in
theorem ref_ok : refB = true := by decide +kernel
theorem ref_in {h j : Nat} (hh : h < 186) (hj : (j : Int) < szI h) (hr : rfC h j) : (h, j) ∈ refL := by
  have h1 := ref_ok
  unfold refB at h1
  simp only [Bool.and_eq_true] at h1
  have h2 := List.all_eq_true.mp (List.all_eq_true.mp h1.1 h (List.mem_range.mpr hh)) j (List.mem_range.mpr (by omega))
  unfold rfC at hr
  rw [if_pos hr] at h2
  exact of_decide_eq_true h2
theorem ref_is {q : Nat × Nat} (hq : q ∈ refL) : q.1 < 186 ∧ rfC q.1 q.2 := by
  have h1 := ref_ok
  unfold refB at h1
  simp only [Bool.and_eq_true] at h1
  have h2 := List.all_eq_true.mp h1.2 q hq
  simp only [Bool.and_eq_true, decide_eq_true_eq] at h2
  exact ⟨h2.1.1, h2.1.2⟩
end
section

/-! one step of the small machine is a walk of the machine's -/
def Fr (p : Program) (s : State) (m : MethodId) (args : Array Value) (meth : Method) (c : Code) (cc : ByteArray) (own nm : String) (mx : Nat) : Prop :=
  p.tables.exec = Jvm.exec ∧ c.code = cc ∧ c.maxLocals = mx ∧ s.vm.findClass own = some m.cls ∧ (∀ w ∈ wsB, w.before args s = true) ∧ (nm = "<init>" → meth.name = "<init>") ∧ (∀ w ∈ nestL, va_Nw w s) ∧ va_AO RX2 s
def Rl (D : va_G) (κ : Nat → ClassId) (A : Nat → Prop) (H0 : Heap) (ρ : Nat → Nat) (n : Nat) (w : Wd) (H : Heap) (locs : List Loc) : Prop :=
  va_P D vwCl (wsO κ ρ w n) H ∧ va_D A (wsO κ ρ w n) ∧ va_S A H0 H locs ∧ okW n w ∧ n ≤ 186 ∧ w 401 0 = (n : Int) ∧ (n = 186 → allSet w)
def cN (n0 : Nat) (w0 : Wd) (n : Nat) (w : Wd) : Nat := n - n0 + (w 401 1 - w0 401 1).toNat
def sN (n0 : Nat) (w0 : Wd) (n : Nat) (w : Wd) : Nat := SL n - SL n0 + 6 * (w 401 1 - w0 401 1).toNat
def Ex (pr : Pr) (n0 : Nat) (w0 : Wd) (ρ0 ρ : Nat → Nat) (n : Nat) (w : Wd) : Prop :=
  n0 ≤ n ∧ (∀ h, h < n0 → ρ h = ρ0 h) ∧ ρ 400 = ρ0 400 ∧ w 400 = w0 400 ∧ w 401 2 = w0 401 2 ∧ w0 401 1 ≤ w 401 1 ∧ (¬ pr.2.1 = 2 → w 401 1 = w0 401 1) ∧ (pr.2.1 = 0 → n = 186 ∧ n0 = 186) ∧ (0 < pr.2.1 → (n : Int) ≤ pr.2.2) ∧ (pr.2.1 = 2 → w 401 1 ≤ 512 ∧ w0 401 1 = 0)
def LocR (ρ : Nat → Nat) (ls : Array Slot) (mx : Nat) (l : List MV) : Prop := ∃ lv, lv_has ls mx lv ∧ ∀ i v, nthA none l i = some v → (i, toV ρ (some v)) ∈ lv
def retOK (rk : Nat) (v : MV) (ins : Instr) : Prop := (v = none ∧ ins = .return_ ∧ rk = 0) ∨ (∃ x, v = mI x ∧ ins = .ireturn ∧ (rk = 1 ∨ (rk = 2 ∧ (x = 0 ∨ x = 1)))) ∨ (∃ x, v = mL x ∧ ins = .lreturn ∧ rk = 3) ∨ (∃ h, v = mR h ∧ ins = .areturn ∧ rk = 4)
def retS (ρ : Nat → Nat) (v : MV) : List Value := match v with
  | none => []
  | some x => [toV ρ (some x)]
def PP (p : Program) (l : Launch) (e : Env) (R : Room) (s : State) (m : MethodId) (args : Array Value) (below : List Frame) (meth : Method) (c : Code) (Z : State → Prop) (D : va_G) (κ : Nat → ClassId) (A : Nat → Prop) (cd : List Ent) (pr : Pr) (mx n0 : Nat) (w0 : Wd) (ρ0 : Nat → Nat) : Pt4 := fun i l9 s9 w =>
  ∀ (ρ : Nat → Nat) (n : Nat) (H : Heap) (locs : List Loc) (ls : Array Slot), Rl D κ A s.heap ρ n w H locs → Ex pr n0 w0 ρ0 ρ n w → (∀ v ∈ l9, okV n v) → (∀ v ∈ s9, okV n v) → LocR ρ ls mx l9 →
    W p l e R s m args below meth c H locs (cN n0 w0 n w) (sN n0 w0 n w) Z (F0 m (pcOf cd i) ls (s9.map (toV ρ)))
theorem nthA_mem {α : Type} {d : α} : ∀ (l : List α) (i : Nat) (v : α), nthA d l i = v → ¬ v = d → v ∈ l
  | [], _, _, h, hn => absurd h.symm hn
  | a :: _, 0, _, h, _ => by rw [← h]; exact List.mem_cons_self
  | _ :: t, i + 1, v, h, hn => List.mem_cons_of_mem _ (nthA_mem t i v h hn)
theorem nthA_out {α : Type} {d : α} : ∀ (l : List α) (i : Nat), l.length ≤ i → nthA d l i = d
  | [], _, _ => rfl
  | _ :: t, 0, h => by simp at h
  | _ :: t, i + 1, h => nthA_out t i (by simpa using h)
theorem stA_at {v : MV} : ∀ (l : List MV) (i : Nat), ∀ j, nthA none (stA v l i) j = if j = i ∧ i < l.length then v else nthA none l j
  | [], i, j => by simp [stA, nthA]
  | a :: t, 0, 0 => by simp [stA, nthA]
  | a :: t, 0, j + 1 => by simp [stA, nthA]
  | a :: t, i + 1, 0 => by simp [stA, nthA]
  | a :: t, i + 1, j + 1 => by
    show nthA none (stA v t i) j = if j + 1 = i + 1 ∧ i + 1 < t.length + 1 then v else nthA none t j
    rw [stA_at t i j]
    by_cases q : j = i ∧ i < t.length
    · rw [if_pos q, if_pos (by omega)]
    · rw [if_neg q, if_neg (by omega)]
theorem stA_mem {v x : MV} : ∀ (l : List MV) (i : Nat), x ∈ stA v l i → x = v ∨ x ∈ l
  | [], _, h => Or.inr h
  | a :: t, 0, h => (List.mem_cons.mp h).elim Or.inl (fun q => Or.inr (List.mem_cons_of_mem _ q))
  | a :: t, i + 1, h => (List.mem_cons.mp h).elim (fun q => Or.inr (by rw [q]; exact List.mem_cons_self)) (fun q => (stA_mem t i q).elim Or.inl (fun q => Or.inr (List.mem_cons_of_mem _ q)))
theorem klA_mem {x : MV} {l : List MV} {i : Nat} (h : x ∈ klA l i) : x = none ∨ x ∈ l := by
  unfold klA at h
  split at h
  · exact Or.inr h
  · split at h
    · exact stA_mem _ _ h
    · exact Or.inr h
theorem stI_mem {v x : MV} {l : List MV} {i : Nat} (h : x ∈ stI l i v) : x = v ∨ x = none ∨ x ∈ l := (stA_mem _ _ h).elim Or.inl (fun q => Or.inr (klA_mem q))
theorem stL_mem {v x : MV} {l : List MV} {i : Nat} (h : x ∈ stL l i v) : x = v ∨ x = none ∨ x ∈ l := (stA_mem _ _ h).elim (fun q => Or.inr (Or.inl q)) (fun q => (stA_mem _ _ q).elim Or.inl (fun q => Or.inr (klA_mem q)))
/-- a place that a store leaves -/
theorem klA_at {l : List MV} {i j : Nat} {v : Int ⊕ (Int ⊕ Nat)} (h : nthA none (klA l i) j = some v) : nthA none l j = some v ∧ (j + 1 = i → ∀ x, ¬ v = .inr (.inl x)) := by
  unfold klA at h
  split at h
  · exact ⟨h, fun q => absurd q (by omega)⟩
  · rename_i k
    split at h
    · rw [stA_at] at h
      by_cases q : j = k ∧ k < l.length
      · rw [if_pos q] at h; cases h
      · rw [if_neg q] at h
        refine ⟨h, fun e => ?_⟩
        have hj : j = k := by omega
        by_cases hk : k < l.length
        · exact absurd ⟨hj, hk⟩ q
        · rw [nthA_out l j (by omega)] at h; cases h
    · rename_i hx
      refine ⟨h, fun e x hv => ?_⟩
      have hj : j = k := by omega
      subst hj
      exact hx x (by rw [h, hv])
theorem LocR.stI {ρ : Nat → Nat} {ls : Array Slot} {mx : Nat} {l : List MV} {i : Nat} {v : Int ⊕ (Int ⊕ Nat)} (h : LocR ρ ls mx l) {Pq : Array Slot → Prop} (hc : ∀ x, ¬ v = .inr (.inl x))
    (k : ∀ lv, lv_has ls mx lv → (∀ j v, nthA none l j = some v → (j, toV ρ (some v)) ∈ lv) → ∀ lv', (i, toV ρ (some v)) :: lv.filter (fun q => !(q.1 == i) && !(q.1 + 1 == i && q.2.category == 2)) = lv' → (∀ ls', lv_has ls' mx lv' → LocR ρ ls' mx (stI l i (some v))) → Pq ls) : Pq ls := by
  obtain ⟨lv, h1, h2⟩ := h
  refine k lv h1 h2 _ rfl fun ls' h3 => ⟨_, h3, fun j x hx => ?_⟩
  unfold _root_.Jvm.Pilot.@@N@@.stI at hx
  rw [stA_at] at hx
  by_cases q : j = i ∧ i < (klA l i).length
  · rw [if_pos q] at hx
    cases hx
    rw [q.1]
    exact List.mem_cons_self
  · rw [if_neg q] at hx
    obtain ⟨g1, g2⟩ := klA_at hx
    refine List.mem_cons_of_mem _ (List.mem_filter.mpr ⟨h2 j x g1, ?_⟩)
    have hji : ¬ j = i := fun e => by
      by_cases hl : i < (klA l i).length
      · exact q ⟨e, hl⟩
      · rw [nthA_out _ j (by omega)] at hx; cases hx
    simp only [Bool.and_eq_true, Bool.not_eq_true', beq_eq_false_iff_ne, ne_eq, Bool.and_eq_false_iff]
    refine ⟨hji, ?_⟩
    by_cases e : j + 1 = i
    · refine Or.inr ?_
      match x, g2 e with
      | .inl y, _ => simp [toV, Value.category]
      | .inr (.inr y), _ => simp [toV, Value.category]
      | .inr (.inl y), g => exact absurd rfl (g y)
    · exact Or.inl e
theorem LocR.stL {ρ : Nat → Nat} {ls : Array Slot} {mx : Nat} {l : List MV} {i : Nat} {y : Int} (h : LocR ρ ls mx l) {Pq : Array Slot → Prop}
    (k : ∀ lv, lv_has ls mx lv → ∀ lv', (i, Value.long (Int64.ofInt y)) :: lv.filter (fun q => !(q.1 == i) && (!(q.1 == i + 1) && !(q.1 + 1 == i && q.2.category == 2))) = lv' → (∀ ls', lv_has ls' mx lv' → LocR ρ ls' mx (stL l i (mL y))) → Pq ls) : Pq ls := by
  obtain ⟨lv, h1, h2⟩ := h
  refine k lv h1 _ rfl fun ls' h3 => ⟨_, h3, fun j x hx => ?_⟩
  unfold _root_.Jvm.Pilot.@@N@@.stL at hx
  rw [stA_at] at hx
  by_cases q0 : j = i + 1 ∧ i + 1 < (stA (mL y) (klA l i) i).length
  · rw [if_pos q0] at hx; cases hx
  · rw [if_neg q0, stA_at] at hx
    have hlen : ∀ (v : MV) (l : List MV) (i : Nat), (stA v l i).length = l.length := by
      intro v l
      induction l with
      | nil => intro i; rfl
      | cons a t ih => intro i; cases i with
        | zero => rfl
        | succ i => simp [stA, ih]
    by_cases q : j = i ∧ i < (klA l i).length
    · rw [if_pos q] at hx
      cases hx
      rw [q.1]
      exact List.mem_cons_self
    · rw [if_neg q] at hx
      obtain ⟨g1, g2⟩ := klA_at hx
      refine List.mem_cons_of_mem _ (List.mem_filter.mpr ⟨h2 j x g1, ?_⟩)
      have hj : j < (klA l i).length := by
        by_cases hl : j < (klA l i).length
        · exact hl
        · rw [nthA_out _ j (by omega)] at hx; cases hx
      have hji : ¬ j = i := fun e => q ⟨e, by omega⟩
      have hji2 : ¬ j = i + 1 := fun e => q0 ⟨e, by rw [hlen]; omega⟩
      simp only [Bool.and_eq_true, Bool.not_eq_true', beq_eq_false_iff_ne, ne_eq, Bool.and_eq_false_iff]
      refine ⟨hji, hji2, ?_⟩
      by_cases e : j + 1 = i
      · refine Or.inr ?_
        match x, g2 e with
        | .inl y, _ => simp [toV, Value.category]
        | .inr (.inr y), _ => simp [toV, Value.category]
        | .inr (.inl y), g => exact absurd rfl (g y)
      · exact Or.inl e
theorem LocR.at {ρ : Nat → Nat} {ls : Array Slot} {mx : Nat} {l : List MV} {i : Nat} {v : Int ⊕ (Int ⊕ Nat)} (h : LocR ρ ls mx l) (hv : nthA none l i = some v) : ls[i]? = some (.val (toV ρ (some v))) := by
  obtain ⟨lv, h1, h2⟩ := h
  exact h1.2.2 _ (h2 i v hv)
theorem LocR.size {ρ : Nat → Nat} {ls : Array Slot} {mx : Nat} {l : List MV} (h : LocR ρ ls mx l) : ls.size = mx := by
  obtain ⟨lv, h1, -⟩ := h
  exact h1.1
theorem catS_eq (ρ : Nat → Nat) : ∀ (s : List MV), ((s.map (toV ρ)).map fun v => v.category).sum = catS s
  | [] => rfl
  | v :: t => by
    show (toV ρ v).category + _ = catV v + catS t
    rw [← catS_eq ρ t]
    congr 1
    match v with
    | none => rfl
    | some (.inl _) => rfl
    | some (.inr (.inl _)) => rfl
    | some (.inr (.inr _)) => rfl
theorem okV.mono {n n' : Nat} {v : MV} (h : okV n v) (hn : n ≤ n') : okV n' v := by
  match v, h with
  | none, _ => exact trivial
  | some (.inl _), h => exact h
  | some (.inr (.inl _)), h => exact h
  | some (.inr (.inr _)), h => exact h.elim (fun q => Or.inl (Nat.lt_of_lt_of_le q hn)) Or.inr
theorem okW.lt {n h : Nat} {w : Wd} (ho : okW n w) (hh : h < n) (j : Nat) (hk : ¬ tyC h j = 1) : in32 (w h j) := by
  have h1 := (ho h j hh).1
  rwa [if_neg hk] at h1
theorem okW.lg {n h : Nat} {w : Wd} (ho : okW n w) (hh : h < n) (j : Nat) (hk : tyC h j = 1) : in64 (w h j) := by
  have h1 := (ho h j hh).1
  rwa [if_pos hk] at h1
theorem okW.set {n h : Nat} {w : Wd} (ho : okW n w) (hh : h < n) {f : Nat → Int} (hf : ∀ j, (if tyC h j = 1 then in64 (f j) else in32 (f j)) ∧ (rfC h j → ¬ f j = 0 → gr h j < n)) : okW n (ubf w h f) := by
  intro h' j hh'
  by_cases q : h' = h
  · subst q; rw [ubf_self]; exact hf j
  · rw [ubf_ne _ q]; exact ho h' j hh'
theorem okW.up {n h j : Nat} {w : Wd} {x : Int} (ho : okW n w) (hh : h < n) (hx : if tyC h j = 1 then in64 x else in32 x) (hr : rfC h j → ¬ x = 0 → gr h j < n) : okW n (ub w h j x) := by
  refine ho.set hh fun k => ?_
  by_cases q : k = j
  · subst q; rw [up1_self]; exact ⟨hx, hr⟩
  · rw [up1_ne _ q]; exact ho h k hh
theorem map_set {ρ : Nat → Nat} {h N j : Nat} {f : Nat → Int} (x : Int) (hj : j < N) : ((List.range N).map (fvl ρ h f)).set j (fvl ρ h (up1 f j x) j) = (List.range N).map (fvl ρ h (up1 f j x)) := by
  apply List.ext_getElem?
  intro k
  by_cases q : k = j
  · subst q
    rw [List.getElem?_set_self (by simpa using hj), List.getElem?_map, List.getElem?_range hj]
    rfl
  · rw [List.getElem?_set_ne (Ne.symm q), List.getElem?_map, List.getElem?_map]
    by_cases hk : k < N
    · rw [List.getElem?_range hk]
      show some _ = some _
      unfold fvl
      rw [up1_ne _ q]
    · rw [List.getElem?_eq_none (by simpa using hk)]; rfl
theorem upd_i (f : Nat → Int) (j : Nat) (x : Int) : upd (fun k => Int32.ofInt (f k)) j (Int32.ofInt x) = fun k => Int32.ofInt (up1 f j x k) := by
  funext k
  unfold upd up1
  by_cases q : k = j
  · rw [if_pos q, if_pos q]
  · rw [if_neg q, if_neg q]
theorem updL_i (f : Nat → Int) (j : Nat) (x : Int) : vp_updL (fun k => Int64.ofInt (f k)) j (Int64.ofInt x) = fun k => Int64.ofInt (up1 f j x k) := by
  funext k
  unfold vp_updL up1
  by_cases q : k = j
  · rw [if_pos q, if_pos q]
  · rw [if_neg q, if_neg q]
theorem allSet.up {w : Wd} {h : Nat} {f : Nat → Int} (ha : allSet w) (hf : ∀ q ∈ refL, q.1 = h → ¬ f q.2 = 0) : allSet (ubf w h f) := by
  intro q hq
  by_cases e : q.1 = h
  · rw [e, ubf_self]; exact hf q hq e
  · rw [ubf_ne _ e]; exact ha q hq
theorem celE_obj {κ : Nat → ClassId} {ρ : Nat → Nat} {h : Nat} {f : Nat → Int} (hk : kd h < 20) : celE κ ρ h f = .inr (kd h, (List.range (szI h).toNat).map (fvl ρ h f)) := by unfold celE; rw [if_pos hk]
theorem celE_int {κ : Nat → ClassId} {ρ : Nat → Nat} {h : Nat} {f : Nat → Int} (hk : kd h = 20 ∨ kd h = 22 ∨ kd h = 23) : celE κ ρ h f = .inl (κ (kd h), ((szI h).toNat, .inl (fun j => Int32.ofInt (f j)))) := by
  unfold celE; rw [if_neg (by omega), if_neg (by omega), if_neg (by omega)]
theorem celE_long {κ : Nat → ClassId} {ρ : Nat → Nat} {h : Nat} {f : Nat → Int} (hk : kd h = 21) : celE κ ρ h f = .inl (κ 21, ((szI h).toNat, .inr (.inl (fun j => Int64.ofInt (f j))))) := by
  unfold celE; rw [if_neg (by omega), if_pos hk]
theorem celE_ref {κ : Nat → ClassId} {ρ : Nat → Nat} {h : Nat} {f : Nat → Int} (hk : kd h = 24) : celE κ ρ h f = .inl (κ 24, ((szI h).toNat, .inr (.inr (.inr (.inr (fun j => if f j = 0 then none else some (ρ (gr h j)))))))) := by
  unfold celE; rw [if_neg (by omega), if_neg (by omega), if_pos hk]
theorem kd_lt {h n : Nat} (hh : h < n ∨ h = 400) (hk : ¬ kd h = 30) : h < n := hh.elim id (fun q => absurd (by rw [q]; rfl) hk)
theorem in32_szI {h : Nat} (hh : h < 186) : in32 (szI h) ∧ 0 ≤ szI h ∧ szI h ≤ 2000 := by
  by_cases hk : kd h < 20
  · obtain ⟨C, T, h1, h2⟩ := sz_cl hh hk
    have h3 : (szI h).toNat ≤ 80 := by
      have h4 : ∀ k < 13, ∀ q, vwCl[k]? = some q → q.2.2 ≤ 80 := by
        intro k hk2 q hq
        have : ∀ q ∈ vwCl, q.2.2 ≤ 80 := by decide +kernel
        exact this q (List.mem_of_getElem? hq)
      exact h4 _ (cl_lt h1) _ h1
    unfold in32; omega
  · have := sz_arr hh hk
    unfold in32; omega

theorem sw_in {cd : List Ent} {pc d : Nat} {K : Nat → Prop} {x : Int} : ∀ (ts : List Nat) (os : List Int) (lo : Int), swB cd pc os ts = true → swP lo ts x d K → os.length = ts.length ∧ ((x < lo ∨ lo + (ts.length : Int) ≤ x) → K d) ∧ (∀ k : Nat, x - lo = (k : Int) → k < ts.length → ∃ (t : Nat) (off : Int), os[k]? = some off ∧ (pc : Int) + off = (pcOf cd t : Int) ∧ K t)
  | [], [], lo, _, h => ⟨rfl, fun _ => h, fun k _ hk => absurd hk (by simp)⟩
  | [], _ :: _, _, h, _ => by simp [swB] at h
  | _ :: _, [], _, h, _ => by simp [swB] at h
  | t :: ts, off :: os, lo, hb, h => by
    simp only [swB, Bool.and_eq_true, decide_eq_true_eq] at hb
    by_cases q : x = lo
    · refine ⟨?_, fun hx => ?_, fun k hk hl => ?_⟩
      · have hlen : ∀ (os : List Int) (ts : List Nat), swB cd pc os ts = true → os.length = ts.length := by
          intro os
          induction os with
          | nil => intro ts h; cases ts with
            | nil => rfl
            | cons a t => simp [swB] at h
          | cons o os ih => intro ts h; cases ts with
            | nil => simp [swB] at h
            | cons a t =>
              simp only [swB, Bool.and_eq_true] at h
              simp [ih t h.2]
        simp [hlen os ts hb.2]
      · simp only [List.length_cons] at hx
        omega
      · have hk0 : k = 0 := by omega
        subst hk0
        exact ⟨t, off, rfl, hb.1, h.1 q⟩
    · obtain ⟨g1, g2, g3⟩ := sw_in ts os (lo + 1) hb.2 (h.2 q)
      refine ⟨by simp [g1], fun hx => g2 ?_, fun k hk hl => ?_⟩
      · simp only [List.length_cons] at hx
        omega
      · cases k with
        | zero => exact absurd (by omega) q
        | succ k =>
          obtain ⟨t', off', q1, q2, q3⟩ := g3 k (by omega) (by simpa using hl)
          exact ⟨t', off', by rw [List.getElem?_cons_succ]; exact q1, q2, q3⟩
theorem fldW_ok {own : String} {idx ci j q : Nat} (h : fldW own idx ci j q = true) : ∃ (C : String) (T : u_T) (N : Nat), vwCl[ci]? = some (C, T, N) ∧ j < N ∧ (Jvm.Cond.fieldLink own idx (T j).1 (T j).2.1 (T j).2.2.1) ∈ wsB := by
  unfold fldW at h
  split at h
  · rename_i C T N hC
    simp only [Bool.and_eq_true, decide_eq_true_eq] at h
    exact ⟨C, T, N, hC, h.1, hasW_in h.2 rfl⟩
  · cases h
theorem kd_30 {h : Nat} (hk : kd h = 30) : h = 400 := by
  by_cases q : h = 400
  · exact q
  · unfold kd at hk
    rw [if_neg q] at hk
    have h1 : ∀ x ∈ kdL, ¬ x = 30 := by decide +kernel
    by_cases hl : h < kdL.length
    · have h2 := nthA_mem (d := 99) kdL h 30 hk (by decide)
      exact absurd rfl (h1 30 h2)
    · rw [nthA_out _ _ (by omega)] at hk
      exact absurd hk (by decide)
theorem kd_400 : kd 400 = 30 := rfl
theorem kd_big {h : Nat} (hh : 186 ≤ h) (hq : ¬ h = 400) : kd h = 99 := by
  unfold kd
  rw [if_neg hq]
  exact nthA_out _ _ (by have : kdL.length = 186 := by decide +kernel
                         omega)
theorem ubf_hi {w : Wd} {h g : Nat} (f : Nat → Int) (hh : h < 186) (hg : 400 ≤ g) : ubf w h f g = w g := ubf_ne _ (by omega)
theorem Ex.ubf {pr : Pr} {n0 : Nat} {w0 : Wd} {ρ0 ρ : Nat → Nat} {n h : Nat} {w : Wd} (hE : Ex pr n0 w0 ρ0 ρ n w) (f : Nat → Int) (hh : h < 186) : Ex pr n0 w0 ρ0 ρ n (ubf w h f) := by
  unfold Ex at *
  rw [ubf_hi f hh (Nat.le_refl 400), ubf_hi f hh (show 400 ≤ 401 by decide)]
  exact hE
theorem cN_ubf {n0 n h : Nat} {w0 w : Wd} (f : Nat → Int) (hh : h < 186) : cN n0 w0 n (ubf w h f) = cN n0 w0 n w := by
  unfold cN; rw [ubf_hi f hh (show 400 ≤ 401 by decide)]
theorem sN_ubf {n0 n h : Nat} {w0 w : Wd} (f : Nat → Int) (hh : h < 186) : sN n0 w0 n (ubf w h f) = sN n0 w0 n w := by
  unfold sN; rw [ubf_hi f hh (show 400 ≤ 401 by decide)]
theorem toV_agree {ρ ρ' : Nat → Nat} {n : Nat} {v : MV} (h : okV n v) (ha : ∀ g, g < n → ρ' g = ρ g) (h4 : ρ' 400 = ρ 400) : toV ρ' v = toV ρ v := by
  match v, h with
  | none, _ => rfl
  | some (.inl _), _ => rfl
  | some (.inr (.inl _)), _ => rfl
  | some (.inr (.inr g)), h =>
    show Value.ref (ρ' g) = Value.ref (ρ g)
    rcases h with q | q
    · rw [ha g q]
    · rw [q, h4]
theorem map_agree {ρ ρ' : Nat → Nat} {n : Nat} {s : List MV} (h : ∀ v ∈ s, okV n v) (ha : ∀ g, g < n → ρ' g = ρ g) (h4 : ρ' 400 = ρ 400) : s.map (toV ρ') = s.map (toV ρ) :=
  List.map_congr_left fun v hv => toV_agree (h v hv) ha h4
theorem LocR.agree {ρ ρ' : Nat → Nat} {n mx : Nat} {ls : Array Slot} {l : List MV} (hL : LocR ρ ls mx l) (h : ∀ v ∈ l, okV n v) (ha : ∀ g, g < n → ρ' g = ρ g) (h4 : ρ' 400 = ρ 400) : LocR ρ' ls mx l := by
  obtain ⟨lv, h1, h2⟩ := hL
  refine ⟨lv, h1, fun i v hv => ?_⟩
  rw [toV_agree (h _ (nthA_mem _ _ _ hv (fun q => by cases q))) ha h4]
  exact h2 i v hv
/-- behind a store -/
theorem PP.store {p : Program} {l : Launch} {e : Env} {R : Room} {s : State} {m : MethodId} {args : Array Value} {below : List Frame} {meth : Method} {c : Code} {Z : State → Prop} {D : va_G} {κ : Nat → ClassId} {A : Nat → Prop} {cd : List Ent} {pr : Pr} {mx n0 : Nat} {w0 : Wd} {ρ0 ρ : Nat → Nat} {i n h : Nat} {l9 s9 : List MV} {w : Wd} {f : Nat → Int} {H1 : Heap} {locs1 : List Loc} {ls : Array Slot}
    (hF : PP p l e R s m args below meth c Z D κ A cd pr mx n0 w0 ρ0 i l9 s9 (ubf w h f)) (hh : h < n) (hn : n ≤ 186) (hE : Ex pr n0 w0 ρ0 ρ n w) (hn0 : w 401 0 = (n : Int)) (hall : n = 186 → allSet (ubf w h f)) (hok : okW n (ubf w h f))
    (hP : va_P D vwCl (wsO κ ρ (ubf w h f) n) H1) (hD : va_D A (wsO κ ρ (ubf w h f) n)) (hS : va_S A s.heap H1 locs1) (hl : ∀ v ∈ l9, okV n v) (hs : ∀ v ∈ s9, okV n v) (hL : LocR ρ ls mx l9) :
    W p l e R s m args below meth c H1 locs1 (cN n0 w0 n w) (sN n0 w0 n w) Z (F0 m (pcOf cd i) ls (s9.map (toV ρ))) := by
  have h186 : h < 186 := Nat.lt_of_lt_of_le hh hn
  rw [← cN_ubf f h186, ← sN_ubf f h186]
  exact hF ρ n H1 locs1 ls ⟨hP, hD, hS, hok, hn, by rw [ubf_hi f h186 (show 400 ≤ 401 by decide)]; exact hn0, hall⟩ (hE.ubf f h186) hl hs hL
/-- a store of a number leaves the references set -/
theorem allSet.num {w : Wd} {h j : Nat} {x : Int} (ha : allSet w) (hr : ¬ rfC h j) : allSet (ub w h j x) := by
  rw [ub_ubf]
  refine allSet.up ha fun q hq e => ?_
  subst e
  by_cases q2 : q.2 = j
  · subst q2; exact absurd (ref_is hq).2 hr
  · rw [up1_ne _ q2]; exact ha q hq
theorem allSet.rf {w : Wd} {h j : Nat} (ha : allSet w) : allSet (ub w h j 1) := by
  rw [ub_ubf]
  refine allSet.up ha fun q hq e => ?_
  subst e
  by_cases q2 : q.2 = j
  · subst q2; rw [up1_self]; decide
  · rw [up1_ne _ q2]; exact ha q hq
end
section
set_option maxHeartbeats 4000000 in
theorem put_go {p : Program} {l : Launch} {e : Env} {R : Room} {s : State} {m : MethodId} {args : Array Value} {below : List Frame} {meth : Method} {c : Code} {Z : State → Prop} {D : va_G} {κ : Nat → ClassId} {A : Nat → Prop} {cc : ByteArray} {own nm : String} {cd : List Ent} {pr : Pr} {mx n0 : Nat} {w0 : Wd} {ρ0 ρ : Nat → Nat} {n h j ci i pc idx : Nat} {x : Int} {v : Value} {w : Wd} {H : Heap} {locs : List Loc} {ls : Array Slot} {l9 s9 : List MV} {C : String} {T : u_T} {N : Nat}
    (hFr : Fr p s m args meth c cc own nm mx) (hK : va_K D vwCl (tysO κ) s) (hR : Rl D κ A s.heap ρ n w H locs) (hE : Ex pr n0 w0 ρ0 ρ n w) (hh : h < n) (hk : kd h = ci) (hC : vwCl[ci]? = some (C, T, N)) (hj : j < N)
    (hlink : (Jvm.Cond.fieldLink own idx (T j).1 (T j).2.1 (T j).2.2.1) ∈ wsB) (hfin : fldF own nm ci j = true) (hval : fvl ρ h (up1 (w h) j x) j = v) (hnar : narrow (tyOf T j) v = v) (hfit : fits (tyOf T j) v = true)
    (hok : okW n (ub w h j x)) (hall : n = 186 → allSet (ub w h j x)) (hdec : decode cc pc = .ok (.putfield idx, 3)) (hpc : pcOf cd i = pc + 3)
    (hF : PP p l e R s m args below meth c Z D κ A cd pr mx n0 w0 ρ0 i l9 s9 (ub w h j x)) (hl : ∀ v ∈ l9, okV n v) (hs : ∀ v ∈ s9, okV n v) (hL : LocR ρ ls mx l9) :
    W p l e R s m args below meth c H locs (cN n0 w0 n w) (sN n0 w0 n w) Z (F0 m pc ls (v :: .ref (ρ h) :: s9.map (toV ρ))) := by
  obtain ⟨hx, hb, hml, hown, hts, hin, hnest, hAO⟩ := id hFr
  obtain ⟨hP, hD, hS, hok0, hn, hn0, hall0⟩ := id hR
  have hci : ci < 13 := cl_lt hC
  have h186 : h < 186 := by omega
  obtain ⟨C', T', hC', hsz⟩ := sz_cl h186 (by omega)
  rw [hk, hC] at hC'
  cases hC'
  have he : (wsO κ ρ w n)[h]? = some (ρ h, .inr (ci, (List.range (szI h).toNat).map (fvl ρ h (w h)))) := by rw [wsO_at hh, celE_obj (by omega), hk]
  have hset : (wsO κ ρ w n).set h (ρ h, .inr (ci, ((List.range (szI h).toNat).map (fvl ρ h (w h))).set j v)) = wsO κ ρ (ub w h j x) n := by
    rw [← hval, map_set x hj, ub_ubf, ← wsO_set hh, celE_obj (by omega), hk]
  have hty := fun k (hk9 : k < (szI h).toNat) => (cl_ty hC hk9).1
  have hkk : ∀ (H1 : Heap) (locs1 : List Loc), va_P D vwCl ((wsO κ ρ w n).set h (ρ h, .inr (ci, ((List.range (szI h).toNat).map (fvl ρ h (w h))).set j v))) H1 → va_D A ((wsO κ ρ w n).set h (ρ h, .inr (ci, ((List.range (szI h).toNat).map (fvl ρ h (w h))).set j v))) → va_S A s.heap H1 locs1 → W p l e R s m args below meth c H1 locs1 (cN n0 w0 n w) (sN n0 w0 n w) Z (F0 m (pc + 3) ls (s9.map (toV ρ))) := by
    intro H1 locs1 hP1 hD1 hS1
    rw [hset] at hP1 hD1
    rw [← hpc]
    exact PP.store (f := up1 (w h) j x) hF hh hn hE hn0 hall hok hP1 hD1 hS1 hl hs hL
  unfold fldF at hfin
  rw [hC] at hfin
  dsimp only at hfin
  by_cases hf : (T j).2.2.2 = true
  · rw [if_pos hf] at hfin
    simp only [Bool.and_eq_true, decide_eq_true_eq] at hfin
    exact va_putF hx hb hts (lay_in hC) (tyOf T) hty (cl_names hC) hown hK hP hD hS h he hC j hj (hts _ hlink) (fun _ h9 => h9) hf (hin hfin.2) hfin.1 (hty j hj) hnar hfit (by simpa using hj) hdec hkk
  · exact va_put hx hb hts (lay_in hC) (tyOf T) hty (cl_names hC) hown hK hP hD hS h he hC j hj (hts _ hlink) (fun _ h9 => h9) (by simpa using hf) (hty j hj) hnar hfit (by simpa using hj) hdec hkk
theorem fvl_num {ρ : Nat → Nat} {h j : Nat} {f : Nat → Int} {x : Int} (h2 : ¬ fty (kd h) j = 2) (h1 : ¬ fty (kd h) j = 1) : fvl ρ h (up1 f j x) j = .int (Int32.ofInt x) := by
  unfold fvl; rw [if_neg h2, if_neg h1, up1_self]
theorem fvl_lng {ρ : Nat → Nat} {h j : Nat} {f : Nat → Int} {x : Int} (h1 : fty (kd h) j = 1) : fvl ρ h (up1 f j x) j = .long (Int64.ofInt x) := by
  unfold fvl; rw [if_neg (by omega), if_pos h1, up1_self]
theorem fvl_ref {ρ : Nat → Nat} {h j : Nat} {f : Nat → Int} (h1 : fty (kd h) j = 2) : fvl ρ h (up1 f j 1) j = .ref (ρ (gr h j)) := by
  unfold fvl; rw [if_pos h1, up1_self, if_neg (by decide)]
theorem alen_lt {w : Wd} {h : Nat} (hh : h < 186) : alen w h = szI h := by unfold alen; rw [if_neg (by omega)]
/-- a cell more -/
theorem mkNew_hi {w : Wd} {g : Nat} (h0 : ¬ g = (w 401 0).toNat) (h1 : ¬ g = 401) : mkNew w g = w g := by
  unfold mkNew
  rw [ub_ne _ _ h1]
  unfold zr
  rw [if_neg h0]
theorem mkNew_at {w : Wd} {n : Nat} (hn : w 401 0 = (n : Int)) (hl : n < 401) : mkNew w n = fun _ => 0 := by
  unfold mkNew
  rw [ub_ne _ _ (by omega)]
  unfold zr
  rw [if_pos (by rw [hn]; rfl)]
theorem mkNew_c {w : Wd} {n : Nat} (hn : w 401 0 = (n : Int)) (hl : n < 401) (j : Nat) : mkNew w 401 j = if j = 0 then (n : Int) + 1 else w 401 j := by
  unfold mkNew
  rw [ub_self]
  unfold up1 zr
  rw [hn]
  have h1 : ¬ (401 : Nat) = (n : Int).toNat := by simp; omega
  rw [if_neg h1]
theorem celE_zero {κ : Nat → ClassId} {ρ ρ' : Nat → Nat} {h : Nat} : celE κ ρ h (fun _ => 0) = celE κ ρ' h (fun _ => 0) := by
  have := celE_agree (κ := κ) (ρ := ρ') (ρ' := ρ) (h := h) (n := 0) (f := fun _ => 0) (fun g hg => absurd hg (Nat.not_lt_zero _)) (fun j _ q => absurd rfl q)
  exact this
theorem wsO_push {κ : Nat → ClassId} {ρ : Nat → Nat} {w : Wd} {n q : Nat} (hn : w 401 0 = (n : Int)) (hl : n < 186) (ho : okW n w) :
    wsO κ (fun h => if h = n then q else ρ h) (mkNew w) (n + 1) = wsO κ ρ w n ++ [(q, celE κ ρ n (fun _ => 0))] := by
  apply List.ext_getElem?
  intro k
  by_cases hk : k < n
  · rw [List.getElem?_append_left (by simpa [wsO] using hk), wsO_at (by omega), wsO_at hk]
    rw [if_neg (by omega), mkNew_hi (by rw [hn]; simp; omega) (by omega)]
    rw [celE_agree (ρ := ρ) (n := n) (fun g hg => if_neg (by omega)) (fun j q1 q2 => (ho k j hk).2 q1 q2)]
  · by_cases hk2 : k = n
    · subst hk2
      rw [List.getElem?_append_right (by simp [wsO]), wsO_at (by omega), if_pos rfl, mkNew_at hn (by omega)]
      simp [wsO]
      exact celE_zero
    · rw [List.getElem?_eq_none (by simp [wsO]; omega), List.getElem?_eq_none (by simp [wsO]; omega)]
theorem Ex.new {pr : Pr} {n0 : Nat} {w0 : Wd} {ρ0 ρ : Nat → Nat} {n q : Nat} {w : Wd} (hE : Ex pr n0 w0 ρ0 ρ n w) (hn : w 401 0 = (n : Int)) (hl : n < 186) (h1 : 0 < pr.2.1) (h2 : w 401 0 < pr.2.2) : Ex pr n0 w0 ρ0 (fun h => if h = n then q else ρ h) (n + 1) (mkNew w) := by
  obtain ⟨e1, e2, e3, e4, e5, e6, e7, e8, e9, e10⟩ := hE
  have c1 : mkNew w 401 1 = w 401 1 := by rw [mkNew_c hn (by omega), if_neg (by decide)]
  have c2 : mkNew w 401 2 = w 401 2 := by rw [mkNew_c hn (by omega), if_neg (by decide)]
  have c3 : mkNew w 400 = w 400 := mkNew_hi (by rw [hn]; simp; omega) (by decide)
  refine ⟨by omega, fun h hh => ?_, ?_, by rw [c3]; exact e4, by rw [c2]; exact e5, by rw [c1]; exact e6, fun q => by rw [c1]; exact e7 q, fun q => by omega, fun q => ?_, fun q => by rw [c1]; exact e10 q⟩
  · show (if h = n then q else ρ h) = _
    rw [if_neg (by omega)]; exact e2 h hh
  · show (if 400 = n then q else ρ 400) = _
    rw [if_neg (by omega)]; exact e3
  · rw [hn] at h2; push_cast; omega
theorem cN_new {n0 n : Nat} {w0 w : Wd} (hn : w 401 0 = (n : Int)) (hl : n < 186) (h0 : n0 ≤ n) : cN n0 w0 (n + 1) (mkNew w) = cN n0 w0 n w + 1 := by
  unfold cN; rw [mkNew_c hn (by omega), if_neg (by decide)]; omega
theorem sN_new {n0 n : Nat} {w0 w : Wd} (hn : w 401 0 = (n : Int)) (hl : n < 186) (h0 : n0 ≤ n) : sN n0 w0 (n + 1) (mkNew w) = sN n0 w0 n w + (szI n).toNat := by
  unfold sN; rw [mkNew_c hn (by omega), if_neg (by decide)]
  have := SL_mono n0 n h0
  show SL n + (szI n).toNat - SL n0 + _ = _
  omega
theorem okW.new {n : Nat} {w : Wd} (ho : okW n w) (hn : w 401 0 = (n : Int)) (hl : n < 186) : okW (n + 1) (mkNew w) := by
  intro h j hh
  by_cases q : h = n
  · subst q
    rw [mkNew_at hn (by omega)]
    refine ⟨?_, fun _ q => absurd rfl q⟩
    have := in32_0
    have := in32_64 in32_0
    split <;> assumption
  · rw [mkNew_hi (by rw [hn]; simp; omega) (by omega)]
    have h1 := ho h j (by omega)
    exact ⟨h1.1, fun q1 q2 => Nat.lt_succ_of_lt (h1.2 q1 q2)⟩
theorem allSet.new {w : Wd} {n : Nat} (ha : allSet w) (hn : w 401 0 = (n : Int)) (hk : ∀ j, ¬ rfC n j) : allSet (mkNew w) := by
  intro q hq
  have h1 := ref_is hq
  have hne : ¬ q.1 = n := fun e => hk q.2 (by rw [← e]; exact h1.2)
  rw [mkNew_hi (by rw [hn]; exact hne) (by omega)]
  exact ha q hq
theorem kd_185 : kd 185 = 21 := rfl

/-! calls -/
def AAf (ρ : Nat → Nat) (n sz : Nat) : Nat → Prop := fun q => (∃ h, h < n ∧ q = ρ h) ∨ sz ≤ q
def retO (ρ : Nat → Nat) (v : MV) : Option Value := match v with
  | none => none
  | some x => some (toV ρ (some x))
/-- what lies below the address b stays: facts of the start that a method may ask for -/
def EvOK (EV : State → Prop) (b : Nat) : Prop := ∀ s U : State, EV s → (∀ q : Nat, q < b → U.heap[q]? = s.heap[q]?) → s.WarmedH U.vm → EV U
def PreU (EV : State → Prop) (b : Nat) (D : va_G) (κ : Nat → ClassId) (ρ : Nat → Nat) (n : Nat) (w : Wd) (sz : Nat) : State → Prop := fun U =>
  (EV U ∧ b ≤ sz ∧ ∀ h, h < n → b ≤ ρ h) ∧ U.heap.size = sz ∧ va_P D vwCl (wsO κ ρ w n) U.heap ∧ va_K D vwCl (tysO κ) U ∧ va_D (fun _ => True) (wsO κ ρ w n) ∧ (∀ x ∈ nestL, va_Nw x U) ∧ va_AO RX2 U
def QcU (D : va_G) (κ : Nat → ClassId) (ρ : Nat → Nat) (n : Nat) (w : Wd) (sz rk k : Nat) (Qc : MV → Wd → Prop) : Array Value → State → Outcome → State → Prop := fun _ st o t =>
  (∃ (v : MV) (ρ' : Nat → Nat) (w' : Wd), o = .returned (retO ρ' v) ∧ Qc v w' ∧ okV (n + k) v ∧ (rk = 0 ↔ v = none) ∧ (∀ g, g < n → ρ' g = ρ g) ∧ ρ' 400 = ρ 400 ∧ va_P D vwCl (wsO κ ρ' w' (n + k)) t.heap ∧ va_K D vwCl (tysO κ) t ∧ va_D (AAf ρ n sz) (wsO κ ρ' w' (n + k)) ∧ okW (n + k) w' ∧ w' 401 0 = ((n + k : Nat) : Int) ∧ (n + k = 186 → allSet w') ∧ w' 400 = w 400 ∧ w' 401 1 = w 401 1 ∧ w' 401 2 = w 401 2) ∧ va_F (AAf ρ n sz) st t
def wsM (j : Nat) : List Jvm.Cond := Jvm.Cond.code (yM j) (bM j) (mxM j) (rtM j) :: wsB
def CallH (l : Launch) (EV : State → Prop) (b : Nat) (D : va_G) (κ : Nat → ClassId) (R : Room) (cw : CWt) : Prop := ∀ (j : Nat) (argv : List MV) (w : Wd) (Qc : MV → Wd → Prop), j < 279 → cw j argv w Qc → ∀ (ρ : Nat → Nat) (n sz : Nat), okW n w → n + nAl j ≤ 186 → w 401 0 = (n : Int) → (n = 186 → allSet w) → (phM j = 0 → n = 186) → (∀ v ∈ argv, okV n v) → b ≤ sz → (∀ h, h < n → b ≤ ρ h) →
  ∃ rm : Room, rm.cells = nAl j ∧ rm.slots = SL (n + nAl j) - SL n ∧ rm.frames + 1 ≤ R.frames ∧ rm.locals + 60 ≤ R.locals ∧ Met l (yM j) (wsM j) rm (va_Pc (argv.map (toV ρ)) (PreU EV b D κ ρ n w sz)) (QcU D κ ρ n w sz (rkM j) (nAl j) Qc) (nAl j) (SL (n + nAl j) - SL n) (AAf ρ n sz)
theorem nthA_le {b : Nat} : ∀ (l : List Nat) (j : Nat), (∀ x ∈ l, x ≤ b) → nthA 0 l j ≤ b
  | [], _, _ => by simp [nthA]
  | a :: _, 0, h => h a List.mem_cons_self
  | _ :: t, j + 1, h => nthA_le t j (fun x q => h x (List.mem_cons_of_mem _ q))
theorem mx_le (j : Nat) : mxM j ≤ 20 := nthA_le _ _ (by decide +kernel)
theorem ph_al {j : Nat} (h : ¬ phM j = 1) : nAl j = 0 := by
  by_cases hj : j < 283
  · have h1 : ∀ j, j < 283 → ¬ phM j = 1 → nAl j = 0 := by decide +kernel
    exact h1 j hj h
  · unfold nAl
    exact nthA_out _ _ (by have : nAlL.length = 283 := by decide +kernel
                           omega)
set_option maxRecDepth 100000 in
set_option maxHeartbeats 4000000 in
theorem code_ok0 : (List.range 31).map (fun j => some (Jvm.Cond.code (yM (0 + j)) (bM (0 + j)) (mxM (0 + j)) (rtM (0 + j)))) = ([1030, 1038, 1127, 1230, 2020, 2050, 2082, 2126, 2187, 2223, 3036, 3057, 3144, 3148, 3152, 3156, 3160, 3164, 3171, 3174, 3177, 3181, 3185, 3189, 3193, 3197, 3201, 3205, 3209, 3214, 3218] : List Nat).map (fun q => (segW (q / 1000))[q % 1000]?) := rfl
set_option maxRecDepth 100000 in
set_option maxHeartbeats 4000000 in
theorem code_ok31 : (List.range 31).map (fun j => some (Jvm.Cond.code (yM (31 + j)) (bM (31 + j)) (mxM (31 + j)) (rtM (31 + j)))) = ([3222, 3226, 3230, 3235, 3239, 4003, 4007, 4011, 4015, 4019, 4023, 4027, 4031, 4035, 4039, 4043, 4047, 4050, 4058, 4062, 4066, 4070, 4074, 4078, 4082, 4086, 4091, 4095, 4099, 4103, 4107] : List Nat).map (fun q => (segW (q / 1000))[q % 1000]?) := rfl
set_option maxRecDepth 100000 in
set_option maxHeartbeats 4000000 in
theorem code_ok62 : (List.range 31).map (fun j => some (Jvm.Cond.code (yM (62 + j)) (bM (62 + j)) (mxM (62 + j)) (rtM (62 + j)))) = ([4113, 4117, 4126, 4130, 4136, 4140, 4144, 4148, 4153, 4157, 4162, 4166, 4170, 4180, 4184, 4188, 4192, 4196, 4205, 4210, 4213, 4217, 4221, 4227, 4231, 4235, 4239, 5010, 5014, 5018, 5022] : List Nat).map (fun q => (segW (q / 1000))[q % 1000]?) := rfl
set_option maxRecDepth 100000 in
set_option maxHeartbeats 4000000 in
theorem code_ok93 : (List.range 31).map (fun j => some (Jvm.Cond.code (yM (93 + j)) (bM (93 + j)) (mxM (93 + j)) (rtM (93 + j)))) = ([5026, 5030, 5034, 5039, 5044, 5048, 5052, 5061, 5068, 5073, 5077, 5081, 5086, 5090, 5094, 5099, 5103, 5107, 5114, 5118, 5123, 5127, 5131, 5135, 5139, 5144, 5149, 5153, 5157, 5161, 5165] : List Nat).map (fun q => (segW (q / 1000))[q % 1000]?) := rfl
set_option maxRecDepth 100000 in
set_option maxHeartbeats 4000000 in
theorem code_ok124 : (List.range 31).map (fun j => some (Jvm.Cond.code (yM (124 + j)) (bM (124 + j)) (mxM (124 + j)) (rtM (124 + j)))) = ([5169, 5174, 5178, 5182, 5186, 5190, 5196, 5200, 5204, 5208, 5212, 5217, 5222, 5228, 5232, 5237, 6001, 6005, 6009, 6013, 6017, 6021, 6025, 6029, 6033, 6037, 6041, 6045, 6050, 6054, 6059] : List Nat).map (fun q => (segW (q / 1000))[q % 1000]?) := rfl
set_option maxRecDepth 100000 in
set_option maxHeartbeats 4000000 in
theorem code_ok155 : (List.range 31).map (fun j => some (Jvm.Cond.code (yM (155 + j)) (bM (155 + j)) (mxM (155 + j)) (rtM (155 + j)))) = ([6063, 6067, 6071, 6075, 6079, 6083, 6087, 6092, 6099, 6103, 6107, 6112, 6116, 6210, 6214, 6219, 6223, 6227, 8011, 8015, 8019, 8023, 8026, 8029, 8033, 8037, 8041, 8045, 8049, 8053, 8057] : List Nat).map (fun q => (segW (q / 1000))[q % 1000]?) := rfl
set_option maxRecDepth 100000 in
set_option maxHeartbeats 4000000 in
theorem code_ok186 : (List.range 31).map (fun j => some (Jvm.Cond.code (yM (186 + j)) (bM (186 + j)) (mxM (186 + j)) (rtM (186 + j)))) = ([8061, 8064, 8068, 8072, 8076, 8080, 8084, 8088, 8092, 8096, 8100, 8104, 8108, 8112, 8116, 8120, 8124, 8128, 8132, 8136, 8140, 8144, 8148, 8152, 8156, 8159, 8163, 8168, 8172, 8176, 8180] : List Nat).map (fun q => (segW (q / 1000))[q % 1000]?) := rfl
set_option maxRecDepth 100000 in
set_option maxHeartbeats 4000000 in
theorem code_ok217 : (List.range 31).map (fun j => some (Jvm.Cond.code (yM (217 + j)) (bM (217 + j)) (mxM (217 + j)) (rtM (217 + j)))) = ([8184, 8188, 8192, 8196, 8200, 8204, 8208, 8212, 8215, 8219, 8223, 8227, 8231, 8237, 9001, 9005, 9009, 9013, 9017, 9022, 9026, 9030, 9034, 9038, 9042, 9046, 9050, 9054, 9058, 9062, 9066] : List Nat).map (fun q => (segW (q / 1000))[q % 1000]?) := rfl
set_option maxRecDepth 100000 in
set_option maxHeartbeats 4000000 in
theorem code_ok248 : (List.range 31).map (fun j => some (Jvm.Cond.code (yM (248 + j)) (bM (248 + j)) (mxM (248 + j)) (rtM (248 + j)))) = ([9070, 9074, 9078, 9082, 9086, 9090, 9094, 9098, 9102, 9106, 9110, 9114, 9118, 9122, 9126, 9130, 9134, 9138, 9142, 9146, 9150, 9154, 9158, 9162, 9166, 9170, 9174, 9178, 1131, 4175, 5002] : List Nat).map (fun q => (segW (q / 1000))[q % 1000]?) := rfl
theorem map_at {α : Type} {f : Nat → Option α} {g : Nat → Option α} {n : Nat} {ps : List Nat} (h : (List.range n).map f = ps.map g) {j : Nat} (hj : j < n) : ∃ q, f j = g q := by
  have h1 : ((List.range n).map f)[j]? = some (f j) := by rw [List.getElem?_map, List.getElem?_range hj]; rfl
  rw [h, List.getElem?_map] at h1
  cases e : ps[j]? with
  | none => rw [e] at h1; cases h1
  | some q => rw [e] at h1; exact ⟨q, (Option.some.inj h1).symm⟩
theorem code_in {j : Nat} (hj : j < 279) : Jvm.Cond.code (yM j) (bM j) (mxM j) (rtM j) ∈ wsB := by
  have key : ∀ q : Nat, some (Jvm.Cond.code (yM j) (bM j) (mxM j) (rtM j)) = (segW (q / 1000))[q % 1000]? → Jvm.Cond.code (yM j) (bM j) (mxM j) (rtM j) ∈ wsB := fun q h => List.mem_filter.mpr ⟨seg_in _ _ (List.mem_of_getElem? h.symm), rfl⟩
  by_cases h0 : j < 31
  · obtain ⟨q, hq⟩ := map_at code_ok0 (j := j - 0) (by omega)
    rw [show 0 + (j - 0) = j by omega] at hq
    exact key q hq
  by_cases h31 : j < 62
  · obtain ⟨q, hq⟩ := map_at code_ok31 (j := j - 31) (by omega)
    rw [show 31 + (j - 31) = j by omega] at hq
    exact key q hq
  by_cases h62 : j < 93
  · obtain ⟨q, hq⟩ := map_at code_ok62 (j := j - 62) (by omega)
    rw [show 62 + (j - 62) = j by omega] at hq
    exact key q hq
  by_cases h93 : j < 124
  · obtain ⟨q, hq⟩ := map_at code_ok93 (j := j - 93) (by omega)
    rw [show 93 + (j - 93) = j by omega] at hq
    exact key q hq
  by_cases h124 : j < 155
  · obtain ⟨q, hq⟩ := map_at code_ok124 (j := j - 124) (by omega)
    rw [show 124 + (j - 124) = j by omega] at hq
    exact key q hq
  by_cases h155 : j < 186
  · obtain ⟨q, hq⟩ := map_at code_ok155 (j := j - 155) (by omega)
    rw [show 155 + (j - 155) = j by omega] at hq
    exact key q hq
  by_cases h186 : j < 217
  · obtain ⟨q, hq⟩ := map_at code_ok186 (j := j - 186) (by omega)
    rw [show 186 + (j - 186) = j by omega] at hq
    exact key q hq
  by_cases h217 : j < 248
  · obtain ⟨q, hq⟩ := map_at code_ok217 (j := j - 217) (by omega)
    rw [show 217 + (j - 217) = j by omega] at hq
    exact key q hq
  by_cases h248 : j < 279
  · obtain ⟨q, hq⟩ := map_at code_ok248 (j := j - 248) (by omega)
    rw [show 248 + (j - 248) = j by omega] at hq
    exact key q hq
  · omega
theorem goodB : ∀ w ∈ wsB, (w.onTables && w.keeps) = true ∨ ∃ ty, w = .arrayClass ty := fun w h => good_of_word (List.mem_filter.mp h).2
theorem wsM_good {j : Nat} (hj : j < 279) : GoodIn wsB (wsM j) := fun w hw => (List.mem_cons.mp hw).elim (fun q => by rw [q]; exact ⟨code_in hj, goodB _ (code_in hj)⟩) (fun q => ⟨q, goodB _ q⟩)
theorem good_cons {x : Jvm.Cond} {ws : List Jvm.Cond} (h1 : x ∈ wsB) (h : GoodIn wsB ws) : GoodIn wsB (x :: ws) := fun w hw => (List.mem_cons.mp hw).elim (fun q => by rw [q]; exact ⟨h1, goodB _ h1⟩) (h w)
theorem nest_is {x : Jvm.Cond} (h : x ∈ nestL) : ∃ a i y b, x = .methodLinkNest a i y b := by
  have h1 := (List.mem_filter.mp h).2
  split at h1
  · exact ⟨_, _, _, _, rfl⟩
  · cases h1
theorem PreU.blind {EV : State → Prop} {b : Nat} (hEV : EvOK EV b) {D : va_G} {κ : Nat → ClassId} {ρ : Nat → Nat} {n : Nat} {w : Wd} {sz : Nat} {av : List Value} : FrameBlind (va_Pc av (PreU EV b D κ ρ n w sz)) := by
  intro a U g mk q
  obtain ⟨q0, ⟨z1, z2, z3⟩, q1, q2, q3, q4, q5, q6⟩ := q
  refine ⟨q0, ⟨hEV U (U.calling g mk a) z1 (fun _ _ => rfl) (State.WarmedH.refl U), z2, z3⟩, q1, q2, va_K.moved (u := U) (U := U.calling g mk a) (Vm.Alike.refl U.vm) q3, q4, fun x hx => ?_, va_AO.moved (u := U) (U := U.calling g mk a) (Vm.Alike.refl U.vm) q6⟩
  obtain ⟨a9, i9, y9, b9, rfl⟩ := nest_is hx
  exact va_Nw.same rfl (rfl : U.vm = (U.calling g mk a).vm) (q5 _ hx)
theorem pre_at {EV : State → Prop} {b : Nat} (hEV : EvOK EV b) {D : va_G} {κ : Nat → ClassId} {ρ : Nat → Nat} {n : Nat} {w : Wd} {s : State} {A : Nat → Prop} {H : Heap} (hK : va_K D vwCl (tysO κ) s) (hP : va_P D vwCl (wsO κ ρ w n) H) (hD : va_D A (wsO κ ρ w n)) (hnest : ∀ x ∈ nestL, va_Nw x s) (hAO : va_AO RX2 s) (hEs : EV s) (hbs : b ≤ s.heap.size) (hAb : ∀ q, A q → b ≤ q) {locs : List Loc} (hS : va_S A s.heap H locs) :
    ∀ U : State, U.heap = H → s.WarmedH U.vm → PreU EV b D κ ρ n w H.size U := by
  intro U hU hW
  refine ⟨⟨hEV s U hEs (fun q hq => by rw [hU]; exact hS.2.1 q (Nat.lt_of_lt_of_le hq hbs) (fun z => absurd (hAb q z) (by omega))) hW, Nat.le_trans hbs hS.1, fun h hh => hAb _ (hD.2 h _ (wsO_at hh))⟩, by rw [hU], by rw [hU]; exact hP, va_K.moved hW.alike hK, hD.weaken (fun _ _ _ _ => trivial), fun x hx => ?_, va_AO.moved hW.alike hAO⟩
  obtain ⟨a9, i9, y9, b9, rfl⟩ := nest_is hx
  exact va_Nw.warmM hW (hnest _ hx)
theorem AAf_in {κ : Nat → ClassId} {ρ : Nat → Nat} {n : Nat} {w : Wd} {A : Nat → Prop} {H0 H : Heap} {locs : List Loc} (hD : va_D A (wsO κ ρ w n)) (hS : va_S A H0 H locs) (hA : ∀ q : Nat, H0.size ≤ q → A q) : ∀ q, AAf ρ n H.size q → A q := by
  intro q h
  rcases h with ⟨g, hg, rfl⟩ | h
  · exact hD.2 g _ (wsO_at hg)
  · exact hA q (Nat.le_trans hS.1 h)
theorem call_go {p : Program} {l : Launch} {e : Env} {R : Room} {s : State} {m : MethodId} {args : Array Value} {below : List Frame} {meth : Method} {c : Code} {Z : State → Prop} {D : va_G} {κ : Nat → ClassId} {A : Nat → Prop} {cd : List Ent} {pr : Pr} {mx n0 : Nat} {w0 : Wd} {ρ0 ρ : Nat → Nat} {n j i pc : Nat} {w : Wd} {H : Heap} {locs : List Loc} {ls : Array Slot} {l9 rest : List MV} {st0 : List Value} {a : Array Value} {Qc : MV → Wd → Prop}
    (hA : ∀ q : Nat, s.heap.size ≤ q → A q) (hR : Rl D κ A s.heap ρ n w H locs) (hE : Ex pr n0 w0 ρ0 ρ n w)
    (hrun : va_Run p l e R s m args below meth c H locs (cN n0 w0 n w) (sN n0 w0 n w) (nAl j) (SL (n + nAl j) - SL n) (F0 m pc ls st0) (rest.map (toV ρ)) (QcU D κ ρ n w H.size (rkM j) (nAl j) Qc a) (AAf ρ n H.size))
    (hph : nAl j = 0 ∨ (0 < pr.2.1 ∧ w 401 0 + (nAl j : Int) ≤ pr.2.2)) (hn1 : n + nAl j ≤ 186) (hpc : pcOf cd i = pc + 3)
    (hF : ∀ v w', Qc v w' → PP p l e R s m args below meth c Z D κ A cd pr mx n0 w0 ρ0 i l9 (pushR (rkM j) v rest) w') (hl : ∀ v ∈ l9, okV n v) (hs : ∀ v ∈ rest, okV n v) (hL : LocR ρ ls mx l9) :
    W p l e R s m args below meth c H locs (cN n0 w0 n w) (sN n0 w0 n w) Z (F0 m pc ls st0) := by
  obtain ⟨hP, hD, hS, hok, hn, hn0, hall⟩ := id hR
  obtain ⟨e1, e2, e3, e4, e5, e6, e7, e8, e9, e10⟩ := id hE
  intro T hT X
  obtain ⟨v, st₀, t, T', L, h0, X', hLf, h1, h2, ⟨⟨v', ρ', w', hv, hq, hov, hrk, hag, hag4, hP1, hK1, hD1, hok1, hc1, hal1, hw4, hw1, hw2⟩, hz, hk⟩, st⟩ := hrun T hT X
  cases hv
  have hAA := AAf_in hD hS hA
  rw [h0] at hz hk
  have hS' : va_S A s.heap T'.heap (locs ++ L) := by
    refine ⟨Nat.le_trans hS.1 (by rw [h1]; exact hz), fun q g1 g2 => ?_, fun q hq => ?_⟩
    · rw [h1, hk q (Nat.lt_of_lt_of_le g1 hS.1) (fun z => g2 (hAA q z))]
      exact hS.2.1 q g1 g2
    · rcases List.mem_append.mp hq with h | h
      · exact hS.2.2 q h
      · exact hAA _ (hLf q h)
  have hcN : cN n0 w0 (n + nAl j) w' = cN n0 w0 n w + nAl j := by unfold cN; rw [hw1]; omega
  have hsN : sN n0 w0 (n + nAl j) w' = sN n0 w0 n w + (SL (n + nAl j) - SL n) := by
    unfold sN; rw [hw1]
    have := SL_mono n0 n e1
    have := SL_mono n (n + nAl j) (by omega)
    omega
  have hE' : Ex pr n0 w0 ρ0 ρ' (n + nAl j) w' := by
    refine ⟨by omega, fun h hh => by rw [hag h (by omega)]; exact e2 h hh, by rw [hag4]; exact e3, by rw [hw4]; exact e4, by rw [hw2]; exact e5, by rw [hw1]; exact e6, fun q => by rw [hw1]; exact e7 q, fun q => ?_, fun q => ?_, fun q => by rw [hw1]; exact e10 q⟩
    · have := e8 q
      omega
    · rcases hph with z | z
      · have := e9 q
        rw [z]; omega
      · have := z.2
        rw [hn0] at this; push_cast; omega
  have hstk : (retO ρ' v').toList ++ rest.map (toV ρ) = (pushR (rkM j) v' rest).map (toV ρ') := by
    unfold pushR
    by_cases q : rkM j = 0
    · rw [if_pos q, hrk.mp q, map_agree hs hag hag4]; rfl
    · rw [if_neg q, List.map_cons, map_agree hs hag hag4]
      match v', hrk with
      | none, hrk => exact absurd (hrk.mpr rfl) q
      | some x, _ => rfl
  have hokp : ∀ x ∈ pushR (rkM j) v' rest, okV (n + nAl j) x := by
    unfold pushR
    by_cases q : rkM j = 0
    · rw [if_pos q]; exact fun x hx => (hs x hx).mono (by omega)
    · rw [if_neg q]; exact List.forall_mem_cons.mpr ⟨hov, fun x hx => (hs x hx).mono (by omega)⟩
  have hW := hF v' w' hq ρ' (n + nAl j) T'.heap (locs ++ L) ls ⟨by rw [h1]; exact hP1, hD1.weaken (fun k q _ h => hAA _ h), hS', hok1, hn1, hc1, hal1⟩ hE' (fun x hx => (hl x hx).mono (by omega)) hokp (hL.agree hl hag hag4)
  rw [hcN, hsN, hpc, ← hstk] at hW
  obtain ⟨t2, a1, b1⟩ := hW T' rfl X'
  exact ⟨t2, st t2 a1, b1⟩
theorem split_at {s : List MV} {na : Nat} {v : MV} (h : nthA none s na = v) (hv : ¬ v = none) : s = s.take na ++ v :: s.drop (na + 1) ∧ na < s.length := by
  have hlen : na < s.length := by
    by_cases q : na < s.length
    · exact q
    · rw [nthA_out s na (by omega)] at h; exact absurd h.symm hv
  refine ⟨?_, hlen⟩
  have hg : ∀ (s : List MV) (na : Nat), na < s.length → s = s.take na ++ nthA none s na :: s.drop (na + 1) := by
    intro s
    induction s with
    | nil => intro na h; simp at h
    | cons a t ih =>
      intro na h
      cases na with
      | zero => rfl
      | succ na =>
        have := ih na (by simpa using h)
        show a :: t = a :: (t.take na ++ nthA none t na :: t.drop (na + 1))
        rw [← this]
  have := hg s na hlen
  rw [h] at this
  exact this
theorem rcv_is {v : MV} {k : Nat} (h : rcvK v = k) (hk : k < 20) : ∃ g, v = mR g ∧ kd g = k := by
  unfold rcvK at h
  split at h
  · rename_i g
    exact ⟨g, rfl, h⟩
  · omega
theorem yW_ok {y : MethodName} {na : Nat} (h : yW y na = true) : y.cls ≠ "java/lang/invoke/MethodHandle" ∧ y.cls ≠ "java/lang/invoke/VarHandle" ∧ (parseMethodDescriptor y.desc).map (fun d => d.parameters.length) = some na := by
  unfold yW at h
  simp only [Bool.and_eq_true, decide_eq_true_eq] at h
  exact ⟨h.1.1, h.1.2, h.2⟩

theorem take_at : ∀ {s : List MV} {na : Nat} {v : MV}, nthA none s na = v → na < s.length → s.take (na + 1) = s.take na ++ [v]
  | [], _, _, _, h => by simp at h
  | a :: t, 0, v, h, _ => by
    have : a = v := h
    rw [this]; rfl
  | a :: t, na + 1, v, h, hl => by
    show a :: t.take (na + 1) = a :: (t.take na ++ [v])
    rw [take_at (s := t) h (by simpa using hl)]
theorem stk_at {ρ : Nat → Nat} {s : List MV} {na g : Nat} (h : s = s.take na ++ mR g :: s.drop (na + 1)) : (s.take na).map (toV ρ) ++ .ref (ρ g) :: (s.drop (na + 1)).map (toV ρ) = s.map (toV ρ) := by
  have h1 := congrArg (List.map (toV ρ)) h
  rw [List.map_append, List.map_cons] at h1
  exact h1.symm
theorem rt_none {j : Nat} (h : rkM j = 0) : rtM j = none := by
  by_cases hj : j < 283
  · have h1 : ∀ j, j < 283 → rkM j = 0 → rtM j = none := by decide +kernel
    exact h1 j hj h
  · unfold rtM
    exact nthA_out _ _ (by have : rtL.length = 283 := by decide +kernel
                           omega)
end
section

theorem mn64 {a b : Int} (ha : in64 a) (hb : in64 b) : (if Int64.ofInt b < Int64.ofInt a then Int64.ofInt b else Int64.ofInt a) = Int64.ofInt (min a b) := by
  by_cases h : b < a
  · rw [if_pos ((k3l_lt hb ha).mpr h), Int.min_eq_right (by omega)]
  · rw [if_neg (fun q => h ((k3l_lt hb ha).mp q)), Int.min_eq_left (by omega)]
set_option maxHeartbeats 4000000 in
set_option maxRecDepth 100000 in
theorem sim_step {p : Program} {l : Launch} {e : Env} {R : Room} {s : State} {m : MethodId} {args : Array Value} {below : List Frame} {meth : Method} {c : Code} {Z : State → Prop} {D : va_G} {κ : Nat → ClassId} {A : Nat → Prop} {cc : ByteArray} {own nm : String} {cd : List Ent} {pr : Pr} {mx n0 : Nat} {w0 : Wd} {ρ0 : Nat → Nat} {cw : CWt} {Q : MV → Wd → Prop}
  (hFr : Fr p s m args meth c cc own nm mx) (hK : va_K D vwCl (tysO κ) s) (hA : ∀ q : Nat, s.heap.size ≤ q → A q)
  (hckA : ∀ i, i < cd.length → chkE own nm cc mx cd (nthA nE cd i) (pcOf cd (i + 1)) = true)
  (hcap : ∀ ρ n w, Ex pr n0 w0 ρ0 ρ n w → n ≤ 186 → cN n0 w0 n w ≤ R.cells ∧ sN n0 w0 n w ≤ R.slots)
  (hrm : 300 ≤ R.locals ∧ 1 ≤ R.frames)
  (hscr : pr.2.1 = 2 → ∃ (L : Nat) (xs : Nat → Int32), va_X (ρ0 400) L xs s s.heap ∧ ρ0 400 < s.heap.size ∧ ¬ A (ρ0 400) ∧ w0 401 2 = (L : Int) ∧ L ≤ 3072 ∧ ∀ j, j < L → w0 400 j = (xs j).toInt)
  (hlim186 : 0 < pr.2.1 → pr.2.2 ≤ 186)
  (hcap2 : ∀ ρ n w j, Ex pr n0 w0 ρ0 ρ n w → 0 < pr.2.1 → n + nAl j ≤ 186 → (n : Int) + (nAl j : Int) ≤ pr.2.2 → cN n0 w0 n w + nAl j ≤ R.cells ∧ sN n0 w0 n w + (SL (n + nAl j) - SL n) ≤ R.slots)
  {EV : State → Prop} {b0 : Nat} (hEV : EvOK EV b0) (hEs : EV s) (hbs : b0 ≤ s.heap.size) (hAb : ∀ q, A q → b0 ≤ q)
  (hcall : CallH l EV b0 D κ R cw)
  (hext : ∀ (j na idx na2 : Nat) (s9 l9 : List MV) (w : Wd) (i : Nat) (ρ : Nat → Nat) (n : Nat) (H : Heap) (locs : List Loc) (ls : Array Slot) (pc : Nat), pr.2.1 = 2 → 279 ≤ j → n = 186 → catS (s9.drop na) ≤ 8 → na ≤ s9.length → cw j (s9.take na).reverse w (fun r w' => PP p l e R s m args below meth c Z D κ A cd pr mx n0 w0 ρ0 i l9 (pushR (rkM j) r (s9.drop na)) w') → Rl D κ A s.heap ρ n w H locs → Ex pr n0 w0 ρ0 ρ n w → (∀ v ∈ l9, okV n v) → (∀ v ∈ s9, okV n v) → LocR ρ ls mx l9 → ((yM j).cls ≠ "java/lang/invoke/MethodHandle" ∧ (yM j).cls ≠ "java/lang/invoke/VarHandle" ∧ (parseMethodDescriptor (yM j).desc).map (fun d => d.parameters.length) = some na) → Jvm.Cond.methodLink own idx (yM j) ∈ wsB → Jvm.Cond.static (yM j) ∈ wsB → Jvm.Cond.initialized (yM j).cls ∈ wsB → decode cc pc = .ok (.invokestatic idx, 3) → pcOf cd i = pc + 3 → W p l e R s m args below meth c H locs (cN n0 w0 n w) (sN n0 w0 n w) Z (F0 m pc ls (s9.map (toV ρ))))
  (hret : ∀ (ρ : Nat → Nat) (n : Nat) (w : Wd) (H : Heap) (locs : List Loc) (v : MV) (pc : Nat) (ls : Array Slot) (ins : Instr), Rl D κ A s.heap ρ n w H locs → Ex pr n0 w0 ρ0 ρ n w → okV n v → Q v w → decode cc pc = .ok (ins, 1) → retOK pr.1 v ins → ls.size = mx → W p l e R s m args below meth c H locs (cN n0 w0 n w) (sN n0 w0 n w) Z (F0 m pc ls (retS ρ v))) :
  ∀ i l9 s9 w, F cw cd pr Q (PP p l e R s m args below meth c Z D κ A cd pr mx n0 w0 ρ0) i l9 s9 w → PP p l e R s m args below meth c Z D κ A cd pr mx n0 w0 ρ0 i l9 s9 w := by
  intro i l9 s9 w hF ρ n H locs ls hR hE hl hs hL
  obtain ⟨hx, hb, hml, hown, hts, hin, hnest, hAO⟩ := id hFr
  obtain ⟨hP, hD, hS, hok, hn, hn0, hall⟩ := id hR
  obtain ⟨e1, e2, e3, e4, e5, e6, e7, e8, e9, e10⟩ := id hE
  have hlen : i < cd.length := by
    by_cases q : i < cd.length
    · exact q
    · unfold F at hF
      rw [nthA_out cd i (by omega)] at hF
      exact hF.elim
  have hck := hckA i hlen
  have hpc : pcOf cd i = (nthA nE cd i).1 := rfl
  unfold F at hF
  rw [hpc]
  generalize hnx : pcOf cd (i + 1) = nx at hck
  generalize nthA nE cd i = en at hF hck ⊢
  obtain ⟨pc, ins, len, aux, cst⟩ := en
  dsimp only at hF hck ⊢
  simp only [chkE, Bool.and_eq_true, decide_eq_true_eq] at hck
  obtain ⟨hdec, hck⟩ := hck
  cases ins

  case iconst =>
    (try dsimp only at hF)
    (try dsimp only at hck)
    simp only [Bool.and_eq_true, decide_eq_true_eq, in32b] at hck
    obtain ⟨⟨⟨h1, h2⟩, h3⟩, h4⟩ := hck
    subst h1
    refine lv_iconst (v := Int32.ofInt cst) hx hb hdec (by first | exact h3 | rw [h3]) ?_
    rw [← h2, ← hnx]
    exact hF ρ n H locs ls hR hE hl (List.forall_mem_cons.mpr ⟨h4, hs⟩) hL
  case bipush =>
    (try dsimp only at hF)
    (try dsimp only at hck)
    simp only [Bool.and_eq_true, decide_eq_true_eq, in32b] at hck
    obtain ⟨⟨⟨h1, h2⟩, h3⟩, h4⟩ := hck
    subst h1
    refine lv_bipush (v := Int32.ofInt cst) hx hb hdec (by first | exact h3 | rw [h3]) ?_
    rw [← h2, ← hnx]
    exact hF ρ n H locs ls hR hE hl (List.forall_mem_cons.mpr ⟨h4, hs⟩) hL
  case sipush =>
    (try dsimp only at hF)
    (try dsimp only at hck)
    simp only [Bool.and_eq_true, decide_eq_true_eq, in32b] at hck
    obtain ⟨⟨⟨h1, h2⟩, h3⟩, h4⟩ := hck
    subst h1
    refine lv_sipush (v := Int32.ofInt cst) hx hb hdec (by first | exact h3 | rw [h3]) ?_
    rw [← h2, ← hnx]
    exact hF ρ n H locs ls hR hE hl (List.forall_mem_cons.mpr ⟨h4, hs⟩) hL
  case ldc =>
    (try dsimp only at hF)
    (try dsimp only at hck)
    simp only [Bool.and_eq_true, decide_eq_true_eq, in32b] at hck
    obtain ⟨⟨⟨h1, h2⟩, h3⟩, h4⟩ := hck
    subst h1
    refine lv_ldc (v := Int32.ofInt cst) hx hb hown (hts _ (hasW_in h3 rfl)) hdec ?_
    rw [← h2, ← hnx]
    exact hF ρ n H locs ls hR hE hl (List.forall_mem_cons.mpr ⟨h4, hs⟩) hL
  case ldc_w =>
    (try dsimp only at hF)
    (try dsimp only at hck)
    simp only [Bool.and_eq_true, decide_eq_true_eq, in32b] at hck
    obtain ⟨⟨⟨h1, h2⟩, h3⟩, h4⟩ := hck
    subst h1
    refine lv_ldcw (v := Int32.ofInt cst) hx hb hown (hts _ (hasW_in h3 rfl)) hdec ?_
    rw [← h2, ← hnx]
    exact hF ρ n H locs ls hR hE hl (List.forall_mem_cons.mpr ⟨h4, hs⟩) hL
  case lconst =>
    (try dsimp only at hF)
    (try dsimp only at hck)
    simp only [Bool.and_eq_true, decide_eq_true_eq, in64b] at hck
    obtain ⟨⟨⟨h1, h2⟩, h3⟩, h4⟩ := hck
    subst h1
    refine lv_lconst (v := Int64.ofInt cst) hx hb hdec h3 ?_
    rw [← h2, ← hnx]
    exact hF ρ n H locs ls hR hE hl (List.forall_mem_cons.mpr ⟨h4, hs⟩) hL
  case ldc2_w =>
    (try dsimp only at hF)
    (try dsimp only at hck)
    simp only [Bool.and_eq_true, decide_eq_true_eq, in64b] at hck
    obtain ⟨⟨⟨h1, h2⟩, h3⟩, h4⟩ := hck
    subst h1
    refine lv_ldc2 (v := Int64.ofInt cst) hx hb hown (hts _ (hasW_in h3 rfl)) hdec ?_
    rw [← h2, ← hnx]
    exact hF ρ n H locs ls hR hE hl (List.forall_mem_cons.mpr ⟨h4, hs⟩) hL
  case iload =>
    (try dsimp only at hF)
    (try dsimp only at hck)
    simp only [Bool.and_eq_true, decide_eq_true_eq] at hck
    obtain ⟨⟨h1, h2⟩, h3⟩ := hck
    subst h1
    split at hF
    · rename_i x hv
      refine lv_iload hx hb hdec (by rw [← h3]; exact hL.at hv) ?_
      rw [← h2, ← hnx]
      exact hF ρ n H locs ls hR hE hl (List.forall_mem_cons.mpr ⟨hl _ (nthA_mem _ _ _ hv (fun q => by cases q)), hs⟩) hL
    · exact hF.elim
  case lload =>
    (try dsimp only at hF)
    (try dsimp only at hck)
    simp only [Bool.and_eq_true, decide_eq_true_eq] at hck
    obtain ⟨⟨h1, h2⟩, h3⟩ := hck
    subst h1
    split at hF
    · rename_i x hv
      refine lv_lload hx hb hdec (by rw [← h3]; exact hL.at hv) ?_
      rw [← h2, ← hnx]
      exact hF ρ n H locs ls hR hE hl (List.forall_mem_cons.mpr ⟨hl _ (nthA_mem _ _ _ hv (fun q => by cases q)), hs⟩) hL
    · exact hF.elim
  case aload =>
    (try dsimp only at hF)
    (try dsimp only at hck)
    simp only [Bool.and_eq_true, decide_eq_true_eq] at hck
    obtain ⟨⟨h1, h2⟩, h3⟩ := hck
    subst h1
    split at hF
    · rename_i x hv
      refine lv_aload hx hb hdec (by rw [← h3]; exact hL.at hv) ?_
      rw [← h2, ← hnx]
      exact hF ρ n H locs ls hR hE hl (List.forall_mem_cons.mpr ⟨hl _ (nthA_mem _ _ _ hv (fun q => by cases q)), hs⟩) hL
    · exact hF.elim
  case iload_n =>
    (try dsimp only at hF)
    (try dsimp only at hck)
    simp only [Bool.and_eq_true, decide_eq_true_eq] at hck
    obtain ⟨⟨h1, h2⟩, h3⟩ := hck
    subst h1
    split at hF
    · rename_i x hv
      refine lv_iload_n (i := a0 aux) hx hb hdec h3.symm (hL.at hv) ?_
      rw [← h2, ← hnx]
      exact hF ρ n H locs ls hR hE hl (List.forall_mem_cons.mpr ⟨hl _ (nthA_mem _ _ _ hv (fun q => by cases q)), hs⟩) hL
    · exact hF.elim
  case lload_n =>
    (try dsimp only at hF)
    (try dsimp only at hck)
    simp only [Bool.and_eq_true, decide_eq_true_eq] at hck
    obtain ⟨⟨h1, h2⟩, h3⟩ := hck
    subst h1
    split at hF
    · rename_i x hv
      refine lv_lload_n (i := a0 aux) hx hb hdec h3.symm (hL.at hv) ?_
      rw [← h2, ← hnx]
      exact hF ρ n H locs ls hR hE hl (List.forall_mem_cons.mpr ⟨hl _ (nthA_mem _ _ _ hv (fun q => by cases q)), hs⟩) hL
    · exact hF.elim
  case aload_n =>
    (try dsimp only at hF)
    (try dsimp only at hck)
    simp only [Bool.and_eq_true, decide_eq_true_eq] at hck
    obtain ⟨⟨h1, h2⟩, h3⟩ := hck
    subst h1
    split at hF
    · rename_i x hv
      refine lv_aload_n (i := a0 aux) hx hb hdec h3.symm (hL.at hv) ?_
      rw [← h2, ← hnx]
      exact hF ρ n H locs ls hR hE hl (List.forall_mem_cons.mpr ⟨hl _ (nthA_mem _ _ _ hv (fun q => by cases q)), hs⟩) hL
    · exact hF.elim
  case istore =>
    (try dsimp only at hF)
    (try dsimp only at hck)
    simp only [Bool.and_eq_true, decide_eq_true_eq] at hck
    obtain ⟨⟨⟨h1, h2⟩, h3⟩, h4⟩ := hck
    subst h1
    split at hF
    · obtain ⟨hv, hs⟩ := List.forall_mem_cons.mp hs
      rename_i x t _
      refine hL.stI (i := a0 aux) (v := .inl x) (Pq := fun ls => W p l e R s m args below meth c H locs (cN n0 w0 n w) (sN n0 w0 n w) Z (F0 m pc ls _)) (fun x q => by cases q) (fun lv hlv _ lv' hlv' hk => ?_)
      refine lv_istore (lv' := lv') hx hb hdec hlv (by omega) (by rw [← h3]; exact hlv') (fun ls2 hl2 => ?_)
      rw [← h2, ← hnx]
      exact hF ρ n H locs ls2 hR hE (fun v q => (stI_mem q).elim (fun q => by rw [q]; exact hv) (fun q => q.elim (fun q => by rw [q]; exact trivial) (hl v))) hs (hk ls2 hl2)
    · exact hF.elim
  case istore_n =>
    (try dsimp only at hF)
    (try dsimp only at hck)
    simp only [Bool.and_eq_true, decide_eq_true_eq] at hck
    obtain ⟨⟨⟨h1, h2⟩, h3⟩, h4⟩ := hck
    subst h1
    split at hF
    · obtain ⟨hv, hs⟩ := List.forall_mem_cons.mp hs
      rename_i x t _
      refine hL.stI (i := a0 aux) (v := .inl x) (Pq := fun ls => W p l e R s m args below meth c H locs (cN n0 w0 n w) (sN n0 w0 n w) Z (F0 m pc ls _)) (fun x q => by cases q) (fun lv hlv _ lv' hlv' hk => ?_)
      refine lv_istore_n (lv' := lv') hx hb (i := a0 aux) hdec h3.symm hlv (by omega) hlv' (fun ls2 hl2 => ?_)
      rw [← h2, ← hnx]
      exact hF ρ n H locs ls2 hR hE (fun v q => (stI_mem q).elim (fun q => by rw [q]; exact hv) (fun q => q.elim (fun q => by rw [q]; exact trivial) (hl v))) hs (hk ls2 hl2)
    · exact hF.elim
  case astore =>
    (try dsimp only at hF)
    (try dsimp only at hck)
    simp only [Bool.and_eq_true, decide_eq_true_eq] at hck
    obtain ⟨⟨⟨h1, h2⟩, h3⟩, h4⟩ := hck
    subst h1
    split at hF
    · obtain ⟨hv, hs⟩ := List.forall_mem_cons.mp hs
      rename_i x t _
      refine hL.stI (i := a0 aux) (v := .inr (.inr x)) (Pq := fun ls => W p l e R s m args below meth c H locs (cN n0 w0 n w) (sN n0 w0 n w) Z (F0 m pc ls _)) (fun x q => by cases q) (fun lv hlv _ lv' hlv' hk => ?_)
      refine lv_astore (lv' := lv') hx hb hdec hlv (by omega) (by rw [← h3]; exact hlv') (fun ls2 hl2 => ?_)
      rw [← h2, ← hnx]
      exact hF ρ n H locs ls2 hR hE (fun v q => (stI_mem q).elim (fun q => by rw [q]; exact hv) (fun q => q.elim (fun q => by rw [q]; exact trivial) (hl v))) hs (hk ls2 hl2)
    · exact hF.elim
  case astore_n =>
    (try dsimp only at hF)
    (try dsimp only at hck)
    simp only [Bool.and_eq_true, decide_eq_true_eq] at hck
    obtain ⟨⟨⟨h1, h2⟩, h3⟩, h4⟩ := hck
    subst h1
    split at hF
    · obtain ⟨hv, hs⟩ := List.forall_mem_cons.mp hs
      rename_i x t _
      refine hL.stI (i := a0 aux) (v := .inr (.inr x)) (Pq := fun ls => W p l e R s m args below meth c H locs (cN n0 w0 n w) (sN n0 w0 n w) Z (F0 m pc ls _)) (fun x q => by cases q) (fun lv hlv _ lv' hlv' hk => ?_)
      refine lv_astore_n (lv' := lv') hx hb (i := a0 aux) hdec h3.symm hlv (by omega) hlv' (fun ls2 hl2 => ?_)
      rw [← h2, ← hnx]
      exact hF ρ n H locs ls2 hR hE (fun v q => (stI_mem q).elim (fun q => by rw [q]; exact hv) (fun q => q.elim (fun q => by rw [q]; exact trivial) (hl v))) hs (hk ls2 hl2)
    · exact hF.elim
  case lstore =>
    (try dsimp only at hF)
    (try dsimp only at hck)
    simp only [Bool.and_eq_true, decide_eq_true_eq] at hck
    obtain ⟨⟨⟨h1, h2⟩, h3⟩, h4⟩ := hck
    subst h1
    split at hF
    · obtain ⟨hv, hs⟩ := List.forall_mem_cons.mp hs
      rename_i x t _
      refine hL.stL (i := a0 aux) (y := x) (Pq := fun ls => W p l e R s m args below meth c H locs (cN n0 w0 n w) (sN n0 w0 n w) Z (F0 m pc ls _)) (fun lv hlv lv' hlv' hk => ?_)
      refine lv_lstore (lv' := lv') hx hb hdec hlv (by omega) (by rw [← h3]; exact hlv') (fun ls2 hl2 => ?_)
      rw [← h2, ← hnx]
      exact hF ρ n H locs ls2 hR hE (fun v q => (stL_mem q).elim (fun q => by rw [q]; exact hv) (fun q => q.elim (fun q => by rw [q]; exact trivial) (hl v))) hs (hk ls2 hl2)
    · exact hF.elim
  case lstore_n =>
    (try dsimp only at hF)
    (try dsimp only at hck)
    simp only [Bool.and_eq_true, decide_eq_true_eq] at hck
    obtain ⟨⟨⟨h1, h2⟩, h3⟩, h4⟩ := hck
    subst h1
    split at hF
    · obtain ⟨hv, hs⟩ := List.forall_mem_cons.mp hs
      rename_i x t _
      refine hL.stL (i := a0 aux) (y := x) (Pq := fun ls => W p l e R s m args below meth c H locs (cN n0 w0 n w) (sN n0 w0 n w) Z (F0 m pc ls _)) (fun lv hlv lv' hlv' hk => ?_)
      refine lv_lstore_n (lv' := lv') hx hb (i := a0 aux) hdec h3.symm hlv (by omega) hlv' (fun ls2 hl2 => ?_)
      rw [← h2, ← hnx]
      exact hF ρ n H locs ls2 hR hE (fun v q => (stL_mem q).elim (fun q => by rw [q]; exact hv) (fun q => q.elim (fun q => by rw [q]; exact trivial) (hl v))) hs (hk ls2 hl2)
    · exact hF.elim
  case iinc =>
    (try dsimp only at hF)
    (try dsimp only at hck)
    simp only [Bool.and_eq_true, decide_eq_true_eq] at hck
    obtain ⟨⟨⟨⟨h1, h2⟩, h3⟩, h4⟩, h5⟩ := hck
    subst h1
    split at hF
    · rename_i x hv
      have hxo : in32 x := hl _ (nthA_mem _ _ _ hv (fun q => by cases q))
      refine hL.stI (i := a0 aux) (v := .inl (w32 (x + cst))) (Pq := fun ls => W p l e R s m args below meth c H locs (cN n0 w0 n w) (sN n0 w0 n w) Z (F0 m pc ls _)) (fun x q => by cases q) (fun lv hlv hmem lv' hlv' hk => ?_)
      obtain ⟨kk, hkk⟩ := List.getElem?_of_mem (hmem _ _ hv)
      refine lv_iinc (lv' := lv') (v := Int32.ofInt (w32 (x + cst))) (k := kk) (i := a0 aux) hx hb (by rw [h3]; exact hdec) hlv hkk (by rw [w32_of, ← h4, Int32.ofInt_add]) (by omega) hlv' (fun ls2 hl2 => ?_)
      rw [← h2, ← hnx]
      exact hF ρ n H locs ls2 hR hE (fun v q => (stI_mem q).elim (fun q => by rw [q]; exact w32_in _) (fun q => q.elim (fun q => by rw [q]; exact trivial) (hl v))) hs (hk ls2 hl2)
    · exact hF.elim
  case iadd =>
    (try dsimp only at hF)
    (try dsimp only at hck)
    simp only [Bool.and_eq_true, decide_eq_true_eq] at hck
    obtain ⟨h1, h2⟩ := hck
    subst h1
    split at hF
    · obtain ⟨hvb, hs⟩ := List.forall_mem_cons.mp hs
      obtain ⟨hva, hs⟩ := List.forall_mem_cons.mp hs
      refine lv_iadd hx hb hdec ?_
      rw [← h2, ← hnx, k3i_add]
      exact hF ρ n H locs ls hR hE hl (List.forall_mem_cons.mpr ⟨w32_in _, hs⟩) hL
    · exact hF.elim
  case isub =>
    (try dsimp only at hF)
    (try dsimp only at hck)
    simp only [Bool.and_eq_true, decide_eq_true_eq] at hck
    obtain ⟨h1, h2⟩ := hck
    subst h1
    split at hF
    · obtain ⟨hvb, hs⟩ := List.forall_mem_cons.mp hs
      obtain ⟨hva, hs⟩ := List.forall_mem_cons.mp hs
      refine lv_isub hx hb hdec ?_
      rw [← h2, ← hnx, k3i_sub]
      exact hF ρ n H locs ls hR hE hl (List.forall_mem_cons.mpr ⟨w32_in _, hs⟩) hL
    · exact hF.elim
  case imul =>
    (try dsimp only at hF)
    (try dsimp only at hck)
    simp only [Bool.and_eq_true, decide_eq_true_eq] at hck
    obtain ⟨h1, h2⟩ := hck
    subst h1
    split at hF
    · obtain ⟨hvb, hs⟩ := List.forall_mem_cons.mp hs
      obtain ⟨hva, hs⟩ := List.forall_mem_cons.mp hs
      refine lv_imul hx hb hdec ?_
      rw [← h2, ← hnx, k3i_mul]
      exact hF ρ n H locs ls hR hE hl (List.forall_mem_cons.mpr ⟨w32_in _, hs⟩) hL
    · exact hF.elim
  case iand =>
    (try dsimp only at hF)
    (try dsimp only at hck)
    simp only [Bool.and_eq_true, decide_eq_true_eq] at hck
    obtain ⟨h1, h2⟩ := hck
    subst h1
    split at hF
    · obtain ⟨hvb, hs⟩ := List.forall_mem_cons.mp hs
      obtain ⟨hva, hs⟩ := List.forall_mem_cons.mp hs
      refine lv_iand hx hb hdec ?_
      rw [← h2, ← hnx, ← k3i_back (Int32.ofInt _ &&& _)]
      exact hF ρ n H locs ls hR hE hl (List.forall_mem_cons.mpr ⟨k3i_in _, hs⟩) hL
    · exact hF.elim
  case ior =>
    (try dsimp only at hF)
    (try dsimp only at hck)
    simp only [Bool.and_eq_true, decide_eq_true_eq] at hck
    obtain ⟨h1, h2⟩ := hck
    subst h1
    split at hF
    · obtain ⟨hvb, hs⟩ := List.forall_mem_cons.mp hs
      obtain ⟨hva, hs⟩ := List.forall_mem_cons.mp hs
      refine lv_ior hx hb hdec ?_
      rw [← h2, ← hnx, ← k3i_back (Int32.ofInt _ ||| _)]
      exact hF ρ n H locs ls hR hE hl (List.forall_mem_cons.mpr ⟨k3i_in _, hs⟩) hL
    · exact hF.elim
  case ixor =>
    (try dsimp only at hF)
    (try dsimp only at hck)
    simp only [Bool.and_eq_true, decide_eq_true_eq] at hck
    obtain ⟨h1, h2⟩ := hck
    subst h1
    split at hF
    · obtain ⟨hvb, hs⟩ := List.forall_mem_cons.mp hs
      obtain ⟨hva, hs⟩ := List.forall_mem_cons.mp hs
      refine lv_ixor hx hb hdec ?_
      rw [← h2, ← hnx, ← k3i_back (Int32.ofInt _ ^^^ _)]
      exact hF ρ n H locs ls hR hE hl (List.forall_mem_cons.mpr ⟨k3i_in _, hs⟩) hL
    · exact hF.elim
  case ishl =>
    (try dsimp only at hF)
    (try dsimp only at hck)
    simp only [Bool.and_eq_true, decide_eq_true_eq] at hck
    obtain ⟨h1, h2⟩ := hck
    subst h1
    split at hF
    · obtain ⟨hvb, hs⟩ := List.forall_mem_cons.mp hs
      obtain ⟨hva, hs⟩ := List.forall_mem_cons.mp hs
      refine lv_ishl hx hb hdec ?_
      rw [← h2, ← hnx, ← k3i_back (Int32.ofInt _ <<< _)]
      exact hF ρ n H locs ls hR hE hl (List.forall_mem_cons.mpr ⟨k3i_in _, hs⟩) hL
    · exact hF.elim
  case ishr =>
    (try dsimp only at hF)
    (try dsimp only at hck)
    simp only [Bool.and_eq_true, decide_eq_true_eq] at hck
    obtain ⟨h1, h2⟩ := hck
    subst h1
    split at hF
    · obtain ⟨hvb, hs⟩ := List.forall_mem_cons.mp hs
      obtain ⟨hva, hs⟩ := List.forall_mem_cons.mp hs
      refine lv_ishr hx hb hdec ?_
      rw [← h2, ← hnx, ← k3i_back (Int32.ofInt _ >>> _)]
      exact hF ρ n H locs ls hR hE hl (List.forall_mem_cons.mpr ⟨k3i_in _, hs⟩) hL
    · exact hF.elim
  case iushr =>
    (try dsimp only at hF)
    (try dsimp only at hck)
    simp only [Bool.and_eq_true, decide_eq_true_eq] at hck
    obtain ⟨h1, h2⟩ := hck
    subst h1
    split at hF
    · obtain ⟨hvb, hs⟩ := List.forall_mem_cons.mp hs
      obtain ⟨hva, hs⟩ := List.forall_mem_cons.mp hs
      refine lv_iushr hx hb hdec (k3i_back _).symm ?_
      rw [← h2, ← hnx]
      exact hF ρ n H locs ls hR hE hl (List.forall_mem_cons.mpr ⟨k3i_in _, hs⟩) hL
    · exact hF.elim
  case idiv =>
    (try dsimp only at hF)
    (try dsimp only at hck)
    simp only [Bool.and_eq_true, decide_eq_true_eq] at hck
    obtain ⟨h1, h2⟩ := hck
    subst h1
    split at hF
    · obtain ⟨hvb, hs⟩ := List.forall_mem_cons.mp hs
      obtain ⟨hva, hs⟩ := List.forall_mem_cons.mp hs
      obtain ⟨h0, hF⟩ := hF
      refine lv_idiv hx hb hdec (fun q => h0 ((k3i_eq hvb in32_0).mp q)) ?_
      rw [← h2, ← hnx, k3i_div hva hvb]
      exact hF ρ n H locs ls hR hE hl (List.forall_mem_cons.mpr ⟨w32_in _, hs⟩) hL
    · exact hF.elim
  case irem =>
    (try dsimp only at hF)
    (try dsimp only at hck)
    simp only [Bool.and_eq_true, decide_eq_true_eq] at hck
    obtain ⟨h1, h2⟩ := hck
    subst h1
    split at hF
    · obtain ⟨hvb, hs⟩ := List.forall_mem_cons.mp hs
      obtain ⟨hva, hs⟩ := List.forall_mem_cons.mp hs
      obtain ⟨h0, hF⟩ := hF
      refine lv_irem hx hb hdec (fun q => h0 ((k3i_eq hvb in32_0).mp q)) ?_
      rw [← h2, ← hnx, k3i_rem hva hvb h0]
      exact hF ρ n H locs ls hR hE hl (List.forall_mem_cons.mpr ⟨tmod_in32 hva hvb h0, hs⟩) hL
    · exact hF.elim
  case ladd =>
    (try dsimp only at hF)
    (try dsimp only at hck)
    simp only [Bool.and_eq_true, decide_eq_true_eq] at hck
    obtain ⟨h1, h2⟩ := hck
    subst h1
    split at hF
    · obtain ⟨hvb, hs⟩ := List.forall_mem_cons.mp hs
      obtain ⟨hva, hs⟩ := List.forall_mem_cons.mp hs
      refine lv_ladd hx hb hdec ?_
      rw [← h2, ← hnx, k3l_add]
      exact hF ρ n H locs ls hR hE hl (List.forall_mem_cons.mpr ⟨w64_in _, hs⟩) hL
    · exact hF.elim
  case lsub =>
    (try dsimp only at hF)
    (try dsimp only at hck)
    simp only [Bool.and_eq_true, decide_eq_true_eq] at hck
    obtain ⟨h1, h2⟩ := hck
    subst h1
    split at hF
    · obtain ⟨hvb, hs⟩ := List.forall_mem_cons.mp hs
      obtain ⟨hva, hs⟩ := List.forall_mem_cons.mp hs
      refine lv_lsub hx hb hdec ?_
      rw [← h2, ← hnx, k3l_sub]
      exact hF ρ n H locs ls hR hE hl (List.forall_mem_cons.mpr ⟨w64_in _, hs⟩) hL
    · exact hF.elim
  case lmul =>
    (try dsimp only at hF)
    (try dsimp only at hck)
    simp only [Bool.and_eq_true, decide_eq_true_eq] at hck
    obtain ⟨h1, h2⟩ := hck
    subst h1
    split at hF
    · obtain ⟨hvb, hs⟩ := List.forall_mem_cons.mp hs
      obtain ⟨hva, hs⟩ := List.forall_mem_cons.mp hs
      refine lv_lmul hx hb hdec ?_
      rw [← h2, ← hnx, k3l_mul]
      exact hF ρ n H locs ls hR hE hl (List.forall_mem_cons.mpr ⟨w64_in _, hs⟩) hL
    · exact hF.elim
  case ldiv =>
    (try dsimp only at hF)
    (try dsimp only at hck)
    simp only [Bool.and_eq_true, decide_eq_true_eq] at hck
    obtain ⟨h1, h2⟩ := hck
    subst h1
    split at hF
    · obtain ⟨hvb, hs⟩ := List.forall_mem_cons.mp hs
      obtain ⟨hva, hs⟩ := List.forall_mem_cons.mp hs
      obtain ⟨h0, hF⟩ := hF
      refine lv_ldiv hx hb hdec (fun q => h0 ((k3l_eq hvb (in32_64 in32_0)).mp q)) ?_
      rw [← h2, ← hnx, k3l_div hva hvb]
      exact hF ρ n H locs ls hR hE hl (List.forall_mem_cons.mpr ⟨w64_in _, hs⟩) hL
    · exact hF.elim
  case lrem =>
    (try dsimp only at hF)
    (try dsimp only at hck)
    simp only [Bool.and_eq_true, decide_eq_true_eq] at hck
    obtain ⟨h1, h2⟩ := hck
    subst h1
    split at hF
    · obtain ⟨hvb, hs⟩ := List.forall_mem_cons.mp hs
      obtain ⟨hva, hs⟩ := List.forall_mem_cons.mp hs
      obtain ⟨h0, hF⟩ := hF
      refine lv_lrem hx hb hdec (fun q => h0 ((k3l_eq hvb (in32_64 in32_0)).mp q)) ?_
      rw [← h2, ← hnx, k3l_rem hva hvb h0]
      exact hF ρ n H locs ls hR hE hl (List.forall_mem_cons.mpr ⟨tmod_in64 hva hvb h0, hs⟩) hL
    · exact hF.elim
  case lor =>
    (try dsimp only at hF)
    (try dsimp only at hck)
    simp only [Bool.and_eq_true, decide_eq_true_eq] at hck
    obtain ⟨h1, h2⟩ := hck
    subst h1
    split at hF
    · obtain ⟨hvb, hs⟩ := List.forall_mem_cons.mp hs
      obtain ⟨hva, hs⟩ := List.forall_mem_cons.mp hs
      refine lv_lor hx hb hdec ?_
      rw [← h2, ← hnx, ← k3l_back (Int64.ofInt _ ||| _)]
      exact hF ρ n H locs ls hR hE hl (List.forall_mem_cons.mpr ⟨k3l_in _, hs⟩) hL
    · exact hF.elim
  case lshl =>
    (try dsimp only at hF)
    (try dsimp only at hck)
    simp only [Bool.and_eq_true, decide_eq_true_eq] at hck
    obtain ⟨h1, h2⟩ := hck
    subst h1
    split at hF
    · obtain ⟨hvb, hs⟩ := List.forall_mem_cons.mp hs
      obtain ⟨hva, hs⟩ := List.forall_mem_cons.mp hs
      refine lv_lshl hx hb hdec (k3l_back _).symm ?_
      rw [← h2, ← hnx]
      exact hF ρ n H locs ls hR hE hl (List.forall_mem_cons.mpr ⟨k3l_in _, hs⟩) hL
    · exact hF.elim
  case lshr =>
    (try dsimp only at hF)
    (try dsimp only at hck)
    simp only [Bool.and_eq_true, decide_eq_true_eq] at hck
    obtain ⟨h1, h2⟩ := hck
    subst h1
    split at hF
    · obtain ⟨hvb, hs⟩ := List.forall_mem_cons.mp hs
      obtain ⟨hva, hs⟩ := List.forall_mem_cons.mp hs
      refine lv_lshr hx hb hdec (k3l_back _).symm ?_
      rw [← h2, ← hnx]
      exact hF ρ n H locs ls hR hE hl (List.forall_mem_cons.mpr ⟨k3l_in _, hs⟩) hL
    · exact hF.elim
  case lushr =>
    (try dsimp only at hF)
    (try dsimp only at hck)
    simp only [Bool.and_eq_true, decide_eq_true_eq] at hck
    obtain ⟨h1, h2⟩ := hck
    subst h1
    split at hF
    · obtain ⟨hvb, hs⟩ := List.forall_mem_cons.mp hs
      obtain ⟨hva, hs⟩ := List.forall_mem_cons.mp hs
      refine lv_lushr hx hb hdec (k3l_back _).symm ?_
      rw [← h2, ← hnx]
      exact hF ρ n H locs ls hR hE hl (List.forall_mem_cons.mpr ⟨k3l_in _, hs⟩) hL
    · exact hF.elim
  case i2l =>
    (try dsimp only at hF)
    (try dsimp only at hck)
    simp only [Bool.and_eq_true, decide_eq_true_eq] at hck
    obtain ⟨h1, h2⟩ := hck
    subst h1
    split at hF
    · obtain ⟨hva, hs⟩ := List.forall_mem_cons.mp hs
      refine lv_i2l hx hb hdec (i2l_of hva) ?_
      rw [← h2, ← hnx]
      exact hF ρ n H locs ls hR hE hl (List.forall_mem_cons.mpr ⟨in32_64 hva, hs⟩) hL
    · exact hF.elim
  case l2i =>
    (try dsimp only at hF)
    (try dsimp only at hck)
    simp only [Bool.and_eq_true, decide_eq_true_eq] at hck
    obtain ⟨h1, h2⟩ := hck
    subst h1
    split at hF
    · obtain ⟨hva, hs⟩ := List.forall_mem_cons.mp hs
      refine lv_l2i hx hb hdec (l2i_of _) ?_
      rw [← h2, ← hnx]
      exact hF ρ n H locs ls hR hE hl (List.forall_mem_cons.mpr ⟨w32_in _, hs⟩) hL
    · exact hF.elim
  case i2b =>
    (try dsimp only at hF)
    (try dsimp only at hck)
    simp only [Bool.and_eq_true, decide_eq_true_eq] at hck
    obtain ⟨h1, h2⟩ := hck
    subst h1
    split at hF
    · obtain ⟨hva, hs⟩ := List.forall_mem_cons.mp hs
      refine lv_i2b hx hb hdec (k3i_back _).symm ?_
      rw [← h2, ← hnx]
      exact hF ρ n H locs ls hR hE hl (List.forall_mem_cons.mpr ⟨k3i_in _, hs⟩) hL
    · exact hF.elim
  case lcmp =>
    (try dsimp only at hF)
    (try dsimp only at hck)
    simp only [Bool.and_eq_true, decide_eq_true_eq] at hck
    obtain ⟨h1, h2⟩ := hck
    subst h1
    split at hF
    · obtain ⟨hvb, hs⟩ := List.forall_mem_cons.mp hs
      obtain ⟨hva, hs⟩ := List.forall_mem_cons.mp hs
      refine W.lcmp hx hb hdec ?_
      rw [← h2, ← hnx, cmp3_of hva hvb]
      exact hF ρ n H locs ls hR hE hl (List.forall_mem_cons.mpr ⟨cmp3_in _ _, hs⟩) hL
    · exact hF.elim
  case dup =>
    (try dsimp only at hF)
    (try dsimp only at hck)
    simp only [Bool.and_eq_true, decide_eq_true_eq] at hck
    obtain ⟨h1, h2⟩ := hck
    subst h1
    split at hF
    · refine lv_dup hx hb hdec rfl ?_
      rw [← h2, ← hnx]
      exact hF ρ n H locs ls hR hE hl (List.forall_mem_cons.mpr ⟨hs _ List.mem_cons_self, hs⟩) hL
    · refine lv_dup hx hb hdec rfl ?_
      rw [← h2, ← hnx]
      exact hF ρ n H locs ls hR hE hl (List.forall_mem_cons.mpr ⟨hs _ List.mem_cons_self, hs⟩) hL
    · exact hF.elim
  case dup2 =>
    (try dsimp only at hF)
    (try dsimp only at hck)
    simp only [Bool.and_eq_true, decide_eq_true_eq] at hck
    obtain ⟨h1, h2⟩ := hck
    subst h1
    split at hF
    · refine lv_dup2_11 hx hb hdec rfl rfl ?_
      rw [← h2, ← hnx]
      exact hF ρ n H locs ls hR hE hl (List.forall_mem_cons.mpr ⟨hs _ List.mem_cons_self, List.forall_mem_cons.mpr ⟨hs _ (List.mem_cons_of_mem _ List.mem_cons_self), hs⟩⟩) hL
    · exact hF.elim
  case pop =>
    (try dsimp only at hF)
    (try dsimp only at hck)
    simp only [Bool.and_eq_true, decide_eq_true_eq] at hck
    obtain ⟨h1, h2⟩ := hck
    subst h1
    split at hF
    · refine lv_pop hx hb hdec rfl ?_
      rw [← h2, ← hnx]
      exact hF ρ n H locs ls hR hE hl (List.forall_mem_cons.mp hs).2 hL
    · refine lv_pop hx hb hdec rfl ?_
      rw [← h2, ← hnx]
      exact hF ρ n H locs ls hR hE hl (List.forall_mem_cons.mp hs).2 hL
    · exact hF.elim
  case goto =>
    (try dsimp only at hF)
    (try dsimp only at hck)
    simp only [Bool.and_eq_true, decide_eq_true_eq] at hck
    obtain ⟨h1, h2⟩ := hck
    subst h1
    refine lv_goto hx hb hdec h2 ?_
    exact hF ρ n H locs ls hR hE hl hs hL
  case ifCond cond off =>
    (try dsimp only at hF)
    (try dsimp only at hck)
    simp only [Bool.and_eq_true, decide_eq_true_eq] at hck
    obtain ⟨⟨h1, h2⟩, h3⟩ := hck
    subst h1
    split at hF
    · obtain ⟨hva, hs⟩ := List.forall_mem_cons.mp hs
      have ht := fun q => hF.1 q ρ n H locs ls hR hE hl hs hL
      have hf := fun q => hF.2 q ρ n H locs ls hR hE hl hs hL
      rw [hnx, h2] at hf
      cases cond
      · exact lv_if_eq hx hb hdec h3 (fun q => ht ((k3i_eq hva in32_0).mp q)) (fun q => hf (fun z => q ((k3i_eq hva in32_0).mpr z)))
      · exact lv_if_ne hx hb hdec h3 (fun q => ht (fun z => q ((k3i_eq hva in32_0).mpr z))) (fun q => hf (fun z => z ((k3i_eq hva in32_0).mp q)))
      · exact lv_if_lt hx hb hdec h3 (fun q => ht ((k3i_lt hva in32_0).mp q)) (fun q => hf (fun z => q ((k3i_lt hva in32_0).mpr z)))
      · exact lv_if_ge hx hb hdec h3 (fun q => ht ((k3i_le in32_0 hva).mp q)) (fun q => hf (fun z => q ((k3i_le in32_0 hva).mpr z)))
      · exact lv_if_gt hx hb hdec h3 (fun q => ht ((k3i_lt in32_0 hva).mp q)) (fun q => hf (fun z => q ((k3i_lt in32_0 hva).mpr z)))
      · exact lv_if_le hx hb hdec h3 (fun q => ht ((k3i_le hva in32_0).mp q)) (fun q => hf (fun z => q ((k3i_le hva in32_0).mpr z)))
    · exact hF.elim
  case if_icmp cond off =>
    (try dsimp only at hF)
    (try dsimp only at hck)
    simp only [Bool.and_eq_true, decide_eq_true_eq] at hck
    obtain ⟨⟨h1, h2⟩, h3⟩ := hck
    subst h1
    split at hF
    · obtain ⟨hvb, hs⟩ := List.forall_mem_cons.mp hs
      obtain ⟨hva, hs⟩ := List.forall_mem_cons.mp hs
      have ht := fun q => hF.1 q ρ n H locs ls hR hE hl hs hL
      have hf := fun q => hF.2 q ρ n H locs ls hR hE hl hs hL
      rw [hnx, h2] at hf
      cases cond
      · exact lv_icmp_eq hx hb hdec h3 (fun q => ht ((k3i_eq hva hvb).mp q)) (fun q => hf (fun z => q ((k3i_eq hva hvb).mpr z)))
      · exact lv_icmp_ne hx hb hdec h3 (fun q => ht (fun z => q ((k3i_eq hva hvb).mpr z))) (fun q => hf (fun z => z ((k3i_eq hva hvb).mp q)))
      · exact lv_icmp_lt hx hb hdec h3 (fun q => ht ((k3i_lt hva hvb).mp q)) (fun q => hf (fun z => q ((k3i_lt hva hvb).mpr z)))
      · exact lv_icmp_ge hx hb hdec h3 (fun q => ht ((k3i_le hvb hva).mp q)) (fun q => hf (fun z => q ((k3i_le hvb hva).mpr z)))
      · exact lv_icmp_gt hx hb hdec h3 (fun q => ht ((k3i_lt hvb hva).mp q)) (fun q => hf (fun z => q ((k3i_lt hvb hva).mpr z)))
      · exact lv_icmp_le hx hb hdec h3 (fun q => ht ((k3i_le hva hvb).mp q)) (fun q => hf (fun z => q ((k3i_le hva hvb).mpr z)))
    · exact hF.elim
  case tableswitch d9 lo hi os =>
    (try dsimp only at hF)
    (try dsimp only at hck)
    simp only [Bool.and_eq_true, decide_eq_true_eq] at hck
    obtain ⟨⟨⟨h1, h2⟩, h3⟩, h4⟩ := hck
    subst h1
    split at hF
    · obtain ⟨hva, hs⟩ := List.forall_mem_cons.mp hs
      rename_i x t _
      have hva : in32 x := hva
      obtain ⟨g1, g2, g3⟩ := sw_in _ _ _ h4 hF
      by_cases q : x < lo ∨ lo + ((aux.drop 1).length : Int) ≤ x
      · refine lv_tableOut hx hb hdec ?_ h3 ?_
        · rw [k3i_rt hva]; omega
        · exact g2 q ρ n H locs ls hR hE hl hs hL
      · obtain ⟨t9, off, q1, q2, q3⟩ := g3 (x - lo).toNat (by omega) (by omega)
        refine lv_tableIn (off := off) (tgt := pcOf cd t9) hx hb hdec ?_ ?_ ?_ q2 ?_
        · rw [k3i_rt hva]; omega
        · rw [k3i_rt hva]; omega
        · rw [k3i_rt hva, ← Array.getElem?_toList]; exact q1
        · exact q3 ρ n H locs ls hR hE hl hs hL
    · exact hF.elim
  case getfield idx =>
    (try dsimp only at hF)
    (try dsimp only at hck)
    simp only [Bool.and_eq_true, decide_eq_true_eq] at hck
    obtain ⟨⟨h1, h2⟩, h3⟩ := hck
    subst h1
    split at hF
    · rename_i h t
      obtain ⟨hv, hs⟩ := List.forall_mem_cons.mp hs
      obtain ⟨C, T, N, hC, hj, hlink⟩ := fldW_ok h3
      by_cases hk : kd h = a0 aux
      · rw [if_pos hk] at hF
        have hci : a0 aux < 13 := cl_lt hC
        have hh : h < n := kd_lt hv (by omega)
        have h186 : h < 186 := by omega
        obtain ⟨C', T', hC', hsz⟩ := sz_cl h186 (by omega)
        rw [hk, hC] at hC'
        cases hC'
        have he : (wsO κ ρ w n)[h]? = some (ρ h, .inr (a0 aux, (List.range (szI h).toNat).map (fvl ρ h (w h)))) := by rw [wsO_at hh, celE_obj (by omega), hk]
        have hfv : ((List.range (szI h).toNat).map (fvl ρ h (w h)))[a1 aux]? = some (fvl ρ h (w h) (a1 aux)) := by rw [List.getElem?_map, List.getElem?_range hj]; rfl
        refine va_get (v := fvl ρ h (w h) (a1 aux)) hx hb hts (lay_in hC) hown hK hP h he hC (a1 aux) hj (hts _ hlink) (fun _ h9 => h9) hfv hdec ?_
        rw [← h2, ← hnx]
        by_cases f2 : fty (a0 aux) (a1 aux) = 2
        · rw [if_pos f2] at hF
          have hrf : rfC h (a1 aux) := Or.inl ⟨by omega, by rw [hk]; exact f2⟩
          have hset : ¬ w h (a1 aux) = 0 ∧ PP p l e R s m args below meth c Z D κ A cd pr mx n0 w0 ρ0 (i + 1) l9 (mR (gr h (a1 aux)) :: t) w := by
            by_cases ph : pr.2.1 = 0
            · rw [if_pos ph] at hF
              exact ⟨hall (e8 ph).1 (h, a1 aux) (ref_in h186 (by omega) hrf), hF⟩
            · rw [if_neg ph] at hF; exact hF
          have hfe : fvl ρ h (w h) (a1 aux) = .ref (ρ (gr h (a1 aux))) := by unfold fvl; rw [hk, if_pos f2, if_neg hset.1]
          rw [hfe]
          exact hset.2 ρ n H locs ls hR hE hl (List.forall_mem_cons.mpr ⟨Or.inl ((hok h (a1 aux) hh).2 hrf hset.1), hs⟩) hL
        · rw [if_neg f2] at hF
          by_cases f1 : fty (a0 aux) (a1 aux) = 1
          · rw [if_pos f1] at hF
            have hfe : fvl ρ h (w h) (a1 aux) = .long (Int64.ofInt (w h (a1 aux))) := by unfold fvl; rw [hk, if_neg f2, if_pos f1]
            rw [hfe]
            exact hF ρ n H locs ls hR hE hl (List.forall_mem_cons.mpr ⟨hok.lg hh _ (by unfold tyC; rw [if_pos (by omega), hk]; exact f1), hs⟩) hL
          · rw [if_neg f1] at hF
            have hfe : fvl ρ h (w h) (a1 aux) = .int (Int32.ofInt (w h (a1 aux))) := by unfold fvl; rw [hk, if_neg f2, if_neg f1]
            rw [hfe]
            exact hF ρ n H locs ls hR hE hl (List.forall_mem_cons.mpr ⟨hok.lt hh _ (by unfold tyC; rw [if_pos (by omega), hk]; exact f1), hs⟩) hL
      · rw [if_neg hk] at hF; exact hF.elim
    · exact hF.elim
  case putfield idx =>
    (try dsimp only at hF)
    (try dsimp only at hck)
    simp only [Bool.and_eq_true, decide_eq_true_eq] at hck
    obtain ⟨⟨⟨h1, h2⟩, h3⟩, h5⟩ := hck
    subst h1
    obtain ⟨C, T, N, hC, hj, hlink⟩ := fldW_ok h3
    have hci : a0 aux < 13 := cl_lt hC
    obtain ⟨ct1, ct2, ct3, ct4, ct5⟩ := cl_ty hC hj
    have hpn : pcOf cd (i + 1) = pc + 3 := by rw [hnx, h2]
    split at hF
    · rename_i x h t
      obtain ⟨hva, hs⟩ := List.forall_mem_cons.mp hs
      obtain ⟨hv, hs⟩ := List.forall_mem_cons.mp hs
      by_cases hk : kd h = a0 aux
      · rw [if_pos hk] at hF
        have hh : h < n := kd_lt hv (by omega)
        have hty : ∀ k, k = 0 ∨ k = 3 → fty (a0 aux) (a1 aux) = k → (fvl ρ h (up1 (w h) (a1 aux) x) (a1 aux) = .int (Int32.ofInt x) ∧ okW n (ub w h (a1 aux) x) ∧ (n = 186 → allSet (ub w h (a1 aux) x))) := by
          intro k hk9 hf
          have hnr : ¬ rfC h (a1 aux) := fun q => by
            rcases q with ⟨_, q⟩ | q
            · rw [hk] at q; omega
            · omega
          refine ⟨fvl_num (by rw [hk]; omega) (by rw [hk]; omega), hok.up hh ?_ (fun q _ => absurd q hnr), fun q => (hall q).num hnr⟩
          rw [if_neg]
          · exact hva
          · unfold tyC; rw [if_pos (by omega), hk]; omega
        by_cases f0 : fty (a0 aux) (a1 aux) = 0
        · rw [if_pos f0] at hF
          obtain ⟨t1, t2, t3⟩ := hty 0 (Or.inl rfl) f0
          exact put_go hFr hK hR hE hh hk hC hj hlink h5 t1 (by rw [ct2 f0]; rfl) (by rw [ct2 f0]; rfl) t2 t3 hdec hpn hF hl hs hL
        · rw [if_neg f0] at hF
          by_cases f3 : fty (a0 aux) (a1 aux) = 3
          · rw [if_pos f3] at hF
            obtain ⟨t1, t2, t3⟩ := hty 3 (Or.inr rfl) f3
            obtain ⟨hb01, hF⟩ := hF
            refine put_go hFr hK hR hE hh hk hC hj hlink h5 t1 ?_ ?_ t2 t3 hdec hpn hF hl hs hL
            · rw [ct4 f3]; rcases hb01 with q | q <;> (subst q; rfl)
            · rw [ct4 f3]; rcases hb01 with q | q <;> (subst q; rfl)
          · rw [if_neg f3] at hF; exact hF.elim
      · rw [if_neg hk] at hF; exact hF.elim
    · rename_i x h t
      obtain ⟨hva, hs⟩ := List.forall_mem_cons.mp hs
      obtain ⟨hv, hs⟩ := List.forall_mem_cons.mp hs
      by_cases hk : kd h = a0 aux
      · rw [if_pos hk] at hF
        have hh : h < n := kd_lt hv (by omega)
        by_cases f1 : fty (a0 aux) (a1 aux) = 1
        · rw [if_pos f1] at hF
          have hnr : ¬ rfC h (a1 aux) := fun q => by
            rcases q with ⟨_, q⟩ | q
            · rw [hk] at q; omega
            · omega
          refine put_go hFr hK hR hE hh hk hC hj hlink h5 (fvl_lng (by rw [hk]; exact f1)) (by rw [ct3 f1]; rfl) (by rw [ct3 f1]; rfl) (hok.up hh ?_ (fun q _ => absurd q hnr)) (fun q => (hall q).num hnr) hdec hpn hF hl hs hL
          rw [if_pos]
          · exact hva
          · unfold tyC; rw [if_pos (by omega), hk]; exact f1
        · rw [if_neg f1] at hF; exact hF.elim
      · rw [if_neg hk] at hF; exact hF.elim
    · rename_i g h t
      obtain ⟨hva, hs⟩ := List.forall_mem_cons.mp hs
      obtain ⟨hv, hs⟩ := List.forall_mem_cons.mp hs
      by_cases hk : kd h = a0 aux
      · rw [if_pos hk] at hF
        have hh : h < n := kd_lt hv (by omega)
        by_cases f2 : fty (a0 aux) (a1 aux) = 2
        · rw [if_pos f2] at hF
          by_cases ph : pr.2.1 = 1
          · rw [if_pos ph] at hF
            obtain ⟨hg, hF⟩ := hF
            have hst := hs
            subst hg
            have hgl := gr_lt h (a1 aux)
            have hgn : gr h (a1 aux) < n := hva.elim id (fun q => by omega)
            refine put_go hFr hK hR hE hh hk hC hj hlink h5 (fvl_ref (by rw [hk]; exact f2)) ?_ ?_ (hok.up hh ?_ (fun _ _ => hgn)) (fun q => (hall q).rf) hdec hpn hF hl hst hL
            · rcases ct5 f2 with ⟨_, q⟩ | ⟨_, q⟩ <;> rw [q] <;> rfl
            · rcases ct5 f2 with ⟨_, q⟩ | ⟨_, q⟩ <;> rw [q] <;> rfl
            · rw [if_neg]
              · unfold in32; omega
              · unfold tyC; rw [if_pos (by omega), hk]; omega
          · rw [if_neg ph] at hF; exact hF.elim
        · rw [if_neg f2] at hF; exact hF.elim
      · rw [if_neg hk] at hF; exact hF.elim
    · exact hF.elim
  case iaload =>
    (try dsimp only at hF)
    (try dsimp only at hck)
    simp only [Bool.and_eq_true, decide_eq_true_eq] at hck
    obtain ⟨h1, h2⟩ := hck
    subst h1
    split at hF
    · rename_i j h t
      obtain ⟨hvj, hs⟩ := List.forall_mem_cons.mp hs
      obtain ⟨hv, hs⟩ := List.forall_mem_cons.mp hs
      have hvj : in32 j := hvj
      by_cases hk : kd h = 20 ∨ (kd h = 30 ∧ pr.2.1 = 2)
      · rw [if_pos hk] at hF
        obtain ⟨⟨hj0, hj1⟩, hF⟩ := hF
        by_cases hk2 : kd h = 20
        · have hh : h < n := kd_lt hv (by omega)
          have h186 : h < 186 := by omega
          rw [alen_lt h186] at hj1
          have he : (wsO κ ρ w n)[h]? = some (ρ h, .inl (κ 20, ((szI h).toNat, .inl (fun j => Int32.ofInt (w h j))))) := by rw [wsO_at hh, celE_int (Or.inl hk2), hk2]
          refine va_iald hx hb hK hP h 0 he rfl (ix_in hvj hj0 (by omega)) hdec ?_
          rw [← h2, ← hnx, ix_nat hvj]
          exact hF ρ n H locs ls hR hE hl (List.forall_mem_cons.mpr ⟨hok.lt hh _ (by unfold tyC; rw [if_neg (by omega), if_neg (by omega)]; decide), hs⟩) hL
        · obtain ⟨hk3, ph⟩ := hk.resolve_left hk2
          have h4 := kd_30 hk3
          have hst := hs
          subst h4
          obtain ⟨L, xs, s1, s2, s3, s4, s5, s6⟩ := hscr ph
          have ha : alen w 400 = (L : Int) := by unfold alen; rw [if_pos rfl, e5]; exact s4
          rw [ha] at hj1
          have hjL : j.toNat < L := by omega
          have e3' : ρ 400 = ρ0 400 := e3
          show W p l e R s m args below meth c H locs (cN n0 w0 n w) (sN n0 w0 n w) Z (F0 m pc ls (.int (Int32.ofInt j) :: .ref (ρ 400) :: t.map (toV ρ)))
          rw [e3']
          refine va_sld hx hb s1 s2 s3 hS (ix_in hvj hj0 hj1) hdec ?_
          rw [← h2, ← hnx, ix_nat hvj, show xs j.toNat = Int32.ofInt (w 400 j.toNat) by rw [e4, s6 _ hjL, k3i_back]]
          exact hF ρ n H locs ls hR hE hl (List.forall_mem_cons.mpr ⟨by show in32 _; rw [e4, s6 _ hjL]; exact k3i_in _, hst⟩) hL
      · rw [if_neg hk] at hF; exact hF.elim
    · exact hF.elim
  case laload =>
    (try dsimp only at hF)
    (try dsimp only at hck)
    simp only [Bool.and_eq_true, decide_eq_true_eq] at hck
    obtain ⟨h1, h2⟩ := hck
    subst h1
    split at hF
    · rename_i j h t
      obtain ⟨hvj, hs⟩ := List.forall_mem_cons.mp hs
      obtain ⟨hv, hs⟩ := List.forall_mem_cons.mp hs
      have hvj : in32 j := hvj
      by_cases hk2 : kd h = 21
      · rw [if_pos hk2] at hF
        obtain ⟨⟨hj0, hj1⟩, hF⟩ := hF
        have hh : h < n := kd_lt hv (by omega)
        have h186 : h < 186 := by omega
        rw [alen_lt h186] at hj1
        have he : (wsO κ ρ w n)[h]? = some (ρ h, .inl (κ 21, ((szI h).toNat, .inr (.inl (fun j => Int64.ofInt (w h j)))))) := by rw [wsO_at hh, celE_long hk2]
        refine va_lald hx hb hK hP h 1 he rfl (ix_in hvj hj0 (by omega)) hdec ?_
        rw [← h2, ← hnx, ix_nat hvj]
        exact hF ρ n H locs ls hR hE hl (List.forall_mem_cons.mpr ⟨hok.lg hh _ (by unfold tyC; rw [if_neg (by omega), if_pos hk2]), hs⟩) hL
      · rw [if_neg hk2] at hF; exact hF.elim
    · exact hF.elim
  case baload =>
    (try dsimp only at hF)
    (try dsimp only at hck)
    simp only [Bool.and_eq_true, decide_eq_true_eq] at hck
    obtain ⟨h1, h2⟩ := hck
    subst h1
    split at hF
    · rename_i j h t
      obtain ⟨hvj, hs⟩ := List.forall_mem_cons.mp hs
      obtain ⟨hv, hs⟩ := List.forall_mem_cons.mp hs
      have hvj : in32 j := hvj
      by_cases hk : kd h = 22 ∨ kd h = 23
      · rw [if_pos hk] at hF
        obtain ⟨⟨hj0, hj1⟩, hF⟩ := hF
        have hh : h < n := kd_lt hv (by omega)
        have h186 : h < 186 := by omega
        rw [alen_lt h186] at hj1
        have hin9 : in32 (w h j.toNat) := hok.lt hh _ (by unfold tyC; rw [if_neg (by omega), if_neg (by omega)]; decide)
        by_cases hk2 : kd h = 22
        · have he : (wsO κ ρ w n)[h]? = some (ρ h, .inl (κ 22, ((szI h).toNat, .inl (fun j => Int32.ofInt (w h j))))) := by rw [wsO_at hh, celE_int (Or.inr (Or.inl hk2)), hk2]
          refine va_bald hx hb hK hP h 2 he rfl (ix_in hvj hj0 (by omega)) hdec ?_
          rw [← h2, ← hnx, ix_nat hvj]
          exact hF ρ n H locs ls hR hE hl (List.forall_mem_cons.mpr ⟨hin9, hs⟩) hL
        · have hk3 := hk.resolve_left hk2
          have he : (wsO κ ρ w n)[h]? = some (ρ h, .inl (κ 23, ((szI h).toNat, .inl (fun j => Int32.ofInt (w h j))))) := by rw [wsO_at hh, celE_int (Or.inr (Or.inr hk3)), hk3]
          refine va_zald hx hb hK hP h 3 he rfl (ix_in hvj hj0 (by omega)) hdec ?_
          rw [← h2, ← hnx, ix_nat hvj]
          exact hF ρ n H locs ls hR hE hl (List.forall_mem_cons.mpr ⟨hin9, hs⟩) hL
      · rw [if_neg hk] at hF; exact hF.elim
    · exact hF.elim
  case aaload =>
    (try dsimp only at hF)
    (try dsimp only at hck)
    simp only [Bool.and_eq_true, decide_eq_true_eq] at hck
    obtain ⟨h1, h2⟩ := hck
    subst h1
    split at hF
    · rename_i j h t
      obtain ⟨hvj, hs⟩ := List.forall_mem_cons.mp hs
      obtain ⟨hv, hs⟩ := List.forall_mem_cons.mp hs
      have hvj : in32 j := hvj
      by_cases hk : kd h = 24
      · rw [if_pos hk] at hF
        by_cases ph : pr.2.1 = 0
        · rw [if_pos ph] at hF
          obtain ⟨⟨hj0, hj1⟩, hF⟩ := hF
          have hh : h < n := kd_lt hv (by omega)
          have h186 : h < 186 := by omega
          rw [alen_lt h186] at hj1
          have he : (wsO κ ρ w n)[h]? = some (ρ h, .inl (κ 24, ((szI h).toNat, .inr (.inr (.inr (.inr (fun j => if w h j = 0 then none else some (ρ (gr h j))))))))) := by rw [wsO_at hh, celE_ref hk]
          refine va_aldq hx hb hK hP h 4 he rfl (ix_in hvj hj0 (by omega)) hdec ?_
          have hset : ¬ w h j.toNat = 0 := hall (e8 ph).1 (h, j.toNat) (ref_in h186 (by omega) (Or.inr hk))
          rw [← h2, ← hnx, ix_nat hvj, if_neg hset]
          exact hF ρ n H locs ls hR hE hl (List.forall_mem_cons.mpr ⟨Or.inl ((hok h _ hh).2 (Or.inr hk) hset), hs⟩) hL
        · rw [if_neg ph] at hF; exact hF.elim
      · rw [if_neg hk] at hF; exact hF.elim
    · exact hF.elim
  case iastore =>
    (try dsimp only at hF)
    (try dsimp only at hck)
    simp only [Bool.and_eq_true, decide_eq_true_eq] at hck
    obtain ⟨h1, h2⟩ := hck
    subst h1
    split at hF
    · rename_i x j h t
      obtain ⟨hvx, hs⟩ := List.forall_mem_cons.mp hs
      obtain ⟨hvj, hs⟩ := List.forall_mem_cons.mp hs
      obtain ⟨hv, hs⟩ := List.forall_mem_cons.mp hs
      have hvj : in32 j := hvj
      by_cases hk : kd h = 20
      · rw [if_pos hk] at hF
        obtain ⟨⟨hj0, hj1⟩, hF⟩ := hF
        have hh : h < n := kd_lt hv (by omega)
        have h186 : h < 186 := by omega
        rw [alen_lt h186] at hj1
        have he : (wsO κ ρ w n)[h]? = some (ρ h, .inl (κ 20, ((szI h).toNat, .inl (fun j => Int32.ofInt (w h j))))) := by rw [wsO_at hh, celE_int (Or.inl hk), hk]
        refine va_iast hx hb hK hP hD hS h 0 he rfl (ix_in hvj hj0 (by omega)) hdec (fun H1 locs1 hP1 hD1 hS1 => ?_)
        have hset : (wsO κ ρ w n).set h (ρ h, .inl (κ 20, (szI h).toNat, .inl (upd (fun j => Int32.ofInt (w h j)) (Int32.ofInt j).toNatClampNeg (Int32.ofInt x)))) = wsO κ ρ (ub w h j.toNat x) n := by
          rw [ub_ubf, ← wsO_set hh, celE_int (Or.inl hk), hk, ix_nat hvj, upd_i]
        rw [hset] at hP1 hD1
        have hnr : ¬ rfC h j.toNat := fun q => by rcases q with ⟨q, _⟩ | q <;> omega
        rw [← h2, ← hnx]
        refine PP.store (f := up1 (w h) j.toNat x) hF hh hn hE hn0 (fun q => (hall q).num hnr) (hok.up hh ?_ (fun q _ => absurd q hnr)) hP1 hD1 hS1 hl hs hL
        rw [if_neg]
        · exact hvx
        · unfold tyC; rw [if_neg (by omega)]; rw [if_neg (by omega)]; decide
      · rw [if_neg hk] at hF; exact hF.elim
    · exact hF.elim
  case lastore =>
    (try dsimp only at hF)
    (try dsimp only at hck)
    simp only [Bool.and_eq_true, decide_eq_true_eq] at hck
    obtain ⟨h1, h2⟩ := hck
    subst h1
    split at hF
    · rename_i x j h t
      obtain ⟨hvx, hs⟩ := List.forall_mem_cons.mp hs
      obtain ⟨hvj, hs⟩ := List.forall_mem_cons.mp hs
      obtain ⟨hv, hs⟩ := List.forall_mem_cons.mp hs
      have hvj : in32 j := hvj
      by_cases hk : kd h = 21
      · rw [if_pos hk] at hF
        obtain ⟨⟨hj0, hj1⟩, hF⟩ := hF
        have hh : h < n := kd_lt hv (by omega)
        have h186 : h < 186 := by omega
        rw [alen_lt h186] at hj1
        have he : (wsO κ ρ w n)[h]? = some (ρ h, .inl (κ 21, ((szI h).toNat, .inr (.inl (fun j => Int64.ofInt (w h j)))))) := by rw [wsO_at hh, celE_long hk]
        refine va_last hx hb hK hP hD hS h 1 he rfl (ix_in hvj hj0 (by omega)) hdec (fun H1 locs1 hP1 hD1 hS1 => ?_)
        have hset : (wsO κ ρ w n).set h (ρ h, .inl (κ 21, (szI h).toNat, .inr (.inl (vp_updL (fun j => Int64.ofInt (w h j)) (Int32.ofInt j).toNatClampNeg (Int64.ofInt x))))) = wsO κ ρ (ub w h j.toNat x) n := by
          rw [ub_ubf, ← wsO_set hh, celE_long hk, ix_nat hvj, updL_i]
        rw [hset] at hP1 hD1
        have hnr : ¬ rfC h j.toNat := fun q => by rcases q with ⟨q, _⟩ | q <;> omega
        rw [← h2, ← hnx]
        refine PP.store (f := up1 (w h) j.toNat x) hF hh hn hE hn0 (fun q => (hall q).num hnr) (hok.up hh ?_ (fun q _ => absurd q hnr)) hP1 hD1 hS1 hl hs hL
        rw [if_pos]
        · exact hvx
        · unfold tyC; rw [if_neg (by omega)]; rw [if_pos hk]
      · rw [if_neg hk] at hF; exact hF.elim
    · exact hF.elim
  case bastore =>
    (try dsimp only at hF)
    (try dsimp only at hck)
    simp only [Bool.and_eq_true, decide_eq_true_eq] at hck
    obtain ⟨h1, h2⟩ := hck
    subst h1
    split at hF
    · rename_i x j h t
      obtain ⟨hvx, hs⟩ := List.forall_mem_cons.mp hs
      obtain ⟨hvj, hs⟩ := List.forall_mem_cons.mp hs
      obtain ⟨hv, hs⟩ := List.forall_mem_cons.mp hs
      have hvj : in32 j := hvj
      have go : ∀ (k9 : Nat) (y : Int) (t0 : Nat), (k9 = 22 ∨ k9 = 23) → kd h = k9 → 0 ≤ j → j < alen w h → in32 y → PP p l e R s m args below meth c Z D κ A cd pr mx n0 w0 ρ0 (i + 1) l9 t (ub w h j.toNat y) → ((H1 : Heap) → (locs1 : List Loc) → va_P D vwCl ((wsO κ ρ w n).set h (ρ h, .inl (κ k9, (szI h).toNat, .inl (upd (fun j => Int32.ofInt (w h j)) (Int32.ofInt j).toNatClampNeg (Int32.ofInt y))))) H1 → va_D A ((wsO κ ρ w n).set h (ρ h, .inl (κ k9, (szI h).toNat, .inl (upd (fun j => Int32.ofInt (w h j)) (Int32.ofInt j).toNatClampNeg (Int32.ofInt y))))) → va_S A s.heap H1 locs1 → W p l e R s m args below meth c H1 locs1 (cN n0 w0 n w) (sN n0 w0 n w) Z (F0 m (pc + 1) ls (t.map (toV ρ)))) := by
        intro k9 y t0 hk9 hk hj0 hj1 hy hF H1 locs1 hP1 hD1 hS1
        have hh : h < n := kd_lt hv (by omega)
        have h186 : h < 186 := by omega
        have hset : (wsO κ ρ w n).set h (ρ h, .inl (κ k9, (szI h).toNat, .inl (upd (fun j => Int32.ofInt (w h j)) (Int32.ofInt j).toNatClampNeg (Int32.ofInt y)))) = wsO κ ρ (ub w h j.toNat y) n := by
          rw [ub_ubf, ← wsO_set hh, celE_int (by omega), hk, ix_nat hvj, upd_i]
        rw [hset] at hP1 hD1
        have hnr : ¬ rfC h j.toNat := fun q => by rcases q with ⟨q, _⟩ | q <;> omega
        rw [← h2, ← hnx]
        refine PP.store (f := up1 (w h) j.toNat y) hF hh hn hE hn0 (fun q => (hall q).num hnr) (hok.up hh ?_ (fun q _ => absurd q hnr)) hP1 hD1 hS1 hl hs hL
        rw [if_neg]
        · exact hy
        · unfold tyC; rw [if_neg (by omega), if_neg (by omega)]; decide
      by_cases hk : kd h = 22
      · rw [if_pos hk] at hF
        obtain ⟨⟨hj0, hj1⟩, hF⟩ := hF
        have hh : h < n := kd_lt hv (by omega)
        have h186 : h < 186 := by omega
        have he : (wsO κ ρ w n)[h]? = some (ρ h, .inl (κ 22, ((szI h).toNat, .inl (fun j => Int32.ofInt (w h j))))) := by rw [wsO_at hh, celE_int (Or.inr (Or.inl hk)), hk]
        refine va_bast hx hb hK hP hD hS h 2 he rfl (ix_in hvj hj0 (by rw [alen_lt h186] at hj1; omega)) hdec ?_
        have hy : vp_nar .byte (Int32.ofInt x) = Int32.ofInt (w8 x) := by rw [vp_nar_byte]; exact (k3i_back _).symm
        rw [hy]
        exact go 22 (w8 x) 2 (Or.inl rfl) hk hj0 hj1 (k3i_in _) hF
      · rw [if_neg hk] at hF
        by_cases hk2 : kd h = 23
        · rw [if_pos hk2] at hF
          obtain ⟨⟨hj0, hj1⟩, h01, hF⟩ := hF
          have hh : h < n := kd_lt hv (by omega)
          have h186 : h < 186 := by omega
          have he : (wsO κ ρ w n)[h]? = some (ρ h, .inl (κ 23, ((szI h).toNat, .inl (fun j => Int32.ofInt (w h j))))) := by rw [wsO_at hh, celE_int (Or.inr (Or.inr hk2)), hk2]
          refine va_zast hx hb hK hP hD hS h 3 he rfl (ix_in hvj hj0 (by rw [alen_lt h186] at hj1; omega)) hdec ?_
          have hy : vp_nar .boolean (Int32.ofInt x) = Int32.ofInt x := by rcases h01 with q | q <;> (subst q; decide)
          rw [hy]
          exact go 23 x 3 (Or.inr rfl) hk2 hj0 hj1 hvx hF
        · rw [if_neg hk2] at hF; exact hF.elim
    · exact hF.elim
  case aastore =>
    (try dsimp only at hF)
    (try dsimp only at hck)
    simp only [Bool.and_eq_true, decide_eq_true_eq] at hck
    obtain ⟨h1, h2⟩ := hck
    subst h1
    split at hF
    · rename_i g j h t
      obtain ⟨hvx, hs⟩ := List.forall_mem_cons.mp hs
      obtain ⟨hvj, hs⟩ := List.forall_mem_cons.mp hs
      obtain ⟨hv, hs⟩ := List.forall_mem_cons.mp hs
      have hvj : in32 j := hvj
      by_cases hk : kd h = 24
      · rw [if_pos hk] at hF
        by_cases ph : pr.2.1 = 1
        · rw [if_pos ph] at hF
          obtain ⟨⟨hj0, hj1⟩, hg, hkg, hF⟩ := hF
          have hst := hs
          subst hg
          have hgl := gr_lt h j.toNat
          have hgn : gr h j.toNat < n := hvx.elim id (fun q => by omega)
          have hh : h < n := kd_lt hv (by omega)
          have h186 : h < 186 := by omega
          rw [alen_lt h186] at hj1
          have he : (wsO κ ρ w n)[h]? = some (ρ h, .inl (κ 24, ((szI h).toNat, .inr (.inr (.inr (.inr (fun j => if w h j = 0 then none else some (ρ (gr h j))))))))) := by rw [wsO_at hh, celE_ref hk]
          have hg9 : (wsO κ ρ w n)[gr h j.toNat]? = some (ρ (gr h j.toNat), .inr (2, (List.range (szI (gr h j.toNat)).toNat).map (fvl ρ (gr h j.toNat) (w (gr h j.toNat))))) := by rw [wsO_at hgn, celE_obj (by omega), hkg]
          refine va_astq (r := (RX2, TX2, 4)) hx hb hK hP hD hS h 4 (gr h j.toNat) 2 he rfl hg9 rfl (ix_in hvj hj0 (by omega)) hdec (fun H1 locs1 hP1 hD1 hS1 => ?_)
          have hfe : va_up (fun j => if w h j = 0 then none else some (ρ (gr h j))) (Int32.ofInt j).toNatClampNeg (some (ρ (gr h j.toNat))) = (fun k => if up1 (w h) j.toNat 1 k = 0 then none else some (ρ (gr h k))) := by
            rw [ix_nat hvj]
            funext k
            unfold va_up
            by_cases q : k = j.toNat
            · subst q; rw [if_pos rfl, up1_self, if_neg (by decide)]
            · rw [if_neg q, up1_ne _ q]
          have hset : (wsO κ ρ w n).set h (ρ h, .inl (κ 24, (szI h).toNat, .inr (.inr (.inr (.inr (va_up (fun j => if w h j = 0 then none else some (ρ (gr h j))) (Int32.ofInt j).toNatClampNeg (some (ρ (gr h j.toNat))))))))) = wsO κ ρ (ub w h j.toNat 1) n := by
            rw [hfe, ub_ubf, ← wsO_set hh, celE_ref hk]
          rw [hset] at hP1 hD1
          rw [← h2, ← hnx]
          refine PP.store (f := up1 (w h) j.toNat 1) hF hh hn hE hn0 (fun q => (hall q).rf) (hok.up hh ?_ (fun _ _ => hgn)) hP1 hD1 hS1 hl hst hL
          rw [if_neg]
          · unfold in32; omega
          · unfold tyC; rw [if_neg (by omega), if_neg (by omega)]; decide
        · rw [if_neg ph] at hF; exact hF.elim
      · rw [if_neg hk] at hF; exact hF.elim
    · exact hF.elim
  case arraylength =>
    (try dsimp only at hF)
    (try dsimp only at hck)
    simp only [Bool.and_eq_true, decide_eq_true_eq] at hck
    obtain ⟨h1, h2⟩ := hck
    subst h1
    split at hF
    · rename_i h t
      obtain ⟨hv, hs⟩ := List.forall_mem_cons.mp hs
      by_cases hk : kd h = 20 ∨ kd h = 21 ∨ kd h = 24 ∨ (kd h = 30 ∧ pr.2.1 = 2)
      · rw [if_pos hk] at hF
        by_cases hk3 : kd h = 30
        · have ph : pr.2.1 = 2 := by omega
          have h4 := kd_30 hk3
          have hst := hs
          subst h4
          obtain ⟨L, xs, s1, s2, s3, s4, s5, s6⟩ := hscr ph
          have ha : alen w 400 = (L : Int) := by unfold alen; rw [if_pos rfl, e5]; exact s4
          rw [ha] at hF
          show W p l e R s m args below meth c H locs (cN n0 w0 n w) (sN n0 w0 n w) Z (F0 m pc ls (.ref (ρ 400) :: t.map (toV ρ)))
          rw [e3]
          refine va_slen hx hb s1 s2 s3 hS hdec ?_
          rw [← h2, ← hnx]
          exact hF ρ n H locs ls hR hE hl (List.forall_mem_cons.mpr ⟨by show in32 _; unfold in32; omega, hst⟩) hL
        · have hh : h < n := kd_lt hv hk3
          have h186 : h < 186 := by omega
          rw [alen_lt h186] at hF
          have hz := in32_szI h186
          have hvl : Int32.ofNat (szI h).toNat = Int32.ofInt (szI h) := by rw [← Int32.ofInt_eq_ofNat]; congr 1; omega
          by_cases hk2 : kd h = 20
          · have he : (wsO κ ρ w n)[h]? = some (ρ h, .inl (κ 20, ((szI h).toNat, .inl (fun j => Int32.ofInt (w h j))))) := by rw [wsO_at hh, celE_int (Or.inl hk2), hk2]
            refine va_alen hx hb hK hP h 0 he rfl hvl hdec ?_
            rw [← h2, ← hnx]
            exact hF ρ n H locs ls hR hE hl (List.forall_mem_cons.mpr ⟨hz.1, hs⟩) hL
          · by_cases hk4 : kd h = 21
            · have he : (wsO κ ρ w n)[h]? = some (ρ h, .inl (κ 21, ((szI h).toNat, .inr (.inl (fun j => Int64.ofInt (w h j)))))) := by rw [wsO_at hh, celE_long hk4]
              refine va_alen hx hb hK hP h 1 he rfl hvl hdec ?_
              rw [← h2, ← hnx]
              exact hF ρ n H locs ls hR hE hl (List.forall_mem_cons.mpr ⟨hz.1, hs⟩) hL
            · have hk5 : kd h = 24 := by omega
              have he : (wsO κ ρ w n)[h]? = some (ρ h, .inl (κ 24, ((szI h).toNat, .inr (.inr (.inr (.inr (fun j => if w h j = 0 then none else some (ρ (gr h j))))))))) := by rw [wsO_at hh, celE_ref hk5]
              refine va_alen hx hb hK hP h 4 he rfl hvl hdec ?_
              rw [← h2, ← hnx]
              exact hF ρ n H locs ls hR hE hl (List.forall_mem_cons.mpr ⟨hz.1, hs⟩) hL
      · rw [if_neg hk] at hF; exact hF.elim
    · exact hF.elim
  case new idx =>
    (try dsimp only at hF)
    (try dsimp only at hck)
    simp only [Bool.and_eq_true, decide_eq_true_eq] at hck
    obtain ⟨⟨h1, h2⟩, h3⟩ := hck
    subst h1
    obtain ⟨g1, g2, g3, hF⟩ := hF
    have hnn : (w 401 0).toNat = n := by rw [hn0]; simp
    rw [hnn] at g1 hF
    have hl186 : n < 186 := by
      by_cases q : n < 186
      · exact q
      · have : n = 186 := by omega
        rw [kd_big (by omega) (by omega)] at g1
        omega
    split at h3
    · rename_i C T N hC
      simp only [Bool.and_eq_true] at h3
      obtain ⟨⟨k1, k2⟩, k3⟩ := h3
      obtain ⟨C', T', hC', hsz⟩ := sz_cl hl186 (by omega)
      rw [g1, hC] at hC'
      cases hC'
      have hcp := hcap (fun h => if h = n then 0 else ρ h) (n + 1) (mkNew w) (hE.new hn0 hl186 g3.1 g3.2) (by omega)
      rw [cN_new hn0 hl186 e1, sN_new hn0 hl186 e1] at hcp
      refine va_new (ci := a0 aux) (fs := (List.range (szI n).toNat).map (fvl ρ n (fun _ => 0))) hx hb hts (lay_in hC) (tyOf T) (fun k hk9 => (cl_ty hC hk9).1) hown (hts _ (hasW_in k1 rfl)) (hts _ (hasW_in k2 rfl)) (hts _ (hasW_in k3 rfl)) hK hP hD hS hA hC (fun j hj => ?_) hcp.1 hcp.2 hdec (fun q H1 hP1 hD1 hS1 => ?_)
      · obtain ⟨c1, c2, c3, c4, c5⟩ := cl_ty hC hj
        have hv9 : vp_V ((List.range (szI n).toNat).map (fvl ρ n (fun _ => 0))) j = fvl ρ n (fun _ => 0) j := by
          unfold vp_V
          rw [List.getD_eq_getElem?_getD, List.getElem?_map, List.getElem?_range hj]; rfl
        rw [hv9]
        unfold fvl
        rw [g1]
        by_cases f2 : fty (a0 aux) j = 2
        · rw [if_pos f2, if_pos rfl]
          rcases c5 f2 with ⟨_, q⟩ | ⟨_, q⟩ <;> rw [q] <;> rfl
        · rw [if_neg f2]
          by_cases f1 : fty (a0 aux) j = 1
          · rw [if_pos f1, c3 f1]; rfl
          · rw [if_neg f1]
            by_cases f0 : fty (a0 aux) j = 0
            · rw [c2 f0]; rfl
            · have hc := List.all_eq_true.mp ty_ok (a0 aux) (List.mem_range.mpr (cl_lt hC))
              unfold tyB at hc
              rw [hC] at hc
              have hc2 := List.all_eq_true.mp hc j (List.mem_range.mpr hj)
              simp only [Bool.and_eq_true] at hc2
              cases e9 : tyOf T j <;> rw [e9] at hc2 <;> simp at hc2 <;> first | rfl | omega
      · have hpu := wsO_push (κ := κ) (ρ := ρ) (q := q) hn0 hl186 hok
        rw [celE_obj (by omega), g1] at hpu
        rw [← hpu] at hP1 hD1
        have hag : ∀ g, g < n → (fun h => if h = n then q else ρ h) g = ρ g := fun g hg => if_neg (by omega)
        have hag4 : (fun h => if h = n then q else ρ h) 400 = ρ 400 := if_neg (by omega)
        have hfin := hF (fun h => if h = n then q else ρ h) (n + 1) H1 locs ls ⟨hP1, hD1, hS1, hok.new hn0 hl186, by omega, by rw [mkNew_c hn0 (by omega), if_pos rfl]; push_cast; rfl, fun q9 => ?_⟩ (hE.new hn0 hl186 g3.1 g3.2) (fun v hv => (hl v hv).mono (by omega)) (List.forall_mem_cons.mpr ⟨Or.inl (by omega), fun v hv => (hs v hv).mono (by omega)⟩) (hL.agree hl hag hag4)
        · rw [cN_new hn0 hl186 e1, sN_new hn0 hl186 e1, List.map_cons, map_agree hs hag hag4] at hfin
          rw [← h2, ← hnx]
          have hq : toV (fun h => if h = n then q else ρ h) (mR n) = .ref q := by show Value.ref (if n = n then q else ρ n) = _; rw [if_pos rfl]
          rw [hq] at hfin
          exact hfin
        · have h5 : n = 185 := by omega
          rw [h5, kd_185] at g1
          omega
    · cases h3
  case newarray ty =>
    (try dsimp only at hF)
    (try dsimp only at hck)
    simp only [Bool.and_eq_true, decide_eq_true_eq] at hck
    obtain ⟨⟨⟨⟨h1, h2⟩, h3⟩, h4⟩, h5⟩ := hck
    subst h1
    split at hF
    · rename_i x t
      obtain ⟨hvx, hs⟩ := List.forall_mem_cons.mp hs
      have hst := hs
      obtain ⟨g1, g2, g3, g4, hF⟩ := hF
      have hnn : (w 401 0).toNat = n := by rw [hn0]; simp
      rw [hnn] at g1 g2 hF
      have hl186 : n < 186 := by
        by_cases q : n < 186
        · exact q
        · rw [kd_big (by omega) (by omega)] at g1
          omega
      have hz := in32_szI hl186
      subst g2
      have hkd : kd n = 20 ∨ kd n = 21 ∨ kd n = 22 ∨ kd n = 23 := by
        rw [g1, h3]
        cases ty <;> simp [akd] at h4 ⊢
      have hcp := hcap (fun h => if h = n then 0 else ρ h) (n + 1) (mkNew w) (hE.new hn0 hl186 g3.1 g3.2) (by omega)
      rw [cN_new hn0 hl186 e1, sN_new hn0 hl186 e1] at hcp
      have hnr : ∀ j, ¬ rfC n j := fun j q => by rcases q with ⟨q, _⟩ | q <;> omega
      have key : ∀ (a : vp_A) (tyv : FieldType) (t0 : Nat), newarray.typeOf ty = tyv → (tysO κ)[t0]? = some (κ (kd n), tyv) → celE κ ρ n (fun _ => 0) = .inl (κ (kd n), a) → (∀ cA : ClassId, vp_cell cA a = arrV cA (szI n).toNat (fun _ => defaultValue tyv)) → (tyv = .int ∨ tyv = .long ∨ tyv = .byte ∨ tyv = .boolean) → W p l e R s m args below meth c H locs (cN n0 w0 n w) (sN n0 w0 n w) Z (F0 m pc ls (.int (Int32.ofInt (szI n)) :: t.map (toV ρ))) := by
        intro a tyv t0 hty ht0 hce hca htv
        refine va_newa hx hb (hts _ (hasW_in h5 rfl)) hty hK hP hD hS hA (a0 := a) hca (fun q => by rw [k3i_z, k3i_lt hz.1 in32_0] at q; omega) (ix_nat hz.1) (by rcases htv with q | q | q | q <;> (subst q; simp [componentBytes]; omega)) hcp.1 hcp.2 hdec (fun q cA H1 hK1 hP1 hD1 hS1 => ?_)
        have hcA : cA = κ (kd n) := by
          have r1 := (hK1.2 (tysO κ).length (cA, tyv) (by simp)).2
          have r2 := (hK.2 t0 _ ht0).2
          have r3 : s.vm.findClass ("[" ++ tyv.toString) = some cA := by rcases htv with q | q | q | q <;> (subst q; exact r1)
          have r4 : s.vm.findClass ("[" ++ tyv.toString) = some (κ (kd n)) := by rcases htv with q | q | q | q <;> (subst q; exact r2)
          exact Option.some.inj (r3.symm.trans r4)
        subst hcA
        have hpu := wsO_push (κ := κ) (ρ := ρ) (q := q) hn0 hl186 hok
        rw [hce] at hpu
        rw [← hpu] at hP1 hD1
        have hag : ∀ g, g < n → (fun h => if h = n then q else ρ h) g = ρ g := fun g hg => if_neg (by omega)
        have hag4 : (fun h => if h = n then q else ρ h) 400 = ρ 400 := if_neg (by omega)
        have hfin := hF (fun h => if h = n then q else ρ h) (n + 1) H1 locs ls ⟨hP1, hD1, hS1, hok.new hn0 hl186, by omega, by rw [mkNew_c hn0 (by omega), if_pos rfl]; push_cast; rfl, fun q9 => (g4 (by rw [hn0]; omega)).new hn0 hnr⟩ (hE.new hn0 hl186 g3.1 g3.2) (fun v hv => (hl v hv).mono (by omega)) (List.forall_mem_cons.mpr ⟨Or.inl (by omega), fun v hv => (hst v hv).mono (by omega)⟩) (hL.agree hl hag hag4)
        rw [cN_new hn0 hl186 e1, sN_new hn0 hl186 e1, List.map_cons, map_agree hst hag hag4] at hfin
        rw [← h2, ← hnx]
        have hq : toV (fun h => if h = n then q else ρ h) (mR n) = .ref q := by show Value.ref (if n = n then q else ρ n) = _; rw [if_pos rfl]
        rw [hq] at hfin
        exact hfin
      rw [g1, h3] at hkd
      cases ty <;> simp [akd] at hkd h4 h3
      · exact key ((szI n).toNat, .inl (fun _ => Int32.ofInt 0)) .boolean 3 rfl (by rw [g1, h3]; rfl) (by rw [celE_int (by omega)]) (fun cA => rfl) (by simp)
      · exact key ((szI n).toNat, .inl (fun _ => Int32.ofInt 0)) .byte 2 rfl (by rw [g1, h3]; rfl) (by rw [celE_int (by omega)]) (fun cA => rfl) (by simp)
      · exact key ((szI n).toNat, .inl (fun _ => Int32.ofInt 0)) .int 0 rfl (by rw [g1, h3]; rfl) (by rw [celE_int (by omega)]) (fun cA => rfl) (by simp)
      · exact key ((szI n).toNat, .inr (.inl (fun _ => Int64.ofInt 0))) .long 1 rfl (by rw [g1, h3]; rfl) (by rw [celE_long (by omega), g1, h3]) (fun cA => rfl) (by simp)
    · exact hF.elim
  case anewarray idx =>
    (try dsimp only at hF)
    (try dsimp only at hck)
    simp only [Bool.and_eq_true, decide_eq_true_eq] at hck
    obtain ⟨⟨h1, h2⟩, h3⟩ := hck
    subst h1
    split at hF
    · rename_i x t
      obtain ⟨hvx, hs⟩ := List.forall_mem_cons.mp hs
      have hst := hs
      obtain ⟨g1, g2, g3, hF⟩ := hF
      have hnn : (w 401 0).toNat = n := by rw [hn0]; simp
      rw [hnn] at g1 g2 hF
      have hl186 : n < 186 := by
        by_cases q : n < 186
        · exact q
        · rw [kd_big (by omega) (by omega)] at g1
          omega
      have hz := in32_szI hl186
      subst g2
      have hcp := hcap (fun h => if h = n then 0 else ρ h) (n + 1) (mkNew w) (hE.new hn0 hl186 g3.1 g3.2) (by omega)
      rw [cN_new hn0 hl186 e1, sN_new hn0 hl186 e1] at hcp
      refine va_newq (C := RX2) (N' := (szI n).toNat) hx hb hown (hts _ (hasW_in h3 rfl)) hAO hK hP hD hS hA (fun q => by rw [k3i_z, k3i_lt hz.1 in32_0] at q; omega) (ix_nat hz.1) (by omega) hcp.1 hcp.2 hdec (fun q cA H1 hK1 hP1 hD1 hS1 => ?_)
      have hcA : cA = κ 24 := by
        have r1 := (hK1.2 (tysO κ).length (cA, .object RX2) (by simp)).2
        have r2 := (hK.2 4 (κ 24, .object "ThirdHands$Image") rfl).2
        obtain ⟨_, _, _, _, _, r1⟩ := r1
        obtain ⟨_, _, _, _, _, r2⟩ := r2
        exact Option.some.inj (r1.symm.trans r2)
      subst hcA
      have hpu := wsO_push (κ := κ) (ρ := ρ) (q := q) hn0 hl186 hok
      rw [celE_ref g1] at hpu
      have hpu : wsO κ (fun h => if h = n then q else ρ h) (mkNew w) (n + 1) = wsO κ ρ w n ++ [(q, .inl (κ 24, (szI n).toNat, .inr (.inr (.inr (.inr (fun _ => none))))))] := hpu
      rw [← hpu] at hP1 hD1
      have hag : ∀ g, g < n → (fun h => if h = n then q else ρ h) g = ρ g := fun g hg => if_neg (by omega)
      have hag4 : (fun h => if h = n then q else ρ h) 400 = ρ 400 := if_neg (by omega)
      have hfin := hF (fun h => if h = n then q else ρ h) (n + 1) H1 locs ls ⟨hP1, hD1, hS1, hok.new hn0 hl186, by omega, by rw [mkNew_c hn0 (by omega), if_pos rfl]; push_cast; rfl, fun q9 => ?_⟩ (hE.new hn0 hl186 g3.1 g3.2) (fun v hv => (hl v hv).mono (by omega)) (List.forall_mem_cons.mpr ⟨Or.inl (by omega), fun v hv => (hst v hv).mono (by omega)⟩) (hL.agree hl hag hag4)
      · rw [cN_new hn0 hl186 e1, sN_new hn0 hl186 e1, List.map_cons, map_agree hst hag hag4] at hfin
        rw [← h2, ← hnx]
        have hq : toV (fun h => if h = n then q else ρ h) (mR n) = .ref q := by show Value.ref (if n = n then q else ρ n) = _; rw [if_pos rfl]
        rw [hq] at hfin
        exact hfin
      · have h5 : n = 185 := by omega
        rw [h5, kd_185] at g1
        omega
    · exact hF.elim
  case return_ =>
    (try dsimp only at hF)
    (try dsimp only at hck)
    simp only [decide_eq_true_eq] at hck
    subst hck
    split at hF
    · by_cases q : pr.1 = 0
      · rw [if_pos q] at hF
        exact hret ρ n w H locs none pc ls .return_ hR hE trivial hF hdec (Or.inl ⟨rfl, rfl, q⟩) hL.size
      · rw [if_neg q] at hF; exact hF.elim
    · exact hF.elim
  case ireturn =>
    (try dsimp only at hF)
    (try dsimp only at hck)
    simp only [decide_eq_true_eq] at hck
    subst hck
    split at hF
    · rename_i x
      have hv := hs _ List.mem_cons_self
      by_cases q : pr.1 = 1
      · rw [if_pos q] at hF
        exact hret ρ n w H locs (mI x) pc ls .ireturn hR hE hv hF hdec (Or.inr (Or.inl ⟨x, rfl, rfl, Or.inl q⟩)) hL.size
      · rw [if_neg q] at hF
        by_cases q2 : pr.1 = 2
        · rw [if_pos q2] at hF
          exact hret ρ n w H locs (mI x) pc ls .ireturn hR hE hv hF.2 hdec (Or.inr (Or.inl ⟨x, rfl, rfl, Or.inr ⟨q2, hF.1⟩⟩)) hL.size
        · rw [if_neg q2] at hF; exact hF.elim
    · exact hF.elim
  case lreturn =>
    (try dsimp only at hF)
    (try dsimp only at hck)
    simp only [decide_eq_true_eq] at hck
    subst hck
    split at hF
    · rename_i x
      have hv := hs _ List.mem_cons_self
      by_cases q : pr.1 = 3
      · rw [if_pos q] at hF
        exact hret ρ n w H locs (mL x) pc ls .lreturn hR hE hv hF hdec (Or.inr (Or.inr (Or.inl ⟨x, rfl, rfl, q⟩))) hL.size
      · rw [if_neg q] at hF; exact hF.elim
    · exact hF.elim
  case areturn =>
    (try dsimp only at hF)
    (try dsimp only at hck)
    simp only [decide_eq_true_eq] at hck
    subst hck
    split at hF
    · rename_i x
      have hv := hs _ List.mem_cons_self
      by_cases q : pr.1 = 4
      · rw [if_pos q] at hF
        exact hret ρ n w H locs (mR x) pc ls .areturn hR hE hv hF hdec (Or.inr (Or.inr (Or.inr ⟨x, rfl, rfl, q⟩))) hL.size
      · rw [if_neg q] at hF; exact hF.elim
    · exact hF.elim
  case invokevirtual idx =>
    (try dsimp only at hF)
    (try dsimp only at hck)
    simp only [Bool.and_eq_true, decide_eq_true_eq] at hck
    obtain ⟨⟨⟨⟨h1, h2⟩, h3⟩, h4⟩, h5⟩ := hck
    subst h1
    split at h5
    · rename_i C T N hC
      simp only [Bool.and_eq_true, decide_eq_true_eq] at h5
      obtain ⟨⟨⟨⟨⟨k1, k2⟩, k3⟩, k4⟩, k5⟩, k6⟩ := h5
      by_cases hc1 : catS (s9.drop (a2 aux + 1)) ≤ 8 ∧ rcvK (nthA none s9 (a2 aux)) = nthA 0 aux 3
      · rw [if_pos hc1] at hF
        obtain ⟨hcat, hrcv⟩ := hc1
        obtain ⟨g, hg, hkg⟩ := rcv_is hrcv k2
        obtain ⟨hsp, hlen2⟩ := split_at hg (fun q => by cases q)
        by_cases hph : phM (a1 aux) = 0
        · rw [if_pos hph] at hF
          have hcw : n = 186 ∧ cw (a1 aux) (s9.take (a2 aux + 1)).reverse w (fun r w' => PP p l e R s m args below meth c Z D κ A cd pr mx n0 w0 ρ0 (i + 1) l9 (pushR (rkM (a1 aux)) r (s9.drop (a2 aux + 1))) w') := by
            by_cases p0 : pr.2.1 = 0
            · rw [if_pos p0] at hF; exact ⟨(e8 p0).1, hF⟩
            · rw [if_neg p0] at hF
              by_cases p2 : pr.2.1 = 2
              · rw [if_pos p2] at hF; exact ⟨by have := hF.1; rw [hn0] at this; omega, hF.2⟩
              · rw [if_neg p2] at hF; exact hF.elim
          have hal0 : nAl (a1 aux) = 0 := ph_al (by omega)
          have hokv : ∀ v ∈ (s9.take (a2 aux + 1)).reverse, okV n v := fun v hv => hs v (List.mem_of_mem_take (List.mem_reverse.mp hv))
          have hokr : ∀ v ∈ s9.drop (a2 aux + 1), okV n v := fun v hv => hs v (List.mem_of_mem_drop hv)
          obtain ⟨rm, r1, r2, r3, r4, hM⟩ := hcall (a1 aux) _ w _ h3 hcw.2 ρ n H.size hok (by omega) hn0 hall (fun _ => hcw.1) hokv (Nat.le_trans hbs hS.1) (fun h hh => hAb _ (hD.2 h _ (wsO_at hh)))
          have hgm : mR g ∈ s9 := by rw [← hg]; exact nthA_mem _ _ _ rfl (by rw [hg]; intro q; cases q)
          have hgn : g < n := kd_lt (hs (mR g) hgm) (by rw [hkg]; omega)
          have he : (wsO κ ρ w n)[g]? = some (ρ g, .inr (nthA 0 aux 3, (List.range (szI g).toNat).map (fvl ρ g (w g)))) := by rw [wsO_at hgn, celE_obj (by omega), hkg]
          have htk : s9.take (a2 aux + 1) = s9.take (a2 aux) ++ [mR g] := take_at hg hlen2
          have hargs : (s9.take (a2 aux + 1)).reverse.map (toV ρ) = .ref (ρ g) :: ((s9.take (a2 aux)).map (toV ρ)).reverse := by
            rw [htk, List.reverse_append, List.map_append, List.map_reverse, List.map_reverse]; rfl
          have hstk : s9.map (toV ρ) = ((s9.take (a2 aux)).map (toV ρ)).reverse.reverse ++ .ref (ρ g) :: (s9.drop (a2 aux + 1)).map (toV ρ) := by
            rw [List.reverse_reverse, ← stk_at (ρ := ρ) hsp]
          obtain ⟨y1, y2, y3⟩ := yW_ok h4
          have hmx := mx_le (a1 aux)
          have hcp := hcap ρ n w hE hn
          refine call_go (j := a1 aux) (a := (Value.ref (ρ g) :: ((s9.take (a2 aux)).map (toV ρ)).reverse).toArray) hA hR hE (va_runV (C := C) (b := ρ g) (As := ((s9.take (a2 aux)).map (toV ρ)).reverse) ⟨hx, hb, hml, hown, hts⟩ hM (cwV (a2 aux) hts (good_cons (hasW_in k3 rfl) (good_cons (hasW_in k4 rfl) (good_cons (hasW_in k5 rfl) (good_cons (hasW_in k6 rfl) (wsM_good h3))))) rfl r1 r2 ⟨k1, y1, y2, y3⟩ ⟨r3, by omega⟩) ⟨PreU.blind hEV, va_recv hK hP hC he, fun U hU hW => ⟨by rw [hargs], pre_at hEV hK hP hD hnest hAO hEs hbs hAb hS U hU hW⟩⟩ rfl (by simp; omega) hL.size hstk (lv_room (by rw [catS_eq]; exact hcat)) hdec ⟨by rw [hal0]; exact hcp.1, by rw [hal0, Nat.add_zero, Nat.sub_self]; exact hcp.2⟩) (Or.inl hal0) (by omega) (by rw [hnx, h2]) (fun v w' q => q) hl hokr hL
        · rw [if_neg hph] at hF; exact hF.elim
      · rw [if_neg hc1] at hF; exact hF.elim
    · cases h5
  case invokestatic idx =>
    (try dsimp only at hF)
    (try dsimp only at hck)
    simp only [Bool.and_eq_true, decide_eq_true_eq] at hck
    obtain ⟨⟨h1, h2⟩, hck⟩ := hck
    subst h1
    split at hF
    · rename_i hk9
      rw [hk9] at hck
      (try dsimp only at hck)
      simp only [Bool.and_eq_true] at hck
      obtain ⟨⟨⟨k1, k2⟩, k3⟩, k4⟩ := hck
      split at hF
      · obtain ⟨hvb, hs⟩ := List.forall_mem_cons.mp hs
        obtain ⟨hva, hs⟩ := List.forall_mem_cons.mp hs
        rename_i b a t _ _
        by_cases hcat : catS t ≤ 8
        · rw [if_pos hcat] at hF
          have hcp := hcap ρ n w hE hn
          refine va_mmax hx hb (hml.trans hL.size.symm) hown (hts _ (hasW_in k1 rfl)) (hts _ (hasW_in k2 rfl)) (hts _ (hasW_in k3 rfl)) (hts _ (hasW_in k4 rfl)) hrm.2 (by rw [catS_eq]; omega) hcp.1 hcp.2 hdec ?_
          rw [← h2, ← hnx, mx32 hva hvb]
          exact hF ρ n H locs ls hR hE hl (List.forall_mem_cons.mpr ⟨mxin32 hva hvb, hs⟩) hL
        · rw [if_neg hcat] at hF; exact hF.elim
      · exact hF.elim
    · rename_i hk9
      rw [hk9] at hck
      (try dsimp only at hck)
      simp only [Bool.and_eq_true] at hck
      obtain ⟨⟨⟨k1, k2⟩, k3⟩, k4⟩ := hck
      split at hF
      · obtain ⟨hvb, hs⟩ := List.forall_mem_cons.mp hs
        obtain ⟨hva, hs⟩ := List.forall_mem_cons.mp hs
        rename_i b a t _ _
        by_cases hcat : catS t ≤ 8
        · rw [if_pos hcat] at hF
          have hcp := hcap ρ n w hE hn
          refine va_mmin hx hb (hml.trans hL.size.symm) hown (hts _ (hasW_in k1 rfl)) (hts _ (hasW_in k2 rfl)) (hts _ (hasW_in k3 rfl)) (hts _ (hasW_in k4 rfl)) hrm.2 (by rw [catS_eq]; omega) hcp.1 hcp.2 hdec ?_
          rw [← h2, ← hnx, mn32 hva hvb]
          exact hF ρ n H locs ls hR hE hl (List.forall_mem_cons.mpr ⟨mnin32 hva hvb, hs⟩) hL
        · rw [if_neg hcat] at hF; exact hF.elim
      · exact hF.elim
    · rename_i hk9
      rw [hk9] at hck
      (try dsimp only at hck)
      simp only [Bool.and_eq_true] at hck
      obtain ⟨⟨⟨k1, k2⟩, k3⟩, k4⟩ := hck
      split at hF
      · obtain ⟨hvb, hs⟩ := List.forall_mem_cons.mp hs
        obtain ⟨hva, hs⟩ := List.forall_mem_cons.mp hs
        rename_i b a t _ _
        by_cases hcat : catS t ≤ 8
        · rw [if_pos hcat] at hF
          have hcp := hcap ρ n w hE hn
          refine va_mmax_long hx hb (hml.trans hL.size.symm) hown (hts _ (hasW_in k1 rfl)) (hts _ (hasW_in k2 rfl)) (hts _ (hasW_in k3 rfl)) (hts _ (hasW_in k4 rfl)) hrm.2 (by rw [catS_eq]; omega) hcp.1 hcp.2 hdec ?_
          rw [← h2, ← hnx, mx64 hva hvb]
          exact hF ρ n H locs ls hR hE hl (List.forall_mem_cons.mpr ⟨mxin64 hva hvb, hs⟩) hL
        · rw [if_neg hcat] at hF; exact hF.elim
      · exact hF.elim
    · rename_i hk9
      rw [hk9] at hck
      (try dsimp only at hck)
      simp only [Bool.and_eq_true] at hck
      obtain ⟨⟨⟨k1, k2⟩, k3⟩, k4⟩ := hck
      split at hF
      · obtain ⟨hvb, hs⟩ := List.forall_mem_cons.mp hs
        obtain ⟨hva, hs⟩ := List.forall_mem_cons.mp hs
        rename_i b a t _ _
        by_cases hcat : catS t ≤ 8
        · rw [if_pos hcat] at hF
          have hcp := hcap ρ n w hE hn
          refine va_mmin_long hx hb (hml.trans hL.size.symm) hown (hts _ (hasW_in k1 rfl)) (hts _ (hasW_in k2 rfl)) (hts _ (hasW_in k3 rfl)) (hts _ (hasW_in k4 rfl)) hrm.2 (by rw [catS_eq]; omega) hcp.1 hcp.2 hdec ?_
          rw [← h2, ← hnx, mn64 hva hvb]
          exact hF ρ n H locs ls hR hE hl (List.forall_mem_cons.mpr ⟨mnin64 hva hvb, hs⟩) hL
        · rw [if_neg hcat] at hF; exact hF.elim
      · exact hF.elim
    · rename_i hk9
      rw [hk9] at hck
      (try dsimp only at hck)
      simp only [Bool.and_eq_true] at hck
      obtain ⟨⟨⟨k1, k2⟩, k3⟩, k4⟩ := hck
      split at hF
      · rename_i nn dp d sp h t
        obtain ⟨hvn, hs⟩ := List.forall_mem_cons.mp hs
        obtain ⟨hvdp, hs⟩ := List.forall_mem_cons.mp hs
        obtain ⟨hvd, hs⟩ := List.forall_mem_cons.mp hs
        obtain ⟨hvsp, hs⟩ := List.forall_mem_cons.mp hs
        obtain ⟨hvh, hs⟩ := List.forall_mem_cons.mp hs
        have hvn : in32 nn := hvn
        have hvdp : in32 dp := hvdp
        have hvsp : in32 sp := hvsp
        by_cases hk : (kd h = 20 ∧ kd d = 20) ∧ catS t ≤ 8
        · rw [if_pos hk] at hF
          obtain ⟨⟨q1, q2, q3, q4, q5⟩, hF⟩ := hF
          have hh : h < n := kd_lt hvh (by omega)
          have hd : d < n := kd_lt hvd (by omega)
          have h186 : h < 186 := by omega
          have d186 : d < 186 := by omega
          rw [alen_lt h186] at q4
          rw [alen_lt d186] at q5
          have he : (wsO κ ρ w n)[h]? = some (ρ h, .inl (κ 20, ((szI h).toNat, .inl (fun j => Int32.ofInt (w h j))))) := by rw [wsO_at hh, celE_int (Or.inl hk.1.1), hk.1.1]
          have hed : (wsO κ ρ w n)[d]? = some (ρ d, .inl (κ 20, ((szI d).toNat, .inl (fun j => Int32.ofInt (w d j))))) := by rw [wsO_at hd, celE_int (Or.inl hk.1.2), hk.1.2]
          refine va_copyi (ty := .int) hx hb (hml.trans hL.size.symm) hown (hts _ (hasW_in k1 rfl)) (hts _ (hasW_in k2 rfl)) (hts _ (hasW_in k3 rfl)) (hts _ (hasW_in k4 rfl)) hK hP hD hS h d 0 0 he hed rfl rfl rfl (fun z => by rw [k3i_z, k3i_lt hvsp in32_0] at z; omega) (fun z => by rw [k3i_z, k3i_lt hvdp in32_0] at z; omega) (fun z => by rw [k3i_z, k3i_lt hvn in32_0] at z; omega) (by rw [ix_nat hvsp, ix_nat hvn]; omega) (by rw [ix_nat hvdp, ix_nat hvn]; omega) (fun _ _ => rfl) hrm.2 (Nat.le_trans (Nat.add_le_add_right (by rw [catS_eq]; exact hk.2) _) (Nat.le_trans (by decide +kernel) hrm.1)) hdec (fun H1 locs1 hP1 hD1 hS1 => ?_)
          have hset : (wsO κ ρ w n).set d (ρ d, .inl (κ 20, (szI d).toNat, .inl (va_cpy (fun j => Int32.ofInt (w h j)) (fun j => Int32.ofInt (w d j)) (Int32.ofInt sp).toNatClampNeg (Int32.ofInt dp).toNatClampNeg (Int32.ofInt nn).toNatClampNeg))) = wsO κ ρ (ubf w d (cpyf (w h) (w d) sp.toNat dp.toNat nn.toNat)) n := by
            rw [← wsO_set hd, celE_int (Or.inl hk.1.2), hk.1.2, ix_nat hvsp, ix_nat hvdp, ix_nat hvn]
            congr 6
            funext k
            unfold va_cpy cpyf
            by_cases z : dp.toNat ≤ k ∧ k < dp.toNat + nn.toNat
            · rw [if_pos z, if_pos z]
            · rw [if_neg z, if_neg z]
          rw [hset] at hP1 hD1
          have hnr : ∀ k, ¬ rfC d k := fun k q => by rcases q with ⟨q, _⟩ | q <;> omega
          rw [← h2, ← hnx]
          refine PP.store (f := cpyf (w h) (w d) sp.toNat dp.toNat nn.toNat) hF hd hn hE hn0 (fun q => (hall q).up (fun q9 hq9 e9 => absurd (ref_is hq9).2 (by rw [e9]; exact hnr _))) (hok.set hd (fun k => ⟨?_, fun q _ => absurd q (hnr k)⟩)) hP1 hD1 hS1 hl hs hL
          have t1 : ∀ g k, g < n → kd g = 20 → in32 (w g k) := fun g k hg hk9 => hok.lt hg k (by unfold tyC; rw [if_neg (by omega), if_neg (by omega)]; decide)
          rw [if_neg (by unfold tyC; rw [if_neg (by omega), if_neg (by omega)]; decide)]
          unfold cpyf
          split
          · exact t1 h _ hh hk.1.1
          · exact t1 d _ hd hk.1.2
        · rw [if_neg hk] at hF; exact hF.elim
      · exact hF.elim
    · rename_i hk9
      rw [hk9] at hck
      (try dsimp only at hck)
      simp only [Bool.and_eq_true, decide_eq_true_eq] at hck
      obtain ⟨⟨⟨⟨k1, k2⟩, k3⟩, k4⟩, k5⟩ := hck
      by_cases hc1 : (catS (s9.drop (a2 aux)) ≤ 8 ∧ a2 aux ≤ s9.length) ∧ pr.2.1 = 2
      · rw [if_pos hc1] at hF
        have hst : s9 = s9.take (a2 aux) ++ s9.drop (a2 aux) := (List.take_append_drop _ _).symm
        exact hext (a1 aux) (a2 aux) idx (a2 aux) s9 l9 w (i + 1) ρ n H locs ls pc hc1.2 k5 (by rw [hn0] at hF; omega) hc1.1.1 hc1.1.2 hF.2 hR hE hl hs hL (yW_ok k1) (hasW_in k2 rfl) (hasW_in k3 rfl) (hasW_in k4 rfl) hdec (by rw [hnx, h2])
      · rw [if_neg hc1] at hF; exact hF.elim
    · rename_i g10 g11 g12 g13 g14 g7
      split at hck
      · rename_i z; exact absurd z g10
      · rename_i z; exact absurd z g11
      · rename_i z; exact absurd z g12
      · rename_i z; exact absurd z g13
      · rename_i z; exact absurd z g14
      · rename_i z; exact absurd z g7
      · simp only [Bool.and_eq_true, decide_eq_true_eq] at hck
        obtain ⟨⟨⟨⟨⟨k0, h3⟩, h4⟩, k1⟩, k2⟩, k3⟩ := hck
        by_cases hc1 : catS (s9.drop (a2 aux)) ≤ 8 ∧ a2 aux ≤ s9.length
        · rw [if_pos hc1] at hF
          by_cases hph : phM (a1 aux) = 3 ∨ (phM (a1 aux) = 0 ∧ pr.2.1 = 0)
          · rw [if_pos hph] at hF
            have hal0 : nAl (a1 aux) = 0 := ph_al (by omega)
            have hokv : ∀ v ∈ (s9.take (a2 aux)).reverse, okV n v := fun v hv => hs v (List.mem_of_mem_take (List.mem_reverse.mp hv))
            have hokr : ∀ v ∈ s9.drop (a2 aux), okV n v := fun v hv => hs v (List.mem_of_mem_drop hv)
            obtain ⟨rm, r1, r2, r3, r4, hM⟩ := hcall (a1 aux) _ w _ h3 hF ρ n H.size hok (by omega) hn0 hall (fun z => (e8 (by omega)).1) hokv (Nat.le_trans hbs hS.1) (fun h hh => hAb _ (hD.2 h _ (wsO_at hh)))
            have hargs : (s9.take (a2 aux)).reverse.map (toV ρ) = ((s9.take (a2 aux)).map (toV ρ)).reverse := by rw [List.map_reverse]
            have hstk : s9.map (toV ρ) = ((s9.take (a2 aux)).map (toV ρ)).reverse.reverse ++ (s9.drop (a2 aux)).map (toV ρ) := by
              rw [List.reverse_reverse, ← List.map_append, List.take_append_drop]
            obtain ⟨y1, y2, y3⟩ := yW_ok h4
            have hmx := mx_le (a1 aux)
            have hcp := hcap ρ n w hE hn
            have hpre : PreS s H (va_Pc ((s9.take (a2 aux)).reverse.map (toV ρ)) (PreU EV b0 D κ ρ n w H.size)) ((s9.take (a2 aux)).map (toV ρ)).reverse := ⟨PreU.blind hEV, fun U hU hW => ⟨by rw [hargs], pre_at hEV hK hP hD hnest hAO hEs hbs hAb hS U hU hW⟩⟩
            have hlen3 : (((s9.take (a2 aux)).map (toV ρ)).reverse).length = a2 aux := by simp; omega
            have hrun : va_Run p l e R s m args below meth c H locs (cN n0 w0 n w) (sN n0 w0 n w) (nAl (a1 aux)) (SL (n + nAl (a1 aux)) - SL n) (F0 m pc ls (s9.map (toV ρ))) ((s9.drop (a2 aux)).map (toV ρ)) (QcU D κ ρ n w H.size (rkM (a1 aux)) (nAl (a1 aux)) (fun r w' => PP p l e R s m args below meth c Z D κ A cd pr mx n0 w0 ρ0 (i + 1) l9 (pushR (rkM (a1 aux)) r (s9.drop (a2 aux))) w') (((s9.take (a2 aux)).map (toV ρ)).reverse).toArray) (AAf ρ n H.size) := by
              unfold linkB at k1
              by_cases hn4 : a0 aux = 4 ∨ a0 aux = 5
              · rw [if_pos hn4] at k1
                obtain ⟨x, hx1, hx2⟩ := List.any_eq_true.mp k1
                obtain ⟨a9, i9, y9, b9, rfl⟩ := nest_is hx1
                simp only [Bool.and_eq_true, decide_eq_true_eq] at hx2
                obtain ⟨⟨rfl, rfl⟩, rfl⟩ := hx2
                exact va_runSN ⟨hx, hb, hml, hown, hts⟩ hM ⟨va_cnB (a2 aux) hts (wsM_good h3) rfl r1 r2 (hnest _ hx1) (hts _ (hasW_in k3 rfl)) ⟨y1, y2, y3⟩ ⟨r3, by omega⟩, hts _ (hasW_in k2 rfl), trivial⟩ hpre rfl hlen3 hL.size hstk (lv_room (by rw [catS_eq]; exact hc1.1)) hdec ⟨by rw [hal0]; exact hcp.1, by rw [hal0, Nat.add_zero, Nat.sub_self]; exact hcp.2⟩
              · rw [if_neg hn4] at k1
                exact va_runS ⟨hx, hb, hml, hown, hts⟩ hM ⟨callB_of (a2 aux) hts (wsM_good h3) rfl r1 r2 (hts _ (hasW_in k3 rfl)) (hts _ (hasW_in k1 rfl)) ⟨y1, y2, y3⟩ ⟨r3, by omega⟩, hts _ (hasW_in k2 rfl)⟩ hpre rfl hlen3 hL.size hstk (lv_room (by rw [catS_eq]; exact hc1.1)) hdec ⟨by rw [hal0]; exact hcp.1, by rw [hal0, Nat.add_zero, Nat.sub_self]; exact hcp.2⟩
            exact call_go (j := a1 aux) hA hR hE hrun (Or.inl hal0) (by omega) (by rw [hnx, h2]) (fun v w' q => q) hl hokr hL
          · rw [if_neg hph] at hF; exact hF.elim
        · rw [if_neg hc1] at hF; exact hF.elim
  case invokespecial idx =>
    (try dsimp only at hF)
    (try dsimp only at hck)
    simp only [Bool.and_eq_true, decide_eq_true_eq] at hck
    obtain ⟨⟨h1, h2⟩, hck⟩ := hck
    subst h1
    split at hF
    · rename_i hk9
      rw [hk9] at hck
      (try dsimp only at hck)
      simp only [Bool.and_eq_true] at hck
      obtain ⟨⟨k1, k2⟩, k3⟩ := hck
      split at hF
      · rename_i g t
        by_cases hcat : catS t ≤ 8
        · rw [if_pos hcat] at hF
          refine W.objInit hx hb hown (hts _ (hasW_in k1 rfl)) (hts _ (hasW_in k2 rfl)) (hts _ (hasW_in k3 rfl)) rfl (by rw [hml]; exact hL.size) rfl hdec hrm.2 (by
            have h9 : ((t.map (toV ρ)).map fun v => v.category).sum ≤ 8 := by rw [catS_eq]; exact hcat
            have h8 := lv_room (m := m) (pc := pc) (ls := ls) (rest := (some (Sum.inr (Sum.inr g)) :: t).map (toV ρ)) h9
            have h7 : 2 * (F0 m pc ls ((some (Sum.inr (Sum.inr g)) :: t).map (toV ρ))).monitorRoom + ((t.map (toV ρ)).map fun v => v.category).sum + 12 ≤ 300 := by omega
            exact Nat.le_trans h7 hrm.1) ?_
          refine W.eq (g2 := F0 m (pc + 3) ls (t.map (toV ρ))) rfl ?_
          rw [← h2, ← hnx]
          exact hF ρ n H locs ls hR hE hl (List.forall_mem_cons.mp hs).2 hL
        · rw [if_neg hcat] at hF; exact hF.elim
      · exact hF.elim
    · rename_i g20
      split at hck
      · rename_i z; exact absurd z g20
      · simp only [Bool.and_eq_true, decide_eq_true_eq] at hck
        obtain ⟨⟨⟨⟨⟨⟨k0, h3⟩, h4⟩, h5⟩, k1⟩, k2⟩, k3⟩ := hck
        by_cases hc1 : catS (s9.drop (a2 aux + 1)) ≤ 8 ∧ rcvK (nthA none s9 (a2 aux)) < 20
        · rw [if_pos hc1] at hF
          obtain ⟨hcat, hrcv⟩ := hc1
          obtain ⟨g, hg, hkg⟩ := rcv_is rfl hrcv
          obtain ⟨hsp, hlen2⟩ := split_at hg (fun q => by cases q)
          by_cases hph : phM (a1 aux) = 1 ∧ rkM (a1 aux) = 0
          · rw [if_pos hph] at hF
            obtain ⟨hlim, hF⟩ := hF
            have hn1 : n + nAl (a1 aux) ≤ 186 := by
              have := hlim186 hlim.1
              have := hlim.2
              rw [hn0] at this
              omega
            have hokv : ∀ v ∈ (s9.take (a2 aux + 1)).reverse, okV n v := fun v hv => hs v (List.mem_of_mem_take (List.mem_reverse.mp hv))
            have hokr : ∀ v ∈ s9.drop (a2 aux + 1), okV n v := fun v hv => hs v (List.mem_of_mem_drop hv)
            obtain ⟨rm, r1, r2, r3, r4, hM⟩ := hcall (a1 aux) _ w _ h3 hF ρ n H.size hok hn1 hn0 hall (fun z => by omega) hokv (Nat.le_trans hbs hS.1) (fun h hh => hAb _ (hD.2 h _ (wsO_at hh)))
            have htk : s9.take (a2 aux + 1) = s9.take (a2 aux) ++ [mR g] := take_at hg hlen2
            have hargs : (s9.take (a2 aux + 1)).reverse.map (toV ρ) = .ref (ρ g) :: ((s9.take (a2 aux)).map (toV ρ)).reverse := by
              rw [htk, List.reverse_append, List.map_append, List.map_reverse, List.map_reverse]; rfl
            have hstk : s9.map (toV ρ) = ((s9.take (a2 aux)).map (toV ρ)).reverse.reverse ++ .ref (ρ g) :: (s9.drop (a2 aux + 1)).map (toV ρ) := by
              rw [List.reverse_reverse, ← stk_at (ρ := ρ) hsp]
            obtain ⟨y1, y2, y3⟩ := yW_ok h4
            have hmx := mx_le (a1 aux)
            have hcp := hcap2 ρ n w (a1 aux) hE hlim.1 hn1 (by have := hlim.2; rw [hn0] at this; exact this)
            have hlen3 : (((s9.take (a2 aux)).map (toV ρ)).reverse).length = a2 aux := by simp; omega
            have hpre : PreS s H (va_Pc ((s9.take (a2 aux + 1)).reverse.map (toV ρ)) (PreU EV b0 D κ ρ n w H.size)) (.ref (ρ g) :: ((s9.take (a2 aux)).map (toV ρ)).reverse) := ⟨PreU.blind hEV, fun U hU hW => ⟨by rw [hargs], pre_at hEV hK hP hD hnest hAO hEs hbs hAb hS U hU hW⟩⟩
            have hret0 : rtM (a1 aux) = none := rt_none hph.2
            have hrun : va_Run p l e R s m args below meth c H locs (cN n0 w0 n w) (sN n0 w0 n w) (nAl (a1 aux)) (SL (n + nAl (a1 aux)) - SL n) (F0 m pc ls (s9.map (toV ρ))) ((s9.drop (a2 aux + 1)).map (toV ρ)) (QcU D κ ρ n w H.size (rkM (a1 aux)) (nAl (a1 aux)) (fun _ w' => PP p l e R s m args below meth c Z D κ A cd pr mx n0 w0 ρ0 (i + 1) l9 (s9.drop (a2 aux + 1)) w') (.ref (ρ g) :: ((s9.take (a2 aux)).map (toV ρ)).reverse).toArray) (AAf ρ n H.size) := by
              have hws : wsM (a1 aux) = Jvm.Cond.code (yM (a1 aux)) (bM (a1 aux)) (mxM (a1 aux)) none :: wsB := by unfold wsM; rw [hret0]
              unfold linkB at k1
              by_cases hn4 : a0 aux = 4 ∨ a0 aux = 5
              · rw [if_pos hn4] at k1
                obtain ⟨x, hx1, hx2⟩ := List.any_eq_true.mp k1
                obtain ⟨a9, i9, y9, b9, rfl⟩ := nest_is hx1
                simp only [Bool.and_eq_true, decide_eq_true_eq] at hx2
                obtain ⟨⟨rfl, rfl⟩, rfl⟩ := hx2
                exact va_runIN ⟨hx, hb, hml, hown, hts⟩ hM ⟨va_cnB (a2 aux) hts (wsM_good h3) hws r1 r2 (hnest _ hx1) (hts _ (hasW_in k3 rfl)) ⟨y1, y2, y3⟩ ⟨r3, by omega⟩, h5, hts _ (hasW_in k2 rfl)⟩ hpre rfl hlen3 hL.size hstk (lv_room (by rw [catS_eq]; exact hcat)) hdec hcp
              · rw [if_neg hn4] at k1
                exact va_runI ⟨hx, hb, hml, hown, hts⟩ hM (cwI (a2 aux) hts (wsM_good h3) hws r1 r2 (hts _ (hasW_in k3 rfl)) (hts _ (hasW_in k1 rfl)) (hts _ (hasW_in k2 rfl)) h5 ⟨y1, y2, y3⟩ ⟨r3, by omega⟩) hpre rfl hlen3 hL.size hstk (lv_room (by rw [catS_eq]; exact hcat)) hdec hcp
            exact call_go (j := a1 aux) hA hR hE hrun (Or.inr ⟨hlim.1, hlim.2⟩) hn1 (by rw [hnx, h2]) (fun v w' q => by rw [show pushR (rkM (a1 aux)) v (s9.drop (a2 aux + 1)) = s9.drop (a2 aux + 1) by unfold pushR; rw [if_pos hph.2]]; exact q) hl hokr hL
          · rw [if_neg hph] at hF; exact hF.elim
        · rw [if_neg hc1] at hF; exact hF.elim
  all_goals exact hF.elim
end
section
def plB : Bool := (List.range 279).all (fun j => plainName (yM j).cls && decide (pcOf (cdM j) 0 = 0) && decide (¬ phM j = 2) && decide (rkM j = 0 → rtM j = none) && decide (rkM j = 1 → rtM j = some .int) && decide (rkM j = 2 → rtM j = some .boolean) && decide (rkM j = 3 → rtM j = some .long) && (match rtM j with
  | some (.object _) => true
  | _ => decide (¬ rkM j = 4)))
set_option maxRecDepth 100000 in
theorem pl_ok : plB = true := by decide +kernel
theorem pl_at {j : Nat} (hj : j < 279) : plainName (yM j).cls = true ∧ pcOf (cdM j) 0 = 0 ∧ ¬ phM j = 2 ∧ (rkM j = 0 → rtM j = none) ∧ (rkM j = 1 → rtM j = some .int) ∧ (rkM j = 2 → rtM j = some .boolean) ∧ (rkM j = 3 → rtM j = some .long) ∧ (rkM j = 4 → ∃ n, rtM j = some (.object n)) := by
  have h := List.all_eq_true.mp pl_ok j (List.mem_range.mpr hj)
  simp only [Bool.and_eq_true, decide_eq_true_eq] at h
  obtain ⟨⟨⟨⟨⟨⟨⟨h1, h2⟩, h3⟩, h4⟩, h5⟩, h6⟩, h7⟩, h8⟩ := h
  refine ⟨h1, h2, h3, h4, h5, h6, h7, fun q => ?_⟩
  split at h8
  · exact ⟨_, by assumption⟩
  · exact absurd q (of_decide_eq_true h8)
/-- every entry of every method is checked -/
def CkAll : Prop := ∀ j, j < 279 → ¬ j = 1 → ∀ i, i < (cdM j).length → chkE (yM j).cls (yM j).name (bM j) (mxM j) (cdM j) (nthA nE (cdM j) i) (pcOf (cdM j) (i + 1)) = true
/-- the locals at a method's entry -/
theorem args_at (ρ : Nat → Nat) : ∀ (av : List MV) (k i : Nat) (v : Int ⊕ (Int ⊕ Nat)) (r : Nat), nthA none (fArgs av ++ List.replicate r none) i = some v → (k + i, toV ρ (some v)) ∈ lv_args k (av.map (toV ρ)) := by
  have hrep : ∀ (r i : Nat) (v : Int ⊕ (Int ⊕ Nat)), ¬ nthA none (List.replicate r (none : MV)) i = some v := by
    intro r
    induction r with
    | zero => intro i v h; cases h
    | succ r ih => intro i v h; cases i with
      | zero => cases h
      | succ i => exact ih i v h
  intro av
  induction av with
  | nil => intro k i v r h; exact absurd h (hrep r i v)
  | cons a t ih =>
    intro k i v r h
    match a, h with
    | none, h =>
      cases i with
      | zero => cases h
      | succ i =>
        have := ih (k + 1) i v r h
        rw [show k + 1 + i = k + (i + 1) by omega] at this
        simp only [List.map_cons, toV, lv_args, Value.category]
        first | exact List.mem_cons_of_mem _ this | simpa [lv_args] using Or.inr this
    | some (.inl x), h =>
      cases i with
      | zero => cases h; simp [lv_args, toV]
      | succ i =>
        have := ih (k + 1) i v r h
        rw [show k + 1 + i = k + (i + 1) by omega] at this
        simp only [List.map_cons, toV, lv_args, Value.category]
        first | exact List.mem_cons_of_mem _ this | simpa [lv_args] using Or.inr this
    | some (.inr (.inr g)), h =>
      cases i with
      | zero => cases h; simp [lv_args, toV]
      | succ i =>
        have := ih (k + 1) i v r h
        rw [show k + 1 + i = k + (i + 1) by omega] at this
        simp only [List.map_cons, toV, lv_args, Value.category]
        first | exact List.mem_cons_of_mem _ this | simpa [lv_args] using Or.inr this
    | some (.inr (.inl x)), h =>
      cases i with
      | zero => cases h; simp [lv_args, toV]
      | succ i =>
        cases i with
        | zero => cases h
        | succ i =>
          have := ih (k + 2) i v r h
          rw [show k + 2 + i = k + (i + 1 + 1) by omega] at this
          simp only [List.map_cons, toV, lv_args, Value.category]
          first | exact List.mem_cons_of_mem _ this | simpa [lv_args] using Or.inr this
theorem fArgs_len (ρ : Nat → Nat) : ∀ (av : List MV), (lg_sl (av.map (toV ρ))).length = (fArgs av).length
  | [] => rfl
  | none :: t => by
    have := fArgs_len ρ t
    simpa [lg_sl, fArgs, toV, Value.category] using this
  | some (.inl x) :: t => by
    have := fArgs_len ρ t
    simpa [lg_sl, fArgs, toV, Value.category] using this
  | some (.inr (.inr x)) :: t => by
    have := fArgs_len ρ t
    simpa [lg_sl, fArgs, toV, Value.category] using this
  | some (.inr (.inl x)) :: t => by
    have h := fArgs_len ρ t
    show (([Slot.val (Value.long (Int64.ofInt x)), Slot.second] : List Slot) ++ lg_sl (t.map (toV ρ))).length = (fArgs t).length + 2
    rw [List.length_append, h]
    show 2 + _ = _
    omega
theorem fArgs_ok {n : Nat} : ∀ {av : List MV}, (∀ v ∈ av, okV n v) → ∀ v ∈ fArgs av, okV n v
  | [], h => fun _ hv => by cases hv
  | none :: t, h => List.forall_mem_cons.mpr ⟨trivial, fArgs_ok (List.forall_mem_cons.mp h).2⟩
  | some (.inl x) :: t, h => List.forall_mem_cons.mpr ⟨(List.forall_mem_cons.mp h).1, fArgs_ok (List.forall_mem_cons.mp h).2⟩
  | some (.inr (.inr x)) :: t, h => List.forall_mem_cons.mpr ⟨(List.forall_mem_cons.mp h).1, fArgs_ok (List.forall_mem_cons.mp h).2⟩
  | some (.inr (.inl x)) :: t, h => List.forall_mem_cons.mpr ⟨(List.forall_mem_cons.mp h).1, List.forall_mem_cons.mpr ⟨trivial, fArgs_ok (List.forall_mem_cons.mp h).2⟩⟩
theorem mkLoc_ok {n mx : Nat} {av : List MV} (h : ∀ v ∈ av, okV n v) : ∀ v ∈ mkLoc mx av, okV n v := by
  intro v hv
  rcases List.mem_append.mp hv with q | q
  · exact fArgs_ok h v q
  · rw [(List.mem_replicate.mp q).2]; exact trivial
def rmD (d mc ms : Nat) : Room := { frames := d, cells := mc, slots := ms, locals := 100 * d }
/-- the constructor of Tokens: proved by hand -/
def TokMet (l : Launch) (EV : State → Prop) (b : Nat) (D : va_G) (κ : Nat → ClassId) : Prop := ∀ (ρ : Nat → Nat) (w : Wd) (Qc : MV → Wd → Prop) (sz : Nat), extTok [mR 2, mR 1] w Qc → okW 3 w → w 401 0 = 3 →
  Met l (yM 1) (wsM 1) (rmD 20 1 (SL 4 - SL 3)) (va_Pc ([mR 2, mR 1].map (toV ρ)) (PreU EV b D κ ρ 3 w sz)) (QcU D κ ρ 3 w sz (rkM 1) 1 Qc) 1 (SL 4 - SL 3) (AAf ρ 3 sz)
set_option maxHeartbeats 4000000 in
theorem met_all {l : Launch} {EV : State → Prop} {b0 : Nat} (hEV : EvOK EV b0) {D : va_G} {κ : Nat → ClassId} (hck : CkAll) (htok : TokMet l EV b0 D κ) : ∀ (d : Nat) (R : Room), d + 30 ≤ R.frames → 100 * (d + 30) ≤ R.locals → CallH l EV b0 D κ R (Cw d) := by
  intro d
  induction d with
  | zero => intro R _ _ j argv w Qc _ h; exact h.elim
  | succ d ih =>
    intro R hRf hRl j argv w Qc hj hC ρ0 n0 sz hok hn hc0 hall hp0 hav hbsz hbρ
    unfold Cw at hC
    by_cases hj1 : j = 1
    · rw [if_pos hj1] at hC
      subst hj1
      obtain ⟨rfl, h3, hq⟩ := hC
      have hn3 : n0 = 3 := by rw [hc0] at h3; omega
      subst hn3
      exact ⟨rmD 20 1 (SL 4 - SL 3), rfl, rfl, by show 20 + 1 ≤ _; omega, by show 100 * 20 + 60 ≤ _; omega, htok ρ0 w Qc sz ⟨rfl, h3, hq⟩ hok h3⟩
    · rw [if_neg hj1, if_neg (by omega), if_neg (by omega), if_neg (by omega), if_neg (by omega)] at hC
      obtain ⟨hlen, hC⟩ := hC
      obtain ⟨t1, t2, t3, t4, t5, t6, t7, t8⟩ := pl_at hj
      refine ⟨rmD (d + 30) (nAl j) (SL (n0 + nAl j) - SL n0), rfl, rfl, by show d + 30 + 1 ≤ _; omega, by show 100 * (d + 30) + 60 ≤ _; omega, ?_⟩
      refine Met.ofW (cc := bM j) (maxL := mxM j) (ret := rtM j) t1 rfl ?_
      intro p e s m args below meth c s₁ B hml hv
      obtain ⟨rfl, ⟨hEs, -, -⟩, hsz, hP, hK, hD0, hnest, hAO⟩ := hv
      subst hsz
      have hx := B.exec
      have hts0 := atoms_spec (ws := wsM j) B.pre
      have hts : ∀ w ∈ wsB, w.before ((argv.map (toV ρ0)).toArray) s = true := fun w hw => hts0 w (List.mem_cons_of_mem _ hw)
      have hown : s.vm.findClass (yM j).cls = some m.cls := findClass_of_methodNamed B.named
      have hnm : meth.name = (yM j).name := (name_of_methodNamed B.named B.method).1
      have hFr : Fr p s m ((argv.map (toV ρ0)).toArray) meth c (bM j) (yM j).cls (yM j).name (mxM j) := ⟨hx, B.bytes, hml, hown, hts, fun q => by rw [hnm]; exact q, hnest, hAO⟩
      have hD : va_D (AAf ρ0 n0 s.heap.size) (wsO κ ρ0 w n0) := ⟨hD0.1, fun k q hq => by
        have hk : k < n0 := by
          have := (List.getElem?_eq_some_iff.mp hq).1
          simpa [wsO] using this
        rw [wsO_at hk] at hq
        cases hq
        exact Or.inl ⟨k, hk, rfl⟩⟩
      have hpr3 : ¬ (rkM j, phM j, w 401 0 + (nAl j : Int)).2.1 = 2 := t3
      have hnle : ∀ ρ n w', Ex (rkM j, phM j, w 401 0 + (nAl j : Int)) n0 w ρ0 ρ n w' → n ≤ n0 + nAl j ∧ n0 ≤ n ∧ w' 401 1 = w 401 1 := by
        intro ρ n w' hE
        obtain ⟨e1, e2, e3, e4, e5, e6, e7, e8, e9, e10⟩ := hE
        refine ⟨?_, e1, e7 hpr3⟩
        by_cases z : phM j = 0
        · have := (e8 z).1; have := (e8 z).2; omega
        · have := e9 (Nat.pos_of_ne_zero z)
          have h9 : (n : Int) ≤ w 401 0 + (nAl j : Int) := this
          rw [hc0] at h9
          omega
      have hstep := sim_step (l := l) (R := (headSpec (wsM j) (rmD (d + 30) (nAl j) (SL (n0 + nAl j) - SL n0))).room) (e := e) (below := below) (Z := MQ below (QcU D κ ρ0 n0 w s.heap.size (rkM j) (nAl j) Qc) ((argv.map (toV ρ0)).toArray) s (nAl j) (SL (n0 + nAl j) - SL n0) (AAf ρ0 n0 s.heap.size)) (A := AAf ρ0 n0 s.heap.size) (cd := cdM j) (pr := (rkM j, phM j, w 401 0 + (nAl j : Int))) (n0 := n0) (w0 := w) (ρ0 := ρ0) (cw := Cw d)
        (Q := fun v w' => if phM j = 1 then w' 401 0 = w 401 0 + (nAl j : Int) ∧ Qc v w' else Qc v w') hFr hK (fun q h => Or.inr h) (hck j hj hj1) ?_ ?_ ?_ ?_ ?_ hEV hEs hbsz (fun q h => by rcases h with ⟨g, hg, rfl⟩ | h; exacts [hbρ g hg, Nat.le_trans hbsz h]) ?_ ?_ ?_
      · have hent := hC _ hstep
        have hl := lv_entry (argv.map (toV ρ0)) (n := mxM j) (by rw [fArgs_len]; exact hlen)
        rw [lg_entry_eq]
        have hW := hent ρ0 n0 s.heap [] _ ⟨hP, hD, va_S.rf, hok, by omega, hc0, hall⟩ ⟨Nat.le_refl _, fun _ _ => rfl, rfl, rfl, rfl, Int.le_refl _, fun _ => rfl, fun z => ⟨hp0 z, hp0 z⟩, fun _ => by rw [← hc0]; show w 401 0 ≤ w 401 0 + (nAl j : Int); omega, fun z => absurd z hpr3⟩ (mkLoc_ok hav) (fun v hv => by cases hv) ⟨_, hl, fun i v hiv => by
          have := args_at ρ0 argv 0 i v _ hiv
          rwa [Nat.zero_add] at this⟩
        rw [t2] at hW
        have h0 : cN n0 w n0 w = 0 := by unfold cN; omega
        have h00 : sN n0 w n0 w = 0 := by unfold sN; omega
        rw [h0, h00] at hW
        exact hW
      · intro ρ n w' hE hn'
        obtain ⟨q1, q2, q3⟩ := hnle ρ n w' hE
        refine ⟨?_, ?_⟩
        · show cN n0 w n w' ≤ nAl j
          unfold cN; rw [q3]; omega
        · show sN n0 w n w' ≤ SL (n0 + nAl j) - SL n0
          unfold sN; rw [q3]
          have := SL_mono n (n0 + nAl j) q1
          omega
      · exact ⟨by show 300 ≤ 100 * (d + 30); omega, by show 1 ≤ d + 30; omega⟩
      · intro z; exact absurd z hpr3
      · intro z
        show w 401 0 + (nAl j : Int) ≤ 186
        rw [hc0]; omega
      · intro ρ n w' j' hE hz hn' hlim
        obtain ⟨q1, q2, q3⟩ := hnle ρ n w' hE
        have hlim' : n + nAl j' ≤ n0 + nAl j := by
          have : (n : Int) + (nAl j' : Int) ≤ w 401 0 + (nAl j : Int) := hlim
          rw [hc0] at this
          omega
        refine ⟨?_, ?_⟩
        · show cN n0 w n w' + nAl j' ≤ nAl j
          unfold cN; rw [q3]; omega
        · show sN n0 w n w' + (SL (n + nAl j') - SL n) ≤ SL (n0 + nAl j) - SL n0
          unfold sN; rw [q3]
          have := SL_mono (n + nAl j') (n0 + nAl j) hlim'
          have := SL_mono n (n + nAl j') (by omega)
          have := SL_mono n0 n q2
          omega
      · exact ih _ (by show d + 30 ≤ d + 30; omega) (by show 100 * (d + 30) ≤ 100 * (d + 30); omega)
      · intro j' na idx na2 s9 l9 w' i ρ n H locs ls pc z
        exact absurd z hpr3
      · intro ρ n w' H locs v pc ls ins hR hE hov hQ hdec hro hls
        obtain ⟨q1, q2, q3⟩ := hnle ρ n w' hE
        obtain ⟨rP, rD, rS, rok, rn, rc, rall⟩ := id hR
        obtain ⟨e1, e2, e3, e4, e5, e6, e7, e8, e9, e10⟩ := id hE
        have hfin : n = n0 + nAl j ∧ Qc v w' := by
          by_cases z : phM j = 1
          · rw [if_pos z] at hQ
            have h9 := hQ.1
            rw [rc, hc0] at h9
            exact ⟨by omega, hQ.2⟩
          · rw [if_neg z] at hQ
            have := ph_al z
            exact ⟨by omega, hQ⟩
        obtain ⟨hne, hQ⟩ := hfin
        subst hne
        have hb := B.bytes
        have hlk := B.notSynchronized
        have hbuild : ∀ (o : Option Value) (t : State), t.heap = H → s.WarmedH t.vm → retO ρ v = o → (rkM j = 0 ↔ v = none) → QcU D κ ρ0 n0 w s.heap.size (rkM j) (nAl j) Qc ((argv.map (toV ρ0)).toArray) s (.returned o) t := by
          intro o t ht hW hro hrk
          subst hro
          exact ⟨⟨v, ρ, w', rfl, hQ, hov, hrk, e2, e3, by rw [ht]; exact rP, va_K.moved hW.alike hK, rD, rok, rc, rall, e4, q3, e5⟩, rS.F ht⟩
        refine W.widen (k := nAl j) (n := SL (n0 + nAl j) - SL n0) (by unfold cN; rw [q3]; omega) (by unfold sN; rw [q3]; omega) ?_
        have hr := B.returns
        rcases hro with ⟨rfl, rfl, hk⟩ | ⟨x, rfl, rfl, hk⟩ | ⟨x, rfl, rfl, hk⟩ | ⟨g, rfl, rfl, hk⟩
        · have hk : rkM j = 0 := hk
          exact W.vret hx hb (hr.trans (t4 hk)) (fun t ht hW => hbuild none t ht hW rfl ⟨fun _ => rfl, fun _ => hk⟩) rS.2.2 hdec
        · rcases hk with hk | ⟨hk, h01⟩
          · have hk : rkM j = 1 := hk
            exact W.iret hx hb (hr.trans (t5 hk)) (fun t ht hW => hbuild _ t ht hW rfl ⟨fun z => by omega, fun z => by cases z⟩) rS.2.2 hdec
          · have hk : rkM j = 2 := hk
            exact W.zret hx hb (hr.trans (t6 hk)) (by rcases h01 with z | z <;> (subst z; rfl)) (fun t ht hW => hbuild _ t ht hW rfl ⟨fun z => by omega, fun z => by cases z⟩) rS.2.2 hdec
        · have hk : rkM j = 3 := hk
          exact W.lret hx hb (hr.trans (t7 hk)) (fun t ht hW => hbuild _ t ht hW rfl ⟨fun z => by omega, fun z => by cases z⟩) rS.2.2 hdec
        · have hk : rkM j = 4 := hk
          obtain ⟨nm9, hnm9⟩ := t8 hk
          exact W.aret hx hb (hr.trans hnm9) (Or.inl ⟨_, rfl⟩) (Or.inr ⟨_, rfl⟩) (fun t ht hW => hbuild _ t ht hW rfl ⟨fun z => by omega, fun z => by cases z⟩) rS.2.2 hdec
end

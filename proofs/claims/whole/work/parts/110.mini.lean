/-! A small machine: values, worlds, one step as a condition, calls by depth. -/
abbrev MV : Type := Option (Int ⊕ (Int ⊕ Nat))
abbrev mI (x : Int) : MV := some (.inl x)
abbrev mL (x : Int) : MV := some (.inr (.inl x))
abbrev mR (h : Nat) : MV := some (.inr (.inr h))
abbrev Wd : Type := Nat → Nat → Int
abbrev Ent : Type := Nat × Instr × Nat × List Nat × Int
abbrev CWt : Type := Nat → List MV → Wd → (MV → Wd → Prop) → Prop
abbrev Pt4 : Type := Nat → List MV → List MV → Wd → Prop
def w32 (x : Int) : Int := Int.bmod x 4294967296
def w64 (x : Int) : Int := Int.bmod x 18446744073709551616
def up1 (f : Nat → Int) (i : Nat) (v : Int) : Nat → Int := fun j => if j = i then v else f j
def ub (w : Wd) (h i : Nat) (v : Int) : Wd := fun h' => if h' = h then up1 (w h) i v else w h'
def ubf (w : Wd) (h : Nat) (f : Nat → Int) : Wd := fun h' => if h' = h then f else w h'
def cpyf (f g : Nat → Int) (sp dp n : Nat) : Nat → Int := fun k => if dp ≤ k ∧ k < dp + n then f (sp + (k - dp)) else g k
def nthA {α : Type} (d : α) : List α → Nat → α
  | [], _ => d
  | a :: _, 0 => a
  | _ :: t, n + 1 => nthA d t n
def stA {α : Type} (v : α) : List α → Nat → List α
  | [], _ => []
  | _ :: t, 0 => v :: t
  | a :: t, n + 1 => a :: stA v t n
/-- a store at a place: a long that begins one place before is gone -/
def klA (l : List MV) (i : Nat) : List MV := match i with
  | 0 => l
  | j + 1 => match nthA none l j with
    | some (.inr (.inl _)) => stA none l j
    | _ => l
def stI (l : List MV) (i : Nat) (v : MV) : List MV := stA v (klA l i) i
def stL (l : List MV) (i : Nat) (v : MV) : List MV := stA none (stA v (klA l i) i) (i + 1)
def fArgs : List MV → List MV
  | [] => []
  | some (.inr (.inl x)) :: t => mL x :: none :: fArgs t
  | v :: t => v :: fArgs t
def mkLoc (mx : Nat) (args : List MV) : List MV := fArgs args ++ List.replicate (mx - (fArgs args).length) none
def catV : MV → Nat
  | some (.inr (.inl _)) => 2
  | _ => 1
def catS : List MV → Nat
  | [] => 0
  | v :: t => catV v + catS t
/-! bit operations by way of the machine's words -/
def iand (a b : Int) : Int := (Int32.ofInt a &&& Int32.ofInt b).toInt
def ior (a b : Int) : Int := (Int32.ofInt a ||| Int32.ofInt b).toInt
def ixor (a b : Int) : Int := (Int32.ofInt a ^^^ Int32.ofInt b).toInt
def ishl (a b : Int) : Int := (Int32.ofInt a <<< (Int32.ofInt b &&& 31)).toInt
def ishr (a b : Int) : Int := (Int32.ofInt a >>> (Int32.ofInt b &&& 31)).toInt
def iushr (a b : Int) : Int := ((Int32.ofInt a).toUInt32 >>> ((Int32.ofInt b).toUInt32 &&& Int32.toUInt32 31)).toInt32.toInt
def lor64 (a b : Int) : Int := (Int64.ofInt a ||| Int64.ofInt b).toInt
def land64 (a b : Int) : Int := (Int64.ofInt a &&& Int64.ofInt b).toInt
def lshl (a b : Int) : Int := (Int64.ofInt a <<< ((Int32.ofInt b).toInt64 &&& 63)).toInt
def lshr (a b : Int) : Int := (Int64.ofInt a >>> ((Int32.ofInt b).toInt64 &&& 63)).toInt
def lushr (a b : Int) : Int := ((Int64.ofInt a).toUInt64 >>> ((Int32.ofInt b).toInt64.toUInt64 &&& Int64.toUInt64 63)).toInt64.toInt
def w8 (a : Int) : Int := (Int32.ofInt a).toInt8.toInt32.toInt
def cmp3 (a b : Int) : Int := if a < b then -1 else if a = b then 0 else 1
def cndP (c : Jvm.ClassFile.Cond) (a b : Int) : Prop := match c with
  | .eq => a = b
  | .ne => ¬ a = b
  | .lt => a < b
  | .ge => b ≤ a
  | .gt => b < a
  | .le => a ≤ b
def swP (lo : Int) (ts : List Nat) (x : Int) (d : Nat) (K : Nat → Prop) : Prop := match ts with
  | [] => K d
  | t :: ts => (x = lo → K t) ∧ (¬ x = lo → swP (lo + 1) ts x d K)
/-! the cells: kinds (0 to 12 a class; 20 int[], 21 long[], 22 byte[], 23 boolean[], 24 references), sizes, where references point -/
def kdL : List Nat := [11, 20, 7, 20, 9, 20, 20, 20, 20, 20, 20, 20, 20, 20, 20, 20, 9, 20, 20, 20, 20, 20, 20, 20, 20, 20, 20, 20, 4, 20, 20, 20, 4, 20, 20, 20, 0, 20, 20, 20, 20, 20, 20, 24, 2, 9, 20, 20, 20, 20, 20, 20, 20, 20, 20, 20, 20, 4, 20, 20, 20, 0, 20, 20, 20, 20, 20, 20, 2, 9, 20, 20, 20, 20, 20, 20, 20, 20, 20, 20, 20, 4, 20, 20, 20, 0, 20, 20, 20, 20, 20, 20, 3, 10, 6, 20, 20, 20, 21, 20, 20, 20, 20, 20, 20, 20, 20, 21, 20, 20, 21, 21, 3, 10, 6, 20, 20, 20, 21, 20, 20, 20, 20, 20, 20, 20, 20, 21, 20, 20, 21, 21, 1, 20, 20, 20, 20, 5, 20, 20, 8, 20, 20, 20, 12, 22, 20, 20, 20, 21, 21, 20, 20, 20, 20, 20, 20, 20, 20, 20, 20, 20, 20, 20, 20, 23, 20, 20, 21, 20, 20, 20, 20, 20, 20, 20, 20, 20, 20, 20, 20, 20, 20, 21, 23, 21]
def szL : List Int := [16, 1040, 9, 17, 18, 8, 8, 8, 8, 6, 6, 80, 16, 32, 64, 64, 18, 8, 8, 8, 8, 6, 6, 80, 16, 32, 64, 64, 5, 50, 50, 50, 5, 50, 50, 50, 7, 40, 40, 40, 40, 8, 8, 2, 4, 18, 8, 8, 8, 8, 6, 6, 80, 16, 32, 64, 64, 5, 50, 50, 50, 7, 40, 40, 40, 40, 8, 8, 4, 18, 8, 8, 8, 8, 6, 6, 80, 16, 32, 64, 64, 5, 50, 50, 50, 7, 40, 40, 40, 40, 8, 8, 9, 16, 8, 8, 64, 64, 384, 8, 8, 8, 6, 6, 6, 6, 6, 128, 8, 256, 256, 8, 9, 16, 8, 8, 64, 64, 384, 8, 8, 8, 6, 6, 6, 6, 6, 128, 8, 256, 256, 8, 12, 16, 16, 16, 16, 4, 8, 8, 8, 6, 8, 8, 80, 1040, 645, 333, 150, 28, 17, 64, 64, 64, 8, 6, 6, 6, 6, 6, 8, 128, 128, 128, 128, 256, 256, 8, 256, 16, 16, 16, 16, 16, 5, 48, 8, 8, 8, 8, 8, 8, 1290, 28, 2, 1]
def grL : List (List Nat) := [[1, 0, 0, 2, 4, 16, 28, 32, 36, 43, 92, 112, 0, 132, 137, 140], [], [1, 3, 0, 0, 0, 0, 0, 0, 0], [], [0, 5, 6, 7, 8, 0, 9, 10, 0, 11, 12, 0, 13, 14, 15, 0, 0, 0], [], [], [], [], [], [], [], [], [], [], [], [0, 17, 18, 19, 20, 0, 21, 22, 0, 23, 24, 0, 25, 26, 27, 0, 0, 0], [], [], [], [], [], [], [], [], [], [], [], [0, 29, 30, 31, 0], [], [], [], [0, 33, 34, 35, 0], [], [], [], [0, 37, 38, 39, 40, 41, 42], [], [], [], [], [], [], [44, 68], [0, 45, 57, 61], [0, 46, 47, 48, 49, 0, 50, 51, 0, 52, 53, 0, 54, 55, 56, 0, 0, 0], [], [], [], [], [], [], [], [], [], [], [], [0, 58, 59, 60, 0], [], [], [], [0, 62, 63, 64, 65, 66, 67], [], [], [], [], [], [], [0, 69, 81, 85], [0, 70, 71, 72, 73, 0, 74, 75, 0, 76, 77, 0, 78, 79, 80, 0, 0, 0], [], [], [], [], [], [], [], [], [], [], [], [0, 82, 83, 84, 0], [], [], [], [0, 86, 87, 88, 89, 90, 91], [], [], [], [], [], [], [93, 4, 107, 108, 109, 110, 111, 0, 0], [94, 4, 0, 98, 99, 100, 101, 0, 0, 0, 0, 102, 103, 104, 105, 106], [4, 0, 0, 95, 96, 97, 0, 0], [], [], [], [], [], [], [], [], [], [], [], [], [], [], [], [], [], [113, 4, 127, 128, 129, 130, 131, 0, 0], [114, 4, 0, 118, 119, 120, 121, 0, 0, 0, 0, 122, 123, 124, 125, 126], [4, 0, 0, 115, 116, 117, 0, 0], [], [], [], [], [], [], [], [], [], [], [], [], [], [], [], [], [], [0, 0, 0, 0, 0, 0, 0, 0, 133, 134, 135, 136], [], [], [], [], [4, 138, 0, 139], [], [], [141, 0, 142, 0, 143, 0, 0, 0], [], [], [], [0, 145, 0, 0, 0, 0, 146, 147, 148, 149, 150, 0, 0, 0, 0, 0, 0, 0, 0, 0, 0, 151, 152, 153, 154, 0, 0, 0, 155, 156, 157, 158, 159, 160, 0, 0, 0, 161, 162, 163, 164, 0, 0, 165, 166, 167, 168, 0, 0, 0, 0, 0, 169, 170, 171, 172, 173, 174, 175, 0, 0, 0, 0, 0, 0, 176, 0, 177, 178, 179, 0, 0, 0, 180, 181, 0, 0, 182, 183, 184], [], [], [], [], [], [], [], [], [], [], [], [], [], [], [], [], [], [], [], [], [], [], [], [], [], [], [], [], [], [], [], [], [], [], [], [], [], [], [], [], []]
def ftyL : List (List Nat) := [[0, 2, 2, 2, 2, 2, 2], [3, 0, 0, 0, 0, 0, 0, 0, 2, 2, 2, 2], [3, 2, 2, 2], [2, 2, 2, 2, 2, 2, 2, 1, 0], [0, 2, 2, 2, 0], [2, 2, 0, 2], [2, 0, 0, 2, 2, 2, 0, 0], [2, 2, 0, 0, 0, 0, 0, 0, 0], [2, 0, 2, 0, 2, 0, 0, 0], [0, 2, 2, 2, 2, 0, 2, 2, 0, 2, 2, 0, 2, 2, 2, 0, 0, 3], [2, 2, 0, 2, 2, 2, 2, 0, 0, 0, 0, 2, 2, 2, 2, 2], [2, 0, 0, 2, 2, 2, 2, 2, 2, 2, 2, 2, 3, 2, 2, 2], [0, 2, 0, 0, 0, 0, 2, 2, 2, 2, 2, 0, 0, 0, 0, 0, 0, 1, 0, 3, 0, 2, 2, 2, 2, 0, 0, 0, 2, 2, 2, 2, 2, 2, 0, 0, 0, 2, 2, 2, 2, 0, 0, 2, 2, 2, 2, 0, 0, 0, 0, 0, 2, 2, 2, 2, 2, 2, 2, 0, 0, 0, 0, 0, 0, 2, 0, 2, 2, 2, 0, 0, 0, 2, 2, 0, 0, 2, 2, 2]]
def refL : List (Nat × Nat) := [(0, 0), (0, 3), (0, 4), (0, 5), (0, 6), (0, 7), (0, 8), (0, 9), (0, 10), (0, 11), (0, 13), (0, 14), (0, 15), (2, 0), (2, 1), (4, 1), (4, 2), (4, 3), (4, 4), (4, 6), (4, 7), (4, 9), (4, 10), (4, 12), (4, 13), (4, 14), (16, 1), (16, 2), (16, 3), (16, 4), (16, 6), (16, 7), (16, 9), (16, 10), (16, 12), (16, 13), (16, 14), (28, 1), (28, 2), (28, 3), (32, 1), (32, 2), (32, 3), (36, 1), (36, 2), (36, 3), (36, 4), (36, 5), (36, 6), (43, 0), (43, 1), (44, 1), (44, 2), (44, 3), (45, 1), (45, 2), (45, 3), (45, 4), (45, 6), (45, 7), (45, 9), (45, 10), (45, 12), (45, 13), (45, 14), (57, 1), (57, 2), (57, 3), (61, 1), (61, 2), (61, 3), (61, 4), (61, 5), (61, 6), (68, 1), (68, 2), (68, 3), (69, 1), (69, 2), (69, 3), (69, 4), (69, 6), (69, 7), (69, 9), (69, 10), (69, 12), (69, 13), (69, 14), (81, 1), (81, 2), (81, 3), (85, 1), (85, 2), (85, 3), (85, 4), (85, 5), (85, 6), (92, 0), (92, 1), (92, 2), (92, 3), (92, 4), (92, 5), (92, 6), (93, 0), (93, 1), (93, 3), (93, 4), (93, 5), (93, 6), (93, 11), (93, 12), (93, 13), (93, 14), (93, 15), (94, 0), (94, 3), (94, 4), (94, 5), (112, 0), (112, 1), (112, 2), (112, 3), (112, 4), (112, 5), (112, 6), (113, 0), (113, 1), (113, 3), (113, 4), (113, 5), (113, 6), (113, 11), (113, 12), (113, 13), (113, 14), (113, 15), (114, 0), (114, 3), (114, 4), (114, 5), (132, 8), (132, 9), (132, 10), (132, 11), (137, 0), (137, 1), (137, 3), (140, 0), (140, 2), (140, 4), (144, 1), (144, 6), (144, 7), (144, 8), (144, 9), (144, 10), (144, 21), (144, 22), (144, 23), (144, 24), (144, 28), (144, 29), (144, 30), (144, 31), (144, 32), (144, 33), (144, 37), (144, 38), (144, 39), (144, 40), (144, 43), (144, 44), (144, 45), (144, 46), (144, 52), (144, 53), (144, 54), (144, 55), (144, 56), (144, 57), (144, 58), (144, 65), (144, 67), (144, 68), (144, 69), (144, 73), (144, 74), (144, 77), (144, 78), (144, 79)]
def kd (h : Nat) : Nat := if h = 400 then 30 else nthA 99 kdL h
def rcvK (v : MV) : Nat := match v with
  | some (.inr (.inr h)) => kd h
  | _ => 99
def szI (h : Nat) : Int := nthA 0 szL h
def gr (h j : Nat) : Nat := nthA 0 (nthA [] grL h) j
def fty (ci j : Nat) : Nat := nthA 0 (nthA [] ftyL ci) j
def alen (w : Wd) (h : Nat) : Int := if h = 400 then w 401 2 else szI h
def allSet (w : Wd) : Prop := ∀ q ∈ refL, ¬ w q.1 q.2 = 0
/-- (what returns: 0 nothing, 1 int, 2 boolean, 3 long, 4 a reference; which phase: 0 a method that makes nothing, 1 a constructor, 2 the law) -/
abbrev Pr : Type := Nat × Nat × Int
def a0 (aux : List Nat) : Nat := nthA 0 aux 0
def a1 (aux : List Nat) : Nat := nthA 0 aux 1
def a2 (aux : List Nat) : Nat := nthA 0 aux 2
def pushR (rk : Nat) (r : MV) (s : List MV) : List MV := if rk = 0 then s else r :: s
def nE : Ent := (0, .nop, 0, [], 0)
def zr (w : Wd) (h : Nat) : Wd := fun h' => if h' = h then (fun _ => 0) else w h'
def mkNew (w : Wd) : Wd := ub (zr w (w 401 0).toNat) 401 0 (w 401 0 + 1)
/-- which methods are constructors (how many cells they make), what a method returns -/
def rkL : List Nat := [0, 0, 0, 0, 0, 0, 0, 0, 0, 0, 0, 0, 1, 0, 2, 1, 1, 0, 0, 2, 2, 0, 0, 1, 0, 2, 1, 2, 2, 2, 2, 1, 1, 2, 2, 0, 2, 2, 1, 1, 1, 0, 2, 2, 2, 2, 1, 0, 0, 1, 1, 2, 1, 2, 2, 4, 0, 0, 0, 0, 1, 1, 0, 1, 0, 0, 2, 2, 0, 0, 3, 3, 0, 3, 1, 0, 1, 3, 1, 1, 1, 0, 1, 1, 1, 1, 1, 1, 0, 1, 1, 1, 1, 1, 1, 1, 1, 1, 1, 2, 0, 0, 1, 0, 1, 1, 1, 0, 1, 1, 1, 1, 1, 0, 1, 1, 1, 4, 1, 1, 2, 1, 1, 1, 0, 1, 1, 1, 1, 2, 2, 1, 1, 1, 0, 1, 2, 0, 1, 0, 1, 1, 1, 0, 1, 1, 1, 1, 1, 1, 0, 1, 2, 1, 1, 2, 1, 1, 1, 1, 1, 1, 2, 1, 2, 0, 2, 1, 1, 1, 0, 2, 0, 1, 0, 0, 1, 2, 2, 2, 2, 2, 2, 2, 2, 1, 2, 2, 2, 2, 2, 2, 2, 2, 2, 2, 2, 1, 1, 2, 2, 1, 1, 1, 2, 1, 2, 1, 0, 0, 2, 2, 0, 0, 2, 0, 2, 2, 0, 1, 2, 1, 1, 1, 0, 1, 1, 1, 0, 3, 1, 1, 2, 0, 1, 1, 1, 1, 1, 1, 1, 1, 1, 1, 2, 1, 1, 1, 1, 1, 1, 1, 1, 1, 1, 2, 1, 2, 0, 1, 2, 1, 1, 1, 1, 1, 1, 1, 1, 1, 0, 1, 2, 2, 2, 1, 0, 0, 1, 1, 1, 1, 1]
def nAlL : List Nat := [143, 1, 11, 3, 6, 23, 3, 9, 5, 4, 2, 3, 0, 0, 0, 0, 0, 0, 0, 0, 0, 0, 0, 0, 0, 0, 0, 0, 0, 0, 0, 0, 0, 0, 0, 0, 0, 0, 0, 0, 0, 0, 0, 0, 0, 0, 0, 0, 0, 0, 0, 0, 0, 0, 0, 0, 0, 0, 0, 0, 0, 0, 0, 0, 0, 0, 0, 0, 0, 0, 0, 0, 0, 0, 0, 0, 0, 0, 0, 0, 0, 0, 0, 0, 0, 0, 0, 0, 0, 0, 0, 0, 0, 0, 0, 0, 0, 0, 0, 0, 0, 0, 0, 0, 0, 0, 0, 0, 0, 0, 0, 0, 0, 0, 0, 0, 0, 0, 0, 0, 0, 0, 0, 0, 0, 0, 0, 0, 0, 0, 0, 0, 0, 0, 0, 0, 0, 0, 0, 0, 0, 0, 0, 0, 0, 0, 0, 0, 0, 0, 0, 0, 0, 0, 0, 0, 0, 0, 0, 0, 0, 0, 0, 0, 0, 0, 0, 0, 0, 0, 0, 0, 40, 0, 0, 0, 0, 0, 0, 0, 0, 0, 0, 0, 0, 0, 0, 0, 0, 0, 0, 0, 0, 0, 0, 0, 0, 0, 0, 0, 0, 0, 0, 0, 0, 0, 0, 0, 0, 0, 0, 0, 0, 0, 0, 0, 0, 0, 0, 0, 0, 0, 0, 0, 0, 0, 0, 0, 0, 0, 0, 0, 0, 0, 0, 0, 0, 0, 0, 0, 0, 0, 0, 0, 0, 0, 0, 0, 0, 0, 0, 0, 0, 0, 0, 0, 0, 0, 0, 0, 0, 0, 0, 0, 0, 0, 0, 0, 0, 0, 0, 0, 0, 0, 0, 0, 0, 0, 0, 0, 0, 0, 0]
def phL : List Nat := [1, 1, 1, 1, 1, 1, 1, 1, 1, 1, 1, 1, 0, 0, 0, 0, 0, 0, 0, 0, 0, 0, 0, 0, 0, 0, 0, 0, 0, 0, 0, 0, 0, 0, 0, 0, 0, 0, 0, 0, 0, 0, 0, 0, 0, 0, 0, 0, 0, 0, 0, 0, 0, 0, 0, 0, 0, 0, 0, 0, 0, 0, 0, 0, 0, 0, 0, 0, 0, 0, 0, 0, 0, 0, 0, 0, 0, 0, 0, 0, 0, 0, 0, 0, 0, 0, 0, 0, 0, 0, 0, 0, 0, 0, 0, 0, 0, 0, 0, 0, 0, 0, 0, 0, 0, 0, 0, 0, 0, 0, 0, 0, 0, 0, 0, 0, 0, 0, 0, 0, 0, 0, 0, 0, 0, 0, 0, 0, 0, 0, 0, 0, 0, 0, 0, 0, 0, 0, 0, 0, 0, 0, 0, 0, 0, 0, 0, 0, 0, 0, 0, 0, 0, 0, 0, 0, 0, 0, 0, 0, 0, 0, 0, 0, 0, 0, 0, 0, 0, 0, 0, 0, 1, 0, 0, 0, 0, 0, 0, 0, 0, 0, 0, 0, 0, 0, 0, 0, 0, 0, 0, 0, 0, 0, 0, 0, 0, 0, 0, 0, 0, 0, 0, 0, 0, 0, 0, 0, 0, 0, 0, 0, 0, 0, 0, 0, 0, 0, 0, 0, 0, 0, 0, 0, 0, 0, 0, 0, 0, 0, 0, 0, 0, 0, 0, 0, 0, 0, 0, 0, 0, 0, 0, 0, 0, 0, 0, 0, 0, 0, 0, 0, 0, 0, 0, 0, 0, 0, 0, 0, 0, 0, 0, 0, 0, 0, 0, 0, 0, 0, 0, 0, 0, 0, 0, 0, 3, 3, 3, 0, 0, 0, 0]
def rkM (j : Nat) : Nat := nthA 0 rkL j
def nAl (j : Nat) : Nat := nthA 0 nAlL j
def phM (j : Nat) : Nat := nthA 9 phL j
/-- one step, as a condition on what follows -/
def F (cw : CWt) (cd : List Ent) (pr : Pr) (Q : MV → Wd → Prop) (P : Pt4) (i : Nat) (l s : List MV) (w : Wd) : Prop :=
  match nthA nE cd i with
  | (_, ins, _, aux, c) => match ins with
    | .iconst _ => P (i + 1) l (mI c :: s) w
    | .bipush _ => P (i + 1) l (mI c :: s) w
    | .sipush _ => P (i + 1) l (mI c :: s) w
    | .ldc _ => P (i + 1) l (mI c :: s) w
    | .ldc_w _ => P (i + 1) l (mI c :: s) w
    | .lconst _ => P (i + 1) l (mL c :: s) w
    | .ldc2_w _ => P (i + 1) l (mL c :: s) w
    | .iload _ => match nthA none l (a0 aux) with | some (.inl x) => P (i + 1) l (mI x :: s) w | _ => False
    | .iload_n _ => match nthA none l (a0 aux) with | some (.inl x) => P (i + 1) l (mI x :: s) w | _ => False
    | .lload _ => match nthA none l (a0 aux) with | some (.inr (.inl x)) => P (i + 1) l (mL x :: s) w | _ => False
    | .lload_n _ => match nthA none l (a0 aux) with | some (.inr (.inl x)) => P (i + 1) l (mL x :: s) w | _ => False
    | .aload _ => match nthA none l (a0 aux) with | some (.inr (.inr h)) => P (i + 1) l (mR h :: s) w | _ => False
    | .aload_n _ => match nthA none l (a0 aux) with | some (.inr (.inr h)) => P (i + 1) l (mR h :: s) w | _ => False
    | .istore _ => match s with | some (.inl x) :: s => P (i + 1) (stI l (a0 aux) (mI x)) s w | _ => False
    | .istore_n _ => match s with | some (.inl x) :: s => P (i + 1) (stI l (a0 aux) (mI x)) s w | _ => False
    | .lstore _ => match s with | some (.inr (.inl x)) :: s => P (i + 1) (stL l (a0 aux) (mL x)) s w | _ => False
    | .lstore_n _ => match s with | some (.inr (.inl x)) :: s => P (i + 1) (stL l (a0 aux) (mL x)) s w | _ => False
    | .astore _ => match s with | some (.inr (.inr h)) :: s => P (i + 1) (stI l (a0 aux) (mR h)) s w | _ => False
    | .astore_n _ => match s with | some (.inr (.inr h)) :: s => P (i + 1) (stI l (a0 aux) (mR h)) s w | _ => False
    | .iinc _ _ => match nthA none l (a0 aux) with | some (.inl x) => P (i + 1) (stI l (a0 aux) (mI (w32 (x + c)))) s w | _ => False
    | .iadd => match s with | some (.inl b) :: some (.inl a) :: s => P (i + 1) l (mI (w32 (a + b)) :: s) w | _ => False
    | .isub => match s with | some (.inl b) :: some (.inl a) :: s => P (i + 1) l (mI (w32 (a - b)) :: s) w | _ => False
    | .imul => match s with | some (.inl b) :: some (.inl a) :: s => P (i + 1) l (mI (w32 (a * b)) :: s) w | _ => False
    | .idiv => match s with | some (.inl b) :: some (.inl a) :: s => ¬ b = 0 ∧ P (i + 1) l (mI (w32 (a.tdiv b)) :: s) w | _ => False
    | .irem => match s with | some (.inl b) :: some (.inl a) :: s => ¬ b = 0 ∧ P (i + 1) l (mI (a.tmod b) :: s) w | _ => False
    | .iand => match s with | some (.inl b) :: some (.inl a) :: s => P (i + 1) l (mI (iand a b) :: s) w | _ => False
    | .ior => match s with | some (.inl b) :: some (.inl a) :: s => P (i + 1) l (mI (ior a b) :: s) w | _ => False
    | .ixor => match s with | some (.inl b) :: some (.inl a) :: s => P (i + 1) l (mI (ixor a b) :: s) w | _ => False
    | .ishl => match s with | some (.inl b) :: some (.inl a) :: s => P (i + 1) l (mI (ishl a b) :: s) w | _ => False
    | .ishr => match s with | some (.inl b) :: some (.inl a) :: s => P (i + 1) l (mI (ishr a b) :: s) w | _ => False
    | .iushr => match s with | some (.inl b) :: some (.inl a) :: s => P (i + 1) l (mI (iushr a b) :: s) w | _ => False
    | .ladd => match s with | some (.inr (.inl b)) :: some (.inr (.inl a)) :: s => P (i + 1) l (mL (w64 (a + b)) :: s) w | _ => False
    | .lsub => match s with | some (.inr (.inl b)) :: some (.inr (.inl a)) :: s => P (i + 1) l (mL (w64 (a - b)) :: s) w | _ => False
    | .lmul => match s with | some (.inr (.inl b)) :: some (.inr (.inl a)) :: s => P (i + 1) l (mL (w64 (a * b)) :: s) w | _ => False
    | .ldiv => match s with | some (.inr (.inl b)) :: some (.inr (.inl a)) :: s => ¬ b = 0 ∧ P (i + 1) l (mL (w64 (a.tdiv b)) :: s) w | _ => False
    | .lrem => match s with | some (.inr (.inl b)) :: some (.inr (.inl a)) :: s => ¬ b = 0 ∧ P (i + 1) l (mL (a.tmod b) :: s) w | _ => False
    | .lor => match s with | some (.inr (.inl b)) :: some (.inr (.inl a)) :: s => P (i + 1) l (mL (lor64 a b) :: s) w | _ => False
    | .lshl => match s with | some (.inl b) :: some (.inr (.inl a)) :: s => P (i + 1) l (mL (lshl a b) :: s) w | _ => False
    | .lshr => match s with | some (.inl b) :: some (.inr (.inl a)) :: s => P (i + 1) l (mL (lshr a b) :: s) w | _ => False
    | .lushr => match s with | some (.inl b) :: some (.inr (.inl a)) :: s => P (i + 1) l (mL (lushr a b) :: s) w | _ => False
    | .i2l => match s with | some (.inl a) :: s => P (i + 1) l (mL a :: s) w | _ => False
    | .l2i => match s with | some (.inr (.inl a)) :: s => P (i + 1) l (mI (w32 a) :: s) w | _ => False
    | .i2b => match s with | some (.inl a) :: s => P (i + 1) l (mI (w8 a) :: s) w | _ => False
    | .lcmp => match s with | some (.inr (.inl b)) :: some (.inr (.inl a)) :: s => P (i + 1) l (mI (cmp3 a b) :: s) w | _ => False
    | .dup => match s with
      | some (.inl x) :: s => P (i + 1) l (mI x :: mI x :: s) w
      | some (.inr (.inr h)) :: s => P (i + 1) l (mR h :: mR h :: s) w
      | _ => False
    | .dup2 => match s with
      | some (.inl x) :: some (.inr (.inr h)) :: s => P (i + 1) l (mI x :: mR h :: mI x :: mR h :: s) w
      | _ => False
    | .pop => match s with
      | some (.inl _) :: s => P (i + 1) l s w
      | some (.inr (.inr _)) :: s => P (i + 1) l s w
      | _ => False
    | .goto _ => P (a0 aux) l s w
    | .ifCond cnd _ => match s with | some (.inl x) :: s => (cndP cnd x 0 → P (a0 aux) l s w) ∧ (¬ cndP cnd x 0 → P (i + 1) l s w) | _ => False
    | .if_icmp cnd _ => match s with | some (.inl y) :: some (.inl x) :: s => (cndP cnd x y → P (a0 aux) l s w) ∧ (¬ cndP cnd x y → P (i + 1) l s w) | _ => False
    | .tableswitch _ _ _ _ => match s with | some (.inl x) :: s => swP c (aux.drop 1) x (a0 aux) (fun t => P t l s w) | _ => False
    | .getfield _ => match s with
      | some (.inr (.inr h)) :: s => if kd h = a0 aux then
          (if fty (a0 aux) (a1 aux) = 2 then (if pr.2.1 = 0 then P (i + 1) l (mR (gr h (a1 aux)) :: s) w else ¬ w h (a1 aux) = 0 ∧ P (i + 1) l (mR (gr h (a1 aux)) :: s) w)
          else if fty (a0 aux) (a1 aux) = 1 then P (i + 1) l (mL (w h (a1 aux)) :: s) w
          else P (i + 1) l (mI (w h (a1 aux)) :: s) w) else False
      | _ => False
    | .putfield _ => match s with
      | some (.inl x) :: some (.inr (.inr h)) :: s => if kd h = a0 aux then
          (if fty (a0 aux) (a1 aux) = 0 then P (i + 1) l s (ub w h (a1 aux) x)
          else if fty (a0 aux) (a1 aux) = 3 then (x = 0 ∨ x = 1) ∧ P (i + 1) l s (ub w h (a1 aux) x) else False) else False
      | some (.inr (.inl x)) :: some (.inr (.inr h)) :: s => if kd h = a0 aux then
          (if fty (a0 aux) (a1 aux) = 1 then P (i + 1) l s (ub w h (a1 aux) x) else False) else False
      | some (.inr (.inr g)) :: some (.inr (.inr h)) :: s => if kd h = a0 aux then
          (if fty (a0 aux) (a1 aux) = 2 then (if pr.2.1 = 1 then gr h (a1 aux) = g ∧ P (i + 1) l s (ub w h (a1 aux) 1) else False) else False) else False
      | _ => False
    | .iaload => match s with
      | some (.inl j) :: some (.inr (.inr h)) :: s => if kd h = 20 ∨ (kd h = 30 ∧ pr.2.1 = 2) then (0 ≤ j ∧ j < alen w h) ∧ P (i + 1) l (mI (w h j.toNat) :: s) w else False
      | _ => False
    | .laload => match s with
      | some (.inl j) :: some (.inr (.inr h)) :: s => if kd h = 21 then (0 ≤ j ∧ j < alen w h) ∧ P (i + 1) l (mL (w h j.toNat) :: s) w else False
      | _ => False
    | .baload => match s with
      | some (.inl j) :: some (.inr (.inr h)) :: s => if kd h = 22 ∨ kd h = 23 then (0 ≤ j ∧ j < alen w h) ∧ P (i + 1) l (mI (w h j.toNat) :: s) w else False
      | _ => False
    | .aaload => match s with
      | some (.inl j) :: some (.inr (.inr h)) :: s => if kd h = 24 then (if pr.2.1 = 0 then (0 ≤ j ∧ j < alen w h) ∧ P (i + 1) l (mR (gr h j.toNat) :: s) w else False) else False
      | _ => False
    | .iastore => match s with
      | some (.inl x) :: some (.inl j) :: some (.inr (.inr h)) :: s => if kd h = 20 then (0 ≤ j ∧ j < alen w h) ∧ P (i + 1) l s (ub w h j.toNat x) else False
      | _ => False
    | .lastore => match s with
      | some (.inr (.inl x)) :: some (.inl j) :: some (.inr (.inr h)) :: s => if kd h = 21 then (0 ≤ j ∧ j < alen w h) ∧ P (i + 1) l s (ub w h j.toNat x) else False
      | _ => False
    | .bastore => match s with
      | some (.inl x) :: some (.inl j) :: some (.inr (.inr h)) :: s => if kd h = 22 then (0 ≤ j ∧ j < alen w h) ∧ P (i + 1) l s (ub w h j.toNat (w8 x))
          else if kd h = 23 then (0 ≤ j ∧ j < alen w h) ∧ (x = 0 ∨ x = 1) ∧ P (i + 1) l s (ub w h j.toNat x) else False
      | _ => False
    | .aastore => match s with
      | some (.inr (.inr g)) :: some (.inl j) :: some (.inr (.inr h)) :: s => if kd h = 24 then (if pr.2.1 = 1 then (0 ≤ j ∧ j < alen w h) ∧ gr h j.toNat = g ∧ kd g = 2 ∧ P (i + 1) l s (ub w h j.toNat 1) else False) else False
      | _ => False
    | .arraylength => match s with
      | some (.inr (.inr h)) :: s => if kd h = 20 ∨ kd h = 21 ∨ kd h = 24 ∨ (kd h = 30 ∧ pr.2.1 = 2) then P (i + 1) l (mI (alen w h) :: s) w else False
      | _ => False
    | .new _ => kd (w 401 0).toNat = a0 aux ∧ a0 aux < 20 ∧ (0 < pr.2.1 ∧ w 401 0 < pr.2.2) ∧ P (i + 1) l (mR (w 401 0).toNat :: s) (mkNew w)
    | .newarray _ => match s with
      | some (.inl x) :: s => kd (w 401 0).toNat = a0 aux ∧ szI (w 401 0).toNat = x ∧ (0 < pr.2.1 ∧ w 401 0 < pr.2.2) ∧ (w 401 0 = 185 → allSet w) ∧ P (i + 1) l (mR (w 401 0).toNat :: s) (mkNew w)
      | _ => False
    | .anewarray _ => match s with
      | some (.inl x) :: s => kd (w 401 0).toNat = 24 ∧ szI (w 401 0).toNat = x ∧ (0 < pr.2.1 ∧ w 401 0 < pr.2.2) ∧ P (i + 1) l (mR (w 401 0).toNat :: s) (mkNew w)
      | _ => False
    | .invokevirtual _ => if catS (s.drop (a2 aux + 1)) ≤ 8 ∧ rcvK (nthA none s (a2 aux)) = nthA 0 aux 3 then
        (if phM (a1 aux) = 0 then (if pr.2.1 = 0 then cw (a1 aux) (s.take (a2 aux + 1)).reverse w (fun r w' => P (i + 1) l (pushR (rkM (a1 aux)) r (s.drop (a2 aux + 1))) w')
          else if pr.2.1 = 2 then w 401 0 = 186 ∧ cw (a1 aux) (s.take (a2 aux + 1)).reverse w (fun r w' => P (i + 1) l (pushR (rkM (a1 aux)) r (s.drop (a2 aux + 1))) w') else False) else False) else False
    | .invokestatic _ => match a0 aux with
      | 10 => match s with | some (.inl b) :: some (.inl a) :: s => if catS s ≤ 8 then P (i + 1) l (mI (max a b) :: s) w else False | _ => False
      | 11 => match s with | some (.inl b) :: some (.inl a) :: s => if catS s ≤ 8 then P (i + 1) l (mI (min a b) :: s) w else False | _ => False
      | 12 => match s with | some (.inr (.inl b)) :: some (.inr (.inl a)) :: s => if catS s ≤ 8 then P (i + 1) l (mL (max a b) :: s) w else False | _ => False
      | 13 => match s with | some (.inr (.inl b)) :: some (.inr (.inl a)) :: s => if catS s ≤ 8 then P (i + 1) l (mL (min a b) :: s) w else False | _ => False
      | 14 => match s with
        | some (.inl n) :: some (.inl dp) :: some (.inr (.inr d)) :: some (.inl sp) :: some (.inr (.inr h)) :: s => if (kd h = 20 ∧ kd d = 20) ∧ catS s ≤ 8 then
            (0 ≤ n ∧ 0 ≤ sp ∧ 0 ≤ dp ∧ sp + n ≤ alen w h ∧ dp + n ≤ alen w d) ∧ P (i + 1) l s (ubf w d (cpyf (w h) (w d) sp.toNat dp.toNat n.toNat)) else False
        | _ => False
      | 7 => if (catS (s.drop (a2 aux)) ≤ 8 ∧ a2 aux ≤ s.length) ∧ pr.2.1 = 2 then w 401 0 = 186 ∧ cw (a1 aux) (s.take (a2 aux)).reverse w (fun r w' => P (i + 1) l (pushR (rkM (a1 aux)) r (s.drop (a2 aux))) w') else False
      | _ => if catS (s.drop (a2 aux)) ≤ 8 ∧ a2 aux ≤ s.length then
        (if phM (a1 aux) = 3 ∨ (phM (a1 aux) = 0 ∧ pr.2.1 = 0) then cw (a1 aux) (s.take (a2 aux)).reverse w (fun r w' => P (i + 1) l (pushR (rkM (a1 aux)) r (s.drop (a2 aux))) w') else False) else False
    | .invokespecial _ => match a0 aux with
      | 20 => match s with | some (.inr (.inr _)) :: s => if catS s ≤ 8 then P (i + 1) l s w else False | _ => False
      | _ => if catS (s.drop (a2 aux + 1)) ≤ 8 ∧ rcvK (nthA none s (a2 aux)) < 20 then (if phM (a1 aux) = 1 ∧ rkM (a1 aux) = 0 then
        (0 < pr.2.1 ∧ w 401 0 + (nAl (a1 aux) : Int) ≤ pr.2.2) ∧ cw (a1 aux) (s.take (a2 aux + 1)).reverse w (fun _ w' => P (i + 1) l (s.drop (a2 aux + 1)) w') else False) else False
    | .return_ => match s with | [] => if pr.1 = 0 then Q none w else False | _ => False
    | .ireturn => match s with
      | [some (.inl x)] => if pr.1 = 1 then Q (mI x) w else if pr.1 = 2 then (x = 0 ∨ x = 1) ∧ Q (mI x) w else False
      | _ => False
    | .lreturn => match s with | [some (.inr (.inl x))] => if pr.1 = 3 then Q (mL x) w else False | _ => False
    | .areturn => match s with | [some (.inr (.inr h))] => if pr.1 = 4 then Q (mR h) w else False | _ => False
    | _ => False
def Wp (cw : CWt) (cd : List Ent) (pr : Pr) (Q : MV → Wd → Prop) (i : Nat) (l s : List MV) (w : Wd) : Prop :=
  ∀ P : Pt4, (∀ i l s w, F cw cd pr Q P i l s w → P i l s w) → P i l s w
theorem ite_mono {c : Prop} (hd : Decidable c) {A B A' B' : Prop} (h1 : c → A → A') (h2 : ¬ c → B → B') : (if c then A else B) → (if c then A' else B') := by
  by_cases q : c
  · rw [if_pos q, if_pos q]; exact h1 q
  · rw [if_neg q, if_neg q]; exact h2 q
theorem swP_mono {K K' : Nat → Prop} (h : ∀ t, K t → K' t) : ∀ (ts : List Nat) (lo x : Int) (d : Nat), swP lo ts x d K → swP lo ts x d K'
  | [], _, _, _, q => h _ q
  | _ :: ts, lo, x, d, q => ⟨fun a => h _ (q.1 a), fun a => swP_mono h ts (lo + 1) x d (q.2 a)⟩
theorem F_mono {cw : CWt} (hc : ∀ j a w (Q Q' : MV → Wd → Prop), (∀ r w, Q r w → Q' r w) → cw j a w Q → cw j a w Q') {cd : List Ent} {pr : Pr} {Q Q' : MV → Wd → Prop} (hQ : ∀ r w, Q r w → Q' r w) {P P' : Pt4} (hP : ∀ i l s w, P i l s w → P' i l s w) {i : Nat} {l s : List MV} {w : Wd} : F cw cd pr Q P i l s w → F cw cd pr Q' P' i l s w := by
  unfold F
  generalize nthA nE cd i = e
  obtain ⟨_, ins, _, aux, c⟩ := e
  cases ins <;> dsimp only
  case invokestatic =>
    split
    · split <;> first | exact id | exact ite_mono _ (fun _ => hP _ _ _ _) (fun _ h => h)
    · split <;> first | exact id | exact ite_mono _ (fun _ => hP _ _ _ _) (fun _ h => h)
    · split <;> first | exact id | exact ite_mono _ (fun _ => hP _ _ _ _) (fun _ h => h)
    · split <;> first | exact id | exact ite_mono _ (fun _ => hP _ _ _ _) (fun _ h => h)
    · split
      · exact ite_mono _ (fun _ h => ⟨h.1, hP _ _ _ _ h.2⟩) (fun _ h => h)
      · exact id
    · exact ite_mono _ (fun _ h => ⟨h.1, hc _ _ _ _ _ (fun _ _ => hP _ _ _ _) h.2⟩) (fun _ h => h)
    · exact ite_mono _ (fun _ => ite_mono _ (fun _ => hc _ _ _ _ _ (fun _ _ => hP _ _ _ _)) (fun _ h => h)) (fun _ h => h)
  case invokevirtual =>
    exact ite_mono _ (fun _ => ite_mono _ (fun _ => ite_mono _ (fun _ => hc _ _ _ _ _ (fun _ _ => hP _ _ _ _)) (fun _ => ite_mono _ (fun _ h => ⟨h.1, hc _ _ _ _ _ (fun _ _ => hP _ _ _ _) h.2⟩) (fun _ h => h))) (fun _ h => h)) (fun _ h => h)
  case invokespecial =>
    split
    · split <;> first | exact id | exact ite_mono _ (fun _ => hP _ _ _ _) (fun _ h => h)
    · exact ite_mono _ (fun _ => ite_mono _ (fun _ h => ⟨h.1, hc _ _ _ _ _ (fun _ _ => hP _ _ _ _) h.2⟩) (fun _ h => h)) (fun _ h => h)
  case tableswitch =>
    split
    · exact swP_mono (fun t => hP _ _ _ _) _ _ _ _
    · exact id
  case new => exact fun h => ⟨h.1, h.2.1, h.2.2.1, hP _ _ _ _ h.2.2.2⟩
  case newarray =>
    split
    · exact fun h => ⟨h.1, h.2.1, h.2.2.1, h.2.2.2.1, hP _ _ _ _ h.2.2.2.2⟩
    · exact id
  case anewarray =>
    split
    · exact fun h => ⟨h.1, h.2.1, h.2.2.1, hP _ _ _ _ h.2.2.2⟩
    · exact id
  case getfield =>
    split
    · exact ite_mono _ (fun _ => ite_mono _ (fun _ => ite_mono _ (fun _ => hP _ _ _ _) (fun _ h => ⟨h.1, hP _ _ _ _ h.2⟩)) (fun _ => ite_mono _ (fun _ => hP _ _ _ _) (fun _ => hP _ _ _ _))) (fun _ h => h)
    · exact id
  case putfield =>
    split
    · exact ite_mono _ (fun _ => ite_mono _ (fun _ => hP _ _ _ _) (fun _ => ite_mono _ (fun _ h => ⟨h.1, hP _ _ _ _ h.2⟩) (fun _ h => h))) (fun _ h => h)
    · exact ite_mono _ (fun _ => ite_mono _ (fun _ => hP _ _ _ _) (fun _ h => h)) (fun _ h => h)
    · exact ite_mono _ (fun _ => ite_mono _ (fun _ => ite_mono _ (fun _ h => ⟨h.1, hP _ _ _ _ h.2⟩) (fun _ h => h)) (fun _ h => h)) (fun _ h => h)
    · exact id
  case ireturn =>
    split
    · exact ite_mono _ (fun _ => hQ _ _) (fun _ => ite_mono _ (fun _ h => ⟨h.1, hQ _ _ h.2⟩) (fun _ h => h))
    · exact id
  case return_ => 
    split
    · exact ite_mono _ (fun _ => hQ _ _) (fun _ h => h)
    · exact id
  case lreturn => 
    split
    · exact ite_mono _ (fun _ => hQ _ _) (fun _ h => h)
    · exact id
  case areturn => 
    split
    · exact ite_mono _ (fun _ => hQ _ _) (fun _ h => h)
    · exact id
  case ifCond =>
    split
    · exact fun h => ⟨fun q => hP _ _ _ _ (h.1 q), fun q => hP _ _ _ _ (h.2 q)⟩
    · exact id
  case if_icmp =>
    split
    · exact fun h => ⟨fun q => hP _ _ _ _ (h.1 q), fun q => hP _ _ _ _ (h.2 q)⟩
    · exact id
  case bastore =>
    split
    · exact ite_mono _ (fun _ h => ⟨h.1, hP _ _ _ _ h.2⟩) (fun _ => ite_mono _ (fun _ h => ⟨h.1, h.2.1, hP _ _ _ _ h.2.2⟩) (fun _ h => h))
    · exact id
  case aastore =>
    split
    · exact ite_mono _ (fun _ => ite_mono _ (fun _ h => ⟨h.1, h.2.1, h.2.2.1, hP _ _ _ _ h.2.2.2⟩) (fun _ h => h)) (fun _ h => h)
    · exact id
  case aaload =>
    split
    · exact ite_mono _ (fun _ => ite_mono _ (fun _ h => ⟨h.1, hP _ _ _ _ h.2⟩) (fun _ h => h)) (fun _ h => h)
    · exact id
  all_goals first
    | exact id
    | exact hP _ _ _ _
    | (split
       · exact fun h => ⟨h.1, hP _ _ _ _ h.2⟩
       · exact id)
    | (split
       · exact hP _ _ _ _
       · exact id)
    | (split
       · exact hP _ _ _ _
       · exact hP _ _ _ _
       · exact id)
    | (split
       · exact ite_mono _ (fun _ h => ⟨h.1, hP _ _ _ _ h.2⟩) (fun _ h => h)
       · exact id)
    | (split
       · exact ite_mono _ (fun _ h => hP _ _ _ _ h) (fun _ h => h)
       · exact id)
/-- one step back -/
theorem Wp.st {cw : CWt} (hc : ∀ j a w (Q Q' : MV → Wd → Prop), (∀ r w, Q r w → Q' r w) → cw j a w Q → cw j a w Q') {cd : List Ent} {pr : Pr} {Q : MV → Wd → Prop} {i : Nat} {l s : List MV} {w : Wd} (h : F cw cd pr Q (Wp cw cd pr Q) i l s w) : Wp cw cd pr Q i l s w := fun P hP =>
  hP _ _ _ _ (F_mono hc (fun _ _ h => h) (fun _ _ _ _ q => q P hP) h)
theorem Wp.mono {cw : CWt} (hc : ∀ j a w (Q Q' : MV → Wd → Prop), (∀ r w, Q r w → Q' r w) → cw j a w Q → cw j a w Q') {cd : List Ent} {pr : Pr} {Q Q' : MV → Wd → Prop} (hQ : ∀ r w, Q r w → Q' r w) {i : Nat} {l s : List MV} {w : Wd} (h : Wp cw cd pr Q i l s w) : Wp cw cd pr Q' i l s w := fun P hP =>
  h P (fun i l s w q => hP i l s w (F_mono hc hQ (fun _ _ _ _ q => q) q))
/-- the one list says less than the other -/
def leA : List MV → List MV → Prop
  | [], [] => True
  | a :: t, b :: u => (a = none ∨ a = b) ∧ leA t u
  | _, _ => False
theorem leA.k {a : MV} {t u : List MV} (h : leA t u) : leA (a :: t) (a :: u) := ⟨Or.inr rfl, h⟩
theorem leA.f {b : MV} {t u : List MV} (h : leA t u) : leA (none :: t) (b :: u) := ⟨Or.inl rfl, h⟩
theorem leA.e : leA [] [] := trivial
theorem leA.rf : ∀ (l : List MV), leA l l
  | [] => trivial
  | _ :: t => ⟨Or.inr rfl, leA.rf t⟩
theorem leA.at : ∀ {l l' : List MV} (i : Nat), leA l l' → nthA none l i = none ∨ nthA none l i = nthA none l' i
  | [], [], _, _ => Or.inl rfl
  | a :: t, b :: u, 0, h => h.1
  | a :: t, b :: u, i + 1, h => leA.at (l := t) (l' := u) i h.2
  | [], _ :: _, _, h => h.elim
  | _ :: _, [], _, h => h.elim
theorem leA.st : ∀ {l l' : List MV} (i : Nat) {v v' : MV}, leA l l' → (v = none ∨ v = v') → leA (stA v l i) (stA v' l' i)
  | [], [], _, _, _, _, _ => trivial
  | a :: t, b :: u, 0, _, _, h, hv => ⟨hv, h.2⟩
  | a :: t, b :: u, i + 1, _, _, h, hv => ⟨h.1, leA.st (l := t) (l' := u) i h.2 hv⟩
  | [], _ :: _, _, _, _, h, _ => h.elim
  | _ :: _, [], _, _, _, h, _ => h.elim
theorem leA.nn : ∀ {l l' : List MV} (i : Nat), leA l l' → nthA none l i = none → leA l (stA none l' i)
  | [], [], _, _, _ => trivial
  | a :: t, b :: u, 0, h, hn => ⟨Or.inl hn, h.2⟩
  | a :: t, b :: u, i + 1, h, hn => ⟨h.1, leA.nn (l := t) (l' := u) i h.2 hn⟩
  | [], _ :: _, _, h, _ => h.elim
  | _ :: _, [], _, h, _ => h.elim
theorem leA.kl {l l' : List MV} (i : Nat) (h : leA l l') : leA (klA l i) (klA l' i) := by
  cases i with
  | zero => exact h
  | succ j =>
    show leA (match nthA none l j with | some (.inr (.inl _)) => stA none l j | _ => l) (match nthA none l' j with | some (.inr (.inl _)) => stA none l' j | _ => l')
    rcases leA.at j h with q | q
    · rw [q]
      show leA l _
      split
      · exact leA.nn j h q
      · exact h
    · rw [← q]
      generalize nthA Option.none l j = v
      match v with
      | .none => exact h
      | .some (.inl _) => exact h
      | .some (.inr (.inr _)) => exact h
      | .some (.inr (.inl _)) => exact leA.st j h (Or.inl rfl)
theorem stI_le {l l' : List MV} {i : Nat} {v : MV} (h : leA l l') : leA (stI l i v) (stI l' i v) := leA.st i (leA.kl i h) (Or.inr rfl)
theorem stL_le {l l' : List MV} {i : Nat} {v : MV} (h : leA l l') : leA (stL l i v) (stL l' i v) := leA.st (i + 1) (leA.st i (leA.kl i h) (Or.inr rfl)) (Or.inl rfl)
theorem F_le {cw : CWt} (hc : ∀ j a w (Q Q' : MV → Wd → Prop), (∀ r w, Q r w → Q' r w) → cw j a w Q → cw j a w Q') {cd : List Ent} {pr : Pr} {Q Q' : MV → Wd → Prop} (hQ : ∀ r w, Q r w → Q' r w) {P P' : Pt4} (hP : ∀ i l l' s w, leA l l' → P i l s w → P' i l' s w) {i : Nat} {l l' s : List MV} {w : Wd} (hle : leA l l') : F cw cd pr Q P i l s w → F cw cd pr Q' P' i l' s w := by
  unfold F
  generalize nthA nE cd i = e
  obtain ⟨_, ins, _, aux, c⟩ := e
  cases ins <;> dsimp only
  case iload =>
    rcases leA.at (a0 aux) hle with q | q
    · rw [q]; exact False.elim
    · rw [← q]
      split <;> first | exact id | exact hP _ _ _ _ _ hle
  case iload_n =>
    rcases leA.at (a0 aux) hle with q | q
    · rw [q]; exact False.elim
    · rw [← q]
      split <;> first | exact id | exact hP _ _ _ _ _ hle
  case lload =>
    rcases leA.at (a0 aux) hle with q | q
    · rw [q]; exact False.elim
    · rw [← q]
      split <;> first | exact id | exact hP _ _ _ _ _ hle
  case lload_n =>
    rcases leA.at (a0 aux) hle with q | q
    · rw [q]; exact False.elim
    · rw [← q]
      split <;> first | exact id | exact hP _ _ _ _ _ hle
  case aload =>
    rcases leA.at (a0 aux) hle with q | q
    · rw [q]; exact False.elim
    · rw [← q]
      split <;> first | exact id | exact hP _ _ _ _ _ hle
  case aload_n =>
    rcases leA.at (a0 aux) hle with q | q
    · rw [q]; exact False.elim
    · rw [← q]
      split <;> first | exact id | exact hP _ _ _ _ _ hle
  case iinc =>
    rcases leA.at (a0 aux) hle with q | q
    · rw [q]; exact False.elim
    · rw [← q]
      split <;> first | exact id | exact hP _ _ _ _ _ (stI_le hle)
  case istore => split <;> first | exact id | exact hP _ _ _ _ _ (stI_le hle)
  case istore_n => split <;> first | exact id | exact hP _ _ _ _ _ (stI_le hle)
  case astore => split <;> first | exact id | exact hP _ _ _ _ _ (stI_le hle)
  case astore_n => split <;> first | exact id | exact hP _ _ _ _ _ (stI_le hle)
  case lstore => split <;> first | exact id | exact hP _ _ _ _ _ (stL_le hle)
  case lstore_n => split <;> first | exact id | exact hP _ _ _ _ _ (stL_le hle)
  case invokestatic =>
    split
    · split <;> first | exact id | exact ite_mono _ (fun _ => hP _ _ _ _ _ hle) (fun _ h => h)
    · split <;> first | exact id | exact ite_mono _ (fun _ => hP _ _ _ _ _ hle) (fun _ h => h)
    · split <;> first | exact id | exact ite_mono _ (fun _ => hP _ _ _ _ _ hle) (fun _ h => h)
    · split <;> first | exact id | exact ite_mono _ (fun _ => hP _ _ _ _ _ hle) (fun _ h => h)
    · split
      · exact ite_mono _ (fun _ h => ⟨h.1, hP _ _ _ _ _ hle h.2⟩) (fun _ h => h)
      · exact id
    · exact ite_mono _ (fun _ h => ⟨h.1, hc _ _ _ _ _ (fun _ _ => hP _ _ _ _ _ hle) h.2⟩) (fun _ h => h)
    · exact ite_mono _ (fun _ => ite_mono _ (fun _ => hc _ _ _ _ _ (fun _ _ => hP _ _ _ _ _ hle)) (fun _ h => h)) (fun _ h => h)
  case invokevirtual =>
    exact ite_mono _ (fun _ => ite_mono _ (fun _ => ite_mono _ (fun _ => hc _ _ _ _ _ (fun _ _ => hP _ _ _ _ _ hle)) (fun _ => ite_mono _ (fun _ h => ⟨h.1, hc _ _ _ _ _ (fun _ _ => hP _ _ _ _ _ hle) h.2⟩) (fun _ h => h))) (fun _ h => h)) (fun _ h => h)
  case invokespecial =>
    split
    · split <;> first | exact id | exact ite_mono _ (fun _ => hP _ _ _ _ _ hle) (fun _ h => h)
    · exact ite_mono _ (fun _ => ite_mono _ (fun _ h => ⟨h.1, hc _ _ _ _ _ (fun _ _ => hP _ _ _ _ _ hle) h.2⟩) (fun _ h => h)) (fun _ h => h)
  case tableswitch =>
    split
    · exact swP_mono (fun t => hP _ _ _ _ _ hle) _ _ _ _
    · exact id
  case new => exact fun h => ⟨h.1, h.2.1, h.2.2.1, hP _ _ _ _ _ hle h.2.2.2⟩
  case newarray =>
    split
    · exact fun h => ⟨h.1, h.2.1, h.2.2.1, h.2.2.2.1, hP _ _ _ _ _ hle h.2.2.2.2⟩
    · exact id
  case anewarray =>
    split
    · exact fun h => ⟨h.1, h.2.1, h.2.2.1, hP _ _ _ _ _ hle h.2.2.2⟩
    · exact id
  case getfield =>
    split
    · exact ite_mono _ (fun _ => ite_mono _ (fun _ => ite_mono _ (fun _ => hP _ _ _ _ _ hle) (fun _ h => ⟨h.1, hP _ _ _ _ _ hle h.2⟩)) (fun _ => ite_mono _ (fun _ => hP _ _ _ _ _ hle) (fun _ => hP _ _ _ _ _ hle))) (fun _ h => h)
    · exact id
  case putfield =>
    split
    · exact ite_mono _ (fun _ => ite_mono _ (fun _ => hP _ _ _ _ _ hle) (fun _ => ite_mono _ (fun _ h => ⟨h.1, hP _ _ _ _ _ hle h.2⟩) (fun _ h => h))) (fun _ h => h)
    · exact ite_mono _ (fun _ => ite_mono _ (fun _ => hP _ _ _ _ _ hle) (fun _ h => h)) (fun _ h => h)
    · exact ite_mono _ (fun _ => ite_mono _ (fun _ => ite_mono _ (fun _ h => ⟨h.1, hP _ _ _ _ _ hle h.2⟩) (fun _ h => h)) (fun _ h => h)) (fun _ h => h)
    · exact id
  case ireturn =>
    split
    · exact ite_mono _ (fun _ => hQ _ _) (fun _ => ite_mono _ (fun _ h => ⟨h.1, hQ _ _ h.2⟩) (fun _ h => h))
    · exact id
  case return_ => 
    split
    · exact ite_mono _ (fun _ => hQ _ _) (fun _ h => h)
    · exact id
  case lreturn => 
    split
    · exact ite_mono _ (fun _ => hQ _ _) (fun _ h => h)
    · exact id
  case areturn => 
    split
    · exact ite_mono _ (fun _ => hQ _ _) (fun _ h => h)
    · exact id
  case ifCond =>
    split
    · exact fun h => ⟨fun q => hP _ _ _ _ _ hle (h.1 q), fun q => hP _ _ _ _ _ hle (h.2 q)⟩
    · exact id
  case if_icmp =>
    split
    · exact fun h => ⟨fun q => hP _ _ _ _ _ hle (h.1 q), fun q => hP _ _ _ _ _ hle (h.2 q)⟩
    · exact id
  case bastore =>
    split
    · exact ite_mono _ (fun _ h => ⟨h.1, hP _ _ _ _ _ hle h.2⟩) (fun _ => ite_mono _ (fun _ h => ⟨h.1, h.2.1, hP _ _ _ _ _ hle h.2.2⟩) (fun _ h => h))
    · exact id
  case aastore =>
    split
    · exact ite_mono _ (fun _ => ite_mono _ (fun _ h => ⟨h.1, h.2.1, h.2.2.1, hP _ _ _ _ _ hle h.2.2.2⟩) (fun _ h => h)) (fun _ h => h)
    · exact id
  case aaload =>
    split
    · exact ite_mono _ (fun _ => ite_mono _ (fun _ h => ⟨h.1, hP _ _ _ _ _ hle h.2⟩) (fun _ h => h)) (fun _ h => h)
    · exact id
  all_goals first
    | exact id
    | exact hP _ _ _ _ _ hle
    | (split
       · exact fun h => ⟨h.1, hP _ _ _ _ _ hle h.2⟩
       · exact id)
    | (split
       · exact hP _ _ _ _ _ hle
       · exact id)
    | (split
       · exact hP _ _ _ _ _ hle
       · exact hP _ _ _ _ _ hle
       · exact id)
    | (split
       · exact ite_mono _ (fun _ h => ⟨h.1, hP _ _ _ _ _ hle h.2⟩) (fun _ h => h)
       · exact id)
    | (split
       · exact ite_mono _ (fun _ h => hP _ _ _ _ _ hle h) (fun _ h => h)
       · exact id)
/-- locals that nobody asks for any more may be forgotten -/
theorem Wp.fg {cw : CWt} (hc : ∀ j a w (Q Q' : MV → Wd → Prop), (∀ r w, Q r w → Q' r w) → cw j a w Q → cw j a w Q') {cd : List Ent} {pr : Pr} {Q : MV → Wd → Prop} {i : Nat} {l l' s : List MV} {w : Wd} (hle : leA l l') (h : Wp cw cd pr Q i l s w) : Wp cw cd pr Q i l' s w := by
  refine h (fun i l s w => ∀ l', leA l l' → Wp cw cd pr Q i l' s w) (fun i l s w hF l' hle => ?_) l' hle
  exact Wp.st hc (F_le hc (fun _ _ h => h) (fun _ _ l2 _ _ h2 h3 => h3 l2 h2) hle hF)

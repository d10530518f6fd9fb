def pcOf (cd : List Ent) (i : Nat) : Nat := (nthA nE cd i).1
def segW (k : Nat) : List Jvm.Cond := match k with
  | 0 => k2_sels lw_privs
  | 1 => tables_1_1
  | 2 => tables_1_2
  | 3 => tables_1_3
  | 4 => tables_1_4
  | 5 => tables_1_5
  | 6 => tables_1_6
  | 7 => tables_1_7
  | 8 => tables_1_8
  | 9 => tables_1_9
  | _ => []
def hasW (q : Nat) (w : Jvm.Cond) : Bool := decide ((segW (q / 1000))[q % 1000]? = some w)
def fldW (own : String) (idx ci j q : Nat) : Bool := match vwCl[ci]? with
  | some (_, T, N) => decide (j < N) && hasW q (.fieldLink own idx (T j).1 (T j).2.1 (T j).2.2.1)
  | none => false
def fldF (own : String) (nm : String) (ci j : Nat) : Bool := match vwCl[ci]? with
  | some (_, T, _) => if (T j).2.2.2 = true then decide ((T j).1 = own) && decide (nm = "<init>") else true
  | none => false
def in32b (x : Int) : Bool := decide (-2147483648 ≤ x) && decide (x < 2147483648)
def in64b (x : Int) : Bool := decide (-9223372036854775808 ≤ x) && decide (x < 9223372036854775808)
def swB (cd : List Ent) (pc : Nat) : List Int → List Nat → Bool
  | [], [] => true
  | o :: os, t :: ts => decide ((pc : Int) + o = (pcOf cd t : Int)) && swB cd pc os ts
  | _, _ => false
def akd (t : ArrayType) : Nat := match t with
  | .int => 20
  | .long => 21
  | .byte => 22
  | .boolean => 23
  | _ => 99
def nestL : List Jvm.Cond := tables_1.filter (fun w => match w with | .methodLinkNest _ _ _ _ => true | _ => false)
def yW (y : MethodName) (na : Nat) : Bool := decide (y.cls ≠ "java/lang/invoke/MethodHandle") && decide (y.cls ≠ "java/lang/invoke/VarHandle") && decide ((parseMethodDescriptor y.desc).map (fun d => d.parameters.length) = some na)
def linkB (own : String) (idx : Nat) (aux : List Nat) (y : MethodName) : Bool :=
  if a0 aux = 4 ∨ a0 aux = 5 then nestL.any (fun w => match w with | .methodLinkNest o i x _ => decide (o = own) && decide (i = idx) && decide (x = y) | _ => false)
  else hasW (nthA 0 aux 3) (.methodLink own idx y)
/-- what an entry must be, so that the machine's step is the small machine's -/
def chkE (own : String) (nm : String) (b : ByteArray) (mx : Nat) (cd : List Ent) (e : Ent) (nx : Nat) : Bool :=
  match e with
  | (pc, ins, len, aux, c) => decide (decode b pc = .ok (ins, len)) && match ins with
    | .iconst n => decide (len = 1) && decide (nx = pc + 1) && decide (n = c) && in32b c
    | .bipush n => decide (len = 2) && decide (nx = pc + 2) && decide ((Int8.ofInt n).toInt32 = Int32.ofInt c) && in32b c
    | .sipush n => decide (len = 3) && decide (nx = pc + 3) && decide ((Int16.ofInt n).toInt32 = Int32.ofInt c) && in32b c
    | .ldc idx => decide (len = 2) && decide (nx = pc + 2) && hasW (a0 aux) (.constant own idx (Int32.ofInt c)) && in32b c
    | .ldc_w idx => decide (len = 3) && decide (nx = pc + 3) && hasW (a0 aux) (.constant own idx (Int32.ofInt c)) && in32b c
    | .lconst n => decide (len = 1) && decide (nx = pc + 1) && decide (Int64.ofNat n = Int64.ofInt c) && in64b c
    | .ldc2_w idx => decide (len = 3) && decide (nx = pc + 3) && hasW (a0 aux) (.constantLong own idx (Int64.ofInt c)) && in64b c
    | .iload k => decide (len = 2) && decide (nx = pc + 2) && decide (a0 aux = k)
    | .lload k => decide (len = 2) && decide (nx = pc + 2) && decide (a0 aux = k)
    | .aload k => decide (len = 2) && decide (nx = pc + 2) && decide (a0 aux = k)
    | .iload_n k => decide (len = 1) && decide (nx = pc + 1) && decide (a0 aux = (k : Nat))
    | .lload_n k => decide (len = 1) && decide (nx = pc + 1) && decide (a0 aux = (k : Nat))
    | .aload_n k => decide (len = 1) && decide (nx = pc + 1) && decide (a0 aux = (k : Nat))
    | .istore k => decide (len = 2) && decide (nx = pc + 2) && decide (a0 aux = k) && decide (k < mx)
    | .astore k => decide (len = 2) && decide (nx = pc + 2) && decide (a0 aux = k) && decide (k < mx)
    | .lstore k => decide (len = 2) && decide (nx = pc + 2) && decide (a0 aux = k) && decide (k + 1 < mx)
    | .istore_n k => decide (len = 1) && decide (nx = pc + 1) && decide (a0 aux = (k : Nat)) && decide ((k : Nat) < mx)
    | .astore_n k => decide (len = 1) && decide (nx = pc + 1) && decide (a0 aux = (k : Nat)) && decide ((k : Nat) < mx)
    | .lstore_n k => decide (len = 1) && decide (nx = pc + 1) && decide (a0 aux = (k : Nat)) && decide ((k : Nat) + 1 < mx)
    | .iinc k n => decide (len = 3) && decide (nx = pc + 3) && decide (a0 aux = k) && decide (n = c) && decide (k < mx)
    | .goto off => decide (len = 3) && decide ((pc : Int) + off = (pcOf cd (a0 aux) : Int))
    | .ifCond _ off => decide (len = 3) && decide (nx = pc + 3) && decide ((pc : Int) + off = (pcOf cd (a0 aux) : Int))
    | .if_icmp _ off => decide (len = 3) && decide (nx = pc + 3) && decide ((pc : Int) + off = (pcOf cd (a0 aux) : Int))
    | .tableswitch d lo hi os => decide (lo = c) && decide (hi = c + ((aux.drop 1).length : Int) - 1) && decide ((pc : Int) + d = (pcOf cd (a0 aux) : Int)) && swB cd pc os.toList (aux.drop 1)
    | .getfield idx => decide (len = 3) && decide (nx = pc + 3) && fldW own idx (a0 aux) (a1 aux) (a2 aux)
    | .putfield idx => decide (len = 3) && decide (nx = pc + 3) && fldW own idx (a0 aux) (a1 aux) (a2 aux) && fldF own nm (a0 aux) (a1 aux)
    | .newarray t => decide (len = 2) && decide (nx = pc + 2) && decide (a0 aux = akd t) && decide (akd t < 24) && hasW (a1 aux) (.arrayClass (newarray.typeOf t))
    | .anewarray idx => decide (len = 3) && decide (nx = pc + 3) && hasW (a1 aux) (.classLink own idx RX2)
    | .new idx => decide (len = 3) && decide (nx = pc + 3) && (match vwCl[a0 aux]? with
      | some (C, _, N) => hasW (a1 aux) (.classLink own idx C) && hasW (nthA 0 aux 2) (.instantiable C N) && hasW (nthA 0 aux 3) (.initialized C)
      | none => false)
    | .invokevirtual idx => decide (len = 3) && decide (nx = pc + 3) && decide (a0 aux = 0) && yW (yM (a1 aux)) (a2 aux) && (match vwCl[nthA 0 aux 3]? with
      | some (C, _, _) => decide ((yM (a1 aux)).cls = C) && decide (nthA 0 aux 3 < 20) && hasW (nthA 0 aux 4) (.methodLink own idx (yM (a1 aux))) && hasW (nthA 0 aux 5) (.instanceMethod (yM (a1 aux))) && hasW (nthA 0 aux 6) (.selects C (yM (a1 aux)) (yM (a1 aux))) && hasW (nthA 0 aux 7) (.initialized C)
      | none => false)
    | .invokestatic idx => decide (len = 3) && decide (nx = pc + 3) && (match a0 aux with
      | 10 => hasW (nthA 0 aux 3) (.methodLink own idx Lib.Math.max.name) && hasW (nthA 0 aux 4) (.static Lib.Math.max.name) && hasW (nthA 0 aux 5) (.initialized "java/lang/Math") && hasW (nthA 0 aux 6) (.code Lib.Math.max.name Lib.Math.max.code 2 (some .int))
      | 11 => hasW (nthA 0 aux 3) (.methodLink own idx Lib.Math.min.name) && hasW (nthA 0 aux 4) (.static Lib.Math.min.name) && hasW (nthA 0 aux 5) (.initialized "java/lang/Math") && hasW (nthA 0 aux 6) (.code Lib.Math.min.name Lib.Math.min.code 2 (some .int))
      | 12 => hasW (nthA 0 aux 3) (.methodLink own idx Lib.MathLoose.max_long.x) && hasW (nthA 0 aux 4) (.static Lib.MathLoose.max_long.x) && hasW (nthA 0 aux 5) (.initialized "java/lang/Math") && hasW (nthA 0 aux 6) (.code Lib.MathLoose.max_long.x Lib.MathLoose.max_long.code 4 (some .long))
      | 13 => hasW (nthA 0 aux 3) (.methodLink own idx Lib.MathLoose.min_long.x) && hasW (nthA 0 aux 4) (.static Lib.MathLoose.min_long.x) && hasW (nthA 0 aux 5) (.initialized "java/lang/Math") && hasW (nthA 0 aux 6) (.code Lib.MathLoose.min_long.x Lib.MathLoose.min_long.code 4 (some .long))
      | 14 => hasW (nthA 0 aux 3) (.methodLink own idx arraycopyName) && hasW (nthA 0 aux 4) (.native arraycopyName) && hasW (nthA 0 aux 5) (.static arraycopyName) && hasW (nthA 0 aux 6) (.initialized "java/lang/System")
      | _ => decide (a0 aux = 1 ∨ a0 aux = 4 ∨ a0 aux = 7) && yW (yM (a1 aux)) (a2 aux) && linkB own idx aux (yM (a1 aux)) && hasW (nthA 0 aux 4) (.static (yM (a1 aux))) && hasW (nthA 0 aux 5) (.initialized (yM (a1 aux)).cls))
    | .invokespecial idx => decide (len = 3) && decide (nx = pc + 3) && (match a0 aux with
      | 20 => hasW (nthA 0 aux 3) (.methodLink own idx objectInit) && hasW (nthA 0 aux 4) (.instanceMethod objectInit) && hasW (nthA 0 aux 5) (.code objectInit ⟨#[0xb1]⟩ 1 none)
      | _ => decide (a0 aux = 2 ∨ a0 aux = 5) && yW (yM (a1 aux)) (a2 aux) && decide ((yM (a1 aux)).name = "<init>") && linkB own idx aux (yM (a1 aux)) && hasW (nthA 0 aux 4) (.instanceMethod (yM (a1 aux))) && hasW (nthA 0 aux 5) (.initialized (yM (a1 aux)).cls))
    | .nop => false
    | .return_ => decide (len = 1)
    | .ireturn => decide (len = 1)
    | .lreturn => decide (len = 1)
    | .areturn => decide (len = 1)
    | _ => decide (len = 1) && decide (nx = pc + 1)
def chkR (own nm : String) (b : ByteArray) (mx : Nat) (cd : List Ent) (lo n : Nat) : Bool := (List.range n).all (fun i => chkE own nm b mx cd (nthA nE cd (lo + i)) (pcOf cd (lo + i + 1)))

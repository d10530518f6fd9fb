def pcOf (cd : List Ent) (i : Nat) : Nat := (nthA nE cd i).1
def segW (k : Nat) : List Jvm.Cond := match k with
  | 0 => k2_sels lw_privs
  | 1 => tables_1_1
  | 2 => tables_1_2
  | 3 => tables_1_3
  | 4 => tables_1_4
  | 5 => tables_1_5
  | 6 => tables_1_6
  | 7 => tables_1_7
  | 8 => tables_1_8
  | 9 => tables_1_9
  | _ => []
def hasW (q : Nat) (w : Jvm.Cond) : Bool := decide ((segW (q / 1000))[q % 1000]? = some w)
def fldW (own : String) (idx ci j q : Nat) : Bool := match vwCl[ci]? with
  | some (_, T, N) => decide (j < N) && hasW q (.fieldLink own idx (T j).1 (T j).2.1 (T j).2.2.1)
  | none => false
def fldF (own : String) (nm : String) (ci j : Nat) : Bool := match vwCl[ci]? with
  | some (_, T, _) => if (T j).2.2.2 = true then decide ((T j).1 = own) && decide (nm = "<init>") else true
  | none => false
def in32b (x : Int) : Bool := decide (-2147483648 ≤ x) && decide (x < 2147483648)
def in64b (x : Int) : Bool := decide (-9223372036854775808 ≤ x) && decide (x < 9223372036854775808)
def swB (cd : List Ent) (pc : Nat) : List Int → List Nat → Bool
  | [], [] => true
  | o :: os, t :: ts => decide ((pc : Int) + o = (pcOf cd t : Int)) && swB cd pc os ts
  | _, _ => false
def akd (t : ArrayType) : Nat := match t with
  | .int => 20
  | .long => 21
  | .byte => 22
  | .boolean => 23
  | _ => 99
def nestL : List Jvm.Cond := tables_1.filter (fun w => match w with | .methodLinkNest _ _ _ _ => true | _ => false)
def yW (y : MethodName) (na : Nat) : Bool := decide (y.cls ≠ "java/lang/invoke/MethodHandle") && decide (y.cls ≠ "java/lang/invoke/VarHandle") && decide ((parseMethodDescriptor y.desc).map (fun d => d.parameters.length) = some na)
def linkB (own : String) (idx : Nat) (aux : List Nat) (y : MethodName) : Bool :=
  if a0 aux = 4 ∨ a0 aux = 5 then nestL.any (fun w => match w with | .methodLinkNest o i x _ => decide (o = own) && decide (i = idx) && decide (x = y) | _ => false)
  else hasW (nthA 0 aux 3) (.methodLink own idx y)
/-- what an entry must be, so that the machine's step is the small machine's -/
def chkE (own : String) (nm : String) (b : ByteArray) (mx : Nat) (cd : List Ent) (e : Ent) (nx : Nat) : Bool :=
  match e with
  | (pc, ins, len, aux, c) => decide (decode b pc = .ok (ins, len)) && match ins with
    | .iconst n => decide (len = 1) && decide (nx = pc + 1) && decide (n = c) && in32b c
    | .bipush n => decide (len = 2) && decide (nx = pc + 2) && decide ((Int8.ofInt n).toInt32 = Int32.ofInt c) && in32b c
    | .sipush n => decide (len = 3) && decide (nx = pc + 3) && decide ((Int16.ofInt n).toInt32 = Int32.ofInt c) && in32b c
    | .ldc idx => decide (len = 2) && decide (nx = pc + 2) && hasW (a0 aux) (.constant own idx (Int32.ofInt c)) && in32b c
    | .ldc_w idx => decide (len = 3) && decide (nx = pc + 3) && hasW (a0 aux) (.constant own idx (Int32.ofInt c)) && in32b c
    | .lconst n => decide (len = 1) && decide (nx = pc + 1) && decide (Int64.ofNat n = Int64.ofInt c) && in64b c
    | .ldc2_w idx => decide (len = 3) && decide (nx = pc + 3) && hasW (a0 aux) (.constantLong own idx (Int64.ofInt c)) && in64b c
    | .iload k => decide (len = 2) && decide (nx = pc + 2) && decide (a0 aux = k)
    | .lload k => decide (len = 2) && decide (nx = pc + 2) && decide (a0 aux = k)
    | .aload k => decide (len = 2) && decide (nx = pc + 2) && decide (a0 aux = k)
    | .iload_n k => decide (len = 1) && decide (nx = pc + 1) && decide (a0 aux = (k : Nat))
    | .lload_n k => decide (len = 1) && decide (nx = pc + 1) && decide (a0 aux = (k : Nat))
    | .aload_n k => decide (len = 1) && decide (nx = pc + 1) && decide (a0 aux = (k : Nat))
    | .istore k => decide (len = 2) && decide (nx = pc + 2) && decide (a0 aux = k) && decide (k < mx)
    | .astore k => decide (len = 2) && decide (nx = pc + 2) && decide (a0 aux = k) && decide (k < mx)
    | .lstore k => decide (len = 2) && decide (nx = pc + 2) && decide (a0 aux = k) && decide (k + 1 < mx)
    | .istore_n k => decide (len = 1) && decide (nx = pc + 1) && decide (a0 aux = (k : Nat)) && decide ((k : Nat) < mx)
    | .astore_n k => decide (len = 1) && decide (nx = pc + 1) && decide (a0 aux = (k : Nat)) && decide ((k : Nat) < mx)
    | .lstore_n k => decide (len = 1) && decide (nx = pc + 1) && decide (a0 aux = (k : Nat)) && decide ((k : Nat) + 1 < mx)
    | .iinc k n => decide (len = 3) && decide (nx = pc + 3) && decide (a0 aux = k) && decide (n = c) && decide (k < mx)
    | .goto off => decide (len = 3) && decide ((pc : Int) + off = (pcOf cd (a0 aux) : Int))
    | .ifCond _ off => decide (len = 3) && decide (nx = pc + 3) && decide ((pc : Int) + off = (pcOf cd (a0 aux) : Int))
    | .if_icmp _ off => decide (len = 3) && decide (nx = pc + 3) && decide ((pc : Int) + off = (pcOf cd (a0 aux) : Int))
    | .tableswitch d lo hi os => decide (lo = c) && decide (hi = c + ((aux.drop 1).length : Int) - 1) && decide ((pc : Int) + d = (pcOf cd (a0 aux) : Int)) && swB cd pc os.toList (aux.drop 1)
    | .getfield idx => decide (len = 3) && decide (nx = pc + 3) && fldW own idx (a0 aux) (a1 aux) (a2 aux)
    | .putfield idx => decide (len = 3) && decide (nx = pc + 3) && fldW own idx (a0 aux) (a1 aux) (a2 aux) && fldF own nm (a0 aux) (a1 aux)
    | .newarray t => decide (len = 2) && decide (nx = pc + 2) && decide (a0 aux = akd t) && decide (akd t < 24) && hasW (a1 aux) (.arrayClass (newarray.typeOf t))
    | .anewarray idx => decide (len = 3) && decide (nx = pc + 3) && hasW (a1 aux) (.classLink own idx RX2)
    | .new idx => decide (len = 3) && decide (nx = pc + 3) && (match vwCl[a0 aux]? with
      | some (C, _, N) => hasW (a1 aux) (.classLink own idx C) && hasW (nthA 0 aux 2) (.instantiable C N) && hasW (nthA 0 aux 3) (.initialized C)
      | none => false)
    | .invokevirtual idx => decide (len = 3) && decide (nx = pc + 3) && decide (a1 aux < 279) && yW (yM (a1 aux)) (a2 aux) && (match vwCl[nthA 0 aux 3]? with
      | some (C, _, _) => decide ((yM (a1 aux)).cls = C) && decide (nthA 0 aux 3 < 20) && hasW (nthA 0 aux 4) (.methodLink own idx (yM (a1 aux))) && hasW (nthA 0 aux 5) (.instanceMethod (yM (a1 aux))) && hasW (nthA 0 aux 6) (.selects C (yM (a1 aux)) (yM (a1 aux))) && hasW (nthA 0 aux 7) (.initialized C)
      | none => false)
    | .invokestatic idx => decide (len = 3) && decide (nx = pc + 3) && (match a0 aux with
      | 10 => hasW (nthA 0 aux 3) (.methodLink own idx Lib.Math.max.name) && hasW (nthA 0 aux 4) (.static Lib.Math.max.name) && hasW (nthA 0 aux 5) (.initialized "java/lang/Math") && hasW (nthA 0 aux 6) (.code Lib.Math.max.name Lib.Math.max.code 2 (some .int))
      | 11 => hasW (nthA 0 aux 3) (.methodLink own idx Lib.Math.min.name) && hasW (nthA 0 aux 4) (.static Lib.Math.min.name) && hasW (nthA 0 aux 5) (.initialized "java/lang/Math") && hasW (nthA 0 aux 6) (.code Lib.Math.min.name Lib.Math.min.code 2 (some .int))
      | 12 => hasW (nthA 0 aux 3) (.methodLink own idx Lib.MathLoose.max_long.x) && hasW (nthA 0 aux 4) (.static Lib.MathLoose.max_long.x) && hasW (nthA 0 aux 5) (.initialized "java/lang/Math") && hasW (nthA 0 aux 6) (.code Lib.MathLoose.max_long.x Lib.MathLoose.max_long.code 4 (some .long))
      | 13 => hasW (nthA 0 aux 3) (.methodLink own idx Lib.MathLoose.min_long.x) && hasW (nthA 0 aux 4) (.static Lib.MathLoose.min_long.x) && hasW (nthA 0 aux 5) (.initialized "java/lang/Math") && hasW (nthA 0 aux 6) (.code Lib.MathLoose.min_long.x Lib.MathLoose.min_long.code 4 (some .long))
      | 14 => hasW (nthA 0 aux 3) (.methodLink own idx arraycopyName) && hasW (nthA 0 aux 4) (.native arraycopyName) && hasW (nthA 0 aux 5) (.static arraycopyName) && hasW (nthA 0 aux 6) (.initialized "java/lang/System")
      | 7 => yW (yM (a1 aux)) (a2 aux) && hasW (nthA 0 aux 3) (.methodLink own idx (yM (a1 aux))) && hasW (nthA 0 aux 4) (.static (yM (a1 aux))) && hasW (nthA 0 aux 5) (.initialized (yM (a1 aux)).cls) && decide (279 ≤ a1 aux)
      | _ => decide (a0 aux = 1 ∨ a0 aux = 4) && decide (a1 aux < 279) && yW (yM (a1 aux)) (a2 aux) && linkB own idx aux (yM (a1 aux)) && hasW (nthA 0 aux 4) (.static (yM (a1 aux))) && hasW (nthA 0 aux 5) (.initialized (yM (a1 aux)).cls))
    | .invokespecial idx => decide (len = 3) && decide (nx = pc + 3) && (match a0 aux with
      | 20 => hasW (nthA 0 aux 3) (.methodLink own idx objectInit) && hasW (nthA 0 aux 4) (.instanceMethod objectInit) && hasW (nthA 0 aux 5) (.code objectInit ⟨#[0xb1]⟩ 1 none)
      | _ => decide (a0 aux = 2 ∨ a0 aux = 5) && decide (a1 aux < 279) && yW (yM (a1 aux)) (a2 aux) && decide ((yM (a1 aux)).name = "<init>") && linkB own idx aux (yM (a1 aux)) && hasW (nthA 0 aux 4) (.instanceMethod (yM (a1 aux))) && hasW (nthA 0 aux 5) (.initialized (yM (a1 aux)).cls))
    | .nop => false
    | .return_ => decide (len = 1)
    | .ireturn => decide (len = 1)
    | .lreturn => decide (len = 1)
    | .areturn => decide (len = 1)
    | _ => decide (len = 1) && decide (nx = pc + 1)
def chkR (own nm : String) (b : ByteArray) (mx : Nat) (cd : List Ent) (lo n : Nat) : Bool := (List.range n).all (fun i => chkE own nm b mx cd (nthA nE cd (lo + i)) (pcOf cd (lo + i + 1)))
def cdpL : List Nat := [1030, 1038, 1127, 1230, 2020, 2050, 2082, 2126, 2187, 2223, 3036, 3057, 3144, 3148, 3152, 3156, 3160, 3164, 3171, 3174, 3177, 3181, 3185, 3189, 3193, 3197, 3201, 3205, 3209, 3214, 3218, 3222, 3226, 3230, 3235, 3239, 4003, 4007, 4011, 4015, 4019, 4023, 4027, 4031, 4035, 4039, 4043, 4047, 4050, 4058, 4062, 4066, 4070, 4074, 4078, 4082, 4086, 4091, 4095, 4099, 4103, 4107, 4113, 4117, 4126, 4130, 4136, 4140, 4144, 4148, 4153, 4157, 4162, 4166, 4170, 4180, 4184, 4188, 4192, 4196, 4205, 4210, 4213, 4217, 4221, 4227, 4231, 4235, 4239, 5010, 5014, 5018, 5022, 5026, 5030, 5034, 5039, 5044, 5048, 5052, 5061, 5068, 5073, 5077, 5081, 5086, 5090, 5094, 5099, 5103, 5107, 5114, 5118, 5123, 5127, 5131, 5135, 5139, 5144, 5149, 5153, 5157, 5161, 5165, 5169, 5174, 5178, 5182, 5186, 5190, 5196, 5200, 5204, 5208, 5212, 5217, 5222, 5228, 5232, 5237, 6001, 6005, 6009, 6013, 6017, 6021, 6025, 6029, 6033, 6037, 6041, 6045, 6050, 6054, 6059, 6063, 6067, 6071, 6075, 6079, 6083, 6087, 6092, 6099, 6103, 6107, 6112, 6116, 6210, 6214, 6219, 6223, 6227, 8011, 8015, 8019, 8023, 8026, 8029, 8033, 8037, 8041, 8045, 8049, 8053, 8057, 8061, 8064, 8068, 8072, 8076, 8080, 8084, 8088, 8092, 8096, 8100, 8104, 8108, 8112, 8116, 8120, 8124, 8128, 8132, 8136, 8140, 8144, 8148, 8152, 8156, 8159, 8163, 8168, 8172, 8176, 8180, 8184, 8188, 8192, 8196, 8200, 8204, 8208, 8212, 8215, 8219, 8223, 8227, 8231, 8237, 9001, 9005, 9009, 9013, 9017, 9022, 9026, 9030, 9034, 9038, 9042, 9046, 9050, 9054, 9058, 9062, 9066, 9070, 9074, 9078, 9082, 9086, 9090, 9094, 9098, 9102, 9106, 9110, 9114, 9118, 9122, 9126, 9130, 9134, 9138, 9142, 9146, 9150, 9154, 9158, 9162, 9166, 9170, 9174, 9178, 1131, 4175, 5002, 0, 0, 0, 0]
def ckJ (j : Nat) : Bool := chkR (yM j).cls (yM j).name (bM j) (mxM j) (cdM j) 0 (cdM j).length

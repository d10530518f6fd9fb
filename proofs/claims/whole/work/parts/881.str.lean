
/-! the JDK's text methods: length, charAt, of the words' text -/
def tkA : Nat → Prop := fun _ => False
def tkChs : List Int := [119, 104, 111, 32, 111, 102, 32, 97, 115, 107, 115, 32, 115, 111, 114, 116, 32, 109, 97, 107, 101, 115, 32, 119, 105, 116, 104, 32, 119, 97, 110, 116, 115, 32, 98, 121, 32, 103, 105, 118, 101, 115, 32, 108, 97, 119, 32, 97, 110, 121, 32, 102, 105, 114, 115, 116, 32, 111, 110, 99, 101, 32, 116, 111, 119, 110, 115, 32, 103, 105, 118, 101, 32, 117, 115, 101, 32, 119, 97, 105, 116, 32]
def tkC (j : Nat) : Int := nthA 0 tkChs j
def tkBs : List (List Int32) := [tkChs.map Int32.ofInt]
def tkL : List Nat := [82]
def tk_S (k v : Nat) (A : Nat → Prop) (U : State) : Prop :=
  va_Z "java/lang/String" "COMPACT_STRINGS" "Z" (.int 1) A U U.heap ∧ va_Zq "jdk/internal/util/Preconditions" "SIOOBE_FORMATTER" "Ljava/util/function/BiFunction;" A U U.heap ∧ vk_S 1 tkL tkBs (fun _ => k) (fun _ => v) A U U.heap
theorem tk_S.moved {k v : Nat} {A : Nat → Prop} {s U : State} (hh : U.heap = s.heap) (hvm : s.vm.Alike U.vm) (h : tk_S k v A s) : tk_S k v A U := by
  obtain ⟨h1, h2, h3⟩ := h
  unfold tk_S
  rw [hh]
  exact ⟨va_Z.moved hvm h1, va_Zq.moved hvm h2, vk_S.moved hvm h3⟩
theorem tk_S.kept {k v : Nat} {A : Nat → Prop} {s U : State} (hq : ∀ a : Nat, a < s.heap.size → ¬ A a → U.heap[a]? = s.heap[a]?) (hvm : s.vm.Alike U.vm) (h : tk_S k v A s) : tk_S k v A U := by
  obtain ⟨h1, h2, h3⟩ := h
  exact ⟨va_Z.moved hvm (h1.kept hq), va_Zq.moved hvm (h2.kept hq), vk_S.moved hvm (h3.kept hq)⟩
theorem tk_S.narrow {k v : Nat} {A B : Nat → Prop} {s : State} (hAB : ∀ q, B q → A q) (h : tk_S k v A s) : tk_S k v B s := ⟨h.1.narrow hAB, h.2.1.narrow hAB, h.2.2.narrow hAB⟩
theorem tk_blind {k v : Nat} {A : Nat → Prop} {av : List Value} : FrameBlind (va_Pc av (tk_S k v A)) := fun a U g mk q =>
  ⟨q.1, tk_S.moved (s := U) (U := U.calling g mk a) rfl (Vm.Alike.refl U.vm) q.2⟩
theorem tk_blindT {av : List Value} : FrameBlind (va_Pc av (fun _ => True)) := fun _ _ _ _ q => ⟨q.1, trivial⟩
def tkQ (ov : Option Value) : Array Value → State → Outcome → State → Prop := fun _ st o t => o = .returned ov ∧ t.heap = st.heap
def tkW (y : MethodName) (cc : ByteArray) (mx : Nat) (ret : Option FieldType) : List Jvm.Cond := Jvm.Cond.code y cc mx ret :: wsB
def tkR (d : Nat) : Room := { frames := d, cells := 0, slots := 0, locals := 100 * d }
def TkF (p : Program) (s : State) (m : MethodId) (args : Array Value) (meth : Method) (c : Code) (cc : ByteArray) (own : String) (mx : Nat) (ret : Option FieldType) : Prop :=
  p.tables.exec = Jvm.exec ∧ c.code = cc ∧ c.maxLocals = mx ∧ s.vm.findClass own = some m.cls ∧ (∀ w ∈ wsB, w.before args s = true) ∧ meth.sig.returnType = ret ∧ meth.locks = false
theorem tk_met {l : Launch} {y : MethodName} {cc : ByteArray} {mx : Nat} {ret : Option FieldType} {rm : Room} {av : List Value} {P : State → Prop} {ov : Option Value} (hy : plainName y.cls = true) (hlen : (lg_sl av).length ≤ mx)
    (body : ∀ (p : Program) (e : Env) (s : State) (m : MethodId) (args : Array Value) (below : List Frame) (meth : Method) (c : Code), TkF p s m args meth c cc y.cls mx ret → P s → ∀ ls : Array Slot, lv_has ls mx (lv_args 0 av) →
      W p l e rm s m args below meth c s.heap [] 0 0 (MQ below (tkQ ov) args s 0 0 tkA) (F0 m 0 ls [])) : Met l y (tkW y cc mx ret) rm (va_Pc av P) (tkQ ov) 0 0 tkA := by
  refine Met.ofW (cc := cc) (maxL := mx) (ret := ret) hy rfl ?_
  intro p e s m args below meth c s₁ B hml hv
  obtain ⟨rfl, hP⟩ := hv
  have hts0 := atoms_spec (ws := tkW y cc mx ret) B.pre
  have hF : TkF p s m av.toArray meth c cc y.cls mx ret := ⟨B.exec, B.bytes, hml, findClass_of_methodNamed B.named, fun w hw => hts0 w (List.mem_cons_of_mem _ hw), B.returns, B.notSynchronized⟩
  rw [lg_entry_eq]
  exact body p e s m _ below meth c hF hP _ (lv_entry av hlen)
theorem tk_good {y : MethodName} {cc : ByteArray} {mx : Nat} {ret : Option FieldType} (h : Jvm.Cond.code y cc mx ret ∈ wsB) : GoodIn wsB (tkW y cc mx ret) := good_cons h (fun w q => ⟨q, goodB _ q⟩)
section TKC
variable {p : Program} {l : Launch} {e : Env} {R : Room} {s : State} {m : MethodId} {args : Array Value} {below : List Frame} {meth : Method} {c : Code} {H : Heap} {locs : List Loc} {cells slots : Nat} {Q : State → Prop}
theorem tk_call {pc : Nat} {ls : Array Slot} {rest st0 : List Value} {a : Array Value} {ov : Option Value} (hr : va_Run p l e R s m args below meth c H locs cells slots 0 0 (F0 m pc ls st0) rest (tkQ ov a) tkA)
    (kk : W p l e R s m args below meth c H locs cells slots Q (F0 m (pc + 3) ls (ov.toList ++ rest))) : W p l e R s m args below meth c H locs cells slots Q (F0 m pc ls st0) := by
  intro T hT X
  obtain ⟨v, st₀, t, T', L, h0, X', hL, e1, e2, ⟨hv, hh⟩, st⟩ := hr T hT X
  cases hv
  have hLn : L = [] := by
    cases L with
    | nil => rfl
    | cons q L => exact (hL q List.mem_cons_self).elim
  subst hLn
  rw [List.append_nil] at X'
  obtain ⟨t2, a1, b1⟩ := kk T' (by rw [e1, hh, h0]) X'
  exact ⟨t2, st t2 a1, b1⟩
end TKC
def tk_y0 : MethodName := ⟨"java/lang/String", "coder", "()B"⟩
def tk_y1 : MethodName := ⟨"java/lang/String", "isLatin1", "()Z"⟩
def tk_y2 : MethodName := ⟨"jdk/internal/util/Preconditions", "checkIndex", "(IILjava/util/function/BiFunction;)I"⟩
def tk_y3 : MethodName := ⟨"java/lang/String", "checkIndex", "(II)V"⟩
def tk_y4 : MethodName := ⟨"java/lang/StringLatin1", "charAt", "([BI)C"⟩
def tk_y5 : MethodName := ⟨"java/lang/String", "length", "()I"⟩
def tk_y6 : MethodName := ⟨"java/lang/String", "charAt", "(I)C"⟩
theorem tk_ch : ∀ j : Nat, j < 82 → ¬ Int32.ofInt (j : Int) < 0 ∧ Int32.ofInt (j : Int) < 82 ∧ (Int32.ofInt (j : Int)).toNatClampNeg = j ∧ (((tkBs.getD 0 []).getD j 0 &&& 255).toUInt32 % 65536).toInt32 = Int32.ofInt (tkC j) ∧ narrow .char (.int (Int32.ofInt (tkC j))) = .int (Int32.ofInt (tkC j)) := by decide +kernel
theorem tk_coder {l : Launch} {k v : Nat} : Met l tk_y0 (tkW tk_y0 prog_22_method_152_code 1 (some .byte)) (tkR 1) (va_Pc [.ref k] (tk_S k v tkA)) (tkQ (some (.int 0))) 0 0 tkA := by
  refine tk_met (by decide) (Nat.le_of_ble_eq_true rfl) ?_
  intro p e s m args below meth c ⟨hx, hb, hml, hown, hts, hr, hlocks⟩ ⟨hZ, _, hStr⟩ ls hl
  have k1 : (Jvm.Cond.fieldLink "java/lang/String" 38 "java/lang/String" "COMPACT_STRINGS" "Z").before args s = true := hts _ (hasW_in (q := 1049) (by decide +kernel) rfl)
  have k2 : (Jvm.Cond.fieldLink "java/lang/String" 15 "java/lang/String" "coder" "B").before args s = true := hts _ (hasW_in (q := 9197) (by decide +kernel) rfl)
  refine va_gets hx hb hZ va_S.rf hown k1 (fun _ h => h) (by decide +kernel) ?_
  refine lv_if_eq hx hb (off := 10) (tgt := 13) (by decide +kernel) (by decide) (fun q => absurd q (by decide)) (fun _ => ?_)
  refine lv_aload_n hx hb (k := 0) (i := 0) (by decide +kernel) rfl (lv_at hl 0 rfl) ?_
  refine vk_getf hx hb (hStr.1 0 (by decide)).2.1 va_S.rf hown k2 (fun _ h => h) (by decide +kernel) ?_
  refine lv_goto hx hb (off := 4) (tgt := 14) (by decide +kernel) (by decide) ?_
  exact W.zret hx hb hr rfl (fun t ht _ => ⟨rfl, ht⟩) (fun _ h => by cases h) (by decide +kernel) hlocks
theorem tk_latin {l : Launch} {k v : Nat} : Met l tk_y1 (tkW tk_y1 prog_22_method_154_code 1 (some .boolean)) (tkR 1) (va_Pc [.ref k] (tk_S k v tkA)) (tkQ (some (.int 1))) 0 0 tkA := by
  refine tk_met (by decide) (Nat.le_of_ble_eq_true rfl) ?_
  intro p e s m args below meth c ⟨hx, hb, hml, hown, hts, hr, hlocks⟩ ⟨hZ, _, hStr⟩ ls hl
  have k1 : (Jvm.Cond.fieldLink "java/lang/String" 38 "java/lang/String" "COMPACT_STRINGS" "Z").before args s = true := hts _ (hasW_in (q := 1049) (by decide +kernel) rfl)
  have k2 : (Jvm.Cond.fieldLink "java/lang/String" 15 "java/lang/String" "coder" "B").before args s = true := hts _ (hasW_in (q := 9197) (by decide +kernel) rfl)
  refine va_gets hx hb hZ va_S.rf hown k1 (fun _ h => h) (by decide +kernel) ?_
  refine lv_if_eq hx hb (off := 14) (tgt := 17) (by decide +kernel) (by decide) (fun q => absurd q (by decide)) (fun _ => ?_)
  refine lv_aload_n hx hb (k := 0) (i := 0) (by decide +kernel) rfl (lv_at hl 0 rfl) ?_
  refine vk_getf hx hb (hStr.1 0 (by decide)).2.1 va_S.rf hown k2 (fun _ h => h) (by decide +kernel) ?_
  refine lv_if_ne hx hb (off := 7) (tgt := 17) (by decide +kernel) (by decide) (fun q => absurd rfl q) (fun _ => ?_)
  refine lv_iconst hx hb (n := 1) (v := 1) (by decide +kernel) (by decide) ?_
  refine lv_goto hx hb (off := 4) (tgt := 18) (by decide +kernel) (by decide) ?_
  exact W.zret hx hb hr rfl (fun t ht _ => ⟨rfl, ht⟩) (fun _ h => by cases h) (by decide +kernel) hlocks
theorem tk_pre {l : Launch} {i n : Int32} {r : Value} (h0 : ¬ i < 0) (hn : i < n) (hr1 : (lg_sl [.int i, .int n, r]).length ≤ 3) : Met l tk_y2 (tkW tk_y2 prog_31_method_11_code 3 (some .int)) (tkR 1) (va_Pc [.int i, .int n, r] (fun _ => True)) (tkQ (some (.int i))) 0 0 tkA := by
  refine tk_met (by decide) hr1 ?_
  intro p e s m args below meth c ⟨hx, hb, hml, hown, hts, hr, hlocks⟩ _ ls hl
  refine lv_iload_n hx hb (k := 0) (i := 0) (by decide +kernel) rfl (lv_at hl 0 rfl) ?_
  refine lv_if_lt hx hb (off := 8) (tgt := 9) (by decide +kernel) (by decide) (fun q => absurd q h0) (fun _ => ?_)
  refine lv_iload_n hx hb (k := 0) (i := 0) (by decide +kernel) rfl (lv_at hl 0 rfl) ?_
  refine lv_iload_n hx hb (k := 1) (i := 1) (by decide +kernel) rfl (lv_at hl 1 rfl) ?_
  refine lv_icmp_lt hx hb (off := 10) (tgt := 16) (by decide +kernel) (by decide) (fun _ => ?_) (fun q => absurd hn q)
  refine lv_iload_n hx hb (k := 0) (i := 0) (by decide +kernel) rfl (lv_at hl 0 rfl) ?_
  exact W.iret hx hb hr (fun t ht _ => ⟨rfl, ht⟩) (fun _ h => by cases h) (by decide +kernel) hlocks
theorem tk_chk {l : Launch} {k v : Nat} {i n : Int32} (h0 : ¬ i < 0) (hn : i < n) : Met l tk_y3 (tkW tk_y3 prog_22_method_155_code 2 none) (tkR 2) (va_Pc [.int i, .int n] (tk_S k v tkA)) (tkQ none) 0 0 tkA := by
  refine tk_met (by decide) (Nat.le_of_ble_eq_true rfl) ?_
  intro p e s m args below meth c ⟨hx, hb, hml, hown, hts, hr, hlocks⟩ ⟨_, hZ, _⟩ ls hl
  have k1 : (Jvm.Cond.fieldLink "java/lang/String" 1053 "jdk/internal/util/Preconditions" "SIOOBE_FORMATTER" "Ljava/util/function/BiFunction;").before args s = true := hts _ (hasW_in (q := 1065) (by decide +kernel) rfl)
  have k2 : (Jvm.Cond.methodLink "java/lang/String" 1059 tk_y2).before args s = true := hts _ (hasW_in (q := 1067) (by decide +kernel) rfl)
  have k3 : (Jvm.Cond.static tk_y2).before args s = true := hts _ (hasW_in (q := 1068) (by decide +kernel) rfl)
  have k4 : (Jvm.Cond.initialized tk_y2.cls).before args s = true := hts _ (hasW_in (q := 1005) (by decide +kernel) rfl)
  have k5 : Jvm.Cond.code tk_y2 prog_31_method_11_code 3 (some .int) ∈ wsB := hasW_in (q := 1069) (by decide +kernel) rfl
  refine lv_iload_n hx hb (k := 0) (i := 0) (by decide +kernel) rfl (lv_at hl 0 rfl) ?_
  refine lv_iload_n hx hb (k := 1) (i := 1) (by decide +kernel) rfl (lv_at hl 1 rfl) ?_
  have go : ∀ r : Value, (lg_sl [.int i, .int n, r]).length ≤ 3 → W p l e (tkR 2) s m args below meth c s.heap [] 0 0 (MQ below (tkQ none) args s 0 0 tkA) (F0 m 5 ls [r, .int n, .int i]) := fun r hr1 => by
    refine tk_call (rest := []) (a := ([.int i, .int n, r] : List Value).toArray) (va_runS (index := 1059) (As := [.int i, .int n, r]) ⟨hx, hb, hml, hown, hts⟩ (tk_pre h0 hn hr1) ⟨callB_of 3 hts (tk_good k5) rfl rfl rfl k4 k2 ⟨by decide, by decide, by decide⟩ ⟨by decide, by decide⟩, k3⟩ ⟨tk_blindT, fun U _ _ => ⟨rfl, trivial⟩⟩ rfl rfl hl.1 rfl (lv_room (by decide)) (show decode prog_22_method_155_code 5 = .ok (.invokestatic 1059, 3) by decide +kernel) ⟨Nat.le_refl _, Nat.le_refl _⟩) ?_
    refine lv_pop hx hb (by decide +kernel) rfl ?_
    exact W.vret hx hb hr (fun t ht _ => ⟨rfl, ht⟩) (fun _ h => by cases h) (by decide +kernel) hlocks
  rcases hZ with hZ | ⟨t, hZ⟩
  · exact va_gets hx hb hZ va_S.rf hown k1 (fun _ h => h) (by decide +kernel) (go .null (Nat.le_of_ble_eq_true rfl))
  · exact va_gets hx hb hZ va_S.rf hown k1 (fun _ h => h) (by decide +kernel) (go (.ref t) (Nat.le_of_ble_eq_true rfl))
theorem tk_ch1 {l : Launch} {k v j : Nat} (hj : j < 82) : Met l tk_y4 (tkW tk_y4 prog_23_method_2_code 2 (some .char)) (tkR 3) (va_Pc [.ref v, .int (Int32.ofInt (j : Int))] (tk_S k v tkA)) (tkQ (some (.int (Int32.ofInt (tkC j))))) 0 0 tkA := by
  refine tk_met (by decide) (Nat.le_of_ble_eq_true rfl) ?_
  intro p e s m args below meth c ⟨hx, hb, hml, hown, hts, hr, hlocks⟩ hS0 ls hl
  obtain ⟨c1, c2, c3, c4, c5⟩ := tk_ch j hj
  obtain ⟨_, _, hStr⟩ := id hS0
  have hT := (hStr.1 0 (by decide)).2.2.2
  have k2 : (Jvm.Cond.methodLink "java/lang/StringLatin1" 9 tk_y3).before args s = true := hts _ (hasW_in (q := 1062) (by decide +kernel) rfl)
  have k3 : (Jvm.Cond.static tk_y3).before args s = true := hts _ (hasW_in (q := 1063) (by decide +kernel) rfl)
  have k4 : (Jvm.Cond.initialized tk_y3.cls).before args s = true := hts _ (hasW_in (q := 1003) (by decide +kernel) rfl)
  have k5 : Jvm.Cond.code tk_y3 prog_22_method_155_code 2 none ∈ wsB := hasW_in (q := 1064) (by decide +kernel) rfl
  refine lv_iload_n hx hb (k := 1) (i := 1) (by decide +kernel) rfl (lv_at hl 1 rfl) ?_
  refine lv_aload_n hx hb (k := 0) (i := 0) (by decide +kernel) rfl (lv_at hl 0 rfl) ?_
  refine va_tlen hx hb hT va_S.rf (v := 82) (by decide) (by decide +kernel) ?_
  refine tk_call (rest := []) (a := ([.int (Int32.ofInt (j : Int)), .int 82] : List Value).toArray) (va_runS (index := 9) (As := [.int (Int32.ofInt (j : Int)), .int 82]) ⟨hx, hb, hml, hown, hts⟩ (tk_chk (k := k) (v := v) c1 c2) ⟨callB_of 2 hts (tk_good k5) rfl rfl rfl k4 k2 ⟨by decide, by decide, by decide⟩ ⟨by decide, by decide⟩, k3⟩ ⟨tk_blind, fun U hU hW => ⟨rfl, tk_S.moved hU hW.alike hS0⟩⟩ rfl rfl hl.1 rfl (lv_room (by decide)) (show decode prog_23_method_2_code 3 = .ok (.invokestatic 9, 3) by decide +kernel) ⟨Nat.le_refl _, Nat.le_refl _⟩) ?_
  refine lv_aload_n hx hb (k := 0) (i := 0) (by decide +kernel) rfl (lv_at hl 0 rfl) ?_
  refine lv_iload_n hx hb (k := 1) (i := 1) (by decide +kernel) rfl (lv_at hl 1 rfl) ?_
  refine va_tb hx hb hT va_S.rf (i := Int32.ofInt (j : Int)) (v := .int ((tkBs.getD 0 []).getD j 0)) (fun q => q.elim c1 (fun z => by rw [c3] at z; exact absurd z (by show ¬ 82 ≤ j; omega))) (by rw [c3]) (by decide +kernel) ?_
  refine lv_sipush hx hb (n := 255) (v := 255) (by decide +kernel) (by decide) ?_
  refine lv_iand hx hb (by decide +kernel) ?_
  refine lv_i2c hx hb (by decide +kernel) c4 ?_
  exact W.zret hx hb hr c5 (fun t ht _ => ⟨rfl, ht⟩) (fun _ h => by cases h) (by decide +kernel) hlocks
theorem tk_len {l : Launch} {k v : Nat} : Met l tk_y5 (tkW tk_y5 prog_22_method_54_code 1 (some .int)) (tkR 2) (va_Pc [.ref k] (tk_S k v tkA)) (tkQ (some (.int 82))) 0 0 tkA := by
  refine tk_met (by decide) (Nat.le_of_ble_eq_true rfl) ?_
  intro p e s m args below meth c ⟨hx, hb, hml, hown, hts, hr, hlocks⟩ hS0 ls hl
  obtain ⟨_, _, hStr⟩ := id hS0
  have hT := (hStr.1 0 (by decide)).2.2.2
  have k1 : (Jvm.Cond.fieldLink "java/lang/String" 9 "java/lang/String" "value" "[B").before args s = true := hts _ (hasW_in (q := 9196) (by decide +kernel) rfl)
  have k2 : Jvm.Cond.methodLink "java/lang/String" 335 tk_y0 ∈ wsB := hasW_in (q := 1045) (by decide +kernel) rfl
  have k3 : Jvm.Cond.instanceMethod tk_y0 ∈ wsB := hasW_in (q := 1046) (by decide +kernel) rfl
  have k4 : Jvm.Cond.selects "java/lang/String" tk_y0 tk_y0 ∈ wsB := hasW_in (q := 1047) (by decide +kernel) rfl
  have k6 : Jvm.Cond.initialized "java/lang/String" ∈ wsB := hasW_in (q := 1003) (by decide +kernel) rfl
  have k5 : Jvm.Cond.code tk_y0 prog_22_method_152_code 1 (some .byte) ∈ wsB := hasW_in (q := 1048) (by decide +kernel) rfl
  refine lv_aload_n hx hb (k := 0) (i := 0) (by decide +kernel) rfl (lv_at hl 0 rfl) ?_
  refine vk_getf hx hb (hStr.1 0 (by decide)).2.2.1 va_S.rf hown k1 (fun _ h => h) (by decide +kernel) ?_
  refine va_tlen hx hb hT va_S.rf (v := 82) (by decide) (by decide +kernel) ?_
  refine lv_aload_n hx hb (k := 0) (i := 0) (by decide +kernel) rfl (lv_at hl 0 rfl) ?_
  refine tk_call (rest := [.int 82]) (a := ([.ref k] : List Value).toArray) (va_runV (C := "java/lang/String") (index := 335) (b := k) (As := []) ⟨hx, hb, hml, hown, hts⟩ (tk_coder (k := k) (v := v)) (cwV 0 hts (good_cons k2 (good_cons k3 (good_cons k4 (good_cons k6 (tk_good k5))))) rfl rfl rfl ⟨rfl, by decide, by decide, by decide⟩ ⟨by decide, by decide⟩) ⟨tk_blind, vk_recv (i := 0) hStr (by decide) va_S.rf, fun U hU hW => ⟨rfl, tk_S.moved hU hW.alike hS0⟩⟩ rfl rfl hl.1 rfl (lv_room (by decide)) (show decode prog_22_method_54_code 6 = .ok (.invokevirtual 335, 3) by decide +kernel) ⟨Nat.le_refl _, Nat.le_refl _⟩) ?_
  refine lv_ishr hx hb (by decide +kernel) ?_
  exact W.iret hx hb hr (fun t ht _ => ⟨rfl, ht⟩) (fun _ h => by cases h) (by decide +kernel) hlocks
theorem tk_charAt {l : Launch} {k v j : Nat} (hj : j < 82) : Met l tk_y6 (tkW tk_y6 prog_22_method_56_code 2 (some .char)) (tkR 4) (va_Pc [.ref k, .int (Int32.ofInt (j : Int))] (tk_S k v tkA)) (tkQ (some (.int (Int32.ofInt (tkC j))))) 0 0 tkA := by
  refine tk_met (by decide) (Nat.le_of_ble_eq_true rfl) ?_
  intro p e s m args below meth c ⟨hx, hb, hml, hown, hts, hr, hlocks⟩ hS0 ls hl
  obtain ⟨c1, c2, c3, c4, c5⟩ := tk_ch j hj
  obtain ⟨_, _, hStr⟩ := id hS0
  have k1 : (Jvm.Cond.fieldLink "java/lang/String" 9 "java/lang/String" "value" "[B").before args s = true := hts _ (hasW_in (q := 9196) (by decide +kernel) rfl)
  have k2 : Jvm.Cond.methodLink "java/lang/String" 492 tk_y1 ∈ wsB := hasW_in (q := 1055) (by decide +kernel) rfl
  have k3 : Jvm.Cond.instanceMethod tk_y1 ∈ wsB := hasW_in (q := 1056) (by decide +kernel) rfl
  have k4 : Jvm.Cond.selects "java/lang/String" tk_y1 tk_y1 ∈ wsB := hasW_in (q := 1057) (by decide +kernel) rfl
  have k6 : Jvm.Cond.initialized "java/lang/String" ∈ wsB := hasW_in (q := 1003) (by decide +kernel) rfl
  have k5 : Jvm.Cond.code tk_y1 prog_22_method_154_code 1 (some .boolean) ∈ wsB := hasW_in (q := 1058) (by decide +kernel) rfl
  have j2 : (Jvm.Cond.methodLink "java/lang/String" 495 tk_y4).before args s = true := hts _ (hasW_in (q := 1059) (by decide +kernel) rfl)
  have j3 : (Jvm.Cond.static tk_y4).before args s = true := hts _ (hasW_in (q := 1060) (by decide +kernel) rfl)
  have j4 : (Jvm.Cond.initialized tk_y4.cls).before args s = true := hts _ (hasW_in (q := 1004) (by decide +kernel) rfl)
  have j5 : Jvm.Cond.code tk_y4 prog_23_method_2_code 2 (some .char) ∈ wsB := hasW_in (q := 1061) (by decide +kernel) rfl
  refine lv_aload_n hx hb (k := 0) (i := 0) (by decide +kernel) rfl (lv_at hl 0 rfl) ?_
  refine tk_call (rest := []) (a := ([.ref k] : List Value).toArray) (va_runV (C := "java/lang/String") (index := 492) (b := k) (As := []) ⟨hx, hb, hml, hown, hts⟩ (tk_latin (k := k) (v := v)) (cwV 0 hts (good_cons k2 (good_cons k3 (good_cons k4 (good_cons k6 (tk_good k5))))) rfl rfl rfl ⟨rfl, by decide, by decide, by decide⟩ ⟨by decide, by decide⟩) ⟨tk_blind, vk_recv (i := 0) hStr (by decide) va_S.rf, fun U hU hW => ⟨rfl, tk_S.moved hU hW.alike hS0⟩⟩ rfl rfl hl.1 rfl (lv_room (by decide)) (show decode prog_22_method_56_code 1 = .ok (.invokevirtual 492, 3) by decide +kernel) ⟨Nat.le_refl _, Nat.le_refl _⟩) ?_
  refine lv_if_eq hx hb (off := 12) (tgt := 16) (by decide +kernel) (by decide) (fun q => absurd q (by decide)) (fun _ => ?_)
  refine lv_aload_n hx hb (k := 0) (i := 0) (by decide +kernel) rfl (lv_at hl 0 rfl) ?_
  refine vk_getf hx hb (hStr.1 0 (by decide)).2.2.1 va_S.rf hown k1 (fun _ h => h) (by decide +kernel) ?_
  refine lv_iload_n hx hb (k := 1) (i := 1) (by decide +kernel) rfl (lv_at hl 1 rfl) ?_
  refine tk_call (rest := []) (a := ([.ref v, .int (Int32.ofInt (j : Int))] : List Value).toArray) (va_runS (index := 495) (As := [.ref v, .int (Int32.ofInt (j : Int))]) ⟨hx, hb, hml, hown, hts⟩ (tk_ch1 (k := k) (v := v) hj) ⟨callB_of 2 hts (tk_good j5) rfl rfl rfl j4 j2 ⟨by decide, by decide, by decide⟩ ⟨by decide, by decide⟩, j3⟩ ⟨tk_blind, fun U hU hW => ⟨rfl, tk_S.moved hU hW.alike hS0⟩⟩ rfl rfl hl.1 rfl (lv_room (by decide)) (show decode prog_22_method_56_code 12 = .ok (.invokestatic 495, 3) by decide +kernel) ⟨Nat.le_refl _, Nat.le_refl _⟩) ?_
  exact W.zret hx hb hr c5 (fun t ht _ => ⟨rfl, ht⟩) (fun _ h => by cases h) (by decide +kernel) hlocks

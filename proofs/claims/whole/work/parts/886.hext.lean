
/-! the law's helpers, and their calls -/
def exRH : Room := { frames := 60, cells := 1, slots := 6, locals := 6000 }
def exQh (D : va_G) (κ : Nat → ClassId) (ρ : Nat → Nat) (w : Wd) (sz : Nat) (ok : Prop) (val : Int) : Array Value → State → Outcome → State → Prop := fun _ st o t =>
  (∃ (r : Int) (w' : Wd), o = .returned (some (.int (Int32.ofInt r))) ∧ ((ok ∧ r = 0 ∧ w' = ub w 185 0 val) ∨ (¬ ok ∧ r = 1 ∧ w' = w)) ∧ va_P D vwCl (wsO κ ρ w' 186) t.heap ∧ va_K D vwCl (tysO κ) t) ∧ va_F (AAf ρ 186 sz) st t
def ExM (l : Launch) (EV : State → Prop) (b : Nat) (D : va_G) (κ : Nat → ClassId) (y : MethodName) (cc : ByteArray) (mx : Nat) (tl : List MV) (w : Wd) (ok : Prop) (val : Int) : Prop :=
  ∀ (ρ : Nat → Nat) (sz : Nat), vx_Met l y (tkW y cc mx (some .int)) exR (va_Pc ((mR 0 :: tl).map (toV ρ)) (PreU EV b D κ ρ 186 w sz)) (exQc D κ ρ w sz ok val) (exXC D κ ρ w sz ok) 1 6 (AAf ρ 186 sz)
theorem ex_k0 : kd 0 = 11 := by decide +kernel
theorem ex_c11 : (vwCl[11]?).map (fun q => q.1) = some "ThirdHands" := rfl
section EXT
variable {p : Program} {l : Launch} {e : Env} {R : Room} {s : State} {m : MethodId} {args : Array Value} {below : List Frame} {meth : Method} {c : Code} {D : va_G} {κ : Nat → ClassId} {cc : ByteArray}
set_option maxHeartbeats 4000000 in
theorem ex_tail {EV : State → Prop} {b : Nat} (hEV : EvOK EV b) (hX : ∀ U, EV U → exZ b U) {ρ0 : Nat → Nat} {w : Wd} {ok : Prop} {val : Int} {yC : MethodName} {ccC : ByteArray} {mxC mx idx na pc hp hq tg pe : Nat} {off : Int} {tl : List MV} {lv : List (Nat × Value)} {ls : Array Slot}
    (hM : ExM l EV b D κ yC ccC mxC tl w ok val) (hval : ok → in32 val)
    (hx : p.tables.exec = Jvm.exec) (hb : c.code = cc) (hml : c.maxLocals = mx) (hown : s.vm.findClass "ThirdHandsLaw" = some m.cls) (hts : ∀ w ∈ wsB, w.before args s = true) (hr : meth.sig.returnType = some .int) (hlk : meth.locks = false) (htab : c.exceptionTable.toList = [⟨0, pe, hp, 13⟩])
    (hEs : EV s) (hbsz : b ≤ s.heap.size) (hbρ : ∀ h, h < 186 → b ≤ ρ0 h) (hP : va_P D vwCl (wsO κ ρ0 w 186) s.heap) (hK : va_K D vwCl (tysO κ) s) (hD : va_D (AAf ρ0 186 s.heap.size) (wsO κ ρ0 w 186)) (hnest : ∀ x ∈ nestL, va_Nw x s) (hAO : va_AO RX2 s)
    (hls : lv_has ls mx lv) (dC : decode cc pc = .ok (.invokevirtual idx, 3)) (d3 : decode cc (pc + 3) = .ok (.i2l, 1)) (d4 : decode cc (pc + 3 + 1) = .ok (.lastore, 1)) (d5 : decode cc (pc + 3 + 1 + 1) = .ok (.goto off, 3)) (hoff : ((pc + 3 + 1 + 1 : Nat) : Int) + off = (tg : Int))
    (t0 : decode cc tg = .ok (.iconst 0, 1)) (t1 : decode cc (tg + 1) = .ok (.ireturn, 1)) (hst : (∃ i, decode cc hp = .ok (.astore i, 2) ∧ i < mx ∧ hq = hp + 2) ∨ (∃ k : Fin 4, decode cc hp = .ok (.astore_n k, 1) ∧ (k : Nat) < mx ∧ hq = hp + 1))
    (u0 : decode cc hq = .ok (.iconst 1, 1)) (u1 : decode cc (hq + 1) = .ok (.ireturn, 1)) (hcov : covers ⟨0, pe, hp, 13⟩ pc = true)
    (k2 : Jvm.Cond.methodLink "ThirdHandsLaw" idx yC ∈ wsB) (k3 : Jvm.Cond.instanceMethod yC ∈ wsB) (k4 : Jvm.Cond.selects "ThirdHands" yC yC ∈ wsB) (k5 : Jvm.Cond.code yC ccC mxC (some .int) ∈ wsB)
    (hd : yC.cls = "ThirdHands" ∧ yC.cls ≠ "java/lang/invoke/MethodHandle" ∧ yC.cls ≠ "java/lang/invoke/VarHandle" ∧ (parseMethodDescriptor yC.desc).map (fun d => d.parameters.length) = some na) (hna : tl.length = na)
    (hR : 1 ≤ R.cells ∧ 6 ≤ R.slots ∧ 51 ≤ R.frames ∧ 8 + (mxC + 11) + 5000 ≤ R.locals) :
    W p l e R s m args below meth c s.heap [] 0 0 (MQ below (exQh D κ ρ0 w s.heap.size ok val) args s 1 6 (AAf ρ0 186 s.heap.size)) (F0 m pc ls ((tl.map (toV ρ0)).reverse ++ .ref (ρ0 0) :: [.int (Int32.ofInt 0), .ref (ρ0 185)])) := by
  have k6 : Jvm.Cond.initialized "ThirdHands" ∈ wsB := hasW_in (q := 1001) (by decide +kernel) rfl
  have j1 : (Jvm.Cond.classLink "ThirdHandsLaw" 13 exN).before args s = true := hts _ (hasW_in (q := 6120) (by decide +kernel) rfl)
  have j2 : (Jvm.Cond.castable exN exN).before args s = true := va_Nw.use rfl ((hX s hEs).2.2 _ List.mem_cons_self)
  have hAb : ∀ q, AAf ρ0 186 s.heap.size q → b ≤ q := fun q h => by
    rcases h with ⟨g, hg, rfl⟩ | h
    · exact hbρ g hg
    · exact Nat.le_trans hbsz h
  obtain ⟨C, T, hC, -⟩ := sz_cl (h := 0) (by decide) (by decide +kernel)
  rw [ex_k0] at hC
  have hCn : C = "ThirdHands" := by
    have h9 := ex_c11
    rw [hC] at h9
    exact Option.some.inj h9
  subst hCn
  have he : (wsO κ ρ0 w 186)[0]? = some (ρ0 0, .inr (11, (List.range (szI 0).toNat).map (fvl ρ0 0 (w 0)))) := by rw [wsO_at (by decide), celE_obj (by decide +kernel), ex_k0]
  have hrun := vx_runV (C := "ThirdHands") (index := idx) (b := ρ0 0) (As := tl.map (toV ρ0)) (rest := [.int (Int32.ofInt 0), .ref (ρ0 185)]) (H := s.heap) (locs := []) (cells := 0) (slots := 0) (g := F0 m pc ls ((tl.map (toV ρ0)).reverse ++ .ref (ρ0 0) :: [.int (Int32.ofInt 0), .ref (ρ0 185)])) (p := p) (l := l) (e := e) (R := R) (below := below) (meth := meth)
    ⟨hx, hb, hml, hown, hts⟩ (hM ρ0 s.heap.size) (cwV na hts (good_cons k2 (good_cons k3 (good_cons k4 (good_cons k6 (tk_good k5))))) rfl rfl rfl hd ⟨by show 50 + 1 ≤ R.frames; omega, by show 8 + (mxC + 11) + 5000 ≤ R.locals; omega⟩)
    ⟨PreU.blind hEV, va_recv hK hP hC he, fun U hU hW => ⟨rfl, pre_at hEV hK hP hD hnest hAO hEs hbsz hAb va_S.rf U hU hW⟩⟩ rfl (by rw [List.length_map]; exact hna) hls.1 rfl (lv_room (Nat.le_of_ble_eq_true rfl)) dC ⟨by omega, by omega⟩
  intro T0 hT X
  have after : ∀ (st₀ t T' : State) (L : List Loc), st₀.heap = s.heap → (∀ q ∈ L, AAf ρ0 186 s.heap.size q.base) → T'.heap = t.heap → va_F (AAf ρ0 186 s.heap.size) st₀ t → va_S (AAf ρ0 186 s.heap.size) s.heap T'.heap ([] ++ L) := by
    intro st₀ t T' L h0 hLf h1 hF1
    refine ⟨by rw [h1, ← h0]; exact hF1.1, fun q g1 g2 => by rw [h1, hF1.2 q (by rw [h0]; exact g1) g2, h0], fun q hq => hLf q (by simpa using hq)⟩
  rcases hrun T0 hT X with ⟨v, st₀, t, T', L, h0, X', hLf, h1, h2, ⟨hv, hok1, hP1, hF1⟩, st⟩ | ⟨q, st₀, t, T', L, E, ce, h0, X', hLf, h1, h2, ⟨hE, hno, hP1, hF1⟩, hce, hcv, hcl, st⟩
  · cases hv
    have hS1 := after st₀ t T' L h0 hLf h1 hF1
    have kk : W p l e R s m args below meth c T'.heap ([] ++ L) (0 + 1) (0 + 6) (MQ below (exQh D κ ρ0 w s.heap.size ok val) args s 1 6 (AAf ρ0 186 s.heap.size)) (F0 m (pc + 3) ls [.int (Int32.ofInt val), .int (Int32.ofInt 0), .ref (ρ0 185)]) := by
      refine lv_i2l hx hb d3 (v := Int64.ofInt val) (i2l_of (hval hok1)) ?_
      have he5 : (wsO κ ρ0 w 186)[185]? = some (ρ0 185, .inl (κ 21, ((szI 185).toNat, .inr (.inl (fun j => Int64.ofInt (w 185 j)))))) := by rw [wsO_at (by decide), celE_long kd_185]
      refine va_last hx hb hK (by rw [h1]; exact hP1) hD hS1 185 1 he5 rfl (ix_in in32_0 (Int.le_refl _) (by decide +kernel)) d4 (fun H1 locs1 hP2 hD2 hS2 => ?_)
      have hset : (wsO κ ρ0 w 186).set 185 (ρ0 185, .inl (κ 21, (szI 185).toNat, .inr (.inl (vp_updL (fun j => Int64.ofInt (w 185 j)) (Int32.ofInt 0).toNatClampNeg (Int64.ofInt val))))) = wsO κ ρ0 (ub w 185 0 val) 186 := by
        rw [ub_ubf, ← wsO_set (by decide), celE_long kd_185, ix_nat in32_0, updL_i]
        rfl
      rw [hset] at hP2
      refine lv_goto hx hb d5 hoff ?_
      refine lv_iconst hx hb (v := Int32.ofInt 0) t0 rfl ?_
      exact W.iret hx hb hr (fun t' ht hW => ⟨⟨0, ub w 185 0 val, rfl, Or.inl ⟨hok1, rfl, rfl⟩, by rw [ht]; exact hP2, va_K.moved hW.alike hK⟩, hS2.F ht⟩) hS2.2.2 t1 hlk
    obtain ⟨t2, a1, b1⟩ := kk T' rfl X'
    exact ⟨t2, st t2 a1, b1⟩
  · have hS1 := after st₀ t T' L h0 hLf h1 hF1
    subst hE
    have fin : ∀ ls' : Array Slot, W p l e R s m args below meth c T'.heap ([] ++ L) (0 + 1) (0 + 6) (MQ below (exQh D κ ρ0 w s.heap.size ok val) args s 1 6 (AAf ρ0 186 s.heap.size)) (F0 m hq ls' []) := fun ls' => by
      refine lv_iconst hx hb (v := Int32.ofInt 1) u0 rfl ?_
      exact W.iret hx hb hr (fun t' ht hW => ⟨⟨1, w, rfl, Or.inr ⟨hno, rfl, rfl⟩, by rw [ht, h1]; exact hP1, va_K.moved hW.alike hK⟩, hS1.F ht⟩) hS1.2.2 u1 hlk
    have kx : vx_W p l e R s m args below meth c T'.heap ([] ++ L) (0 + 1) (0 + 6) (MQ below (exQh D κ ρ0 w s.heap.size ok val) args s 1 6 (AAf ρ0 186 s.heap.size)) (F0 m pc ls [.int (Int32.ofInt 0), .ref (ρ0 185)]) q := by
      refine vx_catch (own := "ThirdHandsLaw") (name := exN) (E := exN) hown [] ⟨0, pe, hp, 13⟩ [] htab (fun z hz => by cases hz) hcov (show (13 : Nat) ≠ 0 by decide) j1 j2 (by rw [h1]; exact hce) hcv hcl ?_
      rcases hst with ⟨i, ds, hi, rfl⟩ | ⟨k, ds, hi, rfl⟩
      · exact lv_astore hx hb ds hls hi rfl (fun ls' _ => fin ls')
      · exact lv_astore_n hx hb ds rfl hls hi rfl (fun ls' _ => fin ls')
    obtain ⟨t2, a1, b1⟩ := kx T' rfl X'
    exact ⟨t2, st.trans a1, b1⟩
end EXT
def exTy (y : MethodName) (cc : ByteArray) (mx : Nat) (hh : List (Nat × Nat × Nat × Nat)) : List Jvm.Cond := Jvm.Cond.codeWith y cc mx (some .int) hh :: wsB
theorem ex_D {A : Nat → Prop} {κ : Nat → ClassId} {ρ : Nat → Nat} {w w' : Wd} {n : Nat} (h : va_D A (wsO κ ρ w n)) : va_D A (wsO κ ρ w' n) := by
  have key : ∀ (k : Nat) (x : Nat × va_E), (wsO κ ρ w' n)[k]? = some x → k < n ∧ x.1 = ρ k := fun k x hk => by
    have hl : k < n := by
      have := (List.getElem?_eq_some_iff.mp hk).1
      simpa [wsO] using this
    rw [wsO_at hl] at hk
    cases hk
    exact ⟨hl, rfl⟩
  refine ⟨fun i j x y hi hj hxy => ?_, fun k q hk => ?_⟩
  · obtain ⟨a1, a2⟩ := key i x hi
    obtain ⟨b1, b2⟩ := key j y hj
    exact h.1 i j _ _ (wsO_at a1) (wsO_at b1) (by show ρ i = ρ j; rw [← a2, ← b2]; exact hxy)
  · obtain ⟨a1, a2⟩ := key k q hk
    rw [a2]
    exact h.2 k _ (wsO_at a1)
set_option maxHeartbeats 4000000 in
/-- a helper of three numbers -/
theorem ex_help3 {l : Launch} {EV : State → Prop} {b : Nat} (hEV : EvOK EV b) (hX : ∀ U, EV U → exZ b U) {D : va_G} {κ : Nat → ClassId} {y yC : MethodName} {cc ccC : ByteArray} {idx : Nat} {ρ0 : Nat → Nat} {w : Wd} {sz : Nat} {ok : Prop} {val u what : Int} (hM : ExM l EV b D κ yC ccC 3 [mI u, mI what] w ok val) (hval : ok → in32 val)
    (hy : plainName y.cls = true) (hcls : y.cls = "ThirdHandsLaw") (d0 : decode cc 0 = .ok (.aload_n 3, 1)) (d1 : decode cc 1 = .ok (.iconst 0, 1)) (d2 : decode cc 2 = .ok (.aload_n 0, 1)) (d3 : decode cc 3 = .ok (.iload_n 1, 1)) (d4 : decode cc 4 = .ok (.iload_n 2, 1)) (d5 : decode cc 5 = .ok (.invokevirtual idx, 3)) (d8 : decode cc 8 = .ok (.i2l, 1)) (d9 : decode cc 9 = .ok (.lastore, 1)) (d10 : decode cc 10 = .ok (.goto 7, 3)) (d13 : decode cc 13 = .ok (.astore 4, 2)) (d15 : decode cc 15 = .ok (.iconst 1, 1)) (d16 : decode cc 16 = .ok (.ireturn, 1)) (d17 : decode cc 17 = .ok (.iconst 0, 1)) (d18 : decode cc 18 = .ok (.ireturn, 1))
    (k2 : Jvm.Cond.methodLink "ThirdHandsLaw" idx yC ∈ wsB) (k3 : Jvm.Cond.instanceMethod yC ∈ wsB) (k4 : Jvm.Cond.selects "ThirdHands" yC yC ∈ wsB) (k5 : Jvm.Cond.code yC ccC 3 (some .int) ∈ wsB)
    (hd : yC.cls = "ThirdHands" ∧ yC.cls ≠ "java/lang/invoke/MethodHandle" ∧ yC.cls ≠ "java/lang/invoke/VarHandle" ∧ (parseMethodDescriptor yC.desc).map (fun d => d.parameters.length) = some 2) :
    Met l y (exTy y cc 5 [(0, 10, 13, 13)]) exRH (va_Pc ([mR 0, mI u, mI what, mR 185].map (toV ρ0)) (PreU EV b D κ ρ0 186 w sz)) (exQh D κ ρ0 w sz ok val) 1 6 (AAf ρ0 186 sz) := by
  refine va_MetW (cc := cc) (maxL := 5) (ret := some .int) (hh := [(0, 10, 13, 13)]) hy rfl ?_
  intro p e s m args below meth c s₁ B hml hv
  obtain ⟨rfl, ⟨hEs, hbsz, hbρ⟩, hsz, hP, hK, hD0, hnest, hAO⟩ := hv
  subst hsz
  have hx := B.exec
  have hb := B.bytes
  have hts0 := atoms_spec (ws := exTy y cc 5 [(0, 10, 13, 13)]) B.pre
  have hts : ∀ w ∈ wsB, w.before (([mR 0, mI u, mI what, mR 185].map (toV ρ0)).toArray) s = true := fun w hw => hts0 w (List.mem_cons_of_mem _ hw)
  have hown : s.vm.findClass "ThirdHandsLaw" = some m.cls := by rw [← hcls]; exact findClass_of_methodNamed B.named
  have htab : c.exceptionTable.toList = [⟨0, 10, 13, 13⟩] := vx_table (x := y) B (hts0 _ List.mem_cons_self)
  have hD : va_D (AAf ρ0 186 s.heap.size) (wsO κ ρ0 w 186) := ⟨hD0.1, fun k q hq => by
    have hk : k < 186 := by
      have := (List.getElem?_eq_some_iff.mp hq).1
      simpa [wsO] using this
    rw [wsO_at hk] at hq
    cases hq
    exact Or.inl ⟨k, hk, rfl⟩⟩
  have hl := lv_entry ([mR 0, mI u, mI what, mR 185].map (toV ρ0)) (n := 5) (Nat.le_of_ble_eq_true rfl)
  rw [lg_entry_eq]
  refine lv_aload_n hx hb (k := 3) (i := 3) d0 rfl (lv_at hl 3 rfl) ?_
  refine lv_iconst hx hb (v := Int32.ofInt 0) d1 rfl ?_
  refine lv_aload_n hx hb (k := 0) (i := 0) d2 rfl (lv_at hl 0 rfl) ?_
  refine lv_iload_n hx hb (k := 1) (i := 1) d3 rfl (lv_at hl 1 rfl) ?_
  refine lv_iload_n hx hb (k := 2) (i := 2) d4 rfl (lv_at hl 2 rfl) ?_
  exact ex_tail (pc := 5) (hp := 13) (hq := 15) (tg := 17) (pe := 10) (na := 2) hEV hX hM hval hx hb hml hown hts B.returns B.notSynchronized htab hEs hbsz hbρ hP hK hD hnest hAO hl d5 d8 d9 d10 (by decide) d17 d18 (Or.inl ⟨4, d13, by decide, rfl⟩) d15 d16 (by decide) k2 k3 k4 k5 hd rfl ⟨by show 1 ≤ 1; omega, by show 6 ≤ 6; omega, by show 51 ≤ 60; omega, by show 8 + (3 + 11) + 5000 ≤ 6000; omega⟩
set_option maxHeartbeats 4000000 in
theorem ex_help2 {l : Launch} {EV : State → Prop} {b : Nat} (hEV : EvOK EV b) (hX : ∀ U, EV U → exZ b U) {D : va_G} {κ : Nat → ClassId} {y yC : MethodName} {cc ccC : ByteArray} {idx : Nat} {ρ0 : Nat → Nat} {w : Wd} {sz : Nat} {ok : Prop} {val u : Int} (hM : ExM l EV b D κ yC ccC 2 [mI u] w ok val) (hval : ok → in32 val)
    (hy : plainName y.cls = true) (hcls : y.cls = "ThirdHandsLaw") (d0 : decode cc 0 = .ok (.aload_n 2, 1)) (d1 : decode cc 1 = .ok (.iconst 0, 1)) (d2 : decode cc 2 = .ok (.aload_n 0, 1)) (d3 : decode cc 3 = .ok (.iload_n 1, 1)) (d5 : decode cc 4 = .ok (.invokevirtual idx, 3)) (d8 : decode cc 7 = .ok (.i2l, 1)) (d9 : decode cc 8 = .ok (.lastore, 1)) (d10 : decode cc 9 = .ok (.goto 6, 3)) (d13 : decode cc 12 = .ok (.astore_n 3, 1)) (d15 : decode cc 13 = .ok (.iconst 1, 1)) (d16 : decode cc 14 = .ok (.ireturn, 1)) (d17 : decode cc 15 = .ok (.iconst 0, 1)) (d18 : decode cc 16 = .ok (.ireturn, 1))
    (k2 : Jvm.Cond.methodLink "ThirdHandsLaw" idx yC ∈ wsB) (k3 : Jvm.Cond.instanceMethod yC ∈ wsB) (k4 : Jvm.Cond.selects "ThirdHands" yC yC ∈ wsB) (k5 : Jvm.Cond.code yC ccC 2 (some .int) ∈ wsB)
    (hd : yC.cls = "ThirdHands" ∧ yC.cls ≠ "java/lang/invoke/MethodHandle" ∧ yC.cls ≠ "java/lang/invoke/VarHandle" ∧ (parseMethodDescriptor yC.desc).map (fun d => d.parameters.length) = some 1) :
    Met l y (exTy y cc 4 [(0, 9, 12, 13)]) exRH (va_Pc ([mR 0, mI u, mR 185].map (toV ρ0)) (PreU EV b D κ ρ0 186 w sz)) (exQh D κ ρ0 w sz ok val) 1 6 (AAf ρ0 186 sz) := by
  refine va_MetW (cc := cc) (maxL := 4) (ret := some .int) (hh := [(0, 9, 12, 13)]) hy rfl ?_
  intro p e s m args below meth c s₁ B hml hv
  obtain ⟨rfl, ⟨hEs, hbsz, hbρ⟩, hsz, hP, hK, hD0, hnest, hAO⟩ := hv
  subst hsz
  have hx := B.exec
  have hb := B.bytes
  have hts0 := atoms_spec (ws := exTy y cc 4 [(0, 9, 12, 13)]) B.pre
  have hts : ∀ w ∈ wsB, w.before (([mR 0, mI u, mR 185].map (toV ρ0)).toArray) s = true := fun w hw => hts0 w (List.mem_cons_of_mem _ hw)
  have hown : s.vm.findClass "ThirdHandsLaw" = some m.cls := by rw [← hcls]; exact findClass_of_methodNamed B.named
  have htab : c.exceptionTable.toList = [⟨0, 9, 12, 13⟩] := vx_table (x := y) B (hts0 _ List.mem_cons_self)
  have hD : va_D (AAf ρ0 186 s.heap.size) (wsO κ ρ0 w 186) := ⟨hD0.1, fun k q hq => by
    have hk : k < 186 := by
      have := (List.getElem?_eq_some_iff.mp hq).1
      simpa [wsO] using this
    rw [wsO_at hk] at hq
    cases hq
    exact Or.inl ⟨k, hk, rfl⟩⟩
  have hl := lv_entry ([mR 0, mI u, mR 185].map (toV ρ0)) (n := 4) (Nat.le_of_ble_eq_true rfl)
  rw [lg_entry_eq]
  refine lv_aload_n hx hb (k := 2) (i := 2) d0 rfl (lv_at hl 2 rfl) ?_
  refine lv_iconst hx hb (v := Int32.ofInt 0) d1 rfl ?_
  refine lv_aload_n hx hb (k := 0) (i := 0) d2 rfl (lv_at hl 0 rfl) ?_
  refine lv_iload_n hx hb (k := 1) (i := 1) d3 rfl (lv_at hl 1 rfl) ?_
  exact ex_tail (pc := 4) (hp := 12) (hq := 13) (tg := 15) (pe := 9) (na := 1) hEV hX hM hval hx hb hml hown hts B.returns B.notSynchronized htab hEs hbsz hbρ hP hK hD hnest hAO hl d5 d8 d9 d10 (by decide) d17 d18 (Or.inr ⟨3, d13, by decide, rfl⟩) d15 d16 (by decide) k2 k3 k4 k5 hd rfl ⟨by show 1 ≤ 1; omega, by show 6 ≤ 6; omega, by show 51 ≤ 60; omega, by show 8 + (2 + 11) + 5000 ≤ 6000; omega⟩
theorem ex_ty {h j : Nat} (hk : kd h = 20) : ¬ tyC h j = 1 := by
  unfold tyC
  rw [if_neg (by omega), if_neg (by omega)]
  decide
section EXJ
variable {p : Program} {l : Launch} {e : Env} {R : Room} {s : State} {m : MethodId} {args : Array Value} {below : List Frame} {meth : Method} {c : Code} {Z : State → Prop} {D : va_G} {κ : Nat → ClassId} {A : Nat → Prop} {cd : List Ent} {pr : Pr} {mx n0 : Nat} {w0 : Wd} {ρ0 ρ : Nat → Nat}
set_option maxHeartbeats 4000000 in
theorem ex_join {i pc : Nat} {w : Wd} {H : Heap} {locs : List Loc} {ls : Array Slot} {l9 rest : List MV} {st0 : List Value} {a : Array Value} {ok : Prop} {val : Int}
    (hA : ∀ q : Nat, s.heap.size ≤ q → A q) (hR : Rl D κ A s.heap ρ 186 w H locs) (hE : Ex pr n0 w0 ρ0 ρ 186 w) (hpr : pr.2.1 = 2)
    (hrun : va_Run p l e R s m args below meth c H locs (cN n0 w0 186 w) (sN n0 w0 186 w) 1 6 (F0 m pc ls st0) (rest.map (toV ρ)) (exQh D κ ρ w H.size ok val a) (AAf ρ 186 H.size))
    (hpc : pcOf cd i = pc + 3) (hlt : w 401 1 < 512) (hval : ok → in32 val)
    (h1 : ok → PP p l e R s m args below meth c Z D κ A cd pr mx n0 w0 ρ0 i l9 (mI 0 :: rest) (ub (ub w 185 0 val) 401 1 (w 401 1 + 1)))
    (h2 : ¬ ok → PP p l e R s m args below meth c Z D κ A cd pr mx n0 w0 ρ0 i l9 (mI 1 :: rest) (ub w 401 1 (w 401 1 + 1)))
    (hl : ∀ v ∈ l9, okV 186 v) (hs : ∀ v ∈ rest, okV 186 v) (hL : LocR ρ ls mx l9) :
    W p l e R s m args below meth c H locs (cN n0 w0 186 w) (sN n0 w0 186 w) Z (F0 m pc ls st0) := by
  obtain ⟨hP, hD, hS, hok, hn, hn0, hall⟩ := id hR
  obtain ⟨e1, e2, e3, e4, e5, e6, e7, e8, e9, e10⟩ := id hE
  intro T hT X
  obtain ⟨v, st₀, t, T', L, h0, X', hLf, g1, g2, ⟨⟨r, w', hv, hcase, hP1, hK1⟩, hz, hk⟩, st⟩ := hrun T hT X
  cases hv
  have hAA := AAf_in hD hS hA
  rw [h0] at hz hk
  have hS' : va_S A s.heap T'.heap (locs ++ L) := by
    refine ⟨Nat.le_trans hS.1 (by rw [g1]; exact hz), fun q x1 x2 => ?_, fun q hq => ?_⟩
    · rw [g1, hk q (Nat.lt_of_lt_of_le x1 hS.1) (fun z => x2 (hAA q z))]
      exact hS.2.1 q x1 x2
    · rcases List.mem_append.mp hq with h | h
      · exact hS.2.2 q h
      · exact hAA _ (hLf q h)
  have h401 : w' 401 = w 401 ∧ w' 400 = w 400 ∧ okW 186 w' ∧ allSet w' ∧ in32 r ∧ PP p l e R s m args below meth c Z D κ A cd pr mx n0 w0 ρ0 i l9 (mI r :: rest) (ub w' 401 1 (w 401 1 + 1)) := by
    rcases hcase with ⟨ho, rfl, rfl⟩ | ⟨ho, rfl, rfl⟩
    · have hnr : ¬ rfC 185 0 := by
        intro q
        rcases q with ⟨q, -⟩ | q <;> rw [kd_185] at q <;> omega
      refine ⟨rfl, rfl, hok.up (by decide) ?_ (fun q _ => absurd q hnr), (hall rfl).num hnr, in32_0, h1 ho⟩
      rw [if_pos (by unfold tyC; rw [if_neg (by rw [kd_185]; omega), if_pos kd_185])]
      exact in32_64 (hval ho)
    · exact ⟨rfl, rfl, hok, hall rfl, by unfold in32; omega, h2 ho⟩
  obtain ⟨f1, f2, f3, f4, f5, hF⟩ := h401
  have c0 : ub w' 401 1 (w 401 1 + 1) 401 0 = w 401 0 := by
    show up1 (w' 401) 1 (w 401 1 + 1) 0 = w 401 0
    rw [f1]; rfl
  have c1 : ub w' 401 1 (w 401 1 + 1) 401 1 = w 401 1 + 1 := by
    show up1 (w' 401) 1 (w 401 1 + 1) 1 = w 401 1 + 1
    exact up1_self _ _ _
  have c2 : ub w' 401 1 (w 401 1 + 1) 401 2 = w 401 2 := by
    show up1 (w' 401) 1 (w 401 1 + 1) 2 = w 401 2
    rw [f1]; rfl
  have clo : ∀ h, h < 186 → ub w' 401 1 (w 401 1 + 1) h = w' h := fun h hh => ub_ne _ _ (by omega)
  have hwo : wsO κ ρ (ub w' 401 1 (w 401 1 + 1)) 186 = wsO κ ρ w' 186 := by
    unfold wsO
    apply List.map_congr_left
    intro h hh
    rw [clo h (List.mem_range.mp hh)]
  have hokw : okW 186 (ub w' 401 1 (w 401 1 + 1)) := fun h j hh => by rw [clo h hh]; exact f3 h j hh
  have hcN : cN n0 w0 186 (ub w' 401 1 (w 401 1 + 1)) = cN n0 w0 186 w + 1 := by unfold cN; rw [c1]; omega
  have hsN : sN n0 w0 186 (ub w' 401 1 (w 401 1 + 1)) = sN n0 w0 186 w + 6 := by unfold sN; rw [c1]; omega
  have hW := hF ρ 186 T'.heap (locs ++ L) ls ⟨by rw [hwo, g1]; exact hP1, ex_D hD, hS', hokw, hn, by rw [c0]; exact hn0, fun _ q hq => by rw [clo q.1 (ref_is hq).1]; exact f4 q hq⟩
    ⟨e1, e2, e3, by rw [ub_ne _ _ (by decide), f2]; exact e4, by rw [c2]; exact e5, by rw [c1]; omega, fun q => absurd hpr q, fun q => absurd (hpr.symm.trans q) (by decide), e9, fun q => by rw [c1]; exact ⟨by omega, (e10 q).2⟩⟩
    hl (List.forall_mem_cons.mpr ⟨f5, hs⟩) hL
  rw [hcN, hsN, hpc] at hW
  obtain ⟨t2, a1, b1⟩ := hW T' rfl X'
  exact ⟨t2, st t2 a1, b1⟩
end EXJ
/-! the four calls -/
def ex_y0 : MethodName := ⟨"ThirdHands", "unit", "(II)I"⟩
set_option maxRecDepth 100000 in
theorem exCk0 : (List.range cdE0.length).all (fun i => decide (i ∈ spE0) || chkE "ThirdHands" ex_y0.name prog_1_method_8_code 3 cdE0 (nthA nE cdE0 i) (pcOf cdE0 (i + 1))) = true := by decide +kernel
theorem exCh0 {i : Nat} (hi : i < cdE0.length) (hs : ¬ i ∈ spE0) : chkE "ThirdHands" ex_y0.name prog_1_method_8_code 3 cdE0 (nthA nE cdE0 i) (pcOf cdE0 (i + 1)) = true := by
  have h := List.all_eq_true.mp exCk0 i (List.mem_range.mpr hi)
  rw [Bool.or_eq_true, decide_eq_true_eq] at h
  exact h.resolve_left hs
def ex_y1 : MethodName := ⟨"ThirdHands", "want", "(II)I"⟩
set_option maxRecDepth 100000 in
theorem exCk1 : (List.range cdE1.length).all (fun i => decide (i ∈ spE1) || chkE "ThirdHands" ex_y1.name prog_1_method_9_code 3 cdE1 (nthA nE cdE1 i) (pcOf cdE1 (i + 1))) = true := by decide +kernel
theorem exCh1 {i : Nat} (hi : i < cdE1.length) (hs : ¬ i ∈ spE1) : chkE "ThirdHands" ex_y1.name prog_1_method_9_code 3 cdE1 (nthA nE cdE1 i) (pcOf cdE1 (i + 1)) = true := by
  have h := List.all_eq_true.mp exCk1 i (List.mem_range.mpr hi)
  rw [Bool.or_eq_true, decide_eq_true_eq] at h
  exact h.resolve_left hs
def ex_y2 : MethodName := ⟨"ThirdHands", "act", "(II)I"⟩
set_option maxRecDepth 100000 in
theorem exCk2 : (List.range cdE2.length).all (fun i => decide (i ∈ spE2) || chkE "ThirdHands" ex_y2.name prog_1_method_21_code 3 cdE2 (nthA nE cdE2 i) (pcOf cdE2 (i + 1))) = true := by decide +kernel
theorem exCh2 {i : Nat} (hi : i < cdE2.length) (hs : ¬ i ∈ spE2) : chkE "ThirdHands" ex_y2.name prog_1_method_21_code 3 cdE2 (nthA nE cdE2 i) (pcOf cdE2 (i + 1)) = true := by
  have h := List.all_eq_true.mp exCk2 i (List.mem_range.mpr hi)
  rw [Bool.or_eq_true, decide_eq_true_eq] at h
  exact h.resolve_left hs
def ex_y3 : MethodName := ⟨"ThirdHands", "gain", "(I)I"⟩
set_option maxRecDepth 100000 in
theorem exCk3 : (List.range cdE3.length).all (fun i => decide (i ∈ spE3) || chkE "ThirdHands" ex_y3.name prog_1_method_33_code 2 cdE3 (nthA nE cdE3 i) (pcOf cdE3 (i + 1))) = true := by decide +kernel
theorem exCh3 {i : Nat} (hi : i < cdE3.length) (hs : ¬ i ∈ spE3) : chkE "ThirdHands" ex_y3.name prog_1_method_33_code 2 cdE3 (nthA nE cdE3 i) (pcOf cdE3 (i + 1)) = true := by
  have h := List.all_eq_true.mp exCk3 i (List.mem_range.mpr hi)
  rw [Bool.or_eq_true, decide_eq_true_eq] at h
  exact h.resolve_left hs
section EXH
variable {p : Program} {l : Launch} {e : Env} {R : Room} {s : State} {m : MethodId} {args : Array Value} {below : List Frame} {meth : Method} {c : Code} {Z : State → Prop} {D : va_G} {κ : Nat → ClassId} {A : Nat → Prop} {cd : List Ent} {pr : Pr} {mx n0 : Nat} {w0 : Wd} {ρ0 : Nat → Nat} {cc : ByteArray} {nm : String}
set_option maxRecDepth 100000 in
set_option maxHeartbeats 8000000 in
theorem lw_hext (hlt : l.stackTraces = false) {EV : State → Prop} {b0 : Nat} (hEV : EvOK EV b0) (hX : ∀ U, EV U → exZ b0 U) (htok : TokMet l EV b0 D κ) (hFr : FrJ p s m args meth c cc "ThirdHandsLaw" nm mx) (hK : va_K D vwCl (tysO κ) s) (hA : ∀ q : Nat, s.heap.size ≤ q → A q) (hEs : EV s) (hbs : b0 ≤ s.heap.size) (hAb : ∀ q, A q → b0 ≤ q)
    (hcapx : ∀ ρ w, Ex pr n0 w0 ρ0 ρ 186 w → w 401 1 < 512 → cN n0 w0 186 w + 1 ≤ R.cells ∧ sN n0 w0 186 w + 6 ≤ R.slots) (hRf : 61 ≤ R.frames) (hRl : 6100 ≤ R.locals) :
    ∀ (j na idx na2 : Nat) (s9 l9 : List MV) (w : Wd) (i : Nat) (ρ : Nat → Nat) (n : Nat) (H : Heap) (locs : List Loc) (ls : Array Slot) (pc : Nat), pr.2.1 = 2 → 279 ≤ j → n = 186 → catS (s9.drop na) ≤ 8 → na ≤ s9.length → Cw 30 j (s9.take na).reverse w (fun r w' => PP p l e R s m args below meth c Z D κ A cd pr mx n0 w0 ρ0 i l9 (pushR (rkM j) r (s9.drop na)) w') → Rl D κ A s.heap ρ n w H locs → Ex pr n0 w0 ρ0 ρ n w → (∀ v ∈ l9, okV n v) → (∀ v ∈ s9, okV n v) → LocR ρ ls mx l9 → ((yM j).cls ≠ "java/lang/invoke/MethodHandle" ∧ (yM j).cls ≠ "java/lang/invoke/VarHandle" ∧ (parseMethodDescriptor (yM j).desc).map (fun d => d.parameters.length) = some na) → Jvm.Cond.methodLink "ThirdHandsLaw" idx (yM j) ∈ wsB → Jvm.Cond.static (yM j) ∈ wsB → Jvm.Cond.initialized (yM j).cls ∈ wsB → decode cc pc = .ok (.invokestatic idx, 3) → pcOf cd i = pc + 3 → W p l e R s m args below meth c H locs (cN n0 w0 n w) (sN n0 w0 n w) Z (F0 m pc ls (s9.map (toV ρ))) := by
  intro j na idx na2 s9 l9 w i ρ n H locs ls pc hpr hj hn hcat hna hcw hR hE hl hs hL hy klink kstat kini hdec hpc
  subst hn
  obtain ⟨hx, hb, hml, hown, hts, hin, hnest, hAO⟩ := id hFr
  obtain ⟨hP, hD, hS, hok, hn, hn0, hall⟩ := id hR
  have hpre : ∀ U : State, U.heap = H → s.WarmedH U.vm → PreU EV b0 D κ ρ 186 w H.size U := pre_at hEV hK hP hD hnest hAO hEs hbs hAb hS
  have hc0 : w 401 0 = 186 := hn0
  have hall := hall rfl
  have hsd : ∀ v ∈ s9.drop na, okV 186 v := fun v hv => hs v (List.mem_of_mem_drop hv)
  have hcw : Cw (29 + 1) j (s9.take na).reverse w (fun r w' => PP p l e R s m args below meth c Z D κ A cd pr mx n0 w0 ρ0 i l9 (pushR (rkM j) r (s9.drop na)) w') := hcw
  have hst0 : s9.map (toV ρ) = (((s9.take na).reverse).map (toV ρ)).reverse ++ (s9.drop na).map (toV ρ) := by
    rw [List.map_reverse, List.reverse_reverse, ← List.map_append, List.take_append_drop]
  have hlen0 : ((s9.take na).reverse).length = na := by rw [List.length_reverse, List.length_take]; omega
  have hav0 : ∀ v ∈ (s9.take na).reverse, okV 186 v := fun v hv => hs v (List.mem_of_mem_take (List.mem_reverse.mp hv))
  obtain ⟨y1, y2, y3⟩ := hy
  unfold Cw at hcw
  rw [if_neg (by omega)] at hcw
  by_cases q279 : j = 279
  · subst q279
    rw [if_pos rfl] at hcw
    obtain ⟨u, what, hav, hc, hlt5, ho, hno⟩ := hcw
    rw [hav] at hst0 hlen0 hav0
    have hna4 : na = 4 := hlen0.symm
    have hM : ExM l EV b0 D κ ex_y0 prog_1_method_8_code 3 [mI u, mI what] w (((0 ≤ u ∧ u < w 4 8) ∧ 0 ≤ what) ∧ what < 5) (w 11 (u * 5 + what).toNat) := fun ρ' sz' =>
      ex_cls hlt hEV hX htok (cd := cdE0) (sp := spE0) (iT := 10) (by decide +kernel) rfl (by decide) (fun i hi hs => exCh0 hi hs) rfl (by decide +kernel) (by decide +kernel) (by decide +kernel) (by decide +kernel) (Nat.le_of_ble_eq_true rfl) (fun v hv => hav0 v (by
        rcases List.mem_cons.mp hv with h | hv
        · rw [h]; exact List.mem_cons_self
        · refine List.mem_cons_of_mem _ ?_
          exact List.mem_append_left [mR 185] hv)) hok hc0 hall (fun P hstep hthrow => ex_unit hc hstep hthrow)
    have hval : (((0 ≤ u ∧ u < w 4 8) ∧ 0 ≤ what) ∧ what < 5) → in32 (w 11 (u * 5 + what).toNat) := fun _ => hok.lt (h := 11) (by decide) _ (ex_ty (by decide +kernel))
    have kc : Jvm.Cond.codeWith (yM 279) method_3_code 5 (some .int) [(0, 10, 13, 13)] ∈ wsB := hasW_in (q := 6119) (by decide +kernel) rfl
    have m2 : Jvm.Cond.methodLink "ThirdHandsLaw" 7 ex_y0 ∈ wsB := hasW_in (q := 6121) (by decide +kernel) rfl
    have m3 : Jvm.Cond.instanceMethod ex_y0 ∈ wsB := hasW_in (q := 6122) (by decide +kernel) rfl
    have m4 : Jvm.Cond.selects "ThirdHands" ex_y0 ex_y0 ∈ wsB := hasW_in (q := 6123) (by decide +kernel) rfl
    have m5 : Jvm.Cond.code ex_y0 prog_1_method_8_code 3 (some .int) ∈ wsB := hasW_in (q := 6124) (by decide +kernel) rfl
    have hrun := vx_runSW (p := p) (l := l) (e := e) (R := R) (below := below) (meth := meth) (H := H) (locs := locs) (cells := cN n0 w0 186 w) (slots := sN n0 w0 186 w) (g := F0 m pc ls (s9.map (toV ρ))) (rest := (s9.drop na).map (toV ρ)) (As := ([mR 0, mI u, mI what, mR 185] : List MV).map (toV ρ)) ⟨hx, hb, hml, hown, hts⟩ (ex_help3 hEV hX hM hval (y := yM 279) (cc := method_3_code) (idx := 7) (ρ0 := ρ) (sz := H.size) (by decide +kernel) rfl (by decide +kernel) (by decide +kernel) (by decide +kernel) (by decide +kernel) (by decide +kernel) (by decide +kernel) (by decide +kernel) (by decide +kernel) (by decide +kernel) (by decide +kernel) (by decide +kernel) (by decide +kernel) (by decide +kernel) (by decide +kernel) m2 m3 m4 m5 ⟨rfl, by decide, by decide, by decide⟩)
      (vx_cwSW 4 hts (good_cons klink (good_cons kstat (good_cons kini (good_cons kc (fun w q => ⟨q, goodB _ q⟩))))) rfl rfl rfl ⟨y1, y2, by rw [← hna4]; exact y3⟩ ⟨by show 60 + 1 ≤ R.frames; omega, by show 8 + (5 + 11) + 6000 ≤ R.locals; omega⟩)
      ⟨PreU.blind hEV, fun U hU hW => ⟨rfl, hpre U hU hW⟩⟩ rfl rfl hL.size hst0 (lv_room (by rw [catS_eq]; exact hcat)) hdec (hcapx ρ w hE hlt5)
    exact ex_join hA hR hE hpr hrun hpc hlt5 hval ho hno hl hsd hL
  rw [if_neg q279] at hcw
  by_cases q280 : j = 280
  · subst q280
    rw [if_pos rfl] at hcw
    obtain ⟨u, what, hav, hc, hlt5, ho, hno⟩ := hcw
    rw [hav] at hst0 hlen0 hav0
    have hna4 : na = 4 := hlen0.symm
    have hM : ExM l EV b0 D κ ex_y1 prog_1_method_9_code 3 [mI u, mI what] w (((0 ≤ u ∧ u < w 4 11) ∧ 0 ≤ what) ∧ what < 4) (w 13 (u * 4 + what).toNat) := fun ρ' sz' =>
      ex_cls hlt hEV hX htok (cd := cdE1) (sp := spE1) (iT := 10) (by decide +kernel) rfl (by decide) (fun i hi hs => exCh1 hi hs) rfl (by decide +kernel) (by decide +kernel) (by decide +kernel) (by decide +kernel) (Nat.le_of_ble_eq_true rfl) (fun v hv => hav0 v (by
        rcases List.mem_cons.mp hv with h | hv
        · rw [h]; exact List.mem_cons_self
        · refine List.mem_cons_of_mem _ ?_
          exact List.mem_append_left [mR 185] hv)) hok hc0 hall (fun P hstep hthrow => ex_want hc hstep hthrow)
    have hval : (((0 ≤ u ∧ u < w 4 11) ∧ 0 ≤ what) ∧ what < 4) → in32 (w 13 (u * 4 + what).toNat) := fun _ => hok.lt (h := 13) (by decide) _ (ex_ty (by decide +kernel))
    have kc : Jvm.Cond.codeWith (yM 280) method_4_code 5 (some .int) [(0, 10, 13, 13)] ∈ wsB := hasW_in (q := 6188) (by decide +kernel) rfl
    have m2 : Jvm.Cond.methodLink "ThirdHandsLaw" 15 ex_y1 ∈ wsB := hasW_in (q := 6189) (by decide +kernel) rfl
    have m3 : Jvm.Cond.instanceMethod ex_y1 ∈ wsB := hasW_in (q := 6190) (by decide +kernel) rfl
    have m4 : Jvm.Cond.selects "ThirdHands" ex_y1 ex_y1 ∈ wsB := hasW_in (q := 6191) (by decide +kernel) rfl
    have m5 : Jvm.Cond.code ex_y1 prog_1_method_9_code 3 (some .int) ∈ wsB := hasW_in (q := 6192) (by decide +kernel) rfl
    have hrun := vx_runSW (p := p) (l := l) (e := e) (R := R) (below := below) (meth := meth) (H := H) (locs := locs) (cells := cN n0 w0 186 w) (slots := sN n0 w0 186 w) (g := F0 m pc ls (s9.map (toV ρ))) (rest := (s9.drop na).map (toV ρ)) (As := ([mR 0, mI u, mI what, mR 185] : List MV).map (toV ρ)) ⟨hx, hb, hml, hown, hts⟩ (ex_help3 hEV hX hM hval (y := yM 280) (cc := method_4_code) (idx := 15) (ρ0 := ρ) (sz := H.size) (by decide +kernel) rfl (by decide +kernel) (by decide +kernel) (by decide +kernel) (by decide +kernel) (by decide +kernel) (by decide +kernel) (by decide +kernel) (by decide +kernel) (by decide +kernel) (by decide +kernel) (by decide +kernel) (by decide +kernel) (by decide +kernel) (by decide +kernel) m2 m3 m4 m5 ⟨rfl, by decide, by decide, by decide⟩)
      (vx_cwSW 4 hts (good_cons klink (good_cons kstat (good_cons kini (good_cons kc (fun w q => ⟨q, goodB _ q⟩))))) rfl rfl rfl ⟨y1, y2, by rw [← hna4]; exact y3⟩ ⟨by show 60 + 1 ≤ R.frames; omega, by show 8 + (5 + 11) + 6000 ≤ R.locals; omega⟩)
      ⟨PreU.blind hEV, fun U hU hW => ⟨rfl, hpre U hU hW⟩⟩ rfl rfl hL.size hst0 (lv_room (by rw [catS_eq]; exact hcat)) hdec (hcapx ρ w hE hlt5)
    exact ex_join hA hR hE hpr hrun hpc hlt5 hval ho hno hl hsd hL
  rw [if_neg q280] at hcw
  by_cases q281 : j = 281
  · subst q281
    rw [if_pos rfl] at hcw
    obtain ⟨u, what, hav, hc, hlt5, ho, hno⟩ := hcw
    rw [hav] at hst0 hlen0 hav0
    have hna4 : na = 4 := hlen0.symm
    have hM : ExM l EV b0 D κ ex_y2 prog_1_method_21_code 3 [mI u, mI what] w (((0 ≤ u ∧ u < w 28 0) ∧ 0 ≤ what) ∧ what < 3) (if what = 0 then w 29 u.toNat else if what = 1 then w 30 u.toNat else w 31 u.toNat) := fun ρ' sz' =>
      ex_cls hlt hEV hX htok (cd := cdE2) (sp := spE2) (iT := 12) (by decide +kernel) rfl (by decide) (fun i hi hs => exCh2 hi hs) rfl (by decide +kernel) (by decide +kernel) (by decide +kernel) (by decide +kernel) (Nat.le_of_ble_eq_true rfl) (fun v hv => hav0 v (by
        rcases List.mem_cons.mp hv with h | hv
        · rw [h]; exact List.mem_cons_self
        · refine List.mem_cons_of_mem _ ?_
          exact List.mem_append_left [mR 185] hv)) hok hc0 hall (fun P hstep hthrow => ex_act hc hstep hthrow)
    have hval : (((0 ≤ u ∧ u < w 28 0) ∧ 0 ≤ what) ∧ what < 3) → in32 (if what = 0 then w 29 u.toNat else if what = 1 then w 30 u.toNat else w 31 u.toNat) := fun _ => by
        split
        · exact hok.lt (h := 29) (by decide) _ (ex_ty (by decide +kernel))
        · split
          · exact hok.lt (h := 30) (by decide) _ (ex_ty (by decide +kernel))
          · exact hok.lt (h := 31) (by decide) _ (ex_ty (by decide +kernel))
    have kc : Jvm.Cond.codeWith (yM 281) method_5_code 5 (some .int) [(0, 10, 13, 13)] ∈ wsB := hasW_in (q := 6195) (by decide +kernel) rfl
    have m2 : Jvm.Cond.methodLink "ThirdHandsLaw" 18 ex_y2 ∈ wsB := hasW_in (q := 6196) (by decide +kernel) rfl
    have m3 : Jvm.Cond.instanceMethod ex_y2 ∈ wsB := hasW_in (q := 6197) (by decide +kernel) rfl
    have m4 : Jvm.Cond.selects "ThirdHands" ex_y2 ex_y2 ∈ wsB := hasW_in (q := 6198) (by decide +kernel) rfl
    have m5 : Jvm.Cond.code ex_y2 prog_1_method_21_code 3 (some .int) ∈ wsB := hasW_in (q := 6199) (by decide +kernel) rfl
    have hrun := vx_runSW (p := p) (l := l) (e := e) (R := R) (below := below) (meth := meth) (H := H) (locs := locs) (cells := cN n0 w0 186 w) (slots := sN n0 w0 186 w) (g := F0 m pc ls (s9.map (toV ρ))) (rest := (s9.drop na).map (toV ρ)) (As := ([mR 0, mI u, mI what, mR 185] : List MV).map (toV ρ)) ⟨hx, hb, hml, hown, hts⟩ (ex_help3 hEV hX hM hval (y := yM 281) (cc := method_5_code) (idx := 18) (ρ0 := ρ) (sz := H.size) (by decide +kernel) rfl (by decide +kernel) (by decide +kernel) (by decide +kernel) (by decide +kernel) (by decide +kernel) (by decide +kernel) (by decide +kernel) (by decide +kernel) (by decide +kernel) (by decide +kernel) (by decide +kernel) (by decide +kernel) (by decide +kernel) (by decide +kernel) m2 m3 m4 m5 ⟨rfl, by decide, by decide, by decide⟩)
      (vx_cwSW 4 hts (good_cons klink (good_cons kstat (good_cons kini (good_cons kc (fun w q => ⟨q, goodB _ q⟩))))) rfl rfl rfl ⟨y1, y2, by rw [← hna4]; exact y3⟩ ⟨by show 60 + 1 ≤ R.frames; omega, by show 8 + (5 + 11) + 6000 ≤ R.locals; omega⟩)
      ⟨PreU.blind hEV, fun U hU hW => ⟨rfl, hpre U hU hW⟩⟩ rfl rfl hL.size hst0 (lv_room (by rw [catS_eq]; exact hcat)) hdec (hcapx ρ w hE hlt5)
    exact ex_join hA hR hE hpr hrun hpc hlt5 hval ho hno hl hsd hL
  rw [if_neg q281] at hcw
  by_cases q282 : j = 282
  · subst q282
    rw [if_pos rfl] at hcw
    obtain ⟨u, hav, hc, hlt5, ho, hno⟩ := hcw
    rw [hav] at hst0 hlen0 hav0
    have hna4 : na = 3 := hlen0.symm
    have hM : ExM l EV b0 D κ ex_y3 prog_1_method_33_code 2 [mI u] w (0 ≤ u ∧ u < w 140 5) (w 143 u.toNat) := fun ρ' sz' =>
      ex_cls hlt hEV hX htok (cd := cdE3) (sp := spE3) (iT := 7) (by decide +kernel) rfl (by decide) (fun i hi hs => exCh3 hi hs) rfl (by decide +kernel) (by decide +kernel) (by decide +kernel) (by decide +kernel) (Nat.le_of_ble_eq_true rfl) (fun v hv => hav0 v (by
        rcases List.mem_cons.mp hv with h | hv
        · rw [h]; exact List.mem_cons_self
        · refine List.mem_cons_of_mem _ ?_
          exact List.mem_append_left [mR 185] hv)) hok hc0 hall (fun P hstep hthrow => ex_gain hc hstep hthrow)
    have hval : (0 ≤ u ∧ u < w 140 5) → in32 (w 143 u.toNat) := fun _ => hok.lt (h := 143) (by decide) _ (ex_ty (by decide +kernel))
    have kc : Jvm.Cond.codeWith (yM 282) method_6_code 4 (some .int) [(0, 9, 12, 13)] ∈ wsB := hasW_in (q := 6202) (by decide +kernel) rfl
    have m2 : Jvm.Cond.methodLink "ThirdHandsLaw" 21 ex_y3 ∈ wsB := hasW_in (q := 6203) (by decide +kernel) rfl
    have m3 : Jvm.Cond.instanceMethod ex_y3 ∈ wsB := hasW_in (q := 6204) (by decide +kernel) rfl
    have m4 : Jvm.Cond.selects "ThirdHands" ex_y3 ex_y3 ∈ wsB := hasW_in (q := 6205) (by decide +kernel) rfl
    have m5 : Jvm.Cond.code ex_y3 prog_1_method_33_code 2 (some .int) ∈ wsB := hasW_in (q := 6206) (by decide +kernel) rfl
    have hrun := vx_runSW (p := p) (l := l) (e := e) (R := R) (below := below) (meth := meth) (H := H) (locs := locs) (cells := cN n0 w0 186 w) (slots := sN n0 w0 186 w) (g := F0 m pc ls (s9.map (toV ρ))) (rest := (s9.drop na).map (toV ρ)) (As := ([mR 0, mI u, mR 185] : List MV).map (toV ρ)) ⟨hx, hb, hml, hown, hts⟩ (ex_help2 hEV hX hM hval (y := yM 282) (cc := method_6_code) (idx := 21) (ρ0 := ρ) (sz := H.size) (by decide +kernel) rfl (by decide +kernel) (by decide +kernel) (by decide +kernel) (by decide +kernel) (by decide +kernel) (by decide +kernel) (by decide +kernel) (by decide +kernel) (by decide +kernel) (by decide +kernel) (by decide +kernel) (by decide +kernel) (by decide +kernel) m2 m3 m4 m5 ⟨rfl, by decide, by decide, by decide⟩)
      (vx_cwSW 3 hts (good_cons klink (good_cons kstat (good_cons kini (good_cons kc (fun w q => ⟨q, goodB _ q⟩))))) rfl rfl rfl ⟨y1, y2, by rw [← hna4]; exact y3⟩ ⟨by show 60 + 1 ≤ R.frames; omega, by show 8 + (4 + 11) + 6000 ≤ R.locals; omega⟩)
      ⟨PreU.blind hEV, fun U hU hW => ⟨rfl, hpre U hU hW⟩⟩ rfl rfl hL.size hst0 (lv_room (by rw [catS_eq]; exact hcat)) hdec (hcapx ρ w hE hlt5)
    exact ex_join hA hR hE hpr hrun hpc hlt5 hval ho hno hl hsd hL
  rw [if_neg q282] at hcw
  have hcd : cdM j = [] := nthA_out _ _ (by
    have : cdML.length ≤ 283 := by decide +kernel
    omega)
  rw [hcd] at hcw
  exact (hcw.2 (fun _ _ _ _ => False) (fun i l s w hF => hF)).elim
end EXH

/-! THE CLAIM OUT OF ONE WALK OF THE LAW'S BODY. Your part is whole_start (and what it stands on); all else here is the same for every law, but numbers. -/
def R_law : String := "ThirdHandsLaw"
def lw_P (b : Addr) (xs : List Int32) (args : Array Value) (s : State) : Prop := args = #[.ref b] ∧ s.IntsAt b xs ∧ xs.length ≤ 3072 ∧ (Jvm.Cond.and given_1 narrow_1).before args s = true
def lw_Q (_ : Array Value) (s : State) (o : Outcome) (t : State) : Prop := o = .returned (some (.int 1)) ∧ Framed s o t [] 601024 7293034
def lw_Z (below : List Frame) (a : Array Value) (s : State) : State → Prop := fun t => ∃ o, t.status = .running ∧ Ended t below o ∧ lw_Q a s o t
/-- the law's own end, with 1 on the stack, nothing written that was there before, its room as the claim has it -/
theorem lw_ret {p : Program} {l : Launch} {e : Env} {s : State} {m : MethodId} {below : List Frame} {meth : Method} {c : Code} {b : Nat} (hx : p.tables.exec = Jvm.exec) (hb : c.code = code) (hr : meth.sig.returnType = ret) (hlocks : meth.locks = false) {pc : Nat} {H : Heap} {ls : Array Slot} (hdg : decode code pc = .ok (.ireturn, 1)) : W p l e room_1 s m #[Value.ref b] below meth c H [] 601024 7293034 (lw_Z below #[Value.ref b] s) (F0 m pc ls [.int 1]) := by
  intro T hT X
  obtain ⟨fs, hret, hrun, hended, hW, hframe⟩ := X.leave (v := some (.int 1)) (hlocks := hlocks) (fun h => by rw [hr] at h; cases h)
  have hmeth' : T.vm.method? m = some meth := X.method'
  refine ⟨T.setFrames fs, ?_, .returned (some (.int 1)), hrun, hended, rfl, ⟨_, rfl⟩, hW, hframe⟩
  jvm_step X.here [X.here.top, hx, hb, hdg, hmeth', hr, ret, narrow_b1]
  (try refine ⟨rfl, ?_⟩); (try refine ⟨rfl, ?_⟩)
  first | (intro acts; rw [hret _ acts rfl rfl rfl]) | rw [hret _ _ rfl rfl rfl]
  exact Steps.refl _
/-- what holds at the law's entry: the machine, the code, the tables' words (any of lw_tbl by 'hts w (by decide +kernel)'), the script of L ints xs at the cell b, what the Statement gives of the start (any of its parts by flat_of_before) -/
def lw_At (p : Program) (s : State) (m : MethodId) (meth : Method) (c : Code) (b L : Nat) (xs : Nat → Int32) : Prop :=
  p.tables.exec = Jvm.exec ∧ c.code = code ∧ meth.sig.returnType = ret ∧ c.maxLocals = 7 ∧ s.vm.findClass R_law = some m.cls ∧ (∀ w ∈ lw_tbl, w.before #[Value.ref b] s = true) ∧ va_X b L xs s s.heap ∧ b < s.heap.size ∧ meth.locks = false ∧ (Jvm.Cond.and given_1 narrow_1).before #[Value.ref b] s = true
/-! the law from its start (what stands ahead of this row is the skeleton's) -/
def st_pl : List Nat := [2017, 2220, 2047, 2075, 1227, 3033, 2079, 1035, 3054, 1124, 2077, 1027, 6218]
def st_B (k : Nat) : Bool := match vwCl[k]? with
  | some (C, _, N) => hasW (nthA 0 st_pl k) (.instantiable C N)
  | none => true
set_option maxRecDepth 100000 in
theorem st_ok : (List.range 13).all st_B = true := by decide +kernel
theorem st_inst {k : Nat} {C : String} {T : u_T} {N : Nat} (h : vwCl[k]? = some (C, T, N)) : Jvm.Cond.instantiable C N ∈ wsB := by
  have h1 := List.all_eq_true.mp st_ok k (List.mem_range.mpr (cl_lt h))
  unfold st_B at h1
  rw [h] at h1
  exact hasW_in h1 rfl
theorem st_K {s : State} {args : Array Value} (hts : ∀ w ∈ wsB, w.before args s = true) (hAO : va_AO RX2 s) : ∃ (D : va_G) (κ : Nat → ClassId), va_K D vwCl (tysO κ) s := by
  have h1 : ∀ c : Nat, ∃ z : ClassId × (Nat → Nat), ∀ q : vw_C, vwCl[c]? = some q → u_Kn s q.1 q.2.1 q.2.2 z.1 z.2 := by
    intro c
    cases e : vwCl[c]? with
    | none => exact ⟨(0, fun _ => 0), fun q h => by cases h⟩
    | some q =>
      obtain ⟨C, T, N⟩ := q
      obtain ⟨cC, iS, hk⟩ := u_known (C := C) (T := T) (N := N) (n := N) hts (lay_in e) (hts _ (st_inst e))
      exact ⟨(cC, iS), fun q h => by cases h; exact hk⟩
  obtain ⟨f, hf⟩ := Classical.axiomOfChoice h1
  obtain ⟨c0, k0, p0, a1, a2, a3⟩ := Cond.arrayClass_spec (hts (.arrayClass .int) (hasW_in (q := 1121) (by decide +kernel) rfl))
  obtain ⟨c1, k1, p1, b1, b2, b3⟩ := Cond.arrayClass_spec (hts (.arrayClass .long) (hasW_in (q := 2184) (by decide +kernel) rfl))
  obtain ⟨c2, k2, p2, d1, d2, d3⟩ := Cond.arrayClass_spec (hts (.arrayClass .byte) (hasW_in (q := 1122) (by decide +kernel) rfl))
  obtain ⟨c3, k3, p3, e1, e2, e3⟩ := Cond.arrayClass_spec (hts (.arrayClass .boolean) (hasW_in (q := 8007) (by decide +kernel) rfl))
  obtain ⟨p4, c4, k4, g1, g2, g3, g4, g5⟩ := Cond.arrayOver_spec hAO
  refine ⟨(fun c => (f c).1, fun c => (f c).2), fun k => if k = 20 then c0 else if k = 21 then c1 else if k = 22 then c2 else if k = 23 then c3 else c4, fun c q h => hf c q h, fun k q h => ?_⟩
  match k, h with
  | 0, h => cases h; exact ⟨fun n z => ⟨fun k h => (by cases h), k0, a2, p0, a3⟩, a1⟩
  | 1, h => cases h; exact ⟨fun n z => ⟨fun k h => (by cases h), k1, b2, p1, b3⟩, b1⟩
  | 2, h => cases h; exact ⟨fun n z => ⟨fun k h => (by cases h), k2, d2, p2, d3⟩, d1⟩
  | 3, h => cases h; exact ⟨fun n z => ⟨fun k h => (by cases h), k3, e2, p3, e3⟩, e1⟩
  | 4, h => cases h; exact ⟨fun n z => ⟨fun k h => (by cases h), k4, g3, p4, g4⟩, k4, p4, g3, g4, g1, g5⟩
  | k + 5, h => cases h
def stT : Term := .string "ThirdHands$Tokens" 18
def stV : Term := .field stT "java/lang/String" "value" "[B"
def stF : List Jvm.Cond := flatC (Jvm.Cond.and given_1 narrow_1)
set_option maxRecDepth 100000 in
theorem st_f1 : ∀ w ∈ ([.eq (.static "java/lang/String" "COMPACT_STRINGS" "Z") (.int 1), .isRef (.static "jdk/internal/util/Preconditions" "SIOOBE_FORMATTER" "Ljava/util/function/BiFunction;"), .isRef (.static Bundle.tN "UNASSIGNED_STACK" Bundle.steD), .isRef (.static Bundle.tN "SUPPRESSED_SENTINEL" Bundle.listD), .exactly stT "java/lang/String", .eq (.field stT "java/lang/String" "coder" "B") (.int 0), .arrayOf stV .byte, .eq (.length stV) (.int (Int32.ofNat 82))] : List Jvm.Cond), w ∈ stF := by decide +kernel
set_option maxRecDepth 100000 in
theorem st_f2 : ∀ j : Nat, j < 82 → Jvm.Cond.eq (.elem stV (.int (Int32.ofNat j))) (.int ((tkBs.getD 0 []).getD j 0)) ∈ stF := by decide +kernel
theorem st_mem {k q : Nat} {w : Jvm.Cond} (h : (segW k)[q]? = some w) : w ∈ lw_tbl := seg_in k w (List.mem_of_getElem? h)
theorem st_text {s : State} {args : Array Value} (hts : ∀ w ∈ lw_tbl, w.before args s = true) (hf : ∀ w ∈ stF, w.before args s = true) : ∃ k v : Nat, tkEV s.heap.size k v s ∧ exZ s.heap.size s := by
  have hA : ∀ a : Nat, a < s.heap.size → ¬ (fun q : Nat => s.heap.size ≤ q) a := fun a h => Nat.not_le.mpr h
  have g := fun w hw => hf w (st_f1 w hw)
  obtain ⟨adK, adV, hS, hev⟩ := vk_Sof (args := args) (s := s) (N := 1) (tm := fun _ => stT) (len := tkL) (byt := tkBs) (A := fun q : Nat => s.heap.size ≤ q)
    (fun i hi => by have : i = 0 := by omega
                    subst this; decide)
    (fun i hi => g _ (by decide +kernel)) (fun i hi => g _ (by decide +kernel)) (fun i hi => g _ (by decide +kernel))
    (fun i hi => by have : i = 0 := by omega
                    subst this; exact g _ (by decide +kernel))
    (fun i hi j hj => by have : i = 0 := by omega
                         subst this; exact hf _ (st_f2 j hj))
    (fun i j hi hj hij => absurd (show i = j by omega) hij) hA
  refine ⟨adK 0, adV 0, ⟨⟨?_, ?_, fun i hi => ?_, fun i j hi hj _ => by omega⟩, ?_⟩, ?_, ?_, ?_⟩
  · exact va_Zof (hts _ (st_mem (k := 1) (q := 50) (by decide +kernel))) (hts _ (st_mem (k := 1) (q := 3) (by decide +kernel))) (va_eqt (g _ (by decide +kernel))) hA
  · exact va_Zqof (hts _ (st_mem (k := 1) (q := 66) (by decide +kernel))) (hts _ (st_mem (k := 1) (q := 5) (by decide +kernel))) (g _ (by decide +kernel)) hA
  · have : i = 0 := by omega
    subst this
    exact hS.1 0 hi
  · exact vk_R.of (hts _ (st_mem (k := 1) (q := 40) (by decide +kernel))) (hev 0 (by decide))
  · exact vx_Zqof (hts _ (st_mem (k := 6) (q := 152) (by decide +kernel))) (hts _ (st_mem (k := 1) (q := 21) (by decide +kernel))) (g _ (by decide +kernel)) hA
  · exact vx_Zqof (hts _ (st_mem (k := 6) (q := 154) (by decide +kernel))) (hts _ (st_mem (k := 1) (q := 21) (by decide +kernel))) (g _ (by decide +kernel)) hA
  · intro w hw
    rcases List.mem_cons.mp hw with rfl | hw
    · exact va_Nw.of rfl (hts _ (st_mem (k := 6) (q := 127) (by decide +kernel)))
    rcases List.mem_cons.mp hw with rfl | hw
    · exact va_Nw.of rfl (hts _ (st_mem (k := 6) (q := 128) (by decide +kernel)))
    rcases List.mem_cons.mp hw with rfl | hw
    · exact va_Nw.of rfl (hts _ (st_mem (k := 6) (q := 130) (by decide +kernel)))
    rcases List.mem_cons.mp hw with rfl | hw
    · exact va_Nw.of rfl (hts _ (st_mem (k := 6) (q := 132) (by decide +kernel)))
    · cases hw
def st_w (xs : Nat → Int32) (L : Nat) : Wd := fun h j => if h = 400 then (xs j).toInt else if h = 401 ∧ j = 2 then (L : Int) else 0
theorem st_SL : SL 186 ≤ 50000 := by decide +kernel
set_option maxRecDepth 100000 in
set_option maxHeartbeats 8000000 in
theorem whole_start {p : Program} {e : Env} {s : State} {m : MethodId} {below : List Frame} {meth : Method} {c : Code} (l : Launch) (hflags : l.flags = flags0) {b L : Nat} {xs : Nat → Int32} (hL : L ≤ 3072) (C0 : lw_At p s m meth c b L xs) : W p l e room_1 s m #[Value.ref b] below meth c s.heap [] 0 0 (lw_Z below #[Value.ref b] s) (entryFrame m ([Value.ref b] : List Value).toArray 7) := by
  obtain ⟨hx, hb, hr, hml, hown, hts, hX, hbl, hlocks, hgv⟩ := id C0
  have hlt : l.stackTraces = false := by
    unfold Launch.stackTraces
    rw [hflags]
    decide +kernel
  have htsB : ∀ w ∈ wsB, w.before #[Value.ref b] s = true := fun w hw => hts w (List.mem_filter.mp hw).1
  have hAO : va_AO RX2 s := va_AO.of (hts (.arrayOver (.object RX2)) (st_mem (k := 2) (q := 46) (by decide +kernel)))
  obtain ⟨D, κ, hK⟩ := st_K htsB hAO
  obtain ⟨k, v, hTk, hZ⟩ := st_text hts (flat_of_before _ hgv)
  have hnest : ∀ x ∈ nestL, va_Nw x s := fun x hx => by
    have h1 : x ∈ lw_tbl := List.mem_append_right _ (List.mem_filter.mp hx).1
    have h2 := hts x h1
    obtain ⟨a9, i9, y9, b9, rfl⟩ := nest_is hx
    exact va_Nw.of rfl h2
  have hEV : EvOK (fun U => tkEV s.heap.size k v U ∧ exZ s.heap.size U) s.heap.size := fun s1 U h hq hW => ⟨tkEV_ok s1 U h.1 hq hW, exZ_ok s1 U h.2 hq hW⟩
  have hXx : ∀ U, (tkEV s.heap.size k v U ∧ exZ s.heap.size U) → exZ s.heap.size U := fun U h => h.2
  have htok : TokMet l (fun U => tkEV s.heap.size k v U ∧ exZ s.heap.size U) s.heap.size D κ := tok_met hEV (fun U h => h.1)
  have hA : ∀ q : Nat, s.heap.size ≤ q → (fun q : Nat => s.heap.size ≤ q) q := fun _ h => h
  have hFr : FrJ p s m #[Value.ref b] meth c code "ThirdHandsLaw" "law" 7 := ⟨hx, hb, hml, hown, htsB, fun q => absurd q (by decide), hnest, hAO⟩
  have hw1 : st_w xs L 401 1 = 0 := rfl
  have hw2 : st_w xs L 401 2 = (L : Int) := rfl
  have h512 : ∀ ρ n w, Ex (2, 2, 186) 0 (st_w xs L) (fun _ => b) ρ n w → w 401 1 ≤ 512 := fun ρ n w hE => (hE.2.2.2.2.2.2.2.2.2 rfl).1
  have hs186 : ∀ n, n ≤ 186 → SL n ≤ 50000 := fun n hn => Nat.le_trans (SL_mono n 186 hn) st_SL
  have hcN : ∀ n w, n ≤ 186 → w 401 1 ≤ 512 → cN 0 (st_w xs L) n w ≤ 698 ∧ sN 0 (st_w xs L) n w ≤ 53072 := fun n w hn h5 => by
    have := hs186 n hn
    unfold cN sN
    rw [hw1]
    refine ⟨by omega, ?_⟩
    show SL n - 0 + _ ≤ _
    omega
  have hstep := sim_step (EV := fun U => tkEV s.heap.size k v U ∧ exZ s.heap.size U) (b0 := s.heap.size) (l := l) (R := room_1) (e := e) (below := below) (Z := lw_Z below #[Value.ref b] s) (A := fun q : Nat => s.heap.size ≤ q) (cd := cd_law) (pr := (2, 2, 186)) (n0 := 0) (w0 := st_w xs L) (ρ0 := fun _ => b) (cw := Cw 30) (Q := fun r _ => r = mI 1)
    hFr hK hA ck_law_all
    (fun ρ n w hE hn => ⟨Nat.le_trans (hcN n w hn (h512 ρ n w hE)).1 (by decide), Nat.le_trans (hcN n w hn (h512 ρ n w hE)).2 (by decide)⟩)
    ⟨by decide, by decide⟩
    (fun _ => ⟨L, xs, hX, hbl, Nat.not_le.mpr hbl, rfl, hL, fun j _ => rfl⟩)
    (fun _ => by decide)
    (fun ρ n w j hE _ hn _ => by
      have h5 := h512 ρ n w hE
      have h1 := hcN n w (by omega) h5
      have h2 := hs186 (n + nAl j) hn
      refine ⟨?_, ?_⟩
      · show _ ≤ 601024
        have : nAl j ≤ 186 := by omega
        omega
      · show _ ≤ 7293034
        omega)
    hEV ⟨hTk, hZ⟩ (Nat.le_refl _) (fun q h => h)
    (met_all hEV ckAll htok 30 room_1 (by decide) (by decide))
    (lw_hext hlt hEV hXx htok hFr hK hA ⟨hTk, hZ⟩ (Nat.le_refl _) (fun q h => h) (fun ρ w hE h5 => by
      have h1 := hcN 186 w (by omega) (by omega)
      refine ⟨?_, ?_⟩
      · show _ ≤ 601024
        omega
      · show _ ≤ 7293034
        omega) (by decide) (by decide))
    (fun ρ n w H locs vv pc ls ins hR hE hov hQ hdec hro hls => by
      have hc := hcN n w hR.2.2.2.2.1 (h512 ρ n w hE)
      subst hQ
      refine va_forget (fun q hq => hR.2.2.1.2.2 q hq) ?_
      refine W.widen (k := 601024) (n := 7293034) (by omega) (by omega) ?_
      rcases hro with ⟨h0, -, -⟩ | ⟨x, hvx, rfl, -⟩ | ⟨x, hvx, -, -⟩ | ⟨g, hvx, -, -⟩
      · cases h0
      · exact lw_ret hx hb hr hlocks hdec
      · cases hvx
      · cases hvx)
  have hPP := lw_start (N := L) (Q := fun r _ => r = mI 1) (W := st_w xs L) hL (fun _ => rfl) ⟨fun h h1 h2 i => by
    show (if h = 400 then _ else if h = 401 ∧ i = 2 then _ else (0 : Int)) = 0
    rw [if_neg h1, if_neg (fun q => h2 q.1)], rfl⟩ rfl rfl _ hstep
  have hl := lv_entry ([mR 400].map (toV (fun _ => b))) (n := 7) (Nat.le_of_ble_eq_true rfl)
  rw [lg_entry_eq]
  have hW := hPP (fun _ => b) 0 s.heap [] _ ⟨fun k q h => by simp [wsO] at h, ⟨fun i j x y h => by simp [wsO] at h, fun k q h => by simp [wsO] at h⟩, va_S.rf, fun h j hh => absurd hh (Nat.not_lt_zero _), by decide, rfl, fun q => absurd q (by decide)⟩
    ⟨Nat.le_refl _, fun _ _ => rfl, rfl, rfl, rfl, Int.le_refl _, fun _ => rfl, fun z => absurd z (by decide), fun _ => by decide, fun _ => ⟨by rw [hw1]; decide, rfl⟩⟩ (mkLoc_ok (mx := 7) (List.forall_mem_cons.mpr ⟨Or.inr rfl, fun v hv => by cases hv⟩)) (fun v hv => by cases hv) ⟨_, hl, fun i v hiv => by
      have := args_at (fun _ => b) [mR 400] 0 i v (7 - (fArgs [mR 400]).length) hiv
      rwa [Nat.zero_add] at this⟩
  have z1 : cN 0 (st_w xs L) 0 (st_w xs L) = 0 := by unfold cN; rw [hw1]; rfl
  have z2 : sN 0 (st_w xs L) 0 (st_w xs L) = 0 := by unfold sN; rw [hw1]; rfl
  rw [z1, z2] at hW
  exact hW

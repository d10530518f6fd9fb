
/-! the constructor of Tokens over the machine -/
def tkTx : String := "who of asks sort makes with wants by gives law any first once towns give use wait "
def tkEV (b k v : Nat) (U : State) : Prop := tk_S k v (fun q => b ≤ q) U ∧ vk_R "ThirdHands$Tokens" 18 tkTx k U
theorem tkEV_ok {b k v : Nat} : EvOK (tkEV b k v) b := fun s U h hq hW =>
  ⟨tk_S.kept (fun a _ hn => hq a (by omega)) hW.alike h.1, vk_R.warm hW h.2⟩
theorem tk_cells {b k v : Nat} {A : Nat → Prop} {s : State} {H : Heap} {locs : List Loc} (hAb : ∀ q, A q → b ≤ q) (hS : va_S A s.heap H locs) (h : tk_S k v (fun q => b ≤ q) s) :
    (∀ U : State, U.heap = H → s.WarmedH U.vm → tk_S k v tkA U) ∧ ∃ cell : Cell, H[k]? = some cell ∧ cell.vm.isStatics = false ∧ s.vm.findClass "java/lang/String" = some cell.cls := by
  have hq : ∀ a : Nat, a < s.heap.size → ¬ (b ≤ a) → H[a]? = s.heap[a]? := fun a h1 h2 => hS.2.1 a h1 (fun q => h2 (hAb a q))
  refine ⟨fun U hU hW => tk_S.narrow (A := fun q => b ≤ q) (fun q z => z.elim) (tk_S.kept (fun a h1 h2 => by rw [hU]; exact hq a h1 h2) hW.alike h), ?_⟩
  obtain ⟨cell, h1, h2, h3, -⟩ := (h.2.2.1 0 (by decide)).1.kept hq
  exact ⟨cell, h1, h2, h3⟩
theorem tk_82 : in32 82 := by unfold in32; omega
theorem tk_in : ∀ j : Nat, j < 82 → in32 (tkC j) := by
  have h : ∀ j : Nat, j < 82 → -2147483648 ≤ tkC j ∧ tkC j < 2147483648 := by decide +kernel
  exact h
section TKS
variable {p : Program} {l : Launch} {e : Env} {R : Room} {s : State} {m : MethodId} {args : Array Value} {below : List Frame} {meth : Method} {c : Code} {Z : State → Prop} {D : va_G} {κ : Nat → ClassId} {A : Nat → Prop} {cc : ByteArray} {nm : String} {cd : List Ent} {pr : Pr} {mx n0 : Nat} {w0 : Wd} {ρ0 : Nat → Nat}
theorem tk_sLen {b k v : Nat} (hFr : FrJ p s m args meth c cc "ThirdHands$Tokens" nm mx) (hE0 : tkEV b k v s) (hAb : ∀ q, A q → b ≤ q)
    (hcap : ∀ ρ n w, Ex pr n0 w0 ρ0 ρ n w → n ≤ 186 → cN n0 w0 n w ≤ R.cells ∧ sN n0 w0 n w ≤ R.slots) (hrm : 5 ≤ R.frames ∧ 1000 ≤ R.locals) {i : Nat}
    (h1 : decode cc (pcOf cd i) = .ok (.ldc 18, 2)) (h2 : decode cc (pcOf cd i + 2) = .ok (.invokevirtual 20, 3)) (h3 : pcOf cd (i + 2) = pcOf cd i + 2 + 3) {l9 s9 : List MV} {w : Wd} (hc : catS s9 ≤ 8)
    (hF : PP p l e R s m args below meth c Z D κ A cd pr mx n0 w0 ρ0 (i + 2) l9 (mI 82 :: s9) w) : PP p l e R s m args below meth c Z D κ A cd pr mx n0 w0 ρ0 i l9 s9 w := by
  intro ρ n H locs ls hR hE hl hs hL
  obtain ⟨hx, hb, hml, hown, hts, hin, hnest, hAO⟩ := id hFr
  obtain ⟨hP, hD, hS, hok, hn, hn0, hall⟩ := id hR
  obtain ⟨hpre, hcell⟩ := tk_cells hAb hS hE0.1
  have hcp := hcap ρ n w hE hn
  have k2 : Jvm.Cond.methodLink "ThirdHands$Tokens" 20 tk_y5 ∈ wsB := hasW_in (q := 1041) (by decide +kernel) rfl
  have k3 : Jvm.Cond.instanceMethod tk_y5 ∈ wsB := hasW_in (q := 1042) (by decide +kernel) rfl
  have k4 : Jvm.Cond.selects "java/lang/String" tk_y5 tk_y5 ∈ wsB := hasW_in (q := 1043) (by decide +kernel) rfl
  have k6 : Jvm.Cond.initialized "java/lang/String" ∈ wsB := hasW_in (q := 1003) (by decide +kernel) rfl
  have k5 : Jvm.Cond.code tk_y5 prog_22_method_54_code 1 (some .int) ∈ wsB := hasW_in (q := 1044) (by decide +kernel) rfl
  refine va_ldcS hx hb hown hE0.2 h1 ?_
  refine tk_call (rest := s9.map (toV ρ)) (a := ([.ref k] : List Value).toArray) (va_runV (C := "java/lang/String") (index := 20) (b := k) (As := []) ⟨hx, hb, hml, hown, hts⟩ (tk_len (k := k) (v := v)) (cwV 0 hts (good_cons k2 (good_cons k3 (good_cons k4 (good_cons k6 (tk_good k5))))) rfl rfl rfl ⟨rfl, by decide, by decide, by decide⟩ ⟨by show 2 + 1 ≤ R.frames; omega, by show 8 + (1 + 11) + 100 * 2 ≤ R.locals; omega⟩) ⟨tk_blind, hcell, fun U hU hW => ⟨rfl, hpre U hU hW⟩⟩ rfl rfl hL.size rfl (lv_room (by rw [catS_eq]; exact hc)) h2 hcp) ?_
  rw [← h3]
  exact hF ρ n H locs ls hR hE hl (List.forall_mem_cons.mpr ⟨tk_82, hs⟩) hL
theorem tk_sCh {b k v : Nat} (hFr : FrJ p s m args meth c cc "ThirdHands$Tokens" nm mx) (hE0 : tkEV b k v s) (hAb : ∀ q, A q → b ≤ q)
    (hcap : ∀ ρ n w, Ex pr n0 w0 ρ0 ρ n w → n ≤ 186 → cN n0 w0 n w ≤ R.cells ∧ sN n0 w0 n w ≤ R.slots) (hrm : 5 ≤ R.frames ∧ 1000 ≤ R.locals) {i j : Nat} (hj : j < 82)
    (h1 : decode cc (pcOf cd i) = .ok (.ldc 18, 2)) (h1a : decode cc (pcOf cd i + 2) = .ok (.iload 4, 2)) (h2 : decode cc (pcOf cd i + 2 + 2) = .ok (.invokevirtual 26, 3)) (h3 : pcOf cd (i + 3) = pcOf cd i + 2 + 2 + 3) {l9 s9 : List MV} {w : Wd} (hc : catS s9 ≤ 8) (h4 : nthA none l9 4 = mI (j : Int))
    (hF : PP p l e R s m args below meth c Z D κ A cd pr mx n0 w0 ρ0 (i + 3) l9 (mI (tkC j) :: s9) w) : PP p l e R s m args below meth c Z D κ A cd pr mx n0 w0 ρ0 i l9 s9 w := by
  intro ρ n H locs ls hR hE hl hs hL
  obtain ⟨hx, hb, hml, hown, hts, hin, hnest, hAO⟩ := id hFr
  obtain ⟨hP, hD, hS, hok, hn, hn0, hall⟩ := id hR
  obtain ⟨hpre, hcell⟩ := tk_cells hAb hS hE0.1
  have hcp := hcap ρ n w hE hn
  have k2 : Jvm.Cond.methodLink "ThirdHands$Tokens" 26 tk_y6 ∈ wsB := hasW_in (q := 1051) (by decide +kernel) rfl
  have k3 : Jvm.Cond.instanceMethod tk_y6 ∈ wsB := hasW_in (q := 1052) (by decide +kernel) rfl
  have k4 : Jvm.Cond.selects "java/lang/String" tk_y6 tk_y6 ∈ wsB := hasW_in (q := 1053) (by decide +kernel) rfl
  have k6 : Jvm.Cond.initialized "java/lang/String" ∈ wsB := hasW_in (q := 1003) (by decide +kernel) rfl
  have k5 : Jvm.Cond.code tk_y6 prog_22_method_56_code 2 (some .char) ∈ wsB := hasW_in (q := 1054) (by decide +kernel) rfl
  refine va_ldcS hx hb hown hE0.2 h1 ?_
  refine lv_iload hx hb h1a (hL.at h4) ?_
  refine tk_call (rest := s9.map (toV ρ)) (a := ([.ref k, .int (Int32.ofInt (j : Int))] : List Value).toArray) (va_runV (C := "java/lang/String") (index := 26) (b := k) (As := [.int (Int32.ofInt (j : Int))]) ⟨hx, hb, hml, hown, hts⟩ (tk_charAt (k := k) (v := v) hj) (cwV 1 hts (good_cons k2 (good_cons k3 (good_cons k4 (good_cons k6 (tk_good k5))))) rfl rfl rfl ⟨rfl, by decide, by decide, by decide⟩ ⟨by show 4 + 1 ≤ R.frames; omega, by show 8 + (2 + 11) + 100 * 4 ≤ R.locals; omega⟩) ⟨tk_blind, hcell, fun U hU hW => ⟨rfl, hpre U hU hW⟩⟩ rfl rfl hL.size rfl (lv_room (by rw [catS_eq]; exact hc)) h2 hcp) ?_
  rw [← h3]
  exact hF ρ n H locs ls hR hE hl (List.forall_mem_cons.mpr ⟨tk_in j hj, hs⟩) hL
end TKS
def tkCk : Bool := (List.range 51).all (fun i => decide (i ∈ tkSp) || chkE (yM 1).cls (yM 1).name (bM 1) (mxM 1) cdT (nthA nE cdT i) (pcOf cdT (i + 1)))
set_option maxRecDepth 100000 in
theorem tkCk_ok : tkCk = true := by decide +kernel
theorem tk_chk1 {i : Nat} (hi : i < cdT.length) (hs : ¬ i ∈ tkSp) : chkE (yM 1).cls (yM 1).name (bM 1) (mxM 1) cdT (nthA nE cdT i) (pcOf cdT (i + 1)) = true := by
  have h := List.all_eq_true.mp tkCk_ok i (List.mem_range.mpr hi)
  rw [Bool.or_eq_true, decide_eq_true_eq] at h
  exact h.resolve_left hs
set_option maxRecDepth 100000 in
set_option maxHeartbeats 4000000 in
theorem tok_met {l : Launch} {b k v : Nat} {EV : State → Prop} (hEV : EvOK EV b) (hTk : ∀ U, EV U → tkEV b k v U) {D : va_G} {κ : Nat → ClassId} : TokMet l EV b D κ := by
  intro ρ0 w Qc sz hext hok hc0
  obtain ⟨-, h3, hq⟩ := hext
  refine Met.ofW (cc := bM 1) (maxL := mxM 1) (ret := rtM 1) (by decide +kernel) rfl ?_
  intro p e s m args below meth c s₁ B hml hv
  obtain ⟨rfl, ⟨hEs, hbsz, hbρ⟩, hsz, hP, hK, hD0, hnest, hAO⟩ := hv
  subst hsz
  have hx := B.exec
  have hts0 := atoms_spec (ws := wsM 1) B.pre
  have hts : ∀ w ∈ wsB, w.before (([mR 2, mR 1].map (toV ρ0)).toArray) s = true := fun w hw => hts0 w (List.mem_cons_of_mem _ hw)
  have hown : s.vm.findClass (yM 1).cls = some m.cls := findClass_of_methodNamed B.named
  have hnm : meth.name = (yM 1).name := (name_of_methodNamed B.named B.method).1
  have hFr : FrJ p s m (([mR 2, mR 1].map (toV ρ0)).toArray) meth c (bM 1) "ThirdHands$Tokens" "<init>" (mxM 1) := ⟨hx, B.bytes, hml, hown, hts, fun q => by rw [hnm]; rfl, hnest, hAO⟩
  have hD : va_D (AAf ρ0 3 s.heap.size) (wsO κ ρ0 w 3) := ⟨hD0.1, fun k q hq => by
    have hk : k < 3 := by
      have := (List.getElem?_eq_some_iff.mp hq).1
      simpa [wsO] using this
    rw [wsO_at hk] at hq
    cases hq
    exact Or.inl ⟨k, hk, rfl⟩⟩
  have hAb : ∀ q, AAf ρ0 3 s.heap.size q → b ≤ q := fun q h => by
    rcases h with ⟨g, hg, rfl⟩ | h
    · exact hbρ g hg
    · exact Nat.le_trans hbsz h
  have hnle : ∀ ρ n w', Ex (0, 1, 4) 3 w ρ0 ρ n w' → n ≤ 4 ∧ 3 ≤ n ∧ w' 401 1 = w 401 1 := by
    intro ρ n w' hE
    obtain ⟨e1, e2, e3, e4, e5, e6, e7, e8, e9, e10⟩ := hE
    refine ⟨?_, e1, e7 (by decide)⟩
    have h9 : (n : Int) ≤ 4 := e9 (by decide)
    omega
  have hcap : ∀ ρ n w', Ex (0, 1, 4) 3 w ρ0 ρ n w' → n ≤ 186 → cN 3 w n w' ≤ 1 ∧ sN 3 w n w' ≤ SL 4 - SL 3 := by
    intro ρ n w' hE hn'
    obtain ⟨q1, q2, q3⟩ := hnle ρ n w' hE
    refine ⟨?_, ?_⟩
    · unfold cN; rw [q3]; omega
    · unfold sN; rw [q3]
      have := SL_mono n 4 q1
      omega
  have hstep : ∀ i, ¬ i ∈ tkSp → ∀ l9 s9 w', F (fun _ _ _ _ => False) cdT (0, 1, 4) (fun v w' => w' 401 0 = 4 ∧ Qc v w') (PP p l e (headSpec (wsM 1) (rmD 20 1 (SL 4 - SL 3))).room s m (([mR 2, mR 1].map (toV ρ0)).toArray) below meth c (MQ below (QcU D κ ρ0 3 w s.heap.size (rkM 1) 1 Qc) (([mR 2, mR 1].map (toV ρ0)).toArray) s 1 (SL 4 - SL 3) (AAf ρ0 3 s.heap.size)) D κ (AAf ρ0 3 s.heap.size) cdT (0, 1, 4) (mxM 1) 3 w ρ0) i l9 s9 w' →
      PP p l e (headSpec (wsM 1) (rmD 20 1 (SL 4 - SL 3))).room s m (([mR 2, mR 1].map (toV ρ0)).toArray) below meth c (MQ below (QcU D κ ρ0 3 w s.heap.size (rkM 1) 1 Qc) (([mR 2, mR 1].map (toV ρ0)).toArray) s 1 (SL 4 - SL 3) (AAf ρ0 3 s.heap.size)) D κ (AAf ρ0 3 s.heap.size) cdT (0, 1, 4) (mxM 1) 3 w ρ0 i l9 s9 w' := by
    intro i hi
    refine sim_at (EV := EV) (b0 := b) hFr hK (fun q h => Or.inr h) i (fun hlt => tk_chk1 hlt hi) hcap ⟨by show 300 ≤ 100 * 20; omega, by show 1 ≤ 20; omega⟩ ?_ ?_ ?_ hEV hEs hbsz hAb ?_ ?_ ?_
    · intro z; exact absurd z (by decide)
    · intro z; show (4 : Int) ≤ 186; decide
    · intro ρ n w' j' hE hz hn' hlim
      obtain ⟨q1, q2, q3⟩ := hnle ρ n w' hE
      have hlim' : n + nAl j' ≤ 4 := by
        have : (n : Int) + (nAl j' : Int) ≤ 4 := hlim
        omega
      refine ⟨?_, ?_⟩
      · show cN 3 w n w' + nAl j' ≤ 1
        unfold cN; rw [q3]; omega
      · show sN 3 w n w' + (SL (n + nAl j') - SL n) ≤ SL 4 - SL 3
        unfold sN; rw [q3]
        have := SL_mono (n + nAl j') 4 hlim'
        have := SL_mono n (n + nAl j') (by omega)
        have := SL_mono 3 n q2
        omega
    · intro j argv w Qc _ h; exact h.elim
    · intro j' na idx na2 s9 l9 w' i ρ n H locs ls pc z
      exact absurd z (by decide)
    · intro ρ n w' H locs v pc ls ins hR hE hov hQ hdec hro hls
      obtain ⟨q1, q2, q3⟩ := hnle ρ n w' hE
      obtain ⟨rP, rD, rS, rok, rn, rc, rall⟩ := id hR
      obtain ⟨e1, e2, e3, e4, e5, e6, e7, e8, e9, e10⟩ := id hE
      have hne : n = 4 := by
        have h9 := hQ.1
        rw [rc] at h9
        omega
      subst hne
      have hQ := hQ.2
      have hb := B.bytes
      have hlk := B.notSynchronized
      refine W.widen (k := 1) (n := SL 4 - SL 3) (by unfold cN; rw [q3]; omega) (by unfold sN; rw [q3]; omega) ?_
      have hr := B.returns
      rcases hro with ⟨rfl, rfl, hk⟩ | ⟨x, rfl, rfl, hk⟩ | ⟨x, rfl, rfl, hk⟩ | ⟨g, rfl, rfl, hk⟩
      · exact W.vret hx hb (hr.trans rfl) (fun t ht hW => ⟨⟨none, ρ, w', rfl, hQ, hov, ⟨fun _ => rfl, fun _ => rfl⟩, e2, e3, by rw [ht]; exact rP, va_K.moved hW.alike hK, rD, rok, rc, rall, e4, q3, e5⟩, rS.F ht⟩) rS.2.2 hdec
      · rcases hk with hk | ⟨hk, -⟩ <;> exact absurd hk (by decide)
      · exact absurd hk (by decide)
      · exact absurd hk (by decide)
  have hrm : 5 ≤ (headSpec (wsM 1) (rmD 20 1 (SL 4 - SL 3))).room.frames ∧ 1000 ≤ (headSpec (wsM 1) (rmD 20 1 (SL 4 - SL 3))).room.locals := ⟨by show 5 ≤ 20; omega, by show 1000 ≤ 100 * 20; omega⟩
  have hrun := tk_run h3 hstep
    (fun l9 s9 w9 hc hF => tk_sLen (i := 16) hFr (hTk _ hEs) hAb hcap hrm (by decide +kernel) (by decide +kernel) rfl hc hF)
    (fun l9 s9 w9 j hj hc h4 hF => tk_sCh (i := 22) hFr (hTk _ hEs) hAb hcap hrm hj (by decide +kernel) (by decide +kernel) (by decide +kernel) rfl hc h4 hF)
    (fun l9 s9 w9 j hj hc h4 hF => tk_sCh (i := 39) hFr (hTk _ hEs) hAb hcap hrm hj (by decide +kernel) (by decide +kernel) (by decide +kernel) rfl hc h4 hF)
    ⟨by show tokW w 401 0 = 4; show mkNew w 401 0 = 4; rw [mkNew_c (n := 3) h3 (by decide), if_pos rfl]; rfl, hq⟩
  have hl := lv_entry ([mR 2, mR 1].map (toV ρ0)) (n := mxM 1) (by rw [fArgs_len]; decide +kernel)
  rw [lg_entry_eq]
  have hav : ∀ v ∈ ([mR 2, mR 1] : List MV), okV 3 v := List.forall_mem_cons.mpr ⟨Or.inl (by decide), List.forall_mem_cons.mpr ⟨Or.inl (by decide), fun v hv => by cases hv⟩⟩
  have hall : ((3 : Nat) = 186 → allSet w) := fun q => absurd q (by decide)
  have hW := hrun ρ0 3 s.heap [] _ ⟨hP, hD, va_S.rf, hok, by decide, hc0, hall⟩ ⟨Nat.le_refl _, fun _ _ => rfl, rfl, rfl, rfl, Int.le_refl _, fun _ => rfl, fun z => absurd z (by decide), fun _ => by decide, fun z => absurd z (by decide)⟩ (mkLoc_ok (mx := mxM 1) hav) (fun v hv => by cases hv) ⟨_, hl, fun i v hiv => by
    have := args_at ρ0 [mR 2, mR 1] 0 i v (mxM 1 - (fArgs [mR 2, mR 1]).length) hiv
    rwa [Nat.zero_add] at this⟩
  have h0 : cN 3 w 3 w = 0 := by unfold cN; omega
  have h00 : sN 3 w 3 w = 0 := by unfold sN; omega
  rw [h0, h00] at hW
  exact hW

def plB : Bool := (List.range 279).all (fun j => plainName (yM j).cls && decide (pcOf (cdM j) 0 = 0) && decide (¬ phM j = 2) && decide (rkM j = 0 → rtM j = none) && decide (rkM j = 1 → rtM j = some .int) && decide (rkM j = 2 → rtM j = some .boolean) && decide (rkM j = 3 → rtM j = some .long) && (match rtM j with
  | some (.object _) => true
  | _ => decide (¬ rkM j = 4)))
set_option maxRecDepth 100000 in
theorem pl_ok : plB = true := by decide +kernel
theorem pl_at {j : Nat} (hj : j < 279) : plainName (yM j).cls = true ∧ pcOf (cdM j) 0 = 0 ∧ ¬ phM j = 2 ∧ (rkM j = 0 → rtM j = none) ∧ (rkM j = 1 → rtM j = some .int) ∧ (rkM j = 2 → rtM j = some .boolean) ∧ (rkM j = 3 → rtM j = some .long) ∧ (rkM j = 4 → ∃ n, rtM j = some (.object n)) := by
  have h := List.all_eq_true.mp pl_ok j (List.mem_range.mpr hj)
  simp only [Bool.and_eq_true, decide_eq_true_eq] at h
  obtain ⟨⟨⟨⟨⟨⟨⟨h1, h2⟩, h3⟩, h4⟩, h5⟩, h6⟩, h7⟩, h8⟩ := h
  refine ⟨h1, h2, h3, h4, h5, h6, h7, fun q => ?_⟩
  split at h8
  · exact ⟨_, by assumption⟩
  · exact absurd q (of_decide_eq_true h8)
/-- every entry of every method is checked -/
def CkAll : Prop := ∀ j, j < 279 → ¬ j = 1 → ∀ i, i < (cdM j).length → chkE (yM j).cls (yM j).name (bM j) (mxM j) (cdM j) (nthA nE (cdM j) i) (pcOf (cdM j) (i + 1)) = true
/-- the locals at a method's entry -/
theorem args_at (ρ : Nat → Nat) : ∀ (av : List MV) (k i : Nat) (v : Int ⊕ (Int ⊕ Nat)) (r : Nat), nthA none (fArgs av ++ List.replicate r none) i = some v → (k + i, toV ρ (some v)) ∈ lv_args k (av.map (toV ρ)) := by
  have hrep : ∀ (r i : Nat) (v : Int ⊕ (Int ⊕ Nat)), ¬ nthA none (List.replicate r (none : MV)) i = some v := by
    intro r
    induction r with
    | zero => intro i v h; cases h
    | succ r ih => intro i v h; cases i with
      | zero => cases h
      | succ i => exact ih i v h
  intro av
  induction av with
  | nil => intro k i v r h; exact absurd h (hrep r i v)
  | cons a t ih =>
    intro k i v r h
    match a, h with
    | none, h =>
      cases i with
      | zero => cases h
      | succ i =>
        have := ih (k + 1) i v r h
        rw [show k + 1 + i = k + (i + 1) by omega] at this
        simp only [List.map_cons, toV, lv_args, Value.category]
        first | exact List.mem_cons_of_mem _ this | simpa [lv_args] using Or.inr this
    | some (.inl x), h =>
      cases i with
      | zero => cases h; simp [lv_args, toV]
      | succ i =>
        have := ih (k + 1) i v r h
        rw [show k + 1 + i = k + (i + 1) by omega] at this
        simp only [List.map_cons, toV, lv_args, Value.category]
        first | exact List.mem_cons_of_mem _ this | simpa [lv_args] using Or.inr this
    | some (.inr (.inr g)), h =>
      cases i with
      | zero => cases h; simp [lv_args, toV]
      | succ i =>
        have := ih (k + 1) i v r h
        rw [show k + 1 + i = k + (i + 1) by omega] at this
        simp only [List.map_cons, toV, lv_args, Value.category]
        first | exact List.mem_cons_of_mem _ this | simpa [lv_args] using Or.inr this
    | some (.inr (.inl x)), h =>
      cases i with
      | zero => cases h; simp [lv_args, toV]
      | succ i =>
        cases i with
        | zero => cases h
        | succ i =>
          have := ih (k + 2) i v r h
          rw [show k + 2 + i = k + (i + 1 + 1) by omega] at this
          simp only [List.map_cons, toV, lv_args, Value.category]
          first | exact List.mem_cons_of_mem _ this | simpa [lv_args] using Or.inr this
theorem fArgs_len (ρ : Nat → Nat) : ∀ (av : List MV), (lg_sl (av.map (toV ρ))).length = (fArgs av).length
  | [] => rfl
  | none :: t => by
    have := fArgs_len ρ t
    simpa [lg_sl, fArgs, toV, Value.category] using this
  | some (.inl x) :: t => by
    have := fArgs_len ρ t
    simpa [lg_sl, fArgs, toV, Value.category] using this
  | some (.inr (.inr x)) :: t => by
    have := fArgs_len ρ t
    simpa [lg_sl, fArgs, toV, Value.category] using this
  | some (.inr (.inl x)) :: t => by
    have h := fArgs_len ρ t
    show (([Slot.val (Value.long (Int64.ofInt x)), Slot.second] : List Slot) ++ lg_sl (t.map (toV ρ))).length = (fArgs t).length + 2
    rw [List.length_append, h]
    show 2 + _ = _
    omega
theorem fArgs_ok {n : Nat} : ∀ {av : List MV}, (∀ v ∈ av, okV n v) → ∀ v ∈ fArgs av, okV n v
  | [], h => fun _ hv => by cases hv
  | none :: t, h => List.forall_mem_cons.mpr ⟨trivial, fArgs_ok (List.forall_mem_cons.mp h).2⟩
  | some (.inl x) :: t, h => List.forall_mem_cons.mpr ⟨(List.forall_mem_cons.mp h).1, fArgs_ok (List.forall_mem_cons.mp h).2⟩
  | some (.inr (.inr x)) :: t, h => List.forall_mem_cons.mpr ⟨(List.forall_mem_cons.mp h).1, fArgs_ok (List.forall_mem_cons.mp h).2⟩
  | some (.inr (.inl x)) :: t, h => List.forall_mem_cons.mpr ⟨(List.forall_mem_cons.mp h).1, List.forall_mem_cons.mpr ⟨trivial, fArgs_ok (List.forall_mem_cons.mp h).2⟩⟩
theorem mkLoc_ok {n mx : Nat} {av : List MV} (h : ∀ v ∈ av, okV n v) : ∀ v ∈ mkLoc mx av, okV n v := by
  intro v hv
  rcases List.mem_append.mp hv with q | q
  · exact fArgs_ok h v q
  · rw [(List.mem_replicate.mp q).2]; exact trivial
def rmD (d mc ms : Nat) : Room := { frames := d, cells := mc, slots := ms, locals := 100 * d }
/-- the constructor of Tokens: proved by hand -/
def TokMet (l : Launch) (EV : State → Prop) (b : Nat) (D : va_G) (κ : Nat → ClassId) : Prop := ∀ (ρ : Nat → Nat) (w : Wd) (Qc : MV → Wd → Prop) (sz : Nat), extTok [mR 2, mR 1] w Qc → okW 3 w → w 401 0 = 3 →
  Met l (yM 1) (wsM 1) (rmD 20 1 (SL 4 - SL 3)) (va_Pc ([mR 2, mR 1].map (toV ρ)) (PreU EV b D κ ρ 3 w sz)) (QcU D κ ρ 3 w sz (rkM 1) 1 Qc) 1 (SL 4 - SL 3) (AAf ρ 3 sz)
set_option maxHeartbeats 4000000 in
theorem met_all {l : Launch} {EV : State → Prop} {b0 : Nat} (hEV : EvOK EV b0) {D : va_G} {κ : Nat → ClassId} (hck : CkAll) (htok : TokMet l EV b0 D κ) : ∀ (d : Nat) (R : Room), d + 30 ≤ R.frames → 100 * (d + 30) ≤ R.locals → CallH l EV b0 D κ R (Cw d) := by
  intro d
  induction d with
  | zero => intro R _ _ j argv w Qc _ h; exact h.elim
  | succ d ih =>
    intro R hRf hRl j argv w Qc hj hC ρ0 n0 sz hok hn hc0 hall hp0 hav hbsz hbρ
    unfold Cw at hC
    by_cases hj1 : j = 1
    · rw [if_pos hj1] at hC
      subst hj1
      obtain ⟨rfl, h3, hq⟩ := hC
      have hn3 : n0 = 3 := by rw [hc0] at h3; omega
      subst hn3
      exact ⟨rmD 20 1 (SL 4 - SL 3), rfl, rfl, by show 20 + 1 ≤ _; omega, by show 100 * 20 + 60 ≤ _; omega, htok ρ0 w Qc sz ⟨rfl, h3, hq⟩ hok h3⟩
    · rw [if_neg hj1, if_neg (by omega), if_neg (by omega), if_neg (by omega), if_neg (by omega)] at hC
      obtain ⟨hlen, hC⟩ := hC
      obtain ⟨t1, t2, t3, t4, t5, t6, t7, t8⟩ := pl_at hj
      refine ⟨rmD (d + 30) (nAl j) (SL (n0 + nAl j) - SL n0), rfl, rfl, by show d + 30 + 1 ≤ _; omega, by show 100 * (d + 30) + 60 ≤ _; omega, ?_⟩
      refine Met.ofW (cc := bM j) (maxL := mxM j) (ret := rtM j) t1 rfl ?_
      intro p e s m args below meth c s₁ B hml hv
      obtain ⟨rfl, ⟨hEs, -, -⟩, hsz, hP, hK, hD0, hnest, hAO⟩ := hv
      subst hsz
      have hx := B.exec
      have hts0 := atoms_spec (ws := wsM j) B.pre
      have hts : ∀ w ∈ wsB, w.before ((argv.map (toV ρ0)).toArray) s = true := fun w hw => hts0 w (List.mem_cons_of_mem _ hw)
      have hown : s.vm.findClass (yM j).cls = some m.cls := findClass_of_methodNamed B.named
      have hnm : meth.name = (yM j).name := (name_of_methodNamed B.named B.method).1
      have hFr : FrJ p s m ((argv.map (toV ρ0)).toArray) meth c (bM j) (yM j).cls (yM j).name (mxM j) := ⟨hx, B.bytes, hml, hown, hts, fun q => by rw [hnm]; exact q, hnest, hAO⟩
      have hD : va_D (AAf ρ0 n0 s.heap.size) (wsO κ ρ0 w n0) := ⟨hD0.1, fun k q hq => by
        have hk : k < n0 := by
          have := (List.getElem?_eq_some_iff.mp hq).1
          simpa [wsO] using this
        rw [wsO_at hk] at hq
        cases hq
        exact Or.inl ⟨k, hk, rfl⟩⟩
      have hpr3 : ¬ (rkM j, phM j, w 401 0 + (nAl j : Int)).2.1 = 2 := t3
      have hnle : ∀ ρ n w', Ex (rkM j, phM j, w 401 0 + (nAl j : Int)) n0 w ρ0 ρ n w' → n ≤ n0 + nAl j ∧ n0 ≤ n ∧ w' 401 1 = w 401 1 := by
        intro ρ n w' hE
        obtain ⟨e1, e2, e3, e4, e5, e6, e7, e8, e9, e10⟩ := hE
        refine ⟨?_, e1, e7 hpr3⟩
        by_cases z : phM j = 0
        · have := (e8 z).1; have := (e8 z).2; omega
        · have := e9 (Nat.pos_of_ne_zero z)
          have h9 : (n : Int) ≤ w 401 0 + (nAl j : Int) := this
          rw [hc0] at h9
          omega
      have hstep := sim_step (l := l) (R := (headSpec (wsM j) (rmD (d + 30) (nAl j) (SL (n0 + nAl j) - SL n0))).room) (e := e) (below := below) (Z := MQ below (QcU D κ ρ0 n0 w s.heap.size (rkM j) (nAl j) Qc) ((argv.map (toV ρ0)).toArray) s (nAl j) (SL (n0 + nAl j) - SL n0) (AAf ρ0 n0 s.heap.size)) (A := AAf ρ0 n0 s.heap.size) (cd := cdM j) (pr := (rkM j, phM j, w 401 0 + (nAl j : Int))) (n0 := n0) (w0 := w) (ρ0 := ρ0) (cw := Cw d)
        (Q := fun v w' => if phM j = 1 then w' 401 0 = w 401 0 + (nAl j : Int) ∧ Qc v w' else Qc v w') hFr hK (fun q h => Or.inr h) (hck j hj hj1) ?_ ?_ ?_ ?_ ?_ hEV hEs hbsz (fun q h => by (rcases h with ⟨g, hg, rfl⟩ | h) <;> first | exact hbρ g hg | exact Nat.le_trans hbsz h) ?_ ?_ ?_
      · have hent := hC _ hstep
        have hl := lv_entry (argv.map (toV ρ0)) (n := mxM j) (by rw [fArgs_len]; exact hlen)
        rw [lg_entry_eq]
        have hW := hent ρ0 n0 s.heap [] _ ⟨hP, hD, va_S.rf, hok, by omega, hc0, hall⟩ ⟨Nat.le_refl _, fun _ _ => rfl, rfl, rfl, rfl, Int.le_refl _, fun _ => rfl, fun z => ⟨hp0 z, hp0 z⟩, fun _ => by rw [← hc0]; show w 401 0 ≤ w 401 0 + (nAl j : Int); omega, fun z => absurd z hpr3⟩ (mkLoc_ok hav) (fun v hv => by cases hv) ⟨_, hl, fun i v hiv => by
          have := args_at ρ0 argv 0 i v _ hiv
          rwa [Nat.zero_add] at this⟩
        rw [t2] at hW
        have h0 : cN n0 w n0 w = 0 := by unfold cN; omega
        have h00 : sN n0 w n0 w = 0 := by unfold sN; omega
        rw [h0, h00] at hW
        exact hW
      · intro ρ n w' hE hn'
        obtain ⟨q1, q2, q3⟩ := hnle ρ n w' hE
        refine ⟨?_, ?_⟩
        · show cN n0 w n w' ≤ nAl j
          unfold cN; rw [q3]; omega
        · show sN n0 w n w' ≤ SL (n0 + nAl j) - SL n0
          unfold sN; rw [q3]
          have := SL_mono n (n0 + nAl j) q1
          omega
      · exact ⟨by show 300 ≤ 100 * (d + 30); omega, by show 1 ≤ d + 30; omega⟩
      · intro z; exact absurd z hpr3
      · intro z
        show w 401 0 + (nAl j : Int) ≤ 186
        rw [hc0]; omega
      · intro ρ n w' j' hE hz hn' hlim
        obtain ⟨q1, q2, q3⟩ := hnle ρ n w' hE
        have hlim' : n + nAl j' ≤ n0 + nAl j := by
          have : (n : Int) + (nAl j' : Int) ≤ w 401 0 + (nAl j : Int) := hlim
          rw [hc0] at this
          omega
        refine ⟨?_, ?_⟩
        · show cN n0 w n w' + nAl j' ≤ nAl j
          unfold cN; rw [q3]; omega
        · show sN n0 w n w' + (SL (n + nAl j') - SL n) ≤ SL (n0 + nAl j) - SL n0
          unfold sN; rw [q3]
          have := SL_mono (n + nAl j') (n0 + nAl j) hlim'
          have := SL_mono n (n + nAl j') (by omega)
          have := SL_mono n0 n q2
          omega
      · exact ih _ (by show d + 30 ≤ d + 30; omega) (by show 100 * (d + 30) ≤ 100 * (d + 30); omega)
      · intro j' na idx na2 s9 l9 w' i ρ n H locs ls pc z
        exact absurd z hpr3
      · intro ρ n w' H locs v pc ls ins hR hE hov hQ hdec hro hls
        obtain ⟨q1, q2, q3⟩ := hnle ρ n w' hE
        obtain ⟨rP, rD, rS, rok, rn, rc, rall⟩ := id hR
        obtain ⟨e1, e2, e3, e4, e5, e6, e7, e8, e9, e10⟩ := id hE
        have hfin : n = n0 + nAl j ∧ Qc v w' := by
          by_cases z : phM j = 1
          · rw [if_pos z] at hQ
            have h9 := hQ.1
            rw [rc, hc0] at h9
            exact ⟨by omega, hQ.2⟩
          · rw [if_neg z] at hQ
            have := ph_al z
            exact ⟨by omega, hQ⟩
        obtain ⟨hne, hQ⟩ := hfin
        subst hne
        have hb := B.bytes
        have hlk := B.notSynchronized
        have hbuild : ∀ (o : Option Value) (t : State), t.heap = H → s.WarmedH t.vm → retO ρ v = o → (rkM j = 0 ↔ v = none) → QcU D κ ρ0 n0 w s.heap.size (rkM j) (nAl j) Qc ((argv.map (toV ρ0)).toArray) s (.returned o) t := by
          intro o t ht hW hro hrk
          subst hro
          exact ⟨⟨v, ρ, w', rfl, hQ, hov, hrk, e2, e3, by rw [ht]; exact rP, va_K.moved hW.alike hK, rD, rok, rc, rall, e4, q3, e5⟩, rS.F ht⟩
        refine W.widen (k := nAl j) (n := SL (n0 + nAl j) - SL n0) (by unfold cN; rw [q3]; omega) (by unfold sN; rw [q3]; omega) ?_
        have hr := B.returns
        rcases hro with ⟨rfl, rfl, hk⟩ | ⟨x, rfl, rfl, hk⟩ | ⟨x, rfl, rfl, hk⟩ | ⟨g, rfl, rfl, hk⟩
        · have hk : rkM j = 0 := hk
          exact W.vret hx hb (hr.trans (t4 hk)) (fun t ht hW => hbuild none t ht hW rfl ⟨fun _ => rfl, fun _ => hk⟩) rS.2.2 hdec
        · rcases hk with hk | ⟨hk, h01⟩
          · have hk : rkM j = 1 := hk
            exact W.iret hx hb (hr.trans (t5 hk)) (fun t ht hW => hbuild _ t ht hW rfl ⟨fun z => by omega, fun z => by cases z⟩) rS.2.2 hdec
          · have hk : rkM j = 2 := hk
            exact W.zret hx hb (hr.trans (t6 hk)) (by rcases h01 with z | z <;> (subst z; rfl)) (fun t ht hW => hbuild _ t ht hW rfl ⟨fun z => by omega, fun z => by cases z⟩) rS.2.2 hdec
        · have hk : rkM j = 3 := hk
          exact W.lret hx hb (hr.trans (t7 hk)) (fun t ht hW => hbuild _ t ht hW rfl ⟨fun z => by omega, fun z => by cases z⟩) rS.2.2 hdec
        · have hk : rkM j = 4 := hk
          obtain ⟨nm9, hnm9⟩ := t8 hk
          exact W.aret hx hb (hr.trans hnm9) (Or.inl ⟨_, rfl⟩) (Or.inr ⟨_, rfl⟩) (fun t ht hW => hbuild _ t ht hW rfl ⟨fun z => by omega, fun z => by cases z⟩) rS.2.2 hdec

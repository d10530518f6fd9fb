
theorem mn64 {a b : Int} (ha : in64 a) (hb : in64 b) : (if Int64.ofInt b < Int64.ofInt a then Int64.ofInt b else Int64.ofInt a) = Int64.ofInt (min a b) := by
  by_cases h : b < a
  · rw [if_pos ((k3l_lt hb ha).mpr h), Int.min_eq_right (by omega)]
  · rw [if_neg (fun q => h ((k3l_lt hb ha).mp q)), Int.min_eq_left (by omega)]
set_option maxHeartbeats 4000000 in
set_option maxRecDepth 100000 in
theorem sim_at {p : Program} {l : Launch} {e : Env} {R : Room} {s : State} {m : MethodId} {args : Array Value} {below : List Frame} {meth : Method} {c : Code} {Z : State → Prop} {D : va_G} {κ : Nat → ClassId} {A : Nat → Prop} {cc : ByteArray} {own nm : String} {cd : List Ent} {pr : Pr} {mx n0 : Nat} {w0 : Wd} {ρ0 : Nat → Nat} {cw : CWt} {Q : MV → Wd → Prop}
  (hFr : FrJ p s m args meth c cc own nm mx) (hK : va_K D vwCl (tysO κ) s) (hA : ∀ q : Nat, s.heap.size ≤ q → A q)
  (i : Nat) (hck0 : i < cd.length → chkE own nm cc mx cd (nthA nE cd i) (pcOf cd (i + 1)) = true)
  (hcap : ∀ ρ n w, Ex pr n0 w0 ρ0 ρ n w → n ≤ 186 → cN n0 w0 n w ≤ R.cells ∧ sN n0 w0 n w ≤ R.slots)
  (hrm : 300 ≤ R.locals ∧ 1 ≤ R.frames)
  (hscr : pr.2.1 = 2 → ∃ (L : Nat) (xs : Nat → Int32), va_X (ρ0 400) L xs s s.heap ∧ ρ0 400 < s.heap.size ∧ ¬ A (ρ0 400) ∧ w0 401 2 = (L : Int) ∧ L ≤ 3072 ∧ ∀ j, j < L → w0 400 j = (xs j).toInt)
  (hlim186 : 0 < pr.2.1 → pr.2.2 ≤ 186)
  (hcap2 : ∀ ρ n w j, Ex pr n0 w0 ρ0 ρ n w → 0 < pr.2.1 → n + nAl j ≤ 186 → (n : Int) + (nAl j : Int) ≤ pr.2.2 → cN n0 w0 n w + nAl j ≤ R.cells ∧ sN n0 w0 n w + (SL (n + nAl j) - SL n) ≤ R.slots)
  {EV : State → Prop} {b0 : Nat} (hEV : EvOK EV b0) (hEs : EV s) (hbs : b0 ≤ s.heap.size) (hAb : ∀ q, A q → b0 ≤ q)
  (hcall : CallH l EV b0 D κ R cw)
  (hext : ∀ (j na idx na2 : Nat) (s9 l9 : List MV) (w : Wd) (i : Nat) (ρ : Nat → Nat) (n : Nat) (H : Heap) (locs : List Loc) (ls : Array Slot) (pc : Nat), pr.2.1 = 2 → 279 ≤ j → n = 186 → catS (s9.drop na) ≤ 8 → na ≤ s9.length → cw j (s9.take na).reverse w (fun r w' => PP p l e R s m args below meth c Z D κ A cd pr mx n0 w0 ρ0 i l9 (pushR (rkM j) r (s9.drop na)) w') → Rl D κ A s.heap ρ n w H locs → Ex pr n0 w0 ρ0 ρ n w → (∀ v ∈ l9, okV n v) → (∀ v ∈ s9, okV n v) → LocR ρ ls mx l9 → ((yM j).cls ≠ "java/lang/invoke/MethodHandle" ∧ (yM j).cls ≠ "java/lang/invoke/VarHandle" ∧ (parseMethodDescriptor (yM j).desc).map (fun d => d.parameters.length) = some na) → Jvm.Cond.methodLink own idx (yM j) ∈ wsB → Jvm.Cond.static (yM j) ∈ wsB → Jvm.Cond.initialized (yM j).cls ∈ wsB → decode cc pc = .ok (.invokestatic idx, 3) → pcOf cd i = pc + 3 → W p l e R s m args below meth c H locs (cN n0 w0 n w) (sN n0 w0 n w) Z (F0 m pc ls (s9.map (toV ρ))))
  (hret : ∀ (ρ : Nat → Nat) (n : Nat) (w : Wd) (H : Heap) (locs : List Loc) (v : MV) (pc : Nat) (ls : Array Slot) (ins : Instr), Rl D κ A s.heap ρ n w H locs → Ex pr n0 w0 ρ0 ρ n w → okV n v → Q v w → decode cc pc = .ok (ins, 1) → retOK pr.1 v ins → ls.size = mx → W p l e R s m args below meth c H locs (cN n0 w0 n w) (sN n0 w0 n w) Z (F0 m pc ls (retS ρ v))) :
  ∀ l9 s9 w, F cw cd pr Q (PP p l e R s m args below meth c Z D κ A cd pr mx n0 w0 ρ0) i l9 s9 w → PP p l e R s m args below meth c Z D κ A cd pr mx n0 w0 ρ0 i l9 s9 w := by
  intro l9 s9 w hF ρ n H locs ls hR hE hl hs hL
  obtain ⟨hx, hb, hml, hown, hts, hin, hnest, hAO⟩ := id hFr
  obtain ⟨hP, hD, hS, hok, hn, hn0, hall⟩ := id hR
  obtain ⟨e1, e2, e3, e4, e5, e6, e7, e8, e9, e10⟩ := id hE
  have hlen : i < cd.length := by
    by_cases q : i < cd.length
    · exact q
    · unfold F at hF
      rw [nthA_out cd i (by omega)] at hF
      exact hF.elim
  have hck := hck0 hlen
  have hpc : pcOf cd i = (nthA nE cd i).1 := rfl
  unfold F at hF
  rw [hpc]
  generalize hnx : pcOf cd (i + 1) = nx at hck
  generalize nthA nE cd i = en at hF hck ⊢
  obtain ⟨pc, ins, len, aux, cst⟩ := en
  dsimp only at hF hck ⊢
  simp only [chkE, Bool.and_eq_true, decide_eq_true_eq] at hck
  obtain ⟨hdec, hck⟩ := hck
  cases ins

  case iconst =>
    (try dsimp only at hF)
    (try dsimp only at hck)
    simp only [Bool.and_eq_true, decide_eq_true_eq, in32b] at hck
    obtain ⟨⟨⟨h1, h2⟩, h3⟩, h4⟩ := hck
    subst h1
    refine lv_iconst (v := Int32.ofInt cst) hx hb hdec (by first | exact h3 | rw [h3]) ?_
    rw [← h2, ← hnx]
    exact hF ρ n H locs ls hR hE hl (List.forall_mem_cons.mpr ⟨h4, hs⟩) hL
  case bipush =>
    (try dsimp only at hF)
    (try dsimp only at hck)
    simp only [Bool.and_eq_true, decide_eq_true_eq, in32b] at hck
    obtain ⟨⟨⟨h1, h2⟩, h3⟩, h4⟩ := hck
    subst h1
    refine lv_bipush (v := Int32.ofInt cst) hx hb hdec (by first | exact h3 | rw [h3]) ?_
    rw [← h2, ← hnx]
    exact hF ρ n H locs ls hR hE hl (List.forall_mem_cons.mpr ⟨h4, hs⟩) hL
  case sipush =>
    (try dsimp only at hF)
    (try dsimp only at hck)
    simp only [Bool.and_eq_true, decide_eq_true_eq, in32b] at hck
    obtain ⟨⟨⟨h1, h2⟩, h3⟩, h4⟩ := hck
    subst h1
    refine lv_sipush (v := Int32.ofInt cst) hx hb hdec (by first | exact h3 | rw [h3]) ?_
    rw [← h2, ← hnx]
    exact hF ρ n H locs ls hR hE hl (List.forall_mem_cons.mpr ⟨h4, hs⟩) hL
  case ldc =>
    (try dsimp only at hF)
    (try dsimp only at hck)
    simp only [Bool.and_eq_true, decide_eq_true_eq, in32b] at hck
    obtain ⟨⟨⟨h1, h2⟩, h3⟩, h4⟩ := hck
    subst h1
    refine lv_ldc (v := Int32.ofInt cst) hx hb hown (hts _ (hasW_in h3 rfl)) hdec ?_
    rw [← h2, ← hnx]
    exact hF ρ n H locs ls hR hE hl (List.forall_mem_cons.mpr ⟨h4, hs⟩) hL
  case ldc_w =>
    (try dsimp only at hF)
    (try dsimp only at hck)
    simp only [Bool.and_eq_true, decide_eq_true_eq, in32b] at hck
    obtain ⟨⟨⟨h1, h2⟩, h3⟩, h4⟩ := hck
    subst h1
    refine lv_ldcw (v := Int32.ofInt cst) hx hb hown (hts _ (hasW_in h3 rfl)) hdec ?_
    rw [← h2, ← hnx]
    exact hF ρ n H locs ls hR hE hl (List.forall_mem_cons.mpr ⟨h4, hs⟩) hL
  case lconst =>
    (try dsimp only at hF)
    (try dsimp only at hck)
    simp only [Bool.and_eq_true, decide_eq_true_eq, in64b] at hck
    obtain ⟨⟨⟨h1, h2⟩, h3⟩, h4⟩ := hck
    subst h1
    refine lv_lconst (v := Int64.ofInt cst) hx hb hdec h3 ?_
    rw [← h2, ← hnx]
    exact hF ρ n H locs ls hR hE hl (List.forall_mem_cons.mpr ⟨h4, hs⟩) hL
  case ldc2_w =>
    (try dsimp only at hF)
    (try dsimp only at hck)
    simp only [Bool.and_eq_true, decide_eq_true_eq, in64b] at hck
    obtain ⟨⟨⟨h1, h2⟩, h3⟩, h4⟩ := hck
    subst h1
    refine lv_ldc2 (v := Int64.ofInt cst) hx hb hown (hts _ (hasW_in h3 rfl)) hdec ?_
    rw [← h2, ← hnx]
    exact hF ρ n H locs ls hR hE hl (List.forall_mem_cons.mpr ⟨h4, hs⟩) hL
  case iload =>
    (try dsimp only at hF)
    (try dsimp only at hck)
    simp only [Bool.and_eq_true, decide_eq_true_eq] at hck
    obtain ⟨⟨h1, h2⟩, h3⟩ := hck
    subst h1
    split at hF
    · rename_i x hv
      refine lv_iload hx hb hdec (by rw [← h3]; exact hL.at hv) ?_
      rw [← h2, ← hnx]
      exact hF ρ n H locs ls hR hE hl (List.forall_mem_cons.mpr ⟨hl _ (nthA_mem _ _ _ hv (fun q => by cases q)), hs⟩) hL
    · exact hF.elim
  case lload =>
    (try dsimp only at hF)
    (try dsimp only at hck)
    simp only [Bool.and_eq_true, decide_eq_true_eq] at hck
    obtain ⟨⟨h1, h2⟩, h3⟩ := hck
    subst h1
    split at hF
    · rename_i x hv
      refine lv_lload hx hb hdec (by rw [← h3]; exact hL.at hv) ?_
      rw [← h2, ← hnx]
      exact hF ρ n H locs ls hR hE hl (List.forall_mem_cons.mpr ⟨hl _ (nthA_mem _ _ _ hv (fun q => by cases q)), hs⟩) hL
    · exact hF.elim
  case aload =>
    (try dsimp only at hF)
    (try dsimp only at hck)
    simp only [Bool.and_eq_true, decide_eq_true_eq] at hck
    obtain ⟨⟨h1, h2⟩, h3⟩ := hck
    subst h1
    split at hF
    · rename_i x hv
      refine lv_aload hx hb hdec (by rw [← h3]; exact hL.at hv) ?_
      rw [← h2, ← hnx]
      exact hF ρ n H locs ls hR hE hl (List.forall_mem_cons.mpr ⟨hl _ (nthA_mem _ _ _ hv (fun q => by cases q)), hs⟩) hL
    · exact hF.elim
  case iload_n =>
    (try dsimp only at hF)
    (try dsimp only at hck)
    simp only [Bool.and_eq_true, decide_eq_true_eq] at hck
    obtain ⟨⟨h1, h2⟩, h3⟩ := hck
    subst h1
    split at hF
    · rename_i x hv
      refine lv_iload_n (i := a0 aux) hx hb hdec h3.symm (hL.at hv) ?_
      rw [← h2, ← hnx]
      exact hF ρ n H locs ls hR hE hl (List.forall_mem_cons.mpr ⟨hl _ (nthA_mem _ _ _ hv (fun q => by cases q)), hs⟩) hL
    · exact hF.elim
  case lload_n =>
    (try dsimp only at hF)
    (try dsimp only at hck)
    simp only [Bool.and_eq_true, decide_eq_true_eq] at hck
    obtain ⟨⟨h1, h2⟩, h3⟩ := hck
    subst h1
    split at hF
    · rename_i x hv
      refine lv_lload_n (i := a0 aux) hx hb hdec h3.symm (hL.at hv) ?_
      rw [← h2, ← hnx]
      exact hF ρ n H locs ls hR hE hl (List.forall_mem_cons.mpr ⟨hl _ (nthA_mem _ _ _ hv (fun q => by cases q)), hs⟩) hL
    · exact hF.elim
  case aload_n =>
    (try dsimp only at hF)
    (try dsimp only at hck)
    simp only [Bool.and_eq_true, decide_eq_true_eq] at hck
    obtain ⟨⟨h1, h2⟩, h3⟩ := hck
    subst h1
    split at hF
    · rename_i x hv
      refine lv_aload_n (i := a0 aux) hx hb hdec h3.symm (hL.at hv) ?_
      rw [← h2, ← hnx]
      exact hF ρ n H locs ls hR hE hl (List.forall_mem_cons.mpr ⟨hl _ (nthA_mem _ _ _ hv (fun q => by cases q)), hs⟩) hL
    · exact hF.elim
  case istore =>
    (try dsimp only at hF)
    (try dsimp only at hck)
    simp only [Bool.and_eq_true, decide_eq_true_eq] at hck
    obtain ⟨⟨⟨h1, h2⟩, h3⟩, h4⟩ := hck
    subst h1
    split at hF
    · obtain ⟨hv, hs⟩ := List.forall_mem_cons.mp hs
      rename_i x t _
      refine hL.stI (i := a0 aux) (v := .inl x) (Pq := fun ls => W p l e R s m args below meth c H locs (cN n0 w0 n w) (sN n0 w0 n w) Z (F0 m pc ls _)) (fun x q => by cases q) (fun lv hlv _ lv' hlv' hk => ?_)
      refine lv_istore (lv' := lv') hx hb hdec hlv (by omega) (by rw [← h3]; exact hlv') (fun ls2 hl2 => ?_)
      rw [← h2, ← hnx]
      exact hF ρ n H locs ls2 hR hE (fun v q => (stI_mem q).elim (fun q => by rw [q]; exact hv) (fun q => q.elim (fun q => by rw [q]; exact trivial) (hl v))) hs (hk ls2 hl2)
    · exact hF.elim
  case istore_n =>
    (try dsimp only at hF)
    (try dsimp only at hck)
    simp only [Bool.and_eq_true, decide_eq_true_eq] at hck
    obtain ⟨⟨⟨h1, h2⟩, h3⟩, h4⟩ := hck
    subst h1
    split at hF
    · obtain ⟨hv, hs⟩ := List.forall_mem_cons.mp hs
      rename_i x t _
      refine hL.stI (i := a0 aux) (v := .inl x) (Pq := fun ls => W p l e R s m args below meth c H locs (cN n0 w0 n w) (sN n0 w0 n w) Z (F0 m pc ls _)) (fun x q => by cases q) (fun lv hlv _ lv' hlv' hk => ?_)
      refine lv_istore_n (lv' := lv') hx hb (i := a0 aux) hdec h3.symm hlv (by omega) hlv' (fun ls2 hl2 => ?_)
      rw [← h2, ← hnx]
      exact hF ρ n H locs ls2 hR hE (fun v q => (stI_mem q).elim (fun q => by rw [q]; exact hv) (fun q => q.elim (fun q => by rw [q]; exact trivial) (hl v))) hs (hk ls2 hl2)
    · exact hF.elim
  case astore =>
    (try dsimp only at hF)
    (try dsimp only at hck)
    simp only [Bool.and_eq_true, decide_eq_true_eq] at hck
    obtain ⟨⟨⟨h1, h2⟩, h3⟩, h4⟩ := hck
    subst h1
    split at hF
    · obtain ⟨hv, hs⟩ := List.forall_mem_cons.mp hs
      rename_i x t _
      refine hL.stI (i := a0 aux) (v := .inr (.inr x)) (Pq := fun ls => W p l e R s m args below meth c H locs (cN n0 w0 n w) (sN n0 w0 n w) Z (F0 m pc ls _)) (fun x q => by cases q) (fun lv hlv _ lv' hlv' hk => ?_)
      refine lv_astore (lv' := lv') hx hb hdec hlv (by omega) (by rw [← h3]; exact hlv') (fun ls2 hl2 => ?_)
      rw [← h2, ← hnx]
      exact hF ρ n H locs ls2 hR hE (fun v q => (stI_mem q).elim (fun q => by rw [q]; exact hv) (fun q => q.elim (fun q => by rw [q]; exact trivial) (hl v))) hs (hk ls2 hl2)
    · exact hF.elim
  case astore_n =>
    (try dsimp only at hF)
    (try dsimp only at hck)
    simp only [Bool.and_eq_true, decide_eq_true_eq] at hck
    obtain ⟨⟨⟨h1, h2⟩, h3⟩, h4⟩ := hck
    subst h1
    split at hF
    · obtain ⟨hv, hs⟩ := List.forall_mem_cons.mp hs
      rename_i x t _
      refine hL.stI (i := a0 aux) (v := .inr (.inr x)) (Pq := fun ls => W p l e R s m args below meth c H locs (cN n0 w0 n w) (sN n0 w0 n w) Z (F0 m pc ls _)) (fun x q => by cases q) (fun lv hlv _ lv' hlv' hk => ?_)
      refine lv_astore_n (lv' := lv') hx hb (i := a0 aux) hdec h3.symm hlv (by omega) hlv' (fun ls2 hl2 => ?_)
      rw [← h2, ← hnx]
      exact hF ρ n H locs ls2 hR hE (fun v q => (stI_mem q).elim (fun q => by rw [q]; exact hv) (fun q => q.elim (fun q => by rw [q]; exact trivial) (hl v))) hs (hk ls2 hl2)
    · exact hF.elim
  case lstore =>
    (try dsimp only at hF)
    (try dsimp only at hck)
    simp only [Bool.and_eq_true, decide_eq_true_eq] at hck
    obtain ⟨⟨⟨h1, h2⟩, h3⟩, h4⟩ := hck
    subst h1
    split at hF
    · obtain ⟨hv, hs⟩ := List.forall_mem_cons.mp hs
      rename_i x t _
      refine hL.stL (i := a0 aux) (y := x) (Pq := fun ls => W p l e R s m args below meth c H locs (cN n0 w0 n w) (sN n0 w0 n w) Z (F0 m pc ls _)) (fun lv hlv lv' hlv' hk => ?_)
      refine lv_lstore (lv' := lv') hx hb hdec hlv (by omega) (by rw [← h3]; exact hlv') (fun ls2 hl2 => ?_)
      rw [← h2, ← hnx]
      exact hF ρ n H locs ls2 hR hE (fun v q => (stL_mem q).elim (fun q => by rw [q]; exact hv) (fun q => q.elim (fun q => by rw [q]; exact trivial) (hl v))) hs (hk ls2 hl2)
    · exact hF.elim
  case lstore_n =>
    (try dsimp only at hF)
    (try dsimp only at hck)
    simp only [Bool.and_eq_true, decide_eq_true_eq] at hck
    obtain ⟨⟨⟨h1, h2⟩, h3⟩, h4⟩ := hck
    subst h1
    split at hF
    · obtain ⟨hv, hs⟩ := List.forall_mem_cons.mp hs
      rename_i x t _
      refine hL.stL (i := a0 aux) (y := x) (Pq := fun ls => W p l e R s m args below meth c H locs (cN n0 w0 n w) (sN n0 w0 n w) Z (F0 m pc ls _)) (fun lv hlv lv' hlv' hk => ?_)
      refine lv_lstore_n (lv' := lv') hx hb (i := a0 aux) hdec h3.symm hlv (by omega) hlv' (fun ls2 hl2 => ?_)
      rw [← h2, ← hnx]
      exact hF ρ n H locs ls2 hR hE (fun v q => (stL_mem q).elim (fun q => by rw [q]; exact hv) (fun q => q.elim (fun q => by rw [q]; exact trivial) (hl v))) hs (hk ls2 hl2)
    · exact hF.elim
  case iinc =>
    (try dsimp only at hF)
    (try dsimp only at hck)
    simp only [Bool.and_eq_true, decide_eq_true_eq] at hck
    obtain ⟨⟨⟨⟨h1, h2⟩, h3⟩, h4⟩, h5⟩ := hck
    subst h1
    split at hF
    · rename_i x hv
      have hxo : in32 x := hl _ (nthA_mem _ _ _ hv (fun q => by cases q))
      refine hL.stI (i := a0 aux) (v := .inl (w32 (x + cst))) (Pq := fun ls => W p l e R s m args below meth c H locs (cN n0 w0 n w) (sN n0 w0 n w) Z (F0 m pc ls _)) (fun x q => by cases q) (fun lv hlv hmem lv' hlv' hk => ?_)
      obtain ⟨kk, hkk⟩ := List.getElem?_of_mem (hmem _ _ hv)
      refine lv_iinc (lv' := lv') (v := Int32.ofInt (w32 (x + cst))) (k := kk) (i := a0 aux) hx hb (by rw [h3]; exact hdec) hlv hkk (by rw [w32_of, ← h4, Int32.ofInt_add]) (by omega) hlv' (fun ls2 hl2 => ?_)
      rw [← h2, ← hnx]
      exact hF ρ n H locs ls2 hR hE (fun v q => (stI_mem q).elim (fun q => by rw [q]; exact w32_in _) (fun q => q.elim (fun q => by rw [q]; exact trivial) (hl v))) hs (hk ls2 hl2)
    · exact hF.elim
  case iadd =>
    (try dsimp only at hF)
    (try dsimp only at hck)
    simp only [Bool.and_eq_true, decide_eq_true_eq] at hck
    obtain ⟨h1, h2⟩ := hck
    subst h1
    split at hF
    · obtain ⟨hvb, hs⟩ := List.forall_mem_cons.mp hs
      obtain ⟨hva, hs⟩ := List.forall_mem_cons.mp hs
      refine lv_iadd hx hb hdec ?_
      rw [← h2, ← hnx, k3i_add]
      exact hF ρ n H locs ls hR hE hl (List.forall_mem_cons.mpr ⟨w32_in _, hs⟩) hL
    · exact hF.elim
  case isub =>
    (try dsimp only at hF)
    (try dsimp only at hck)
    simp only [Bool.and_eq_true, decide_eq_true_eq] at hck
    obtain ⟨h1, h2⟩ := hck
    subst h1
    split at hF
    · obtain ⟨hvb, hs⟩ := List.forall_mem_cons.mp hs
      obtain ⟨hva, hs⟩ := List.forall_mem_cons.mp hs
      refine lv_isub hx hb hdec ?_
      rw [← h2, ← hnx, k3i_sub]
      exact hF ρ n H locs ls hR hE hl (List.forall_mem_cons.mpr ⟨w32_in _, hs⟩) hL
    · exact hF.elim
  case imul =>
    (try dsimp only at hF)
    (try dsimp only at hck)
    simp only [Bool.and_eq_true, decide_eq_true_eq] at hck
    obtain ⟨h1, h2⟩ := hck
    subst h1
    split at hF
    · obtain ⟨hvb, hs⟩ := List.forall_mem_cons.mp hs
      obtain ⟨hva, hs⟩ := List.forall_mem_cons.mp hs
      refine lv_imul hx hb hdec ?_
      rw [← h2, ← hnx, k3i_mul]
      exact hF ρ n H locs ls hR hE hl (List.forall_mem_cons.mpr ⟨w32_in _, hs⟩) hL
    · exact hF.elim
  case iand =>
    (try dsimp only at hF)
    (try dsimp only at hck)
    simp only [Bool.and_eq_true, decide_eq_true_eq] at hck
    obtain ⟨h1, h2⟩ := hck
    subst h1
    split at hF
    · obtain ⟨hvb, hs⟩ := List.forall_mem_cons.mp hs
      obtain ⟨hva, hs⟩ := List.forall_mem_cons.mp hs
      refine lv_iand hx hb hdec ?_
      rw [← h2, ← hnx, ← k3i_back (Int32.ofInt _ &&& _)]
      exact hF ρ n H locs ls hR hE hl (List.forall_mem_cons.mpr ⟨k3i_in _, hs⟩) hL
    · exact hF.elim
  case ior =>
    (try dsimp only at hF)
    (try dsimp only at hck)
    simp only [Bool.and_eq_true, decide_eq_true_eq] at hck
    obtain ⟨h1, h2⟩ := hck
    subst h1
    split at hF
    · obtain ⟨hvb, hs⟩ := List.forall_mem_cons.mp hs
      obtain ⟨hva, hs⟩ := List.forall_mem_cons.mp hs
      refine lv_ior hx hb hdec ?_
      rw [← h2, ← hnx, ← k3i_back (Int32.ofInt _ ||| _)]
      exact hF ρ n H locs ls hR hE hl (List.forall_mem_cons.mpr ⟨k3i_in _, hs⟩) hL
    · exact hF.elim
  case ixor =>
    (try dsimp only at hF)
    (try dsimp only at hck)
    simp only [Bool.and_eq_true, decide_eq_true_eq] at hck
    obtain ⟨h1, h2⟩ := hck
    subst h1
    split at hF
    · obtain ⟨hvb, hs⟩ := List.forall_mem_cons.mp hs
      obtain ⟨hva, hs⟩ := List.forall_mem_cons.mp hs
      refine lv_ixor hx hb hdec ?_
      rw [← h2, ← hnx, ← k3i_back (Int32.ofInt _ ^^^ _)]
      exact hF ρ n H locs ls hR hE hl (List.forall_mem_cons.mpr ⟨k3i_in _, hs⟩) hL
    · exact hF.elim
  case ishl =>
    (try dsimp only at hF)
    (try dsimp only at hck)
    simp only [Bool.and_eq_true, decide_eq_true_eq] at hck
    obtain ⟨h1, h2⟩ := hck
    subst h1
    split at hF
    · obtain ⟨hvb, hs⟩ := List.forall_mem_cons.mp hs
      obtain ⟨hva, hs⟩ := List.forall_mem_cons.mp hs
      refine lv_ishl hx hb hdec ?_
      rw [← h2, ← hnx, ← k3i_back (Int32.ofInt _ <<< _)]
      exact hF ρ n H locs ls hR hE hl (List.forall_mem_cons.mpr ⟨k3i_in _, hs⟩) hL
    · exact hF.elim
  case ishr =>
    (try dsimp only at hF)
    (try dsimp only at hck)
    simp only [Bool.and_eq_true, decide_eq_true_eq] at hck
    obtain ⟨h1, h2⟩ := hck
    subst h1
    split at hF
    · obtain ⟨hvb, hs⟩ := List.forall_mem_cons.mp hs
      obtain ⟨hva, hs⟩ := List.forall_mem_cons.mp hs
      refine lv_ishr hx hb hdec ?_
      rw [← h2, ← hnx, ← k3i_back (Int32.ofInt _ >>> _)]
      exact hF ρ n H locs ls hR hE hl (List.forall_mem_cons.mpr ⟨k3i_in _, hs⟩) hL
    · exact hF.elim
  case iushr =>
    (try dsimp only at hF)
    (try dsimp only at hck)
    simp only [Bool.and_eq_true, decide_eq_true_eq] at hck
    obtain ⟨h1, h2⟩ := hck
    subst h1
    split at hF
    · obtain ⟨hvb, hs⟩ := List.forall_mem_cons.mp hs
      obtain ⟨hva, hs⟩ := List.forall_mem_cons.mp hs
      refine lv_iushr hx hb hdec (k3i_back _).symm ?_
      rw [← h2, ← hnx]
      exact hF ρ n H locs ls hR hE hl (List.forall_mem_cons.mpr ⟨k3i_in _, hs⟩) hL
    · exact hF.elim
  case idiv =>
    (try dsimp only at hF)
    (try dsimp only at hck)
    simp only [Bool.and_eq_true, decide_eq_true_eq] at hck
    obtain ⟨h1, h2⟩ := hck
    subst h1
    split at hF
    · obtain ⟨hvb, hs⟩ := List.forall_mem_cons.mp hs
      obtain ⟨hva, hs⟩ := List.forall_mem_cons.mp hs
      obtain ⟨h0, hF⟩ := hF
      refine lv_idiv hx hb hdec (fun q => h0 ((k3i_eq hvb in32_0).mp q)) ?_
      rw [← h2, ← hnx, k3i_div hva hvb]
      exact hF ρ n H locs ls hR hE hl (List.forall_mem_cons.mpr ⟨w32_in _, hs⟩) hL
    · exact hF.elim
  case irem =>
    (try dsimp only at hF)
    (try dsimp only at hck)
    simp only [Bool.and_eq_true, decide_eq_true_eq] at hck
    obtain ⟨h1, h2⟩ := hck
    subst h1
    split at hF
    · obtain ⟨hvb, hs⟩ := List.forall_mem_cons.mp hs
      obtain ⟨hva, hs⟩ := List.forall_mem_cons.mp hs
      obtain ⟨h0, hF⟩ := hF
      refine lv_irem hx hb hdec (fun q => h0 ((k3i_eq hvb in32_0).mp q)) ?_
      rw [← h2, ← hnx, k3i_rem hva hvb h0]
      exact hF ρ n H locs ls hR hE hl (List.forall_mem_cons.mpr ⟨tmod_in32 hva hvb h0, hs⟩) hL
    · exact hF.elim
  case ladd =>
    (try dsimp only at hF)
    (try dsimp only at hck)
    simp only [Bool.and_eq_true, decide_eq_true_eq] at hck
    obtain ⟨h1, h2⟩ := hck
    subst h1
    split at hF
    · obtain ⟨hvb, hs⟩ := List.forall_mem_cons.mp hs
      obtain ⟨hva, hs⟩ := List.forall_mem_cons.mp hs
      refine lv_ladd hx hb hdec ?_
      rw [← h2, ← hnx, k3l_add]
      exact hF ρ n H locs ls hR hE hl (List.forall_mem_cons.mpr ⟨w64_in _, hs⟩) hL
    · exact hF.elim
  case lsub =>
    (try dsimp only at hF)
    (try dsimp only at hck)
    simp only [Bool.and_eq_true, decide_eq_true_eq] at hck
    obtain ⟨h1, h2⟩ := hck
    subst h1
    split at hF
    · obtain ⟨hvb, hs⟩ := List.forall_mem_cons.mp hs
      obtain ⟨hva, hs⟩ := List.forall_mem_cons.mp hs
      refine lv_lsub hx hb hdec ?_
      rw [← h2, ← hnx, k3l_sub]
      exact hF ρ n H locs ls hR hE hl (List.forall_mem_cons.mpr ⟨w64_in _, hs⟩) hL
    · exact hF.elim
  case lmul =>
    (try dsimp only at hF)
    (try dsimp only at hck)
    simp only [Bool.and_eq_true, decide_eq_true_eq] at hck
    obtain ⟨h1, h2⟩ := hck
    subst h1
    split at hF
    · obtain ⟨hvb, hs⟩ := List.forall_mem_cons.mp hs
      obtain ⟨hva, hs⟩ := List.forall_mem_cons.mp hs
      refine lv_lmul hx hb hdec ?_
      rw [← h2, ← hnx, k3l_mul]
      exact hF ρ n H locs ls hR hE hl (List.forall_mem_cons.mpr ⟨w64_in _, hs⟩) hL
    · exact hF.elim
  case ldiv =>
    (try dsimp only at hF)
    (try dsimp only at hck)
    simp only [Bool.and_eq_true, decide_eq_true_eq] at hck
    obtain ⟨h1, h2⟩ := hck
    subst h1
    split at hF
    · obtain ⟨hvb, hs⟩ := List.forall_mem_cons.mp hs
      obtain ⟨hva, hs⟩ := List.forall_mem_cons.mp hs
      obtain ⟨h0, hF⟩ := hF
      refine lv_ldiv hx hb hdec (fun q => h0 ((k3l_eq hvb (in32_64 in32_0)).mp q)) ?_
      rw [← h2, ← hnx, k3l_div hva hvb]
      exact hF ρ n H locs ls hR hE hl (List.forall_mem_cons.mpr ⟨w64_in _, hs⟩) hL
    · exact hF.elim
  case lrem =>
    (try dsimp only at hF)
    (try dsimp only at hck)
    simp only [Bool.and_eq_true, decide_eq_true_eq] at hck
    obtain ⟨h1, h2⟩ := hck
    subst h1
    split at hF
    · obtain ⟨hvb, hs⟩ := List.forall_mem_cons.mp hs
      obtain ⟨hva, hs⟩ := List.forall_mem_cons.mp hs
      obtain ⟨h0, hF⟩ := hF
      refine lv_lrem hx hb hdec (fun q => h0 ((k3l_eq hvb (in32_64 in32_0)).mp q)) ?_
      rw [← h2, ← hnx, k3l_rem hva hvb h0]
      exact hF ρ n H locs ls hR hE hl (List.forall_mem_cons.mpr ⟨tmod_in64 hva hvb h0, hs⟩) hL
    · exact hF.elim
  case lor =>
    (try dsimp only at hF)
    (try dsimp only at hck)
    simp only [Bool.and_eq_true, decide_eq_true_eq] at hck
    obtain ⟨h1, h2⟩ := hck
    subst h1
    split at hF
    · obtain ⟨hvb, hs⟩ := List.forall_mem_cons.mp hs
      obtain ⟨hva, hs⟩ := List.forall_mem_cons.mp hs
      refine lv_lor hx hb hdec ?_
      rw [← h2, ← hnx, ← k3l_back (Int64.ofInt _ ||| _)]
      exact hF ρ n H locs ls hR hE hl (List.forall_mem_cons.mpr ⟨k3l_in _, hs⟩) hL
    · exact hF.elim
  case lshl =>
    (try dsimp only at hF)
    (try dsimp only at hck)
    simp only [Bool.and_eq_true, decide_eq_true_eq] at hck
    obtain ⟨h1, h2⟩ := hck
    subst h1
    split at hF
    · obtain ⟨hvb, hs⟩ := List.forall_mem_cons.mp hs
      obtain ⟨hva, hs⟩ := List.forall_mem_cons.mp hs
      refine lv_lshl hx hb hdec (k3l_back _).symm ?_
      rw [← h2, ← hnx]
      exact hF ρ n H locs ls hR hE hl (List.forall_mem_cons.mpr ⟨k3l_in _, hs⟩) hL
    · exact hF.elim
  case lshr =>
    (try dsimp only at hF)
    (try dsimp only at hck)
    simp only [Bool.and_eq_true, decide_eq_true_eq] at hck
    obtain ⟨h1, h2⟩ := hck
    subst h1
    split at hF
    · obtain ⟨hvb, hs⟩ := List.forall_mem_cons.mp hs
      obtain ⟨hva, hs⟩ := List.forall_mem_cons.mp hs
      refine lv_lshr hx hb hdec (k3l_back _).symm ?_
      rw [← h2, ← hnx]
      exact hF ρ n H locs ls hR hE hl (List.forall_mem_cons.mpr ⟨k3l_in _, hs⟩) hL
    · exact hF.elim
  case lushr =>
    (try dsimp only at hF)
    (try dsimp only at hck)
    simp only [Bool.and_eq_true, decide_eq_true_eq] at hck
    obtain ⟨h1, h2⟩ := hck
    subst h1
    split at hF
    · obtain ⟨hvb, hs⟩ := List.forall_mem_cons.mp hs
      obtain ⟨hva, hs⟩ := List.forall_mem_cons.mp hs
      refine lv_lushr hx hb hdec (k3l_back _).symm ?_
      rw [← h2, ← hnx]
      exact hF ρ n H locs ls hR hE hl (List.forall_mem_cons.mpr ⟨k3l_in _, hs⟩) hL
    · exact hF.elim
  case i2l =>
    (try dsimp only at hF)
    (try dsimp only at hck)
    simp only [Bool.and_eq_true, decide_eq_true_eq] at hck
    obtain ⟨h1, h2⟩ := hck
    subst h1
    split at hF
    · obtain ⟨hva, hs⟩ := List.forall_mem_cons.mp hs
      refine lv_i2l hx hb hdec (i2l_of hva) ?_
      rw [← h2, ← hnx]
      exact hF ρ n H locs ls hR hE hl (List.forall_mem_cons.mpr ⟨in32_64 hva, hs⟩) hL
    · exact hF.elim
  case l2i =>
    (try dsimp only at hF)
    (try dsimp only at hck)
    simp only [Bool.and_eq_true, decide_eq_true_eq] at hck
    obtain ⟨h1, h2⟩ := hck
    subst h1
    split at hF
    · obtain ⟨hva, hs⟩ := List.forall_mem_cons.mp hs
      refine lv_l2i hx hb hdec (l2i_of _) ?_
      rw [← h2, ← hnx]
      exact hF ρ n H locs ls hR hE hl (List.forall_mem_cons.mpr ⟨w32_in _, hs⟩) hL
    · exact hF.elim
  case i2b =>
    (try dsimp only at hF)
    (try dsimp only at hck)
    simp only [Bool.and_eq_true, decide_eq_true_eq] at hck
    obtain ⟨h1, h2⟩ := hck
    subst h1
    split at hF
    · obtain ⟨hva, hs⟩ := List.forall_mem_cons.mp hs
      refine lv_i2b hx hb hdec (k3i_back _).symm ?_
      rw [← h2, ← hnx]
      exact hF ρ n H locs ls hR hE hl (List.forall_mem_cons.mpr ⟨k3i_in _, hs⟩) hL
    · exact hF.elim
  case lcmp =>
    (try dsimp only at hF)
    (try dsimp only at hck)
    simp only [Bool.and_eq_true, decide_eq_true_eq] at hck
    obtain ⟨h1, h2⟩ := hck
    subst h1
    split at hF
    · obtain ⟨hvb, hs⟩ := List.forall_mem_cons.mp hs
      obtain ⟨hva, hs⟩ := List.forall_mem_cons.mp hs
      refine W.lcmp hx hb hdec ?_
      rw [← h2, ← hnx, cmp3_of hva hvb]
      exact hF ρ n H locs ls hR hE hl (List.forall_mem_cons.mpr ⟨cmp3_in _ _, hs⟩) hL
    · exact hF.elim
  case dup =>
    (try dsimp only at hF)
    (try dsimp only at hck)
    simp only [Bool.and_eq_true, decide_eq_true_eq] at hck
    obtain ⟨h1, h2⟩ := hck
    subst h1
    split at hF
    · refine lv_dup hx hb hdec rfl ?_
      rw [← h2, ← hnx]
      exact hF ρ n H locs ls hR hE hl (List.forall_mem_cons.mpr ⟨hs _ List.mem_cons_self, hs⟩) hL
    · refine lv_dup hx hb hdec rfl ?_
      rw [← h2, ← hnx]
      exact hF ρ n H locs ls hR hE hl (List.forall_mem_cons.mpr ⟨hs _ List.mem_cons_self, hs⟩) hL
    · exact hF.elim
  case dup2 =>
    (try dsimp only at hF)
    (try dsimp only at hck)
    simp only [Bool.and_eq_true, decide_eq_true_eq] at hck
    obtain ⟨h1, h2⟩ := hck
    subst h1
    split at hF
    · refine lv_dup2_11 hx hb hdec rfl rfl ?_
      rw [← h2, ← hnx]
      exact hF ρ n H locs ls hR hE hl (List.forall_mem_cons.mpr ⟨hs _ List.mem_cons_self, List.forall_mem_cons.mpr ⟨hs _ (List.mem_cons_of_mem _ List.mem_cons_self), hs⟩⟩) hL
    · exact hF.elim
  case pop =>
    (try dsimp only at hF)
    (try dsimp only at hck)
    simp only [Bool.and_eq_true, decide_eq_true_eq] at hck
    obtain ⟨h1, h2⟩ := hck
    subst h1
    split at hF
    · refine lv_pop hx hb hdec rfl ?_
      rw [← h2, ← hnx]
      exact hF ρ n H locs ls hR hE hl (List.forall_mem_cons.mp hs).2 hL
    · refine lv_pop hx hb hdec rfl ?_
      rw [← h2, ← hnx]
      exact hF ρ n H locs ls hR hE hl (List.forall_mem_cons.mp hs).2 hL
    · exact hF.elim
  case goto =>
    (try dsimp only at hF)
    (try dsimp only at hck)
    simp only [Bool.and_eq_true, decide_eq_true_eq] at hck
    obtain ⟨h1, h2⟩ := hck
    subst h1
    refine lv_goto hx hb hdec h2 ?_
    exact hF ρ n H locs ls hR hE hl hs hL
  case ifCond cond off =>
    (try dsimp only at hF)
    (try dsimp only at hck)
    simp only [Bool.and_eq_true, decide_eq_true_eq] at hck
    obtain ⟨⟨h1, h2⟩, h3⟩ := hck
    subst h1
    split at hF
    · obtain ⟨hva, hs⟩ := List.forall_mem_cons.mp hs
      have ht := fun q => hF.1 q ρ n H locs ls hR hE hl hs hL
      have hf := fun q => hF.2 q ρ n H locs ls hR hE hl hs hL
      rw [hnx, h2] at hf
      cases cond
      · exact lv_if_eq hx hb hdec h3 (fun q => ht ((k3i_eq hva in32_0).mp q)) (fun q => hf (fun z => q ((k3i_eq hva in32_0).mpr z)))
      · exact lv_if_ne hx hb hdec h3 (fun q => ht (fun z => q ((k3i_eq hva in32_0).mpr z))) (fun q => hf (fun z => z ((k3i_eq hva in32_0).mp q)))
      · exact lv_if_lt hx hb hdec h3 (fun q => ht ((k3i_lt hva in32_0).mp q)) (fun q => hf (fun z => q ((k3i_lt hva in32_0).mpr z)))
      · exact lv_if_ge hx hb hdec h3 (fun q => ht ((k3i_le in32_0 hva).mp q)) (fun q => hf (fun z => q ((k3i_le in32_0 hva).mpr z)))
      · exact lv_if_gt hx hb hdec h3 (fun q => ht ((k3i_lt in32_0 hva).mp q)) (fun q => hf (fun z => q ((k3i_lt in32_0 hva).mpr z)))
      · exact lv_if_le hx hb hdec h3 (fun q => ht ((k3i_le hva in32_0).mp q)) (fun q => hf (fun z => q ((k3i_le hva in32_0).mpr z)))
    · exact hF.elim
  case if_icmp cond off =>
    (try dsimp only at hF)
    (try dsimp only at hck)
    simp only [Bool.and_eq_true, decide_eq_true_eq] at hck
    obtain ⟨⟨h1, h2⟩, h3⟩ := hck
    subst h1
    split at hF
    · obtain ⟨hvb, hs⟩ := List.forall_mem_cons.mp hs
      obtain ⟨hva, hs⟩ := List.forall_mem_cons.mp hs
      have ht := fun q => hF.1 q ρ n H locs ls hR hE hl hs hL
      have hf := fun q => hF.2 q ρ n H locs ls hR hE hl hs hL
      rw [hnx, h2] at hf
      cases cond
      · exact lv_icmp_eq hx hb hdec h3 (fun q => ht ((k3i_eq hva hvb).mp q)) (fun q => hf (fun z => q ((k3i_eq hva hvb).mpr z)))
      · exact lv_icmp_ne hx hb hdec h3 (fun q => ht (fun z => q ((k3i_eq hva hvb).mpr z))) (fun q => hf (fun z => z ((k3i_eq hva hvb).mp q)))
      · exact lv_icmp_lt hx hb hdec h3 (fun q => ht ((k3i_lt hva hvb).mp q)) (fun q => hf (fun z => q ((k3i_lt hva hvb).mpr z)))
      · exact lv_icmp_ge hx hb hdec h3 (fun q => ht ((k3i_le hvb hva).mp q)) (fun q => hf (fun z => q ((k3i_le hvb hva).mpr z)))
      · exact lv_icmp_gt hx hb hdec h3 (fun q => ht ((k3i_lt hvb hva).mp q)) (fun q => hf (fun z => q ((k3i_lt hvb hva).mpr z)))
      · exact lv_icmp_le hx hb hdec h3 (fun q => ht ((k3i_le hva hvb).mp q)) (fun q => hf (fun z => q ((k3i_le hva hvb).mpr z)))
    · exact hF.elim
  case tableswitch d9 lo hi os =>
    (try dsimp only at hF)
    (try dsimp only at hck)
    simp only [Bool.and_eq_true, decide_eq_true_eq] at hck
    obtain ⟨⟨⟨h1, h2⟩, h3⟩, h4⟩ := hck
    subst h1
    split at hF
    · obtain ⟨hva, hs⟩ := List.forall_mem_cons.mp hs
      rename_i x t _
      have hva : in32 x := hva
      obtain ⟨g1, g2, g3⟩ := sw_in _ _ _ h4 hF
      by_cases q : x < lo ∨ lo + ((aux.drop 1).length : Int) ≤ x
      · refine lv_tableOut hx hb hdec ?_ h3 ?_
        · rw [k3i_rt hva]; omega
        · exact g2 q ρ n H locs ls hR hE hl hs hL
      · obtain ⟨t9, off, q1, q2, q3⟩ := g3 (x - lo).toNat (by omega) (by omega)
        refine lv_tableIn (off := off) (tgt := pcOf cd t9) hx hb hdec ?_ ?_ ?_ q2 ?_
        · rw [k3i_rt hva]; omega
        · rw [k3i_rt hva]; omega
        · rw [k3i_rt hva, ← Array.getElem?_toList]; exact q1
        · exact q3 ρ n H locs ls hR hE hl hs hL
    · exact hF.elim
  case getfield idx =>
    (try dsimp only at hF)
    (try dsimp only at hck)
    simp only [Bool.and_eq_true, decide_eq_true_eq] at hck
    obtain ⟨⟨h1, h2⟩, h3⟩ := hck
    subst h1
    split at hF
    · rename_i h t
      obtain ⟨hv, hs⟩ := List.forall_mem_cons.mp hs
      obtain ⟨C, T, N, hC, hj, hlink⟩ := fldW_ok h3
      by_cases hk : kd h = a0 aux
      · rw [if_pos hk] at hF
        have hci : a0 aux < 13 := cl_lt hC
        have hh : h < n := kd_lt hv (by omega)
        have h186 : h < 186 := by omega
        obtain ⟨C', T', hC', hsz⟩ := sz_cl h186 (by omega)
        rw [hk, hC] at hC'
        cases hC'
        have he : (wsO κ ρ w n)[h]? = some (ρ h, .inr (a0 aux, (List.range (szI h).toNat).map (fvl ρ h (w h)))) := by rw [wsO_at hh, celE_obj (by omega), hk]
        have hfv : ((List.range (szI h).toNat).map (fvl ρ h (w h)))[a1 aux]? = some (fvl ρ h (w h) (a1 aux)) := by rw [List.getElem?_map, List.getElem?_range hj]; rfl
        refine va_get (v := fvl ρ h (w h) (a1 aux)) hx hb hts (lay_in hC) hown hK hP h he hC (a1 aux) hj (hts _ hlink) (fun _ h9 => h9) hfv hdec ?_
        rw [← h2, ← hnx]
        by_cases f2 : fty (a0 aux) (a1 aux) = 2
        · rw [if_pos f2] at hF
          have hrf : rfC h (a1 aux) := Or.inl ⟨by omega, by rw [hk]; exact f2⟩
          have hset : ¬ w h (a1 aux) = 0 ∧ PP p l e R s m args below meth c Z D κ A cd pr mx n0 w0 ρ0 (i + 1) l9 (mR (gr h (a1 aux)) :: t) w := by
            by_cases ph : pr.2.1 = 0
            · rw [if_pos ph] at hF
              exact ⟨hall (e8 ph).1 (h, a1 aux) (ref_in h186 (by omega) hrf), hF⟩
            · rw [if_neg ph] at hF; exact hF
          have hfe : fvl ρ h (w h) (a1 aux) = .ref (ρ (gr h (a1 aux))) := by unfold fvl; rw [hk, if_pos f2, if_neg hset.1]
          rw [hfe]
          exact hset.2 ρ n H locs ls hR hE hl (List.forall_mem_cons.mpr ⟨Or.inl ((hok h (a1 aux) hh).2 hrf hset.1), hs⟩) hL
        · rw [if_neg f2] at hF
          by_cases f1 : fty (a0 aux) (a1 aux) = 1
          · rw [if_pos f1] at hF
            have hfe : fvl ρ h (w h) (a1 aux) = .long (Int64.ofInt (w h (a1 aux))) := by unfold fvl; rw [hk, if_neg f2, if_pos f1]
            rw [hfe]
            exact hF ρ n H locs ls hR hE hl (List.forall_mem_cons.mpr ⟨hok.lg hh _ (by unfold tyC; rw [if_pos (by omega), hk]; exact f1), hs⟩) hL
          · rw [if_neg f1] at hF
            have hfe : fvl ρ h (w h) (a1 aux) = .int (Int32.ofInt (w h (a1 aux))) := by unfold fvl; rw [hk, if_neg f2, if_neg f1]
            rw [hfe]
            exact hF ρ n H locs ls hR hE hl (List.forall_mem_cons.mpr ⟨hok.lt hh _ (by unfold tyC; rw [if_pos (by omega), hk]; exact f1), hs⟩) hL
      · rw [if_neg hk] at hF; exact hF.elim
    · exact hF.elim
  case putfield idx =>
    (try dsimp only at hF)
    (try dsimp only at hck)
    simp only [Bool.and_eq_true, decide_eq_true_eq] at hck
    obtain ⟨⟨⟨h1, h2⟩, h3⟩, h5⟩ := hck
    subst h1
    obtain ⟨C, T, N, hC, hj, hlink⟩ := fldW_ok h3
    have hci : a0 aux < 13 := cl_lt hC
    obtain ⟨ct1, ct2, ct3, ct4, ct5⟩ := cl_ty hC hj
    have hpn : pcOf cd (i + 1) = pc + 3 := by rw [hnx, h2]
    split at hF
    · rename_i x h t
      obtain ⟨hva, hs⟩ := List.forall_mem_cons.mp hs
      obtain ⟨hv, hs⟩ := List.forall_mem_cons.mp hs
      by_cases hk : kd h = a0 aux
      · rw [if_pos hk] at hF
        have hh : h < n := kd_lt hv (by omega)
        have hty : ∀ k, k = 0 ∨ k = 3 → fty (a0 aux) (a1 aux) = k → (fvl ρ h (up1 (w h) (a1 aux) x) (a1 aux) = .int (Int32.ofInt x) ∧ okW n (ub w h (a1 aux) x) ∧ (n = 186 → allSet (ub w h (a1 aux) x))) := by
          intro k hk9 hf
          have hnr : ¬ rfC h (a1 aux) := fun q => by
            rcases q with ⟨_, q⟩ | q
            · rw [hk] at q; omega
            · omega
          refine ⟨fvl_num (by rw [hk]; omega) (by rw [hk]; omega), hok.up hh ?_ (fun q _ => absurd q hnr), fun q => (hall q).num hnr⟩
          rw [if_neg]
          · exact hva
          · unfold tyC; rw [if_pos (by omega), hk]; omega
        by_cases f0 : fty (a0 aux) (a1 aux) = 0
        · rw [if_pos f0] at hF
          obtain ⟨t1, t2, t3⟩ := hty 0 (Or.inl rfl) f0
          exact put_go hFr hK hR hE hh hk hC hj hlink h5 t1 (by rw [ct2 f0]; rfl) (by rw [ct2 f0]; rfl) t2 t3 hdec hpn hF hl hs hL
        · rw [if_neg f0] at hF
          by_cases f3 : fty (a0 aux) (a1 aux) = 3
          · rw [if_pos f3] at hF
            obtain ⟨t1, t2, t3⟩ := hty 3 (Or.inr rfl) f3
            obtain ⟨hb01, hF⟩ := hF
            refine put_go hFr hK hR hE hh hk hC hj hlink h5 t1 ?_ ?_ t2 t3 hdec hpn hF hl hs hL
            · rw [ct4 f3]; rcases hb01 with q | q <;> (subst q; rfl)
            · rw [ct4 f3]; rcases hb01 with q | q <;> (subst q; rfl)
          · rw [if_neg f3] at hF; exact hF.elim
      · rw [if_neg hk] at hF; exact hF.elim
    · rename_i x h t
      obtain ⟨hva, hs⟩ := List.forall_mem_cons.mp hs
      obtain ⟨hv, hs⟩ := List.forall_mem_cons.mp hs
      by_cases hk : kd h = a0 aux
      · rw [if_pos hk] at hF
        have hh : h < n := kd_lt hv (by omega)
        by_cases f1 : fty (a0 aux) (a1 aux) = 1
        · rw [if_pos f1] at hF
          have hnr : ¬ rfC h (a1 aux) := fun q => by
            rcases q with ⟨_, q⟩ | q
            · rw [hk] at q; omega
            · omega
          refine put_go hFr hK hR hE hh hk hC hj hlink h5 (fvl_lng (by rw [hk]; exact f1)) (by rw [ct3 f1]; rfl) (by rw [ct3 f1]; rfl) (hok.up hh ?_ (fun q _ => absurd q hnr)) (fun q => (hall q).num hnr) hdec hpn hF hl hs hL
          rw [if_pos]
          · exact hva
          · unfold tyC; rw [if_pos (by omega), hk]; exact f1
        · rw [if_neg f1] at hF; exact hF.elim
      · rw [if_neg hk] at hF; exact hF.elim
    · rename_i g h t
      obtain ⟨hva, hs⟩ := List.forall_mem_cons.mp hs
      obtain ⟨hv, hs⟩ := List.forall_mem_cons.mp hs
      by_cases hk : kd h = a0 aux
      · rw [if_pos hk] at hF
        have hh : h < n := kd_lt hv (by omega)
        by_cases f2 : fty (a0 aux) (a1 aux) = 2
        · rw [if_pos f2] at hF
          by_cases ph : pr.2.1 = 1
          · rw [if_pos ph] at hF
            obtain ⟨hg, hF⟩ := hF
            have hst := hs
            subst hg
            have hgl := gr_lt h (a1 aux)
            have hgn : gr h (a1 aux) < n := hva.elim id (fun q => by omega)
            refine put_go hFr hK hR hE hh hk hC hj hlink h5 (fvl_ref (by rw [hk]; exact f2)) ?_ ?_ (hok.up hh ?_ (fun _ _ => hgn)) (fun q => (hall q).rf) hdec hpn hF hl hst hL
            · rcases ct5 f2 with ⟨_, q⟩ | ⟨_, q⟩ <;> rw [q] <;> rfl
            · rcases ct5 f2 with ⟨_, q⟩ | ⟨_, q⟩ <;> rw [q] <;> rfl
            · rw [if_neg]
              · unfold in32; omega
              · unfold tyC; rw [if_pos (by omega), hk]; omega
          · rw [if_neg ph] at hF; exact hF.elim
        · rw [if_neg f2] at hF; exact hF.elim
      · rw [if_neg hk] at hF; exact hF.elim
    · exact hF.elim
  case iaload =>
    (try dsimp only at hF)
    (try dsimp only at hck)
    simp only [Bool.and_eq_true, decide_eq_true_eq] at hck
    obtain ⟨h1, h2⟩ := hck
    subst h1
    split at hF
    · rename_i j h t
      obtain ⟨hvj, hs⟩ := List.forall_mem_cons.mp hs
      obtain ⟨hv, hs⟩ := List.forall_mem_cons.mp hs
      have hvj : in32 j := hvj
      by_cases hk : kd h = 20 ∨ (kd h = 30 ∧ pr.2.1 = 2)
      · rw [if_pos hk] at hF
        obtain ⟨⟨hj0, hj1⟩, hF⟩ := hF
        by_cases hk2 : kd h = 20
        · have hh : h < n := kd_lt hv (by omega)
          have h186 : h < 186 := by omega
          rw [alen_lt h186] at hj1
          have he : (wsO κ ρ w n)[h]? = some (ρ h, .inl (κ 20, ((szI h).toNat, .inl (fun j => Int32.ofInt (w h j))))) := by rw [wsO_at hh, celE_int (Or.inl hk2), hk2]
          refine va_iald hx hb hK hP h 0 he rfl (ix_in hvj hj0 (by omega)) hdec ?_
          rw [← h2, ← hnx, ix_nat hvj]
          exact hF ρ n H locs ls hR hE hl (List.forall_mem_cons.mpr ⟨hok.lt hh _ (by unfold tyC; rw [if_neg (by omega), if_neg (by omega)]; decide), hs⟩) hL
        · obtain ⟨hk3, ph⟩ := hk.resolve_left hk2
          have h4 := kd_30 hk3
          have hst := hs
          subst h4
          obtain ⟨L, xs, s1, s2, s3, s4, s5, s6⟩ := hscr ph
          have ha : alen w 400 = (L : Int) := by unfold alen; rw [if_pos rfl, e5]; exact s4
          rw [ha] at hj1
          have hjL : j.toNat < L := by omega
          have e3' : ρ 400 = ρ0 400 := e3
          show W p l e R s m args below meth c H locs (cN n0 w0 n w) (sN n0 w0 n w) Z (F0 m pc ls (.int (Int32.ofInt j) :: .ref (ρ 400) :: t.map (toV ρ)))
          rw [e3']
          refine va_sld hx hb s1 s2 s3 hS (ix_in hvj hj0 hj1) hdec ?_
          rw [← h2, ← hnx, ix_nat hvj, show xs j.toNat = Int32.ofInt (w 400 j.toNat) by rw [e4, s6 _ hjL, k3i_back]]
          exact hF ρ n H locs ls hR hE hl (List.forall_mem_cons.mpr ⟨by show in32 _; rw [e4, s6 _ hjL]; exact k3i_in _, hst⟩) hL
      · rw [if_neg hk] at hF; exact hF.elim
    · exact hF.elim
  case laload =>
    (try dsimp only at hF)
    (try dsimp only at hck)
    simp only [Bool.and_eq_true, decide_eq_true_eq] at hck
    obtain ⟨h1, h2⟩ := hck
    subst h1
    split at hF
    · rename_i j h t
      obtain ⟨hvj, hs⟩ := List.forall_mem_cons.mp hs
      obtain ⟨hv, hs⟩ := List.forall_mem_cons.mp hs
      have hvj : in32 j := hvj
      by_cases hk2 : kd h = 21
      · rw [if_pos hk2] at hF
        obtain ⟨⟨hj0, hj1⟩, hF⟩ := hF
        have hh : h < n := kd_lt hv (by omega)
        have h186 : h < 186 := by omega
        rw [alen_lt h186] at hj1
        have he : (wsO κ ρ w n)[h]? = some (ρ h, .inl (κ 21, ((szI h).toNat, .inr (.inl (fun j => Int64.ofInt (w h j)))))) := by rw [wsO_at hh, celE_long hk2]
        refine va_lald hx hb hK hP h 1 he rfl (ix_in hvj hj0 (by omega)) hdec ?_
        rw [← h2, ← hnx, ix_nat hvj]
        exact hF ρ n H locs ls hR hE hl (List.forall_mem_cons.mpr ⟨hok.lg hh _ (by unfold tyC; rw [if_neg (by omega), if_pos hk2]), hs⟩) hL
      · rw [if_neg hk2] at hF; exact hF.elim
    · exact hF.elim
  case baload =>
    (try dsimp only at hF)
    (try dsimp only at hck)
    simp only [Bool.and_eq_true, decide_eq_true_eq] at hck
    obtain ⟨h1, h2⟩ := hck
    subst h1
    split at hF
    · rename_i j h t
      obtain ⟨hvj, hs⟩ := List.forall_mem_cons.mp hs
      obtain ⟨hv, hs⟩ := List.forall_mem_cons.mp hs
      have hvj : in32 j := hvj
      by_cases hk : kd h = 22 ∨ kd h = 23
      · rw [if_pos hk] at hF
        obtain ⟨⟨hj0, hj1⟩, hF⟩ := hF
        have hh : h < n := kd_lt hv (by omega)
        have h186 : h < 186 := by omega
        rw [alen_lt h186] at hj1
        have hin9 : in32 (w h j.toNat) := hok.lt hh _ (by unfold tyC; rw [if_neg (by omega), if_neg (by omega)]; decide)
        by_cases hk2 : kd h = 22
        · have he : (wsO κ ρ w n)[h]? = some (ρ h, .inl (κ 22, ((szI h).toNat, .inl (fun j => Int32.ofInt (w h j))))) := by rw [wsO_at hh, celE_int (Or.inr (Or.inl hk2)), hk2]
          refine va_bald hx hb hK hP h 2 he rfl (ix_in hvj hj0 (by omega)) hdec ?_
          rw [← h2, ← hnx, ix_nat hvj]
          exact hF ρ n H locs ls hR hE hl (List.forall_mem_cons.mpr ⟨hin9, hs⟩) hL
        · have hk3 := hk.resolve_left hk2
          have he : (wsO κ ρ w n)[h]? = some (ρ h, .inl (κ 23, ((szI h).toNat, .inl (fun j => Int32.ofInt (w h j))))) := by rw [wsO_at hh, celE_int (Or.inr (Or.inr hk3)), hk3]
          refine va_zald hx hb hK hP h 3 he rfl (ix_in hvj hj0 (by omega)) hdec ?_
          rw [← h2, ← hnx, ix_nat hvj]
          exact hF ρ n H locs ls hR hE hl (List.forall_mem_cons.mpr ⟨hin9, hs⟩) hL
      · rw [if_neg hk] at hF; exact hF.elim
    · exact hF.elim
  case aaload =>
    (try dsimp only at hF)
    (try dsimp only at hck)
    simp only [Bool.and_eq_true, decide_eq_true_eq] at hck
    obtain ⟨h1, h2⟩ := hck
    subst h1
    split at hF
    · rename_i j h t
      obtain ⟨hvj, hs⟩ := List.forall_mem_cons.mp hs
      obtain ⟨hv, hs⟩ := List.forall_mem_cons.mp hs
      have hvj : in32 j := hvj
      by_cases hk : kd h = 24
      · rw [if_pos hk] at hF
        by_cases ph : pr.2.1 = 0
        · rw [if_pos ph] at hF
          obtain ⟨⟨hj0, hj1⟩, hF⟩ := hF
          have hh : h < n := kd_lt hv (by omega)
          have h186 : h < 186 := by omega
          rw [alen_lt h186] at hj1
          have he : (wsO κ ρ w n)[h]? = some (ρ h, .inl (κ 24, ((szI h).toNat, .inr (.inr (.inr (.inr (fun j => if w h j = 0 then none else some (ρ (gr h j))))))))) := by rw [wsO_at hh, celE_ref hk]
          refine va_aldq hx hb hK hP h 4 he rfl (ix_in hvj hj0 (by omega)) hdec ?_
          have hset : ¬ w h j.toNat = 0 := hall (e8 ph).1 (h, j.toNat) (ref_in h186 (by omega) (Or.inr hk))
          rw [← h2, ← hnx, ix_nat hvj, if_neg hset]
          exact hF ρ n H locs ls hR hE hl (List.forall_mem_cons.mpr ⟨Or.inl ((hok h _ hh).2 (Or.inr hk) hset), hs⟩) hL
        · rw [if_neg ph] at hF; exact hF.elim
      · rw [if_neg hk] at hF; exact hF.elim
    · exact hF.elim
  case iastore =>
    (try dsimp only at hF)
    (try dsimp only at hck)
    simp only [Bool.and_eq_true, decide_eq_true_eq] at hck
    obtain ⟨h1, h2⟩ := hck
    subst h1
    split at hF
    · rename_i x j h t
      obtain ⟨hvx, hs⟩ := List.forall_mem_cons.mp hs
      obtain ⟨hvj, hs⟩ := List.forall_mem_cons.mp hs
      obtain ⟨hv, hs⟩ := List.forall_mem_cons.mp hs
      have hvj : in32 j := hvj
      by_cases hk : kd h = 20
      · rw [if_pos hk] at hF
        obtain ⟨⟨hj0, hj1⟩, hF⟩ := hF
        have hh : h < n := kd_lt hv (by omega)
        have h186 : h < 186 := by omega
        rw [alen_lt h186] at hj1
        have he : (wsO κ ρ w n)[h]? = some (ρ h, .inl (κ 20, ((szI h).toNat, .inl (fun j => Int32.ofInt (w h j))))) := by rw [wsO_at hh, celE_int (Or.inl hk), hk]
        refine va_iast hx hb hK hP hD hS h 0 he rfl (ix_in hvj hj0 (by omega)) hdec (fun H1 locs1 hP1 hD1 hS1 => ?_)
        have hset : (wsO κ ρ w n).set h (ρ h, .inl (κ 20, (szI h).toNat, .inl (upd (fun j => Int32.ofInt (w h j)) (Int32.ofInt j).toNatClampNeg (Int32.ofInt x)))) = wsO κ ρ (ub w h j.toNat x) n := by
          rw [ub_ubf, ← wsO_set hh, celE_int (Or.inl hk), hk, ix_nat hvj, upd_i]
        rw [hset] at hP1 hD1
        have hnr : ¬ rfC h j.toNat := fun q => by rcases q with ⟨q, _⟩ | q <;> omega
        rw [← h2, ← hnx]
        refine PP.store (f := up1 (w h) j.toNat x) hF hh hn hE hn0 (fun q => (hall q).num hnr) (hok.up hh ?_ (fun q _ => absurd q hnr)) hP1 hD1 hS1 hl hs hL
        rw [if_neg]
        · exact hvx
        · unfold tyC; rw [if_neg (by omega)]; rw [if_neg (by omega)]; decide
      · rw [if_neg hk] at hF; exact hF.elim
    · exact hF.elim
  case lastore =>
    (try dsimp only at hF)
    (try dsimp only at hck)
    simp only [Bool.and_eq_true, decide_eq_true_eq] at hck
    obtain ⟨h1, h2⟩ := hck
    subst h1
    split at hF
    · rename_i x j h t
      obtain ⟨hvx, hs⟩ := List.forall_mem_cons.mp hs
      obtain ⟨hvj, hs⟩ := List.forall_mem_cons.mp hs
      obtain ⟨hv, hs⟩ := List.forall_mem_cons.mp hs
      have hvj : in32 j := hvj
      by_cases hk : kd h = 21
      · rw [if_pos hk] at hF
        obtain ⟨⟨hj0, hj1⟩, hF⟩ := hF
        have hh : h < n := kd_lt hv (by omega)
        have h186 : h < 186 := by omega
        rw [alen_lt h186] at hj1
        have he : (wsO κ ρ w n)[h]? = some (ρ h, .inl (κ 21, ((szI h).toNat, .inr (.inl (fun j => Int64.ofInt (w h j)))))) := by rw [wsO_at hh, celE_long hk]
        refine va_last hx hb hK hP hD hS h 1 he rfl (ix_in hvj hj0 (by omega)) hdec (fun H1 locs1 hP1 hD1 hS1 => ?_)
        have hset : (wsO κ ρ w n).set h (ρ h, .inl (κ 21, (szI h).toNat, .inr (.inl (vp_updL (fun j => Int64.ofInt (w h j)) (Int32.ofInt j).toNatClampNeg (Int64.ofInt x))))) = wsO κ ρ (ub w h j.toNat x) n := by
          rw [ub_ubf, ← wsO_set hh, celE_long hk, ix_nat hvj, updL_i]
        rw [hset] at hP1 hD1
        have hnr : ¬ rfC h j.toNat := fun q => by rcases q with ⟨q, _⟩ | q <;> omega
        rw [← h2, ← hnx]
        refine PP.store (f := up1 (w h) j.toNat x) hF hh hn hE hn0 (fun q => (hall q).num hnr) (hok.up hh ?_ (fun q _ => absurd q hnr)) hP1 hD1 hS1 hl hs hL
        rw [if_pos]
        · exact hvx
        · unfold tyC; rw [if_neg (by omega)]; rw [if_pos hk]
      · rw [if_neg hk] at hF; exact hF.elim
    · exact hF.elim
  case bastore =>
    (try dsimp only at hF)
    (try dsimp only at hck)
    simp only [Bool.and_eq_true, decide_eq_true_eq] at hck
    obtain ⟨h1, h2⟩ := hck
    subst h1
    split at hF
    · rename_i x j h t
      obtain ⟨hvx, hs⟩ := List.forall_mem_cons.mp hs
      obtain ⟨hvj, hs⟩ := List.forall_mem_cons.mp hs
      obtain ⟨hv, hs⟩ := List.forall_mem_cons.mp hs
      have hvj : in32 j := hvj
      have go : ∀ (k9 : Nat) (y : Int) (t0 : Nat), (k9 = 22 ∨ k9 = 23) → kd h = k9 → 0 ≤ j → j < alen w h → in32 y → PP p l e R s m args below meth c Z D κ A cd pr mx n0 w0 ρ0 (i + 1) l9 t (ub w h j.toNat y) → ((H1 : Heap) → (locs1 : List Loc) → va_P D vwCl ((wsO κ ρ w n).set h (ρ h, .inl (κ k9, (szI h).toNat, .inl (upd (fun j => Int32.ofInt (w h j)) (Int32.ofInt j).toNatClampNeg (Int32.ofInt y))))) H1 → va_D A ((wsO κ ρ w n).set h (ρ h, .inl (κ k9, (szI h).toNat, .inl (upd (fun j => Int32.ofInt (w h j)) (Int32.ofInt j).toNatClampNeg (Int32.ofInt y))))) → va_S A s.heap H1 locs1 → W p l e R s m args below meth c H1 locs1 (cN n0 w0 n w) (sN n0 w0 n w) Z (F0 m (pc + 1) ls (t.map (toV ρ)))) := by
        intro k9 y t0 hk9 hk hj0 hj1 hy hF H1 locs1 hP1 hD1 hS1
        have hh : h < n := kd_lt hv (by omega)
        have h186 : h < 186 := by omega
        have hset : (wsO κ ρ w n).set h (ρ h, .inl (κ k9, (szI h).toNat, .inl (upd (fun j => Int32.ofInt (w h j)) (Int32.ofInt j).toNatClampNeg (Int32.ofInt y)))) = wsO κ ρ (ub w h j.toNat y) n := by
          rw [ub_ubf, ← wsO_set hh, celE_int (by omega), hk, ix_nat hvj, upd_i]
        rw [hset] at hP1 hD1
        have hnr : ¬ rfC h j.toNat := fun q => by rcases q with ⟨q, _⟩ | q <;> omega
        rw [← h2, ← hnx]
        refine PP.store (f := up1 (w h) j.toNat y) hF hh hn hE hn0 (fun q => (hall q).num hnr) (hok.up hh ?_ (fun q _ => absurd q hnr)) hP1 hD1 hS1 hl hs hL
        rw [if_neg]
        · exact hy
        · unfold tyC; rw [if_neg (by omega), if_neg (by omega)]; decide
      by_cases hk : kd h = 22
      · rw [if_pos hk] at hF
        obtain ⟨⟨hj0, hj1⟩, hF⟩ := hF
        have hh : h < n := kd_lt hv (by omega)
        have h186 : h < 186 := by omega
        have he : (wsO κ ρ w n)[h]? = some (ρ h, .inl (κ 22, ((szI h).toNat, .inl (fun j => Int32.ofInt (w h j))))) := by rw [wsO_at hh, celE_int (Or.inr (Or.inl hk)), hk]
        refine va_bast hx hb hK hP hD hS h 2 he rfl (ix_in hvj hj0 (by rw [alen_lt h186] at hj1; omega)) hdec ?_
        have hy : vp_nar .byte (Int32.ofInt x) = Int32.ofInt (w8 x) := by rw [vp_nar_byte]; exact (k3i_back _).symm
        rw [hy]
        exact go 22 (w8 x) 2 (Or.inl rfl) hk hj0 hj1 (k3i_in _) hF
      · rw [if_neg hk] at hF
        by_cases hk2 : kd h = 23
        · rw [if_pos hk2] at hF
          obtain ⟨⟨hj0, hj1⟩, h01, hF⟩ := hF
          have hh : h < n := kd_lt hv (by omega)
          have h186 : h < 186 := by omega
          have he : (wsO κ ρ w n)[h]? = some (ρ h, .inl (κ 23, ((szI h).toNat, .inl (fun j => Int32.ofInt (w h j))))) := by rw [wsO_at hh, celE_int (Or.inr (Or.inr hk2)), hk2]
          refine va_zast hx hb hK hP hD hS h 3 he rfl (ix_in hvj hj0 (by rw [alen_lt h186] at hj1; omega)) hdec ?_
          have hy : vp_nar .boolean (Int32.ofInt x) = Int32.ofInt x := by rcases h01 with q | q <;> (subst q; decide)
          rw [hy]
          exact go 23 x 3 (Or.inr rfl) hk2 hj0 hj1 hvx hF
        · rw [if_neg hk2] at hF; exact hF.elim
    · exact hF.elim
  case aastore =>
    (try dsimp only at hF)
    (try dsimp only at hck)
    simp only [Bool.and_eq_true, decide_eq_true_eq] at hck
    obtain ⟨h1, h2⟩ := hck
    subst h1
    split at hF
    · rename_i g j h t
      obtain ⟨hvx, hs⟩ := List.forall_mem_cons.mp hs
      obtain ⟨hvj, hs⟩ := List.forall_mem_cons.mp hs
      obtain ⟨hv, hs⟩ := List.forall_mem_cons.mp hs
      have hvj : in32 j := hvj
      by_cases hk : kd h = 24
      · rw [if_pos hk] at hF
        by_cases ph : pr.2.1 = 1
        · rw [if_pos ph] at hF
          obtain ⟨⟨hj0, hj1⟩, hg, hkg, hF⟩ := hF
          have hst := hs
          subst hg
          have hgl := gr_lt h j.toNat
          have hgn : gr h j.toNat < n := hvx.elim id (fun q => by omega)
          have hh : h < n := kd_lt hv (by omega)
          have h186 : h < 186 := by omega
          rw [alen_lt h186] at hj1
          have he : (wsO κ ρ w n)[h]? = some (ρ h, .inl (κ 24, ((szI h).toNat, .inr (.inr (.inr (.inr (fun j => if w h j = 0 then none else some (ρ (gr h j))))))))) := by rw [wsO_at hh, celE_ref hk]
          have hg9 : (wsO κ ρ w n)[gr h j.toNat]? = some (ρ (gr h j.toNat), .inr (2, (List.range (szI (gr h j.toNat)).toNat).map (fvl ρ (gr h j.toNat) (w (gr h j.toNat))))) := by rw [wsO_at hgn, celE_obj (by omega), hkg]
          refine va_astq (r := (RX2, TX2, 4)) hx hb hK hP hD hS h 4 (gr h j.toNat) 2 he rfl hg9 rfl (ix_in hvj hj0 (by omega)) hdec (fun H1 locs1 hP1 hD1 hS1 => ?_)
          have hfe : va_up (fun j => if w h j = 0 then none else some (ρ (gr h j))) (Int32.ofInt j).toNatClampNeg (some (ρ (gr h j.toNat))) = (fun k => if up1 (w h) j.toNat 1 k = 0 then none else some (ρ (gr h k))) := by
            rw [ix_nat hvj]
            funext k
            unfold va_up
            by_cases q : k = j.toNat
            · subst q; rw [if_pos rfl, up1_self, if_neg (by decide)]
            · rw [if_neg q, up1_ne _ q]
          have hset : (wsO κ ρ w n).set h (ρ h, .inl (κ 24, (szI h).toNat, .inr (.inr (.inr (.inr (va_up (fun j => if w h j = 0 then none else some (ρ (gr h j))) (Int32.ofInt j).toNatClampNeg (some (ρ (gr h j.toNat))))))))) = wsO κ ρ (ub w h j.toNat 1) n := by
            rw [hfe, ub_ubf, ← wsO_set hh, celE_ref hk]
          rw [hset] at hP1 hD1
          rw [← h2, ← hnx]
          refine PP.store (f := up1 (w h) j.toNat 1) hF hh hn hE hn0 (fun q => (hall q).rf) (hok.up hh ?_ (fun _ _ => hgn)) hP1 hD1 hS1 hl hst hL
          rw [if_neg]
          · unfold in32; omega
          · unfold tyC; rw [if_neg (by omega), if_neg (by omega)]; decide
        · rw [if_neg ph] at hF; exact hF.elim
      · rw [if_neg hk] at hF; exact hF.elim
    · exact hF.elim
  case arraylength =>
    (try dsimp only at hF)
    (try dsimp only at hck)
    simp only [Bool.and_eq_true, decide_eq_true_eq] at hck
    obtain ⟨h1, h2⟩ := hck
    subst h1
    split at hF
    · rename_i h t
      obtain ⟨hv, hs⟩ := List.forall_mem_cons.mp hs
      by_cases hk : kd h = 20 ∨ kd h = 21 ∨ kd h = 24 ∨ (kd h = 30 ∧ pr.2.1 = 2)
      · rw [if_pos hk] at hF
        by_cases hk3 : kd h = 30
        · have ph : pr.2.1 = 2 := by omega
          have h4 := kd_30 hk3
          have hst := hs
          subst h4
          obtain ⟨L, xs, s1, s2, s3, s4, s5, s6⟩ := hscr ph
          have ha : alen w 400 = (L : Int) := by unfold alen; rw [if_pos rfl, e5]; exact s4
          rw [ha] at hF
          show W p l e R s m args below meth c H locs (cN n0 w0 n w) (sN n0 w0 n w) Z (F0 m pc ls (.ref (ρ 400) :: t.map (toV ρ)))
          rw [e3]
          refine va_slen hx hb s1 s2 s3 hS hdec ?_
          rw [← h2, ← hnx]
          exact hF ρ n H locs ls hR hE hl (List.forall_mem_cons.mpr ⟨by show in32 _; unfold in32; omega, hst⟩) hL
        · have hh : h < n := kd_lt hv hk3
          have h186 : h < 186 := by omega
          rw [alen_lt h186] at hF
          have hz := in32_szI h186
          have hvl : Int32.ofNat (szI h).toNat = Int32.ofInt (szI h) := by rw [← Int32.ofInt_eq_ofNat]; congr 1; omega
          by_cases hk2 : kd h = 20
          · have he : (wsO κ ρ w n)[h]? = some (ρ h, .inl (κ 20, ((szI h).toNat, .inl (fun j => Int32.ofInt (w h j))))) := by rw [wsO_at hh, celE_int (Or.inl hk2), hk2]
            refine va_alen hx hb hK hP h 0 he rfl hvl hdec ?_
            rw [← h2, ← hnx]
            exact hF ρ n H locs ls hR hE hl (List.forall_mem_cons.mpr ⟨hz.1, hs⟩) hL
          · by_cases hk4 : kd h = 21
            · have he : (wsO κ ρ w n)[h]? = some (ρ h, .inl (κ 21, ((szI h).toNat, .inr (.inl (fun j => Int64.ofInt (w h j)))))) := by rw [wsO_at hh, celE_long hk4]
              refine va_alen hx hb hK hP h 1 he rfl hvl hdec ?_
              rw [← h2, ← hnx]
              exact hF ρ n H locs ls hR hE hl (List.forall_mem_cons.mpr ⟨hz.1, hs⟩) hL
            · have hk5 : kd h = 24 := by omega
              have he : (wsO κ ρ w n)[h]? = some (ρ h, .inl (κ 24, ((szI h).toNat, .inr (.inr (.inr (.inr (fun j => if w h j = 0 then none else some (ρ (gr h j))))))))) := by rw [wsO_at hh, celE_ref hk5]
              refine va_alen hx hb hK hP h 4 he rfl hvl hdec ?_
              rw [← h2, ← hnx]
              exact hF ρ n H locs ls hR hE hl (List.forall_mem_cons.mpr ⟨hz.1, hs⟩) hL
      · rw [if_neg hk] at hF; exact hF.elim
    · exact hF.elim
  case new idx =>
    (try dsimp only at hF)
    (try dsimp only at hck)
    simp only [Bool.and_eq_true, decide_eq_true_eq] at hck
    obtain ⟨⟨h1, h2⟩, h3⟩ := hck
    subst h1
    obtain ⟨g1, g2, g3, hF⟩ := hF
    have hnn : (w 401 0).toNat = n := by rw [hn0]; simp
    rw [hnn] at g1 hF
    have hl186 : n < 186 := by
      by_cases q : n < 186
      · exact q
      · have : n = 186 := by omega
        rw [kd_big (by omega) (by omega)] at g1
        omega
    split at h3
    · rename_i C T N hC
      simp only [Bool.and_eq_true] at h3
      obtain ⟨⟨k1, k2⟩, k3⟩ := h3
      obtain ⟨C', T', hC', hsz⟩ := sz_cl hl186 (by omega)
      rw [g1, hC] at hC'
      cases hC'
      have hcp := hcap (fun h => if h = n then 0 else ρ h) (n + 1) (mkNew w) (hE.new hn0 hl186 g3.1 g3.2) (by omega)
      rw [cN_new hn0 hl186 e1, sN_new hn0 hl186 e1] at hcp
      refine va_new (ci := a0 aux) (fs := (List.range (szI n).toNat).map (fvl ρ n (fun _ => 0))) hx hb hts (lay_in hC) (tyOf T) (fun k hk9 => (cl_ty hC hk9).1) hown (hts _ (hasW_in k1 rfl)) (hts _ (hasW_in k2 rfl)) (hts _ (hasW_in k3 rfl)) hK hP hD hS hA hC (fun j hj => ?_) hcp.1 hcp.2 hdec (fun q H1 hP1 hD1 hS1 => ?_)
      · obtain ⟨c1, c2, c3, c4, c5⟩ := cl_ty hC hj
        have hv9 : vp_V ((List.range (szI n).toNat).map (fvl ρ n (fun _ => 0))) j = fvl ρ n (fun _ => 0) j := by
          unfold vp_V
          rw [List.getD_eq_getElem?_getD, List.getElem?_map, List.getElem?_range hj]; rfl
        rw [hv9]
        unfold fvl
        rw [g1]
        by_cases f2 : fty (a0 aux) j = 2
        · rw [if_pos f2, if_pos rfl]
          rcases c5 f2 with ⟨_, q⟩ | ⟨_, q⟩ <;> rw [q] <;> rfl
        · rw [if_neg f2]
          by_cases f1 : fty (a0 aux) j = 1
          · rw [if_pos f1, c3 f1]; rfl
          · rw [if_neg f1]
            by_cases f0 : fty (a0 aux) j = 0
            · rw [c2 f0]; rfl
            · have hc := List.all_eq_true.mp ty_ok (a0 aux) (List.mem_range.mpr (cl_lt hC))
              unfold tyB at hc
              rw [hC] at hc
              have hc2 := List.all_eq_true.mp hc j (List.mem_range.mpr hj)
              simp only [Bool.and_eq_true] at hc2
              cases e9 : tyOf T j <;> rw [e9] at hc2 <;> simp at hc2 <;> first | rfl | omega
      · have hpu := wsO_push (κ := κ) (ρ := ρ) (q := q) hn0 hl186 hok
        rw [celE_obj (by omega), g1] at hpu
        rw [← hpu] at hP1 hD1
        have hag : ∀ g, g < n → (fun h => if h = n then q else ρ h) g = ρ g := fun g hg => if_neg (by omega)
        have hag4 : (fun h => if h = n then q else ρ h) 400 = ρ 400 := if_neg (by omega)
        have hfin := hF (fun h => if h = n then q else ρ h) (n + 1) H1 locs ls ⟨hP1, hD1, hS1, hok.new hn0 hl186, by omega, by rw [mkNew_c hn0 (by omega), if_pos rfl]; push_cast; rfl, fun q9 => ?_⟩ (hE.new hn0 hl186 g3.1 g3.2) (fun v hv => (hl v hv).mono (by omega)) (List.forall_mem_cons.mpr ⟨Or.inl (by omega), fun v hv => (hs v hv).mono (by omega)⟩) (hL.agree hl hag hag4)
        · rw [cN_new hn0 hl186 e1, sN_new hn0 hl186 e1, List.map_cons, map_agree hs hag hag4] at hfin
          rw [← h2, ← hnx]
          have hq : toV (fun h => if h = n then q else ρ h) (mR n) = .ref q := by show Value.ref (if n = n then q else ρ n) = _; rw [if_pos rfl]
          rw [hq] at hfin
          exact hfin
        · have h5 : n = 185 := by omega
          rw [h5, kd_185] at g1
          omega
    · cases h3
  case newarray ty =>
    (try dsimp only at hF)
    (try dsimp only at hck)
    simp only [Bool.and_eq_true, decide_eq_true_eq] at hck
    obtain ⟨⟨⟨⟨h1, h2⟩, h3⟩, h4⟩, h5⟩ := hck
    subst h1
    split at hF
    · rename_i x t
      obtain ⟨hvx, hs⟩ := List.forall_mem_cons.mp hs
      have hst := hs
      obtain ⟨g1, g2, g3, g4, hF⟩ := hF
      have hnn : (w 401 0).toNat = n := by rw [hn0]; simp
      rw [hnn] at g1 g2 hF
      have hl186 : n < 186 := by
        by_cases q : n < 186
        · exact q
        · rw [kd_big (by omega) (by omega)] at g1
          omega
      have hz := in32_szI hl186
      subst g2
      have hkd : kd n = 20 ∨ kd n = 21 ∨ kd n = 22 ∨ kd n = 23 := by
        rw [g1, h3]
        cases ty <;> simp [akd] at h4 ⊢
      have hcp := hcap (fun h => if h = n then 0 else ρ h) (n + 1) (mkNew w) (hE.new hn0 hl186 g3.1 g3.2) (by omega)
      rw [cN_new hn0 hl186 e1, sN_new hn0 hl186 e1] at hcp
      have hnr : ∀ j, ¬ rfC n j := fun j q => by rcases q with ⟨q, _⟩ | q <;> omega
      have key : ∀ (a : vp_A) (tyv : FieldType) (t0 : Nat), newarray.typeOf ty = tyv → (tysO κ)[t0]? = some (κ (kd n), tyv) → celE κ ρ n (fun _ => 0) = .inl (κ (kd n), a) → (∀ cA : ClassId, vp_cell cA a = arrV cA (szI n).toNat (fun _ => defaultValue tyv)) → (tyv = .int ∨ tyv = .long ∨ tyv = .byte ∨ tyv = .boolean) → W p l e R s m args below meth c H locs (cN n0 w0 n w) (sN n0 w0 n w) Z (F0 m pc ls (.int (Int32.ofInt (szI n)) :: t.map (toV ρ))) := by
        intro a tyv t0 hty ht0 hce hca htv
        refine va_newa hx hb (hts _ (hasW_in h5 rfl)) hty hK hP hD hS hA (a0 := a) hca (fun q => by rw [k3i_z, k3i_lt hz.1 in32_0] at q; omega) (ix_nat hz.1) (by rcases htv with q | q | q | q <;> (subst q; simp [componentBytes]; omega)) hcp.1 hcp.2 hdec (fun q cA H1 hK1 hP1 hD1 hS1 => ?_)
        have hcA : cA = κ (kd n) := by
          have r1 := (hK1.2 (tysO κ).length (cA, tyv) (by simp)).2
          have r2 := (hK.2 t0 _ ht0).2
          have r3 : s.vm.findClass ("[" ++ tyv.toString) = some cA := by rcases htv with q | q | q | q <;> (subst q; exact r1)
          have r4 : s.vm.findClass ("[" ++ tyv.toString) = some (κ (kd n)) := by rcases htv with q | q | q | q <;> (subst q; exact r2)
          exact Option.some.inj (r3.symm.trans r4)
        subst hcA
        have hpu := wsO_push (κ := κ) (ρ := ρ) (q := q) hn0 hl186 hok
        rw [hce] at hpu
        rw [← hpu] at hP1 hD1
        have hag : ∀ g, g < n → (fun h => if h = n then q else ρ h) g = ρ g := fun g hg => if_neg (by omega)
        have hag4 : (fun h => if h = n then q else ρ h) 400 = ρ 400 := if_neg (by omega)
        have hfin := hF (fun h => if h = n then q else ρ h) (n + 1) H1 locs ls ⟨hP1, hD1, hS1, hok.new hn0 hl186, by omega, by rw [mkNew_c hn0 (by omega), if_pos rfl]; push_cast; rfl, fun q9 => (g4 (by rw [hn0]; omega)).new hn0 hnr⟩ (hE.new hn0 hl186 g3.1 g3.2) (fun v hv => (hl v hv).mono (by omega)) (List.forall_mem_cons.mpr ⟨Or.inl (by omega), fun v hv => (hst v hv).mono (by omega)⟩) (hL.agree hl hag hag4)
        rw [cN_new hn0 hl186 e1, sN_new hn0 hl186 e1, List.map_cons, map_agree hst hag hag4] at hfin
        rw [← h2, ← hnx]
        have hq : toV (fun h => if h = n then q else ρ h) (mR n) = .ref q := by show Value.ref (if n = n then q else ρ n) = _; rw [if_pos rfl]
        rw [hq] at hfin
        exact hfin
      rw [g1, h3] at hkd
      cases ty <;> simp [akd] at hkd h4 h3
      · exact key ((szI n).toNat, .inl (fun _ => Int32.ofInt 0)) .boolean 3 rfl (by rw [g1, h3]; rfl) (by rw [celE_int (by omega)]) (fun cA => rfl) (by simp)
      · exact key ((szI n).toNat, .inl (fun _ => Int32.ofInt 0)) .byte 2 rfl (by rw [g1, h3]; rfl) (by rw [celE_int (by omega)]) (fun cA => rfl) (by simp)
      · exact key ((szI n).toNat, .inl (fun _ => Int32.ofInt 0)) .int 0 rfl (by rw [g1, h3]; rfl) (by rw [celE_int (by omega)]) (fun cA => rfl) (by simp)
      · exact key ((szI n).toNat, .inr (.inl (fun _ => Int64.ofInt 0))) .long 1 rfl (by rw [g1, h3]; rfl) (by rw [celE_long (by omega), g1, h3]) (fun cA => rfl) (by simp)
    · exact hF.elim
  case anewarray idx =>
    (try dsimp only at hF)
    (try dsimp only at hck)
    simp only [Bool.and_eq_true, decide_eq_true_eq] at hck
    obtain ⟨⟨h1, h2⟩, h3⟩ := hck
    subst h1
    split at hF
    · rename_i x t
      obtain ⟨hvx, hs⟩ := List.forall_mem_cons.mp hs
      have hst := hs
      obtain ⟨g1, g2, g3, hF⟩ := hF
      have hnn : (w 401 0).toNat = n := by rw [hn0]; simp
      rw [hnn] at g1 g2 hF
      have hl186 : n < 186 := by
        by_cases q : n < 186
        · exact q
        · rw [kd_big (by omega) (by omega)] at g1
          omega
      have hz := in32_szI hl186
      subst g2
      have hcp := hcap (fun h => if h = n then 0 else ρ h) (n + 1) (mkNew w) (hE.new hn0 hl186 g3.1 g3.2) (by omega)
      rw [cN_new hn0 hl186 e1, sN_new hn0 hl186 e1] at hcp
      refine va_newq (C := RX2) (N' := (szI n).toNat) hx hb hown (hts _ (hasW_in h3 rfl)) hAO hK hP hD hS hA (fun q => by rw [k3i_z, k3i_lt hz.1 in32_0] at q; omega) (ix_nat hz.1) (by omega) hcp.1 hcp.2 hdec (fun q cA H1 hK1 hP1 hD1 hS1 => ?_)
      have hcA : cA = κ 24 := by
        have r1 := (hK1.2 (tysO κ).length (cA, .object RX2) (by simp)).2
        have r2 := (hK.2 4 (κ 24, .object "ThirdHands$Image") rfl).2
        obtain ⟨_, _, _, _, _, r1⟩ := r1
        obtain ⟨_, _, _, _, _, r2⟩ := r2
        exact Option.some.inj (r1.symm.trans r2)
      subst hcA
      have hpu := wsO_push (κ := κ) (ρ := ρ) (q := q) hn0 hl186 hok
      rw [celE_ref g1] at hpu
      have hpu : wsO κ (fun h => if h = n then q else ρ h) (mkNew w) (n + 1) = wsO κ ρ w n ++ [(q, .inl (κ 24, (szI n).toNat, .inr (.inr (.inr (.inr (fun _ => none))))))] := hpu
      rw [← hpu] at hP1 hD1
      have hag : ∀ g, g < n → (fun h => if h = n then q else ρ h) g = ρ g := fun g hg => if_neg (by omega)
      have hag4 : (fun h => if h = n then q else ρ h) 400 = ρ 400 := if_neg (by omega)
      have hfin := hF (fun h => if h = n then q else ρ h) (n + 1) H1 locs ls ⟨hP1, hD1, hS1, hok.new hn0 hl186, by omega, by rw [mkNew_c hn0 (by omega), if_pos rfl]; push_cast; rfl, fun q9 => ?_⟩ (hE.new hn0 hl186 g3.1 g3.2) (fun v hv => (hl v hv).mono (by omega)) (List.forall_mem_cons.mpr ⟨Or.inl (by omega), fun v hv => (hst v hv).mono (by omega)⟩) (hL.agree hl hag hag4)
      · rw [cN_new hn0 hl186 e1, sN_new hn0 hl186 e1, List.map_cons, map_agree hst hag hag4] at hfin
        rw [← h2, ← hnx]
        have hq : toV (fun h => if h = n then q else ρ h) (mR n) = .ref q := by show Value.ref (if n = n then q else ρ n) = _; rw [if_pos rfl]
        rw [hq] at hfin
        exact hfin
      · have h5 : n = 185 := by omega
        rw [h5, kd_185] at g1
        omega
    · exact hF.elim
  case return_ =>
    (try dsimp only at hF)
    (try dsimp only at hck)
    simp only [decide_eq_true_eq] at hck
    subst hck
    split at hF
    · by_cases q : pr.1 = 0
      · rw [if_pos q] at hF
        exact hret ρ n w H locs none pc ls .return_ hR hE trivial hF hdec (Or.inl ⟨rfl, rfl, q⟩) hL.size
      · rw [if_neg q] at hF; exact hF.elim
    · exact hF.elim
  case ireturn =>
    (try dsimp only at hF)
    (try dsimp only at hck)
    simp only [decide_eq_true_eq] at hck
    subst hck
    split at hF
    · rename_i x
      have hv := hs _ List.mem_cons_self
      by_cases q : pr.1 = 1
      · rw [if_pos q] at hF
        exact hret ρ n w H locs (mI x) pc ls .ireturn hR hE hv hF hdec (Or.inr (Or.inl ⟨x, rfl, rfl, Or.inl q⟩)) hL.size
      · rw [if_neg q] at hF
        by_cases q2 : pr.1 = 2
        · rw [if_pos q2] at hF
          exact hret ρ n w H locs (mI x) pc ls .ireturn hR hE hv hF.2 hdec (Or.inr (Or.inl ⟨x, rfl, rfl, Or.inr ⟨q2, hF.1⟩⟩)) hL.size
        · rw [if_neg q2] at hF; exact hF.elim
    · exact hF.elim
  case lreturn =>
    (try dsimp only at hF)
    (try dsimp only at hck)
    simp only [decide_eq_true_eq] at hck
    subst hck
    split at hF
    · rename_i x
      have hv := hs _ List.mem_cons_self
      by_cases q : pr.1 = 3
      · rw [if_pos q] at hF
        exact hret ρ n w H locs (mL x) pc ls .lreturn hR hE hv hF hdec (Or.inr (Or.inr (Or.inl ⟨x, rfl, rfl, q⟩))) hL.size
      · rw [if_neg q] at hF; exact hF.elim
    · exact hF.elim
  case areturn =>
    (try dsimp only at hF)
    (try dsimp only at hck)
    simp only [decide_eq_true_eq] at hck
    subst hck
    split at hF
    · rename_i x
      have hv := hs _ List.mem_cons_self
      by_cases q : pr.1 = 4
      · rw [if_pos q] at hF
        exact hret ρ n w H locs (mR x) pc ls .areturn hR hE hv hF hdec (Or.inr (Or.inr (Or.inr ⟨x, rfl, rfl, q⟩))) hL.size
      · rw [if_neg q] at hF; exact hF.elim
    · exact hF.elim
  case invokevirtual idx =>
    (try dsimp only at hF)
    (try dsimp only at hck)
    simp only [Bool.and_eq_true, decide_eq_true_eq] at hck
    obtain ⟨⟨⟨⟨h1, h2⟩, h3⟩, h4⟩, h5⟩ := hck
    subst h1
    split at h5
    · rename_i C T N hC
      simp only [Bool.and_eq_true, decide_eq_true_eq] at h5
      obtain ⟨⟨⟨⟨⟨k1, k2⟩, k3⟩, k4⟩, k5⟩, k6⟩ := h5
      by_cases hc1 : catS (s9.drop (a2 aux + 1)) ≤ 8 ∧ rcvK (nthA none s9 (a2 aux)) = nthA 0 aux 3
      · rw [if_pos hc1] at hF
        obtain ⟨hcat, hrcv⟩ := hc1
        obtain ⟨g, hg, hkg⟩ := rcv_is hrcv k2
        obtain ⟨hsp, hlen2⟩ := split_at hg (fun q => by cases q)
        by_cases hph : phM (a1 aux) = 0
        · rw [if_pos hph] at hF
          have hcw : n = 186 ∧ cw (a1 aux) (s9.take (a2 aux + 1)).reverse w (fun r w' => PP p l e R s m args below meth c Z D κ A cd pr mx n0 w0 ρ0 (i + 1) l9 (pushR (rkM (a1 aux)) r (s9.drop (a2 aux + 1))) w') := by
            by_cases p0 : pr.2.1 = 0
            · rw [if_pos p0] at hF; exact ⟨(e8 p0).1, hF⟩
            · rw [if_neg p0] at hF
              by_cases p2 : pr.2.1 = 2
              · rw [if_pos p2] at hF; exact ⟨by have := hF.1; rw [hn0] at this; omega, hF.2⟩
              · rw [if_neg p2] at hF; exact hF.elim
          have hal0 : nAl (a1 aux) = 0 := ph_al (by omega)
          have hokv : ∀ v ∈ (s9.take (a2 aux + 1)).reverse, okV n v := fun v hv => hs v (List.mem_of_mem_take (List.mem_reverse.mp hv))
          have hokr : ∀ v ∈ s9.drop (a2 aux + 1), okV n v := fun v hv => hs v (List.mem_of_mem_drop hv)
          obtain ⟨rm, r1, r2, r3, r4, hM⟩ := hcall (a1 aux) _ w _ h3 hcw.2 ρ n H.size hok (by omega) hn0 hall (fun _ => hcw.1) hokv (Nat.le_trans hbs hS.1) (fun h hh => hAb _ (hD.2 h _ (wsO_at hh)))
          have hgm : mR g ∈ s9 := by rw [← hg]; exact nthA_mem _ _ _ rfl (by rw [hg]; intro q; cases q)
          have hgn : g < n := kd_lt (hs (mR g) hgm) (by rw [hkg]; omega)
          have he : (wsO κ ρ w n)[g]? = some (ρ g, .inr (nthA 0 aux 3, (List.range (szI g).toNat).map (fvl ρ g (w g)))) := by rw [wsO_at hgn, celE_obj (by omega), hkg]
          have htk : s9.take (a2 aux + 1) = s9.take (a2 aux) ++ [mR g] := take_at hg hlen2
          have hargs : (s9.take (a2 aux + 1)).reverse.map (toV ρ) = .ref (ρ g) :: ((s9.take (a2 aux)).map (toV ρ)).reverse := by
            rw [htk, List.reverse_append, List.map_append, List.map_reverse, List.map_reverse]; rfl
          have hstk : s9.map (toV ρ) = ((s9.take (a2 aux)).map (toV ρ)).reverse.reverse ++ .ref (ρ g) :: (s9.drop (a2 aux + 1)).map (toV ρ) := by
            rw [List.reverse_reverse, ← stk_at (ρ := ρ) hsp]
          obtain ⟨y1, y2, y3⟩ := yW_ok h4
          have hmx := mx_le (a1 aux)
          have hcp := hcap ρ n w hE hn
          refine call_go (j := a1 aux) (a := (Value.ref (ρ g) :: ((s9.take (a2 aux)).map (toV ρ)).reverse).toArray) hA hR hE (va_runV (C := C) (b := ρ g) (As := ((s9.take (a2 aux)).map (toV ρ)).reverse) ⟨hx, hb, hml, hown, hts⟩ hM (cwV (a2 aux) hts (good_cons (hasW_in k3 rfl) (good_cons (hasW_in k4 rfl) (good_cons (hasW_in k5 rfl) (good_cons (hasW_in k6 rfl) (wsM_good h3))))) rfl r1 r2 ⟨k1, y1, y2, y3⟩ ⟨r3, by omega⟩) ⟨PreU.blind hEV, va_recv hK hP hC he, fun U hU hW => ⟨by rw [hargs], pre_at hEV hK hP hD hnest hAO hEs hbs hAb hS U hU hW⟩⟩ rfl (by simp; omega) hL.size hstk (lv_room (by rw [catS_eq]; exact hcat)) hdec ⟨by rw [hal0]; exact hcp.1, by rw [hal0, Nat.add_zero, Nat.sub_self]; exact hcp.2⟩) (Or.inl hal0) (by omega) (by rw [hnx, h2]) (fun v w' q => q) hl hokr hL
        · rw [if_neg hph] at hF; exact hF.elim
      · rw [if_neg hc1] at hF; exact hF.elim
    · cases h5
  case invokestatic idx =>
    (try dsimp only at hF)
    (try dsimp only at hck)
    simp only [Bool.and_eq_true, decide_eq_true_eq] at hck
    obtain ⟨⟨h1, h2⟩, hck⟩ := hck
    subst h1
    split at hF
    · rename_i hk9
      rw [hk9] at hck
      (try dsimp only at hck)
      simp only [Bool.and_eq_true] at hck
      obtain ⟨⟨⟨k1, k2⟩, k3⟩, k4⟩ := hck
      split at hF
      · obtain ⟨hvb, hs⟩ := List.forall_mem_cons.mp hs
        obtain ⟨hva, hs⟩ := List.forall_mem_cons.mp hs
        rename_i b a t _ _
        by_cases hcat : catS t ≤ 8
        · rw [if_pos hcat] at hF
          have hcp := hcap ρ n w hE hn
          refine va_mmax hx hb (hml.trans hL.size.symm) hown (hts _ (hasW_in k1 rfl)) (hts _ (hasW_in k2 rfl)) (hts _ (hasW_in k3 rfl)) (hts _ (hasW_in k4 rfl)) hrm.2 (by rw [catS_eq]; omega) hcp.1 hcp.2 hdec ?_
          rw [← h2, ← hnx, mx32 hva hvb]
          exact hF ρ n H locs ls hR hE hl (List.forall_mem_cons.mpr ⟨mxin32 hva hvb, hs⟩) hL
        · rw [if_neg hcat] at hF; exact hF.elim
      · exact hF.elim
    · rename_i hk9
      rw [hk9] at hck
      (try dsimp only at hck)
      simp only [Bool.and_eq_true] at hck
      obtain ⟨⟨⟨k1, k2⟩, k3⟩, k4⟩ := hck
      split at hF
      · obtain ⟨hvb, hs⟩ := List.forall_mem_cons.mp hs
        obtain ⟨hva, hs⟩ := List.forall_mem_cons.mp hs
        rename_i b a t _ _
        by_cases hcat : catS t ≤ 8
        · rw [if_pos hcat] at hF
          have hcp := hcap ρ n w hE hn
          refine va_mmin hx hb (hml.trans hL.size.symm) hown (hts _ (hasW_in k1 rfl)) (hts _ (hasW_in k2 rfl)) (hts _ (hasW_in k3 rfl)) (hts _ (hasW_in k4 rfl)) hrm.2 (by rw [catS_eq]; omega) hcp.1 hcp.2 hdec ?_
          rw [← h2, ← hnx, mn32 hva hvb]
          exact hF ρ n H locs ls hR hE hl (List.forall_mem_cons.mpr ⟨mnin32 hva hvb, hs⟩) hL
        · rw [if_neg hcat] at hF; exact hF.elim
      · exact hF.elim
    · rename_i hk9
      rw [hk9] at hck
      (try dsimp only at hck)
      simp only [Bool.and_eq_true] at hck
      obtain ⟨⟨⟨k1, k2⟩, k3⟩, k4⟩ := hck
      split at hF
      · obtain ⟨hvb, hs⟩ := List.forall_mem_cons.mp hs
        obtain ⟨hva, hs⟩ := List.forall_mem_cons.mp hs
        rename_i b a t _ _
        by_cases hcat : catS t ≤ 8
        · rw [if_pos hcat] at hF
          have hcp := hcap ρ n w hE hn
          refine va_mmax_long hx hb (hml.trans hL.size.symm) hown (hts _ (hasW_in k1 rfl)) (hts _ (hasW_in k2 rfl)) (hts _ (hasW_in k3 rfl)) (hts _ (hasW_in k4 rfl)) hrm.2 (by rw [catS_eq]; omega) hcp.1 hcp.2 hdec ?_
          rw [← h2, ← hnx, mx64 hva hvb]
          exact hF ρ n H locs ls hR hE hl (List.forall_mem_cons.mpr ⟨mxin64 hva hvb, hs⟩) hL
        · rw [if_neg hcat] at hF; exact hF.elim
      · exact hF.elim
    · rename_i hk9
      rw [hk9] at hck
      (try dsimp only at hck)
      simp only [Bool.and_eq_true] at hck
      obtain ⟨⟨⟨k1, k2⟩, k3⟩, k4⟩ := hck
      split at hF
      · obtain ⟨hvb, hs⟩ := List.forall_mem_cons.mp hs
        obtain ⟨hva, hs⟩ := List.forall_mem_cons.mp hs
        rename_i b a t _ _
        by_cases hcat : catS t ≤ 8
        · rw [if_pos hcat] at hF
          have hcp := hcap ρ n w hE hn
          refine va_mmin_long hx hb (hml.trans hL.size.symm) hown (hts _ (hasW_in k1 rfl)) (hts _ (hasW_in k2 rfl)) (hts _ (hasW_in k3 rfl)) (hts _ (hasW_in k4 rfl)) hrm.2 (by rw [catS_eq]; omega) hcp.1 hcp.2 hdec ?_
          rw [← h2, ← hnx, mn64 hva hvb]
          exact hF ρ n H locs ls hR hE hl (List.forall_mem_cons.mpr ⟨mnin64 hva hvb, hs⟩) hL
        · rw [if_neg hcat] at hF; exact hF.elim
      · exact hF.elim
    · rename_i hk9
      rw [hk9] at hck
      (try dsimp only at hck)
      simp only [Bool.and_eq_true] at hck
      obtain ⟨⟨⟨k1, k2⟩, k3⟩, k4⟩ := hck
      split at hF
      · rename_i nn dp d sp h t
        obtain ⟨hvn, hs⟩ := List.forall_mem_cons.mp hs
        obtain ⟨hvdp, hs⟩ := List.forall_mem_cons.mp hs
        obtain ⟨hvd, hs⟩ := List.forall_mem_cons.mp hs
        obtain ⟨hvsp, hs⟩ := List.forall_mem_cons.mp hs
        obtain ⟨hvh, hs⟩ := List.forall_mem_cons.mp hs
        have hvn : in32 nn := hvn
        have hvdp : in32 dp := hvdp
        have hvsp : in32 sp := hvsp
        by_cases hk : (kd h = 20 ∧ kd d = 20) ∧ catS t ≤ 8
        · rw [if_pos hk] at hF
          obtain ⟨⟨q1, q2, q3, q4, q5⟩, hF⟩ := hF
          have hh : h < n := kd_lt hvh (by omega)
          have hd : d < n := kd_lt hvd (by omega)
          have h186 : h < 186 := by omega
          have d186 : d < 186 := by omega
          rw [alen_lt h186] at q4
          rw [alen_lt d186] at q5
          have he : (wsO κ ρ w n)[h]? = some (ρ h, .inl (κ 20, ((szI h).toNat, .inl (fun j => Int32.ofInt (w h j))))) := by rw [wsO_at hh, celE_int (Or.inl hk.1.1), hk.1.1]
          have hed : (wsO κ ρ w n)[d]? = some (ρ d, .inl (κ 20, ((szI d).toNat, .inl (fun j => Int32.ofInt (w d j))))) := by rw [wsO_at hd, celE_int (Or.inl hk.1.2), hk.1.2]
          refine va_copyi (ty := .int) hx hb (hml.trans hL.size.symm) hown (hts _ (hasW_in k1 rfl)) (hts _ (hasW_in k2 rfl)) (hts _ (hasW_in k3 rfl)) (hts _ (hasW_in k4 rfl)) hK hP hD hS h d 0 0 he hed rfl rfl rfl (fun z => by rw [k3i_z, k3i_lt hvsp in32_0] at z; omega) (fun z => by rw [k3i_z, k3i_lt hvdp in32_0] at z; omega) (fun z => by rw [k3i_z, k3i_lt hvn in32_0] at z; omega) (by rw [ix_nat hvsp, ix_nat hvn]; omega) (by rw [ix_nat hvdp, ix_nat hvn]; omega) (fun _ _ => rfl) hrm.2 (Nat.le_trans (Nat.add_le_add_right (by rw [catS_eq]; exact hk.2) _) (Nat.le_trans (by decide +kernel) hrm.1)) hdec (fun H1 locs1 hP1 hD1 hS1 => ?_)
          have hset : (wsO κ ρ w n).set d (ρ d, .inl (κ 20, (szI d).toNat, .inl (va_cpy (fun j => Int32.ofInt (w h j)) (fun j => Int32.ofInt (w d j)) (Int32.ofInt sp).toNatClampNeg (Int32.ofInt dp).toNatClampNeg (Int32.ofInt nn).toNatClampNeg))) = wsO κ ρ (ubf w d (cpyf (w h) (w d) sp.toNat dp.toNat nn.toNat)) n := by
            rw [← wsO_set hd, celE_int (Or.inl hk.1.2), hk.1.2, ix_nat hvsp, ix_nat hvdp, ix_nat hvn]
            congr 6
            funext k
            unfold va_cpy cpyf
            by_cases z : dp.toNat ≤ k ∧ k < dp.toNat + nn.toNat
            · rw [if_pos z, if_pos z]
            · rw [if_neg z, if_neg z]
          rw [hset] at hP1 hD1
          have hnr : ∀ k, ¬ rfC d k := fun k q => by rcases q with ⟨q, _⟩ | q <;> omega
          rw [← h2, ← hnx]
          refine PP.store (f := cpyf (w h) (w d) sp.toNat dp.toNat nn.toNat) hF hd hn hE hn0 (fun q => (hall q).up (fun q9 hq9 e9 => absurd (ref_is hq9).2 (by rw [e9]; exact hnr _))) (hok.set hd (fun k => ⟨?_, fun q _ => absurd q (hnr k)⟩)) hP1 hD1 hS1 hl hs hL
          have t1 : ∀ g k, g < n → kd g = 20 → in32 (w g k) := fun g k hg hk9 => hok.lt hg k (by unfold tyC; rw [if_neg (by omega), if_neg (by omega)]; decide)
          rw [if_neg (by unfold tyC; rw [if_neg (by omega), if_neg (by omega)]; decide)]
          unfold cpyf
          split
          · exact t1 h _ hh hk.1.1
          · exact t1 d _ hd hk.1.2
        · rw [if_neg hk] at hF; exact hF.elim
      · exact hF.elim
    · rename_i hk9
      rw [hk9] at hck
      (try dsimp only at hck)
      simp only [Bool.and_eq_true, decide_eq_true_eq] at hck
      obtain ⟨⟨⟨⟨k1, k2⟩, k3⟩, k4⟩, k5⟩ := hck
      by_cases hc1 : (catS (s9.drop (a2 aux)) ≤ 8 ∧ a2 aux ≤ s9.length) ∧ pr.2.1 = 2
      · rw [if_pos hc1] at hF
        have hst : s9 = s9.take (a2 aux) ++ s9.drop (a2 aux) := (List.take_append_drop _ _).symm
        exact hext (a1 aux) (a2 aux) idx (a2 aux) s9 l9 w (i + 1) ρ n H locs ls pc hc1.2 k5 (by rw [hn0] at hF; omega) hc1.1.1 hc1.1.2 hF.2 hR hE hl hs hL (yW_ok k1) (hasW_in k2 rfl) (hasW_in k3 rfl) (hasW_in k4 rfl) hdec (by rw [hnx, h2])
      · rw [if_neg hc1] at hF; exact hF.elim
    · rename_i g10 g11 g12 g13 g14 g7
      split at hck
      · rename_i z; exact absurd z g10
      · rename_i z; exact absurd z g11
      · rename_i z; exact absurd z g12
      · rename_i z; exact absurd z g13
      · rename_i z; exact absurd z g14
      · rename_i z; exact absurd z g7
      · simp only [Bool.and_eq_true, decide_eq_true_eq] at hck
        obtain ⟨⟨⟨⟨⟨k0, h3⟩, h4⟩, k1⟩, k2⟩, k3⟩ := hck
        by_cases hc1 : catS (s9.drop (a2 aux)) ≤ 8 ∧ a2 aux ≤ s9.length
        · rw [if_pos hc1] at hF
          by_cases hph : phM (a1 aux) = 3 ∨ (phM (a1 aux) = 0 ∧ pr.2.1 = 0)
          · rw [if_pos hph] at hF
            have hal0 : nAl (a1 aux) = 0 := ph_al (by omega)
            have hokv : ∀ v ∈ (s9.take (a2 aux)).reverse, okV n v := fun v hv => hs v (List.mem_of_mem_take (List.mem_reverse.mp hv))
            have hokr : ∀ v ∈ s9.drop (a2 aux), okV n v := fun v hv => hs v (List.mem_of_mem_drop hv)
            obtain ⟨rm, r1, r2, r3, r4, hM⟩ := hcall (a1 aux) _ w _ h3 hF ρ n H.size hok (by omega) hn0 hall (fun z => (e8 (by omega)).1) hokv (Nat.le_trans hbs hS.1) (fun h hh => hAb _ (hD.2 h _ (wsO_at hh)))
            have hargs : (s9.take (a2 aux)).reverse.map (toV ρ) = ((s9.take (a2 aux)).map (toV ρ)).reverse := by rw [List.map_reverse]
            have hstk : s9.map (toV ρ) = ((s9.take (a2 aux)).map (toV ρ)).reverse.reverse ++ (s9.drop (a2 aux)).map (toV ρ) := by
              rw [List.reverse_reverse, ← List.map_append, List.take_append_drop]
            obtain ⟨y1, y2, y3⟩ := yW_ok h4
            have hmx := mx_le (a1 aux)
            have hcp := hcap ρ n w hE hn
            have hpre : PreS s H (va_Pc ((s9.take (a2 aux)).reverse.map (toV ρ)) (PreU EV b0 D κ ρ n w H.size)) ((s9.take (a2 aux)).map (toV ρ)).reverse := ⟨PreU.blind hEV, fun U hU hW => ⟨by rw [hargs], pre_at hEV hK hP hD hnest hAO hEs hbs hAb hS U hU hW⟩⟩
            have hlen3 : (((s9.take (a2 aux)).map (toV ρ)).reverse).length = a2 aux := by simp; omega
            have hrun : va_Run p l e R s m args below meth c H locs (cN n0 w0 n w) (sN n0 w0 n w) (nAl (a1 aux)) (SL (n + nAl (a1 aux)) - SL n) (F0 m pc ls (s9.map (toV ρ))) ((s9.drop (a2 aux)).map (toV ρ)) (QcU D κ ρ n w H.size (rkM (a1 aux)) (nAl (a1 aux)) (fun r w' => PP p l e R s m args below meth c Z D κ A cd pr mx n0 w0 ρ0 (i + 1) l9 (pushR (rkM (a1 aux)) r (s9.drop (a2 aux))) w') (((s9.take (a2 aux)).map (toV ρ)).reverse).toArray) (AAf ρ n H.size) := by
              unfold linkB at k1
              by_cases hn4 : a0 aux = 4 ∨ a0 aux = 5
              · rw [if_pos hn4] at k1
                obtain ⟨x, hx1, hx2⟩ := List.any_eq_true.mp k1
                obtain ⟨a9, i9, y9, b9, rfl⟩ := nest_is hx1
                simp only [Bool.and_eq_true, decide_eq_true_eq] at hx2
                obtain ⟨⟨rfl, rfl⟩, rfl⟩ := hx2
                exact va_runSN ⟨hx, hb, hml, hown, hts⟩ hM ⟨va_cnB (a2 aux) hts (wsM_good h3) rfl r1 r2 (hnest _ hx1) (hts _ (hasW_in k3 rfl)) ⟨y1, y2, y3⟩ ⟨r3, by omega⟩, hts _ (hasW_in k2 rfl), trivial⟩ hpre rfl hlen3 hL.size hstk (lv_room (by rw [catS_eq]; exact hc1.1)) hdec ⟨by rw [hal0]; exact hcp.1, by rw [hal0, Nat.add_zero, Nat.sub_self]; exact hcp.2⟩
              · rw [if_neg hn4] at k1
                exact va_runS ⟨hx, hb, hml, hown, hts⟩ hM ⟨callB_of (a2 aux) hts (wsM_good h3) rfl r1 r2 (hts _ (hasW_in k3 rfl)) (hts _ (hasW_in k1 rfl)) ⟨y1, y2, y3⟩ ⟨r3, by omega⟩, hts _ (hasW_in k2 rfl)⟩ hpre rfl hlen3 hL.size hstk (lv_room (by rw [catS_eq]; exact hc1.1)) hdec ⟨by rw [hal0]; exact hcp.1, by rw [hal0, Nat.add_zero, Nat.sub_self]; exact hcp.2⟩
            exact call_go (j := a1 aux) hA hR hE hrun (Or.inl hal0) (by omega) (by rw [hnx, h2]) (fun v w' q => q) hl hokr hL
          · rw [if_neg hph] at hF; exact hF.elim
        · rw [if_neg hc1] at hF; exact hF.elim
  case invokespecial idx =>
    (try dsimp only at hF)
    (try dsimp only at hck)
    simp only [Bool.and_eq_true, decide_eq_true_eq] at hck
    obtain ⟨⟨h1, h2⟩, hck⟩ := hck
    subst h1
    split at hF
    · rename_i hk9
      rw [hk9] at hck
      (try dsimp only at hck)
      simp only [Bool.and_eq_true] at hck
      obtain ⟨⟨k1, k2⟩, k3⟩ := hck
      split at hF
      · rename_i g t
        by_cases hcat : catS t ≤ 8
        · rw [if_pos hcat] at hF
          refine W.objInit hx hb hown (hts _ (hasW_in k1 rfl)) (hts _ (hasW_in k2 rfl)) (hts _ (hasW_in k3 rfl)) rfl (by rw [hml]; exact hL.size) rfl hdec hrm.2 (by
            have h9 : ((t.map (toV ρ)).map fun v => v.category).sum ≤ 8 := by rw [catS_eq]; exact hcat
            have h8 := lv_room (m := m) (pc := pc) (ls := ls) (rest := (some (Sum.inr (Sum.inr g)) :: t).map (toV ρ)) h9
            have h7 : 2 * (F0 m pc ls ((some (Sum.inr (Sum.inr g)) :: t).map (toV ρ))).monitorRoom + ((t.map (toV ρ)).map fun v => v.category).sum + 12 ≤ 300 := by omega
            exact Nat.le_trans h7 hrm.1) ?_
          refine W.eq (g2 := F0 m (pc + 3) ls (t.map (toV ρ))) rfl ?_
          rw [← h2, ← hnx]
          exact hF ρ n H locs ls hR hE hl (List.forall_mem_cons.mp hs).2 hL
        · rw [if_neg hcat] at hF; exact hF.elim
      · exact hF.elim
    · rename_i g20
      split at hck
      · rename_i z; exact absurd z g20
      · simp only [Bool.and_eq_true, decide_eq_true_eq] at hck
        obtain ⟨⟨⟨⟨⟨⟨k0, h3⟩, h4⟩, h5⟩, k1⟩, k2⟩, k3⟩ := hck
        by_cases hc1 : catS (s9.drop (a2 aux + 1)) ≤ 8 ∧ rcvK (nthA none s9 (a2 aux)) < 20
        · rw [if_pos hc1] at hF
          obtain ⟨hcat, hrcv⟩ := hc1
          obtain ⟨g, hg, hkg⟩ := rcv_is rfl hrcv
          obtain ⟨hsp, hlen2⟩ := split_at hg (fun q => by cases q)
          by_cases hph : phM (a1 aux) = 1 ∧ rkM (a1 aux) = 0
          · rw [if_pos hph] at hF
            obtain ⟨hlim, hF⟩ := hF
            have hn1 : n + nAl (a1 aux) ≤ 186 := by
              have := hlim186 hlim.1
              have := hlim.2
              rw [hn0] at this
              omega
            have hokv : ∀ v ∈ (s9.take (a2 aux + 1)).reverse, okV n v := fun v hv => hs v (List.mem_of_mem_take (List.mem_reverse.mp hv))
            have hokr : ∀ v ∈ s9.drop (a2 aux + 1), okV n v := fun v hv => hs v (List.mem_of_mem_drop hv)
            obtain ⟨rm, r1, r2, r3, r4, hM⟩ := hcall (a1 aux) _ w _ h3 hF ρ n H.size hok hn1 hn0 hall (fun z => by omega) hokv (Nat.le_trans hbs hS.1) (fun h hh => hAb _ (hD.2 h _ (wsO_at hh)))
            have htk : s9.take (a2 aux + 1) = s9.take (a2 aux) ++ [mR g] := take_at hg hlen2
            have hargs : (s9.take (a2 aux + 1)).reverse.map (toV ρ) = .ref (ρ g) :: ((s9.take (a2 aux)).map (toV ρ)).reverse := by
              rw [htk, List.reverse_append, List.map_append, List.map_reverse, List.map_reverse]; rfl
            have hstk : s9.map (toV ρ) = ((s9.take (a2 aux)).map (toV ρ)).reverse.reverse ++ .ref (ρ g) :: (s9.drop (a2 aux + 1)).map (toV ρ) := by
              rw [List.reverse_reverse, ← stk_at (ρ := ρ) hsp]
            obtain ⟨y1, y2, y3⟩ := yW_ok h4
            have hmx := mx_le (a1 aux)
            have hcp := hcap2 ρ n w (a1 aux) hE hlim.1 hn1 (by have := hlim.2; rw [hn0] at this; exact this)
            have hlen3 : (((s9.take (a2 aux)).map (toV ρ)).reverse).length = a2 aux := by simp; omega
            have hpre : PreS s H (va_Pc ((s9.take (a2 aux + 1)).reverse.map (toV ρ)) (PreU EV b0 D κ ρ n w H.size)) (.ref (ρ g) :: ((s9.take (a2 aux)).map (toV ρ)).reverse) := ⟨PreU.blind hEV, fun U hU hW => ⟨by rw [hargs], pre_at hEV hK hP hD hnest hAO hEs hbs hAb hS U hU hW⟩⟩
            have hret0 : rtM (a1 aux) = none := rt_none hph.2
            have hrun : va_Run p l e R s m args below meth c H locs (cN n0 w0 n w) (sN n0 w0 n w) (nAl (a1 aux)) (SL (n + nAl (a1 aux)) - SL n) (F0 m pc ls (s9.map (toV ρ))) ((s9.drop (a2 aux + 1)).map (toV ρ)) (QcU D κ ρ n w H.size (rkM (a1 aux)) (nAl (a1 aux)) (fun _ w' => PP p l e R s m args below meth c Z D κ A cd pr mx n0 w0 ρ0 (i + 1) l9 (s9.drop (a2 aux + 1)) w') (.ref (ρ g) :: ((s9.take (a2 aux)).map (toV ρ)).reverse).toArray) (AAf ρ n H.size) := by
              have hws : wsM (a1 aux) = Jvm.Cond.code (yM (a1 aux)) (bM (a1 aux)) (mxM (a1 aux)) none :: wsB := by unfold wsM; rw [hret0]
              unfold linkB at k1
              by_cases hn4 : a0 aux = 4 ∨ a0 aux = 5
              · rw [if_pos hn4] at k1
                obtain ⟨x, hx1, hx2⟩ := List.any_eq_true.mp k1
                obtain ⟨a9, i9, y9, b9, rfl⟩ := nest_is hx1
                simp only [Bool.and_eq_true, decide_eq_true_eq] at hx2
                obtain ⟨⟨rfl, rfl⟩, rfl⟩ := hx2
                exact va_runIN ⟨hx, hb, hml, hown, hts⟩ hM ⟨va_cnB (a2 aux) hts (wsM_good h3) hws r1 r2 (hnest _ hx1) (hts _ (hasW_in k3 rfl)) ⟨y1, y2, y3⟩ ⟨r3, by omega⟩, h5, hts _ (hasW_in k2 rfl)⟩ hpre rfl hlen3 hL.size hstk (lv_room (by rw [catS_eq]; exact hcat)) hdec hcp
              · rw [if_neg hn4] at k1
                exact va_runI ⟨hx, hb, hml, hown, hts⟩ hM (cwI (a2 aux) hts (wsM_good h3) hws r1 r2 (hts _ (hasW_in k3 rfl)) (hts _ (hasW_in k1 rfl)) (hts _ (hasW_in k2 rfl)) h5 ⟨y1, y2, y3⟩ ⟨r3, by omega⟩) hpre rfl hlen3 hL.size hstk (lv_room (by rw [catS_eq]; exact hcat)) hdec hcp
            exact call_go (j := a1 aux) hA hR hE hrun (Or.inr ⟨hlim.1, hlim.2⟩) hn1 (by rw [hnx, h2]) (fun v w' q => by rw [show pushR (rkM (a1 aux)) v (s9.drop (a2 aux + 1)) = s9.drop (a2 aux + 1) by unfold pushR; rw [if_pos hph.2]]; exact q) hl hokr hL
          · rw [if_neg hph] at hF; exact hF.elim
        · rw [if_neg hc1] at hF; exact hF.elim
  all_goals exact hF.elim
theorem sim_step {p : Program} {l : Launch} {e : Env} {R : Room} {s : State} {m : MethodId} {args : Array Value} {below : List Frame} {meth : Method} {c : Code} {Z : State → Prop} {D : va_G} {κ : Nat → ClassId} {A : Nat → Prop} {cc : ByteArray} {own nm : String} {cd : List Ent} {pr : Pr} {mx n0 : Nat} {w0 : Wd} {ρ0 : Nat → Nat} {cw : CWt} {Q : MV → Wd → Prop}
  (hFr : FrJ p s m args meth c cc own nm mx) (hK : va_K D vwCl (tysO κ) s) (hA : ∀ q : Nat, s.heap.size ≤ q → A q)
  (hckA : ∀ i, i < cd.length → chkE own nm cc mx cd (nthA nE cd i) (pcOf cd (i + 1)) = true)
  (hcap : ∀ ρ n w, Ex pr n0 w0 ρ0 ρ n w → n ≤ 186 → cN n0 w0 n w ≤ R.cells ∧ sN n0 w0 n w ≤ R.slots)
  (hrm : 300 ≤ R.locals ∧ 1 ≤ R.frames)
  (hscr : pr.2.1 = 2 → ∃ (L : Nat) (xs : Nat → Int32), va_X (ρ0 400) L xs s s.heap ∧ ρ0 400 < s.heap.size ∧ ¬ A (ρ0 400) ∧ w0 401 2 = (L : Int) ∧ L ≤ 3072 ∧ ∀ j, j < L → w0 400 j = (xs j).toInt)
  (hlim186 : 0 < pr.2.1 → pr.2.2 ≤ 186)
  (hcap2 : ∀ ρ n w j, Ex pr n0 w0 ρ0 ρ n w → 0 < pr.2.1 → n + nAl j ≤ 186 → (n : Int) + (nAl j : Int) ≤ pr.2.2 → cN n0 w0 n w + nAl j ≤ R.cells ∧ sN n0 w0 n w + (SL (n + nAl j) - SL n) ≤ R.slots)
  {EV : State → Prop} {b0 : Nat} (hEV : EvOK EV b0) (hEs : EV s) (hbs : b0 ≤ s.heap.size) (hAb : ∀ q, A q → b0 ≤ q)
  (hcall : CallH l EV b0 D κ R cw)
  (hext : ∀ (j na idx na2 : Nat) (s9 l9 : List MV) (w : Wd) (i : Nat) (ρ : Nat → Nat) (n : Nat) (H : Heap) (locs : List Loc) (ls : Array Slot) (pc : Nat), pr.2.1 = 2 → 279 ≤ j → n = 186 → catS (s9.drop na) ≤ 8 → na ≤ s9.length → cw j (s9.take na).reverse w (fun r w' => PP p l e R s m args below meth c Z D κ A cd pr mx n0 w0 ρ0 i l9 (pushR (rkM j) r (s9.drop na)) w') → Rl D κ A s.heap ρ n w H locs → Ex pr n0 w0 ρ0 ρ n w → (∀ v ∈ l9, okV n v) → (∀ v ∈ s9, okV n v) → LocR ρ ls mx l9 → ((yM j).cls ≠ "java/lang/invoke/MethodHandle" ∧ (yM j).cls ≠ "java/lang/invoke/VarHandle" ∧ (parseMethodDescriptor (yM j).desc).map (fun d => d.parameters.length) = some na) → Jvm.Cond.methodLink own idx (yM j) ∈ wsB → Jvm.Cond.static (yM j) ∈ wsB → Jvm.Cond.initialized (yM j).cls ∈ wsB → decode cc pc = .ok (.invokestatic idx, 3) → pcOf cd i = pc + 3 → W p l e R s m args below meth c H locs (cN n0 w0 n w) (sN n0 w0 n w) Z (F0 m pc ls (s9.map (toV ρ))))
  (hret : ∀ (ρ : Nat → Nat) (n : Nat) (w : Wd) (H : Heap) (locs : List Loc) (v : MV) (pc : Nat) (ls : Array Slot) (ins : Instr), Rl D κ A s.heap ρ n w H locs → Ex pr n0 w0 ρ0 ρ n w → okV n v → Q v w → decode cc pc = .ok (ins, 1) → retOK pr.1 v ins → ls.size = mx → W p l e R s m args below meth c H locs (cN n0 w0 n w) (sN n0 w0 n w) Z (F0 m pc ls (retS ρ v))) :
  ∀ i l9 s9 w, F cw cd pr Q (PP p l e R s m args below meth c Z D κ A cd pr mx n0 w0 ρ0) i l9 s9 w → PP p l e R s m args below meth c Z D κ A cd pr mx n0 w0 ρ0 i l9 s9 w :=
  fun i => sim_at hFr hK hA i (hckA i) hcap hrm hscr hlim186 hcap2 hEV hEs hbs hAb hcall hext hret

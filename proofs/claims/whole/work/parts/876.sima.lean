
/-! one step of the small machine is a walk of the machine's -/
def FrJ (p : Program) (s : State) (m : MethodId) (args : Array Value) (meth : Method) (c : Code) (cc : ByteArray) (own nm : String) (mx : Nat) : Prop :=
  p.tables.exec = Jvm.exec ∧ c.code = cc ∧ c.maxLocals = mx ∧ s.vm.findClass own = some m.cls ∧ (∀ w ∈ wsB, w.before args s = true) ∧ (nm = "<init>" → meth.name = "<init>") ∧ (∀ w ∈ nestL, va_Nw w s) ∧ va_AO RX2 s
def Rl (D : va_G) (κ : Nat → ClassId) (A : Nat → Prop) (H0 : Heap) (ρ : Nat → Nat) (n : Nat) (w : Wd) (H : Heap) (locs : List Loc) : Prop :=
  va_P D vwCl (wsO κ ρ w n) H ∧ va_D A (wsO κ ρ w n) ∧ va_S A H0 H locs ∧ okW n w ∧ n ≤ 186 ∧ w 401 0 = (n : Int) ∧ (n = 186 → allSet w)
def cN (n0 : Nat) (w0 : Wd) (n : Nat) (w : Wd) : Nat := n - n0 + (w 401 1 - w0 401 1).toNat
def sN (n0 : Nat) (w0 : Wd) (n : Nat) (w : Wd) : Nat := SL n - SL n0 + 6 * (w 401 1 - w0 401 1).toNat
def Ex (pr : Pr) (n0 : Nat) (w0 : Wd) (ρ0 ρ : Nat → Nat) (n : Nat) (w : Wd) : Prop :=
  n0 ≤ n ∧ (∀ h, h < n0 → ρ h = ρ0 h) ∧ ρ 400 = ρ0 400 ∧ w 400 = w0 400 ∧ w 401 2 = w0 401 2 ∧ w0 401 1 ≤ w 401 1 ∧ (¬ pr.2.1 = 2 → w 401 1 = w0 401 1) ∧ (pr.2.1 = 0 → n = 186 ∧ n0 = 186) ∧ (0 < pr.2.1 → (n : Int) ≤ pr.2.2) ∧ (pr.2.1 = 2 → w 401 1 ≤ 512 ∧ w0 401 1 = 0)
def LocR (ρ : Nat → Nat) (ls : Array Slot) (mx : Nat) (l : List MV) : Prop := ∃ lv, lv_has ls mx lv ∧ ∀ i v, nthA none l i = some v → (i, toV ρ (some v)) ∈ lv
def retOK (rk : Nat) (v : MV) (ins : Instr) : Prop := (v = none ∧ ins = .return_ ∧ rk = 0) ∨ (∃ x, v = mI x ∧ ins = .ireturn ∧ (rk = 1 ∨ (rk = 2 ∧ (x = 0 ∨ x = 1)))) ∨ (∃ x, v = mL x ∧ ins = .lreturn ∧ rk = 3) ∨ (∃ h, v = mR h ∧ ins = .areturn ∧ rk = 4)
def retS (ρ : Nat → Nat) (v : MV) : List Value := match v with
  | none => []
  | some x => [toV ρ (some x)]
def PP (p : Program) (l : Launch) (e : Env) (R : Room) (s : State) (m : MethodId) (args : Array Value) (below : List Frame) (meth : Method) (c : Code) (Z : State → Prop) (D : va_G) (κ : Nat → ClassId) (A : Nat → Prop) (cd : List Ent) (pr : Pr) (mx n0 : Nat) (w0 : Wd) (ρ0 : Nat → Nat) : Pt4 := fun i l9 s9 w =>
  ∀ (ρ : Nat → Nat) (n : Nat) (H : Heap) (locs : List Loc) (ls : Array Slot), Rl D κ A s.heap ρ n w H locs → Ex pr n0 w0 ρ0 ρ n w → (∀ v ∈ l9, okV n v) → (∀ v ∈ s9, okV n v) → LocR ρ ls mx l9 →
    W p l e R s m args below meth c H locs (cN n0 w0 n w) (sN n0 w0 n w) Z (F0 m (pcOf cd i) ls (s9.map (toV ρ)))
theorem nthA_mem {α : Type} {d : α} : ∀ (l : List α) (i : Nat) (v : α), nthA d l i = v → ¬ v = d → v ∈ l
  | [], _, _, h, hn => absurd h.symm hn
  | a :: _, 0, _, h, _ => by rw [← h]; exact List.mem_cons_self
  | _ :: t, i + 1, v, h, hn => List.mem_cons_of_mem _ (nthA_mem t i v h hn)
theorem nthA_out {α : Type} {d : α} : ∀ (l : List α) (i : Nat), l.length ≤ i → nthA d l i = d
  | [], _, _ => rfl
  | _ :: t, 0, h => by simp at h
  | _ :: t, i + 1, h => nthA_out t i (by simpa using h)
theorem stA_at {v : MV} : ∀ (l : List MV) (i : Nat), ∀ j, nthA none (stA v l i) j = if j = i ∧ i < l.length then v else nthA none l j
  | [], i, j => by simp [stA, nthA]
  | a :: t, 0, 0 => by simp [stA, nthA]
  | a :: t, 0, j + 1 => by simp [stA, nthA]
  | a :: t, i + 1, 0 => by simp [stA, nthA]
  | a :: t, i + 1, j + 1 => by
    show nthA none (stA v t i) j = if j + 1 = i + 1 ∧ i + 1 < t.length + 1 then v else nthA none t j
    rw [stA_at t i j]
    by_cases q : j = i ∧ i < t.length
    · rw [if_pos q, if_pos (by omega)]
    · rw [if_neg q, if_neg (by omega)]
theorem stA_mem {v x : MV} : ∀ (l : List MV) (i : Nat), x ∈ stA v l i → x = v ∨ x ∈ l
  | [], _, h => Or.inr h
  | a :: t, 0, h => (List.mem_cons.mp h).elim Or.inl (fun q => Or.inr (List.mem_cons_of_mem _ q))
  | a :: t, i + 1, h => (List.mem_cons.mp h).elim (fun q => Or.inr (by rw [q]; exact List.mem_cons_self)) (fun q => (stA_mem t i q).elim Or.inl (fun q => Or.inr (List.mem_cons_of_mem _ q)))
theorem klA_mem {x : MV} {l : List MV} {i : Nat} (h : x ∈ klA l i) : x = none ∨ x ∈ l := by
  unfold klA at h
  split at h
  · exact Or.inr h
  · split at h
    · exact stA_mem _ _ h
    · exact Or.inr h
theorem stI_mem {v x : MV} {l : List MV} {i : Nat} (h : x ∈ stI l i v) : x = v ∨ x = none ∨ x ∈ l := (stA_mem _ _ h).elim Or.inl (fun q => Or.inr (klA_mem q))
theorem stL_mem {v x : MV} {l : List MV} {i : Nat} (h : x ∈ stL l i v) : x = v ∨ x = none ∨ x ∈ l := (stA_mem _ _ h).elim (fun q => Or.inr (Or.inl q)) (fun q => (stA_mem _ _ q).elim Or.inl (fun q => Or.inr (klA_mem q)))
/-- a place that a store leaves -/
theorem klA_at {l : List MV} {i j : Nat} {v : Int ⊕ (Int ⊕ Nat)} (h : nthA none (klA l i) j = some v) : nthA none l j = some v ∧ (j + 1 = i → ∀ x, ¬ v = .inr (.inl x)) := by
  unfold klA at h
  split at h
  · exact ⟨h, fun q => absurd q (by omega)⟩
  · rename_i k
    split at h
    · rw [stA_at] at h
      by_cases q : j = k ∧ k < l.length
      · rw [if_pos q] at h; cases h
      · rw [if_neg q] at h
        refine ⟨h, fun e => ?_⟩
        have hj : j = k := by omega
        by_cases hk : k < l.length
        · exact absurd ⟨hj, hk⟩ q
        · rw [nthA_out l j (by omega)] at h; cases h
    · rename_i hx
      refine ⟨h, fun e x hv => ?_⟩
      have hj : j = k := by omega
      subst hj
      exact hx x (by rw [h, hv])
theorem LocR.stI {ρ : Nat → Nat} {ls : Array Slot} {mx : Nat} {l : List MV} {i : Nat} {v : Int ⊕ (Int ⊕ Nat)} (h : LocR ρ ls mx l) {Pq : Array Slot → Prop} (hc : ∀ x, ¬ v = .inr (.inl x))
    (k : ∀ lv, lv_has ls mx lv → (∀ j v, nthA none l j = some v → (j, toV ρ (some v)) ∈ lv) → ∀ lv', (i, toV ρ (some v)) :: lv.filter (fun q => !(q.1 == i) && !(q.1 + 1 == i && q.2.category == 2)) = lv' → (∀ ls', lv_has ls' mx lv' → LocR ρ ls' mx (stI l i (some v))) → Pq ls) : Pq ls := by
  obtain ⟨lv, h1, h2⟩ := h
  refine k lv h1 h2 _ rfl fun ls' h3 => ⟨_, h3, fun j x hx => ?_⟩
  unfold _root_.Jvm.Pilot.@@N@@.stI at hx
  rw [stA_at] at hx
  by_cases q : j = i ∧ i < (klA l i).length
  · rw [if_pos q] at hx
    cases hx
    rw [q.1]
    exact List.mem_cons_self
  · rw [if_neg q] at hx
    obtain ⟨g1, g2⟩ := klA_at hx
    refine List.mem_cons_of_mem _ (List.mem_filter.mpr ⟨h2 j x g1, ?_⟩)
    have hji : ¬ j = i := fun e => by
      by_cases hl : i < (klA l i).length
      · exact q ⟨e, hl⟩
      · rw [nthA_out _ j (by omega)] at hx; cases hx
    simp only [Bool.and_eq_true, Bool.not_eq_true', beq_eq_false_iff_ne, ne_eq, Bool.and_eq_false_iff]
    refine ⟨hji, ?_⟩
    by_cases e : j + 1 = i
    · refine Or.inr ?_
      match x, g2 e with
      | .inl y, _ => simp [toV, Value.category]
      | .inr (.inr y), _ => simp [toV, Value.category]
      | .inr (.inl y), g => exact absurd rfl (g y)
    · exact Or.inl e
theorem LocR.stL {ρ : Nat → Nat} {ls : Array Slot} {mx : Nat} {l : List MV} {i : Nat} {y : Int} (h : LocR ρ ls mx l) {Pq : Array Slot → Prop}
    (k : ∀ lv, lv_has ls mx lv → ∀ lv', (i, Value.long (Int64.ofInt y)) :: lv.filter (fun q => !(q.1 == i) && (!(q.1 == i + 1) && !(q.1 + 1 == i && q.2.category == 2))) = lv' → (∀ ls', lv_has ls' mx lv' → LocR ρ ls' mx (stL l i (mL y))) → Pq ls) : Pq ls := by
  obtain ⟨lv, h1, h2⟩ := h
  refine k lv h1 _ rfl fun ls' h3 => ⟨_, h3, fun j x hx => ?_⟩
  unfold _root_.Jvm.Pilot.@@N@@.stL at hx
  rw [stA_at] at hx
  by_cases q0 : j = i + 1 ∧ i + 1 < (stA (mL y) (klA l i) i).length
  · rw [if_pos q0] at hx; cases hx
  · rw [if_neg q0, stA_at] at hx
    have hlen : ∀ (v : MV) (l : List MV) (i : Nat), (stA v l i).length = l.length := by
      intro v l
      induction l with
      | nil => intro i; rfl
      | cons a t ih => intro i; cases i with
        | zero => rfl
        | succ i => simp [stA, ih]
    by_cases q : j = i ∧ i < (klA l i).length
    · rw [if_pos q] at hx
      cases hx
      rw [q.1]
      exact List.mem_cons_self
    · rw [if_neg q] at hx
      obtain ⟨g1, g2⟩ := klA_at hx
      refine List.mem_cons_of_mem _ (List.mem_filter.mpr ⟨h2 j x g1, ?_⟩)
      have hj : j < (klA l i).length := by
        by_cases hl : j < (klA l i).length
        · exact hl
        · rw [nthA_out _ j (by omega)] at hx; cases hx
      have hji : ¬ j = i := fun e => q ⟨e, by omega⟩
      have hji2 : ¬ j = i + 1 := fun e => q0 ⟨e, by rw [hlen]; omega⟩
      simp only [Bool.and_eq_true, Bool.not_eq_true', beq_eq_false_iff_ne, ne_eq, Bool.and_eq_false_iff]
      refine ⟨hji, hji2, ?_⟩
      by_cases e : j + 1 = i
      · refine Or.inr ?_
        match x, g2 e with
        | .inl y, _ => simp [toV, Value.category]
        | .inr (.inr y), _ => simp [toV, Value.category]
        | .inr (.inl y), g => exact absurd rfl (g y)
      · exact Or.inl e
theorem LocR.at {ρ : Nat → Nat} {ls : Array Slot} {mx : Nat} {l : List MV} {i : Nat} {v : Int ⊕ (Int ⊕ Nat)} (h : LocR ρ ls mx l) (hv : nthA none l i = some v) : ls[i]? = some (.val (toV ρ (some v))) := by
  obtain ⟨lv, h1, h2⟩ := h
  exact h1.2.2 _ (h2 i v hv)
theorem LocR.size {ρ : Nat → Nat} {ls : Array Slot} {mx : Nat} {l : List MV} (h : LocR ρ ls mx l) : ls.size = mx := by
  obtain ⟨lv, h1, -⟩ := h
  exact h1.1
theorem catS_eq (ρ : Nat → Nat) : ∀ (s : List MV), ((s.map (toV ρ)).map fun v => v.category).sum = catS s
  | [] => rfl
  | v :: t => by
    show (toV ρ v).category + _ = catV v + catS t
    rw [← catS_eq ρ t]
    congr 1
    match v with
    | none => rfl
    | some (.inl _) => rfl
    | some (.inr (.inl _)) => rfl
    | some (.inr (.inr _)) => rfl
theorem okV.mono {n n' : Nat} {v : MV} (h : okV n v) (hn : n ≤ n') : okV n' v := by
  match v, h with
  | none, _ => exact trivial
  | some (.inl _), h => exact h
  | some (.inr (.inl _)), h => exact h
  | some (.inr (.inr _)), h => exact h.elim (fun q => Or.inl (Nat.lt_of_lt_of_le q hn)) Or.inr
theorem okW.lt {n h : Nat} {w : Wd} (ho : okW n w) (hh : h < n) (j : Nat) (hk : ¬ tyC h j = 1) : in32 (w h j) := by
  have h1 := (ho h j hh).1
  rwa [if_neg hk] at h1
theorem okW.lg {n h : Nat} {w : Wd} (ho : okW n w) (hh : h < n) (j : Nat) (hk : tyC h j = 1) : in64 (w h j) := by
  have h1 := (ho h j hh).1
  rwa [if_pos hk] at h1
theorem okW.set {n h : Nat} {w : Wd} (ho : okW n w) (hh : h < n) {f : Nat → Int} (hf : ∀ j, (if tyC h j = 1 then in64 (f j) else in32 (f j)) ∧ (rfC h j → ¬ f j = 0 → gr h j < n)) : okW n (ubf w h f) := by
  intro h' j hh'
  by_cases q : h' = h
  · subst q; rw [ubf_self]; exact hf j
  · rw [ubf_ne _ q]; exact ho h' j hh'
theorem okW.up {n h j : Nat} {w : Wd} {x : Int} (ho : okW n w) (hh : h < n) (hx : if tyC h j = 1 then in64 x else in32 x) (hr : rfC h j → ¬ x = 0 → gr h j < n) : okW n (ub w h j x) := by
  refine ho.set hh fun k => ?_
  by_cases q : k = j
  · subst q; rw [up1_self]; exact ⟨hx, hr⟩
  · rw [up1_ne _ q]; exact ho h k hh
theorem map_set {ρ : Nat → Nat} {h N j : Nat} {f : Nat → Int} (x : Int) (hj : j < N) : ((List.range N).map (fvl ρ h f)).set j (fvl ρ h (up1 f j x) j) = (List.range N).map (fvl ρ h (up1 f j x)) := by
  apply List.ext_getElem?
  intro k
  by_cases q : k = j
  · subst q
    rw [List.getElem?_set_self (by simpa using hj), List.getElem?_map, List.getElem?_range hj]
    rfl
  · rw [List.getElem?_set_ne (Ne.symm q), List.getElem?_map, List.getElem?_map]
    by_cases hk : k < N
    · rw [List.getElem?_range hk]
      show some _ = some _
      unfold fvl
      rw [up1_ne _ q]
    · rw [List.getElem?_eq_none (by simpa using hk)]; rfl
theorem upd_i (f : Nat → Int) (j : Nat) (x : Int) : upd (fun k => Int32.ofInt (f k)) j (Int32.ofInt x) = fun k => Int32.ofInt (up1 f j x k) := by
  funext k
  unfold upd up1
  by_cases q : k = j
  · rw [if_pos q, if_pos q]
  · rw [if_neg q, if_neg q]
theorem updL_i (f : Nat → Int) (j : Nat) (x : Int) : vp_updL (fun k => Int64.ofInt (f k)) j (Int64.ofInt x) = fun k => Int64.ofInt (up1 f j x k) := by
  funext k
  unfold vp_updL up1
  by_cases q : k = j
  · rw [if_pos q, if_pos q]
  · rw [if_neg q, if_neg q]
theorem allSet.up {w : Wd} {h : Nat} {f : Nat → Int} (ha : allSet w) (hf : ∀ q ∈ refL, q.1 = h → ¬ f q.2 = 0) : allSet (ubf w h f) := by
  intro q hq
  by_cases e : q.1 = h
  · rw [e, ubf_self]; exact hf q hq e
  · rw [ubf_ne _ e]; exact ha q hq
theorem celE_obj {κ : Nat → ClassId} {ρ : Nat → Nat} {h : Nat} {f : Nat → Int} (hk : kd h < 20) : celE κ ρ h f = .inr (kd h, (List.range (szI h).toNat).map (fvl ρ h f)) := by unfold celE; rw [if_pos hk]
theorem celE_int {κ : Nat → ClassId} {ρ : Nat → Nat} {h : Nat} {f : Nat → Int} (hk : kd h = 20 ∨ kd h = 22 ∨ kd h = 23) : celE κ ρ h f = .inl (κ (kd h), ((szI h).toNat, .inl (fun j => Int32.ofInt (f j)))) := by
  unfold celE; rw [if_neg (by omega), if_neg (by omega), if_neg (by omega)]
theorem celE_long {κ : Nat → ClassId} {ρ : Nat → Nat} {h : Nat} {f : Nat → Int} (hk : kd h = 21) : celE κ ρ h f = .inl (κ 21, ((szI h).toNat, .inr (.inl (fun j => Int64.ofInt (f j))))) := by
  unfold celE; rw [if_neg (by omega), if_pos hk]
theorem celE_ref {κ : Nat → ClassId} {ρ : Nat → Nat} {h : Nat} {f : Nat → Int} (hk : kd h = 24) : celE κ ρ h f = .inl (κ 24, ((szI h).toNat, .inr (.inr (.inr (.inr (fun j => if f j = 0 then none else some (ρ (gr h j)))))))) := by
  unfold celE; rw [if_neg (by omega), if_neg (by omega), if_pos hk]
theorem kd_lt {h n : Nat} (hh : h < n ∨ h = 400) (hk : ¬ kd h = 30) : h < n := hh.elim id (fun q => absurd (by rw [q]; rfl) hk)
theorem in32_szI {h : Nat} (hh : h < 186) : in32 (szI h) ∧ 0 ≤ szI h ∧ szI h ≤ 2000 := by
  by_cases hk : kd h < 20
  · obtain ⟨C, T, h1, h2⟩ := sz_cl hh hk
    have h3 : (szI h).toNat ≤ 80 := by
      have h4 : ∀ k < 13, ∀ q, vwCl[k]? = some q → q.2.2 ≤ 80 := by
        intro k hk2 q hq
        have : ∀ q ∈ vwCl, q.2.2 ≤ 80 := by decide +kernel
        exact this q (List.mem_of_getElem? hq)
      exact h4 _ (cl_lt h1) _ h1
    unfold in32; omega
  · have := sz_arr hh hk
    unfold in32; omega

theorem sw_in {cd : List Ent} {pc d : Nat} {K : Nat → Prop} {x : Int} : ∀ (ts : List Nat) (os : List Int) (lo : Int), swB cd pc os ts = true → swP lo ts x d K → os.length = ts.length ∧ ((x < lo ∨ lo + (ts.length : Int) ≤ x) → K d) ∧ (∀ k : Nat, x - lo = (k : Int) → k < ts.length → ∃ (t : Nat) (off : Int), os[k]? = some off ∧ (pc : Int) + off = (pcOf cd t : Int) ∧ K t)
  | [], [], lo, _, h => ⟨rfl, fun _ => h, fun k _ hk => absurd hk (by simp)⟩
  | [], _ :: _, _, h, _ => by simp [swB] at h
  | _ :: _, [], _, h, _ => by simp [swB] at h
  | t :: ts, off :: os, lo, hb, h => by
    simp only [swB, Bool.and_eq_true, decide_eq_true_eq] at hb
    by_cases q : x = lo
    · refine ⟨?_, fun hx => ?_, fun k hk hl => ?_⟩
      · have hlen : ∀ (os : List Int) (ts : List Nat), swB cd pc os ts = true → os.length = ts.length := by
          intro os
          induction os with
          | nil => intro ts h; cases ts with
            | nil => rfl
            | cons a t => simp [swB] at h
          | cons o os ih => intro ts h; cases ts with
            | nil => simp [swB] at h
            | cons a t =>
              simp only [swB, Bool.and_eq_true] at h
              simp [ih t h.2]
        simp [hlen os ts hb.2]
      · simp only [List.length_cons] at hx
        omega
      · have hk0 : k = 0 := by omega
        subst hk0
        exact ⟨t, off, rfl, hb.1, h.1 q⟩
    · obtain ⟨g1, g2, g3⟩ := sw_in ts os (lo + 1) hb.2 (h.2 q)
      refine ⟨by simp [g1], fun hx => g2 ?_, fun k hk hl => ?_⟩
      · simp only [List.length_cons] at hx
        omega
      · cases k with
        | zero => exact absurd (by omega) q
        | succ k =>
          obtain ⟨t', off', q1, q2, q3⟩ := g3 k (by omega) (by simpa using hl)
          exact ⟨t', off', by rw [List.getElem?_cons_succ]; exact q1, q2, q3⟩
theorem fldW_ok {own : String} {idx ci j q : Nat} (h : fldW own idx ci j q = true) : ∃ (C : String) (T : u_T) (N : Nat), vwCl[ci]? = some (C, T, N) ∧ j < N ∧ (Jvm.Cond.fieldLink own idx (T j).1 (T j).2.1 (T j).2.2.1) ∈ wsB := by
  unfold fldW at h
  split at h
  · rename_i C T N hC
    simp only [Bool.and_eq_true, decide_eq_true_eq] at h
    exact ⟨C, T, N, hC, h.1, hasW_in h.2 rfl⟩
  · cases h
theorem kd_30 {h : Nat} (hk : kd h = 30) : h = 400 := by
  by_cases q : h = 400
  · exact q
  · unfold kd at hk
    rw [if_neg q] at hk
    have h1 : ∀ x ∈ kdL, ¬ x = 30 := by decide +kernel
    by_cases hl : h < kdL.length
    · have h2 := nthA_mem (d := 99) kdL h 30 hk (by decide)
      exact absurd rfl (h1 30 h2)
    · rw [nthA_out _ _ (by omega)] at hk
      exact absurd hk (by decide)
theorem kd_400 : kd 400 = 30 := rfl
theorem kd_big {h : Nat} (hh : 186 ≤ h) (hq : ¬ h = 400) : kd h = 99 := by
  unfold kd
  rw [if_neg hq]
  exact nthA_out _ _ (by have : kdL.length = 186 := by decide +kernel
                         omega)
theorem ubf_hi {w : Wd} {h g : Nat} (f : Nat → Int) (hh : h < 186) (hg : 400 ≤ g) : ubf w h f g = w g := ubf_ne _ (by omega)
theorem Ex.ubf {pr : Pr} {n0 : Nat} {w0 : Wd} {ρ0 ρ : Nat → Nat} {n h : Nat} {w : Wd} (hE : Ex pr n0 w0 ρ0 ρ n w) (f : Nat → Int) (hh : h < 186) : Ex pr n0 w0 ρ0 ρ n (ubf w h f) := by
  unfold Ex at *
  rw [ubf_hi f hh (Nat.le_refl 400), ubf_hi f hh (show 400 ≤ 401 by decide)]
  exact hE
theorem cN_ubf {n0 n h : Nat} {w0 w : Wd} (f : Nat → Int) (hh : h < 186) : cN n0 w0 n (ubf w h f) = cN n0 w0 n w := by
  unfold cN; rw [ubf_hi f hh (show 400 ≤ 401 by decide)]
theorem sN_ubf {n0 n h : Nat} {w0 w : Wd} (f : Nat → Int) (hh : h < 186) : sN n0 w0 n (ubf w h f) = sN n0 w0 n w := by
  unfold sN; rw [ubf_hi f hh (show 400 ≤ 401 by decide)]
theorem toV_agree {ρ ρ' : Nat → Nat} {n : Nat} {v : MV} (h : okV n v) (ha : ∀ g, g < n → ρ' g = ρ g) (h4 : ρ' 400 = ρ 400) : toV ρ' v = toV ρ v := by
  match v, h with
  | none, _ => rfl
  | some (.inl _), _ => rfl
  | some (.inr (.inl _)), _ => rfl
  | some (.inr (.inr g)), h =>
    show Value.ref (ρ' g) = Value.ref (ρ g)
    rcases h with q | q
    · rw [ha g q]
    · rw [q, h4]
theorem map_agree {ρ ρ' : Nat → Nat} {n : Nat} {s : List MV} (h : ∀ v ∈ s, okV n v) (ha : ∀ g, g < n → ρ' g = ρ g) (h4 : ρ' 400 = ρ 400) : s.map (toV ρ') = s.map (toV ρ) :=
  List.map_congr_left fun v hv => toV_agree (h v hv) ha h4
theorem LocR.agree {ρ ρ' : Nat → Nat} {n mx : Nat} {ls : Array Slot} {l : List MV} (hL : LocR ρ ls mx l) (h : ∀ v ∈ l, okV n v) (ha : ∀ g, g < n → ρ' g = ρ g) (h4 : ρ' 400 = ρ 400) : LocR ρ' ls mx l := by
  obtain ⟨lv, h1, h2⟩ := hL
  refine ⟨lv, h1, fun i v hv => ?_⟩
  rw [toV_agree (h _ (nthA_mem _ _ _ hv (fun q => by cases q))) ha h4]
  exact h2 i v hv
/-- behind a store -/
theorem PP.store {p : Program} {l : Launch} {e : Env} {R : Room} {s : State} {m : MethodId} {args : Array Value} {below : List Frame} {meth : Method} {c : Code} {Z : State → Prop} {D : va_G} {κ : Nat → ClassId} {A : Nat → Prop} {cd : List Ent} {pr : Pr} {mx n0 : Nat} {w0 : Wd} {ρ0 ρ : Nat → Nat} {i n h : Nat} {l9 s9 : List MV} {w : Wd} {f : Nat → Int} {H1 : Heap} {locs1 : List Loc} {ls : Array Slot}
    (hF : PP p l e R s m args below meth c Z D κ A cd pr mx n0 w0 ρ0 i l9 s9 (ubf w h f)) (hh : h < n) (hn : n ≤ 186) (hE : Ex pr n0 w0 ρ0 ρ n w) (hn0 : w 401 0 = (n : Int)) (hall : n = 186 → allSet (ubf w h f)) (hok : okW n (ubf w h f))
    (hP : va_P D vwCl (wsO κ ρ (ubf w h f) n) H1) (hD : va_D A (wsO κ ρ (ubf w h f) n)) (hS : va_S A s.heap H1 locs1) (hl : ∀ v ∈ l9, okV n v) (hs : ∀ v ∈ s9, okV n v) (hL : LocR ρ ls mx l9) :
    W p l e R s m args below meth c H1 locs1 (cN n0 w0 n w) (sN n0 w0 n w) Z (F0 m (pcOf cd i) ls (s9.map (toV ρ))) := by
  have h186 : h < 186 := Nat.lt_of_lt_of_le hh hn
  rw [← cN_ubf f h186, ← sN_ubf f h186]
  exact hF ρ n H1 locs1 ls ⟨hP, hD, hS, hok, hn, by rw [ubf_hi f h186 (show 400 ≤ 401 by decide)]; exact hn0, hall⟩ (hE.ubf f h186) hl hs hL
/-- a store of a number leaves the references set -/
theorem allSet.num {w : Wd} {h j : Nat} {x : Int} (ha : allSet w) (hr : ¬ rfC h j) : allSet (ub w h j x) := by
  rw [ub_ubf]
  refine allSet.up ha fun q hq e => ?_
  subst e
  by_cases q2 : q.2 = j
  · subst q2; exact absurd (ref_is hq).2 hr
  · rw [up1_ne _ q2]; exact ha q hq
theorem allSet.rf {w : Wd} {h j : Nat} (ha : allSet w) : allSet (ub w h j 1) := by
  rw [ub_ubf]
  refine allSet.up ha fun q hq e => ?_
  subst e
  by_cases q2 : q.2 = j
  · subst q2; rw [up1_self]; decide
  · rw [up1_ne _ q2]; exact ha q hq

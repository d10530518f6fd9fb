/-! what a method leaves: the script and the counters -/
def KW (w0 w : Wd) : Prop := w 400 = w0 400 ∧ w 401 = w0 401
theorem KW.r (w : Wd) : KW w w := ⟨rfl, rfl⟩
theorem KW.t {a b c : Wd} (h : KW a b) (h2 : KW b c) : KW a c := ⟨h2.1.trans h.1, h2.2.trans h.2⟩
theorem kd_ne {h k : Nat} (e : kd h = k) (hk : k < 30) : h ≠ 400 ∧ h ≠ 401 := by
  constructor
  · intro z; rw [z] at e
    have : kd 400 = 30 := rfl
    omega
  · intro z; rw [z] at e
    have : kd 401 = 99 := rfl
    omega
theorem KW.ub {w : Wd} {h i : Nat} {v : Int} (e : h ≠ 400 ∧ h ≠ 401) : KW w (ub w h i v) := ⟨ub_ne _ _ (fun z => e.1 z.symm), ub_ne _ _ (fun z => e.2 z.symm)⟩
theorem KW.ubf {w : Wd} {h : Nat} {f : Nat → Int} (e : h ≠ 400 ∧ h ≠ 401) : KW w (ubf w h f) := ⟨ubf_ne _ (fun z => e.1 z.symm), ubf_ne _ (fun z => e.2 z.symm)⟩
def pfE (e : Ent) : Bool := match e with
  | (_, ins, _, aux, _) => match ins with
    | .putfield _ => decide (a0 aux < 30)
    | .invokevirtual _ => decide (a1 aux < 279)
    | .invokestatic _ => decide (a1 aux < 279)
    | _ => true
def pfC (cd : List Ent) : Prop := ∀ i, pfE (nthA nE cd i) = true
theorem ph_al1 : ∀ j, phM j = 1 → 1 ≤ nAl j := by
  have h : ∀ j, j < 300 → phM j = 1 → 1 ≤ nAl j := by decide +kernel
  intro j hj
  by_cases z : j < 300
  · exact h j z hj
  · exfalso
    have : ∀ (l : List Nat) (k : Nat), l.length ≤ k → nthA 9 l k = 9 := by
      intro l
      induction l with
      | nil => intro k _; rfl
      | cons a t ih =>
        intro k hk
        cases k with
        | zero => exact absurd hk (by simp)
        | succ k => exact ih k (by simp at hk; omega)
    have e : phM j = 9 := this phL j (by have : phL.length ≤ 300 := by decide +kernel
                                         omega)
    omega
theorem F_keep {cw : CWt} (hc : ∀ j a w (Q : MV → Wd → Prop), j < 279 → phM j ≠ 1 → cw j a w Q → cw j a w (fun r w' => Q r w' ∧ KW w w')) {cd : List Ent} {pr : Pr} (h2 : pr.2.1 ≠ 2) (h1 : pr.2.1 ≠ 1) (hpf : pfC cd) {Q : MV → Wd → Prop} {P : Pt4} {i : Nat} {l s : List MV} {w : Wd} (hn : pr.2.2 ≤ w 401 0) :
    F cw cd pr Q P i l s w → F cw cd pr (fun r w' => Q r w' ∧ KW w w') (fun i l s w' => P i l s w' ∧ KW w w') i l s w := by
  have hpe := hpf i
  unfold F
  generalize nthA nE cd i = e at *
  obtain ⟨_, ins, _, aux, c⟩ := e
  have p0 : ∀ i l s, P i l s w → P i l s w ∧ KW w w := fun i l s h => ⟨h, KW.r w⟩
  have q0 : ∀ r, Q r w → Q r w ∧ KW w w := fun r h => ⟨h, KW.r w⟩
  cases ins <;> dsimp only
  case invokestatic =>
    have hj : a1 aux < 279 := of_decide_eq_true hpe
    split
    · split <;> first | exact id | exact ite_mono _ (fun _ => p0 _ _ _) (fun _ h => h)
    · split <;> first | exact id | exact ite_mono _ (fun _ => p0 _ _ _) (fun _ h => h)
    · split <;> first | exact id | exact ite_mono _ (fun _ => p0 _ _ _) (fun _ h => h)
    · split <;> first | exact id | exact ite_mono _ (fun _ => p0 _ _ _) (fun _ h => h)
    · split
      · refine ite_mono _ (fun z h => ⟨h.1, h.2, KW.ubf (kd_ne z.1.2 (by decide))⟩) (fun _ h => h)
      · exact id
    · exact ite_mono _ (fun z => absurd z.2 h2) (fun _ h => h)
    · refine ite_mono _ (fun _ => ite_mono _ (fun z h => ?_) (fun _ h => h)) (fun _ h => h)
      exact hc _ _ _ _ hj (by rcases z with z | z <;> omega) h
  case invokevirtual =>
    have hj : a1 aux < 279 := of_decide_eq_true hpe
    refine ite_mono _ (fun _ => ite_mono _ (fun z => ite_mono _ (fun _ h => ?_) (fun _ => ite_mono _ (fun z2 => absurd z2 h2) (fun _ h => h))) (fun _ h => h)) (fun _ h => h)
    exact hc _ _ _ _ hj (by omega) h
  case invokespecial =>
    split
    · split <;> first | exact id | exact ite_mono _ (fun _ => p0 _ _ _) (fun _ h => h)
    · refine ite_mono _ (fun _ => ite_mono _ (fun z h => ?_) (fun _ h => h)) (fun _ h => h)
      exfalso
      have := ph_al1 _ z.1
      have := h.1.2
      omega
  case tableswitch =>
    split
    · exact swP_mono (fun t => p0 _ _ _) _ _ _ _
    · exact id
  case new => exact fun h => absurd h.2.2.1.2 (by omega)
  case newarray =>
    split
    · exact fun h => absurd h.2.2.1.2 (by omega)
    · exact id
  case anewarray =>
    split
    · exact fun h => absurd h.2.2.1.2 (by omega)
    · exact id
  case getfield =>
    split
    · exact ite_mono _ (fun _ => ite_mono _ (fun _ => ite_mono _ (fun _ => p0 _ _ _) (fun _ h => ⟨h.1, p0 _ _ _ h.2⟩)) (fun _ => ite_mono _ (fun _ => p0 _ _ _) (fun _ => p0 _ _ _))) (fun _ h => h)
    · exact id
  case putfield =>
    have hk : a0 aux < 30 := of_decide_eq_true hpe
    split
    · exact ite_mono _ (fun z => ite_mono _ (fun _ h => ⟨h, KW.ub (kd_ne z hk)⟩) (fun _ => ite_mono _ (fun _ h => ⟨h.1, h.2, KW.ub (kd_ne z hk)⟩) (fun _ h => h))) (fun _ h => h)
    · exact ite_mono _ (fun z => ite_mono _ (fun _ h => ⟨h, KW.ub (kd_ne z hk)⟩) (fun _ h => h)) (fun _ h => h)
    · exact ite_mono _ (fun _ => ite_mono _ (fun _ => ite_mono _ (fun z => absurd z h1) (fun _ h => h)) (fun _ h => h)) (fun _ h => h)
    · exact id
  case ireturn =>
    split
    · exact ite_mono _ (fun _ => q0 _) (fun _ => ite_mono _ (fun _ h => ⟨h.1, q0 _ h.2⟩) (fun _ h => h))
    · exact id
  case return_ => 
    split
    · exact ite_mono _ (fun _ => q0 _) (fun _ h => h)
    · exact id
  case lreturn => 
    split
    · exact ite_mono _ (fun _ => q0 _) (fun _ h => h)
    · exact id
  case areturn => 
    split
    · exact ite_mono _ (fun _ => q0 _) (fun _ h => h)
    · exact id
  case ifCond =>
    split
    · exact fun h => ⟨fun q => p0 _ _ _ (h.1 q), fun q => p0 _ _ _ (h.2 q)⟩
    · exact id
  case if_icmp =>
    split
    · exact fun h => ⟨fun q => p0 _ _ _ (h.1 q), fun q => p0 _ _ _ (h.2 q)⟩
    · exact id
  case iastore =>
    split
    · exact ite_mono _ (fun z h => ⟨h.1, h.2, KW.ub (kd_ne z (by decide))⟩) (fun _ h => h)
    · exact id
  case lastore =>
    split
    · exact ite_mono _ (fun z h => ⟨h.1, h.2, KW.ub (kd_ne z (by decide))⟩) (fun _ h => h)
    · exact id
  case bastore =>
    split
    · exact ite_mono _ (fun z h => ⟨h.1, h.2, KW.ub (kd_ne z (by decide))⟩) (fun _ => ite_mono _ (fun z h => ⟨h.1, h.2.1, h.2.2, KW.ub (kd_ne z (by decide))⟩) (fun _ h => h))
    · exact id
  case aaload =>
    split
    · exact ite_mono _ (fun _ => ite_mono _ (fun _ h => ⟨h.1, p0 _ _ _ h.2⟩) (fun _ h => h)) (fun _ h => h)
    · exact id
  case aastore =>
    split
    · exact ite_mono _ (fun _ => ite_mono _ (fun z => absurd z h1) (fun _ h => h)) (fun _ h => h)
    · exact id
  all_goals first
    | exact id
    | exact p0 _ _ _
    | (split
       · exact fun h => ⟨h.1, p0 _ _ _ h.2⟩
       · exact id)
    | (split
       · exact p0 _ _ _
       · exact id)
    | (split
       · exact p0 _ _ _
       · exact p0 _ _ _
       · exact id)
    | (split
       · exact ite_mono _ (fun _ h => ⟨h.1, p0 _ _ _ h.2⟩) (fun _ h => h)
       · exact id)
    | (split
       · exact ite_mono _ (fun _ h => p0 _ _ _ h) (fun _ h => h)
       · exact id)
theorem Wp_keep {cw : CWt} (hm : ∀ j a w (Q Q' : MV → Wd → Prop), (∀ r w, Q r w → Q' r w) → cw j a w Q → cw j a w Q') (hc : ∀ j a w (Q : MV → Wd → Prop), j < 279 → phM j ≠ 1 → cw j a w Q → cw j a w (fun r w' => Q r w' ∧ KW w w')) {cd : List Ent} {pr : Pr} (h2 : pr.2.1 ≠ 2) (h1 : pr.2.1 ≠ 1) (hpf : pfC cd) {Q : MV → Wd → Prop} {i : Nat} {l s : List MV} {w0 : Wd} (hn : pr.2.2 ≤ w0 401 0) (h : Wp cw cd pr Q i l s w0) : Wp cw cd pr (fun r w' => Q r w' ∧ KW w0 w') i l s w0 := by
  have G := h (fun i l s w => ∀ w1, KW w1 w → pr.2.2 ≤ w1 401 0 → Wp cw cd pr (fun r w' => Q r w' ∧ KW w1 w') i l s w) (fun i l s w hF w1 k n => by
    have n2 : pr.2.2 ≤ w 401 0 := by rw [k.2]; exact n
    have F2 := F_keep hc h2 h1 hpf n2 hF
    refine Wp.st hm (F_mono hm (fun r w' q => ⟨q.1, k.t q.2⟩) (fun i l s w' q => ?_) F2)
    exact q.1 w1 (k.t q.2) n)
  exact G w0 (KW.r w0) hn
def pfB : Bool := (List.range 279).all (fun j => (cdM j).all pfE && decide (phM j = 1 ∨ (nAl j = 0 ∧ phM j ≠ 2)))
set_option maxRecDepth 100000 in
theorem pf_ok : pfB = true := by decide +kernel
theorem nthA_all {f : Ent → Bool} (h0 : f nE = true) : ∀ {l : List Ent}, l.all f = true → ∀ i, f (nthA nE l i) = true
  | [], _, _ => h0
  | a :: t, h, 0 => by
    rw [List.all_cons, Bool.and_eq_true] at h
    exact h.1
  | a :: t, h, i + 1 => by
    rw [List.all_cons, Bool.and_eq_true] at h
    exact nthA_all h0 h.2 i
theorem Cw_keep : ∀ (d j : Nat) (a : List MV) (w : Wd) (Q : MV → Wd → Prop), j < 279 → phM j ≠ 1 → Cw d j a w Q → Cw d j a w (fun r w' => Q r w' ∧ KW w w')
  | 0, _, _, _, _, _, _, h => h.elim
  | d + 1, j, a, w, Q, hj, hp, h => by
    have j1 : ¬ j = 1 := fun z => hp (by rw [z]; decide)
    have pf := List.all_eq_true.mp pf_ok j (List.mem_range.mpr hj)
    rw [Bool.and_eq_true] at pf
    have al := (of_decide_eq_true pf.2).resolve_left hp
    unfold Cw at h ⊢
    rw [if_neg j1, if_neg (by omega), if_neg (by omega), if_neg (by omega), if_neg (by omega)] at h ⊢
    refine ⟨h.1, ?_⟩
    have g := Wp_keep (fun j a w Q Q' => Cw_mono d j a w Q Q') (fun j a w Q => Cw_keep d j a w Q) (pr := (rkM j, phM j, w 401 0 + (nAl j : Int))) al.2 hp (nthA_all (by decide) pf.1) (by show w 401 0 + (nAl j : Int) ≤ w 401 0; rw [al.1]; omega) h.2
    refine Wp.mono (fun j a w Q Q' => Cw_mono d j a w Q Q') (fun r w' q => ?_) g
    have q1 := q.1
    rw [if_neg hp] at q1 ⊢
    exact ⟨q1, q.2⟩

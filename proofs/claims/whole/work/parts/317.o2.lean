def woF (s : Nat → Int) (a so : Int) : Nat → Nat → Int
  | 0, _ => 0
  | m + 1, v => if s (109 + 4 * v) = a ∧ s (110 + 4 * v) = so then s (111 + 4 * v) else woF s a so m (v + 1)
theorem woF_yes {s : Nat → Int} {a so : Int} {m v : Nat} (h : s (109 + 4 * v) = a ∧ s (110 + 4 * v) = so) : woF s a so (m + 1) v = s (111 + 4 * v) := by
  show (if s (109 + 4 * v) = a ∧ s (110 + 4 * v) = so then s (111 + 4 * v) else woF s a so m (v + 1)) = _
  rw [if_pos h]
theorem woF_no {s : Nat → Int} {a so : Int} {m v : Nat} (h : ¬ (s (109 + 4 * v) = a ∧ s (110 + 4 * v) = so)) : woF s a so (m + 1) v = woF s a so m (v + 1) := by
  show (if s (109 + 4 * v) = a ∧ s (110 + 4 * v) = so then s (111 + 4 * v) else woF s a so m (v + 1)) = _
  rw [if_neg h]
theorem S_worth {d : Nat} {Q : MV → Wd → Prop} {w : Wd} {s nms : Nat → Int} (rv : RV (w 4) (w 5) (w 6) (w 7) (w 8) (w 9) (w 10) (w 11) (w 12) (w 13) (w 14) (w 15) s nms) (ws : WS s) (a so : Int) (k : Q (mI (woF s a so (s 3).toNat 0)) w) : Cw (d + 2) 138 [mR 137, mI a, mI so] w Q := by
  have wa := ws.wa
  apply Ring_worth_137_en
  intro n1
  have lp : ∀ (m v : Nat), v + m = (s 3).toNat → woF s a so (s 3).toNat 0 = woF s a so m v → Wp (Cw (d + 1)) cd_Ring_worth (1, 0, n1) Q 2 [mR 137, mI a, mI so, mI v] [] w := by
    intro m
    induction m with
    | zero =>
      intro v hv he
      rw [he] at k
      apply Ring_worth_137_c2
      rw [rv.wants]
      exact ⟨fun _ => k, fun z => absurd (show s 3 ≤ (v : Int) by omega) z⟩
    | succ m ih =>
      intro v hv he
      have w0 := rv.want (4 * v) (by omega)
      have w1 := rv.want (4 * v + 1) (by omega)
      have w2 := rv.want (4 * v + 2) (by omega)
      rw [show 109 + (4 * v + 1) = 110 + 4 * v by omega] at w1
      rw [show 109 + (4 * v + 2) = 111 + 4 * v by omega] at w2
      have no : ¬ (s (109 + 4 * v) = a ∧ s (110 + 4 * v) = so) → Wp (Cw (d + 1)) cd_Ring_worth (1, 0, n1) Q 2 [mR 137, mI a, mI so, mI (v + 1 : Nat)] [] w := fun z => ih (v + 1) (by omega) (by rw [he, woF_no z])
      apply Ring_worth_137_c2
      rw [rv.wants, ix4_0 (by omega), ix4_1 (by omega), ix4_2 (by omega), Int.toNat_natCast, Int.toNat_natCast, Int.toNat_natCast, w0, w1, w2, ixs (k := v) (by omega)]
      refine ⟨fun z => by exfalso; omega, fun _ => ⟨by omega, fun z => no (fun g => z g.1), fun z => ⟨by omega, fun z2 => no (fun g => z2 g.2), fun z2 => ⟨by omega, ?_⟩⟩⟩⟩
      rw [he, woF_yes ⟨Classical.not_not.mp z, Classical.not_not.mp z2⟩] at k
      exact k
  exact lp (s 3).toNat 0 (by omega) rfl
/-- pains of the first e givings, and what the last one gains -/
def paF (s : Nat → Int) (K : Nat) (r : Nat → Nat) (i : Nat) (g : Nat → Int) : Nat → (Nat → Int)
  | 0 => g
  | e + 1 => up1 (paF s K r i g e) ((i + e) % K) (w32 (paF s K r i g e ((i + e) % K) - s (141 + (8 * r ((i + e) % K) + r ((i + e + 1) % K)))))
def seF (s : Nat → Int) (K : Nat) (r : Nat → Nat) (u i : Nat) (g : Nat → Int) : Nat → Int :=
  up1 (paF s K r i g ((s 4).toNat - 1)) ((i + ((s 4).toNat - 1)) % K) (w32 (paF s K r i g ((s 4).toNat - 1) ((i + ((s 4).toNat - 1)) % K) + woF s (r ((i + ((s 4).toNat - 1)) % K)) (s (30 + 5 * u)) (s 3).toNat 0))
noncomputable def gaS (s : Nat → Int) (K : Nat) (r : Nat → Nat) (i : Nat) (g : Nat → Int) : Nat → Int :=
  if ubF s (r i) (s 2).toNat 0 < 0 then g else @ite _ (goP s K r (ubF s (r i) (s 2).toNat 0).toNat i) (Classical.propDecidable _) (seF s K r (ubF s (r i) (s 2).toNat 0).toNat i g) g
noncomputable def gaF (s : Nat → Int) (K : Nat) (r : Nat → Nat) : Nat → (Nat → Int)
  | 0 => fun _ => 0
  | i + 1 => gaS s K r i (gaF s K r i)
def EqK (K : Nat) (f g : Nat → Int) : Prop := ∀ i, i < K → f i = g i
theorem EqK.up {K : Nat} {f g : Nat → Int} (h : EqK K f g) (i : Nat) (x : Int) : EqK K (up1 f i x) (up1 g i x) := fun j hj => by
  rw [up1_ap, up1_ap]
  by_cases z : j = i
  · rw [if_pos z, if_pos z]
  · rw [if_neg z, if_neg z]; exact h j hj
theorem S_send {d : Nat} {Q : MV → Wd → Prop} {w : Wd} {s nms : Nat → Int} {K : Nat} {r : Nat → Nat} (rv : RV (w 4) (w 5) (w 6) (w 7) (w 8) (w 9) (w 10) (w 11) (w 12) (w 13) (w 14) (w 15) s nms) (ws : WS s) (rg : RgP s K r) (K0 : 0 < K) (c : ClR w K r) (cl : cloP s K r) (u i : Nat) (hu : (u : Int) < s 2) (hi : i < K) (g : Nat → Int) (hg : EqK K (w 139) g)
    (k : ∀ f, EqK K f (seF s K r u i g) → Q none (ubf w 139 f)) : Cw (d + 5) 137 [mR 137, mI u, mI i] w Q := by
  have K8 := rg.K8
  have un := ws.un
  have la := ws.la
  have nk : ¬ (K : Int) ≤ 0 := by omega
  have kk0 : ¬ (K : Int) = 0 := by omega
  apply Ring_send_137_en
  intro n1
  have lp : ∀ (m e : Nat) (f : Nat → Int), e + m = (s 4).toNat - 1 → EqK K f (paF s K r i g e) → Wp (Cw (d + 4)) cd_Ring_send (0, 0, n1) Q 2 [mR 137, mI u, mI i, mI e] [] (ubf w 139 f) := by
    intro m
    induction m with
    | zero =>
      intro e f he hf
      have he : e = (s 4).toNat - 1 := by omega
      obtain ⟨m1, m2⟩ := mod8 (a := i + ((s 4).toNat - 1)) K0 K8
      have c1 : (ubf w 139 f) 137 2 = K := c.1
      have a1 : (ubf w 139 f) 138 ((i + ((s 4).toNat - 1)) % K) = r ((i + ((s 4).toNat - 1)) % K) := c.2 _ m1
      have e4 : (ubf w 139 f) 4 15 = s 4 := rv.n
      have e11 : (ubf w 139 f) 11 (5 * u) = s (30 + 5 * u) := rv.usort u hu
      have e139 : ∀ j, (ubf w 139 f) 139 j = f j := fun j => by rw [ubf_ap, if_pos rfl]
      have ix : Int.tmod (w32 (w32 ((i : Int) + s 4) - 1)) (K : Int) = (((i + ((s 4).toNat - 1)) % K : Nat) : Int) := by
        rw [w32_id (x := (i : Int) + s 4) (by unfold in32; omega), w32_id (by unfold in32; omega), show (i : Int) + s 4 - 1 = ((i + ((s 4).toNat - 1) : Nat) : Int) by omega]; rfl
      apply Ring_send_137_c2
      rw [e4, c1, ix, Int.toNat_natCast, a1, ix5_0 (by omega), Int.toNat_natCast, e11, w32_id (x := s 4 - 1) (by unfold in32; omega), e139]
      clear ix
      refine ⟨fun _ => ⟨fun z => absurd z nk, fun _ => ⟨kk0, by omega, by omega, by omega, ?_⟩⟩, fun z => absurd (show s 4 - 1 ≤ (e : Int) by omega) z⟩
      refine S_worth (d := d + 2) (w := ubf w 139 f) rv ws _ _ ?_
      refine ⟨_, rfl, by omega, ?_⟩
      rw [ub_on]
      refine k _ ?_
      rw [he] at hf
      rw [e139, hf _ m1]
      exact hf.up _ _
    | succ m ih =>
      intro e f he hf
      obtain ⟨m1, m2⟩ := mod8 (a := i + e) K0 K8
      obtain ⟨m3, m4⟩ := mod8 (a := i + e + 1) K0 K8
      have c1 : (ubf w 139 f) 137 2 = K := c.1
      have e4 : (ubf w 139 f) 4 15 = s 4 := rv.n
      have e139 : ∀ j, (ubf w 139 f) 139 j = f j := fun j => by rw [ubf_ap, if_pos rfl]
      apply Ring_send_137_c2
      rw [e4, c1, tmw (by omega), Int.toNat_natCast, w32_id (x := s 4 - 1) (by unfold in32; omega), e139, ixs (k := e) (by omega)]
      refine ⟨fun z => by exfalso; omega, fun _ => ⟨fun z => absurd z nk, fun _ => ⟨kk0, by omega, ?_⟩⟩⟩
      rw [show (i : Int) + (e : Int) = ((i + e : Nat) : Int) by omega, w32n (n := i + e) (by omega)]
      refine S_painsFrom (d := d + 1) (w := ubf w 139 f) rg K0 c (i + e) (by omega) ?_
      refine ⟨_, rfl, by omega, ?_⟩
      rw [ub_on]
      have b1 := (rg.lt _ m1).1
      have b2 := (rg.lt _ m3).1
      have e3 : ((i + e) % K + 1) % K = (i + e + 1) % K := by rw [Nat.mod_add_mod]
      have tl := cl _ m1
      rw [e3] at tl
      have pn : (ubf w 139 f) 14 (8 * r ((i + e) % K) + r ((i + e + 1) % K)) = s (141 + (8 * r ((i + e) % K) + r ((i + e + 1) % K))) := (rv.told _ (by omega) tl).1
      rw [pn]
      refine ih (e + 1) _ (by omega) ?_
      show EqK K _ (up1 (paF s K r i g e) ((i + e) % K) (w32 (paF s K r i g e ((i + e) % K) - s (141 + (8 * r ((i + e) % K) + r ((i + e + 1) % K))))))
      rw [e139, hf _ m1]
      exact hf.up _ _
  have L := lp ((s 4).toNat - 1) 0 (w 139) (by omega) hg
  rw [ubf_sf0] at L
  exact L
theorem S_reckon {d : Nat} {Q : MV → Wd → Prop} {w : Wd} {s nms : Nat → Int} {K : Nat} {r : Nat → Nat} (rv : RV (w 4) (w 5) (w 6) (w 7) (w 8) (w 9) (w 10) (w 11) (w 12) (w 13) (w 14) (w 15) s nms) (ws : WS s) (rg : RgP s K r) (K0 : 0 < K) (c : ClR w K r) (cl : cloP s K r)
    (k : ∀ f, EqK K f (gaF s K r K) → Q none (ubf w 139 f)) : Cw (d + 6) 134 [mR 137] w Q := by
  have K8 := rg.K8
  have un := ws.un
  apply Ring_reckon_137_en
  intro n1
  refine S_fillI (d := d + 4) 139 8 0 rfl rfl (by decide) (by decide) ?_
  intro g0 hg0 _
  have lp : ∀ (m i : Nat) (f : Nat → Int), i + m = K → EqK K f (gaF s K r i) → Wp (Cw (d + 5)) cd_Ring_reckon (0, 0, n1) Q 6 [mR 137, mI i, none] [] (ubf w 139 f) := by
    intro m
    induction m with
    | zero =>
      intro i f hi hf
      have : i = K := by omega
      subst this
      have c1 : (ubf w 139 f) 137 2 = i := c.1
      apply Ring_reckon_137_c6
      rw [c1]
      exact ⟨fun _ => k f hf, fun z => absurd (Int.le_refl _) z⟩
    | succ m ih =>
      intro i f hi hf
      have c1 : (ubf w 139 f) 137 2 = K := c.1
      have a1 : (ubf w 139 f) 138 i = r i := c.2 i (by omega)
      have eg : gaF s K r (i + 1) = gaS s K r i (gaF s K r i) := rfl
      have i1 := fun f h => ih (i + 1) f (by omega) h
      apply Ring_reckon_137_c6
      rw [c1, Int.toNat_natCast, a1, ixs (k := i) (by omega)]
      refine ⟨fun z => by exfalso; omega, fun _ => ⟨by omega, ?_⟩⟩
      refine S_madeBy (d := d + 3) (w := ubf w 139 f) rv ws (r i : Int) ?_
      refine ⟨_, rfl, fun z => ?_, fun z => ?_⟩
      · refine i1 f ?_
        rw [eg]
        unfold gaS
        rw [if_pos (by omega)]
        exact hf
      · rcases ubF_bd s (r i : Int) (s 2).toNat 0 with q | ⟨u, hq, hu⟩
        · exact absurd q z
        · rw [hq] at z ⊢
          have ng : ¬ (u : Int) < 0 := by omega
          refine S_goes (d := d + 2) (w := ubf w 139 f) rv ws rg K0 c u i (by omega) (by omega) (fun y => ?_) (fun y => ?_)
          · refine ⟨_, rfl, fun q => absurd q (by decide), fun _ => ?_⟩
            refine S_send (d := d) (w := ubf w 139 f) rv ws rg K0 c cl u i (by omega) (by omega) (gaF s K r i) (by rw [ubf_self]; exact hf) ?_
            intro f2 hf2
            have ew : ubf (ubf w 139 f) 139 f2 = ubf w 139 f2 := by
              funext a b
              rw [ubf_ap, ubf_ap, ubf_ap]
              by_cases z : a = 139 <;> simp [z]
            rw [ew]
            refine i1 f2 ?_
            rw [eg]
            unfold gaS
            rw [hq, if_neg ng, Int.toNat_natCast, if_pos y]
            exact hf2
          · refine ⟨_, rfl, fun _ => i1 f ?_, fun q => absurd rfl q⟩
            rw [eg]
            unfold gaS
            rw [hq, if_neg ng, Int.toNat_natCast, if_neg y]
            exact hf
  exact lp K 0 g0 (by omega) (fun i hi => hg0 i (by omega))
/-- who loses, as bits -/
def loF (r : Nat → Nat) (g : Nat → Int) : Nat → Int
  | 0 => 0
  | i + 1 => if 0 ≤ g i then ior (loF r g i) 0 else ior (loF r g i) (ishl 1 (r i : Int))
theorem loF_bit {K : Nat} {r : Nat → Nat} (h8 : ∀ i, i < K → r i < 8) (g : Nat → Int) : ∀ i, i ≤ K → ∀ p, p < 32 → (tb (loF r g i) p = true ↔ ∃ j, j < i ∧ r j = p ∧ g j < 0)
  | 0, _, p, _ => by
    show tb 0 p = true ↔ _
    rw [tb_zero]
    exact ⟨fun q => absurd q (by decide), fun y => y.elim (fun j a => absurd a.1 (Nat.not_lt_zero _))⟩
  | i + 1, hi, p, hp => by
    have ih := loF_bit h8 g i (by omega) p hp
    have b := h8 i (by omega)
    show tb (if 0 ≤ g i then ior (loF r g i) 0 else ior (loF r g i) (ishl 1 (r i : Int))) p = true ↔ _
    by_cases z : 0 ≤ g i
    · rw [if_pos z, tb_or, tb_zero, Bool.or_false, ih]
      constructor
      · rintro ⟨j, a, e, f⟩; exact ⟨j, by omega, e, f⟩
      · rintro ⟨j, a, e, f⟩
        refine ⟨j, ?_, e, f⟩
        have : j ≠ i := by intro q; subst q; omega
        omega
    · rw [if_neg z, tb_or, tb_bit (by omega) (by omega), Int.toNat_natCast, Bool.or_eq_true, ih, decide_eq_true_eq]
      constructor
      · rintro (⟨j, a, e, f⟩ | q)
        · exact ⟨j, by omega, e, f⟩
        · exact ⟨i, by omega, q.symm, by omega⟩
      · rintro ⟨j, a, e, f⟩
        by_cases q : j = i
        · subst q; exact Or.inr e.symm
        · exact Or.inl ⟨j, by omega, e, f⟩
theorem loF_in (r : Nat → Nat) (g : Nat → Int) : ∀ i, in32 (loF r g i)
  | 0 => by show in32 0; unfold in32; omega
  | i + 1 => by
    show in32 (if 0 ≤ g i then ior (loF r g i) 0 else ior (loF r g i) (ishl 1 (r i : Int)))
    split <;> exact ior_in _ _
theorem loF_eq {r : Nat → Nat} {f g : Nat → Int} : ∀ {K : Nat}, EqK K f g → loF r f K = loF r g K
  | 0, _ => rfl
  | i + 1, h => by
    have ih := loF_eq (r := r) (K := i) (fun j hj => h j (by omega))
    show (if 0 ≤ f i then ior (loF r f i) 0 else ior (loF r f i) (ishl 1 (r i : Int))) = (if 0 ≤ g i then ior (loF r g i) 0 else ior (loF r g i) (ishl 1 (r i : Int)))
    rw [ih, h i (by omega)]
theorem S_losers {d : Nat} {Q : MV → Wd → Prop} {w : Wd} {K : Nat} {r : Nat → Nat} (K8 : K ≤ 8) (c : ClR w K r) (k : Q (mI (loF r (w 139) K)) w) : Cw (d + 1) 140 [mR 137] w Q := by
  apply Ring_losers_137_en
  intro n1
  have lp : ∀ (m i : Nat), i + m = K → Wp (Cw (d + 0)) cd_Ring_losers (1, 0, n1) Q 4 [mR 137, mI (loF r (w 139) i), mI i] [] w := by
    intro m
    induction m with
    | zero =>
      intro i hi
      have : i = K := by omega
      subst this
      apply Ring_losers_137_c4
      rw [c.1]
      exact ⟨fun _ => k, fun z => absurd (Int.le_refl _) z⟩
    | succ m ih =>
      intro i hi
      have i1 := ih (i + 1) (by omega)
      have a1 := c.2 i (by omega)
      have e : loF r (w 139) (i + 1) = if 0 ≤ w 139 i then ior (loF r (w 139) i) 0 else ior (loF r (w 139) i) (ishl 1 (r i : Int)) := rfl
      rw [e] at i1
      apply Ring_losers_137_c4
      rw [c.1, Int.toNat_natCast, a1, ixs (k := i) (by omega)]
      refine ⟨fun z => by exfalso; omega, fun _ => ⟨by omega, fun z => ?_, fun z => ⟨by omega, ?_⟩⟩⟩
      · rw [if_pos z] at i1; exact i1
      · rw [if_neg z] at i1; exact i1
  exact lp K 0 (by omega)
def meF (r : Nat → Nat) : Nat → Int
  | 0 => 0
  | i + 1 => ior (meF r i) (ishl 1 (r i : Int))
theorem S_members {d : Nat} {Q : MV → Wd → Prop} {w : Wd} {K : Nat} {r : Nat → Nat} (K8 : K ≤ 8) (c : ClR w K r) (k : Q (mI (meF r K)) w) : Cw (d + 1) 142 [mR 137] w Q := by
  apply Ring_members_137_en
  intro n1
  have lp : ∀ (m i : Nat), i + m = K → Wp (Cw (d + 0)) cd_Ring_members (1, 0, n1) Q 4 [mR 137, mI (meF r i), mI i] [] w := by
    intro m
    induction m with
    | zero =>
      intro i hi
      have : i = K := by omega
      subst this
      apply Ring_members_137_c4
      rw [c.1]
      exact ⟨fun _ => k, fun z => absurd (Int.le_refl _) z⟩
    | succ m ih =>
      intro i hi
      have i1 := ih (i + 1) (by omega)
      have a1 := c.2 i (by omega)
      apply Ring_members_137_c4
      rw [c.1, Int.toNat_natCast, a1, ixs (k := i) (by omega)]
      exact ⟨fun z => by exfalso; omega, fun _ => ⟨by omega, i1⟩⟩
  exact lp K 0 (by omega)
/-- those who stay -/
def fiK (g : Nat → Int) : Nat → Nat
  | 0 => 0
  | i + 1 => fiK g i + (if 0 ≤ g i then 1 else 0)
def fiQ (r : Nat → Nat) (g : Nat → Int) : Nat → (Nat → Nat)
  | 0 => r
  | i + 1 => if 0 ≤ g i then upN (fiQ r g i) (fiK g i) (r i) else fiQ r g i

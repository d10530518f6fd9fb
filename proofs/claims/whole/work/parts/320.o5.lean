theorem L_g102 {d : Nat} {n1 : Int} {Q : MV → Wd → Prop} {w : Wd} {s : Nat → Int} (ws : WS s) (es : w 146 = s) (i u e : Nat) (e8 : e < 8) (u16 : u < 16) (i8 : i < 8) (q : Nat) (hq : w 177 e = q)
    (k : Wp (Cw (d + 1)) cd_M_gain0 (0, 0, n1) Q 15 [mR 144, mI (i + 1 : Nat), none, none, none, none] [] (ub w 178 e (w32 (w 178 e + woF s q (s (30 + 5 * u)) (s 3).toNat 0)))) :
    ∀ (m v : Nat), v + m = (s 3).toNat → woF s q (s (30 + 5 * u)) (s 3).toNat 0 = woF s q (s (30 + 5 * u)) m v → Wp (Cw (d + 1)) cd_M_gain0 (0, 0, n1) Q 102 [mR 144, mI i, mI u, mI e, mI (-1), mI v] [] w := by
  have wa := ws.wa
  have r8 : 0 ≤ (e : Int) ∧ (e : Int) < 8 := by omega
  intro m
  induction m with
  | zero =>
    intro v hv he
    rw [he] at k
    have k : Wp (Cw (d + 1)) cd_M_gain0 (0, 0, n1) Q 15 [mR 144, mI (i + 1 : Nat), none, none, none, none] [] (ub w 178 e (w32 (w 178 e + 0))) := k
    apply M_gain0_144_c102
    rw [es, Int.toNat_natCast, ixs (k := i) (by omega)]
    exact ⟨fun _ => ⟨r8, fun z => absurd z (by decide), fun _ => ⟨r8, k⟩⟩, fun z => absurd (show s 3 ≤ (v : Int) by omega) z⟩
  | succ m ih =>
    intro v hv he
    have wo := ws.worth v (by omega)
    have no : ¬ (s (109 + 4 * v) = (q : Int) ∧ s (110 + 4 * v) = s (30 + 5 * u)) → Wp (Cw (d + 1)) cd_M_gain0 (0, 0, n1) Q 102 [mR 144, mI i, mI u, mI e, mI (-1), mI (v + 1 : Nat)] [] w := fun z => ih (v + 1) (by omega) (by rw [he, woF_no z])
    apply M_gain0_144_c102
    rw [es, ixw_1 (by omega), ixw_2 (by omega), ixw (by omega), ixu_1 (by omega), Int.toNat_natCast, Int.toNat_natCast, Int.toNat_natCast, Int.toNat_natCast, Int.toNat_natCast, hq, ixs (k := v) (by omega), ixs (k := i) (by omega)]
    refine ⟨fun z => by exfalso; omega, fun _ => ⟨fun z => absurd z (by decide), fun _ => ⟨by omega, r8, fun z => no (fun g => z g.1), fun z => ⟨by omega, by omega, fun z2 => no (fun g => z2 g.2), fun z2 => ⟨by omega, ?_⟩⟩⟩⟩⟩
    rw [he, woF_yes ⟨Classical.not_not.mp z, Classical.not_not.mp z2⟩] at k
    have w0 : 0 ≤ s (111 + 4 * v) := wo.1
    apply M_gain0_144_c102
    rw [es, Int.toNat_natCast, ixs (k := i) (by omega)]
    exact ⟨fun _ => ⟨r8, fun _ => ⟨r8, k⟩, fun y => absurd w0 y⟩, fun _ => ⟨fun _ => ⟨r8, fun _ => ⟨r8, k⟩, fun y => absurd w0 y⟩, fun y => absurd w0 y⟩⟩
theorem S_gain0 {d : Nat} {Q : MV → Wd → Prop} {w : Wd} {s : Nat → Int} {K : Nat} {r : Nat → Nat} (ws : WS s) (es : w 146 = s) (rg : RgP s K r) (K0 : 0 < K) (c : MdR w K r) (k : ∀ f, EqK K f (gaF s K r K) → Q none (ubf w 178 f)) : Cw (d + 4) 258 [mR 144] w Q := by
  have K8 := rg.K8
  have un := ws.un
  have la := ws.la
  have wa := ws.wa
  have kk0 : ¬ (K : Int) = 0 := by omega
  apply M_gain0_144_en
  intro n1
  have l15 : ∀ (m i : Nat) (f : Nat → Int), i + m = K → EqK K f (gaF s K r i) → Wp (Cw (d + 3)) cd_M_gain0 (0, 0, n1) Q 15 [mR 144, mI i, none, none, none, none] [] (ubf w 178 f) := by
    intro m
    induction m with
    | zero =>
      intro i f hi hf
      have : i = K := by omega
      subst this
      have c1 : (ubf w 178 f) 144 70 = i := c.1
      apply M_gain0_144_c15
      rw [c1]
      exact ⟨fun _ => k f hf, fun z => absurd (Int.le_refl _) z⟩
    | succ m ih =>
      intro i f hi hf
      have c1 : (ubf w 178 f) 144 70 = K := c.1
      have a1 : (ubf w 178 f) 177 i = r i := c.2 i (by omega)
      have eg : gaF s K r (i + 1) = gaS s K r i (gaF s K r i) := rfl
      have i1 := fun f h => ih (i + 1) f (by omega) h
      apply M_gain0_144_c15
      rw [c1, Int.toNat_natCast, a1, ixs (k := i) (by omega)]
      refine ⟨fun z => by exfalso; omega, fun _ => ⟨by omega, ?_⟩⟩
      refine S_unitBy (d := d + 2) (w := ubf w 178 f) ws es (r i : Int) ?_
      refine ⟨_, rfl, fun z => ?_, fun z => ?_⟩
      · refine i1 f ?_
        rw [eg]
        unfold gaS
        rw [if_pos z]
        exact hf
      · rcases ubF_bd s (r i : Int) (s 2).toNat 0 with q | ⟨u, hq, hu⟩
        · rw [q] at z; exact absurd (by decide) z
        · rw [hq] at z ⊢
          refine S_goesOn (d := d + 1) (w := ubf w 178 f) ws es rg K0 c u i (by omega) (by omega) (fun y => ?_) (fun y => ?_)
          · refine ⟨_, rfl, fun _ => ?_, fun q => absurd (show ¬ (1 : Int) = 0 by decide) q⟩
            have l36 : ∀ (m e : Nat) (f : Nat → Int), e + m = (s 4).toNat - 1 → EqK K f (paF s K r i (gaF s K r i) e) → Wp (Cw (d + 3)) cd_M_gain0 (0, 0, n1) Q 36 [mR 144, mI i, mI u, mI e, none, none] [] (ubf w 178 f) := by
              intro m
              induction m with
              | zero =>
                intro e f he hf
                have he : e = (s 4).toNat - 1 := by omega
                obtain ⟨m1, m2⟩ := mod8 (a := i + ((s 4).toNat - 1)) K0 K8
                have c1 : (ubf w 178 f) 144 70 = K := c.1
                have a1 : (ubf w 178 f) 177 ((i + ((s 4).toNat - 1)) % K) = r ((i + ((s 4).toNat - 1)) % K) := c.2 _ m1
                have e6 : (ubf w 178 f) 146 = s := es
                have ix : Int.tmod (w32 (w32 ((i : Int) + s 4) - 1)) (K : Int) = (((i + ((s 4).toNat - 1)) % K : Nat) : Int) := by
                  rw [w32_id (x := (i : Int) + s 4) (by unfold in32; omega), w32_id (by unfold in32; omega), show (i : Int) + s 4 - 1 = ((i + ((s 4).toNat - 1) : Nat) : Int) by omega]; rfl
                apply M_gain0_144_c36
                rw [e6, c1, ix, ixs (k := e) (by omega)]
                clear ix
                refine ⟨fun _ => ⟨kk0, ?_⟩, fun z => absurd (show s 4 ≤ ((e + 1 : Nat) : Int) by omega) z⟩
                refine L_g102 (d := d + 2) (w := ubf w 178 f) ws e6 i u _ m2 (by omega) (by omega) _ a1 ?_ (s 3).toNat 0 (by omega) rfl
                have e178 : ∀ j, (ubf w 178 f) 178 j = f j := fun j => by rw [ubf_ap, if_pos rfl]
                rw [e178, ub_on]
                refine i1 _ ?_
                rw [eg]
                unfold gaS
                rw [hq, if_neg z, Int.toNat_natCast, if_pos y]
                rw [he] at hf
                rw [hf _ m1]
                exact hf.up _ _
              | succ m ihm =>
                intro e f he hf
                obtain ⟨m1, m2⟩ := mod8 (a := i + e) K0 K8
                obtain ⟨m3, m4⟩ := mod8 (a := i + e + 1) K0 K8
                have c1 : (ubf w 178 f) 144 70 = K := c.1
                have a1 : (ubf w 178 f) 177 ((i + e) % K) = r ((i + e) % K) := c.2 _ m1
                have a2 : (ubf w 178 f) 177 ((i + e + 1) % K) = r ((i + e + 1) % K) := c.2 _ m3
                have b1 := (rg.lt _ m1).1
                have b2 := (rg.lt _ m3).1
                have e6 : (ubf w 178 f) 146 = s := es
                have e178 : ∀ j, (ubf w 178 f) 178 j = f j := fun j => by rw [ubf_ap, if_pos rfl]
                have ix : Int.tmod (w32 (w32 ((i : Int) + (e : Int)) + 1)) (K : Int) = (((i + e + 1) % K : Nat) : Int) := by
                  rw [show (i : Int) + (e : Int) = ((i + e : Nat) : Int) by omega, w32n (n := i + e) (by omega), tmw1 (by omega)]
                apply M_gain0_144_c36
                rw [e6, c1, ix]
                clear ix
                rw [tmw (by omega), Int.toNat_natCast, Int.toNat_natCast, a1, a2, ixp_141 b1 b2, Int.toNat_natCast, e178, ub_on, ixs (k := e) (by omega)]
                refine ⟨fun z => by exfalso; omega, fun _ => ⟨kk0, by omega, kk0, by omega, kk0, by omega, by omega, by omega, ?_⟩⟩
                refine ihm (e + 1) _ (by omega) ?_
                show EqK K _ (up1 (paF s K r i (gaF s K r i) e) ((i + e) % K) (w32 (paF s K r i (gaF s K r i) e ((i + e) % K) - s (141 + (8 * r ((i + e) % K) + r ((i + e + 1) % K))))))
                rw [hf _ m1]
                exact hf.up _ _
            exact l36 ((s 4).toNat - 1) 0 f (by omega) hf
          · refine ⟨_, rfl, fun q => absurd rfl q, fun _ => i1 f ?_⟩
            rw [eg]
            unfold gaS
            rw [hq, if_neg z, Int.toNat_natCast, if_neg y]
            exact hf
  have l2 : ∀ (m i : Nat) (f : Nat → Int), i + m = K → (∀ j, j < i → f j = 0) → Wp (Cw (d + 3)) cd_M_gain0 (0, 0, n1) Q 2 [mR 144, mI i, none, none, none, none] [] (ubf w 178 f) := by
    intro m
    induction m with
    | zero =>
      intro i f hi hf
      have : i = K := by omega
      subst this
      have c1 : (ubf w 178 f) 144 70 = i := c.1
      apply M_gain0_144_c2
      rw [c1]
      exact ⟨fun _ => l15 i 0 f (by omega) (fun j hj => hf j hj), fun z => absurd (Int.le_refl _) z⟩
    | succ m ih =>
      intro i f hi hf
      have c1 : (ubf w 178 f) 144 70 = K := c.1
      apply M_gain0_144_c2
      rw [c1, Int.toNat_natCast, ub_on, ixs (k := i) (by omega)]
      refine ⟨fun z => by exfalso; omega, fun _ => ⟨by omega, ih (i + 1) _ (by omega) (fun j hj => ?_)⟩⟩
      rw [up1_ap]
      by_cases q : j = i
      · rw [if_pos q]
      · rw [if_neg q]; exact hf j (by omega)
  have L := l2 K 0 (w 178) (by omega) (fun j hj => absurd hj (Nat.not_lt_zero _))
  rw [ubf_sf0] at L
  exact L
theorem L_mring26 {d : Nat} {n1 : Int} {Q : MV → Wd → Prop} {w : Wd} {K : Nat} {r : Nat → Nat} (K8 : K ≤ 8) (c : MdR w K r) (k : ∀ f, EqK K f (w 178) → Q (mI (loF r (w 178) K)) (ubf w 179 f)) :
    ∀ (m i : Nat) (f : Nat → Int), i + m = K → (∀ j, j < i → f j = w 178 j) → Wp (Cw (d + 1)) cd_M_ring (1, 0, n1) Q 26 [mR 144, mI (loF r (w 178) i), mI i] [] (ubf w 179 f) := by
  intro m
  induction m with
  | zero =>
    intro i f hi hf
    have : i = K := by omega
    subst this
    have c1 : (ubf w 179 f) 144 70 = i := c.1
    apply M_ring_144_c26
    rw [c1]
    exact ⟨fun _ => k f hf, fun z => absurd (Int.le_refl _) z⟩
  | succ m ih =>
    intro i f hi hf
    have c1 : (ubf w 179 f) 144 70 = K := c.1
    have a1 : (ubf w 179 f) 177 i = r i := c.2 i (by omega)
    have e178 : (ubf w 179 f) 178 = w 178 := rfl
    have e : loF r (w 178) (i + 1) = if 0 ≤ w 178 i then ior (loF r (w 178) i) 0 else ior (loF r (w 178) i) (ishl 1 (r i : Int)) := rfl
    have i1 := ih (i + 1) (up1 f i (w 178 i)) (by omega) (fun j hj => by
      rw [up1_ap]
      by_cases q : j = i
      · rw [if_pos q, q]
      · rw [if_neg q]; exact hf j (by omega))
    rw [e] at i1
    apply M_ring_144_c26
    rw [c1, Int.toNat_natCast, a1, e178, ub_on, ixs (k := i) (by omega)]
    refine ⟨fun z => by exfalso; omega, fun _ => ⟨by omega, by omega, by omega, fun z => ?_, fun z => ⟨by omega, ?_⟩⟩⟩
    · rw [if_pos z] at i1; exact i1
    · rw [if_neg z] at i1; exact i1
/-- the reference's tape, taken -/
theorem S_mtaken {w : Wd} (h : Inv w) {w3 : Wd} (C : List Nat) (hF : Fr ([0, 140, 143] ++ scrR) w w3) (e144 : w3 144 = w 144) (h1 : w3 0 1 = 0) (h2 : w3 0 2 = w 0 2) (h12 : w3 0 12 = w 0 12) {w5 : Wd} (f5 : Fr [144, 177, 178] (ub (ub (ub (ub (ub w3 144 0 0) 144 3 (w 144 2)) 144 2 0) 144 4 0) 144 5 1040) w5) (o5 : ∀ i, i ≠ 70 → w5 144 i = (ub (ub (ub (ub (ub w3 144 0 0) 144 3 (w 144 2)) 144 2 0) 144 4 0) 144 5 1040) 144 i) (h140 : ∀ i, i ∈ [1, 3, 6, 7] → w3 140 i = w 140 i) : Fr ([0, 140, 143, 179] ++ scrR) w w5 ∧ RT (w5 0 1) (w5 144 2) (w5 1) (w5 145) ∧ w5 0 2 = w 0 2 ∧ w5 0 12 = w 0 12 ∧ (∀ i, i ∈ [15, 41, 42, 62, 64, 66, 71, 72] → w5 144 i = w 144 i) ∧ (∀ i, i ∈ [1, 3, 6, 7] → w5 140 i = w 140 i) := by
  have F : Fr ([0, 140, 143, 179] ++ scrR) w w5 := by
    refine Fr.tr (Fr.ub (Fr.ub (Fr.ub (Fr.ub (Fr.ub (Fr.tr (Fr.rfl' _ w) hF ?_) ?_) ?_) ?_) ?_) ?_) f5 ?_ <;> decide
  have e0 : w5 0 = w3 0 := by rw [f5 0 (by decide), ub_ne _ _ (by decide), ub_ne _ _ (by decide), ub_ne _ _ (by decide), ub_ne _ _ (by decide), ub_ne _ _ (by decide)]
  have e140 : w5 140 = w3 140 := by rw [f5 140 (by decide), ub_ne _ _ (by decide), ub_ne _ _ (by decide), ub_ne _ _ (by decide), ub_ne _ _ (by decide), ub_ne _ _ (by decide)]
  have c144 : ∀ i, i ≠ 70 → w5 144 i = up1 (up1 (up1 (up1 (up1 (w 144) 0 0) 3 (w 144 2)) 2 0) 4 0) 5 1040 i := fun i hi => by
    rw [o5 i hi]
    show up1 (up1 (up1 (up1 (up1 (w3 144) 0 0) 3 (w 144 2)) 2 0) 4 0) 5 1040 i = _
    rw [e144]
  have e1 : w5 1 = w 1 := F 1 (by decide)
  have e145 : w5 145 = w 145 := F 145 (by decide)
  refine ⟨F, ?_, by rw [e0]; exact h2, by rw [e0]; exact h12, fun i hi => ?_, fun i hi => by rw [e140]; exact h140 i hi⟩
  · have e2 : w5 144 2 = 0 := by
      rw [c144 2 (by decide)]
      simp (decide := true) only [up1_ap, if_true, if_false]
    rw [e0, h1, e2, e1, e145]
    exact ⟨rfl, Int.le_refl _, by decide, h.tape.oct⟩
  · simp only [List.mem_cons, List.not_mem_nil, or_false] at hi
    rw [c144 i (by omega)]
    simp only [up1_ap]
    rw [if_neg (by omega), if_neg (by omega), if_neg (by omega), if_neg (by omega), if_neg (by omega)]
theorem P_ring {d : Nat} {w : Wd} (h : Inv w) : Pair (d + 30) 128 254 [] w := by
  unfold Pair
  have hl := h.tape.len
  have lo := h.tape.lo
  have hi := h.tape.hi
  obtain ⟨B, hB⟩ := Int.eq_ofNat_of_zero_le lo
  have e01 : w 0 1 = B := by rw [hl, hB]
  apply X_ring_0_en
  rw [e01]
  -- the reference, from a world where the class is through
  have ref : ∀ (w3 : Wd) (val : Int), Fr ([0, 140, 143] ++ scrR) w w3 → w3 144 = w 144 → w3 0 1 = 0 → w3 0 2 = w 0 2 → w3 0 12 = w 0 12 → (∀ i, i ∈ [1, 3, 6, 7] → w3 140 i = w 140 i) → (¬ (2 ≤ B ∧ B ≤ 8 ∧ tkP (w 146) (w 1) B) → val = -2 ∧ w3 140 5 = w 140 5 ∧ w3 143 = w 143) → (2 ≤ B ∧ B ≤ 8 ∧ tkP (w 146) (w 1) B → ¬ cloP (w 146) B (fun i => (w 1 i).toNat) → val = -1 ∧ w3 140 5 = w 140 5 ∧ w3 143 = w 143) → (2 ≤ B ∧ B ≤ 8 ∧ tkP (w 146) (w 1) B → cloP (w 146) B (fun i => (w 1 i).toNat) → val = loF (fun i => (w 1 i).toNat) (gaF (w 146) B (fun i => (w 1 i).toNat) B) B ∧ w3 140 5 = B ∧ ∀ i, i < B → w3 143 i = gaF (w 146) B (fun i => (w 1 i).toNat) B i) → Cw (d + 30) 254 [mR 144] w3 (Post w val) := by
    intro w3 val hF e144 h1 h2 h12 h140 x2 x1 x0
    apply M_ring_144_en
    intro n1
    rw [show w3 144 2 = w 144 2 from by rw [e144]]
    have e146 : (ub (ub (ub (ub (ub w3 144 0 0) 144 3 (w 144 2)) 144 2 0) 144 4 0) 144 5 1040) 146 = w 146 := hF 146 (by decide)
    have e145 : (ub (ub (ub (ub (ub w3 144 0 0) 144 3 (w 144 2)) 144 2 0) 144 4 0) 144 5 1040) 145 = w 145 := hF 145 (by decide)
    have e3 : (ub (ub (ub (ub (ub w3 144 0 0) 144 3 (w 144 2)) 144 2 0) 144 4 0) 144 5 1040) 144 3 = B := by
      show up1 (up1 (up1 (up1 (up1 (w3 144) 0 0) 3 (w 144 2)) 2 0) 4 0) 5 1040 3 = _
      simp (decide := true) only [up1_ap, if_true, if_false]
      exact hB
    -- what stays where the gains stay
    have stay : ∀ w5, Fr [144, 177, 178] (ub (ub (ub (ub (ub w3 144 0 0) 144 3 (w 144 2)) 144 2 0) 144 4 0) 144 5 1040) w5 → (∀ i, i ≠ 70 → w5 144 i = (ub (ub (ub (ub (ub w3 144 0 0) 144 3 (w 144 2)) 144 2 0) 144 4 0) 144 5 1040) 144 i) → w3 140 5 = w 140 5 → w3 143 = w 143 → Inv w5 ∧ w5 401 = w 401 ∧ w5 400 = w 400 := by
      intro w5 f5 o5 g5 g143
      obtain ⟨F, rt, y2, y12, y144, y140⟩ := S_mtaken h [] hF e144 h1 h2 h12 f5 o5 h140
      have e143 : w5 143 = w 143 := by rw [f5 143 (by decide), ub_ne _ _ (by decide), ub_ne _ _ (by decide), ub_ne _ _ (by decide), ub_ne _ _ (by decide), ub_ne _ _ (by decide)]; exact g143
      have e140 : w5 140 5 = w 140 5 := by rw [f5 140 (by decide), ub_ne _ _ (by decide), ub_ne _ _ (by decide), ub_ne _ _ (by decide), ub_ne _ _ (by decide), ub_ne _ _ (by decide)]; exact g5
      have e179 : w5 179 = w 179 := by rw [f5 179 (by decide), ub_ne _ _ (by decide), ub_ne _ _ (by decide), ub_ne _ _ (by decide), ub_ne _ _ (by decide), ub_ne _ _ (by decide)]; exact hF 179 (by decide)
      refine ⟨Inv.g_ring h F (fun i hi => ?_) y140 (fun i hi => ?_) rt ?_ ?_, F 401 (by decide), F 400 (by decide)⟩
      · simp only [List.mem_cons, List.not_mem_nil, or_false] at hi
        rcases hi with z | z <;> subst z
        · exact y2
        · exact y12
      · simp only [List.mem_cons, List.not_mem_nil, or_false] at hi
        exact y144 i (by simp only [List.mem_cons, List.not_mem_nil, or_false]; omega)
      · rw [e140, y144 71 (by decide)]; exact h.gainers
      · rw [y144 71 (by decide), e143, e179]; exact h.gained
    refine S_isRing (d := d + 26) (w := ub (ub (ub (ub (ub w3 144 0 0) 144 3 (w 144 2)) 144 2 0) 144 4 0) 144 5 1040) h.ws e146 (t := w 1) (fun i hi => by rw [e145]; exact h.tape.oct i hi) B e3 ?_ ?_
    · intro w5 f5 o5 B2 B8 tk h70 h177
      refine ⟨_, rfl, fun _ => ?_, fun q => absurd (show ¬ (1 : Int) = 0 by decide) q⟩
      obtain ⟨rg, et⟩ := tkP_rg h.ws.pe.2 B8 tk
      have c : MdR w5 B (fun i => (w 1 i).toNat) := ⟨h70, fun i hi => by rw [h177 i hi]; exact et i hi⟩
      have e5 : w5 146 = w 146 := by rw [f5 146 (by decide)]; exact e146
      refine S_goesRound (d := d + 28) h.ws e5 rg (by omega) c (fun cl => ?_) (fun cl => ?_)
      · refine ⟨_, rfl, fun _ => ?_, fun q => absurd (show ¬ (1 : Int) = 0 by decide) q⟩
        obtain ⟨v1, v2, v3⟩ := x0 ⟨B2, B8, tk⟩ cl
        refine S_gain0 (d := d + 25) h.ws e5 rg (by omega) c ?_
        intro f hf
        have c1 : MdR (ub (ubf w5 178 f) 144 71 ((ubf w5 178 f) 144 70)) B (fun i => (w 1 i).toNat) := c
        have e178 : (ub (ubf w5 178 f) 144 71 ((ubf w5 178 f) 144 70)) 178 = f := rfl
        have h71 : (ubf w5 178 f) 144 70 = B := h70
        rw [h71] at c1 e178 ⊢
        have L := L_mring26 (d := d + 28) (n1 := n1) (Q := Post w val) (w := ub (ubf w5 178 f) 144 71 B) (K := B) (r := fun i => (w 1 i).toNat) B8 c1 ?_ B 0 ((ub (ubf w5 178 f) 144 71 B) 179) (by omega) (fun j hj => absurd hj (Nat.not_lt_zero _))
        · rw [ubf_sf0] at L
          exact L
        · intro g hg
          rw [e178] at hg ⊢
          obtain ⟨F, rt, y2, y12, y144, y140⟩ := S_mtaken h [] hF e144 h1 h2 h12 (Fr.tr (Fr.rfl' _ _) f5 (by decide)) o5 h140
          have F2 : Fr ([0, 140, 143, 179] ++ scrR) w (ubf (ub (ubf w5 178 f) 144 71 B) 179 g) := Fr.ubf (Fr.ub (Fr.ubf F (by decide)) (by decide)) (by decide)
          have e143 : w5 143 = w3 143 := by rw [f5 143 (by decide), ub_ne _ _ (by decide), ub_ne _ _ (by decide), ub_ne _ _ (by decide), ub_ne _ _ (by decide), ub_ne _ _ (by decide)]
          have e140 : w5 140 = w3 140 := by rw [f5 140 (by decide), ub_ne _ _ (by decide), ub_ne _ _ (by decide), ub_ne _ _ (by decide), ub_ne _ _ (by decide), ub_ne _ _ (by decide)]
          refine Post.k ?_ (Inv.g_ring h F2 (fun i hi => ?_) y140 (fun i hi => ?_) ?_ ?_ ?_) (F2 401 (by decide)) (F2 400 (by decide))
          · rw [v1, loF_eq hf]
          · simp only [List.mem_cons, List.not_mem_nil, or_false] at hi
            rcases hi with z | z <;> subst z
            · exact y2
            · exact y12
          · have hi2 := hi
            simp only [List.mem_cons, List.not_mem_nil, or_false] at hi2
            show up1 (w5 144) 71 B i = _
            rw [up1_ap, if_neg (by omega)]
            exact y144 i (by simp only [List.mem_cons, List.not_mem_nil, or_false]; omega)
          · show RT (w5 0 1) (up1 (w5 144) 71 B 2) (w5 1) (w5 145)
            rw [up1_ap, if_neg (by decide)]; exact rt
          · show w5 140 5 = up1 (w5 144) 71 B 71 ∧ 0 ≤ up1 (w5 144) 71 B 71 ∧ up1 (w5 144) 71 B 71 ≤ 8
            rw [up1_ap, if_pos rfl, e140, v2]; omega
          · intro q hq
            have hq : (q : Int) < up1 (w5 144) 71 B 71 := hq
            rw [up1_ap, if_pos rfl] at hq
            show w5 143 q = g q
            rw [e143, v3 q (by omega), hg q (by omega), hf q (by omega)]
      · obtain ⟨v1, v2, v3⟩ := x1 ⟨B2, B8, tk⟩ cl
        obtain ⟨i1, i2, i3⟩ := stay w5 (Fr.tr (Fr.rfl' _ _) f5 (by decide)) o5 v2 v3
        exact ⟨_, rfl, fun q => absurd rfl q, fun _ => Post.k v1.symm i1 i2 i3⟩
    · intro w5 f5 o5 no
      obtain ⟨v1, v2, v3⟩ := x2 no
      obtain ⟨i1, i2, i3⟩ := stay w5 (Fr.tr (Fr.rfl' _ _) f5 (by decide)) o5 v2 v3
      exact ⟨_, rfl, fun q => absurd rfl q, fun _ => Post.k v1.symm i1 i2 i3⟩
  -- the class
  have rv0 : RV ((ub w 0 1 0) 4) ((ub w 0 1 0) 5) ((ub w 0 1 0) 6) ((ub w 0 1 0) 7) ((ub w 0 1 0) 8) ((ub w 0 1 0) 9) ((ub w 0 1 0) 10) ((ub w 0 1 0) 11) ((ub w 0 1 0) 12) ((ub w 0 1 0) 13) ((ub w 0 1 0) 14) ((ub w 0 1 0) 15) (w 146) (w 149) := h.rv
  refine S_take (d := d + 27) (w := ub w 0 1 0) rv0 h.ws B (by omega) ?_ ?_
  · intro w1 F1 B2 B8 tk h2 h138
    have tk : tkP (w 146) (w 1) B := tk
    have h138 : ∀ i, i < B → w1 138 i = w 1 i := h138
    obtain ⟨rg, et⟩ := tkP_rg h.ws.pe.2 B8 tk
    have c : ClR w1 B (fun i => (w 1 i).toNat) := ⟨h2, fun i hi => by rw [h138 i hi]; exact et i hi⟩
    have rv1 := RV_fr F1 (by decide) rv0
    have Fw : Fr ([0, 140, 143] ++ scrR) w w1 := Fr.tr (Fr.ub (Fr.rfl' _ w) (by decide)) F1 (by decide)
    have f0 : w1 0 = up1 (w 0) 1 0 := by rw [F1 0 (by decide), ub_self]
    have f140 : w1 140 = w 140 := by rw [F1 140 (by decide), ub_ne _ _ (by decide)]
    have f143 : w1 143 = w 143 := by rw [F1 143 (by decide), ub_ne _ _ (by decide)]
    have f144 : w1 144 = w 144 := by rw [F1 144 (by decide), ub_ne _ _ (by decide)]
    refine ⟨_, rfl, fun _ => ?_, fun q => absurd (show ¬ (1 : Int) = 0 by decide) q⟩
    refine S_closes (d := d + 25) rv1 h.ws rg (by omega) c (fun cl => ?_) (fun cl => ?_)
    · refine ⟨_, rfl, fun _ => ?_, fun q => absurd (show ¬ (1 : Int) = 0 by decide) q⟩
      refine S_reckon (d := d + 23) rv1 h.ws rg (by omega) c cl ?_
      intro f hf
      apply Told_keepGains_140_139_en
      refine S_copyAll 139 143 8 rfl rfl rfl rfl (by decide) (by decide) ?_
      intro g hg _
      have e7 : (ubf w1 139 f) 137 2 = B := h2
      rw [e7]
      have c2 : ClR (ub (ubf (ubf w1 139 f) 143 g) 140 5 B) B (fun i => (w 1 i).toNat) := c
      refine S_losers (d := d + 28) (w := ub (ubf (ubf w1 139 f) 143 g) 140 5 B) B8 c2 ?_
      refine ⟨_, rfl, ?_⟩
      (apply Mid.k)
      have F3 : Fr ([0, 140, 143] ++ scrR) w (ub (ubf (ubf w1 139 f) 143 g) 140 5 B) := Fr.ub (Fr.ubf (Fr.ubf Fw (by decide)) (by decide)) (by decide)
      refine ref _ _ F3 f144 ?_ ?_ ?_ (fun i hi => ?_) (fun no => absurd ⟨B2, B8, tk⟩ no) (fun _ no => absurd cl no) (fun _ _ => ⟨?_, ?_, fun i hi => ?_⟩)
      · show w1 0 1 = 0
        rw [f0, up1_ap, if_pos rfl]
      · show w1 0 2 = _
        rw [f0, up1_ap, if_neg (by decide)]
      · show w1 0 12 = _
        rw [f0, up1_ap, if_neg (by decide)]
      · simp only [List.mem_cons, List.not_mem_nil, or_false] at hi
        show up1 (w1 140) 5 B i = _
        rw [up1_ap, if_neg (by omega), f140]
      · show loF (fun i => (w 1 i).toNat) f B = _
        exact loF_eq hf
      · show up1 (w1 140) 5 B 5 = _
        rw [up1_ap, if_pos rfl]
      · show g i = _
        rw [hg i (by omega), ubf_self]
        exact hf i hi
    · refine ⟨_, rfl, fun q => absurd rfl q, fun _ => ?_⟩
      (apply Mid.k)
      refine ref _ _ Fw f144 ?_ ?_ ?_ (fun i _ => by rw [f140]) (fun no => absurd ⟨B2, B8, tk⟩ no) (fun _ _ => ⟨rfl, by rw [f140], f143⟩) (fun _ yes => absurd yes cl)
      · rw [f0, up1_ap, if_pos rfl]
      · rw [f0, up1_ap, if_neg (by decide)]
      · rw [f0, up1_ap, if_neg (by decide)]
  · intro w1 F1 no
    have no : ¬ (2 ≤ B ∧ B ≤ 8 ∧ tkP (w 146) (w 1) B) := no
    have Fw : Fr ([0, 140, 143] ++ scrR) w w1 := Fr.tr (Fr.ub (Fr.rfl' _ w) (by decide)) F1 (by decide)
    have f0 : w1 0 = up1 (w 0) 1 0 := by rw [F1 0 (by decide), ub_self]
    have f140 : w1 140 = w 140 := by rw [F1 140 (by decide), ub_ne _ _ (by decide)]
    have f143 : w1 143 = w 143 := by rw [F1 143 (by decide), ub_ne _ _ (by decide)]
    have f144 : w1 144 = w 144 := by rw [F1 144 (by decide), ub_ne _ _ (by decide)]
    refine ⟨_, rfl, fun q => absurd rfl q, fun _ => ?_⟩
    (apply Mid.k)
    refine ref _ _ Fw f144 ?_ ?_ ?_ (fun i _ => by rw [f140]) (fun _ => ⟨rfl, by rw [f140], f143⟩) (fun yes => absurd yes no) (fun yes => absurd yes no)
    · rw [f0, up1_ap, if_pos rfl]
    · rw [f0, up1_ap, if_neg (by decide)]
    · rw [f0, up1_ap, if_neg (by decide)]

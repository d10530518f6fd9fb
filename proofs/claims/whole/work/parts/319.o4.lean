def MdR (w : Wd) (K : Nat) (r : Nat → Nat) : Prop := w 144 70 = K ∧ ∀ i, i < K → w 177 i = r i
theorem S_isRing {d : Nat} {Q : MV → Wd → Prop} {w : Wd} {s t : Nat → Int} (ws : WS s) (es : w 146 = s) (ht : ∀ i, i < 1040 → t i = iand (w 145 i) 255) (B : Nat) (h3 : w 144 3 = B)
    (k1 : ∀ w', Fr [144, 177] w w' → (∀ i, i ≠ 70 → w' 144 i = w 144 i) → 2 ≤ B → B ≤ 8 → tkP s t B → w' 144 70 = B → (∀ i, i < B → w' 177 i = t i) → Q (mI 1) w')
    (k0 : ∀ w', Fr [144, 177] w w' → (∀ i, i ≠ 70 → w' 144 i = w 144 i) → ¬ (2 ≤ B ∧ B ≤ 8 ∧ tkP s t B) → Q (mI 0) w') : Cw (d + 3) 255 [mR 144] w Q := by
  have pe := ws.pe
  apply M_isRing_144_en
  intro n1
  rw [h3]
  refine ⟨fun z => k0 w (Fr.rfl' _ _) (fun _ _ => rfl) (by omega), fun z1 => ⟨fun z => k0 w (Fr.rfl' _ _) (fun _ _ => rfl) (by omega), fun z2 => ?_⟩⟩
  have lp : ∀ (m i : Nat) (x : Int) (w1 : Wd), i + m = B → Fr [177] (ub w 144 70 B) w1 → (∀ j, j < i → w1 177 j = t j) → tkP s t i → (∀ p : Nat, p < 8 → (tb x p = true ↔ ∃ j, j < i ∧ t j = p)) → Wp (Cw (d + 2)) cd_M_isRing (2, 0, n1) Q 16 [mR 144, mI x, mI i] [] w1 := by
    intro m
    induction m with
    | zero =>
      intro i x w1 hi hF h177 htk hx
      have : i = B := by omega
      subst this
      have e144 : w1 144 = up1 (w 144) 70 i := by rw [hF 144 (by decide), ub_self]
      have F : Fr [144, 177] w w1 := Fr.tr (Fr.ub (Fr.rfl' _ w) (by decide)) hF (by decide)
      apply M_isRing_144_c16
      rw [e144, up1_ap, if_neg (by decide), h3]
      refine ⟨fun _ => k1 w1 F (fun j hj => by rw [e144, up1_ap, if_neg hj]) (by omega) (by omega) htk (by rw [e144, up1_ap, if_pos rfl]) h177, fun z => absurd (Int.le_refl _) z⟩
    | succ m ih =>
      intro i x w1 hi hF h177 htk hx
      have e144 : w1 144 = up1 (w 144) 70 B := by rw [hF 144 (by decide), ub_self]
      have e145 : w1 145 = w 145 := by rw [hF 145 (by decide), ub_ne _ _ (by decide)]
      have e146 : w1 146 = s := by rw [hF 146 (by decide), ub_ne _ _ (by decide)]; exact es
      have eo := ht i (by omega)
      have F : ∀ v, Fr [144, 177] w (ub w1 177 i v) := fun v => Fr.ub (Fr.tr (Fr.ub (Fr.rfl' _ w) (by decide)) hF (by decide)) (by decide)
      have o : ∀ v, ∀ j, j ≠ 70 → (ub w1 177 i v) 144 j = w 144 j := fun v j hj => by
        show w1 144 j = _
        rw [e144, up1_ap, if_neg hj]
      apply M_isRing_144_c16
      rw [Int.toNat_natCast, e145, ← eo, up1_self, e146, e144, up1_ap, if_neg (by decide), h3, w32_id (x := s 0 - 1) (by unfold in32; omega), ixs (k := i) (by omega)]
      refine ⟨fun z => by exfalso; omega, fun _ => ⟨by omega, by omega, by omega, fun z3 => k0 _ (F _) (o _) (fun g => ?_), fun z3 => ⟨fun z4 => k0 _ (F _) (o _) (fun g => ?_), fun z4 => ⟨by omega, ?_⟩⟩⟩⟩
      · have := (g.2.2 i (by omega)).1; omega
      · have := (g.2.2 i (by omega)).1; omega
      · rw [hasbit_i _ (by omega) (by omega)]
        have hp := hx (t i).toNat (by omega)
        refine ⟨fun z5 => ⟨by omega, ?_⟩, fun z5 => k0 _ (F _) (o _) (fun g => ?_)⟩
        · have nb : ¬ ∃ j, j < i ∧ t j = ((t i).toNat : Nat) := fun q => by rw [if_pos (hp.mpr q)] at z5; exact absurd rfl z5
          refine ih (i + 1) _ _ (by omega) (Fr.ub hF (by decide)) (fun j hj => ?_) (fun j hj => ?_) (fun p hp8 => ?_)
          · show up1 (w1 177) i (t i) j = _
            rw [up1_ap]
            by_cases q : j = i
            · rw [if_pos q, q]
            · rw [if_neg q]; exact h177 j (by omega)
          · by_cases q : j = i
            · subst q
              exact ⟨by omega, fun e he hh => nb ⟨e, he, by omega⟩⟩
            · exact htk j (by omega)
          · rw [tb_or, tb_bit (by omega) (by omega), Bool.or_eq_true, hx p hp8, decide_eq_true_eq]
            constructor
            · rintro (⟨j, a, b⟩ | q)
              · exact ⟨j, by omega, b⟩
              · exact ⟨i, by omega, by omega⟩
            · rintro ⟨j, a, b⟩
              by_cases q : j = i
              · subst q; exact Or.inr (by omega)
              · exact Or.inl ⟨j, by omega, b⟩
        · have yes : tb x (t i).toNat = true := by
            cases q : tb x (t i).toNat
            · rw [q] at z5; exact absurd (by decide) z5
            · rfl
          obtain ⟨j, a, b⟩ := hp.mp yes
          exact (g.2.2 i (by omega)).2 j a (by omega)
  exact lp B 0 0 _ (by omega) (Fr.rfl' _ _) (fun j hj => absurd hj (Nat.not_lt_zero _)) (fun j hj => absurd hj (Nat.not_lt_zero _)) (fun p _ => by rw [tb_zero]; exact ⟨fun q => absurd q (by decide), fun y => y.elim (fun j a => absurd a.1 (Nat.not_lt_zero _))⟩)
theorem S_goesRound {d : Nat} {Q : MV → Wd → Prop} {w : Wd} {s : Nat → Int} {K : Nat} {r : Nat → Nat} (ws : WS s) (es : w 146 = s) (rg : RgP s K r) (K0 : 0 < K) (c : MdR w K r) (k1 : cloP s K r → Q (mI 1) w) (k0 : ¬ cloP s K r → Q (mI 0) w) : Cw (d + 1) 257 [mR 144] w Q := by
  have K8 := rg.K8
  have kk0 : ¬ (K : Int) = 0 := by omega
  apply M_goesRound_144_en
  intro n1
  have lp : ∀ (m i : Nat), i + m = K → (∀ j, j < i → s (269 + (8 * r j + r ((j + 1) % K))) = 1) → Wp (Cw (d + 0)) cd_M_goesRound (2, 0, n1) Q 2 [mR 144, mI i] [] w := by
    intro m
    induction m with
    | zero =>
      intro i hi h
      have : i = K := by omega
      subst this
      apply M_goesRound_144_c2
      rw [c.1]
      exact ⟨fun _ => k1 h, fun z => absurd (Int.le_refl _) z⟩
    | succ m ih =>
      intro i hi h
      obtain ⟨m3, m4⟩ := mod8 (a := i + 1) K0 K8
      have a1 := c.2 i (by omega)
      have a2 := c.2 _ m3
      have b1 := (rg.lt i (by omega)).1
      have b2 := (rg.lt _ m3).1
      have tl := ws.told (8 * r i + r ((i + 1) % K)) (by omega)
      apply M_goesRound_144_c2
      rw [c.1, tmw1 (by omega), Int.toNat_natCast, Int.toNat_natCast, a1, a2, ixp_269 b1 b2, Int.toNat_natCast, es, ixs (k := i) (by omega)]
      refine ⟨fun z => by exfalso; omega, fun _ => ⟨by omega, kk0, by omega, by omega, fun z => ih (i + 1) (by omega) (fun j hj => ?_), fun z => k0 (fun g => ?_)⟩⟩
      · by_cases q : j = i
        · rw [q]; omega
        · exact h j (by omega)
      · have := g i (by omega); omega
  exact lp K 0 (by omega) (fun j hj => absurd hj (Nat.not_lt_zero _))
theorem S_unitBy {d : Nat} {Q : MV → Wd → Prop} {w : Wd} {s : Nat → Int} (ws : WS s) (es : w 146 = s) (a : Int) (k : Q (mI (ubF s a (s 2).toNat 0)) w) : Cw (d + 1) 259 [mR 144, mI a] w Q := by
  have un := ws.un
  apply M_unitBy_144_en
  intro n1
  have lp : ∀ (m u : Nat), u + m = (s 2).toNat → ubF s a (s 2).toNat 0 = ubF s a m u → Wp (Cw (d + 0)) cd_M_unitBy (1, 0, n1) Q 2 [mR 144, mI a, mI u] [] w := by
    intro m
    induction m with
    | zero =>
      intro u hu he
      rw [he] at k
      apply M_unitBy_144_c2
      rw [es]
      exact ⟨fun _ => k, fun z => absurd (show s 2 ≤ (u : Int) by omega) z⟩
    | succ m ih =>
      intro u hu he
      apply M_unitBy_144_c2
      rw [es, ixu_2 (by omega), Int.toNat_natCast, ixs (k := u) (by omega)]
      refine ⟨fun z => by exfalso; omega, fun _ => ⟨by omega, fun z => ih (u + 1) (by omega) (by rw [he, ubF_no z]), fun z => ?_⟩⟩
      rw [he, ubF_yes (Classical.not_not.mp z)] at k
      exact k
  exact lp (s 2).toNat 0 (by omega) rfl
theorem S_goesOn {d : Nat} {Q : MV → Wd → Prop} {w : Wd} {s : Nat → Int} {K : Nat} {r : Nat → Nat} (ws : WS s) (es : w 146 = s) (rg : RgP s K r) (K0 : 0 < K) (c : MdR w K r) (u i : Nat) (hu : (u : Int) < s 2) (hi : i < K) (k1 : goP s K r u i → Q (mI 1) w) (k0 : ¬ goP s K r u i → Q (mI 0) w) : Cw (d + 2) 260 [mR 144, mI u, mI i] w Q := by
  have K8 := rg.K8
  have un := ws.un
  have pe := ws.pe
  have la := ws.la
  have kk0 : ¬ (K : Int) = 0 := by omega
  have lp : ∀ (n1 : Int) (f e S : Nat), e + f = (s 4).toNat → 1 ≤ e → S < 1024 → (∀ t : Nat, S.testBit t = true ↔ ∃ p, (hdB K r i e).testBit p = true ∧ s (7 + p) = t) → (∀ j : Nat, 1 ≤ j → j < e → letP s (fiR s u) (hdB K r i j) (r ((i + j) % K))) → Wp (Cw (d + 1)) cd_M_goesOn (2, 0, n1) Q 21 [mR 144, mI u, mI i, mI (hdB K r i e : Nat), mI S, mI e, none] [] w := by
    intro n1 f
    induction f with
    | zero =>
      intro e S he h1 hS8 hS h
      apply M_goesOn_144_c21
      rw [es]
      exact ⟨fun _ => k1 (fun j h1 h2 => h j h1 (by omega)), fun z => absurd (show s 4 ≤ (e : Int) by omega) z⟩
    | succ f ih =>
      intro e S he h1 hS8 hS h
      obtain ⟨m1, m2⟩ := mod8 (a := i + e) K0 K8
      have a1 := c.2 _ m1
      have b1 := rg.lt _ m1
      have hB8 := hdB_lt rg K0 i e
      have p8 := two8 b1.1
      have ta := ws.town _ b1.1
      obtain ⟨tq, htq⟩ := Int.eq_ofNat_of_zero_le ta.1
      have p10 : 2 ^ tq < 1024 := two10 (by omega)
      have es1 : ior ((hdB K r i e : Nat) : Int) (ishl 1 ((r ((i + e) % K) : Nat) : Int)) = ((hdB K r i (e + 1) : Nat) : Int) := by
        rw [ishl1 (by omega), ior_nat (by omega) (by omega)]; rfl
      have es2 : ior ((S : Nat) : Int) (ishl 1 ((tq : Nat) : Int)) = ((S ||| 2 ^ tq : Nat) : Int) := by
        rw [ishl1 (by omega), ior_nat (by omega) (by omega)]
      have i1 := ih (e + 1) (S ||| 2 ^ tq) (by omega) (by omega) (or10 hS8 p10) (fun t => by
        show (S ||| 2 ^ tq).testBit t = true ↔ ∃ p, (hdB K r i e ||| 2 ^ (r ((i + e) % K))).testBit p = true ∧ s (7 + p) = t
        rw [Nat.testBit_or, Nat.testBit_two_pow, Bool.or_eq_true, decide_eq_true_eq, hS t]
        constructor
        · rintro (⟨p, x, y⟩ | x)
          · exact ⟨p, by rw [Nat.testBit_or, x, Bool.true_or], y⟩
          · exact ⟨r ((i + e) % K), by rw [Nat.testBit_or, Nat.testBit_two_pow_self, Bool.or_true], by omega⟩
        · rintro ⟨p, x, y⟩
          rw [Nat.testBit_or, Nat.testBit_two_pow, Bool.or_eq_true, decide_eq_true_eq] at x
          rcases x with x | x
          · exact Or.inl ⟨p, x, y⟩
          · subst x; exact Or.inr (by omega))
      have yes : letP s (fiR s u) (hdB K r i e) (r ((i + e) % K)) → Wp (Cw (d + 1)) cd_M_goesOn (2, 0, n1) Q 88 [mR 144, mI u, mI i, mI (hdB K r i e : Nat), mI S, mI e, mI (r ((i + e) % K))] [] w := fun g => by
        apply M_goesOn_144_c88
        rw [es, ixa_7 (by omega), Int.toNat_natCast, htq, es1, es2, ixs (k := e) (by omega)]
        refine ⟨by omega, i1 (fun j h1 h2 => ?_)⟩
        by_cases q : j = e
        · rw [q]; exact g
        · exact h j h1 (by omega)
      have no : ¬ letP s (fiR s u) (hdB K r i e) (r ((i + e) % K)) → Q (mI 0) w := fun g => k0 (fun y => g (y e h1 (by omega)))
      clear i1
      generalize r ((i + e) % K) = q at *
      have hX : iand (ishr ((hdB K r i e : Nat) : Int) (q : Int)) 1 = if (hdB K r i e).testBit q then 1 else 0 := bit_nat (by omega) (by omega)
      generalize hdB K r i e = B at *
      have y2 : 0 ≤ ((31 + 5 * u : Nat) : Int) ∧ ((31 + 5 * u : Nat) : Int) < 645 := by omega
      have y3 : 0 ≤ ((32 + 5 * u : Nat) : Int) ∧ ((32 + 5 * u : Nat) : Int) < 645 := by omega
      have fi1 : s (31 + 5 * u) = q → fiR s u q = true := fun z => by unfold fiR; rw [decide_eq_true z, Bool.true_or]
      have fi2 : s (32 + 5 * u) = q → fiR s u q = true := fun z => by unfold fiR; rw [decide_eq_true z, Bool.or_true]
      have fi0 : ¬ s (31 + 5 * u) = q → ¬ s (32 + 5 * u) = q → fiR s u q = false := fun z z2 => by unfold fiR; rw [decide_eq_false z, decide_eq_false z2]; rfl
      have bf : ∀ {b : Bool}, ¬ (if b = true then (1 : Int) else 0) = 1 → b = false := fun {b} h => bitI.mp h
      have bt : ∀ {b : Bool}, ¬ ¬ (if b = true then (1 : Int) else 0) = 1 → b = true := fun {b} h => by cases b <;> simp at h ⊢
      -- the third law
      have l71 : ¬ s 5 = 1 ∨ (B.testBit q = false ∨ fiR s u q = true) → ¬ s 5 = 2 ∨ (B.testBit q = false ∧ fiR s u q = false) → Wp (Cw (d + 1)) cd_M_goesOn (2, 0, n1) Q 71 [mR 144, mI u, mI i, mI (B : Nat), mI S, mI e, mI q] [] w := fun g1 g2 => by
        have L1 : s 5 = 1 → B.testBit q = false ∨ fiR s u q = true := fun z => g1.resolve_left (fun y => y z)
        have L2 : s 5 = 2 → B.testBit q = false ∧ fiR s u q = false := fun z => g2.resolve_left (fun y => y z)
        apply M_goesOn_144_c71
        rw [es, ixa_7 (by omega), Int.toNat_natCast, htq, bit_nat (by omega) (by omega)]
        refine ⟨fun z => yes ⟨L1, L2, fun y => absurd y z⟩, fun z => ⟨by omega, fun z2 => yes ⟨L1, L2, fun _ p hp he => ?_⟩, fun z2 => no (fun g => ?_)⟩⟩
        · have y := (hS tq).mpr ⟨p, hp, by omega⟩
          rw [bf z2] at y; cases y
        · obtain ⟨p, x, y⟩ := (hS tq).mp (bt z2)
          exact g.2.2 (Classical.not_not.mp z) p x (by omega)
      -- the second
      have l54 : ¬ s 5 = 1 ∨ (B.testBit q = false ∨ fiR s u q = true) → Wp (Cw (d + 1)) cd_M_goesOn (2, 0, n1) Q 54 [mR 144, mI u, mI i, mI (B : Nat), mI S, mI e, mI q] [] w := fun g1 => by
        apply M_goesOn_144_c54
        rw [es, hX, ixu_2 (by omega), ixu_3 (by omega), Int.toNat_natCast, Int.toNat_natCast]
        refine ⟨fun z => l71 g1 (Or.inl z), fun z => ⟨fun z2 => ⟨y2, fun z3 => ?_, fun z3 => ⟨y3, fun z4 => l71 g1 (Or.inr ⟨bf z2, fi0 z3 z4⟩), fun z4 => ?_⟩⟩, fun z2 => ?_⟩⟩
        · refine M_goesOn_144_c69 (no (fun g => ?_))
          have := (g.2.1 (Classical.not_not.mp z)).2
          rw [fi1 z3] at this; cases this
        · refine M_goesOn_144_c69 (no (fun g => ?_))
          have := (g.2.1 (Classical.not_not.mp z)).2
          rw [fi2 (Classical.not_not.mp z4)] at this; cases this
        · refine M_goesOn_144_c69 (no (fun g => ?_))
          have := (g.2.1 (Classical.not_not.mp z)).1
          rw [bt z2] at this; cases this
      apply M_goesOn_144_c21
      rw [es, c.1, tmw (by omega), Int.toNat_natCast, a1, hX, ixu_2 (by omega), ixu_3 (by omega), Int.toNat_natCast, Int.toNat_natCast]
      refine ⟨fun z => by exfalso; omega, fun _ => ⟨kk0, by omega, fun z => l54 (Or.inl z), fun z => ⟨fun z2 => l54 (Or.inr (Or.inl (bf z2))), fun z2 => ⟨y2, fun z3 => l54 (Or.inr (Or.inr (fi1 z3))), fun z3 => ⟨y3, fun z4 => no (fun g => ?_), fun z4 => l54 (Or.inr (Or.inr (fi2 (Classical.not_not.mp z4))))⟩⟩⟩⟩⟩
      rcases g.1 (Classical.not_not.mp z) with y | y
      · rw [bt z2] at y; cases y
      · rw [fi0 z3 z4] at y; cases y
  have ei : i % K = i := Nat.mod_eq_of_lt hi
  have a0 := c.2 i hi
  have b0 := (rg.lt i hi).1
  have ta := ws.town _ b0
  obtain ⟨tq, htq⟩ := Int.eq_ofNat_of_zero_le ta.1
  have p10 : 2 ^ tq < 1024 := two10 (by omega)
  apply M_goesOn_144_en
  intro n1
  have e0 : hdB K r i 1 = 2 ^ r i := by
    show (0 ||| 2 ^ (r ((i + 0) % K)) : Nat) = _
    rw [Nat.zero_or, Nat.add_zero, ei]
  have L := lp n1 ((s 4).toNat - 1) 1 (2 ^ tq) (by omega) (Nat.le_refl _) p10 (fun t => by
    rw [e0, Nat.testBit_two_pow, decide_eq_true_eq]
    constructor
    · intro x
      exact ⟨r i, Nat.testBit_two_pow_self, by omega⟩
    · rintro ⟨p, x, y⟩
      rw [Nat.testBit_two_pow, decide_eq_true_eq] at x
      subst x; omega) (fun j h1 h2 => by omega)
  rw [e0] at L
  rw [Int.toNat_natCast, a0, es, ixa_7 (by omega), Int.toNat_natCast, htq, ishl1 (by omega), ishl1 (by omega)]
  exact ⟨by omega, by omega, by omega, L⟩

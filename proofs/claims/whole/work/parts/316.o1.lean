/-! rings -/
theorem tmn (a k : Nat) : Int.tmod ((a : Nat) : Int) ((k : Nat) : Int) = ((a % k : Nat) : Int) := rfl
theorem tmw {i e k : Nat} (h : i + e < 1000) : Int.tmod (w32 ((i : Int) + (e : Int))) (k : Int) = (((i + e) % k : Nat) : Int) := by
  rw [show (i : Int) + (e : Int) = ((i + e : Nat) : Int) by omega, w32n (by omega)]; rfl
theorem tmw1 {i k : Nat} (h : i < 1000) : Int.tmod (w32 ((i : Int) + 1)) (k : Int) = (((i + 1) % k : Nat) : Int) := by
  rw [ixs (by omega)]; rfl
theorem mod8 {a k : Nat} (h0 : 0 < k) (h8 : k ≤ 8) : a % k < k ∧ a % k < 8 := by
  have := Nat.mod_lt a h0
  omega
/-- the people of a ring -/
def RgP (s : Nat → Int) (K : Nat) (r : Nat → Nat) : Prop := (K ≤ 8) ∧ (∀ i, i < K → r i < 8 ∧ (r i : Int) < s 0) ∧ (∀ i j, i < j → j < K → r i ≠ r j)
theorem RgP.mk {s : Nat → Int} {K : Nat} {r : Nat → Nat} (K8_ : K ≤ 8) (lt_ : ∀ i, i < K → r i < 8 ∧ (r i : Int) < s 0) (un_ : ∀ i j, i < j → j < K → r i ≠ r j) : RgP s K r := And.intro K8_ (And.intro lt_ (un_))
theorem RgP.K8 {s : Nat → Int} {K : Nat} {r : Nat → Nat} (h_ : RgP s K r) : K ≤ 8 := h_.1
theorem RgP.lt {s : Nat → Int} {K : Nat} {r : Nat → Nat} (h_ : RgP s K r) : ∀ i, i < K → r i < 8 ∧ (r i : Int) < s 0 := h_.2.1
theorem RgP.un {s : Nat → Int} {K : Nat} {r : Nat → Nat} (h_ : RgP s K r) : ∀ i j, i < j → j < K → r i ≠ r j := h_.2.2
def cloP (s : Nat → Int) (K : Nat) (r : Nat → Nat) : Prop := ∀ i, i < K → s (269 + (8 * r i + r ((i + 1) % K))) = 1
def tkP (s t : Nat → Int) (K : Nat) : Prop := ∀ i, i < K → (0 ≤ t i ∧ t i < s 0) ∧ ∀ j, j < i → t j ≠ t i
theorem tkP_rg {s t : Nat → Int} {K : Nat} (pe : s 0 ≤ 8) (h8 : K ≤ 8) (h : tkP s t K) : RgP s K (fun i => (t i).toNat) ∧ ∀ i, i < K → t i = ((t i).toNat : Nat) := by
  refine ⟨⟨h8, fun i hi => ?_, fun i j hij hj => ?_⟩, fun i hi => ?_⟩
  · have := (h i hi).1
    show (t i).toNat < 8 ∧ (((t i).toNat : Nat) : Int) < s 0
    omega
  · have a := (h i (by omega)).1
    have b := h j hj
    have := b.2 i hij
    show (t i).toNat ≠ (t j).toNat
    omega
  · have := (h i hi).1; omega
/-- the class's taking of the tape -/
theorem S_take {d : Nat} {Q : MV → Wd → Prop} {w : Wd} {s nms : Nat → Int} (rv : RV (w 4) (w 5) (w 6) (w 7) (w 8) (w 9) (w 10) (w 11) (w 12) (w 13) (w 14) (w 15) s nms) (ws : WS s) (B : Nat) (hB : B ≤ 1040)
    (k1 : ∀ w', Fr [137, 138] w w' → 2 ≤ B → B ≤ 8 → tkP s (w 1) B → w' 137 2 = B → (∀ i, i < B → w' 138 i = w 1 i) → Q (mI 1) w')
    (k0 : ∀ w', Fr [137, 138] w w' → ¬ (2 ≤ B ∧ B ≤ 8 ∧ tkP s (w 1) B) → Q (mI 0) w') : Cw (d + 2) 129 [mR 137, mR 1, mI B] w Q := by
  have pe := ws.pe
  apply Ring_take_137_1_en
  intro n1
  refine ⟨fun z => k0 w (Fr.rfl' _ _) (by omega), fun z1 => ⟨fun z => k0 w (Fr.rfl' _ _) (by omega), fun z2 => ⟨fun _ => ?_, fun z => by exfalso; omega⟩⟩⟩
  have lp : ∀ (m i : Nat) (x : Int) (w1 : Wd), i + m = B → Fr [138] w w1 → (∀ j, j < i → w1 138 j = w 1 j) → tkP s (w 1) i → (∀ p : Nat, p < 8 → (tb x p = true ↔ ∃ j, j < i ∧ w 1 j = p)) → Wp (Cw (d + 1)) cd_Ring_take (2, 0, n1) Q 16 [mR 137, mR 1, mI B, mI x, mI i, none] [] w1 := by
    intro m
    induction m with
    | zero =>
      intro i x w1 hi hF h138 ht hx
      have : i = B := by omega
      subst this
      apply Ring_take_137_1_c16
      refine ⟨fun _ => k1 _ (Fr.ub (Fr.tr (Fr.rfl' _ w) hF (by decide)) (by decide)) (by omega) (by omega) ht ?_ h138, fun z => absurd (Int.le_refl _) z⟩
      rw [ub_ap, if_pos rfl, if_pos rfl]
    | succ m ih =>
      intro i x w1 hi hF h138 ht hx
      have e1 : w1 1 = w 1 := hF 1 (by decide)
      have e0 : w1 4 0 = s 0 := by rw [hF 4 (by decide)]; exact rv.people
      have F : Fr [137, 138] w w1 := Fr.tr (Fr.rfl' _ w) hF (by decide)
      apply Ring_take_137_1_c16
      rw [Int.toNat_natCast, e1, e0, ixs (k := i) (by omega)]
      refine ⟨fun z => by exfalso; omega, fun _ => ⟨by omega, fun z3 => k0 w1 F (fun g => ?_), fun z3 => ⟨fun z4 => k0 w1 F (fun g => ?_), fun z4 => ?_⟩⟩⟩
      · have := (g.2.2 i (by omega)).1; omega
      · have := (g.2.2 i (by omega)).1; omega
      · rw [hasbit_i _ (by omega) (by omega)]
        have hp := hx (w 1 i).toNat (by omega)
        refine ⟨fun z5 => ⟨by omega, ?_⟩, fun z5 => k0 w1 F (fun g => ?_)⟩
        · have nb : ¬ ∃ j, j < i ∧ w 1 j = ((w 1 i).toNat : Nat) := fun q => by rw [if_pos (hp.mpr q)] at z5; exact absurd z5 (by decide)
          refine ih (i + 1) _ _ (by omega) (Fr.ub hF (by decide)) (fun j hj => ?_) (fun j hj => ?_) (fun p hp8 => ?_)
          · show up1 (w1 138) i (w 1 i) j = _
            rw [up1_ap]
            by_cases q : j = i
            · rw [if_pos q, q]
            · rw [if_neg q]; exact h138 j (by omega)
          · by_cases q : j = i
            · subst q
              exact ⟨by omega, fun e he hh => nb ⟨e, he, by omega⟩⟩
            · exact ht j (by omega)
          · rw [tb_or, tb_bit (by omega) (by omega), Bool.or_eq_true, hx p hp8, decide_eq_true_eq]
            constructor
            · rintro (⟨j, a, b⟩ | q)
              · exact ⟨j, by omega, b⟩
              · exact ⟨i, by omega, by omega⟩
            · rintro ⟨j, a, b⟩
              by_cases q : j = i
              · subst q; exact Or.inr (by omega)
              · exact Or.inl ⟨j, by omega, b⟩
        · have yes : tb x (w 1 i).toNat = true := by
            cases q : tb x (w 1 i).toNat
            · rw [q] at z5; exact absurd rfl z5
            · rfl
          obtain ⟨j, a, b⟩ := hp.mp yes
          exact (g.2.2 i (by omega)).2 j a (by omega)
  exact lp B 0 0 w (by omega) (Fr.rfl' _ _) (fun j hj => absurd hj (Nat.not_lt_zero _)) (fun j hj => absurd hj (Nat.not_lt_zero _)) (fun p _ => by rw [tb_zero]; exact ⟨fun q => absurd q (by decide), fun y => y.elim (fun j a => absurd a.1 (Nat.not_lt_zero _))⟩)
/-- the class's ring -/
def ClR (w : Wd) (K : Nat) (r : Nat → Nat) : Prop := w 137 2 = K ∧ ∀ i, i < K → w 138 i = r i
theorem S_painsFrom {d : Nat} {Q : MV → Wd → Prop} {w : Wd} {s : Nat → Int} {K : Nat} {r : Nat → Nat} (rg : RgP s K r) (K0 : 0 < K) (c : ClR w K r) (i : Nat) (hi : i < 500) (k : Q (mI (w 14 (8 * r (i % K) + r ((i + 1) % K)))) w) : Cw (d + 3) 131 [mR 137, mI i] w Q := by
  have K8 := rg.K8
  obtain ⟨m1, m2⟩ := mod8 (a := i) K0 K8
  obtain ⟨m3, m4⟩ := mod8 (a := i + 1) K0 K8
  have a1 := c.2 _ m1
  have a2 := c.2 _ m3
  have b1 := (rg.lt _ m1).1
  have b2 := (rg.lt _ m3).1
  have nk : ¬ (K : Int) ≤ 0 := by omega
  have k0 : ¬ (K : Int) = 0 := by omega
  apply Ring_painsFrom_137_en
  rw [c.1, tmw1 (by omega), tmn, Int.toNat_natCast, Int.toNat_natCast, a1, a2, ix8a (by omega) b2, Int.toNat_natCast]
  refine ⟨fun z => absurd z nk, fun _ => ⟨k0, by omega, fun z => absurd z nk, fun _ => ⟨k0, by omega, by omega, k⟩⟩⟩
theorem S_closes {d : Nat} {Q : MV → Wd → Prop} {w : Wd} {s nms : Nat → Int} {K : Nat} {r : Nat → Nat} (rv : RV (w 4) (w 5) (w 6) (w 7) (w 8) (w 9) (w 10) (w 11) (w 12) (w 13) (w 14) (w 15) s nms) (ws : WS s) (rg : RgP s K r) (K0 : 0 < K) (c : ClR w K r) (k1 : cloP s K r → Q (mI 1) w) (k0 : ¬ cloP s K r → Q (mI 0) w) : Cw (d + 4) 130 [mR 137] w Q := by
  have K8 := rg.K8
  apply Ring_closes_137_en
  intro n1
  have lp : ∀ (m i : Nat), i + m = K → (∀ j, j < i → s (269 + (8 * r j + r ((j + 1) % K))) = 1) → Wp (Cw (d + 3)) cd_Ring_closes (2, 0, n1) Q 2 [mR 137, mI i] [] w := by
    intro m
    induction m with
    | zero =>
      intro i hi h
      have : i = K := by omega
      subst this
      apply Ring_closes_137_c2
      rw [c.1]
      exact ⟨fun _ => k1 h, fun z => absurd (Int.le_refl _) z⟩
    | succ m ih =>
      intro i hi h
      have e : i % K = i := Nat.mod_eq_of_lt (by omega)
      obtain ⟨m3, m4⟩ := mod8 (a := i + 1) K0 K8
      have b1 := (rg.lt i (by omega)).1
      have b2 := (rg.lt _ m3).1
      have tl := ws.told (8 * r i + r ((i + 1) % K)) (by omega)
      apply Ring_closes_137_c2
      rw [c.1, ixs (k := i) (by omega)]
      refine ⟨fun z => by exfalso; omega, fun _ => ?_⟩
      refine S_painsFrom (d := d) rg K0 c i (by omega) ?_
      rw [e]
      refine ⟨_, rfl, fun z => ih (i + 1) (by omega) (fun j hj => ?_), fun z => k0 (fun g => ?_)⟩
      · by_cases q : j = i
        · rw [q]
          rcases tl with y | y
          · exact absurd (rv.untold _ (by omega) y) z
          · exact y
        · exact h j (by omega)
      · have y := rv.told _ (by omega) (g i (by omega))
        have pa := ws.pai (8 * r i + r ((i + 1) % K)) (by omega)
        have z := Classical.not_not.mp z
        omega
  exact lp K 0 (by omega) (fun j hj => absurd hj (Nat.not_lt_zero _))
def ubF (s : Nat → Int) (a : Int) : Nat → Nat → Int
  | 0, _ => -1
  | m + 1, u => if s (31 + 5 * u) = a then u else ubF s a m (u + 1)
theorem ubF_yes {s : Nat → Int} {a : Int} {m u : Nat} (h : s (31 + 5 * u) = a) : ubF s a (m + 1) u = u := by
  show (if s (31 + 5 * u) = a then (u : Int) else ubF s a m (u + 1)) = u
  rw [if_pos h]
theorem ubF_no {s : Nat → Int} {a : Int} {m u : Nat} (h : ¬ s (31 + 5 * u) = a) : ubF s a (m + 1) u = ubF s a m (u + 1) := by
  show (if s (31 + 5 * u) = a then (u : Int) else ubF s a m (u + 1)) = _
  rw [if_neg h]
theorem ubF_bd (s : Nat → Int) (a : Int) : ∀ m u : Nat, ubF s a m u = -1 ∨ ∃ x : Nat, ubF s a m u = x ∧ x < u + m
  | 0, u => Or.inl rfl
  | m + 1, u => by
    by_cases z : s (31 + 5 * u) = a
    · rw [ubF_yes z]; exact Or.inr ⟨u, rfl, by omega⟩
    · rw [ubF_no z]
      rcases ubF_bd s a m (u + 1) with q | ⟨x, q, q2⟩
      · exact Or.inl q
      · exact Or.inr ⟨x, q, by omega⟩
theorem S_madeBy {d : Nat} {Q : MV → Wd → Prop} {w : Wd} {s nms : Nat → Int} (rv : RV (w 4) (w 5) (w 6) (w 7) (w 8) (w 9) (w 10) (w 11) (w 12) (w 13) (w 14) (w 15) s nms) (ws : WS s) (a : Int) (k : Q (mI (ubF s a (s 2).toNat 0)) w) : Cw (d + 2) 135 [mR 137, mI a] w Q := by
  have un := ws.un
  apply Ring_madeBy_137_en
  intro n1
  have lp : ∀ (m u : Nat), u + m = (s 2).toNat → ubF s a (s 2).toNat 0 = ubF s a m u → Wp (Cw (d + 1)) cd_Ring_madeBy (1, 0, n1) Q 2 [mR 137, mI a, mI u] [] w := by
    intro m
    induction m with
    | zero =>
      intro u hu he
      rw [he] at k
      apply Ring_madeBy_137_c2
      rw [rv.units]
      exact ⟨fun _ => k, fun z => absurd (show s 2 ≤ (u : Int) by omega) z⟩
    | succ m ih =>
      intro u hu he
      have mk := rv.mak u (by omega)
      apply Ring_madeBy_137_c2
      rw [rv.units, ix5_1 (by omega), Int.toNat_natCast, mk, ixs (k := u) (by omega)]
      refine ⟨fun z => by exfalso; omega, fun _ => ⟨by omega, fun z => ih (u + 1) (by omega) (by rw [he, ubF_no z]), fun z => ?_⟩⟩
      rw [he, ubF_yes (Classical.not_not.mp z)] at k
      exact k
  exact lp (s 2).toNat 0 (by omega) rfl
/-- who had it, e steps on -/
def hdB (K : Nat) (r : Nat → Nat) (i : Nat) : Nat → Nat
  | 0 => 0
  | e + 1 => hdB K r i e ||| 2 ^ (r ((i + e) % K))
def goP (s : Nat → Int) (K : Nat) (r : Nat → Nat) (u i : Nat) : Prop := ∀ e : Nat, 1 ≤ e → (e : Int) < s 4 → letP s (fiR s u) (hdB K r i e) (r ((i + e) % K))
theorem hdB_lt {s : Nat → Int} {K : Nat} {r : Nat → Nat} (rg : RgP s K r) (K0 : 0 < K) (i : Nat) : ∀ e, hdB K r i e < 256
  | 0 => by show 0 < 256; omega
  | e + 1 => or8 (hdB_lt rg K0 i e) (two8 (rg.lt _ (mod8 (a := i + e) K0 rg.K8).1).1)
theorem hdB_in {s : Nat → Int} {K : Nat} {r : Nat → Nat} (rg : RgP s K r) (K0 : 0 < K) (i : Nat) : ∀ (e p : Nat), (hdB K r i e).testBit p = true → (p : Int) < s 0
  | 0, p, h => by
    have h : (0 : Nat).testBit p = true := h
    simp at h
  | e + 1, p, h => by
    have h : (hdB K r i e ||| 2 ^ (r ((i + e) % K))).testBit p = true := h
    rw [Nat.testBit_or, Nat.testBit_two_pow, Bool.or_eq_true, decide_eq_true_eq] at h
    rcases h with h | h
    · exact hdB_in rg K0 i e p h
    · rw [← h]; exact (rg.lt _ (mod8 (a := i + e) K0 rg.K8).1).2
theorem S_goes {d : Nat} {Q : MV → Wd → Prop} {w : Wd} {s nms : Nat → Int} {K : Nat} {r : Nat → Nat} (rv : RV (w 4) (w 5) (w 6) (w 7) (w 8) (w 9) (w 10) (w 11) (w 12) (w 13) (w 14) (w 15) s nms) (ws : WS s) (rg : RgP s K r) (K0 : 0 < K) (c : ClR w K r) (u i : Nat) (hu : (u : Int) < s 2) (hi : i < K) (k1 : goP s K r u i → Q (mI 1) w) (k0 : ¬ goP s K r u i → Q (mI 0) w) : Cw (d + 3) 136 [mR 137, mI u, mI i] w Q := by
  have K8 := rg.K8
  have un := ws.un
  have pe := ws.pe
  have la := ws.la
  have mk := rv.mak u hu
  have pr := rv.par u hu
  have mk' := ws.mak u hu
  have pr' := ws.par u hu
  obtain ⟨m, hm⟩ := Int.eq_ofNat_of_zero_le mk'.1
  have nk : ¬ (K : Int) ≤ 0 := by omega
  have kk0 : ¬ (K : Int) = 0 := by omega
  have F1 : ¬ s (32 + 5 * u) = -1 → ∀ x, x < 8 → tb (ior (ishl 1 (m : Int)) (ishl 1 (s (32 + 5 * u)))) x = fiR s u x := fun zp x hx => by
    obtain ⟨q, hq⟩ := Int.eq_ofNat_of_zero_le (show 0 ≤ s (32 + 5 * u) by omega)
    unfold fiR
    rw [hm, hq, tb_or, tb_bit (by omega) (by omega), tb_bit (by omega) (by omega), Int.toNat_natCast, Int.toNat_natCast]
    congr 1 <;> exact decide_eq_decide.mpr ⟨fun h => by omega, fun h => by omega⟩
  have F0 : ¬ ¬ s (32 + 5 * u) = -1 → ∀ x, x < 8 → tb (ior (ishl 1 (m : Int)) 0) x = fiR s u x := fun zp x hx => by
    have zp := Classical.not_not.mp zp
    unfold fiR
    rw [hm, zp, tb_or, tb_bit (by omega) (by omega), Int.toNat_natCast, tb_zero, Bool.or_false, decide_eq_false (p := (-1 : Int) = x) (by omega), Bool.or_false]
    exact decide_eq_decide.mpr ⟨fun h => by omega, fun h => by omega⟩
  have lp : ∀ (n1 : Int) (f e : Nat), e + f = (s 4).toNat → 1 ≤ e → (∀ j : Nat, 1 ≤ j → j < e → letP s (fiR s u) (hdB K r i j) (r ((i + j) % K))) → Wp (Cw (d + 2)) cd_Ring_goes (2, 0, n1) Q 8 [mR 137, mI u, mI i, mI (hdB K r i e : Nat), mI e, none] [] w := by
    intro n1 f
    induction f with
    | zero =>
      intro e he h1 h
      apply Ring_goes_137_c8
      rw [rv.n]
      exact ⟨fun _ => k1 (fun j h1 h2 => h j h1 (by omega)), fun z => absurd (show s 4 ≤ (e : Int) by omega) z⟩
    | succ f ih =>
      intro e he h1 h
      obtain ⟨m1, m2⟩ := mod8 (a := i + e) K0 K8
      have a1 := c.2 _ m1
      have b1 := rg.lt _ m1
      have hB8 := hdB_lt rg K0 i e
      have bits := hdB_in rg K0 i e
      have p8 := two8 b1.1
      have es : ior ((hdB K r i e : Nat) : Int) (ishl 1 ((r ((i + e) % K) : Nat) : Int)) = ((hdB K r i (e + 1) : Nat) : Int) := by
        rw [ishl1 (by omega), ior_nat (by omega) (by omega)]; rfl
      have i1 := ih (e + 1) (by omega) (by omega)
      have yes : letP s (fiR s u) (hdB K r i e) (r ((i + e) % K)) → Wp (Cw (d + 2)) cd_Ring_goes (2, 0, n1) Q 8 [mR 137, mI u, mI i, mI (hdB K r i (e + 1) : Nat), mI (e + 1 : Nat), none] [] w := fun g => i1 (fun j h1 h2 => by
        by_cases q : j = e
        · rw [q]; exact g
        · exact h j h1 (by omega))
      have no : ¬ letP s (fiR s u) (hdB K r i e) (r ((i + e) % K)) → Q (mI 0) w := fun g => k0 (fun y => g (y e h1 (by omega)))
      apply Ring_goes_137_c8
      rw [rv.n, c.1, tmw (by omega), Int.toNat_natCast, a1, ix5_1 (by omega), ix5_2 (by omega), Int.toNat_natCast, Int.toNat_natCast, mk, pr, hm, rv.back, es, ixs (k := e) (by omega)]
      refine ⟨fun z => by exfalso; omega, fun _ => ⟨fun z => absurd z nk, fun _ => ⟨kk0, by omega, by omega, by omega, fun zp => ?_, fun zp => ?_⟩⟩⟩
      · refine S_letsG (d := d + 1) rv ws (fiR s u) _ (F1 zp) (hdB K r i e) hB8 bits (r ((i + e) % K)) b1.2 (fun y => ?_) (fun y => ?_)
        · exact ⟨_, rfl, fun _ => yes y, fun q => absurd (show ¬ (1 : Int) = 0 by decide) q⟩
        · exact ⟨_, rfl, fun q => absurd rfl q, fun _ => no y⟩
      · refine S_letsG (d := d + 1) rv ws (fiR s u) _ (F0 zp) (hdB K r i e) hB8 bits (r ((i + e) % K)) b1.2 (fun y => ?_) (fun y => ?_)
        · exact ⟨_, rfl, fun _ => yes y, fun q => absurd (show ¬ (1 : Int) = 0 by decide) q⟩
        · exact ⟨_, rfl, fun q => absurd rfl q, fun _ => no y⟩
  have ei : i % K = i := Nat.mod_eq_of_lt hi
  have a0 := c.2 i hi
  have b0 := (rg.lt i hi).1
  apply Ring_goes_137_en
  intro n1
  have L := lp n1 ((s 4).toNat - 1) 1 (by omega) (Nat.le_refl _) (fun j h1 h2 => by omega)
  have e1 : ((hdB K r i 1 : Nat) : Int) = ishl 1 ((r i : Nat) : Int) := by
    rw [ishl1 (by omega)]
    show ((0 ||| 2 ^ (r ((i + 0) % K)) : Nat) : Int) = _
    rw [Nat.zero_or, Nat.add_zero, ei]
  rw [e1] at L
  rw [c.1, tmn, ei, Int.toNat_natCast, a0]
  exact ⟨fun z => absurd z nk, fun _ => ⟨kk0, by omega, L⟩⟩

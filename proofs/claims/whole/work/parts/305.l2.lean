def letP (s : Nat → Int) (fi : Nat → Bool) (B q : Nat) : Prop := (s 5 = 1 → B.testBit q = false ∨ fi q = true) ∧ (s 5 = 2 → B.testBit q = false ∧ fi q = false) ∧ (s 5 = 3 → ∀ p, B.testBit p = true → s (7 + p) ≠ s (7 + q))
theorem S_letsG {d : Nat} {Q : MV → Wd → Prop} {w : Wd} {s nms : Nat → Int} (rv : RV (w 4) (w 5) (w 6) (w 7) (w 8) (w 9) (w 10) (w 11) (w 12) (w 13) (w 14) (w 15) s nms) (ws : WS s) (fi : Nat → Bool) (FB : Int) (hF : ∀ x, x < 8 → tb FB x = fi x) (B : Nat) (hB : B < 256) (hp : ∀ p, B.testBit p = true → (p : Int) < s 0) (q : Nat) (hq : (q : Int) < s 0)
    (k1 : letP s fi B q → Q (mI 1) w) (k0 : ¬ letP s fi B q → Q (mI 0) w) : Cw (d + 1) 67 [mR 4, mI (s 5), mI FB, mI B, mI q] w Q := by
  have pe := ws.pe
  have hq8 : q < 8 := by omega
  have e1 : tb ((B : Nat) : Int) q = B.testBit q := tb_nat _ _ (by omega)
  have e2 := hF q hq8
  apply Village_lets_4_en
  refine ⟨fun z => ?_, fun z => ⟨fun z2 => ?_, fun z2 => ⟨fun z3 => ?_, fun z3 => ?_⟩⟩⟩
  · rw [bit_zero _ (by omega), tb_and, tb_not _ (by omega), e1, e2]
    have n2 : ¬ s 5 = 2 := by omega
    have n3 : ¬ s 5 = 3 := by omega
    refine ⟨fun y => k0 (fun g => ?_), fun y => k1 ⟨fun _ => ?_, fun y => absurd y n2, fun y => absurd y n3⟩⟩
    · rcases g.1 z with g | g
      · rw [g] at y; exact y rfl
      · rw [g] at y; exact y (by simp)
    · have y := Classical.not_not.mp y
      cases a : B.testBit q
      · exact Or.inl rfl
      · rw [a] at y
        right
        cases b : fi q
        · rw [b] at y; cases y
        · rfl
  · rw [bit_zero _ (by omega), tb_or, e1, e2]
    have n1 : ¬ s 5 = 1 := z
    have n3 : ¬ s 5 = 3 := by omega
    refine ⟨fun y => k0 (fun g => ?_), fun y => k1 ⟨fun y => absurd y n1, fun _ => ?_, fun y => absurd y n3⟩⟩
    · obtain ⟨g1, g2⟩ := g.2.1 z2
      rw [g1, g2] at y; exact y rfl
    · have y := Classical.not_not.mp y
      rw [Bool.or_eq_false_iff] at y
      exact y
  · (refine And.intro (by omega) ?_)
    rw [Int.toNat_natCast]
    have n1 : ¬ s 5 = 1 := z
    have n2 : ¬ s 5 = 2 := z2
    have key : iand (B : Int) (w 7 q) = 0 ↔ ∀ p, B.testBit p = true → s (7 + p) ≠ s (7 + q) := by
      constructor
      · intro h p hp1 hp2
        have pp := hp p hp1
        have t2 : tb (w 7 q) p = true := by rw [rv.mates q p hq, decide_eq_true_eq]; exact ⟨pp, hp2.symm⟩
        have t1 : tb (B : Int) p = true := by rw [tb_nat _ _ (by omega)]; exact hp1
        have := congrArg (fun y => tb y p) h
        simp only [tb_and, tb_zero, t1, t2] at this
        cases this
      · intro h
        refine tb_ext (iand_in _ _) (by unfold in32; omega) (fun i hi => ?_)
        rw [tb_and, tb_zero, tb_nat _ _ (by omega)]
        cases a : B.testBit i
        · rfl
        · have g := h i a
          rw [rv.mates q i hq, Bool.true_and, decide_eq_false_iff_not]
          exact fun y => g y.2.symm
    refine ⟨fun y => k0 (fun g => y (key.mpr (g.2.2 z3))), fun y => k1 ⟨fun y => absurd y n1, fun y => absurd y n2, fun _ => key.mp (Classical.not_not.mp y)⟩⟩
  · exact k1 ⟨fun y => absurd y z, fun y => absurd y z2, fun y => absurd y z3⟩
theorem fbD_let {s : Nat → Int} (ws : WS s) {i : Nat} {D : DY} (h : DOk s i D) {u a to : Nat} (hu : (u : Int) < s 2) (ha : a < 8) (hto : to < 8) : fbD s D u a to = false ↔ letP s (fiR s u) (D.hd u ||| 2 ^ a) to := by
  unfold fbD letP
  have ta := ws.town a ha
  have tt := ws.town to hto
  by_cases z1 : s 5 = 1
  · rw [if_pos z1]
    refine ⟨fun g => ⟨fun _ => ?_, fun y => by omega, fun y => by omega⟩, fun g => ?_⟩
    · cases x : (D.hd u ||| 2 ^ a).testBit to
      · exact Or.inl rfl
      · rw [x, Bool.true_and] at g
        right
        cases y : fiR s u to
        · rw [y] at g; cases g
        · rfl
    · rcases g.1 z1 with x | x
      · rw [x]; rfl
      · rw [x]; simp
  · rw [if_neg z1]
    by_cases z2 : s 5 = 2
    · rw [if_pos z2, Bool.or_eq_false_iff]
      exact ⟨fun g => ⟨fun y => absurd y z1, fun _ => g, fun y => by omega⟩, fun g => g.2.1 z2⟩
    · rw [if_neg z2]
      by_cases z3 : s 5 = 3
      · rw [if_pos z3]
        have e : (D.tw u ||| 2 ^ (s (7 + a)).toNat).testBit (s (7 + to)).toNat = true ↔ ∃ p, (D.hd u ||| 2 ^ a).testBit p = true ∧ s (7 + p) = s (7 + to) := by
          rw [Nat.testBit_or, Nat.testBit_two_pow, Bool.or_eq_true, decide_eq_true_eq, h.tt u _ hu]
          constructor
          · rintro (⟨p, x, y⟩ | x)
            · exact ⟨p, by rw [Nat.testBit_or, x, Bool.true_or], by omega⟩
            · exact ⟨a, by rw [Nat.testBit_or, Nat.testBit_two_pow_self, Bool.or_true], by omega⟩
          · rintro ⟨p, x, y⟩
            rw [Nat.testBit_or, Nat.testBit_two_pow, Bool.or_eq_true, decide_eq_true_eq] at x
            rcases x with x | x
            · exact Or.inl ⟨p, x, by omega⟩
            · subst x; exact Or.inr (by omega)
        constructor
        · intro g
          refine ⟨fun y => absurd y z1, fun y => absurd y z2, fun _ p hp1 hp2 => ?_⟩
          rw [e.mpr ⟨p, hp1, hp2⟩] at g; cases g
        · intro g
          cases x : (D.tw u ||| 2 ^ (s (7 + a)).toNat).testBit (s (7 + to)).toNat
          · rfl
          · obtain ⟨p, y1, y2⟩ := e.mp x
            exact absurd y2 (g.2.2 z3 p y1)
      · rw [if_neg z3]
        exact ⟨fun _ => ⟨fun y => absurd y z1, fun y => absurd y z2, fun y => absurd y z3⟩, fun _ => rfl⟩
theorem S_wantMet {d : Nat} {Q : MV → Wd → Prop} {w : Wd} {s nms : Nat → Int} (rv : RV (w 4) (w 5) (w 6) (w 7) (w 8) (w 9) (w 10) (w 11) (w 12) (w 13) (w 14) (w 15) s nms) (ws : WS s) (u : Nat) (hu : (u : Int) < s 2) (a : Int) (H M : Nat) (hM : M < 256) (h133 : w 133 u = a) (h2 : w 132 2 = H) (h3 : w 132 3 = M) (k : Q (mI (wnF s H M a (s (30 + 5 * u)) (s 3).toNat 0)) w) : Cw (d + 2) 112 [mR 132, mR 4, mI u] w Q := by
  have un := ws.un
  have wa := ws.wa
  apply Day_wantMet_132_4_en
  intro n1
  have lp : ∀ (r v : Nat), v + r = (s 3).toNat → wnF s H M a (s (30 + 5 * u)) (s 3).toNat 0 = wnF s H M a (s (30 + 5 * u)) r v → Wp (Cw (d + 1)) cd_Day_wantMet (1, 0, n1) Q 2 [mR 132, mR 4, mI u, mI v] [] w := by
    intro r
    induction r with
    | zero =>
      intro v hv he
      rw [he] at k
      apply Day_wantMet_132_4_c2
      rw [rv.wants]
      refine ⟨fun _ => k, fun z => absurd (show s 3 ≤ (v : Int) by omega) z⟩
    | succ r ih =>
      intro v hv he
      have i1 := ih (v + 1) (by omega)
      have w0 := rv.want (4 * v) (by omega)
      have w1 := rv.want (4 * v + 1) (by omega)
      have w3 := rv.want (4 * v + 3) (by omega)
      rw [show 109 + (4 * v + 1) = 110 + 4 * v by omega] at w1
      rw [show 109 + (4 * v + 3) = 112 + 4 * v by omega] at w3
      have u0 := rv.usort u hu
      have no : ¬ (s (109 + 4 * v) = a ∧ s (110 + 4 * v) = s (30 + 5 * u) ∧ M.testBit v = false ∧ (H : Int) ≤ s (112 + 4 * v)) → Wp (Cw (d + 1)) cd_Day_wantMet (1, 0, n1) Q 2 [mR 132, mR 4, mI u, mI (v + 1 : Nat)] [] w := fun z => i1 (by rw [he, wnF_no z])
      apply Day_wantMet_132_4_c2
      rw [rv.wants, ix4_0 (by omega), ix4_1 (by omega), ix4_3 (by omega), ix5_0 (by omega), Int.toNat_natCast, Int.toNat_natCast, Int.toNat_natCast, Int.toNat_natCast, Int.toNat_natCast, w0, w1, w3, u0, h133, h2, h3, bit_nat (by omega) (by omega), ixs (k := v) (by omega)]
      refine ⟨fun z => by exfalso; omega, fun _ => ⟨by omega, by omega, fun z1 => no (fun g => z1 g.1), fun z1 => ⟨fun z2 => ⟨by omega, by omega, fun z3 => no (fun g => z3 g.2.1), fun z3 => ⟨by omega, fun z4 => no (fun g => by omega), fun z4 => ?_⟩⟩, fun z2 => no (fun g => z2 (by rw [g.2.2.1]; rfl))⟩⟩⟩
      have z1 := Classical.not_not.mp z1
      have z3 := Classical.not_not.mp z3
      have zb : M.testBit v = false := by
        cases x : M.testBit v
        · rfl
        · rw [x] at z2; exact absurd z2 (by simp)
      rw [he, wnF_yes z1 z3 zb (by omega)] at k
      exact k
  exact lp (s 3).toNat 0 (by omega) rfl
/-- the least of those who have it and are told to give -/
def FirG (s : Nat → Int) (hv : Nat → Bool) (to : Nat) (y : Int) : Prop := (y = -1 ∧ ∀ p : Nat, (p : Int) < s 0 → ¬ (hv p = true ∧ s (269 + (8 * p + to)) = 1)) ∨ (∃ p : Nat, (p : Int) < s 0 ∧ y = p ∧ hv p = true ∧ s (269 + (8 * p + to)) = 1 ∧ ∀ q, q < p → ¬ (hv q = true ∧ s (269 + (8 * q + to)) = 1))
theorem L_dayGiver {d : Nat} {n1 : Int} {Q : MV → Wd → Prop} {w : Wd} {s nms : Nat → Int} (rv : RV (w 4) (w 5) (w 6) (w 7) (w 8) (w 9) (w 10) (w 11) (w 12) (w 13) (w 14) (w 15) s nms) (ws : WS s) (A : Int) (hv : Nat → Bool) (hA : ∀ p, p < 8 → tb A p = hv p) (to : Nat) (hto : to < 8)
    (k : ∀ y, FirG s hv to y → Q (mI y) w) : ∀ (r p : Nat), p + r = (s 0).toNat → (∀ q, q < p → ¬ (hv q = true ∧ s (269 + (8 * q + to)) = 1)) → Wp (Cw (d + 2)) cd_Day_giver (1, 0, n1) Q 19 [none, mR 4, none, mI to, mI A, mI p] [] w := by
  have pe := ws.pe
  intro r
  induction r with
  | zero =>
    intro p hp hn
    apply Day_giver_132_4_c19
    rw [rv.people]
    exact ⟨fun _ => k (-1) (Or.inl ⟨rfl, fun q hq => hn q (by omega)⟩), fun z => absurd (show s 0 ≤ (p : Int) by omega) z⟩
  | succ r ih =>
    intro p hp hn
    have i1 := ih (p + 1) (by omega)
    have tl := ws.told (8 * p + to) (by omega)
    apply Day_giver_132_4_c19
    rw [rv.people, hasbit _ (by omega), hA p (by omega), ix8a (by omega) hto, Int.toNat_natCast, ixs (k := p) (by omega)]
    have skip : ¬ (hv p = true ∧ s (269 + (8 * p + to)) = 1) → Wp (Cw (d + 2)) cd_Day_giver (1, 0, n1) Q 19 [none, mR 4, none, mI to, mI A, mI (p + 1 : Nat)] [] w := fun g => i1 (fun q hq => by
      by_cases e : q = p
      · rw [e]; exact g
      · exact hn q (by omega))
    refine ⟨fun z => by exfalso; omega, fun _ => ⟨fun z => skip (fun g => by rw [g.1] at z; exact absurd z (by simp)), fun z => ⟨by omega, fun z2 => skip (fun g => ?_), fun z2 => ?_⟩⟩⟩
    · have := rv.told _ (by omega) g.2
      have pa := ws.pai (8 * p + to) (by omega)
      omega
    · have hh : hv p = true := by
        cases x : hv p
        · rw [x] at z; exact absurd rfl z
        · rfl
      have t1 : s (269 + (8 * p + to)) = 1 := by
        rcases tl with x | x
        · exact absurd (rv.untold _ (by omega) x) z2
        · exact x
      exact k p (Or.inr ⟨p, by omega, rfl, hh, t1, hn⟩)
theorem FirG_one {s : Nat → Int} (ws : WS s) {u p to : Nat} (hp : p < 8) (hto : to < 8) {hv : Nat → Bool} (hA : ∀ q, q < 8 → hv q = decide (q = p)) {y : Int} (h : FirG s hv to y) : y = gvD s u (p : Int) to := by
  have pe := ws.pe
  unfold gvD
  rw [if_pos (by omega), Int.toNat_natCast]
  rcases h with ⟨a, b⟩ | ⟨q, a, b, c, e, f⟩
  · rw [a]
    by_cases z : s (269 + (8 * p + to)) = 1
    · exfalso
      have := (ws.tin p to hp hto z).1
      exact b p this ⟨by rw [hA p hp, decide_eq_true_eq], z⟩
    · rw [if_neg z]
  · rw [hA q (by omega), decide_eq_true_eq] at c
    subst c
    rw [if_pos e, b]
theorem FirG_two {s : Nat → Int} (ws : WS s) {u to : Nat} (hu : (u : Int) < s 2) (hto : to < 8) {h : Int} (hh : h < 0) {hv : Nat → Bool} (hA : ∀ q, q < 8 → hv q = fiR s u q) {y : Int} (g : FirG s hv to y) : y = gvD s u h to := by
  have pe := ws.pe
  have mk := ws.mak u hu
  have pr := ws.par u hu
  obtain ⟨m, hm⟩ := Int.eq_ofNat_of_zero_le mk.1
  have fi : ∀ q, q < 8 → (hv q = true ↔ q = m ∨ s (32 + 5 * u) = q) := fun q hq => by
    rw [hA q hq]
    unfold fiR
    rw [Bool.or_eq_true, decide_eq_true_eq, decide_eq_true_eq, hm]
    constructor
    · rintro (x | x)
      · exact Or.inl (by omega)
      · exact Or.inr x
    · rintro (x | x)
      · exact Or.inl (by omega)
      · exact Or.inr x
  unfold gvD
  rw [if_neg (by omega), hm, Int.toNat_natCast]
  by_cases z : s (32 + 5 * u) < 0 ∨ (m : Int) < s (32 + 5 * u)
  · rw [if_pos z]
    rcases g with ⟨a, b⟩ | ⟨q, a, b, c, e, f⟩
    · rw [if_neg (fun x => b m (by omega) ⟨(fi m (by omega)).mpr (Or.inl rfl), x⟩), if_neg (fun x => ?_)]
      · exact a
      · obtain ⟨r, hr⟩ := Int.eq_ofNat_of_zero_le x.1
        rw [hr, Int.toNat_natCast] at x
        exact b r (by omega) ⟨(fi r (by omega)).mpr (Or.inr hr), x.2⟩
    · rcases (fi q (by omega)).mp c with x | x
      · subst x; rw [if_pos e, b]
      · by_cases t : s (269 + (8 * m + to)) = 1
        · exfalso
          exact f m (by omega) ⟨(fi m (by omega)).mpr (Or.inl rfl), t⟩
        · rw [if_neg t, x, Int.toNat_natCast, if_pos ⟨by omega, e⟩, b]
  · rw [if_neg z]
    obtain ⟨r, hr⟩ := Int.eq_ofNat_of_zero_le (show 0 ≤ s (32 + 5 * u) by omega)
    rw [hr, Int.toNat_natCast]
    rcases g with ⟨a, b⟩ | ⟨q, a, b, c, e, f⟩
    · rw [if_neg (fun x => b r (by omega) ⟨(fi r (by omega)).mpr (Or.inr hr), x⟩), if_neg (fun x => b m (by omega) ⟨(fi m (by omega)).mpr (Or.inl rfl), x⟩)]
      exact a
    · rcases (fi q (by omega)).mp c with x | x
      · subst x
        by_cases t : s (269 + (8 * r + to)) = 1
        · exfalso
          exact f r (by omega) ⟨(fi r (by omega)).mpr (Or.inr hr), t⟩
        · rw [if_neg t, if_pos e, b]
      · have : q = r := by omega
        subst this
        rw [if_pos e, b]
theorem whN_cases (s : Nat → Int) (D : DY) (u : Nat) : ((D.H : Int) < s (33 + 5 * u) ∧ whN s D u = 1) ∨ (s (33 + 5 * u) ≤ D.H ∧ (D.ho u = -2 ∨ spS s u ≤ D.H) ∧ whN s D u = 2) ∨ (s (33 + 5 * u) ≤ D.H ∧ ¬ D.ho u = -2 ∧ (D.H : Int) < spS s u ∧ D.H < D.fr u ∧ whN s D u = 3) ∨ (s (33 + 5 * u) ≤ D.H ∧ ¬ D.ho u = -2 ∧ (D.H : Int) < spS s u ∧ D.fr u ≤ D.H ∧ whN s D u = 0) := by
  unfold whN
  by_cases z1 : (D.H : Int) < s (33 + 5 * u)
  · rw [if_pos z1]; exact Or.inl ⟨z1, rfl⟩
  · rw [if_neg z1]
    by_cases z2 : D.ho u = -2 ∨ spS s u ≤ D.H
    · rw [if_pos z2]; exact Or.inr (Or.inl ⟨by omega, z2, rfl⟩)
    · rw [if_neg z2]
      by_cases z3 : D.H < D.fr u
      · rw [if_pos z3]; exact Or.inr (Or.inr (Or.inl ⟨by omega, fun y => z2 (Or.inl y), by omega, z3, rfl⟩))
      · rw [if_neg z3]; exact Or.inr (Or.inr (Or.inr ⟨by omega, fun y => z2 (Or.inl y), by omega, by omega, rfl⟩))
theorem whU_cases (s : Nat → Int) (D : DY) (u : Nat) : (0 < whN s D u ∧ whU s D u = whN s D u) ∨ (whN s D u = 0 ∧ ¬ (D.ma u : Int) = s 4 ∧ whU s D u = 6) ∨ (whN s D u = 0 ∧ (D.ma u : Int) = s 4 ∧ wnD s D (D.ho u) u < 0 ∧ whU s D u = 7) ∨ (whN s D u = 0 ∧ (D.ma u : Int) = s 4 ∧ 0 ≤ wnD s D (D.ho u) u ∧ whU s D u = 0) := by
  have h0 := whN_cases s D u
  unfold whU
  by_cases z0 : 0 < whN s D u
  · rw [if_pos z0]; exact Or.inl ⟨z0, rfl⟩
  · rw [if_neg z0]
    have y0 : whN s D u = 0 := by omega
    by_cases z1 : (D.ma u : Int) = s 4
    · rw [if_neg (fun y => y z1)]
      by_cases z2 : wnD s D (D.ho u) u < 0
      · rw [if_pos z2]; exact Or.inr (Or.inr (Or.inl ⟨y0, z1, z2, rfl⟩))
      · rw [if_neg z2]; exact Or.inr (Or.inr (Or.inr ⟨y0, z1, by omega, rfl⟩))
    · rw [if_pos z1]; exact Or.inr (Or.inl ⟨y0, z1, rfl⟩)

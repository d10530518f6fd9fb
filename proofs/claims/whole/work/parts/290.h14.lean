def BestS (p : Nat → Prop) (x : Int) (m : Nat) : Prop := (x = -1 ∧ ∀ S, S < m → ¬ p S) ∨ ∃ R : Nat, x = R ∧ LeastS p m R
theorem BestS.hit {p : Nat → Prop} {x : Int} {m : Nat} (h : BestS p x m) (hm : p m) (hx : x = -1 ∨ ∃ R : Nat, x = R ∧ pop m < pop R) : BestS p (m : Int) (m + 1) := by
  refine Or.inr ⟨m, rfl, by omega, hm, fun S hS hp => ?_⟩
  by_cases e : S = m
  · subst e; exact Or.inr ⟨rfl, Nat.le_refl _⟩
  · rcases h with ⟨h1, h2⟩ | ⟨R, h1, h2⟩
    · exact absurd hp (h2 S (by omega))
    · have := h2.2.2 S (by omega) hp
      rcases hx with hx | ⟨R', e1, e2⟩
      · exfalso; omega
      · have : R' = R := by omega
        subst this
        left; omega
theorem BestS.miss {p : Nat → Prop} {x : Int} {m : Nat} (h : BestS p x m) (hm : ¬ p m) : BestS p x (m + 1) := by
  rcases h with ⟨h1, h2⟩ | ⟨R, h1, h2⟩
  · refine Or.inl ⟨h1, fun S hS => ?_⟩
    by_cases e : S = m
    · subst e; exact hm
    · exact h2 S (by omega)
  · refine Or.inr ⟨R, h1, by have := h2.1; omega, h2.2.1, fun S hS hp => ?_⟩
    by_cases e : S = m
    · subst e; exact absurd hp hm
    · exact h2.2.2 S (by omega) hp
theorem BestS.keep {p : Nat → Prop} {m R : Nat} (h : BestS p (R : Int) m) (hm : ¬ pop m < pop R) : BestS p (R : Int) (m + 1) := by
  rcases h with ⟨h1, h2⟩ | ⟨R', h1, h2⟩
  · exfalso; omega
  · have : R = R' := by omega
    subst this
    refine Or.inr ⟨R, rfl, by have := h2.1; omega, h2.2.1, fun S hS hp => ?_⟩
    by_cases e : S = m
    · subst e
      have := h2.1
      omega
    · exact h2.2.2 S (by omega) hp
theorem tdiv8 {i : Nat} (h : i < 64) : w32 (Int.tdiv (i : Int) 8) = ((i / 8 : Nat) : Int) := by
  rw [Int.tdiv_eq_ediv_of_nonneg (by omega), w32_id (by unfold in32; omega)]; omega
theorem w_s64 {i : Nat} (h : i < 1000) : w32 ((i : Int) + 1) = ((i + 1 : Nat) : Int) := by rw [w32_id (by unfold in32; omega)]; omega
theorem L_s27 {d : Nat} {n1 : Int} {Q : MV → Wd → Prop} {w4 : Wd} {x1 : Int} (S : Nat) (hS : S < 256)
    (k : ∀ g : Nat → Int, (∀ k, k < 64 → g k = if S.testBit (k / 8) = true then 0 else w4 151 k) → Wp (Cw (d + 29)) cd_M_stop (1, 0, n1) Q 27 [mR 144, mI x1, mI S, mI ((64 : Nat) : Int)] [] (ubf w4 151 g)) : Wp (Cw (d + 29)) cd_M_stop (1, 0, n1) Q 27 [mR 144, mI x1, mI S, mI 0] [] w4 := by
  have lp : ∀ (m i : Nat) (g : Nat → Int), i + m = 64 → (∀ k, k < 64 → g k = if k < i ∧ S.testBit (k / 8) = true then 0 else w4 151 k) → Wp (Cw (d + 29)) cd_M_stop (1, 0, n1) Q 27 [mR 144, mI x1, mI S, mI i] [] (ubf w4 151 g) := by
    intro m
    induction m with
    | zero =>
      intro i g hi hg
      have : i = 64 := by omega
      subst this
      refine k g (fun j hj => ?_)
      rw [hg j hj]
      by_cases q : S.testBit (j / 8) = true
      · rw [if_pos ⟨hj, q⟩, if_pos q]
      · rw [if_neg (fun y => q y.2), if_neg q]
    | succ m ih =>
      intro i g hi hg
      have i64 : i < 64 := by omega
      have r1 : 0 ≤ (i : Int) ∧ (i : Int) < 64 := by omega
      have nb : ¬ (64 : Int) ≤ (i : Int) := by omega
      have im : i + 1 + m = 64 := by omega
      have i8 : i / 8 < 32 := by omega
      apply M_stop_144_c27
      rw [tdiv8 i64, hasbit _ i8, tb_nat _ _ (by omega), w_s64 (i := i) (by omega), Int.toNat_natCast, ub_on]
      refine ⟨fun y => absurd y nb, fun _ => ⟨fun y => ?_, fun y => ⟨r1, ?_⟩⟩⟩
      · have y : ¬ S.testBit (i / 8) = true := fun q => y (by rw [if_pos q])
        refine ih (i + 1) g im (fun j hj => ?_)
        rw [hg j hj]
        by_cases q : j < i ∧ S.testBit (j / 8) = true
        · rw [if_pos q, if_pos ⟨by omega, q.2⟩]
        · rw [if_neg q, if_neg (fun q2 => ?_)]
          by_cases e : j = i
          · subst e; exact y q2.2
          · exact q ⟨by omega, q2.2⟩
      · have y : S.testBit (i / 8) = true := by
          by_cases q : S.testBit (i / 8) = true
          · exact q
          · exact absurd (fun h => by rw [if_neg q] at h; cases h) y
        refine ih (i + 1) _ im (fun j hj => ?_)
        rw [up1_ap]
        by_cases e : j = i
        · subst e
          rw [if_pos rfl, if_pos ⟨by omega, y⟩]
        · rw [if_neg e, hg j hj]
          by_cases q : j < i ∧ S.testBit (j / 8) = true
          · rw [if_pos q, if_pos ⟨by omega, q.2⟩]
          · rw [if_neg q, if_neg (fun q2 => q ⟨by omega, q2.2⟩)]
  refine Eq.mp ?_ (lp 64 0 (w4 151) (by omega) (fun j hj => by rw [if_neg (fun q => absurd q.1 (by omega))]))
  rw [ubf_sf0 w4 151]
  rfl
theorem RfT_X {o v gv g pn hr ak s : Nat → Int} {S : Nat} (hg : ∀ k, k < 64 → g k = if S.testBit (k / 8) = true then 0 else gv k) (h : RfT o v gv pn hr ak (TmS s)) : RfT o v g pn hr ak (TmX s S) := by
  refine (RfT.mk (h.P) (h.P8) (h.n2) (h.n6) (h.back) (h.back3) (h.hands) (fun p q p8 q8 => ?_) (h.pn) (h.hr) (h.ak) (h.tw) (h.pn9) (h.hr9) (h.ak9) (h.tw9))
  have e : (8 * p + q) / 8 = p := by omega
  rw [TmX_gv, hg _ (by omega), e, ← h.gv p q p8 q8]
  cases S.testBit p <;> simp
def RsS (w w1 : Wd) : Prop := Fr ([113] ++ scrR) w w1 ∧ w1 113 2 = -1 ∧ (∀ i, i ∈ [2, 15, 41, 42, 62, 64, 66, 71, 72] → w1 144 i = w 144 i)
theorem S_sCheck {d : Nat} {n1 : Int} {Q : MV → Wd → Prop} {w w1 : Wd} (ws : WS (w 146)) (S : Nat) (hS : S < 256) (x1 : Int) (rs : RsS w w1)
    (k1 : ∀ w2, RsS w w2 → moX (w 146) S = 0 → Wp (Cw (d + 29)) cd_M_stop (1, 0, n1) Q 7 [mR 144, mI S, mI ((S + 1 : Nat) : Int), none] [] w2)
    (k0 : ∀ w2, RsS w w2 → ¬ moX (w 146) S = 0 → Wp (Cw (d + 29)) cd_M_stop (1, 0, n1) Q 7 [mR 144, mI x1, mI ((S + 1 : Nat) : Int), none] [] w2) :
    Cw (d + 29) 208 [mR 144] w1 (fun _ v3 => Wp (Cw (d + 29)) cd_M_stop (1, 0, n1) Q 27 [mR 144, mI x1, mI S, mI 0] [] v3) := by
  have un := ws.un
  have wa := ws.wa
  have u16 : (w 146 2).toNat ≤ 16 := by omega
  have W8 : (w 146 3).toNat ≤ 8 := by omega
  have wu : w 146 2 = ((w 146 2).toNat : Int) := by omega
  have ww : w 146 3 = ((w 146 3).toNat : Int) := by omega
  obtain ⟨f1, f2, f3⟩ := rs
  refine S_refT (d := d + 28) (w := w) (w3 := w1) ws (f1 146 (by decide)) ?_
  intro w4 hF4 i4 law rt
  have fr4 : Fr ([113] ++ scrR) w w4 := Fr.tr f1 hF4 (by decide)
  refine L_s27 (d := d) S hS ?_
  intro g hg
  apply M_stop_144_c27
  refine ⟨fun _ => ?_, fun y => absurd (Int.le_refl _) y⟩
  refine S_refW2 (d := d + 24) (w := w) (w4 := ubf w4 151 g) (T := TmX (w 146) S) ws (TmB_X (TmB_told ws) S) (fr4 146 (by decide)) law (RfT_X hg rt) ?_
  intro w5 hK rf
  have fr5 : Fr ([113] ++ scrR) w w5 := Fr.tr (Fr.ubf fr4 (by decide)) hK.1 (by decide)
  have e5 : w5 146 = w 146 := fr5 146 (by decide)
  refine S_mostMet (d := d + 26) (w := w5) (w 146 2).toNat (w 146 3).toNat u16 W8 (by rw [e5]; exact wu) (by rw [e5]; exact ww) (adjS (TmX (w 146) S) (w 146)) (fun u v hu hv => RfD.ha rf u v hu hv) ?_
  intro v' g' hm'
  have em : moX (w 146) S = v' := mostV_eq hm'
  have rs2 : RsS w (ubf w5 165 g') := by
    refine ⟨Fr.ubf fr5 (by decide), ?_, fun i hi => ?_⟩
    · show w5 113 2 = -1
      rw [hK.1 113 (by decide)]
      show w4 113 2 = -1
      rw [hF4 113 (by decide)]; exact f2
    · have hi2 := hi
      simp only [List.mem_cons, List.not_mem_nil, or_false] at hi2
      show w5 144 i = _
      rw [hK.2 i (by omega) (by omega) (by omega)]
      show w4 144 i = _
      rw [i4 i hi]; exact f3 i hi
  rw [w_s64 (by omega)]
  refine ⟨_, rfl, fun y => k0 _ rs2 (fun q => ?_), fun y => k1 _ rs2 ?_⟩
  · rw [em] at q; subst q; exact y rfl
  · rw [em]; exact Int.ofNat_inj.mp (Classical.not_not.mp y)
theorem L_s7 {d : Nat} {n1 : Int} {Q : MV → Wd → Prop} {w : Wd} (ws : WS (w 146)) (P : Nat) (hP : P ≤ 8) (eP : w 146 0 = P)
    (k : ∀ x w1, RsS w w1 → BestS (fun S => moX (w 146) S = 0) x (2 ^ P) → Q (mI x) w1) :
    ∀ (m S : Nat) (x : Int) (w1 : Wd), S + m = 2 ^ P → RsS w w1 → BestS (fun S => moX (w 146) S = 0) x S → Wp (Cw (d + 29)) cd_M_stop (1, 0, n1) Q 7 [mR 144, mI x, mI S, none] [] w1 := by
  have p8 := pw8 hP
  intro m
  induction m with
  | zero =>
    intro S x w1 hS rs hb
    have hS : S = 2 ^ P := by omega
    subst hS
    have e1 : w1 146 0 = P := by rw [rs.1 146 (by decide)]; exact eP
    apply M_stop_144_c7
    rw [e1, ishl1 (by omega)]
    exact ⟨fun _ => k x w1 rs hb, fun y => absurd (Int.le_refl _) y⟩
  | succ m ih =>
    intro S x w1 hS rs hb
    have S8 : S < 256 := by omega
    have sm : S + 1 + m = 2 ^ P := by omega
    have P30 : P ≤ 30 := by omega
    have e1 : w1 146 0 = P := by rw [rs.1 146 (by decide)]; exact eP
    have nb : ¬ ((2 ^ P : Nat) : Int) ≤ (S : Int) := by omega
    apply M_stop_144_c7
    rw [e1, ishl1 P30]
    refine ⟨fun y => absurd y nb, fun _ => ⟨fun y => ?_, fun y => ?_⟩⟩
    · have xm : x = -1 := by
        rcases hb with q | ⟨R, q, _⟩
        · exact q.1
        · exfalso; omega
      refine S_sCheck (d := d) ws S S8 x rs (fun w2 r2 hm => ?_) (fun w2 r2 hm => ?_)
      · exact ih (S + 1) _ w2 sm r2 (hb.hit hm (Or.inl xm))
      · exact ih (S + 1) _ w2 sm r2 (hb.miss hm)
    · obtain ⟨R, hR⟩ := Int.eq_ofNat_of_zero_le (show 0 ≤ x by omega)
      subst hR
      have R8 : R ≤ 1024 := by
        rcases hb with q | ⟨R', q, q2⟩
        · exfalso; omega
        · have := q2.1; omega
      refine S_count1 (d := d + 28) S rfl (by omega) ?_
      refine ⟨_, rfl, ?_⟩
      refine S_count1 (d := d + 28) R rfl R8 ?_
      refine ⟨_, rfl, fun z => ?_, fun z => ?_⟩
      · have z : pop S < pop R := Int.ofNat_lt.mp z
        refine S_sCheck (d := d) ws S S8 (R : Int) rs (fun w2 r2 hm => ?_) (fun w2 r2 hm => ?_)
        · exact ih (S + 1) _ w2 sm r2 (hb.hit hm (Or.inr ⟨R, rfl, z⟩))
        · exact ih (S + 1) _ w2 sm r2 (hb.miss hm)
      · have z : ¬ pop S < pop R := fun q => z (Int.ofNat_lt.mpr q)
        rw [w_s64 (by omega)]
        exact ih (S + 1) _ w1 sm rs (hb.keep z)

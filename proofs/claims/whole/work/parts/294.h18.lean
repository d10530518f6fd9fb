theorem S_lCheck {d : Nat} {n1 : Int} {Q : MV → Wd → Prop} {w w1 : Wd} (ws : WS (w 146)) (S : Nat) (hS : S < 256) (x1 : Int) (rs : RsS w w1)
    (k1 : ∀ w2, RsS w w2 → livP (w 146) S → Wp (Cw (d + 29)) cd_M_live (1, 0, n1) Q 7 [mR 144, mI S, mI ((S + 1 : Nat) : Int), none, none] [] w2)
    (k0 : ∀ w2, RsS w w2 → ¬ livP (w 146) S → Wp (Cw (d + 29)) cd_M_live (1, 0, n1) Q 7 [mR 144, mI x1, mI ((S + 1 : Nat) : Int), none, none] [] w2) :
    Wp (Cw (d + 29)) cd_M_live (1, 0, n1) Q 27 [mR 144, mI x1, mI S, mI 0, mI 0] [] w1 := by
  have pe := ws.pe
  have un := ws.un
  have wa := ws.wa
  have u16 : (w 146 2).toNat ≤ 16 := by omega
  have W8 : (w 146 3).toNat ≤ 8 := by omega
  have wu : w 146 2 = ((w 146 2).toNat : Int) := by omega
  have ww : w 146 3 = ((w 146 3).toNat : Int) := by omega
  have e1 : w1 146 = w 146 := rs.1 146 (by decide)
  have lp : ∀ (m v : Nat), v + m = (w 146 3).toNat → Wp (Cw (d + 29)) cd_M_live (1, 0, n1) Q 27 [mR 144, mI x1, mI S, mI (wantM (w 146) S v), mI v] [] w1 := by
    intro m
    induction m with
    | zero =>
      intro v hv
      have hv : v = (w 146 3).toNat := by omega
      have lt := wantM_lt (w 146) S (w 146 3).toNat
      have p8 := pw8 W8
      have r1 : 0 ≤ ((wantM (w 146) S (w 146 3).toNat : Nat) : Int) ∧ ((wantM (w 146) S (w 146 3).toNat : Nat) : Int) < 256 := by omega
      have l256 : wantM (w 146) S (w 146 3).toNat < 256 := by omega
      have z0 : w1 146 3 ≤ (v : Int) := by rw [e1]; omega
      subst hv
      apply M_live_144_c27
      rw [w_s64 (i := S) (by omega)]
      refine ⟨fun _ => ⟨fun nz => ?_, fun z => k0 w1 rs (fun q => q.1 (Int.ofNat_inj.mp (Classical.not_not.mp z)))⟩, fun y => absurd z0 y⟩
      obtain ⟨f1, f2, f3⟩ := rs
      refine S_refT (d := d + 28) (w := w) (w3 := w1) ws e1 ?_
      intro w4 hF4 i4 law rt
      have fr4 : Fr ([113] ++ scrR) w w4 := Fr.tr f1 hF4 (by decide)
      refine S_refW2 (d := d + 24) (w := w) (w4 := ub w4 144 27 (S : Int)) (T := TmL (w 146) S) ws (TmB_L (TmB_told ws) S) (fr4 146 (by decide)) law (RfT_L hS rt) ?_
      intro w5 hK rf
      have fr5 : Fr ([113] ++ scrR) w w5 := Fr.tr (Fr.ub fr4 (by decide)) hK.1 (by decide)
      have e5 : w5 146 = w 146 := fr5 146 (by decide)
      refine S_meets (d := d + 27) (w := w5) (w 146 2).toNat (w 146 3).toNat u16 W8 (by rw [e5]; exact wu) (by rw [e5]; exact ww) (adjS (TmL (w 146) S) (w 146)) (fun u v hu hv => RfD.ha rf u v hu hv) ?_
      intro g hg
      have rs2 : RsS w (ubf w5 165 g) := by
        refine ⟨Fr.ubf fr5 (by decide), ?_, fun i hi => ?_⟩
        · show w5 113 2 = -1
          rw [hK.1 113 (by decide)]
          show w4 113 2 = -1
          rw [hF4 113 (by decide)]; exact f2
        · have hi2 := hi
          simp only [List.mem_cons, List.not_mem_nil, or_false] at hi2
          show w5 144 i = _
          rw [hK.2 i (by omega) (by omega) (by omega)]
          show up1 (w4 144) 27 _ i = _
          rw [up1_ap, if_neg (by omega), i4 i hi]; exact f3 i hi
      obtain ⟨h01, hm⟩ := hg (wantM (w 146) S (w 146 3).toNat) l256
      rw [Int.toNat_natCast]
      refine ⟨r1, fun y => k0 _ rs2 (fun q => ?_), fun y => k1 _ rs2 ⟨fun q => nz (by rw [q]; rfl), ?_⟩⟩
      · have y : g (wantM (w 146) S (w 146 3).toNat) = 0 := y
        have := hm.mpr q.2
        rw [y] at this; cases this
      · rcases h01 with h | h
        · exact absurd h y
        · exact hm.mp h
    | succ m ih =>
      intro v hv
      have nb : ¬ w1 146 3 ≤ (v : Int) := by rw [e1]; omega
      have r1 : 0 ≤ ((109 + 4 * v : Nat) : Int) ∧ ((109 + 4 * v : Nat) : Int) < 645 := by omega
      have wh := ws.wwho v (by omega)
      have e13 : w 146 (109 + 4 * v) = ((w 146 (109 + 4 * v)).toNat : Int) := by omega
      have t32 : (w 146 (109 + 4 * v)).toNat < 32 := by omega
      have vm : v + 1 + m = (w 146 3).toNat := by omega
      have lt := wantM_lt (w 146) S v
      have p8 := pw8 (v := v) (by omega)
      have i1 := ih (v + 1) vm
      have s1 : wantM (w 146) S (v + 1) = if S.testBit (w 146 (109 + 4 * v)).toNat = true then wantM (w 146) S v ||| 2 ^ v else wantM (w 146) S v := rfl
      rw [s1] at i1
      apply M_live_144_c27
      rw [ixw (by omega), Int.toNat_natCast, Int.toNat_natCast, e1, e13, hasbit _ t32, tb_nat _ _ (by omega), w_s64 (i := v) (by omega), ishl1 (by omega), ior_nat (by omega) (by omega), show ior ((wantM (w 146) S v : Nat) : Int) 0 = ((wantM (w 146) S v : Nat) : Int) from by rw [show (0 : Int) = ((0 : Nat) : Int) from rfl, ior_nat (by omega) (by omega), Nat.or_zero]]
      rw [e1] at nb
      refine ⟨fun y => absurd y nb, fun _ => ⟨r1, fun y => ?_, fun y => ?_⟩⟩
      · rw [if_neg (fun q => y (bit_eq1.mpr q))] at i1
        exact i1
      · rw [if_pos (bit_eq1.mp (Classical.not_not.mp y))] at i1
        exact i1
  exact lp (w 146 3).toNat 0 (by omega)
theorem L_l7 {d : Nat} {n1 : Int} {Q : MV → Wd → Prop} {w : Wd} (ws : WS (w 146)) (P : Nat) (hP : P ≤ 8) (eP : w 146 0 = P)
    (k : ∀ x y w1, RsS w w1 → (y = -1 ∧ x = 0 ∨ y = x ∧ 1 ≤ x) → BestS (livP (w 146)) y (2 ^ P) → Q (mI x) w1) :
    ∀ (m S : Nat) (x y : Int) (w1 : Wd), S + m = 2 ^ P → 1 ≤ S → RsS w w1 → (y = -1 ∧ x = 0 ∨ y = x ∧ 1 ≤ x) → BestS (livP (w 146)) y S → Wp (Cw (d + 29)) cd_M_live (1, 0, n1) Q 7 [mR 144, mI x, mI S, none, none] [] w1 := by
  have p8 := pw8 hP
  intro m
  induction m with
  | zero =>
    intro S x y w1 hS h1 rs hxy hb
    have hS : S = 2 ^ P := by omega
    subst hS
    have e1 : w1 146 0 = P := by rw [rs.1 146 (by decide)]; exact eP
    apply M_live_144_c7
    rw [e1, ishl1 (by omega)]
    exact ⟨fun _ => k x y w1 rs hxy hb, fun y => absurd (Int.le_refl _) y⟩
  | succ m ih =>
    intro S x y w1 hS h1 rs hxy hb
    have S8 : S < 256 := by omega
    have sm : S + 1 + m = 2 ^ P := by omega
    have P30 : P ≤ 30 := by omega
    have e1 : w1 146 0 = P := by rw [rs.1 146 (by decide)]; exact eP
    have nb : ¬ ((2 ^ P : Nat) : Int) ≤ (S : Int) := by omega
    have S1 : 1 ≤ S + 1 := by omega
    have Si : (1 : Int) ≤ (S : Int) := by omega
    apply M_live_144_c7
    rw [e1, ishl1 P30]
    refine ⟨fun y => absurd y nb, fun _ => ⟨fun z => ?_, fun z => ?_⟩⟩
    · have ym : y = -1 := by omega
      refine S_lCheck (d := d) ws S S8 x rs (fun w2 r2 hm => ?_) (fun w2 r2 hm => ?_)
      · exact ih (S + 1) _ (S : Int) w2 sm S1 r2 (Or.inr ⟨rfl, Si⟩) (hb.hit hm (Or.inl ym))
      · exact ih (S + 1) _ y w2 sm S1 r2 hxy (hb.miss hm)
    · obtain ⟨R, hR⟩ := Int.eq_ofNat_of_zero_le (show 0 ≤ x by omega)
      subst hR
      have yR : y = (R : Int) := by omega
      subst yR
      have R8 : R ≤ 1024 := by
        rcases hb with q | ⟨R', q, q2⟩
        · exfalso; omega
        · have := q2.1; omega
      refine S_count1 (d := d + 28) S rfl (by omega) ?_
      refine ⟨_, rfl, ?_⟩
      refine S_count1 (d := d + 28) R rfl R8 ?_
      refine ⟨_, rfl, fun z => ?_, fun z => ?_⟩
      · have z : pop S < pop R := Int.ofNat_lt.mp z
        refine S_lCheck (d := d) ws S S8 (R : Int) rs (fun w2 r2 hm => ?_) (fun w2 r2 hm => ?_)
        · exact ih (S + 1) _ (S : Int) w2 sm S1 r2 (Or.inr ⟨rfl, Si⟩) (hb.hit hm (Or.inr ⟨R, rfl, z⟩))
        · exact ih (S + 1) _ (R : Int) w2 sm S1 r2 hxy (hb.miss hm)
      · have z : ¬ pop S < pop R := fun q => z (Int.ofNat_lt.mpr q)
        rw [w_s64 (by omega)]
        exact ih (S + 1) _ (R : Int) w1 sm S1 rs hxy (hb.keep z)
theorem P_live {d : Nat} {w : Wd} (h : Inv w) : Pair (d + 30) 151 266 [] w := by
  unfold Pair
  have pe := h.ws.pe
  obtain ⟨P, eP⟩ := Int.eq_ofNat_of_zero_le pe.1
  have hP : P ≤ 8 := by omega
  have p0 := Nat.two_pow_pos P
  have ref : ∀ (w4 : Wd) (val : Int), StL w w4 → (∀ x y : Int, (y = -1 ∧ x = 0 ∨ y = x ∧ 1 ≤ x) → BestS (livP (w 146)) y (2 ^ P) → x = val) → Cw (d + 30) 266 [mR 144] w4 (Post w val) := by
    intro w4 val ms hv
    apply M_live_144_en
    intro n2
    refine L_l7 (d := d) (n1 := n2) (w := w) h.ws P hP eP ?_ (2 ^ P - 1) 1 0 (-1) (ub w4 144 0 0) (by omega) (by omega) ⟨Fr.ub (Fr.tr (Fr.rfl' _ _) ms.fr (by decide)) (by decide), ms.at1, fun i hi => ?_⟩ (Or.inl ⟨rfl, rfl⟩) (Or.inl ⟨rfl, fun S hS q => ?_⟩)
    · intro x y w5 rs hxy hb
      refine Post.k (hv x y hxy hb) (Inv.g_trial h rs.1 (fun i hi => ?_) rs.2.2) (rs.1 401 (by decide)) (rs.1 400 (by decide))
      simp only [List.mem_cons, List.not_mem_nil, or_false] at hi
      rw [hi, rs.2.1, h.wat.2]
    · have hi2 := hi
      simp only [List.mem_cons, List.not_mem_nil, or_false] at hi2
      show up1 (w4 144) 0 0 i = _
      rw [up1_ap, if_neg (by omega), ms.fr 144 (by decide)]
    · have : S = 0 := by omega
      subst this
      exact livP_zero _ q
  apply X_live_0_en
  intro n1
  refine S_try (d := d + 26) h ?_
  intro w3 tc
  refine L_live5 (d := d) (n1 := n1) (w := w) h.ws P hP (by rw [h.rv.people]; exact eP) (livP_zero _) ?_ ?_ P 1 w3 (by omega) ⟨Fr.tr (Fr.rfl' _ _) tc.fr (by decide), ?_, tc.rv, ?_⟩ (fun S hS hl => ?_)
  · intro R w4 ms hl
    (apply Mid.k)
    refine ref w4 _ ms (fun x y hxy hb => ?_)
    rcases hb with ⟨_, q⟩ | ⟨R', q1, q2⟩
    · exact absurd hl.2.1 (q R hl.1)
    · have := LeastS.uniq q2 hl
      omega
  · intro w4 ms hn
    (apply Mid.k)
    refine ref w4 _ ms (fun x y hxy hb => ?_)
    rcases hb with ⟨q1, q⟩ | ⟨R', q1, q2⟩
    · omega
    · exact absurd q2.2.1 (hn R' q2.1)
  · rw [tc.fr 113 (by decide)]
    exact h.wat.2
  · have e14 : up1 (w3 114) 6 (-1) = w3 114 := by
      funext i
      rw [up1_ap]
      by_cases y : i = 6
      · rw [if_pos y, y, tc.t6]
      · rw [if_neg y]
    rw [e14]
    exact tc.ct
  · by_cases z : pop S = 0
    · have := pop_zero hP hS z
      subst this
      exact absurd hl (livP_zero _)
    · omega

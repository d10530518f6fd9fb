theorem ix269 {a b : Nat} (ha : a < 8) (hb : b < 8) : w32 (w32 (269 + w32 (8 * (a : Int))) + (b : Int)) = ((269 + (8 * a + b) : Nat) : Int) := by
  have e : w32 (8 * (a : Int)) = 8 * (a : Int) := w32_id (by unfold in32; omega)
  have e2 : w32 (269 + 8 * (a : Int)) = 269 + 8 * (a : Int) := w32_id (by unfold in32; omega)
  rw [e, e2, w32_id (by unfold in32; omega)]; omega
def TmP (T : Tm) (a b : Nat) (g : Bool) : Tm := ⟨T.n, T.back, T.P, fun p q => if p = a ∧ q = b then g else T.gv p q, fun p q => if p = a ∧ q = b then 0 else T.pn p q, fun p q => if p = a ∧ q = b then 1 else T.hr p q, T.ak, T.ha, T.tw⟩
theorem TmB_P {T : Tm} (hb0 : TmB T) {a b : Nat} (ab : a ≠ b) (g : Bool) : TmB (TmP T a b g) := (TmB.mk (hb0.P8) (hb0.n2) (hb0.n6) (fun p q => by
    show (if p = a ∧ q = b then 1 else T.hr p q) ≤ 9
    split
    · omega
    · exact hb0.hr9 p q) (fun p q => by
    show (if p = a ∧ q = b then 0 else T.pn p q) ≤ 99
    split
    · omega
    · exact hb0.pn9 p q) (hb0.ak9) (fun p => by
    show (if p = a ∧ p = b then g else T.gv p p) = false
    rw [if_neg (by omega), hb0.gvi p]))
theorem RfT_P {o v gv pn hr ak : Nat → Int} {T : Tm} {a b : Nat} (ha : a < 8) (hb : b < 8) (g : Bool) (h : RfT o v gv pn hr ak T) : RfT o v (up1 gv (8 * a + b) (if g = true then 1 else 0)) (up1 pn (8 * a + b) 0) (up1 hr (8 * a + b) 1) ak (TmP T a b g) := by
  refine (RfT.mk (h.P) (h.P8) (h.n2) (h.n6) (h.back) (h.back3) (h.hands) (fun p q p8 q8 => ?_) (fun p q p8 q8 => ?_) (fun p q p8 q8 => ?_) (h.ak) (h.tw) (fun p q => ?_) (fun p q => ?_) (h.ak9) (h.tw9))
  · show _ ↔ (if p = a ∧ q = b then g else T.gv p q) = true
    by_cases x : p = a ∧ q = b
    · have e : 8 * p + q = 8 * a + b := by omega
      rw [up1_ap, if_pos x, if_pos e]
      cases g <;> simp
    · have e : ¬ 8 * p + q = 8 * a + b := by omega
      rw [up1_ap, if_neg x, if_neg e]
      exact h.gv p q p8 q8
  · show _ = ((if p = a ∧ q = b then 0 else T.pn p q : Nat) : Int)
    by_cases x : p = a ∧ q = b
    · have e : 8 * p + q = 8 * a + b := by omega
      rw [up1_ap, if_pos x, if_pos e]; rfl
    · have e : ¬ 8 * p + q = 8 * a + b := by omega
      rw [up1_ap, if_neg x, if_neg e]
      exact h.pn p q p8 q8
  · show _ = ((if p = a ∧ q = b then 1 else T.hr p q : Nat) : Int)
    by_cases x : p = a ∧ q = b
    · have e : 8 * p + q = 8 * a + b := by omega
      rw [up1_ap, if_pos x, if_pos e]; rfl
    · have e : ¬ 8 * p + q = 8 * a + b := by omega
      rw [up1_ap, if_neg x, if_neg e]
      exact h.hr p q p8 q8
  · show (if p = a ∧ q = b then 0 else T.pn p q) ≤ 99
    split
    · omega
    · exact h.pn9 p q
  · show (if p = a ∧ q = b then 1 else T.hr p q) ≤ 9
    split
    · omega
    · exact h.hr9 p q
theorem RfT_o {o o' v gv pn hr ak : Nat → Int} {T : Tm} (h : RfT o v gv pn hr ak T) (e26 : o' 26 = o 26) (e27 : o' 27 = o 27) : RfT o' v gv pn hr ak T := by
  refine (RfT.mk (h.P) (h.P8) (h.n2) (h.n6) ?_ (h.back3) (fun q hq => ?_) (h.gv) (h.pn) (h.hr) (h.ak) (h.tw) (h.pn9) (h.hr9) (h.ak9) (h.tw9))
  · rw [e26]; exact h.back
  · rw [e27]; exact h.hands q hq
theorem TmE_P1 {T : Tm} {s : Nat → Int} (e : TmE T (TmS s)) (a b : Nat) : TmE (TmP T a b true) (TmM s a b) := by
  refine ⟨e.n, e.back, e.P, fun p q => ?_, e.ha, e.tw, fun p q hg => ?_⟩
  · show (if p = a ∧ q = b then true else T.gv p q) = ((TmS s).gv p q || decide (p = a ∧ q = b))
    by_cases x : p = a ∧ q = b
    · rw [if_pos x, decide_eq_true x, Bool.or_true]
    · rw [if_neg x, decide_eq_false x, Bool.or_false, e.gv]
  · have hg : (if p = a ∧ q = b then true else T.gv p q) = true := hg
    show (if p = a ∧ q = b then 1 else T.hr p q) = (if p = a ∧ q = b then 1 else (TmS s).hr p q)
    by_cases x : p = a ∧ q = b
    · rw [if_pos x, if_pos x]
    · rw [if_neg x] at hg ⊢
      rw [if_neg x]; exact e.hr p q hg
theorem TmE_P0 {T : Tm} {s : Nat → Int} (e : TmE T (TmS s)) {a b : Nat} (ng : ¬ (TmS s).gv a b = true) : TmE (TmP T a b false) (TmS s) := by
  refine ⟨e.n, e.back, e.P, fun p q => ?_, e.ha, e.tw, fun p q hg => ?_⟩
  · show (if p = a ∧ q = b then false else T.gv p q) = (TmS s).gv p q
    by_cases x : p = a ∧ q = b
    · rw [if_pos x, x.1, x.2]
      cases y : (TmS s).gv a b
      · rfl
      · exact absurd y ng
    · rw [if_neg x, e.gv]
  · have hg : (if p = a ∧ q = b then false else T.gv p q) = true := hg
    show (if p = a ∧ q = b then 1 else T.hr p q) = (TmS s).hr p q
    by_cases x : p = a ∧ q = b
    · rw [if_pos x] at hg; cases hg
    · rw [if_neg x] at hg ⊢; exact e.hr p q hg
theorem TmE_rfl (T : Tm) : TmE T T := ⟨rfl, rfl, rfl, fun _ _ => rfl, fun _ => rfl, fun _ => rfl, fun _ _ _ => rfl⟩
theorem S_refW2 {d : Nat} {Q : MV → Wd → Prop} {w w4 : Wd} {T : Tm} (ws : WS (w 146)) (hb : TmB T) (e4 : w4 146 = w 146) (law : w4 144 25 = T.n) (rt : RfT (w4 144) (w 146) (w4 151) (w4 152) (w4 153) (w4 154) T)
    (k : ∀ w5, WkW w4 w5 → RfD (w 146) (w5 161) (w5 163) (w 146 2).toNat (w 146 3).toNat (woS (w 146)) (adjS T (w 146)) (coS T (w 146)) (paS T (w 146)) → Q none w5) : Cw (d + 5) 209 [mR 144] w4 Q := by
  have un := ws.un
  have wa := ws.wa
  refine S_weigh (d := d) (w := w4) (T := T) (by rw [e4]; exact rt) law (by rw [e4]; exact ws) (w 146 2).toNat (w 146 3).toNat (by rw [e4]; omega) (by rw [e4]; omega) ?_
  intro w5 hK hway
  rw [e4] at hway
  exact k w5 hK (RfD_of hb ws (fun u v hu hv => hway u v (by omega) (by omega)))
/-- the reference between two pairs of mend -/
def RmS (w w1 : Wd) : Prop := Fr ([113] ++ scrR) w w1 ∧ w1 113 2 = -1 ∧ (∀ i, i ∈ [2, 15, 41, 42, 62, 64, 66, 71, 72] → w1 144 i = w 144 i) ∧ ∃ T : Tm, TmE T (TmS (w 146)) ∧ TmB T ∧ w1 144 25 = T.n ∧ RfT (w1 144) (w 146) (w1 151) (w1 152) (w1 153) (w1 154) T
theorem L_m22 {d : Nat} {n1 : Int} {Q : MV → Wd → Prop} {w : Wd} (ws : WS (w 146)) (a : Nat) (ha : (a : Int) < w 146 0) (st : Nat × Int)
    (k : ∀ w1, RmS w w1 → Wp (Cw (d + 29)) cd_M_mend (1, 0, n1) Q 14 [mR 144, mI (mrow (w 146) a (w 146 0).toNat st).1, mI (mrow (w 146) a (w 146 0).toNat st).2, mI ((a + 1 : Nat) : Int), none, none] [] w1) :
    ∀ (m b : Nat) (w1 : Wd), b + m = (w 146 0).toNat → RmS w w1 → Wp (Cw (d + 29)) cd_M_mend (1, 0, n1) Q 22 [mR 144, mI (mrow (w 146) a b st).1, mI (mrow (w 146) a b st).2, mI a, mI b, none] [] w1 := by
  have pe := ws.pe
  have un := ws.un
  have wa := ws.wa
  have a8 : a < 8 := by omega
  have u16 : (w 146 2).toNat ≤ 16 := by omega
  have W8 : (w 146 3).toNat ≤ 8 := by omega
  have wu : w 146 2 = ((w 146 2).toNat : Int) := by omega
  have ww : w 146 3 = ((w 146 3).toNat : Int) := by omega
  intro m
  induction m with
  | zero =>
    intro b w1 hb ms
    have hb : b = (w 146 0).toNat := by omega
    subst hb
    have e1 : w1 146 = w 146 := ms.1 146 (by decide)
    have z0 : w1 146 0 ≤ (((w 146 0).toNat : Nat) : Int) := by rw [e1]; omega
    have e2 : w32 ((a : Int) + 1) = ((a + 1 : Nat) : Int) := w_succ (by omega)
    apply M_mend_144_c22
    refine ⟨fun _ => ?_, fun z => absurd z0 z⟩
    rw [e2]; exact k w1 ms
  | succ m ih =>
    intro b w1 hb ms
    have e1 : w1 146 = w 146 := ms.1 146 (by decide)
    have b8 : b < 8 := by omega
    have bP : (b : Int) < w 146 0 := by omega
    have nb : ¬ w1 146 0 ≤ (b : Int) := by rw [e1]; omega
    have bm : b + 1 + m = (w 146 0).toNat := by omega
    have r1 : 0 ≤ ((8 * a + b : Nat) : Int) ∧ ((8 * a + b : Nat) : Int) < 64 := by omega
    have r2 : 0 ≤ ((269 + (8 * a + b) : Nat) : Int) ∧ ((269 + (8 * a + b) : Nat) : Int) < 645 := by omega
    have s1 : mrow (w 146) a (b + 1) st = mstep (w 146) a b (mrow (w 146) a b st) := rfl
    have ih1 := ih (b + 1)
    rw [s1] at ih1
    clear ih s1
    generalize mrow (w 146) a b st = t at ih1 ⊢
    have e2 : w32 ((b : Int) + 1) = ((b + 1 : Nat) : Int) := w_succ (by omega)
    have e3 := w_ten (a := a) (b := b) (by clear e2; omega) (by clear e2; omega)
    have ix := ix8b (u := a) (v := b) (by clear e2 e3; omega) b8
    have ix2 := ix269 a8 b8
    apply M_mend_144_c22
    rw [e2, e3, ix, ix2, Int.toNat_natCast, Int.toNat_natCast, e1]
    clear e2 e3 ix ix2
    refine ⟨fun z => absurd (by rw [e1]; exact z) nb, fun _ => ⟨fun z => ?_, fun ab => ⟨r2, fun nt => ⟨r1, r1, r1, ?_⟩, fun z => ?_⟩⟩⟩
    · have e : mstep (w 146) a b t = t := by unfold mstep; rw [if_pos (Or.inl (Int.ofNat_inj.mp z))]
      have := ih1 w1 bm ms
      rw [e] at this
      exact this
    · have ab' : a ≠ b := fun y => ab (by rw [y])
      have ng : ¬ (TmS (w 146)).gv a b = true := fun y => nt ((TmS_gv a8 b8).mp y)
      obtain ⟨f1, f2, f3, T, te, tb', tl, rt⟩ := ms
      have fr4 : Fr ([113] ++ scrR) w (ub (ub (ub w1 151 (8 * a + b) 1) 152 (8 * a + b) 0) 153 (8 * a + b) 1) := Fr.ub (Fr.ub (Fr.ub f1 (by decide)) (by decide)) (by decide)
      refine S_refW2 (d := d + 24) (w := w) (w4 := ub (ub (ub w1 151 (8 * a + b) 1) 152 (8 * a + b) 0) 153 (8 * a + b) 1) (T := TmP T a b true) ws (TmB_P tb' ab' true) e1 tl (RfT_P a8 b8 true rt) ?_
      intro w5 hK rf
      have fr5 : Fr ([113] ++ scrR) w w5 := Fr.tr fr4 hK.1 (by decide)
      have e5 : w5 146 = w 146 := fr5 146 (by decide)
      refine S_mostMet (d := d + 26) (w := w5) (w 146 2).toNat (w 146 3).toNat u16 W8 (by rw [e5]; exact wu) (by rw [e5]; exact ww) (adjS (TmP T a b true) (w 146)) (fun u v hu hv => RfD.ha rf u v hu hv) ?_
      intro v' g' hm'
      rw [adjS_E (TmE_P1 te a b)] at hm'
      have ev : moM (w 146) a b = v' := mostV_eq hm'
      have ms2 : RmS w (ub (ubf w5 165 g') 151 (8 * a + b) 0) := by
        refine ⟨Fr.ub (Fr.ubf fr5 (by decide)) (by decide), ?_, fun i hi => ?_, TmP T a b false, TmE_P0 te ng, TmB_P tb' ab' false, ?_, ?_⟩
        · show w5 113 2 = -1
          rw [hK.1 113 (by decide)]; exact f2
        · have hi2 := hi
          simp only [List.mem_cons, List.not_mem_nil, or_false] at hi2
          show w5 144 i = _
          rw [hK.2 i (by omega) (by omega) (by omega)]
          exact f3 i hi
        · show w5 144 25 = _
          rw [hK.2 25 (by decide) (by decide) (by decide)]
          exact tl
        · have rt3 := RfT_P a8 b8 false rt
          have c1 : w5 151 = up1 (w1 151) (8 * a + b) 1 := hK.1 151 (by decide)
          have c2 : w5 152 = up1 (w1 152) (8 * a + b) 0 := hK.1 152 (by decide)
          have c3 : w5 153 = up1 (w1 153) (8 * a + b) 1 := hK.1 153 (by decide)
          have c4 : w5 154 = w1 154 := hK.1 154 (by decide)
          have c5 : up1 (up1 (w1 151) (8 * a + b) 1) (8 * a + b) 0 = up1 (w1 151) (8 * a + b) 0 := by
            funext i
            rw [up1_ap, up1_ap, up1_ap]
            by_cases y : i = 8 * a + b
            · rw [if_pos y, if_pos y]
            · rw [if_neg y, if_neg y, if_neg y]
          show RfT (w5 144) (w 146) (up1 (w5 151) (8 * a + b) 0) (w5 152) (w5 153) (w5 154) (TmP T a b false)
          rw [c1, c2, c3, c4, c5]
          exact RfT_o rt3 (hK.2 26 (by decide) (by decide) (by decide)) (hK.2 27 (by decide) (by decide) (by decide))
      have e : mstep (w 146) a b t = if t.1 < moM (w 146) a b then (moM (w 146) a b, ((10 * a + b : Nat) : Int)) else t := by
        unfold mstep
        rw [if_neg (fun y => by rcases y with y | y; exact ab' y; exact nt y)]
      have i2 := ih1 _ bm ms2
      rw [e, ev] at i2
      refine ⟨_, rfl, r1, fun z => ?_, fun z => ?_⟩
      · rw [if_pos (Int.ofNat_lt.mp z)] at i2
        exact i2
      · rw [if_neg (fun y => z (Int.ofNat_lt.mpr y))] at i2
        exact i2
    · have e : mstep (w 146) a b t = t := by unfold mstep; rw [if_pos (Or.inr (Classical.not_not.mp z))]
      have := ih1 w1 bm ms
      rw [e] at this
      exact this
theorem L_m14 {d : Nat} {n1 : Int} {Q : MV → Wd → Prop} {w : Wd} (ws : WS (w 146)) (G : Nat)
    (k : ∀ w1, RmS w w1 → Q (mI (mall (w 146) G (w 146 0).toNat).2) w1) :
    ∀ (m a : Nat) (w1 : Wd), a + m = (w 146 0).toNat → RmS w w1 → Wp (Cw (d + 29)) cd_M_mend (1, 0, n1) Q 14 [mR 144, mI (mall (w 146) G a).1, mI (mall (w 146) G a).2, mI a, none, none] [] w1 := by
  have pe := ws.pe
  intro m
  induction m with
  | zero =>
    intro a w1 ha ms
    have ha : a = (w 146 0).toNat := by omega
    subst ha
    have e1 : w1 146 = w 146 := ms.1 146 (by decide)
    apply M_mend_144_c14
    refine ⟨fun _ => k w1 ms, fun z => absurd ?_ z⟩
    rw [e1]; omega
  | succ m ih =>
    intro a w1 ha ms
    have e1 : w1 146 = w 146 := ms.1 146 (by decide)
    have na : ¬ w1 146 0 ≤ (a : Int) := by rw [e1]; omega
    apply M_mend_144_c14
    refine ⟨fun z => absurd z na, fun _ => ?_⟩
    exact L_m22 ws a (by omega) (mall (w 146) G a) (fun w2 ms2 => ih (a + 1) w2 (by omega) ms2) (w 146 0).toNat 0 w1 (by omega) ms

/-! rest: round by round -/
noncomputable def asT (s : Nat → Int) (p : Nat) (T : Tm) : Tm := if s (15 + p) = 0 then T else TmK T p (midB (nA s T p) 20)
noncomputable def asC (s : Nat → Int) (p : Nat) (T : Tm) (c : Int) : Int := if s (15 + p) = 0 then c else if c = 0 ∧ midB (nA s T p) 20 = T.ak p then 0 else 1
noncomputable def anT (s : Nat → Int) : Nat → Nat → Tm → Tm
  | 0, _, T => T
  | m + 1, p, T => anT s m (p + 1) (asT s p T)
noncomputable def anC (s : Nat → Int) : Nat → Nat → Tm → Int → Int
  | 0, _, _, c => c
  | m + 1, p, T, c => anC s m (p + 1) (asT s p T) (asC s p T c)
noncomputable def reF (s : Nat → Int) : Nat → Nat → Tm → Int
  | 0, _, _ => -1
  | m + 1, r, T => if anC s (s 0).toNat 0 T 0 = 0 then (r : Int) else reF s m (r + 1) (anT s (s 0).toNat 0 T)
noncomputable def reT (s : Nat → Int) : Nat → Nat → Tm → Tm
  | 0, _, T => T
  | m + 1, r, T => if anC s (s 0).toNat 0 T 0 = 0 then anT s (s 0).toNat 0 T else reT s m (r + 1) (anT s (s 0).toNat 0 T)
theorem TmB_asT {s : Nat → Int} {T : Tm} (hb : TmB T) (p : Nat) : TmB (asT s p T) := by
  unfold asT
  by_cases z : s (15 + p) = 0
  · rw [if_pos z]; exact hb
  · rw [if_neg z]
    have := midB_bd (nA s T p) 20
    exact TmB_K hb p (by omega)
theorem CtT_up {vo mt tm ak pn hr : Nat → Int} {T : Tm} (a x : Nat) (hx : x ≤ 99) (h : CtT vo mt tm ak pn hr (-1) T) : CtT vo mt tm (up1 ak a (x : Int)) pn hr (-1) (TmK T a x) := by
  refine (CtT.mk (h.P) (h.P8) (h.n) (h.n2) (h.n6) (h.back) (h.back3) (h.hands) (h.gv) (h.pn) (fun q hq => ?_) (h.mates) (h.pn9) (h.hr9) (fun q => ?_) (h.wt0))
  · have hq : q < T.P := hq
    have e := h.ak q hq
    rw [if_neg (by omega)] at e
    show (if (q : Int) = (-1 : Int) then (0 : Int) else up1 ak a (x : Int) q) = ((upN T.ak a x q : Nat) : Int)
    rw [if_neg (by omega), upN_ap, up1_ap]
    by_cases z : q = a
    · rw [if_pos z, if_pos z]
    · rw [if_neg z, if_neg z]; exact e
  · show upN T.ak a x q ≤ 99
    rw [upN_ap]
    by_cases z : q = a
    · rw [if_pos z]; exact hx
    · rw [if_neg z]; exact h.ak9 q
/-- the class between two askings -/
def ReX (w w1 : Wd) (T : Tm) : Prop := (Fr ([113] ++ scrR) w w1) ∧ (w1 113 2 = -1) ∧ (w1 144 = w 144) ∧ (CtT (w1 4) (w1 7) (w1 114) (w1 115) (w1 116) (w1 117) (-1) T) ∧ (TmB T)
theorem ReX.mk {w w1 : Wd} {T : Tm} (fr_ : Fr ([113] ++ scrR) w w1) (at1_ : w1 113 2 = -1) (i144_ : w1 144 = w 144) (ct_ : CtT (w1 4) (w1 7) (w1 114) (w1 115) (w1 116) (w1 117) (-1) T) (hb_ : TmB T) : ReX w w1 T := And.intro fr_ (And.intro at1_ (And.intro i144_ (And.intro ct_ (hb_))))
theorem ReX.fr {w w1 : Wd} {T : Tm} (h_ : ReX w w1 T) : Fr ([113] ++ scrR) w w1 := h_.1
theorem ReX.at1 {w w1 : Wd} {T : Tm} (h_ : ReX w w1 T) : w1 113 2 = -1 := h_.2.1
theorem ReX.i144 {w w1 : Wd} {T : Tm} (h_ : ReX w w1 T) : w1 144 = w 144 := h_.2.2.1
theorem ReX.ct {w w1 : Wd} {T : Tm} (h_ : ReX w w1 T) : CtT (w1 4) (w1 7) (w1 114) (w1 115) (w1 116) (w1 117) (-1) T := h_.2.2.2.1
theorem ReX.hb {w w1 : Wd} {T : Tm} (h_ : ReX w w1 T) : TmB T := h_.2.2.2.2
theorem L_askAnew {d : Nat} {n1 : Int} {Q : MV → Wd → Prop} {w : Wd} (h : Inv w) (Tf : Tm) (cf : Int) (k : ∀ w1, ReX w w1 Tf → Q (mI cf) w1) :
    ∀ (m p : Nat) (T : Tm) (c : Int) (w1 : Wd), p + m = (w 146 0).toNat → ReX w w1 T → (c = 0 ∨ c = 1) → anT (w 146) m p T = Tf → anC (w 146) m p T c = cf → Wp (Cw (d + 15)) cd_X_askAnew (2, 0, n1) Q 9 [mR 0, mR 112, mI c, mR 115, mI p, none] [] w1 := by
  have pe := h.ws.pe
  intro m
  induction m with
  | zero =>
    intro p T c w1 hp hX hc e1 e2
    have e1 : T = Tf := e1
    have e2 : c = cf := e2
    subst e1
    subst e2
    have e0 : w1 4 0 = w 146 0 := by rw [hX.fr 4 (by decide)]; exact h.rv.people
    apply X_askAnew_0_112_c9
    rw [e0]
    exact ⟨fun _ => ⟨hc, k w1 hX⟩, fun z => absurd (show w 146 0 ≤ (p : Int) by omega) z⟩
  | succ m ih =>
    intro p T c w1 hp hX hc e1 e2
    have e1 : anT (w 146) m (p + 1) (asT (w 146) p T) = Tf := e1
    have e2 : anC (w 146) m (p + 1) (asT (w 146) p T) (asC (w 146) p T c) = cf := e2
    have e0 : w1 4 0 = w 146 0 := by rw [hX.fr 4 (by decide)]; exact h.rv.people
    have e8 : w1 8 p = w 146 (15 + p) := by rw [hX.fr 8 (by decide)]; exact h.rv.asks p (by omega)
    have ak := h.ws.ask p (by omega)
    have r8 : 0 ≤ (p : Int) ∧ (p : Int) < 8 := by omega
    apply X_askAnew_0_112_c9
    rw [e0, Int.toNat_natCast, e8, ixs (k := p) (by omega)]
    refine ⟨fun z => by exfalso; omega, fun _ => ⟨r8, fun z => ?_, fun z => ?_⟩⟩
    · have z0 : w 146 (15 + p) = 0 := by omega
      have t1 : asT (w 146) p T = T := by unfold asT; rw [if_pos z0]
      have t2 : asC (w 146) p T c = c := by unfold asC; rw [if_pos z0]
      rw [t1] at e1 e2
      rw [t2] at e2
      exact ih (p + 1) T c w1 (by omega) hX hc e1 e2
    · have z0 : ¬ w 146 (15 + p) = 0 := by omega
      have bb := midB_bd (nA (w 146) T p) 20
      refine S_middleAsk (d := d) (RV_fr hX.fr (by decide) h.rv) h.ws hX.hb p hX.ct ?_
      intro w2 hF2 h113 _
      have e115 : w2 115 p = T.ak p := by
        rw [hF2 115 (by decide)]
        have e := hX.ct.ak p (by
          have := hX.ct.P
          omega)
        rw [if_neg (by omega)] at e
        exact e
      have hX2 : ReX w (ub w2 115 p (midB (nA (w 146) T p) 20 : Nat)) (asT (w 146) p T) := by
        refine (ReX.mk (Fr.ub (Fr.tr hX.fr hF2 (by decide)) (by decide)) (h113) ?_ ?_ (TmB_asT hX.hb p))
        · show w2 144 = _
          rw [hF2 144 (by decide)]; exact hX.i144
        · have t1 : asT (w 146) p T = TmK T p (midB (nA (w 146) T p) 20) := by unfold asT; rw [if_neg z0]
          rw [t1]
          have c1 : CtT (w2 4) (w2 7) (w2 114) (w2 115) (w2 116) (w2 117) (-1) T := by
            rw [hF2 4 (by decide), hF2 7 (by decide), hF2 114 (by decide), hF2 115 (by decide), hF2 116 (by decide), hF2 117 (by decide)]
            exact hX.ct
          exact CtT_up p _ (by omega) c1
      refine ⟨_, rfl, fun zc => ⟨r8, ?_⟩, fun zc => ⟨r8, fun ze => ⟨r8, ?_⟩, fun ze => ⟨r8, ?_⟩⟩⟩
      · have t2 : asC (w 146) p T c = 1 := by unfold asC; rw [if_neg z0, if_neg (fun y => zc y.1)]
        rw [t2] at e2
        exact ih (p + 1) _ 1 _ (by omega) hX2 (Or.inr rfl) e1 e2
      · rw [e115] at ze
        have t2 : asC (w 146) p T c = 0 := by unfold asC; rw [if_neg z0, if_pos ⟨Classical.not_not.mp zc, by omega⟩]
        rw [t2] at e2
        exact ih (p + 1) _ 0 _ (by omega) hX2 (Or.inl rfl) e1 e2
      · rw [e115] at ze
        have t2 : asC (w 146) p T c = 1 := by unfold asC; rw [if_neg z0, if_neg (fun y => ze (by omega))]
        rw [t2] at e2
        exact ih (p + 1) _ 1 _ (by omega) hX2 (Or.inr rfl) e1 e2
theorem L_rest7 {d : Nat} {n1 : Int} {Q : MV → Wd → Prop} {w : Wd} (h : Inv w) (Tf : Tm) (ff : Int) (k : ∀ w1, ReX w w1 Tf → Cw (d + 16) 124 [mR 140, mR 115, mI (w 146 0)] w1 (fun _ v2 => Q (mI ff) v2)) :
    ∀ (m r : Nat) (T : Tm) (w1 : Wd), r + m = 7 → 1 ≤ r → ReX w w1 T → reT (w 146) m r T = Tf → reF (w 146) m r T = ff → Wp (Cw (d + 16)) cd_X_rest (1, 0, n1) Q 7 [mR 0, mR 112, mI (-1), mI r] [] w1 := by
  have e0 : ∀ w1 T, ReX w w1 T → w1 4 0 = w 146 0 := fun w1 T hX => by rw [hX.fr 4 (by decide)]; exact h.rv.people
  intro m
  induction m with
  | zero =>
    intro r T w1 hr h1 hX eT eF
    have eT : T = Tf := eT
    have eF : (-1 : Int) = ff := eF
    subst eT
    subst eF
    apply X_rest_0_c7
    rw [e0 _ _ hX]
    exact ⟨fun _ => k w1 hX, fun z => by exfalso; omega⟩
  | succ m ih =>
    intro r T w1 hr h1 hX eT eF
    have eT : (if anC (w 146) (w 146 0).toNat 0 T 0 = 0 then anT (w 146) (w 146 0).toNat 0 T else reT (w 146) m (r + 1) (anT (w 146) (w 146 0).toNat 0 T)) = Tf := eT
    have eF : (if anC (w 146) (w 146 0).toNat 0 T 0 = 0 then (r : Int) else reF (w 146) m (r + 1) (anT (w 146) (w 146 0).toNat 0 T)) = ff := eF
    apply X_rest_0_c7
    rw [ixs (k := r) (by omega)]
    refine ⟨fun z => by exfalso; omega, fun _ => ⟨fun z => absurd rfl z, fun _ => ?_⟩⟩
    apply X_askAnew_0_112_en
    intro n2
    refine L_askAnew (d := d) h (anT (w 146) (w 146 0).toNat 0 T) (anC (w 146) (w 146 0).toNat 0 T 0) ?_ (w 146 0).toNat 0 T 0 w1 (by omega) hX (Or.inl rfl) rfl rfl
    intro w2 hX2
    refine ⟨_, rfl, fun z => ?_, fun z => ?_⟩
    · rw [if_neg z] at eT eF
      exact ih (r + 1) _ w2 (by omega) (by omega) hX2 eT eF
    · rw [if_pos (Classical.not_not.mp z)] at eT eF
      subst eT
      subst eF
      apply X_rest_0_c7
      rw [e0 _ _ hX2]
      exact ⟨fun _ => k w2 hX2, fun _ => ⟨fun _ => k w2 hX2, fun z => absurd (show ¬ (r : Int) = -1 by omega) z⟩⟩
/-- the reference between two askings -/
def ReM (w w1 : Wd) (T : Tm) : Prop := (Fr [144, 151, 152, 153, 154, 155, 156, 157, 158, 159, 160, 161, 162, 163, 164, 166, 167, 168] w w1) ∧ (∀ i, i ∈ [2, 15, 41, 42, 62, 64, 66, 71, 72] → w1 144 i = w 144 i) ∧ (w1 144 25 = T.n) ∧ (RfT (w1 144) (w1 146) (w1 151) (w1 152) (w1 153) (w1 154) T) ∧ (TmB T)
theorem ReM.mk {w w1 : Wd} {T : Tm} (fr_ : Fr [144, 151, 152, 153, 154, 155, 156, 157, 158, 159, 160, 161, 162, 163, 164, 166, 167, 168] w w1) (oth_ : ∀ i, i ∈ [2, 15, 41, 42, 62, 64, 66, 71, 72] → w1 144 i = w 144 i) (law_ : w1 144 25 = T.n) (rt_ : RfT (w1 144) (w1 146) (w1 151) (w1 152) (w1 153) (w1 154) T) (hb_ : TmB T) : ReM w w1 T := And.intro fr_ (And.intro oth_ (And.intro law_ (And.intro rt_ (hb_))))
theorem ReM.fr {w w1 : Wd} {T : Tm} (h_ : ReM w w1 T) : Fr [144, 151, 152, 153, 154, 155, 156, 157, 158, 159, 160, 161, 162, 163, 164, 166, 167, 168] w w1 := h_.1
theorem ReM.oth {w w1 : Wd} {T : Tm} (h_ : ReM w w1 T) : ∀ i, i ∈ [2, 15, 41, 42, 62, 64, 66, 71, 72] → w1 144 i = w 144 i := h_.2.1
theorem ReM.law {w w1 : Wd} {T : Tm} (h_ : ReM w w1 T) : w1 144 25 = T.n := h_.2.2.1
theorem ReM.rt {w w1 : Wd} {T : Tm} (h_ : ReM w w1 T) : RfT (w1 144) (w1 146) (w1 151) (w1 152) (w1 153) (w1 154) T := h_.2.2.2.1
theorem ReM.hb {w w1 : Wd} {T : Tm} (h_ : ReM w w1 T) : TmB T := h_.2.2.2.2
theorem L_rest18 {d : Nat} {n1 : Int} {Q : MV → Wd → Prop} {w : Wd} (ws : WS (w 146)) (Tf : Tm) (cf fo rnd : Int) (k : ∀ w1, ReM w w1 Tf → (¬ cf = 0 → Wp (Cw (d + 6)) cd_M_rest (1, 0, n1) Q 9 [mR 144, mI fo, mI (w32 (rnd + 1)), none, none, none] [] w1) ∧ (¬ ¬ cf = 0 → Wp (Cw (d + 6)) cd_M_rest (1, 0, n1) Q 9 [mR 144, mI rnd, mI (w32 (rnd + 1)), none, none, none] [] w1)) :
    ∀ (m p : Nat) (T : Tm) (c : Int) (w1 : Wd), p + m = (w 146 0).toNat → ReM w w1 T → anT (w 146) m p T = Tf → anC (w 146) m p T c = cf → Wp (Cw (d + 6)) cd_M_rest (1, 0, n1) Q 18 [mR 144, mI fo, mI rnd, mI c, mI p, none] [] w1 := by
  have pe := ws.pe
  intro m
  induction m with
  | zero =>
    intro p T c w1 hp hX e1 e2
    have e1 : T = Tf := e1
    have e2 : c = cf := e2
    subst e1
    subst e2
    have e146 : w1 146 = w 146 := hX.fr 146 (by decide)
    apply M_rest_144_c18
    rw [e146]
    exact ⟨fun _ => k w1 hX, fun z => absurd (show w 146 0 ≤ (p : Int) by omega) z⟩
  | succ m ih =>
    intro p T c w1 hp hX e1 e2
    have e1 : anT (w 146) m (p + 1) (asT (w 146) p T) = Tf := e1
    have e2 : anC (w 146) m (p + 1) (asT (w 146) p T) (asC (w 146) p T c) = cf := e2
    have e146 : w1 146 = w 146 := hX.fr 146 (by decide)
    have r8 : 0 ≤ (p : Int) ∧ (p : Int) < 8 := by omega
    apply M_rest_144_c18
    rw [e146, ixa_15 (by omega), Int.toNat_natCast, Int.toNat_natCast, ixs (k := p) (by omega)]
    refine ⟨fun z => by exfalso; omega, fun _ => ⟨by omega, fun z0 => ?_, fun z => ?_⟩⟩
    · have bb := midB_bd (nA (w 146) T p) 20
      refine S_asksBest (d := d) (w := w1) (T := T) (by rw [e146]; exact ws) hX.hb p (by omega) hX.law hX.rt ?_
      rw [e146]
      intro w2 hA h154 _
      have e115 : w2 154 p = T.ak p := by rw [h154]; exact hX.rt.ak p (by omega)
      have t1 : asT (w 146) p T = TmK T p (midB (nA (w 146) T p) 20) := by unfold asT; rw [if_neg z0]
      have hX2 : ReM w (ub w2 154 p (midB (nA (w 146) T p) 20 : Nat)) (asT (w 146) p T) := by
        refine (ReM.mk (Fr.ub (Fr.tr hX.fr hA.fr (by decide)) (by decide)) (fun i hi => ?_) ?_ ?_ (TmB_asT hX.hb p))
        · have hi2 := hi
          simp only [List.mem_cons, List.not_mem_nil, or_false] at hi2
          show w2 144 i = _
          rw [hA.oth i (by simp only [List.mem_cons, List.not_mem_nil, or_false]; omega)]; exact hX.oth i hi
        · rw [t1]
          show w2 144 25 = _
          rw [hA.oth 25 (by decide)]; exact hX.law
        · rw [t1]
          have g1 : RfT (w2 144) (w2 146) (w2 151) (w2 152) (w2 153) (w1 154) T := by
            have rt := hX.rt
            rw [hA.fr 146 (by decide), hA.fr 151 (by decide), hA.fr 152 (by decide), hA.fr 153 (by decide)]
            exact (RfT.mk (rt.P) (rt.P8) (rt.n2) (rt.n6) (by rw [hA.oth 26 (by decide)]; exact rt.back) (rt.back3) (by rw [hA.oth 27 (by decide)]; exact rt.hands) (rt.gv) (rt.pn) (rt.hr) (rt.ak) (rt.tw) (rt.pn9) (rt.hr9) (rt.ak9) (rt.tw9))
          exact RfT_K g1 p (by omega) (by rw [ub_ap, if_pos rfl, if_pos rfl]) (fun i hi => by rw [ub_ap, if_pos rfl, if_neg hi]; exact hA.as i hi)
      refine ⟨_, rfl, fun zc => ⟨r8, ?_⟩, fun zc => ⟨r8, fun ze => ⟨r8, ?_⟩, fun ze => ⟨r8, ?_⟩⟩⟩
      · have t2 : asC (w 146) p T c = 1 := by unfold asC; rw [if_neg z0, if_neg (fun y => zc y.1)]
        rw [t2] at e2
        exact ih (p + 1) _ 1 _ (by omega) hX2 e1 e2
      · rw [e115] at ze
        have t2 : asC (w 146) p T c = 0 := by unfold asC; rw [if_neg z0, if_pos ⟨Classical.not_not.mp zc, by omega⟩]
        rw [t2] at e2
        exact ih (p + 1) _ 0 _ (by omega) hX2 e1 e2
      · rw [e115] at ze
        have t2 : asC (w 146) p T c = 1 := by unfold asC; rw [if_neg z0, if_neg (fun y => ze (by omega))]
        rw [t2] at e2
        exact ih (p + 1) _ 1 _ (by omega) hX2 e1 e2
    · have z0 : w 146 (15 + p) = 0 := Classical.not_not.mp z
      have t1 : asT (w 146) p T = T := by unfold asT; rw [if_pos z0]
      have t2 : asC (w 146) p T c = c := by unfold asC; rw [if_pos z0]
      rw [t1] at e1 e2
      rw [t2] at e2
      exact ih (p + 1) T c w1 (by omega) hX e1 e2
theorem L_rest69 {d : Nat} {n1 : Int} {Q : MV → Wd → Prop} {w : Wd} (ff : Int) (k : ∀ g : Nat → Int, (∀ i, i < 8 → g i = w 154 i) → Q (mI ff) (ubf w 176 g)) :
    ∀ (m i : Nat) (g : Nat → Int), i + m = 8 → (∀ j, j < i → g j = w 154 j) → Wp (Cw d) cd_M_rest (1, 0, n1) Q 69 [mR 144, mI ff, mI i, none, none, none] [] (ubf w 176 g) := by
  intro m
  induction m with
  | zero =>
    intro i g hi hg
    apply M_rest_144_c69
    exact ⟨fun _ => k g (fun j hj => hg j (by omega)), fun z => by exfalso; omega⟩
  | succ m ih =>
    intro i g hi hg
    have r8 : 0 ≤ (i : Int) ∧ (i : Int) < 8 := by omega
    have e : (ubf w 176 g) 154 i = w 154 i := rfl
    apply M_rest_144_c69
    rw [Int.toNat_natCast, e, ub_on, ixs (k := i) (by omega)]
    refine ⟨fun z => by exfalso; omega, fun _ => ⟨r8, r8, ih (i + 1) _ (by omega) (fun j hj => ?_)⟩⟩
    rw [up1_ap]
    by_cases q : j = i
    · rw [if_pos q, q]
    · rw [if_neg q]; exact hg j (by omega)
theorem L_rest9 {d : Nat} {n1 : Int} {Q : MV → Wd → Prop} {w : Wd} (ws : WS (w 146)) (Tf : Tm) (ff : Int) (k : ∀ w1, ReM w w1 Tf → Wp (Cw (d + 6)) cd_M_rest (1, 0, n1) Q 69 [mR 144, mI ff, mI 0, none, none, none] [] (ub w1 144 66 (w 146 0))) :
    ∀ (m r : Nat) (T : Tm) (w1 : Wd), r + m = 7 → 1 ≤ r → ReM w w1 T → reT (w 146) m r T = Tf → reF (w 146) m r T = ff → Wp (Cw (d + 6)) cd_M_rest (1, 0, n1) Q 9 [mR 144, mI (-1), mI r, none, none, none] [] w1 := by
  have e0 : ∀ w1 T, ReM w w1 T → w1 146 = w 146 := fun w1 T hX => hX.fr 146 (by decide)
  intro m
  induction m with
  | zero =>
    intro r T w1 hr h1 hX eT eF
    have eT : T = Tf := eT
    have eF : (-1 : Int) = ff := eF
    subst eT
    subst eF
    apply M_rest_144_c9
    rw [e0 _ _ hX]
    exact ⟨fun _ => k w1 hX, fun z => by exfalso; omega⟩
  | succ m ih =>
    intro r T w1 hr h1 hX eT eF
    have eT : (if anC (w 146) (w 146 0).toNat 0 T 0 = 0 then anT (w 146) (w 146 0).toNat 0 T else reT (w 146) m (r + 1) (anT (w 146) (w 146 0).toNat 0 T)) = Tf := eT
    have eF : (if anC (w 146) (w 146 0).toNat 0 T 0 = 0 then (r : Int) else reF (w 146) m (r + 1) (anT (w 146) (w 146 0).toNat 0 T)) = ff := eF
    apply M_rest_144_c9
    refine ⟨fun z => by exfalso; omega, fun _ => ⟨fun z => by exfalso; omega, fun _ => ?_⟩⟩
    refine L_rest18 (d := d) ws (anT (w 146) (w 146 0).toNat 0 T) (anC (w 146) (w 146 0).toNat 0 T 0) (-1) (r : Int) ?_ (w 146 0).toNat 0 T 0 w1 (by omega) hX rfl rfl
    intro w2 hX2
    rw [ixs (k := r) (by omega)]
    refine ⟨fun z => ?_, fun z => ?_⟩
    · rw [if_neg z] at eT eF
      exact ih (r + 1) _ w2 (by omega) (by omega) hX2 eT eF
    · rw [if_pos (Classical.not_not.mp z)] at eT eF
      subst eT
      subst eF
      apply M_rest_144_c9
      rw [e0 _ _ hX2]
      exact ⟨fun _ => k w2 hX2, fun _ => ⟨fun _ => k w2 hX2, fun z => absurd (show (0 : Int) ≤ (r : Int) by omega) z⟩⟩
theorem P_rest {d : Nat} {w : Wd} (h : Inv w) : Pair (d + 30) 119 252 [] w := by
  unfold Pair
  have pe := h.ws.pe
  have e0 : w 4 0 = w 146 0 := h.rv.people
  have hb := TmB_told h.ws
  apply X_rest_0_en
  intro n1
  refine S_try (d := d + 26) h ?_
  intro w1 tc
  refine L_rest7 (d := d + 13) (w := w) h (reT (w 146) 6 1 (TmS (w 146))) (reF (w 146) 6 1 (TmS (w 146))) ?_ 6 1 (TmS (w 146)) w1 (by omega) (by omega) ⟨Fr.tr (Fr.rfl' _ w) tc.fr (by decide), ?_, tc.fr 144 (by decide), tc.ct, hb⟩ rfl rfl
  · intro w2 hX
    apply Told_keepAsks_140_115_en
    refine S_copyAll 115 142 8 rfl rfl rfl rfl (by decide) (by decide) ?_
    intro g hg _
    (apply Mid.k)
    have fr3 : Fr ([113, 140, 142, 176] ++ scrR) w (ub (ubf w2 142 g) 140 3 (w 146 0)) := Fr.ub (Fr.ubf (Fr.tr (Fr.rfl' _ w) hX.fr (by decide)) (by decide)) (by decide)
    have e146 : (ub (ubf w2 142 g) 140 3 (w 146 0)) 146 = w 146 := fr3 146 (by decide)
    have e113 : (ub (ubf w2 142 g) 140 3 (w 146 0)) 113 2 = -1 := hX.at1
    have e144 : (ub (ubf w2 142 g) 140 3 (w 146 0)) 144 = w 144 := hX.i144
    have e140 : w2 140 = w 140 := hX.fr 140 (by decide)
    have c140 : ∀ i, (ub (ubf w2 142 g) 140 3 (w 146 0)) 140 i = up1 (w 140) 3 (w 146 0) i := fun i => by
      show up1 (w2 140) 3 _ i = _
      rw [e140]
    have c142 : (ub (ubf w2 142 g) 140 3 (w 146 0)) 142 = g := rfl
    have ctak := hX.ct.ak
    have ctP := hX.ct.P
    have e4 : w2 4 0 = w 146 0 := by rw [hX.fr 4 (by decide)]; exact e0
    generalize ub (ubf w2 142 g) 140 3 (w 146 0) = w3 at *
    apply M_rest_144_en
    intro n2
    refine S_refT (d := d + 28) (w := w) (w3 := ub w3 144 0 0) h.ws e146 ?_
    intro w4 hF4 i4 law rt
    have fr4 : Fr ([113, 140, 142, 176] ++ scrR) w w4 := Fr.tr (Fr.ub fr3 (by decide)) hF4 (by decide)
    have e4' : w4 146 = w 146 := fr4 146 (by decide)
    refine L_rest9 (d := d + 23) (w := w4) (by rw [e4']; exact h.ws) (reT (w 146) 6 1 (TmS (w 146))) (reF (w 146) 6 1 (TmS (w 146))) ?_ 6 1 (TmS (w 146)) w4 (by omega) (by omega) ⟨Fr.rfl' _ _, fun _ _ => rfl, law, by rw [e4']; exact rt, hb⟩ (by rw [e4']) (by rw [e4'])
    intro w5 hM
    rw [e4']
    have L := L_rest69 (d := d + 29) (n1 := n2) (Q := Post w (reF (w 146) 6 1 (TmS (w 146)))) (w := ub w5 144 66 (w 146 0)) (reF (w 146) 6 1 (TmS (w 146))) ?_ 8 0 ((ub w5 144 66 (w 146 0)) 176) (by omega) (fun j hj => absurd hj (Nat.not_lt_zero _))
    · rw [ubf_sf0] at L
      exact L
    · intro g2 hg2
      have fr5 : Fr ([113, 140, 142, 176] ++ scrR) w (ubf (ub w5 144 66 (w 146 0)) 176 g2) := Fr.ubf (Fr.ub (Fr.tr fr4 hM.fr (by decide)) (by decide)) (by decide)
      have f5 : ∀ c, c ∉ [144, 151, 152, 153, 154, 155, 156, 157, 158, 159, 160, 161, 162, 163, 164, 166, 167, 168] → w5 c = w3 c := fun c hc => by
        rw [hM.fr c hc]
        simp only [List.mem_cons, List.not_mem_nil, or_false, not_or] at hc
        rw [hF4 c (by simp only [List.mem_cons, List.not_mem_nil, or_false, not_or]; omega), ub_ne _ _ (by omega)]
      refine Post.k rfl (Inv.g_rest h fr5 (fun i hi => ?_) (fun i hi => ?_) (fun i hi => ?_) ?_ ?_) (fr5 401 (by decide)) (fr5 400 (by decide))
      · simp only [List.mem_cons, List.not_mem_nil, or_false] at hi
        show w5 113 i = _
        rw [hi, f5 113 (by decide), e113, h.wat.2]
      · simp only [List.mem_cons, List.not_mem_nil, or_false] at hi
        show w5 140 i = _
        rw [f5 140 (by decide), c140, up1_ap, if_neg (by omega)]
      · have hi2 := hi
        simp only [List.mem_cons, List.not_mem_nil, or_false] at hi2
        show up1 (w5 144) 66 (w 146 0) i = _
        rw [up1_ap, if_neg (by omega), hM.oth i (by simp only [List.mem_cons, List.not_mem_nil, or_false]; omega), i4 i (by simp only [List.mem_cons, List.not_mem_nil, or_false]; omega)]
        show up1 (w3 144) 0 0 i = _
        rw [up1_ap, if_neg (by omega), e144]
      · show w5 140 3 = up1 (w5 144) 66 (w 146 0) 66 ∧ 0 ≤ up1 (w5 144) 66 (w 146 0) 66 ∧ up1 (w5 144) 66 (w 146 0) 66 ≤ 8
        rw [up1_ap, if_pos rfl, f5 140 (by decide), c140, up1_ap, if_pos rfl]
        exact ⟨rfl, pe⟩
      · intro q hq
        have hq : (q : Int) < up1 (w5 144) 66 (w 146 0) 66 := hq
        rw [up1_ap, if_pos rfl] at hq
        show w5 142 q = g2 q
        have a1 := hg q (by omega)
        have a2 := ctak q (by omega)
        rw [if_neg (by omega)] at a2
        have a3 := hM.rt.ak q (by omega)
        rw [hg2 q (by omega), f5 142 (by decide), c142, a1, a2]
        exact a3.symm
  · rw [tc.fr 113 (by decide)]
    exact h.wat.2

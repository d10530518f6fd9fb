theorem accC_zero {hit : List Nat → Bool} : ∀ {A : List (List Nat)}, accC hit A = 0 → ∀ x, x ∈ A → hit x = false
  | [], _, x, hx => by cases hx
  | r :: A, h, x, hx => by
    have h : (if hit r then 1 else 0) + accC hit A = 0 := h
    have h1 : accC hit A = 0 := by omega
    rw [List.mem_cons] at hx
    rcases hx with hx | hx
    · rw [hx]
      cases z : hit r
      · rfl
      · rw [z] at h; simp at h
    · exact accC_zero h1 x hx
/-- the least hours among the rows that hit -/
def LeH (T : Tm) (hit : List Nat → Bool) (L : List (List Nat)) (l : Int) : Prop := (∃ r, r ∈ L ∧ hit r = true ∧ l = (hoL T r : Nat)) ∧ ∀ r, r ∈ L → hit r = true → l ≤ (hoL T r : Nat)
theorem LeH.uniq {T : Tm} {hit : List Nat → Bool} {L : List (List Nat)} {l m : Int} (h : LeH T hit L l) (g : LeH T hit L m) : l = m := by
  obtain ⟨⟨r, a, b, c⟩, e⟩ := h
  obtain ⟨⟨r', a', b', c'⟩, e'⟩ := g
  have x := e r' a' b'
  have y := e' r a b
  omega
theorem hitS_true {T : Tm} {s : Nat → Int} {u v : Nat} {r : List Nat} (h : hitS T s u v r = true) : s (110 + 4 * v) = s (30 + 5 * u) ∧ s (33 + 5 * u) + (hoL T r : Int) ≤ lastH s u v := by
  unfold hitS at h
  rw [Bool.and_eq_true, Bool.and_eq_true, decide_eq_true_eq, decide_eq_true_eq] at h
  exact h.2
theorem S_latX {d : Nat} {Q : MV → Wd → Prop} {w : Wd} (h : Inv w) (u v : Nat) (hu : (u : Int) < w 146 2) (hv : (v : Int) < w 146 3)
    (k1 : ∀ w2 l, Fr ([113] ++ scrR) w w2 → w2 113 2 = -1 → w2 144 = w 144 → LeH (TmS (w 146)) (hitS (TmS (w 146)) (w 146) u v) (rowsO (TmS (w 146)) (w 146) u) l → Q (mI (lastH (w 146) u v - l)) w2)
    (k0 : ∀ w2, Fr ([113] ++ scrR) w w2 → w2 113 2 = -1 → w2 144 = w 144 → (∀ r, r ∈ rowsO (TmS (w 146)) (w 146) u → hitS (TmS (w 146)) (w 146) u v r = false) → Q (mI (-1)) w2) :
    Cw (d + 29) 117 [mR 0] w (fun r v5 => r = mR 112 ∧ Cw (d + 29) 59 [mR 113, mI (u : Int)] v5 (fun _ v7 => (0 ≤ (v : Int) ∧ (v : Int) < 8) ∧ ((¬ v7 120 (v : Int).toNat = 0 → ((0 ≤ w32 ((w32 ((u : Int) * 5)) + 3) ∧ w32 ((w32 ((u : Int) * 5)) + 3) < 80) ∧ ((0 ≤ (v : Int) ∧ (v : Int) < 8) ∧ ((0 ≤ (v : Int) ∧ (v : Int) < 8) ∧ Q (mI (w32 ((w32 ((v7 11 (w32 ((w32 ((u : Int) * 5)) + 3)).toNat) + (v7 119 (v : Int).toNat))) - (v7 121 (v : Int).toNat)))) v7)))) ∧ (¬ (¬ v7 120 (v : Int).toNat = 0) → Q (mI ((-1))) v7)))) := by
  have un := h.ws.un
  have wa := h.ws.wa
  have v8 : 0 ≤ (v : Int) ∧ (v : Int) < 8 := by omega
  have vW : v < (w 146 3).toNat := by omega
  have uU : u < (w 146 2).toNat := by omega
  have eU : w 146 2 = ((w 146 2).toNat : Int) := by omega
  have eW : w 146 3 = ((w 146 3).toNat : Int) := by omega
  obtain ⟨ks, lf, md, by', e30, e23, e33, e112, ks6, lf1, lf48, md47, by47, elast⟩ := lastH_ref h.ws hu hv
  have un11 := h.rv.uhour u hu
  refine S_try (d := d + 26) h ?_
  intro w1 tc
  have f : ∀ c, c ∉ [114, 115, 116, 117] → w1 c = w c := fun c hc => tc.fr c hc
  have a1 : w1 113 2 = -1 := by rw [f 113 (by decide)]; exact h.wat.2
  refine S_walkUnit_113 (d := d + 16) (w := w1) tc.rv h.ws (T := TmS (w 146)) (by rw [a1]; exact tc.ct) (w 146 2).toNat (w 146 3).toNat u eU eW uU ?_
  intro w2 hF h93 _ hw hroom
  have fr2 : Fr ([113] ++ scrR) w w2 := Fr.tr (Fr.tr (Fr.rfl' _ w) tc.fr (by decide)) hF (by decide)
  have i113 : w2 113 2 = -1 := by
    rw [h93 2 (by decide) (by decide) (by decide) (by decide)]
    exact a1
  have i144 : w2 144 = w 144 := by
    rw [hF 144 (by decide)]
    exact f 144 (by decide)
  have e11 : w2 11 (5 * u + 3) = md := by
    rw [fr2 11 (by decide), un11, e33]
  have hc := hw.2.1 v vW
  have hl := hw.2.2 v vW
  have hr := hroom v vW
  rw [Int.toNat_natCast, ix5_3 (by omega), Int.toNat_natCast, e11]
  refine ⟨v8, fun z => ?_, fun z => ?_⟩
  · obtain ⟨⟨r, a, b, c⟩, e⟩ := hl z
    obtain ⟨s1, s2⟩ := hitS_true b
    rw [e33] at s2
    have er : w2 119 v = lastH (w 146) u v - md := by
      rw [hr]; unfold roomS; rw [if_pos s1, e33]
    refine ⟨by omega, v8, v8, ?_⟩
    rw [er, c, w32_id (x := (md : Int) + (lastH (w 146) u v - md)) (by unfold in32; omega), w32_id (by unfold in32; omega), show (md : Int) + (lastH (w 146) u v - md) - (hoL (TmS (w 146)) r : Nat) = lastH (w 146) u v - (hoL (TmS (w 146)) r : Nat) by omega]
    exact k1 w2 _ fr2 i113 i144 ⟨⟨r, a, b, rfl⟩, fun r' a' b' => by have := e r' a' b'; omega⟩
  · have z : w2 120 v = 0 := Classical.not_not.mp z
    rw [hc] at z
    exact k0 w2 fr2 i113 i144 (accC_zero (by omega))
/-- what the reference's search holds: any, the least so far -/
def LatD (T : Tm) (hit : List Nat → Bool) (most : Int) (L : List (List Nat)) (any least : Int) : Prop := (any = 0 ∧ least = most ∧ ∀ r, r ∈ L → hit r = false) ∨ (any = 1 ∧ LeH T hit L least ∧ least ≤ most)
theorem LatD.skip {T : Tm} {hit : List Nat → Bool} {most any least : Int} {L L1 : List (List Nat)} (h : LatD T hit most L any least) (hh : ∀ r, hit r = true → (hoL T r : Int) ≤ most) (hs : ∀ x, x ∈ L1 → least < hoL T x) : LatD T hit most (L ++ L1) any least := by
  rcases h with ⟨a, b, c⟩ | ⟨a, ⟨⟨r, b1, b2, b3⟩, b4⟩, c⟩
  · refine Or.inl ⟨a, b, fun r hr => ?_⟩
    rw [List.mem_append] at hr
    rcases hr with hr | hr
    · exact c r hr
    · have h1 := hs r hr
      cases z : hit r
      · rfl
      · have := hh r z; omega
  · refine Or.inr ⟨a, ⟨⟨r, List.mem_append.mpr (Or.inl b1), b2, b3⟩, fun r' hr hh' => ?_⟩, c⟩
    rw [List.mem_append] at hr
    rcases hr with hr | hr
    · exact b4 r' hr hh'
    · have := hs r' hr; omega
theorem LatD.hit {T : Tm} {hit : List Nat → Bool} {most any least : Int} {L : List (List Nat)} {r : List Nat} (h : LatD T hit most L any least) (hr : hit r = true) (hl : (hoL T r : Int) ≤ least) : LatD T hit most (L ++ [r]) 1 (hoL T r : Nat) := by
  have lm : least ≤ most := by
    rcases h with ⟨_, b, _⟩ | ⟨_, _, c⟩ <;> omega
  refine Or.inr ⟨rfl, ⟨⟨r, by simp, hr, rfl⟩, fun r' hr' hh' => ?_⟩, by omega⟩
  rw [List.mem_append, List.mem_singleton] at hr'
  rcases hr' with hr' | hr'
  · rcases h with ⟨_, _, c⟩ | ⟨_, c, _⟩
    · rw [c r' hr'] at hh'; cases hh'
    · have := c.2 r' hr' hh'; omega
  · rw [hr']; omega
theorem LatD.miss {T : Tm} {hit : List Nat → Bool} {most any least : Int} {L : List (List Nat)} {r : List Nat} (h : LatD T hit most L any least) (hr : hit r = false) : LatD T hit most (L ++ [r]) any least := by
  rcases h with ⟨a, b, c⟩ | ⟨a, ⟨⟨r0, b1, b2, b3⟩, b4⟩, c⟩
  · refine Or.inl ⟨a, b, fun r' hr' => ?_⟩
    rw [List.mem_append, List.mem_singleton] at hr'
    rcases hr' with hr' | hr'
    · exact c r' hr'
    · rw [hr']; exact hr
  · refine Or.inr ⟨a, ⟨⟨r0, List.mem_append.mpr (Or.inl b1), b2, b3⟩, fun r' hr' hh' => ?_⟩, c⟩
    rw [List.mem_append, List.mem_singleton] at hr'
    rcases hr' with hr' | hr'
    · exact b4 r' hr' hh'
    · rw [hr', hr] at hh'; cases hh'
/-- the reference's search -/
theorem L_l55 {d : Nat} {n1 : Int} {Q : MV → Wd → Prop} {w : Wd} {T : Tm} (g : RfT (w 144) (w 146) (w 151) (w 152) (w 153) (w 154) T) (ws : WS (w 146)) (hn : w 144 35 = T.n) (law : w 144 25 = T.n) (u v : Nat) (hu : (u : Int) < w 146 2) (hv : (v : Int) < w 146 3) (most : Int) (hm : most = lastH (w 146) u v - w 146 (33 + 5 * u)) (hs : w 146 (110 + 4 * v) = w 146 (30 + 5 * u)) (LL : List (List Nat))
    (k1 : ∀ w' l, AtS w w' → LeH T (hitS T (w 146) u v) LL l → Q (mI (lastH (w 146) u v - l)) w')
    (k0 : ∀ w', AtS w w' → (∀ r, r ∈ LL → hitS T (w 146) u v r = false) → Q (mI (-1)) w') :
    ∀ (N : Nat) (L L0 : List (List Nat)) (w1 : Wd) (least any : Int), L.length ≤ N → AtS w w1 → SrS T (fiR (w 146) u) w1 L → LL = L0 ++ L → LatD T (hitS T (w 146) u v) most L0 any least → Wp (Cw (d + 3)) cd_M_latest (1, 0, n1) Q 55 [mR 144, mI u, mI v, mI least, mI any] [] w1 := by
  have un := ws.un
  have wa := ws.wa
  obtain ⟨ks, lf, md, by', e30, e23, e33, e112, ks6, lf1, lf48, md47, by47, elast⟩ := lastH_ref ws hu hv
  have hh : ∀ r, hitS T (w 146) u v r = true → (hoL T r : Int) ≤ most := fun r hr => by
    have := (hitS_true hr).2
    omega
  -- the end
  have fin : ∀ (w2 : Wd) (least any : Int), AtS w w2 → LatD T (hitS T (w 146) u v) most LL any least → ((any = 0 → Q (mI (-1)) w2) ∧ (¬ (any = 0) → ((0 ≤ ((112 + 4 * v : Nat) : Int) ∧ ((112 + 4 * v : Nat) : Int) < 645) ∧ ((0 ≤ ((33 + 5 * u : Nat) : Int) ∧ ((33 + 5 * u : Nat) : Int) < 645) ∧ ((0 ≤ ((30 + 5 * u : Nat) : Int) ∧ ((30 + 5 * u : Nat) : Int) < 645) ∧ ((0 ≤ ((23 + ks : Nat) : Int) ∧ ((23 + ks : Nat) : Int) < 645) ∧ (((md : Int) + lf - 1 ≤ by' → Q (mI (w32 ((md : Int) + lf - 1 - least))) w2) ∧ (¬ (md : Int) + lf - 1 ≤ by' → Q (mI (w32 ((by' : Int) - least))) w2)))))))) := by
    intro w2 least any hA hD
    rcases hD with ⟨a, b, c⟩ | ⟨a, b, c⟩
    · exact ⟨fun _ => k0 w2 hA c, fun z => absurd a z⟩
    · refine ⟨fun z => by exfalso; omega, fun _ => ⟨by omega, by omega, by omega, by omega, fun zm => ?_, fun zm => ?_⟩⟩
      · have i1 := k1 w2 least hA b
        obtain ⟨⟨r, _, b2, b3⟩, _⟩ := b
        have := hh r b2
        rw [elast, Int.min_eq_right (by omega)] at i1
        rw [w32_id (x := (md : Int) + lf - 1 - least) (by unfold in32; omega)]
        exact i1
      · have i1 := k1 w2 least hA b
        obtain ⟨⟨r, _, b2, b3⟩, _⟩ := b
        have := hh r b2
        rw [elast, Int.min_eq_left (by omega)] at i1
        rw [w32_id (x := (by' : Int) - least) (by unfold in32; omega)]
        exact i1
  intro N
  induction N with
  | zero =>
    intro L L0 w1 least any hN hA hS hL hD
    have : L = [] := List.eq_nil_of_length_eq_zero (by omega)
    subst this
    have g1 := hA.rft g
    have e146 : w1 146 = w 146 := hA.1 146 (by decide)
    have h35 : w1 144 35 = T.n := by rw [hA.2 35 (by decide) (by decide)]; exact hn
    apply M_latest_144_c55
    rw [ixw_3 (by omega), ixu_1 (by omega), ixu_4 (by omega), Int.toNat_natCast, Int.toNat_natCast, Int.toNat_natCast]
    refine S_nextRow g1 h35 u (by omega) least [] (by rw [e146]; exact hS) ?_ ?_
    · intro w2 hA2 _
      have e2 : w2 146 = w 146 := (hA.tr hA2).1 146 (by decide)
      rw [e2, e30, ixa_23 (by omega), Int.toNat_natCast, e23, e33, e112, w32_id (x := (md : Int) + lf) (by unfold in32; omega), w32_id (x := (md : Int) + lf - 1) (by unfold in32; omega)]
      refine ⟨_, rfl, fun _ => ?_, fun z => absurd rfl z⟩
      rw [List.append_nil] at hL
      rw [← hL] at hD
      exact fin w2 least any (hA.tr hA2) hD
    · intro w2 L1 r L2 _ hE
      exfalso
      simp at hE
  | succ N ih =>
    intro L L0 w1 least any hN hA hS hL hD
    have g1 := hA.rft g
    have e146 : w1 146 = w 146 := hA.1 146 (by decide)
    have h35 : w1 144 35 = T.n := by rw [hA.2 35 (by decide) (by decide)]; exact hn
    apply M_latest_144_c55
    rw [ixw_3 (by omega), ixu_1 (by omega), ixu_4 (by omega), ixw (by omega), Int.toNat_natCast, Int.toNat_natCast, Int.toNat_natCast, Int.toNat_natCast]
    refine S_nextRow g1 h35 u (by omega) least L (by rw [e146]; exact hS) ?_ ?_
    · intro w2 hA2 hno
      have e2 : w2 146 = w 146 := (hA.tr hA2).1 146 (by decide)
      rw [e2, e30, ixa_23 (by omega), Int.toNat_natCast, e23, e33, e112, w32_id (x := (md : Int) + lf) (by unfold in32; omega), w32_id (x := (md : Int) + lf - 1) (by unfold in32; omega)]
      refine ⟨_, rfl, fun _ => ?_, fun z => absurd rfl z⟩
      have hD2 := hD.skip hh hno
      rw [← hL] at hD2
      exact fin w2 least any (hA.tr hA2) hD2
    · intro w2 L1 r L2 hA2 hE hL1 hr hst hok hlen hS2
      have n2 := g.n2
      have n6 := g.n6
      have hA3 := hA.tr hA2
      have e2 : w2 146 = w 146 := hA3.1 146 (by decide)
      have e25 : w2 144 25 = T.n := by rw [hA3.2 25 (by decide) (by decide)]; exact law
      cases r with
      | nil => simp at hlen; omega
      | cons q t =>
        have lt : t.length + 1 = T.n := by simpa using hlen
        have r1 : w2 155 t.length = q := hst.1.1.1
        have r4 : w2 157 t.length = (hoL T (q :: t) : Nat) := hst.1.1.2.2.2.1
        have et : (T.n : Int) - 1 = (t.length : Int) := by omega
        have hD1 := hD.skip hh hL1
        have lm : least ≤ most := by
          rcases hD with ⟨_, b, _⟩ | ⟨_, _, c⟩ <;> omega
        have hq : hitS T (w 146) u v (q :: t) = decide (w 146 (109 + 4 * v) = (q : Int)) := hitS_head hs (by omega)
        have hL3 : LL = (L0 ++ L1 ++ [q :: t]) ++ L2 := by rw [hL, hE]; simp
        have hN2 : L2.length ≤ N := by rw [hE] at hN; simp at hN; omega
        rw [e146] at hS2
        refine ⟨_, rfl, fun z => absurd z (by decide), fun _ => ?_⟩
        rw [e25, et, w32n (n := t.length) (by omega), Int.toNat_natCast, r1, r4, e2]
        refine ⟨by omega, by omega, fun z => ⟨by omega, ?_⟩, fun z => ?_⟩
        · exact ih L2 (L0 ++ L1 ++ [q :: t]) w2 _ _ hN2 hA3 hS2 hL3 (hD1.hit (by rw [hq, decide_eq_true_eq]; exact z.symm) hr)
        · exact ih L2 (L0 ++ L1 ++ [q :: t]) w2 _ _ hN2 hA3 hS2 hL3 (hD1.miss (by rw [hq, decide_eq_false_iff_not]; exact fun y => z y.symm))

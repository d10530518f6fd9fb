theorem S_dayBegin {d : Nat} {Q : MV → Wd → Prop} {w : Wd} {s nms : Nat → Int} (rv : RV (w 4) (w 5) (w 6) (w 7) (w 8) (w 9) (w 10) (w 11) (w 12) (w 13) (w 14) (w 15) s nms) (ws : WS s)
    (k : ∀ w', CDy w w' s D0 → w' 132 1 = 0 → Q none w') : Cw (d + 2) 107 [mR 132, mR 4] w Q := by
  have un := ws.un
  apply Day_begin_132_4_en
  intro n1
  have lp : ∀ (r i : Nat) (w1 : Wd), i + r = (s 2).toNat → Fr [132, 133, 134, 135, 136] w w1 → w1 132 0 = 1 → w1 132 1 = 0 → w1 132 2 = 0 → w1 132 3 = 0 → w1 132 4 = 0 → w1 132 6 = s 2 → (∀ u, u < i → w1 133 u = s (31 + 5 * u) ∧ w1 134 u = 1 ∧ w1 136 u = 0) → Wp (Cw (d + 1)) cd_Day_begin (0, 0, n1) Q 21 [mR 132, mR 4, mI i] [] w1 := by
    intro r
    induction r with
    | zero =>
      intro i w1 hi hF h0 h1 h2 h3 h4 h6 hu
      apply Day_begin_132_4_c21
      rw [h6]
      refine ⟨fun _ => k w1 (CDy.mk (hF) (h0) (h6) (h2) (h3) (h4) (fun u hu' => ?_) (fun u hu' => ?_) (fun u hu' => ?_) (fun u hu' h2 => ?_)) h1, fun z => absurd (show s 2 ≤ (i : Int) by omega) z⟩
      · rw [(hu u (by omega)).1]
        rfl
      · rw [(hu u (by omega)).2.1]; rfl
      · rw [(hu u (by omega)).2.2]; rfl
      · have h2 : 2 ≤ 1 := h2
        omega
    | succ r ih =>
      intro i w1 hi hF h0 h1 h2 h3 h4 h6 hu
      have e11 : w1 11 (5 * i + 1) = s (31 + 5 * i) := by rw [hF 11 (by decide)]; exact rv.mak i (by omega)
      apply Day_begin_132_4_c21
      rw [h6, ix5_1 (by omega), Int.toNat_natCast, Int.toNat_natCast, e11, ixs (k := i) (by omega)]
      refine ⟨fun z => by exfalso; omega, fun _ => ⟨by omega, by omega, by omega, by omega, ?_⟩⟩
      refine ih (i + 1) _ (by omega) (Fr.ub (Fr.ub (Fr.ub hF (by decide)) (by decide)) (by decide)) h0 h1 h2 h3 h4 h6 (fun u hu' => ?_)
      show up1 (w1 133) i (s (31 + 5 * i)) u = _ ∧ up1 (w1 134) i 1 u = 1 ∧ up1 (w1 136) i 0 u = 0
      rw [up1_ap, up1_ap, up1_ap]
      by_cases q : u = i
      · rw [if_pos q, if_pos q, if_pos q, q]; exact ⟨rfl, rfl, rfl⟩
      · rw [if_neg q, if_neg q, if_neg q]; exact hu u (by omega)
  have e8 : w 4 8 = s 2 := rv.units
  refine lp (s 2).toNat 0 _ (by omega) ?_ ?_ ?_ ?_ ?_ ?_ ?_ (fun u hu => absurd hu (Nat.not_lt_zero _))
  · refine Fr.ub (Fr.ub (Fr.ub (Fr.ub (Fr.ub (Fr.ub (Fr.rfl' _ _) ?_) ?_) ?_) ?_) ?_) ?_ <;> decide
  · rfl
  · rfl
  · rfl
  · rfl
  · rfl
  · exact e8
/-- what is spoilt, what may be used: at the end -/
def spP (s : Nat → Int) (D : DY) (u : Nat) : Prop := ¬ D.ho u = -2 ∧ spS s u ≤ D.H
def usP (s : Nat → Int) (D : DY) (u : Nat) : Prop := whU s D u = 0
theorem S_dayClose {d : Nat} {Q : MV → Wd → Prop} {w0 w : Wd} {s nms : Nat → Int} {D : DY} {i : Nat} (rv0 : RV (w0 4) (w0 5) (w0 6) (w0 7) (w0 8) (w0 9) (w0 10) (w0 11) (w0 12) (w0 13) (w0 14) (w0 15) s nms) (ws : WS s) (hD : DOk s i D) (hC : CDy w0 w s D)
    (k : ∀ o : Nat → Int, (∀ j, j ≠ 5 → j ≠ 7 → o j = w 132 j) → BitsI (o 5) (s 2).toNat (spP s D) → BitsI (o 7) (s 2).toNat (usP s D) → Q none (ubf w 132 o)) : Cw (d + 5) 113 [mR 132, mR 4] w Q := by
  have rv := RV_fr hC.fr (by decide) rv0
  have un := ws.un
  have la := ws.la
  apply Day_close_132_4_en
  intro n1
  have lp : ∀ (r x : Nat) (o : Nat → Int), x + r = (s 2).toNat → (∀ j, j ≠ 5 → j ≠ 7 → o j = w 132 j) → BitsI (o 5) x (spP s D) → BitsI (o 7) x (usP s D) → Wp (Cw (d + 4)) cd_Day_close (0, 0, n1) Q 8 [mR 132, mR 4, mI x, none, none] [] (ubf w 132 o) := by
    intro r
    induction r with
    | zero =>
      intro x o hx ho b5 b7
      have : x = (s 2).toNat := by omega
      have e6 : (ubf w 132 o) 132 6 = s 2 := by rw [ubf_ap, if_pos rfl, ho 6 (by decide) (by decide)]; exact hC.un
      apply Day_close_132_4_c8
      rw [e6]
      rw [this] at b5 b7
      exact ⟨fun _ => k o ho b5 b7, fun z => absurd (show s 2 ≤ (x : Int) by omega) z⟩
    | succ r ih =>
      intro x o hx ho b5 b7
      have x2 : (x : Int) < s 2 := by omega
      have e6 : (ubf w 132 o) 132 6 = s 2 := by rw [ubf_ap, if_pos rfl, ho 6 (by decide) (by decide)]; exact hC.un
      have e2 : (ubf w 132 o) 132 2 = D.H := by rw [ubf_ap, if_pos rfl, ho 2 (by decide) (by decide)]; exact hC.hour
      have e3 : (ubf w 132 o) 132 3 = D.M := by rw [ubf_ap, if_pos rfl, ho 3 (by decide) (by decide)]; exact hC.met
      have e5 : (ubf w 132 o) 132 5 = o 5 := by rw [ubf_ap, if_pos rfl]
      have e7 : (ubf w 132 o) 132 7 = o 7 := by rw [ubf_ap, if_pos rfl]
      have e11 : (ubf w 132 o) 11 (5 * x + 4) = spS s x := rv.spo x x2
      have e134 : (ubf w 132 o) 134 x = D.ma x := hC.nth x x2
      have e136 : (ubf w 132 o) 136 x = D.fr x := hC.due x x2
      have e4 : (ubf w 132 o) 4 15 = s 4 := rv.n
      have gone := hD.gone x2
      have wn := whN_cases s D x
      have wu := whU_cases s D x
      have r16 : 0 ≤ (x : Int) ∧ (x : Int) < 16 := by omega
      have r5 : 0 ≤ ((5 * x + 4 : Nat) : Int) ∧ ((5 * x + 4 : Nat) : Int) < 80 := by omega
      have made : (D.ma x : Int) = s 4 → s (33 + 5 * x) ≤ D.H := fun z => by
        rcases hD.st x x2 with ⟨z1, z2⟩ | ⟨z1, z2, _⟩ | ⟨p, p8, hp, m2, _, _, g⟩
        · exfalso; omega
        · exfalso; omega
        · exact g
      have go : ∀ a b : Int, (a = ior (o 5) (ishl 1 (x : Int)) ∧ spP s D x ∨ a = ior (o 5) 0 ∧ ¬ spP s D x) → (b = ior (o 7) (ishl 1 (x : Int)) ∧ usP s D x ∨ b = ior (o 7) 0 ∧ ¬ usP s D x) → Wp (Cw (d + 4)) cd_Day_close (0, 0, n1) Q 8 [mR 132, mR 4, mI (x + 1 : Nat), none, none] [] (ub (ub (ubf w 132 o) 132 5 a) 132 7 b) := by
        intro a b ha hb
        rw [ub_on, ub_on]
        refine ih (x + 1) _ (by omega) (fun j j5 j7 => ?_) ?_ ?_
        · rw [up1_ap, if_neg j7, up1_ap, if_neg j5]; exact ho j j5 j7
        · rw [up1_ap, if_neg (by decide), up1_ap, if_pos rfl]
          rcases ha with ⟨ha, hs⟩ | ⟨ha, hs⟩
          · rw [ha]; exact b5.yes (by omega) hs
          · rw [ha]; exact b5.no hs
        · rw [up1_ap, if_pos rfl]
          rcases hb with ⟨hb, hs⟩ | ⟨hb, hs⟩
          · rw [hb]; exact b7.yes (by omega) hs
          · rw [hb]; exact b7.no hs
      have sp0 : ¬ spP s D x → ior (o 5) 0 = ior (o 5) (ishl 1 (x : Int)) ∧ spP s D x ∨ ior (o 5) 0 = ior (o 5) 0 ∧ ¬ spP s D x := fun z => Or.inr ⟨rfl, z⟩
      have sp1 : spP s D x → ior (o 5) (ishl 1 (x : Int)) = ior (o 5) (ishl 1 (x : Int)) ∧ spP s D x ∨ ior (o 5) (ishl 1 (x : Int)) = ior (o 5) 0 ∧ ¬ spP s D x := fun z => Or.inl ⟨rfl, z⟩
      have us0 : ¬ usP s D x → ior (o 7) 0 = ior (o 7) (ishl 1 (x : Int)) ∧ usP s D x ∨ ior (o 7) 0 = ior (o 7) 0 ∧ ¬ usP s D x := fun z => Or.inr ⟨rfl, z⟩
      have us1 : usP s D x → ior (o 7) (ishl 1 (x : Int)) = ior (o 7) (ishl 1 (x : Int)) ∧ usP s D x ∨ ior (o 7) (ishl 1 (x : Int)) = ior (o 7) 0 ∧ ¬ usP s D x := fun z => Or.inl ⟨rfl, z⟩
      have nus : (D.ma x : Int) = 0 ∨ D.H < D.fr x ∨ ¬ (D.ma x : Int) = s 4 ∨ spS s x ≤ D.H → ¬ usP s D x := fun z y => by
        have y : whU s D x = 0 := y
        omega
      have nsp : (D.ma x : Int) = 0 ∨ (D.H : Int) < spS s x → ¬ spP s D x := fun z y => by
        have y1 := y.1
        have y2 := y.2
        omega
      have ysp : ¬ (D.ma x : Int) = 0 → ¬ (D.H : Int) < spS s x → spP s D x := fun z y => ⟨fun q => z (gone.mpr q), by omega⟩
      have wants : ¬ (D.ma x : Int) = 0 → (D.ma x : Int) = s 4 → D.fr x ≤ D.H → (D.H : Int) < spS s x → Cw (d + 4) 112 [mR 132, mR 4, mI (x : Int)] (ub (ubf w 132 o) 132 5 (ior (o 5) 0)) (fun r v9 => ∃ r10 : Int, r = mI r10 ∧ ((r10 = (-1) → Wp (Cw (d + 4)) cd_Day_close (0, 0, n1) Q 8 [mR 132, mR 4, mI (x + 1 : Nat), none, none] [] (ub v9 132 7 (ior (o 7) 0))) ∧ (¬ (r10 = (-1)) → Wp (Cw (d + 4)) cd_Day_close (0, 0, n1) Q 8 [mR 132, mR 4, mI (x + 1 : Nat), none, none] [] (ub v9 132 7 (ior (o 7) (ishl 1 (x : Int))))))) := by
        intro y0 y1 y2 y3
        have m4 := made y1
        have hn2 : ¬ D.ho x = -2 := fun q => y0 (gone.mpr q)
        have hho : w 133 x = D.ho x := by
          rw [hC.who x x2]
          unfold whoI
          rcases hD.st x x2 with ⟨z1, z2⟩ | ⟨z1, z2, _⟩ | ⟨p, p8, hp, m2, _⟩
          · exact absurd z1 hn2
          · exfalso; omega
          · rw [hp, if_neg (by omega), if_neg (by omega)]
        refine S_wantMet (d := d + 2) (w := ub (ubf w 132 o) 132 5 (ior (o 5) 0)) (s := s) (nms := nms) rv ws x x2 (D.ho x) D.H D.M hD.hM hho ?_ ?_ ?_
        · rw [ub_ap, if_pos rfl, if_neg (by decide)]; exact e2
        · rw [ub_ap, if_pos rfl, if_neg (by decide)]; exact e3
        · have ew : wnF s D.H D.M (D.ho x) (s (30 + 5 * x)) (s 3).toNat 0 = wnD s D (D.ho x) x := rfl
          rw [ew]
          have h0 : whN s D x = 0 := by omega
          refine ⟨_, rfl, fun q => go _ _ (sp0 (nsp (Or.inr y3))) (us0 (fun y => ?_)), fun q => go _ _ (sp0 (nsp (Or.inr y3))) (us1 ?_)⟩
          · have y : whU s D x = 0 := y
            omega
          · show whU s D x = 0
            rcases wnF_bd s D.H D.M (D.ho x) (s (30 + 5 * x)) (s 3).toNat 0 with z | ⟨v, hv, _⟩
            · rw [ew] at z; exact absurd z q
            · rw [ew] at hv
              omega
      apply Day_close_132_4_c8
      rw [e6, e5, e7, Int.toNat_natCast, e2, ix5_4 (by omega), Int.toNat_natCast, e11, e134, e136, e4, ixs (k := x) (by omega)]
      refine ⟨fun z => by exfalso; omega, fun _ => ⟨r5, fun z1 => ⟨r16, fun z2 => ⟨r16, fun z3 => ?_, fun z3 => absurd z2 z3⟩, fun z2 => ⟨r16, fun z3 => ⟨r16, fun z4 => absurd z4 z2, fun z4 => ?_⟩, fun z3 => ⟨r16, fun z4 => absurd z4 z2, fun _ => ⟨r16, fun z5 => ?_, fun z5 => ?_⟩⟩⟩⟩, fun z1 => ⟨r16, fun z2 => ⟨r16, fun z3 => ?_, fun z3 => absurd z2 z3⟩, fun z2 => ⟨r16, fun z3 => ⟨r16, fun z4 => absurd z4 z2, fun z4 => ?_⟩, fun z3 => ⟨r16, fun z4 => absurd z4 z2, fun z4 => ?_⟩⟩⟩⟩⟩
      · exact go _ _ (sp0 (nsp (Or.inl z2))) (us0 (nus (Or.inl z2)))
      · exact go _ _ (sp0 (nsp (Or.inr z1))) (us0 (nus (Or.inr (Or.inl (by omega)))))
      · exact go _ _ (sp0 (nsp (Or.inr z1))) (us0 (nus (Or.inr (Or.inr (Or.inl z5)))))
      · exact wants z2 (Classical.not_not.mp z5) (by omega) z1
      · exact go _ _ (sp0 (nsp (Or.inl z2))) (us0 (nus (Or.inl z2)))
      · exact go _ _ (sp1 (ysp z2 z1)) (us0 (nus (Or.inr (Or.inr (Or.inr (by omega))))))
      · exact go _ _ (sp1 (ysp z2 z1)) (us0 (nus (Or.inr (Or.inr (Or.inr (by omega))))))
  have e : ub (ub w 132 5 0) 132 7 0 = ubf w 132 (up1 (up1 (w 132) 5 0) 7 0) := by rw [← ub_on, ← ub_on, ubf_sf0]
  rw [e]
  exact (lp (s 2).toNat 0 (up1 (up1 (w 132) 5 0) 7 0) (by omega) (fun j j5 j7 => by rw [up1_ap, if_neg j7, up1_ap, if_neg j5]) (by rw [up1_ap, if_neg (by decide), up1_ap, if_pos rfl]; exact BitsI.zero _) (by rw [up1_ap, if_pos rfl]; exact BitsI.zero _))
theorem DOk.step {s : Nat → Int} (ws : WS s) (wp : WP s) {i : Nat} {D : DY} (h : DOk s i D) (hi : (i : Int) < s 333) : DOk s (i + 1) (doD s D i) := by
  have un := ws.un
  have pe := ws.pe
  have wh := wp.what i hi
  have hH := h.hH
  unfold doD
  by_cases y : doY s D i = 0
  · rw [if_pos y]
    by_cases za : s (334 + 3 * i) = 2
    · rw [if_pos za]
      have hb := wp.wait i hi za
      refine h.wait ?_
      unfold doY at y
      rw [if_pos za] at y
      by_cases q : 47 < D.H + s (335 + 3 * i)
      · rw [if_pos q] at y; omega
      · omega
    · rw [if_neg za]
      have hu := wp.unit i hi za
      obtain ⟨u, hu'⟩ := Int.eq_ofNat_of_zero_le hu.1
      rw [hu'] at hu
      have hu2 := hu.2
      rw [hu', Int.toNat_natCast]
      have wn := whN_cases s D u
      have wu := whU_cases s D u
      unfold doY at y
      rw [if_neg za, hu', Int.toNat_natCast] at y
      by_cases z1 : s (334 + 3 * i) = 1
      · rw [if_pos z1] at y ⊢
        refine h.use ?_
        have wa := ws.wa
        rcases wnF_bd s D.H D.M (D.ho u) (s (30 + 5 * u)) (s 3).toNat 0 with z | ⟨v, hv, hv8⟩
        · have : wnD s D (D.ho u) u = -1 := z
          exfalso; omega
        · have : wnD s D (D.ho u) u = v := hv
          rw [this, Int.toNat_natCast]; omega
      · rw [if_neg z1] at y ⊢
        have z0 : s (334 + 3 * i) = 0 := by omega
        have wm := wp.whom i hi z0
        obtain ⟨to, hto⟩ := Int.eq_ofNat_of_zero_le wm.1
        rw [hto] at wm
        rw [hto, Int.toNat_natCast] at y ⊢
        have hn : ¬ 0 < whN s D u := fun q => by rw [if_pos q] at y; omega
        rw [if_neg hn] at y
        have hg : ¬ gvD s u (D.ho u) to < 0 := fun q => by rw [if_pos q] at y; omega
        have gb := gvD_bd ws hu2 (h := D.ho u) (by
          rcases h.st u hu2 with z | z | ⟨p, p8, hp, _⟩
          · exact Or.inl (by omega)
          · exact Or.inl (by omega)
          · exact Or.inr ⟨p, p8, hp⟩) (show to < 8 by omega)
        rcases gb with gb | ⟨a, ga, a8, a0, _⟩
        · exact absurd (show gvD s u (D.ho u) to < 0 by rw [gb]; decide) hg
        · rw [ga, Int.toNat_natCast]
          exact h.give ws hu2 a8 a0 (by omega) wm.2 (by omega) (by omega)
  · rw [if_neg y]; exact h.mono
/-- the class's judging -/
theorem S_dayGo {d : Nat} {Q : MV → Wd → Prop} {w : Wd} {s nms : Nat → Int} (rv0 : RV (w 4) (w 5) (w 6) (w 7) (w 8) (w 9) (w 10) (w 11) (w 12) (w 13) (w 14) (w 15) s nms) (rp : RP (w 28) (w 29) (w 30) (w 31) s) (ws : WS s) (wp : WP s)
    (k : ∀ w' o, CDy w w' s (goD s (s 333).toNat 0 D0) → w' 132 1 = goY s (s 333).toNat 0 D0 → (∀ j, j ≠ 5 → j ≠ 7 → o j = w' 132 j) → BitsI (o 5) (s 2).toNat (spP s (goD s (s 333).toNat 0 D0)) → BitsI (o 7) (s 2).toNat (usP s (goD s (s 333).toNat 0 D0)) → Q (mI (if goY s (s 333).toNat 0 D0 = 0 then -1 else (goI s (s 333).toNat 0 D0 : Nat))) (ubf w' 132 o)) : Cw (d + 12) 106 [mR 132, mR 4, mR 28] w Q := by
  have ac := wp.acts
  apply Day_go_132_4_28_en
  intro n1
  refine S_dayBegin (d := d + 9) rv0 ws ?_
  intro w1 hC1 h11
  have h28 : ∀ w1 : Wd, Fr [132, 133, 134, 135, 136] w w1 → w1 28 = w 28 ∧ w1 29 = w 29 ∧ w1 30 = w 30 ∧ w1 31 = w 31 := fun w1 hF => ⟨hF 28 (by decide), hF 29 (by decide), hF 30 (by decide), hF 31 (by decide)⟩
  have lp : ∀ (r i : Nat) (D : DY) (w1 : Wd), i + r = (s 333).toNat → DOk s i D → CDy w w1 s D → w1 132 1 = 0 → goI s (s 333).toNat 0 D0 = goI s r i D → goY s (s 333).toNat 0 D0 = goY s r i D → goD s (s 333).toNat 0 D0 = goD s r i D → Wp (Cw (d + 11)) cd_Day_go (1, 0, n1) Q 5 [mR 132, mR 4, mR 28, mI i] [] w1 := by
    intro r
    induction r with
    | zero =>
      intro i D w1 hi hD hC h1 eI eY eD
      obtain ⟨f28, f29, f30, f31⟩ := h28 w1 hC.fr
      apply Day_go_132_4_28_c5
      rw [f28, rp.acts]
      refine ⟨fun _ => ?_, fun z => absurd (show s 333 ≤ (i : Int) by omega) z⟩
      refine S_dayClose (d := d + 6) rv0 ws hD hC ?_
      intro o ho b5 b7
      rw [eI, eY, eD] at k
      have k1 := k w1 o hC h1 ho b5 b7
      have e0 : goY s 0 i D = 0 := rfl
      rw [e0, if_pos rfl] at k1
      exact k1
    | succ r ih =>
      intro i D w1 hi hD hC h1 eI eY eD
      obtain ⟨f28, f29, f30, f31⟩ := h28 w1 hC.fr
      have i3 : (i : Int) < s 333 := by omega
      have r50 : 0 ≤ (i : Int) ∧ (i : Int) < 50 := by omega
      apply Day_go_132_4_28_c5
      rw [f28, f29, f30, f31, rp.acts, Int.toNat_natCast, rp.what i i3, rp.unit i i3, rp.whom i i3, ixs (k := i) (by omega)]
      refine ⟨fun z => by exfalso; omega, fun _ => ⟨r50, r50, r50, ?_⟩⟩
      refine S_doAct (d := d + 1) rv0 ws wp i3 hD hC _ _ rfl (fun _ => rfl) ?_
      intro w2 hC2
      have hD2 := hD.step ws wp i3
      refine ⟨_, rfl, fun z => ?_, fun z => ?_⟩
      · refine ih (i + 1) (doD s D i) _ (by omega) hD2 ?_ ?_ ?_ ?_ ?_
        · exact (CDy.mk (Fr.ub hC2.fr (by decide)) (by rw [ub_ap, if_pos rfl, if_neg (by decide)]; exact hC2.done) (by rw [ub_ap, if_pos rfl, if_neg (by decide)]; exact hC2.un) (by rw [ub_ap, if_pos rfl, if_neg (by decide)]; exact hC2.hour) (by rw [ub_ap, if_pos rfl, if_neg (by decide)]; exact hC2.met) (by rw [ub_ap, if_pos rfl, if_neg (by decide)]; exact hC2.pa) (hC2.who) (hC2.nth) (hC2.due) (hC2.had))
        · rw [ub_ap, if_pos rfl, if_pos rfl]; exact z
        · rw [eI]
          show (if doY s D i = 0 then goI s r (i + 1) (doD s D i) else i) = _
          rw [if_pos z]
        · rw [eY]
          show (if doY s D i = 0 then goY s r (i + 1) (doD s D i) else doY s D i) = _
          rw [if_pos z]
        · rw [eD]
          show (if doY s D i = 0 then goD s r (i + 1) (doD s D i) else D) = _
          rw [if_pos z]
      · have dn : doD s D i = D := by unfold doD; rw [if_neg z]
        rw [dn] at hC2
        have gI : goI s (s 333).toNat 0 D0 = i := by
          rw [eI]
          show (if doY s D i = 0 then goI s r (i + 1) (doD s D i) else i) = _
          rw [if_neg z]
        have gY : goY s (s 333).toNat 0 D0 = doY s D i := by
          rw [eY]
          show (if doY s D i = 0 then goY s r (i + 1) (doD s D i) else doY s D i) = _
          rw [if_neg z]
        have gD : goD s (s 333).toNat 0 D0 = D := by
          rw [eD]
          show (if doY s D i = 0 then goD s r (i + 1) (doD s D i) else D) = _
          rw [if_neg z]
        rw [gI, gY, gD] at k
        have hC3 : CDy w (ub w2 132 1 (doY s D i)) s D := (CDy.mk (Fr.ub hC2.fr (by decide)) (by rw [ub_ap, if_pos rfl, if_neg (by decide)]; exact hC2.done) (by rw [ub_ap, if_pos rfl, if_neg (by decide)]; exact hC2.un) (by rw [ub_ap, if_pos rfl, if_neg (by decide)]; exact hC2.hour) (by rw [ub_ap, if_pos rfl, if_neg (by decide)]; exact hC2.met) (by rw [ub_ap, if_pos rfl, if_neg (by decide)]; exact hC2.pa) (hC2.who) (hC2.nth) (hC2.due) (hC2.had))
        refine S_dayClose (d := d + 6) rv0 ws hD hC3 ?_
        intro o ho b5 b7
        have k1 := k _ o hC3 (by rw [ub_ap, if_pos rfl, if_pos rfl]) ho b5 b7
        rw [if_neg z] at k1
        exact k1
  exact lp (s 333).toNat 0 D0 w1 (by omega) (DOk.zero s) hC1 h11 rfl rfl rfl

/-- the reference's end of a day, units up to x shown -/
def JFy (w0 w : Wd) (s : Nat → Int) (D : DY) (y : Int) (x : Nat) : Prop := (MDy w0 w s D) ∧ (w 174 0 = y) ∧ (w 174 1 = D.H) ∧ (w 174 2 = D.M) ∧ (w 174 3 = D.P) ∧ (BitsI (w 174 4) x (spP s D)) ∧ (w 144 62 = s 2) ∧ (∀ u, u < x → w 175 (3 * u) = whoI s D u ∧ w 175 (3 * u + 1) = D.ma u ∧ w 175 (3 * u + 2) = if whU s D u = 0 then 1 else 0)
theorem JFy.mk {w0 w : Wd} {s : Nat → Int} {D : DY} {y : Int} {x : Nat} (md_ : MDy w0 w s D) (y0_ : w 174 0 = y) (y1_ : w 174 1 = D.H) (y2_ : w 174 2 = D.M) (y3_ : w 174 3 = D.P) (y4_ : BitsI (w 174 4) x (spP s D)) (un_ : w 144 62 = s 2) (sh_ : ∀ u, u < x → w 175 (3 * u) = whoI s D u ∧ w 175 (3 * u + 1) = D.ma u ∧ w 175 (3 * u + 2) = if whU s D u = 0 then 1 else 0) : JFy w0 w s D y x := And.intro md_ (And.intro y0_ (And.intro y1_ (And.intro y2_ (And.intro y3_ (And.intro y4_ (And.intro un_ (sh_)))))))
theorem JFy.md {w0 w : Wd} {s : Nat → Int} {D : DY} {y : Int} {x : Nat} (h_ : JFy w0 w s D y x) : MDy w0 w s D := h_.1
theorem JFy.y0 {w0 w : Wd} {s : Nat → Int} {D : DY} {y : Int} {x : Nat} (h_ : JFy w0 w s D y x) : w 174 0 = y := h_.2.1
theorem JFy.y1 {w0 w : Wd} {s : Nat → Int} {D : DY} {y : Int} {x : Nat} (h_ : JFy w0 w s D y x) : w 174 1 = D.H := h_.2.2.1
theorem JFy.y2 {w0 w : Wd} {s : Nat → Int} {D : DY} {y : Int} {x : Nat} (h_ : JFy w0 w s D y x) : w 174 2 = D.M := h_.2.2.2.1
theorem JFy.y3 {w0 w : Wd} {s : Nat → Int} {D : DY} {y : Int} {x : Nat} (h_ : JFy w0 w s D y x) : w 174 3 = D.P := h_.2.2.2.2.1
theorem JFy.y4 {w0 w : Wd} {s : Nat → Int} {D : DY} {y : Int} {x : Nat} (h_ : JFy w0 w s D y x) : BitsI (w 174 4) x (spP s D) := h_.2.2.2.2.2.1
theorem JFy.un {w0 w : Wd} {s : Nat → Int} {D : DY} {y : Int} {x : Nat} (h_ : JFy w0 w s D y x) : w 144 62 = s 2 := h_.2.2.2.2.2.2.1
theorem JFy.sh {w0 w : Wd} {s : Nat → Int} {D : DY} {y : Int} {x : Nat} (h_ : JFy w0 w s D y x) : ∀ u, u < x → w 175 (3 * u) = whoI s D u ∧ w 175 (3 * u + 1) = D.ma u ∧ w 175 (3 * u + 2) = if whU s D u = 0 then 1 else 0 := h_.2.2.2.2.2.2.2
theorem MDy.up {w0 w : Wd} {s : Nat → Int} {D : DY} (h : MDy w0 w s D) {c i : Nat} (v : Int) (hc : c = 174 ∨ c = 175 ∨ c = 144 ∧ i = 62) : MDy w0 (ub w c i v) s D := by
  have h1 : ∀ c', c' ≠ c → ub w c i v c' = w c' := fun c' q => ub_ne i v q
  have h144 : ∀ j, j ≠ 62 → ub w c i v 144 j = w 144 j := fun j hj => by
    rw [ub_ap]
    by_cases q : 144 = c
    · rw [if_pos q, if_neg (by omega), ← q]
    · rw [if_neg q]
  refine (MDy.mk (Fr.ub h.fr (by rcases hc with q | q | q <;> (try (rw [q]; decide)) ; rw [q.1]; decide)) (fun j hj => ?_) (by rw [h1 146 (by omega)]; exact h.es) (by rw [h144 59 (by decide)]; exact h.hour) (by rw [h144 60 (by decide)]; exact h.met) (by rw [h144 61 (by decide)]; exact h.pa) (by rw [h1 169 (by omega)]; exact h.ho) (by rw [h1 170 (by omega)]; exact h.ma) (by rw [h1 171 (by omega)]; exact h.due) (by rw [h1 172 (by omega)]; exact h.hd) (by rw [h1 173 (by omega)]; exact h.tw))
  simp only [List.mem_cons, List.not_mem_nil, or_false, not_or] at hj
  rw [h144 j (by omega)]
  exact h.oth j (by simp only [List.mem_cons, List.not_mem_nil, or_false, not_or]; omega)
theorem JFy.step {w0 w : Wd} {s : Nat → Int} {D : DY} {y : Int} {x : Nat} (h : JFy w0 w s D y x) {A B C : Int} (hx : x < 16) (hA : A = ior (w 174 4) (ishl 1 (x : Int)) ∧ spP s D x ∨ A = ior (w 174 4) 0 ∧ ¬ spP s D x) (hB : B = whoI s D x) (hC : C = if whU s D x = 0 then 1 else 0) : JFy w0 (ub (ub (ub (ub w 174 4 A) 175 (3 * x) B) 175 (3 * x + 1) (D.ma x : Nat)) 175 (3 * x + 2) C) s D y (x + 1) := by
  refine (JFy.mk ?_ ?_ ?_ ?_ ?_ ?_ (h.un) (fun u hu => ?_))
  · exact (((h.md.up A (Or.inl rfl)).up B (Or.inr (Or.inl rfl))).up _ (Or.inr (Or.inl rfl))).up C (Or.inr (Or.inl rfl))
  · show up1 (w 174) 4 A 0 = y
    rw [up1_ap, if_neg (by decide)]; exact h.y0
  · show up1 (w 174) 4 A 1 = _
    rw [up1_ap, if_neg (by decide)]; exact h.y1
  · show up1 (w 174) 4 A 2 = _
    rw [up1_ap, if_neg (by decide)]; exact h.y2
  · show up1 (w 174) 4 A 3 = _
    rw [up1_ap, if_neg (by decide)]; exact h.y3
  · show BitsI (up1 (w 174) 4 A 4) (x + 1) (spP s D)
    rw [up1_ap, if_pos rfl]
    rcases hA with ⟨ha, hs⟩ | ⟨ha, hs⟩
    · rw [ha]; exact h.y4.yes (by omega) hs
    · rw [ha]; exact h.y4.no hs
  · show up1 (up1 (up1 (w 175) (3 * x) B) (3 * x + 1) (D.ma x : Nat)) (3 * x + 2) C (3 * u) = _ ∧ up1 (up1 (up1 (w 175) (3 * x) B) (3 * x + 1) (D.ma x : Nat)) (3 * x + 2) C (3 * u + 1) = _ ∧ up1 (up1 (up1 (w 175) (3 * x) B) (3 * x + 1) (D.ma x : Nat)) (3 * x + 2) C (3 * u + 2) = _
    simp only [up1_ap]
    by_cases q : u = x
    · subst q
      rw [if_neg (by omega), if_neg (by omega), if_pos rfl, if_neg (by omega), if_pos rfl, if_pos rfl]; exact ⟨hB, rfl, hC⟩
    · rw [if_neg (by omega), if_neg (by omega), if_neg (by omega), if_neg (by omega), if_neg (by omega), if_neg (by omega), if_neg (by omega), if_neg (by omega), if_neg (by omega)]; exact h.sh u (by omega)
theorem L_judge105 {d : Nat} {n1 : Int} {Q : MV → Wd → Prop} {w0 : Wd} {s : Nat → Int} {D : DY} {i : Nat} (ws : WS s) (hD : DOk s i D) (y : Int) (it : Int)
    (k : ∀ w', JFy w0 w' s D y (s 2).toNat → Q (mI (if y ≤ 0 then -1 else it)) w') :
    ∀ (r x : Nat) (w : Wd), x + r = (s 2).toNat → JFy w0 w s D y x → Wp (Cw (d + 4)) cd_M_judge (1, 0, n1) Q 105 [mR 144, mI y, mI it, mI x] [] w := by
  have un := ws.un
  intro r
  induction r with
  | zero =>
    intro x w hx hJ
    have e : x = (s 2).toNat := by omega
    subst e
    have k1 := k w hJ
    apply M_judge_144_c105
    rw [hJ.md.es]
    refine ⟨fun _ => ⟨fun z => ?_, fun z => ?_⟩, fun z => absurd (show s 2 ≤ (((s 2).toNat : Nat) : Int) by omega) z⟩
    · rw [if_pos z] at k1; exact k1
    · rw [if_neg z] at k1; exact k1
  | succ r ih =>
    intro x w hx hJ
    have x2 : (x : Int) < s 2 := by omega
    obtain ⟨ks, lf, md, e30, e23, e33, ks6, lf1, lf48, md47, esp⟩ := spS_ref ws x2
    have r16 : 0 ≤ (x : Int) ∧ (x : Int) < 16 := by omega
    have q0 : 0 ≤ ((3 * x : Nat) : Int) ∧ ((3 * x : Nat) : Int) < 48 := by omega
    have q1 : 0 ≤ ((3 * x + 1 : Nat) : Int) ∧ ((3 * x + 1 : Nat) : Int) < 48 := by omega
    have q2 : 0 ≤ ((3 * x + 2 : Nat) : Int) ∧ ((3 * x + 2 : Nat) : Int) < 48 := by omega
    have leaf : ∀ A B : Int, (A = ior (w 174 4) (ishl 1 (x : Int)) ∧ spP s D x ∨ A = ior (w 174 4) 0 ∧ ¬ spP s D x) → B = whoI s D x → Cw (d + 4) 239 [mR 144, mI (x : Int)] (ub (ub (ub w 174 4 A) 175 (3 * x) B) 175 (3 * x + 1) (D.ma x : Nat)) (fun r v6 => ∃ r7 : Int, r = mI r7 ∧ ((¬ r7 = 0 → ((0 ≤ ((3 * x + 2 : Nat) : Int) ∧ ((3 * x + 2 : Nat) : Int) < 48) ∧ Wp (Cw (d + 4)) cd_M_judge (1, 0, n1) Q 105 [mR 144, mI y, mI it, mI (x + 1 : Nat)] [] (ub v6 175 (3 * x + 2) 0))) ∧ (¬ (¬ r7 = 0) → ((0 ≤ ((3 * x + 2 : Nat) : Int) ∧ ((3 * x + 2 : Nat) : Int) < 48) ∧ Wp (Cw (d + 4)) cd_M_judge (1, 0, n1) Q 105 [mR 144, mI y, mI it, mI (x + 1 : Nat)] [] (ub v6 175 (3 * x + 2) 1))))) := by
      intro A B hA hB
      refine S_whyNoUse (d := d) ws (((hJ.md.up A (Or.inl rfl)).up B (Or.inr (Or.inl rfl))).up _ (Or.inr (Or.inl rfl))) hD.hM x x2 ?_
      refine ⟨_, rfl, fun z => ⟨q2, ?_⟩, fun z => ⟨q2, ?_⟩⟩
      · exact ih (x + 1) _ (by omega) (hJ.step (by omega) hA hB (by rw [if_neg z]))
      · exact ih (x + 1) _ (by omega) (hJ.step (by omega) hA hB (by rw [if_pos (Classical.not_not.mp z)]))
    apply M_judge_144_c105
    rw [hJ.md.es, Int.toNat_natCast, hJ.md.ho x x2, hJ.md.ma x x2, ixu_2 (by omega), ixu_1 (by omega), ixu_4 (by omega), ix3_1 (by omega), ix3_2 (by omega), ix3_0 (by omega), Int.toNat_natCast, Int.toNat_natCast, Int.toNat_natCast, Int.toNat_natCast, Int.toNat_natCast, Int.toNat_natCast, e30, ixa_23 (by omega), Int.toNat_natCast, e23, e33, hJ.md.hour, w32_id (x := (md : Int) + lf) (by unfold in32; omega), ixs (k := x) (by omega)]
    have a31 : 0 ≤ ((31 + 5 * x : Nat) : Int) ∧ ((31 + 5 * x : Nat) : Int) < 645 := by omega
    have sp0 : ¬ spP s D x → ior (w 174 4) 0 = ior (w 174 4) (ishl 1 (x : Int)) ∧ spP s D x ∨ ior (w 174 4) 0 = ior (w 174 4) 0 ∧ ¬ spP s D x := fun z => Or.inr ⟨rfl, z⟩
    have sp1 : spP s D x → ior (w 174 4) (ishl 1 (x : Int)) = ior (w 174 4) (ishl 1 (x : Int)) ∧ spP s D x ∨ ior (w 174 4) (ishl 1 (x : Int)) = ior (w 174 4) 0 ∧ ¬ spP s D x := fun z => Or.inl ⟨rfl, z⟩
    have wh2 : D.ho x = -2 → (-1 : Int) = whoI s D x := fun z => by unfold whoI; rw [if_pos z]
    have wh1 : ¬ D.ho x = -2 → 0 ≤ D.ho x → D.ho x = whoI s D x := fun z z2 => by unfold whoI; rw [if_neg z, if_neg (by omega)]
    have wh0 : ¬ D.ho x = -2 → ¬ 0 ≤ D.ho x → s (31 + 5 * x) = whoI s D x := fun z z2 => by unfold whoI; rw [if_neg z, if_pos (by omega)]
    refine ⟨fun z => by exfalso; omega, fun _ => ⟨r16, fun z1 => ⟨r16, fun z2 => absurd z1 z2, fun _ => ⟨q0, r16, q1, leaf _ _ (sp0 (fun q => q.1 z1)) (wh2 z1)⟩⟩, fun z1 => ⟨by omega, by omega, by omega, fun z2 => ⟨r16, fun _ => ⟨r16, fun z4 => ⟨r16, q0, r16, q1, leaf _ _ (sp0 (fun q => ?_)) (wh1 z1 z4)⟩, fun z4 => ⟨a31, q0, r16, q1, leaf _ _ (sp0 (fun q => ?_)) (wh0 z1 z4)⟩⟩, fun z3 => absurd z1 z3⟩, fun z2 => ⟨r16, fun _ => ⟨r16, fun z4 => ⟨r16, q0, r16, q1, leaf _ _ (sp1 ⟨z1, ?_⟩) (wh1 z1 z4)⟩, fun z4 => ⟨a31, q0, r16, q1, leaf _ _ (sp1 ⟨z1, ?_⟩) (wh0 z1 z4)⟩⟩, fun z3 => absurd z1 z3⟩⟩⟩⟩
    · have := q.2; omega
    · have := q.2; omega
    · omega
    · omega
theorem doY_nn (s : Nat → Int) (D : DY) (i : Nat) : 0 ≤ doY s D i := by
  unfold doY
  have h1 := whN_cases s D (s (335 + 3 * i)).toNat
  have h2 := whU_cases s D (s (335 + 3 * i)).toNat
  by_cases a : s (334 + 3 * i) = 2
  · rw [if_pos a]
    by_cases b : 47 < D.H + s (335 + 3 * i)
    · rw [if_pos b]; omega
    · rw [if_neg b]; omega
  · rw [if_neg a]
    by_cases b : s (334 + 3 * i) = 1
    · rw [if_pos b]; omega
    · rw [if_neg b]
      by_cases c : 0 < whN s D (s (335 + 3 * i)).toNat
      · rw [if_pos c]; omega
      · rw [if_neg c]
        by_cases e : gvD s (s (335 + 3 * i)).toNat (D.ho (s (335 + 3 * i)).toNat) (s (336 + 3 * i)).toNat < 0
        · rw [if_pos e]; omega
        · rw [if_neg e]
          by_cases f : fbD s D (s (335 + 3 * i)).toNat (gvD s (s (335 + 3 * i)).toNat (D.ho (s (335 + 3 * i)).toNat) (s (336 + 3 * i)).toNat).toNat (s (336 + 3 * i)).toNat = true
          · rw [if_pos f]; omega
          · rw [if_neg f]; omega
theorem S_mJudge {d : Nat} {Q : MV → Wd → Prop} {w : Wd} (ws : WS (w 146)) (wp : WP (w 146))
    (k : ∀ w', JFy (ub w 144 0 0) w' (w 146) (goD (w 146) (w 146 333).toNat 0 D0) (goY (w 146) (w 146 333).toNat 0 D0) (w 146 2).toNat → Q (mI (if goY (w 146) (w 146 333).toNat 0 D0 ≤ 0 then -1 else (goI (w 146) (w 146 333).toNat 0 D0 : Nat))) w') : Cw (d + 8) 237 [mR 144] w Q := by
  have ac := wp.acts
  generalize hs : w 146 = s at *
  apply M_judge_144_en
  intro n1
  -- the end
  have fin : ∀ (i : Nat) (D : DY) (w1 : Wd) (y : Int), DOk s i D → MDy (ub w 144 0 0) w1 s D → goI s (s 333).toNat 0 D0 = i → goY s (s 333).toNat 0 D0 = y → goD s (s 333).toNat 0 D0 = D → Wp (Cw (d + 7)) cd_M_judge (1, 0, n1) Q 105 [mR 144, mI y, mI i, mI 0] [] (ub (ub (ub (ub (ub (ub w1 174 0 y) 174 1 (w1 144 59)) 174 2 (w1 144 60)) 174 3 (w1 144 61)) 174 4 0) 144 62 (w1 146 2)) := by
    intro i D w1 y hD hC eI eY eD
    rw [eI, eY, eD] at k
    refine L_judge105 (d := d + 3) (w0 := ub w 144 0 0) ws hD y (i : Int) k (s 2).toNat 0 _ (by omega) ?_
    refine (JFy.mk ?_ ?_ ?_ ?_ ?_ ?_ ?_ (fun u hu => absurd hu (Nat.not_lt_zero _)))
    · exact (((((hC.up _ (Or.inl rfl)).up _ (Or.inl rfl)).up _ (Or.inl rfl)).up _ (Or.inl rfl)).up _ (Or.inl rfl)).up _ (Or.inr (Or.inr ⟨rfl, rfl⟩))
    · show up1 (up1 (up1 (up1 (up1 (w1 174) 0 y) 1 (w1 144 59)) 2 (w1 144 60)) 3 (w1 144 61)) 4 0 0 = y
      simp (decide := true) only [up1_ap, if_true, if_false]
    · show up1 (up1 (up1 (up1 (up1 (w1 174) 0 y) 1 (w1 144 59)) 2 (w1 144 60)) 3 (w1 144 61)) 4 0 1 = _
      simp (decide := true) only [up1_ap, if_true, if_false]
      exact hC.hour
    · show up1 (up1 (up1 (up1 (up1 (w1 174) 0 y) 1 (w1 144 59)) 2 (w1 144 60)) 3 (w1 144 61)) 4 0 2 = _
      simp (decide := true) only [up1_ap, if_true, if_false]
      exact hC.met
    · show up1 (up1 (up1 (up1 (up1 (w1 174) 0 y) 1 (w1 144 59)) 2 (w1 144 60)) 3 (w1 144 61)) 4 0 3 = _
      simp (decide := true) only [up1_ap, if_true, if_false]
      exact hC.pa
    · show BitsI (up1 (up1 (up1 (up1 (up1 (w1 174) 0 y) 1 (w1 144 59)) 2 (w1 144 60)) 3 (w1 144 61)) 4 0 4) 0 (spP s D)
      rw [up1_ap, if_pos rfl]; exact BitsI.zero _
    · rw [ub_ap, if_pos rfl, if_pos rfl, hC.es]
  have l48 : ∀ (r i : Nat) (D : DY) (w1 : Wd), i + r = (s 333).toNat → DOk s i D → MDy (ub w 144 0 0) w1 s D → goI s (s 333).toNat 0 D0 = goI s r i D → goY s (s 333).toNat 0 D0 = goY s r i D → goD s (s 333).toNat 0 D0 = goD s r i D → Wp (Cw (d + 7)) cd_M_judge (1, 0, n1) Q 48 [mR 144, mI 0, mI i, none] [] w1 := by
    intro r
    induction r with
    | zero =>
      intro i D w1 hi hD hC eI eY eD
      apply M_judge_144_c48
      rw [show w1 146 333 = s 333 from by rw [hC.es]]
      exact ⟨fun _ => fin i D w1 0 hD hC eI eY eD, fun z => absurd (show s 333 ≤ (i : Int) by omega) z⟩
    | succ r ih =>
      intro i D w1 hi hD hC eI eY eD
      have i3 : (i : Int) < s 333 := by omega
      apply M_judge_144_c48
      rw [show w1 146 333 = s 333 from by rw [hC.es]]
      refine ⟨fun z => absurd z (by omega), fun _ => ⟨fun z => absurd rfl z, fun _ => ?_⟩⟩
      refine S_does (d := d + 2) ws wp i3 hD hC ?_
      intro w2 hC2
      rw [ixs (k := i) (by omega)]
      refine ⟨_, rfl, fun z => ?_, fun z => ?_⟩
      · rw [w32_id (x := (i : Int) + 0) (by unfold in32; omega), Int.add_zero]
        have dn : doD s D i = D := by unfold doD; rw [if_neg z]
        rw [dn] at hC2
        have gI : goI s (s 333).toNat 0 D0 = i := by
          rw [eI]
          show (if doY s D i = 0 then goI s r (i + 1) (doD s D i) else i) = _
          rw [if_neg z]
        have gY : goY s (s 333).toNat 0 D0 = doY s D i := by
          rw [eY]
          show (if doY s D i = 0 then goY s r (i + 1) (doD s D i) else doY s D i) = _
          rw [if_neg z]
        have gD : goD s (s 333).toNat 0 D0 = D := by
          rw [eD]
          show (if doY s D i = 0 then goD s r (i + 1) (doD s D i) else D) = _
          rw [if_neg z]
        have f := fin i D w2 (doY s D i) hD hC2 gI gY gD
        apply M_judge_144_c48
        rw [show w2 146 333 = s 333 from by rw [hC2.es]]
        exact ⟨fun _ => f, fun _ => ⟨fun _ => f, fun q => absurd z q⟩⟩
      · have z := Classical.not_not.mp z
        rw [z]
        refine ih (i + 1) (doD s D i) w2 (by omega) (hD.step ws wp i3) hC2 ?_ ?_ ?_
        · rw [eI]
          show (if doY s D i = 0 then goI s r (i + 1) (doD s D i) else i) = _
          rw [if_pos z]
        · rw [eY]
          show (if doY s D i = 0 then goY s r (i + 1) (doD s D i) else doY s D i) = _
          rw [if_pos z]
        · rw [eD]
          show (if doY s D i = 0 then goD s r (i + 1) (doD s D i) else D) = _
          rw [if_pos z]
  have l5 : ∀ (r x : Nat) (w1 : Wd), x + r = 16 → Fr [169, 170, 171, 172, 173] (ub w 144 0 0) w1 → (∀ u, u < x → w1 169 u = -1 ∧ w1 170 u = 1 ∧ w1 171 u = 0 ∧ w1 172 u = 0 ∧ w1 173 u = 0) → Wp (Cw (d + 7)) cd_M_judge (1, 0, n1) Q 5 [mR 144, mI x, none, none] [] w1 := by
    intro r
    induction r with
    | zero =>
      intro x w1 hx hF hu
      apply M_judge_144_c5
      refine ⟨fun _ => ?_, fun z => by exfalso; omega⟩
      have un := ws.un
      refine l48 (s 333).toNat 0 D0 _ (by omega) (DOk.zero s) ?_ rfl rfl rfl
      refine (MDy.mk (Fr.ub (Fr.ub (Fr.ub (fun c hc => hF c (fun q => hc ?_)) (by decide)) (by decide)) (by decide)) (fun i hi => ?_) ?_ ?_ ?_ ?_ (fun u hu' => ?_) (fun u hu' => ?_) (fun u hu' => ?_) (fun u hu' => ?_) (fun u hu' => ?_))
      · simp only [List.mem_cons, List.not_mem_nil, or_false] at q ⊢
        omega
      · simp only [List.mem_cons, List.not_mem_nil, or_false, not_or] at hi
        show up1 (up1 (up1 (w1 144) 59 0) 60 0) 61 0 i = _
        rw [up1_ap, if_neg (by omega), up1_ap, if_neg (by omega), up1_ap, if_neg (by omega), hF 144 (by decide)]
      · show w1 146 = s
        rw [hF 146 (by decide)]; exact hs
      · rfl
      · rfl
      · rfl
      · exact (hu u (by omega)).1
      · exact (hu u (by omega)).2.1
      · exact (hu u (by omega)).2.2.1
      · exact (hu u (by omega)).2.2.2.1
      · exact (hu u (by omega)).2.2.2.2
    | succ r ih =>
      intro x w1 hx hF hu
      have r16 : 0 ≤ (x : Int) ∧ (x : Int) < 16 := by omega
      apply M_judge_144_c5
      rw [Int.toNat_natCast, ixs (k := x) (by omega)]
      refine ⟨fun z => by exfalso; omega, fun _ => ⟨r16, r16, r16, r16, r16, ?_⟩⟩
      refine ih (x + 1) _ (by omega) (Fr.ub (Fr.ub (Fr.ub (Fr.ub (Fr.ub hF (by decide)) (by decide)) (by decide)) (by decide)) (by decide)) (fun u hu' => ?_)
      show up1 (w1 169) x (-1) u = -1 ∧ up1 (w1 170) x 1 u = 1 ∧ up1 (w1 171) x 0 u = 0 ∧ up1 (w1 172) x 0 u = 0 ∧ up1 (w1 173) x 0 u = 0
      simp only [up1_ap]
      by_cases q : u = x
      · simp only [if_pos q]; exact ⟨trivial, trivial, trivial, trivial, trivial⟩
      · simp only [if_neg q]; exact hu u (by omega)
  exact l5 16 0 (ub w 144 0 0) (by omega) (Fr.rfl' _ _) (fun u hu => absurd hu (Nat.not_lt_zero _))
theorem goY_nn (s : Nat → Int) : ∀ (m i : Nat) (D : DY), 0 ≤ goY s m i D
  | 0, _, _ => by show (0 : Int) ≤ 0; omega
  | m + 1, i, D => by
    show 0 ≤ (if doY s D i = 0 then goY s m (i + 1) (doD s D i) else doY s D i)
    by_cases z : doY s D i = 0
    · rw [if_pos z]; exact goY_nn s m (i + 1) _
    · rw [if_neg z]; exact doY_nn s D i
theorem P_judge {d : Nat} {w : Wd} (h : Inv w) : Pair (d + 30) 105 237 [] w := by
  unfold Pair
  have un := h.ws.un
  apply X_judge_0_en
  refine S_dayGo (d := d + 17) h.rv h.rp h.ws h.wp ?_
  intro w1 o hC h1 ho b5 b7
  refine ⟨_, rfl, ?_⟩
  (apply Mid.k)
  have e146 : (ubf w1 132 o) 146 = w 146 := hC.fr 146 (by decide)
  refine S_mJudge (d := d + 22) (w := ubf w1 132 o) (by rw [e146]; exact h.ws) (by rw [e146]; exact h.wp) ?_
  rw [e146]
  intro w2 hJ
  have nn := goY_nn (w 146) (w 146 333).toNat 0 D0
  generalize goY (w 146) (w 146 333).toNat 0 D0 = y at *
  generalize goD (w 146) (w 146 333).toNat 0 D0 = D at *
  generalize goI (w 146) (w 146 333).toNat 0 D0 = it at *
  have f2 : ∀ c, c ∉ [144, 169, 170, 171, 172, 173, 174, 175] → w2 c = (ubf w1 132 o) c := fun c hc => by
    rw [hJ.md.fr c hc]
    refine ub_ne _ _ ?_
    intro q; subst q; exact hc (by decide)
  have f1 : ∀ c, c ∉ [132, 133, 134, 135, 136, 144, 169, 170, 171, 172, 173, 174, 175] → w2 c = w c := fun c hc => by
    simp only [List.mem_cons, List.not_mem_nil, or_false, not_or] at hc
    rw [f2 c (by simp only [List.mem_cons, List.not_mem_nil, or_false, not_or]; omega), ubf_ne _ (by omega)]
    exact hC.fr c (by simp only [List.mem_cons, List.not_mem_nil, or_false, not_or]; omega)
  have e132 : w2 132 = o := by rw [f2 132 (by decide), ubf_self]
  have e133 : w2 133 = w1 133 := f2 133 (by decide)
  have e134 : w2 134 = w1 134 := f2 134 (by decide)
  have o144 : ∀ i, i ∉ [0, 59, 60, 61, 62] → w2 144 i = w 144 i := fun i hi => by
    simp only [List.mem_cons, List.not_mem_nil, or_false, not_or] at hi
    rw [hJ.md.oth i (by simp only [List.mem_cons, List.not_mem_nil, or_false, not_or]; omega), ub_ap, if_pos rfl, if_neg (by omega)]
    show w1 144 i = _
    rw [hC.fr 144 (by decide)]
  have hv : (if y ≤ 0 then (-1 : Int) else (it : Int)) = (if y = 0 then (-1 : Int) else (it : Int)) := by
    by_cases q : y = 0
    · rw [if_pos q, if_pos (by omega)]
    · rw [if_neg q, if_neg (by omega)]
  refine Post.k hv (Inv.g_day h (fun c hc => ?_) (fun i hi => ?_) ?_ ?_ ?_) ?_ ?_
  · refine f1 c (fun q => hc ?_)
    have sub : ∀ c, c ∈ [132, 133, 134, 135, 136, 144, 169, 170, 171, 172, 173, 174, 175] → c ∈ ([132, 133, 134, 174, 175] ++ scrR) := by decide
    exact sub c q
  · simp only [List.mem_cons, List.not_mem_nil, or_false] at hi
    exact o144 i (by simp only [List.mem_cons, List.not_mem_nil, or_false, not_or]; omega)
  · right
    rw [e132, ho 0 (by decide) (by decide), ho 6 (by decide) (by decide), hC.done, hC.un, hJ.un]
    exact ⟨rfl, un.1, un.2, rfl⟩
  · intro _
    rw [e132, ho 1 (by decide) (by decide), ho 2 (by decide) (by decide), ho 3 (by decide) (by decide), ho 4 (by decide) (by decide), h1, hC.hour, hC.met, hC.pa, hJ.y0, hJ.y1, hJ.y2, hJ.y3]
    exact ⟨rfl, rfl, rfl, rfl, BitsI.uniq b5 hJ.y4⟩
  · intro _ u hu
    rw [hJ.un] at hu
    obtain ⟨s1, s2, s3⟩ := hJ.sh u (by omega)
    rw [e132, e133, e134, hC.who u hu, hC.nth u hu, s1, s2, s3]
    refine ⟨rfl, rfl, ?_⟩
    rw [hasbit _ (show u < 32 by omega)]
    have g := b7.2 u (by omega)
    by_cases q : whU (w 146) D u = 0
    · rw [if_pos q, if_pos (g.mpr ⟨by omega, q⟩)]
    · rw [if_neg q, if_neg (fun z => q (g.mp z).2)]
  · exact f1 401 (by decide)
  · exact f1 400 (by decide)

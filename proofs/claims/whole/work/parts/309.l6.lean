theorem ix334 {i : Nat} (h : i < 100) : w32 (334 + w32 (3 * (i : Int))) = ((334 + 3 * i : Nat) : Int) := by
  rw [w32_id (x := 3 * (i : Int)) (by unfold in32; omega), w32_id (by unfold in32; omega)]; omega
theorem ix334_1 {i : Nat} (h : i < 100) : w32 (w32 (334 + w32 (3 * (i : Int))) + 1) = ((335 + 3 * i : Nat) : Int) := by
  rw [ix334 h, w32_id (by unfold in32; omega)]; omega
theorem ix334_2 {i : Nat} (h : i < 100) : w32 (w32 (334 + w32 (3 * (i : Int))) + 2) = ((336 + 3 * i : Nat) : Int) := by
  rw [ix334 h, w32_id (by unfold in32; omega)]; omega
theorem ix3_0 {i : Nat} (h : i < 100) : w32 (3 * (i : Int)) = ((3 * i : Nat) : Int) := by
  rw [w32_id (by unfold in32; omega)]; omega
theorem ix3_1 {i : Nat} (h : i < 100) : w32 (w32 (3 * (i : Int)) + 1) = ((3 * i + 1 : Nat) : Int) := by
  rw [ix3_0 h, w32_id (by unfold in32; omega)]; omega
theorem ix3_2 {i : Nat} (h : i < 100) : w32 (w32 (3 * (i : Int)) + 2) = ((3 * i + 2 : Nat) : Int) := by
  rw [ix3_0 h, w32_id (by unfold in32; omega)]; omega
theorem MDy.wait {w0 w : Wd} {s : Nat → Int} {D : DY} (h : MDy w0 w s D) (b : Nat) : MDy w0 (ub w 144 59 ((D.H + b : Nat) : Int)) s (wtD D b) := by
  refine (MDy.mk (Fr.ub h.fr (by decide)) (fun i hi => ?_) (h.es) ?_ ?_ ?_ (h.ho) (h.ma) (h.due) (h.hd) (h.tw))
  · simp only [List.mem_cons, List.not_mem_nil, or_false, not_or] at hi
    rw [ub_ap, if_pos rfl, if_neg (by omega)]
    exact h.oth i (by simp only [List.mem_cons, List.not_mem_nil, or_false, not_or]; omega)
  · rw [ub_ap, if_pos rfl, if_pos rfl]; rfl
  · rw [ub_ap, if_pos rfl, if_neg (by decide)]; exact h.met
  · rw [ub_ap, if_pos rfl, if_neg (by decide)]; exact h.pa
theorem MDy.use {w0 w : Wd} {s : Nat → Int} {D : DY} (h : MDy w0 w s D) {x v : Nat} (hM : D.M < 256) (hv : v < 8) : MDy w0 (ub (ub (ub w 144 60 (ior (w 144 60) (ishl 1 (v : Int)))) 169 x (-2)) 170 x 0) s (usD D x v) := by
  refine (MDy.mk (Fr.ub (Fr.ub (Fr.ub h.fr (by decide)) (by decide)) (by decide)) (fun i hi => ?_) (h.es) ?_ ?_ ?_ (fun u hu => ?_) (fun u hu => ?_) (h.due) (h.hd) (h.tw))
  · simp only [List.mem_cons, List.not_mem_nil, or_false, not_or] at hi
    show up1 (w 144) 60 (ior (w 144 60) (ishl 1 (v : Int))) i = _
    rw [up1_ap, if_neg (by omega)]
    exact h.oth i (by simp only [List.mem_cons, List.not_mem_nil, or_false, not_or]; omega)
  · show up1 (w 144) 60 (ior (w 144 60) (ishl 1 (v : Int))) 59 = _
    rw [up1_ap, if_neg (by decide)]; exact h.hour
  · show up1 (w 144) 60 (ior (w 144 60) (ishl 1 (v : Int))) 60 = ((D.M ||| 2 ^ v : Nat) : Int)
    have := two8 hv
    rw [up1_ap, if_pos rfl, h.met, ishl1 (by omega), ior_nat (by omega) (by omega)]
  · show up1 (w 144) 60 (ior (w 144 60) (ishl 1 (v : Int))) 61 = _
    rw [up1_ap, if_neg (by decide)]; exact h.pa
  · show up1 (w 169) x (-2) u = upN D.ho x (-2) u
    rw [up1_ap, upN_ap]
    by_cases q : u = x
    · rw [if_pos q, if_pos q]
    · rw [if_neg q, if_neg q]; exact h.ho u hu
  · show up1 (w 170) x 0 u = ((upN D.ma x 0 u : Nat) : Int)
    rw [up1_ap, upN_ap]
    by_cases q : u = x
    · rw [if_pos q, if_pos q]; rfl
    · rw [if_neg q, if_neg q]; exact h.ma u hu
theorem MDy.give {w0 w : Wd} {s : Nat → Int} {D : DY} (ws : WS s) (h : MDy w0 w s D) {x a to : Nat} (hx : (x : Int) < s 2) (hd : D.hd x < 256) (htw : D.tw x < 1024) (ha : a < 8) (hto : to < 8) (hm : D.ma x ≤ 60) (hH : D.H ≤ 47) (hP : D.P ≤ 10000) : MDy w0 (ub (ub (ub (ub (ub (ub w 172 x (ior ((D.hd x : Nat) : Int) (ior (ishl 1 (a : Int)) (ishl 1 (to : Int))))) 173 x (ior ((D.tw x : Nat) : Int) (ior (ishl 1 (s (7 + a))) (ishl 1 (s (7 + to)))))) 169 x (to : Int)) 170 x (w32 ((D.ma x : Int) + 1))) 171 x (w32 ((D.H : Int) + s (205 + (8 * a + to))))) 144 61 (w32 ((D.P : Int) + s (141 + (8 * a + to))))) s (giD s D x a to) := by
  have ho := ws.hou (8 * a + to) (by omega)
  have pa := ws.pai (8 * a + to) (by omega)
  have ta := ws.town a ha
  have tt := ws.town to hto
  obtain ⟨ta', hta⟩ := Int.eq_ofNat_of_zero_le ta.1
  obtain ⟨tt', htt⟩ := Int.eq_ofNat_of_zero_le tt.1
  refine (MDy.mk (Fr.ub (Fr.ub (Fr.ub (Fr.ub (Fr.ub (Fr.ub h.fr (by decide)) (by decide)) (by decide)) (by decide)) (by decide)) (by decide)) (fun i hi => ?_) (h.es) ?_ ?_ ?_ (fun u hu => ?_) (fun u hu => ?_) (fun u hu => ?_) (fun u hu => ?_) (fun u hu => ?_))
  · simp only [List.mem_cons, List.not_mem_nil, or_false, not_or] at hi
    show up1 (w 144) 61 (w32 ((D.P : Int) + s (141 + (8 * a + to)))) i = _
    rw [up1_ap, if_neg (by omega)]
    exact h.oth i (by simp only [List.mem_cons, List.not_mem_nil, or_false, not_or]; omega)
  · show up1 (w 144) 61 (w32 ((D.P : Int) + s (141 + (8 * a + to)))) 59 = _
    rw [up1_ap, if_neg (by decide)]; exact h.hour
  · show up1 (w 144) 61 (w32 ((D.P : Int) + s (141 + (8 * a + to)))) 60 = _
    rw [up1_ap, if_neg (by decide)]; exact h.met
  · show up1 (w 144) 61 (w32 ((D.P : Int) + s (141 + (8 * a + to)))) 61 = ((D.P + (s (141 + (8 * a + to))).toNat : Nat) : Int)
    rw [up1_ap, if_pos rfl, w32_id (by unfold in32; omega)]; omega
  · show up1 (w 169) x (to : Int) u = upN D.ho x (to : Int) u
    rw [up1_ap, upN_ap]
    by_cases q : u = x
    · rw [if_pos q, if_pos q]
    · rw [if_neg q, if_neg q]; exact h.ho u hu
  · show up1 (w 170) x (w32 ((D.ma x : Int) + 1)) u = ((upN D.ma x (D.ma x + 1) u : Nat) : Int)
    rw [up1_ap, upN_ap]
    by_cases q : u = x
    · rw [if_pos q, if_pos q, ixs (by omega)]
    · rw [if_neg q, if_neg q]; exact h.ma u hu
  · show up1 (w 171) x (w32 ((D.H : Int) + s (205 + (8 * a + to)))) u = ((upN D.fr x (D.H + (s (205 + (8 * a + to))).toNat) u : Nat) : Int)
    rw [up1_ap, upN_ap]
    by_cases q : u = x
    · rw [if_pos q, if_pos q, w32_id (by unfold in32; omega)]; omega
    · rw [if_neg q, if_neg q]; exact h.due u hu
  · show up1 (w 172) x (ior ((D.hd x : Nat) : Int) (ior (ishl 1 (a : Int)) (ishl 1 (to : Int)))) u = ((upN D.hd x (D.hd x ||| (2 ^ a ||| 2 ^ to)) u : Nat) : Int)
    rw [up1_ap, upN_ap]
    by_cases q : u = x
    · have b1 := two8 ha
      have b2 := two8 hto
      have b3 := or8 b1 b2
      rw [if_pos q, if_pos q, ishl1 (by omega), ishl1 (by omega), ior_nat (by omega) (by omega), ior_nat (by omega) (by omega)]
    · rw [if_neg q, if_neg q]; exact h.hd u hu
  · show up1 (w 173) x (ior ((D.tw x : Nat) : Int) (ior (ishl 1 (s (7 + a))) (ishl 1 (s (7 + to))))) u = ((upN D.tw x (D.tw x ||| (2 ^ (s (7 + a)).toNat ||| 2 ^ (s (7 + to)).toNat)) u : Nat) : Int)
    rw [up1_ap, upN_ap]
    by_cases q : u = x
    · have b1 : 2 ^ ta' < 1024 := two10 (by omega)
      have b2 : 2 ^ tt' < 1024 := two10 (by omega)
      have b3 := or10 b1 b2
      rw [if_pos q, if_pos q, hta, htt, Int.toNat_natCast, Int.toNat_natCast, ishl1 (by omega), ishl1 (by omega), ior_nat (by omega) (by omega), ior_nat (by omega) (by omega)]
    · rw [if_neg q, if_neg q]; exact h.tw u hu
theorem S_does {d : Nat} {Q : MV → Wd → Prop} {w0 w : Wd} {s : Nat → Int} {D : DY} {i : Nat} (ws : WS s) (wp : WP s) (hi : (i : Int) < s 333) (hD : DOk s i D) (hC : MDy w0 w s D)
    (k : ∀ w', MDy w0 w' s (doD s D i) → Q (mI (doY s D i)) w') : Cw (d + 5) 238 [mR 144, mI i] w Q := by
  have un := ws.un
  have pe := ws.pe
  have ac := wp.acts
  have wh := wp.what i hi
  have hH := hD.hH
  have y0 : 0 ≤ ((334 + 3 * i : Nat) : Int) ∧ ((334 + 3 * i : Nat) : Int) < 645 := by omega
  have y1 : 0 ≤ ((335 + 3 * i : Nat) : Int) ∧ ((335 + 3 * i : Nat) : Int) < 645 := by omega
  have y2 : 0 ≤ ((336 + 3 * i : Nat) : Int) ∧ ((336 + 3 * i : Nat) : Int) < 645 := by omega
  apply M_does_144_en
  rw [ix334_1 (by omega), ix334_2 (by omega), ix334 (by omega), Int.toNat_natCast, Int.toNat_natCast, Int.toNat_natCast, hC.es]
  have still : ¬ doY s D i = 0 → doD s D i = D := fun g => by
    unfold doD
    rw [if_neg g]
  by_cases za : s (334 + 3 * i) = 2
  · have hb := wp.wait i hi za
    obtain ⟨b, hb'⟩ := Int.eq_ofNat_of_zero_le hb.1
    rw [hb'] at hb ⊢
    rw [hC.hour, wtn (b' := b) rfl (by omega)]
    refine ⟨y0, y1, fun z => absurd za z, fun _ => ⟨fun z => ?_, fun z => ?_⟩⟩
    · have y : doY s D i = 0 := by
        unfold doY
        rw [if_pos za, hb', if_neg (by omega)]
      have e : doD s D i = wtD D b := by
        unfold doD
        rw [y, if_pos rfl, if_pos za, hb', Int.toNat_natCast]
      have k1 := k _ (by rw [e]; exact hC.wait b)
      rw [y] at k1; exact k1
    · have y : doY s D i = 8 := by
        unfold doY
        rw [if_pos za, hb', if_pos (by omega)]
      have k1 := k w (by rw [still (by omega)]; exact hC)
      rw [y] at k1; exact k1
  · have hu := wp.unit i hi za
    obtain ⟨u, hu'⟩ := Int.eq_ofNat_of_zero_le hu.1
    rw [hu'] at hu ⊢
    have hu2 := hu.2
    have wn := whN_cases s D u
    have wu := whU_cases s D u
    have r16 : 0 ≤ (u : Int) ∧ (u : Int) < 16 := by omega
    rw [Int.toNat_natCast]
    refine ⟨y0, y1, fun _ => ⟨fun zb => ?_, fun zb => ?_⟩, fun z => absurd za z⟩
    · -- give
      have w0' : s (334 + 3 * i) = 0 := by omega
      have wm := wp.whom i hi w0'
      obtain ⟨to, hto⟩ := Int.eq_ofNat_of_zero_le wm.1
      rw [hto] at wm
      have to8 : to < 8 := by omega
      have ey : doY s D i = if 0 < whN s D u then whN s D u else if gvD s u (D.ho u) to < 0 then 4 else if fbD s D u (gvD s u (D.ho u) to).toNat to = true then 5 else 0 := by
        unfold doY
        rw [if_neg za, hu', Int.toNat_natCast, if_neg zb, hto, Int.toNat_natCast]
      refine S_whyNot (d := d + 1) ws hC u hu2 ?_
      refine ⟨_, rfl, fun z => ⟨y2, ?_⟩, fun z => ?_⟩
      · have n0 : ¬ 0 < whN s D u := by omega
        rw [if_neg n0] at ey
        rw [hC.es, hto, ixa_7 (k := to) (by omega), Int.toNat_natCast]
        refine S_mGiver (d := d + 2) ws hD hC u to hu2 to8 ?_
        refine ⟨_, rfl, fun z2 => ?_, fun z2 => ?_⟩
        · have gb := gvD_bd ws hu2 (h := D.ho u) (by
            rcases hD.st u hu2 with z | z | ⟨p, p8, hp, _⟩
            · exact Or.inl (by omega)
            · exact Or.inl (by omega)
            · exact Or.inr ⟨p, p8, hp⟩) to8
          rcases gb with gb | ⟨a, ga, a8, a0, _⟩
          · rw [gb] at z2; exact absurd z2 (by decide)
          · rw [ga] at ey ⊢
            rw [if_neg (show ¬ (a : Int) < 0 by omega), Int.toNat_natCast] at ey
            refine S_forbids (d := d + 2) ws hD hC u a to hu2 a8 to8 ?_
            rw [ixa_7 (k := a) (by omega), ixp_205 (a := a) (b := to) a8 to8, ixp_141 (a := a) (b := to) a8 to8, Int.toNat_natCast, Int.toNat_natCast, Int.toNat_natCast, hC.es, hC.hd u hu2, hC.tw u hu2, hC.ma u hu2, hC.hour, hC.pa]
            refine ⟨_, rfl, fun z3 => ?_, fun z3 => ?_⟩
            · have g : fbD s D u a to = false := by
                cases x : fbD s D u a to
                · rfl
                · rw [x] at z3; exact absurd z3 (by decide)
              rw [if_neg (by rw [g]; simp)] at ey
              have e : doD s D i = giD s D u a to := by
                unfold doD
                rw [ey, if_pos rfl, if_neg za, if_neg zb, hu', Int.toNat_natCast, hto, Int.toNat_natCast, ga, Int.toNat_natCast]
              have m60 : D.ma u ≤ 60 := by
                rcases hD.st u hu2 with z | z | ⟨p, p8, hp, m2, _⟩
                · omega
                · omega
                · omega
              have hP := hD.hP
              have k1 := k _ (by rw [e]; exact hC.give ws hu2 (hD.hd u hu2) (hD.tw u hu2) a8 to8 m60 hH (by omega))
              rw [ey] at k1
              exact ⟨r16, r16, r16, by omega, by omega, r16, r16, r16, r16, by omega, r16, by omega, k1⟩
            · have g : fbD s D u a to = true := by
                cases x : fbD s D u a to
                · rw [x] at z3; exact absurd rfl z3
                · rfl
              rw [if_pos g] at ey
              have k1 := k w (by rw [still (by omega)]; exact hC)
              rw [ey] at k1; exact k1
        · rw [if_pos (by omega)] at ey
          have k1 := k w (by rw [still (by omega)]; exact hC)
          rw [ey] at k1; exact k1
      · rw [if_pos (by omega)] at ey
        refine S_whyNot (d := d + 1) ws hC u hu2 ?_
        have k1 := k w (by rw [still (by omega)]; exact hC)
        rw [ey] at k1
        exact ⟨_, rfl, k1⟩
    · -- use
      have w1 : s (334 + 3 * i) = 1 := Classical.not_not.mp zb
      have ey : doY s D i = whU s D u := by
        unfold doY
        rw [if_neg za, hu', Int.toNat_natCast, if_pos w1]
      refine S_whyNoUse (d := d) ws hC hD.hM u hu2 ?_
      refine ⟨_, rfl, fun z => ⟨r16, ?_⟩, fun z => ?_⟩
      · rw [hC.ho u hu2]
        refine S_wantFor (d := d + 2) ws hC hD.hM u hu2 (D.ho u) ?_
        have wa := ws.wa
        have u0 : whU s D u = 0 := by omega
        rcases wnF_bd s D.H D.M (D.ho u) (s (30 + 5 * u)) (s 3).toNat 0 with q | ⟨v, hv, hv8⟩
        · have q : wnD s D (D.ho u) u = -1 := q
          exfalso; omega
        · have hv : wnD s D (D.ho u) u = v := hv
          have e : doD s D i = usD D u v := by
            unfold doD
            rw [ey, u0, if_pos rfl, if_neg za, if_pos w1, hu', Int.toNat_natCast, hv, Int.toNat_natCast]
          have k1 := k _ (by rw [e]; exact hC.use (x := u) hD.hM (show v < 8 by omega))
          rw [ey, u0] at k1
          rw [hv]
          exact ⟨_, rfl, r16, r16, k1⟩
      · have k1 := k w (by rw [still (by omega)]; exact hC)
        rw [ey] at k1; exact k1

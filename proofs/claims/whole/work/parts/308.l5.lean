/-- the reference's day -/
def MDy (w0 w : Wd) (s : Nat → Int) (D : DY) : Prop := (Fr [144, 169, 170, 171, 172, 173, 174, 175] w0 w) ∧ (∀ i, i ∉ [59, 60, 61, 62] → w 144 i = w0 144 i) ∧ (w 146 = s) ∧ (w 144 59 = D.H) ∧ (w 144 60 = D.M) ∧ (w 144 61 = D.P) ∧ (∀ u : Nat, (u : Int) < s 2 → w 169 u = D.ho u) ∧ (∀ u : Nat, (u : Int) < s 2 → w 170 u = D.ma u) ∧ (∀ u : Nat, (u : Int) < s 2 → w 171 u = D.fr u) ∧ (∀ u : Nat, (u : Int) < s 2 → w 172 u = D.hd u) ∧ (∀ u : Nat, (u : Int) < s 2 → w 173 u = D.tw u)
theorem MDy.mk {w0 w : Wd} {s : Nat → Int} {D : DY} (fr_ : Fr [144, 169, 170, 171, 172, 173, 174, 175] w0 w) (oth_ : ∀ i, i ∉ [59, 60, 61, 62] → w 144 i = w0 144 i) (es_ : w 146 = s) (hour_ : w 144 59 = D.H) (met_ : w 144 60 = D.M) (pa_ : w 144 61 = D.P) (ho_ : ∀ u : Nat, (u : Int) < s 2 → w 169 u = D.ho u) (ma_ : ∀ u : Nat, (u : Int) < s 2 → w 170 u = D.ma u) (due_ : ∀ u : Nat, (u : Int) < s 2 → w 171 u = D.fr u) (hd_ : ∀ u : Nat, (u : Int) < s 2 → w 172 u = D.hd u) (tw_ : ∀ u : Nat, (u : Int) < s 2 → w 173 u = D.tw u) : MDy w0 w s D := And.intro fr_ (And.intro oth_ (And.intro es_ (And.intro hour_ (And.intro met_ (And.intro pa_ (And.intro ho_ (And.intro ma_ (And.intro due_ (And.intro hd_ (tw_))))))))))
theorem MDy.fr {w0 w : Wd} {s : Nat → Int} {D : DY} (h_ : MDy w0 w s D) : Fr [144, 169, 170, 171, 172, 173, 174, 175] w0 w := h_.1
theorem MDy.oth {w0 w : Wd} {s : Nat → Int} {D : DY} (h_ : MDy w0 w s D) : ∀ i, i ∉ [59, 60, 61, 62] → w 144 i = w0 144 i := h_.2.1
theorem MDy.es {w0 w : Wd} {s : Nat → Int} {D : DY} (h_ : MDy w0 w s D) : w 146 = s := h_.2.2.1
theorem MDy.hour {w0 w : Wd} {s : Nat → Int} {D : DY} (h_ : MDy w0 w s D) : w 144 59 = D.H := h_.2.2.2.1
theorem MDy.met {w0 w : Wd} {s : Nat → Int} {D : DY} (h_ : MDy w0 w s D) : w 144 60 = D.M := h_.2.2.2.2.1
theorem MDy.pa {w0 w : Wd} {s : Nat → Int} {D : DY} (h_ : MDy w0 w s D) : w 144 61 = D.P := h_.2.2.2.2.2.1
theorem MDy.ho {w0 w : Wd} {s : Nat → Int} {D : DY} (h_ : MDy w0 w s D) : ∀ u : Nat, (u : Int) < s 2 → w 169 u = D.ho u := h_.2.2.2.2.2.2.1
theorem MDy.ma {w0 w : Wd} {s : Nat → Int} {D : DY} (h_ : MDy w0 w s D) : ∀ u : Nat, (u : Int) < s 2 → w 170 u = D.ma u := h_.2.2.2.2.2.2.2.1
theorem MDy.due {w0 w : Wd} {s : Nat → Int} {D : DY} (h_ : MDy w0 w s D) : ∀ u : Nat, (u : Int) < s 2 → w 171 u = D.fr u := h_.2.2.2.2.2.2.2.2.1
theorem MDy.hd {w0 w : Wd} {s : Nat → Int} {D : DY} (h_ : MDy w0 w s D) : ∀ u : Nat, (u : Int) < s 2 → w 172 u = D.hd u := h_.2.2.2.2.2.2.2.2.2.1
theorem MDy.tw {w0 w : Wd} {s : Nat → Int} {D : DY} (h_ : MDy w0 w s D) : ∀ u : Nat, (u : Int) < s 2 → w 173 u = D.tw u := h_.2.2.2.2.2.2.2.2.2.2
theorem spS_ref {s : Nat → Int} (ws : WS s) {u : Nat} (hu : (u : Int) < s 2) : ∃ ks lf md : Nat, s (30 + 5 * u) = ks ∧ s (23 + ks) = lf ∧ s (33 + 5 * u) = md ∧ ks < 6 ∧ 1 ≤ lf ∧ lf ≤ 48 ∧ md ≤ 47 ∧ spS s u = (md : Int) + lf := by
  have us := ws.usort u hu
  have uh := ws.uhour u hu
  have so := ws.so
  obtain ⟨ks, hks⟩ := Int.eq_ofNat_of_zero_le us.1
  have li := ws.life ks (by omega)
  obtain ⟨lf, hlf⟩ := Int.eq_ofNat_of_zero_le (show 0 ≤ s (23 + ks) by omega)
  obtain ⟨md, hmd⟩ := Int.eq_ofNat_of_zero_le uh.1
  refine ⟨ks, lf, md, hks, hlf, hmd, by omega, by omega, by omega, by omega, ?_⟩
  unfold spS
  rw [hmd, hks, Int.toNat_natCast, hlf]
theorem S_whyNot {d : Nat} {Q : MV → Wd → Prop} {w0 w : Wd} {s : Nat → Int} {D : DY} (ws : WS s) (hC : MDy w0 w s D) (u : Nat) (hu : (u : Int) < s 2) (k : Q (mI (whN s D u)) w) : Cw (d + 3) 240 [mR 144, mI u] w Q := by
  have un := ws.un
  obtain ⟨ks, lf, md, e30, e23, e33, ks6, lf1, lf48, md47, esp⟩ := spS_ref ws hu
  have r16 : 0 ≤ (u : Int) ∧ (u : Int) < 16 := by omega
  have wn := whN_cases s D u
  rw [esp, e33] at wn
  apply M_whyNot_144_en
  rw [ixu_1 (by omega), ixu_4 (by omega), Int.toNat_natCast, Int.toNat_natCast, Int.toNat_natCast, hC.es, e30, ixa_23 (by omega), Int.toNat_natCast, e23, e33, hC.hour, hC.ho u hu, hC.due u hu, w32_id (x := (md : Int) + lf) (by unfold in32; omega)]
  have fin : ∀ y, y = whN s D u → Q (mI y) w := fun y h => by rw [h]; exact k
  refine ⟨by omega, fun z1 => ⟨r16, fun z2 => fin 2 (by omega), fun z2 => ⟨by omega, by omega, by omega, fun z3 => ⟨r16, fun z4 => fin 0 (by omega), fun z4 => fin 3 (by omega)⟩, fun z3 => fin 2 (by omega)⟩⟩, fun z1 => fin 1 (by omega)⟩
theorem S_wantFor {d : Nat} {Q : MV → Wd → Prop} {w0 w : Wd} {s : Nat → Int} {D : DY} (ws : WS s) (hC : MDy w0 w s D) (hM : D.M < 256) (u : Nat) (hu : (u : Int) < s 2) (a : Int) (k : Q (mI (wnD s D a u)) w) : Cw (d + 2) 241 [mR 144, mI a, mI u] w Q := by
  have un := ws.un
  have wa := ws.wa
  have k : Q (mI (wnF s D.H D.M a (s (30 + 5 * u)) (s 3).toNat 0)) w := k
  apply M_wantFor_144_en
  intro n1
  have lp : ∀ (r v : Nat), v + r = (s 3).toNat → wnF s D.H D.M a (s (30 + 5 * u)) (s 3).toNat 0 = wnF s D.H D.M a (s (30 + 5 * u)) r v → Wp (Cw (d + 1)) cd_M_wantFor (1, 0, n1) Q 2 [mR 144, mI a, mI u, mI v] [] w := by
    intro r
    induction r with
    | zero =>
      intro v hv he
      rw [he] at k
      apply M_wantFor_144_c2
      rw [hC.es]
      exact ⟨fun _ => k, fun z => absurd (show s 3 ≤ (v : Int) by omega) z⟩
    | succ r ih =>
      intro v hv he
      have i1 := ih (v + 1) (by omega)
      have no : ¬ (s (109 + 4 * v) = a ∧ s (110 + 4 * v) = s (30 + 5 * u) ∧ D.M.testBit v = false ∧ (D.H : Int) ≤ s (112 + 4 * v)) → Wp (Cw (d + 1)) cd_M_wantFor (1, 0, n1) Q 2 [mR 144, mI a, mI u, mI (v + 1 : Nat)] [] w := fun z => i1 (by rw [he, wnF_no z])
      apply M_wantFor_144_c2
      rw [hC.es, ixw_1 (by omega), ixw_3 (by omega), ixw (by omega), ixu_1 (by omega), Int.toNat_natCast, Int.toNat_natCast, Int.toNat_natCast, Int.toNat_natCast, hC.hour, hC.met, bit_nat (by omega) (by omega), ixs (k := v) (by omega)]
      refine ⟨fun z => by exfalso; omega, fun _ => ⟨by omega, fun z1 => no (fun g => z1 g.1), fun z1 => ⟨by omega, by omega, fun z3 => no (fun g => z3 g.2.1), fun z3 => ⟨fun z2 => ⟨by omega, fun z4 => no (fun g => by omega), fun z4 => ?_⟩, fun z2 => no (fun g => ?_)⟩⟩⟩⟩
      · have z1 := Classical.not_not.mp z1
        have z3 := Classical.not_not.mp z3
        have zb : D.M.testBit v = false := by
          cases x : D.M.testBit v
          · rfl
          · rw [x] at z2; exact absurd rfl z2
        rw [he, wnF_yes z1 z3 zb (by omega)] at k
        exact k
      · have z2 := Classical.not_not.mp z2
        rw [g.2.2.1] at z2
        exact absurd z2 (by simp)
  exact lp (s 3).toNat 0 (by omega) rfl
theorem S_whyNoUse {d : Nat} {Q : MV → Wd → Prop} {w0 w : Wd} {s : Nat → Int} {D : DY} (ws : WS s) (hC : MDy w0 w s D) (hM : D.M < 256) (u : Nat) (hu : (u : Int) < s 2) (k : Q (mI (whU s D u)) w) : Cw (d + 4) 239 [mR 144, mI u] w Q := by
  have un := ws.un
  have r16 : 0 ≤ (u : Int) ∧ (u : Int) < 16 := by omega
  have wn := whN_cases s D u
  have wu := whU_cases s D u
  have fin : ∀ y, y = whU s D u → Q (mI y) w := fun y h => by rw [h]; exact k
  apply M_whyNoUse_144_en
  refine S_whyNot (d := d) ws hC u hu ?_
  refine ⟨_, rfl, fun z => ⟨r16, ?_⟩, fun z => ?_⟩
  · rw [Int.toNat_natCast, hC.es, hC.ma u hu, hC.ho u hu]
    refine ⟨fun z2 => ⟨r16, ?_⟩, fun z2 => fin 6 (by omega)⟩
    refine S_wantFor (d := d + 1) ws hC hM u hu (D.ho u) ?_
    exact ⟨_, rfl, fun z3 => fin 0 (by omega), fun z3 => fin 7 (by omega)⟩
  · refine S_whyNot (d := d) ws hC u hu ?_
    exact ⟨_, rfl, fin _ (by omega)⟩
theorem S_mGiver {d : Nat} {Q : MV → Wd → Prop} {w0 w : Wd} {s : Nat → Int} {D : DY} {i : Nat} (ws : WS s) (hD : DOk s i D) (hC : MDy w0 w s D) (u to : Nat) (hu : (u : Int) < s 2) (to8 : to < 8) (k : Q (mI (gvD s u (D.ho u) to)) w) : Cw (d + 2) 242 [mR 144, mI u, mI to] w Q := by
  have un := ws.un
  have pe := ws.pe
  have mk := ws.mak u hu
  have pr := ws.par u hu
  obtain ⟨m, hm⟩ := Int.eq_ofNat_of_zero_le mk.1
  have m8 : m < 8 := by omega
  have r16 : 0 ≤ (u : Int) ∧ (u : Int) < 16 := by omega
  have y2 : 0 ≤ ((31 + 5 * u : Nat) : Int) ∧ ((31 + 5 * u : Nat) : Int) < 645 := by omega
  have y3 : 0 ≤ ((32 + 5 * u : Nat) : Int) ∧ ((32 + 5 * u : Nat) : Int) < 645 := by omega
  have fin : ∀ y, y = gvD s u (D.ho u) to → Q (mI y) w := fun y h => by rw [h]; exact k
  clear k
  apply M_giver_144_en
  rw [ixu_2 (by omega), ixu_3 (by omega), Int.toNat_natCast, Int.toNat_natCast, Int.toNat_natCast, hC.es, hC.ho u hu, hm]
  refine ⟨r16, fun z0 => ⟨y2, y3, fun z1 => ?_, fun z1 => ⟨fun z2 => ?_, fun z2 => ?_⟩⟩, fun z0 => ⟨r16, ?_⟩⟩
  · rw [ixp_269 (a := m) m8 to8, Int.toNat_natCast]
    have e : gvD s u (D.ho u) to = if s (269 + (8 * m + to)) = 1 then (m : Int) else -1 := by
      unfold gvD
      rw [if_neg (by omega), if_pos (Or.inl z1), hm, Int.toNat_natCast]
      by_cases q : s (269 + (8 * m + to)) = 1
      · rw [if_pos q, if_pos q]
      · rw [if_neg q, if_neg q, if_neg (by omega)]
    refine ⟨by omega, fun z3 => ⟨y2, y3, y3, fun _ => fin _ (by rw [e, if_neg z3]), fun z4 => absurd z1 z4⟩, fun z3 => fin _ (by rw [e, if_pos (Classical.not_not.mp z3)])⟩
  · obtain ⟨r, hr⟩ := Int.eq_ofNat_of_zero_le (show 0 ≤ s (32 + 5 * u) by omega)
    rw [hr] at z1 z2 ⊢
    have er : w32 (w32 ((m : Int) + (r : Int)) - (r : Int)) = (m : Int) := by rw [w32_id (x := (m : Int) + r) (by unfold in32; omega), w32_id (by unfold in32; omega)]; omega
    rw [er]
    clear er
    rw [ixp_269 (a := r) (by omega) to8, ixp_269 (a := m) m8 to8, Int.toNat_natCast, Int.toNat_natCast]
    have e : gvD s u (D.ho u) to = if s (269 + (8 * r + to)) = 1 then (r : Int) else if s (269 + (8 * m + to)) = 1 then (m : Int) else -1 := by
      unfold gvD
      rw [if_neg (by omega), hr, hm, if_neg (by omega), Int.toNat_natCast, Int.toNat_natCast]
    refine ⟨by omega, fun z3 => ⟨y2, y3, y3, fun z4 => absurd z4 (by omega), fun _ => ⟨by omega, fun z5 => fin _ (by rw [e, if_neg z3, if_neg z5]), fun z5 => fin _ (by rw [e, if_neg z3, if_pos (Classical.not_not.mp z5)])⟩⟩, fun z3 => fin _ (by rw [e, if_pos (Classical.not_not.mp z3)])⟩
  · obtain ⟨r, hr⟩ := Int.eq_ofNat_of_zero_le (show 0 ≤ s (32 + 5 * u) by omega)
    rw [hr] at z1 z2 ⊢
    have er : w32 (w32 ((m : Int) + (r : Int)) - (m : Int)) = (r : Int) := by rw [w32_id (x := (m : Int) + r) (by unfold in32; omega), w32_id (by unfold in32; omega)]; omega
    rw [er]
    clear er
    rw [ixp_269 (a := m) m8 to8, ixp_269 (a := r) (by omega) to8, Int.toNat_natCast, Int.toNat_natCast]
    have e : gvD s u (D.ho u) to = if s (269 + (8 * m + to)) = 1 then (m : Int) else if s (269 + (8 * r + to)) = 1 then (r : Int) else -1 := by
      unfold gvD
      rw [if_neg (by omega), hr, hm, if_pos (Or.inr (by omega)), Int.toNat_natCast, Int.toNat_natCast]
      by_cases q : s (269 + (8 * m + to)) = 1
      · rw [if_pos q, if_pos q]
      · rw [if_neg q, if_neg q]
        by_cases q2 : s (269 + (8 * r + to)) = 1
        · rw [if_pos ⟨by omega, q2⟩, if_pos q2]
        · rw [if_neg (fun x => q2 x.2), if_neg q2]
    refine ⟨by omega, fun z3 => ⟨y2, y3, y3, fun z4 => absurd z4 (by omega), fun _ => ⟨by omega, fun z5 => fin _ (by rw [e, if_neg z3, if_neg z5]), fun z5 => fin _ (by rw [e, if_neg z3, if_pos (Classical.not_not.mp z5)])⟩⟩, fun z3 => fin _ (by rw [e, if_pos (Classical.not_not.mp z3)])⟩
  · rcases hD.st u hu with ⟨z1, z2⟩ | ⟨z1, z2, _⟩ | ⟨p, p8, hp, _⟩
    · exfalso; omega
    · exfalso; omega
    · rw [hp] at z0 fin ⊢
      rw [ixp_269 (a := p) p8 to8, Int.toNat_natCast]
      have e : gvD s u (p : Int) to = if s (269 + (8 * p + to)) = 1 then (p : Int) else -1 := by
        unfold gvD
        rw [if_pos (by omega), Int.toNat_natCast]
      exact ⟨by omega, fun z3 => fin _ (by rw [e, if_neg z3]), fun z3 => ⟨r16, fin _ (by rw [e, if_pos (Classical.not_not.mp z3)])⟩⟩
theorem bitI {b : Bool} : (¬ (if b = true then (1 : Int) else 0) = 1) ↔ b = false := by cases b <;> simp
theorem S_forbids {d : Nat} {Q : MV → Wd → Prop} {w0 w : Wd} {s : Nat → Int} {D : DY} {i : Nat} (ws : WS s) (hD : DOk s i D) (hC : MDy w0 w s D) (u a to : Nat) (hu : (u : Int) < s 2) (a8 : a < 8) (to8 : to < 8) (k : Q (mI (if fbD s D u a to then 1 else 0)) w) : Cw (d + 2) 244 [mR 144, mI u, mI a, mI to] w Q := by
  have un := ws.un
  have ta := ws.town a a8
  have tt := ws.town to to8
  obtain ⟨ta', hta⟩ := Int.eq_ofNat_of_zero_le ta.1
  obtain ⟨tt', htt⟩ := Int.eq_ofNat_of_zero_le tt.1
  have r16 : 0 ≤ (u : Int) ∧ (u : Int) < 16 := by omega
  have hd8 := hD.hd u hu
  have tw8 := hD.tw u hu
  have b1 := two8 a8
  have b2 : 2 ^ ta' < 1024 := two10 (by omega)
  have b3 := or8 hd8 b1
  have b4 := or10 tw8 b2
  have fi : fiR s u to = (decide (s (31 + 5 * u) = to) || decide (s (32 + 5 * u) = to)) := rfl
  apply M_forbids_144_en
  rw [hC.es, Int.toNat_natCast, hC.hd u hu, hC.tw u hu, ixa_7 (by omega), ixa_7 (by omega), Int.toNat_natCast, Int.toNat_natCast, hta, htt, ixu_2 (by omega), ixu_3 (by omega), Int.toNat_natCast, Int.toNat_natCast, ishl1 (n := a) (by omega), ishl1 (n := ta') (by omega), ior_nat (by omega) (by omega), ior_nat (by omega) (by omega), bit_nat (by omega) (by omega), bit_nat (by omega) (by omega)]
  have ey : fbD s D u a to = if s 5 = 1 then (D.hd u ||| 2 ^ a).testBit to && !(fiR s u to) else if s 5 = 2 then (D.hd u ||| 2 ^ a).testBit to || fiR s u to else if s 5 = 3 then (D.tw u ||| 2 ^ ta').testBit tt' else false := by
    unfold fbD
    rw [hta, htt, Int.toNat_natCast, Int.toNat_natCast]
  have yes : fbD s D u a to = true → Q (mI 1) w := fun h => by rw [h, if_pos rfl] at k; exact k
  have no : fbD s D u a to = false → Q (mI 0) w := fun h => by rw [h] at k; exact k
  rw [ey, fi] at yes no
  clear k ey
  generalize hX : (D.hd u ||| 2 ^ a).testBit to = X at *
  generalize hY : (D.tw u ||| 2 ^ ta').testBit tt' = Y at *
  have y2 : 0 ≤ ((31 + 5 * u : Nat) : Int) ∧ ((31 + 5 * u : Nat) : Int) < 645 := by omega
  have y3 : 0 ≤ ((32 + 5 * u : Nat) : Int) ∧ ((32 + 5 * u : Nat) : Int) < 645 := by omega
  refine ⟨r16, fun z1 => ⟨fun z2 => ⟨fun z3 => ?_, fun z3 => ⟨r16, by omega, by omega, fun z4 => ?_, fun z4 => ?_⟩⟩, fun z2 => ⟨fun z4 => ⟨y2, fun z5 => ?_, fun z5 => ⟨y3, fun z6 => ?_, fun z6 => ?_⟩⟩, fun z4 => ?_⟩⟩, fun z1 => ⟨fun z4 => ?_, fun z4 => ⟨y2, fun z5 => ?_, fun z5 => ⟨y3, fun z6 => ?_, fun z6 => ?_⟩⟩⟩⟩
  · exact no (by rw [if_neg z1, if_neg z2, if_neg z3])
  · exact no (by rw [if_neg z1, if_neg z2, if_pos (Classical.not_not.mp z3)]; exact bitI.mp z4)
  · exact yes (by rw [if_neg z1, if_neg z2, if_pos (Classical.not_not.mp z3)]; cases Y <;> simp_all)
  · exact yes (by rw [if_neg z1, if_pos (Classical.not_not.mp z2), z5]; simp)
  · exact no (by rw [if_neg z1, if_pos (Classical.not_not.mp z2), decide_eq_false z5, decide_eq_false z6, bitI.mp z4]; rfl)
  · exact yes (by rw [if_neg z1, if_pos (Classical.not_not.mp z2), decide_eq_true (Classical.not_not.mp z6)]; simp)
  · exact yes (by rw [if_neg z1, if_pos (Classical.not_not.mp z2)]; cases X <;> simp_all)
  · exact no (by rw [if_pos (Classical.not_not.mp z1), bitI.mp z4]; rfl)
  · exact no (by rw [if_pos (Classical.not_not.mp z1), decide_eq_true z5]; simp)
  · exact yes (by rw [if_pos (Classical.not_not.mp z1), decide_eq_false z5, decide_eq_false z6]; cases X <;> simp_all)
  · exact no (by rw [if_pos (Classical.not_not.mp z1), decide_eq_true (Classical.not_not.mp z6)]; simp)

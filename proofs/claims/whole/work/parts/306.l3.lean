def whoI (s : Nat → Int) (D : DY) (u : Nat) : Int := if D.ho u = -2 then -1 else if D.ho u < 0 then s (31 + 5 * u) else D.ho u
/-- the class's day -/
def CDy (w0 w : Wd) (s : Nat → Int) (D : DY) : Prop := (Fr [132, 133, 134, 135, 136] w0 w) ∧ (w 132 0 = 1) ∧ (w 132 6 = s 2) ∧ (w 132 2 = D.H) ∧ (w 132 3 = D.M) ∧ (w 132 4 = D.P) ∧ (∀ u : Nat, (u : Int) < s 2 → w 133 u = whoI s D u) ∧ (∀ u : Nat, (u : Int) < s 2 → w 134 u = D.ma u) ∧ (∀ u : Nat, (u : Int) < s 2 → w 136 u = D.fr u) ∧ (∀ u : Nat, (u : Int) < s 2 → 2 ≤ D.ma u → w 135 u = D.hd u)
theorem CDy.mk {w0 w : Wd} {s : Nat → Int} {D : DY} (fr_ : Fr [132, 133, 134, 135, 136] w0 w) (done_ : w 132 0 = 1) (un_ : w 132 6 = s 2) (hour_ : w 132 2 = D.H) (met_ : w 132 3 = D.M) (pa_ : w 132 4 = D.P) (who_ : ∀ u : Nat, (u : Int) < s 2 → w 133 u = whoI s D u) (nth_ : ∀ u : Nat, (u : Int) < s 2 → w 134 u = D.ma u) (due_ : ∀ u : Nat, (u : Int) < s 2 → w 136 u = D.fr u) (had_ : ∀ u : Nat, (u : Int) < s 2 → 2 ≤ D.ma u → w 135 u = D.hd u) : CDy w0 w s D := And.intro fr_ (And.intro done_ (And.intro un_ (And.intro hour_ (And.intro met_ (And.intro pa_ (And.intro who_ (And.intro nth_ (And.intro due_ (had_)))))))))
theorem CDy.fr {w0 w : Wd} {s : Nat → Int} {D : DY} (h_ : CDy w0 w s D) : Fr [132, 133, 134, 135, 136] w0 w := h_.1
theorem CDy.done {w0 w : Wd} {s : Nat → Int} {D : DY} (h_ : CDy w0 w s D) : w 132 0 = 1 := h_.2.1
theorem CDy.un {w0 w : Wd} {s : Nat → Int} {D : DY} (h_ : CDy w0 w s D) : w 132 6 = s 2 := h_.2.2.1
theorem CDy.hour {w0 w : Wd} {s : Nat → Int} {D : DY} (h_ : CDy w0 w s D) : w 132 2 = D.H := h_.2.2.2.1
theorem CDy.met {w0 w : Wd} {s : Nat → Int} {D : DY} (h_ : CDy w0 w s D) : w 132 3 = D.M := h_.2.2.2.2.1
theorem CDy.pa {w0 w : Wd} {s : Nat → Int} {D : DY} (h_ : CDy w0 w s D) : w 132 4 = D.P := h_.2.2.2.2.2.1
theorem CDy.who {w0 w : Wd} {s : Nat → Int} {D : DY} (h_ : CDy w0 w s D) : ∀ u : Nat, (u : Int) < s 2 → w 133 u = whoI s D u := h_.2.2.2.2.2.2.1
theorem CDy.nth {w0 w : Wd} {s : Nat → Int} {D : DY} (h_ : CDy w0 w s D) : ∀ u : Nat, (u : Int) < s 2 → w 134 u = D.ma u := h_.2.2.2.2.2.2.2.1
theorem CDy.due {w0 w : Wd} {s : Nat → Int} {D : DY} (h_ : CDy w0 w s D) : ∀ u : Nat, (u : Int) < s 2 → w 136 u = D.fr u := h_.2.2.2.2.2.2.2.2.1
theorem CDy.had {w0 w : Wd} {s : Nat → Int} {D : DY} (h_ : CDy w0 w s D) : ∀ u : Nat, (u : Int) < s 2 → 2 ≤ D.ma u → w 135 u = D.hd u := h_.2.2.2.2.2.2.2.2.2
theorem RV_fr {w0 w : Wd} {s nms : Nat → Int} {C : List Nat} (hF : Fr C w0 w) (hC : ∀ c, c ∈ [4, 5, 6, 7, 8, 9, 10, 11, 12, 13, 14, 15] → c ∉ C) (rv : RV (w0 4) (w0 5) (w0 6) (w0 7) (w0 8) (w0 9) (w0 10) (w0 11) (w0 12) (w0 13) (w0 14) (w0 15) s nms) : RV (w 4) (w 5) (w 6) (w 7) (w 8) (w 9) (w 10) (w 11) (w 12) (w 13) (w 14) (w 15) s nms := by
  rw [hF 4 (hC 4 (by decide)), hF 5 (hC 5 (by decide)), hF 6 (hC 6 (by decide)), hF 7 (hC 7 (by decide)), hF 8 (hC 8 (by decide)), hF 9 (hC 9 (by decide)), hF 10 (hC 10 (by decide)), hF 11 (hC 11 (by decide)), hF 12 (hC 12 (by decide)), hF 13 (hC 13 (by decide)), hF 14 (hC 14 (by decide)), hF 15 (hC 15 (by decide))]
  exact rv
theorem CDy.wait {w0 w : Wd} {s : Nat → Int} {D : DY} (h : CDy w0 w s D) (b : Nat) : CDy w0 (ub w 132 2 ((D.H + b : Nat) : Int)) s (wtD D b) := by
  refine (CDy.mk (Fr.ub h.fr (by decide)) ?_ ?_ ?_ ?_ ?_ (h.who) (h.nth) (h.due) (h.had))
  · rw [ub_ap, if_pos rfl, if_neg (by decide)]; exact h.done
  · rw [ub_ap, if_pos rfl, if_neg (by decide)]; exact h.un
  · rw [ub_ap, if_pos rfl, if_pos rfl]; rfl
  · rw [ub_ap, if_pos rfl, if_neg (by decide)]; exact h.met
  · rw [ub_ap, if_pos rfl, if_neg (by decide)]; exact h.pa
theorem CDy.use {w0 w : Wd} {s : Nat → Int} {D : DY} (h : CDy w0 w s D) {x v : Nat} (hM : D.M < 256) (hv : v < 8) : CDy w0 (ub (ub (ub w 132 3 (ior (w 132 3) (ishl 1 (v : Int)))) 134 x 0) 133 x (-1)) s (usD D x v) := by
  refine (CDy.mk (Fr.ub (Fr.ub (Fr.ub h.fr (by decide)) (by decide)) (by decide)) ?_ ?_ ?_ ?_ ?_ (fun u hu => ?_) (fun u hu => ?_) (h.due) (fun u hu h2 => ?_))
  · show up1 (w 132) 3 (ior (w 132 3) (ishl 1 (v : Int))) 0 = 1
    rw [up1_ap, if_neg (by decide)]; exact h.done
  · show up1 (w 132) 3 (ior (w 132 3) (ishl 1 (v : Int))) 6 = _
    rw [up1_ap, if_neg (by decide)]; exact h.un
  · show up1 (w 132) 3 (ior (w 132 3) (ishl 1 (v : Int))) 2 = _
    rw [up1_ap, if_neg (by decide)]; exact h.hour
  · show up1 (w 132) 3 (ior (w 132 3) (ishl 1 (v : Int))) 3 = ((D.M ||| 2 ^ v : Nat) : Int)
    have := two8 hv
    rw [up1_ap, if_pos rfl, h.met, ishl1 (by omega), ior_nat (by omega) (by omega)]
  · show up1 (w 132) 3 (ior (w 132 3) (ishl 1 (v : Int))) 4 = _
    rw [up1_ap, if_neg (by decide)]; exact h.pa
  · show up1 (w 133) x (-1) u = (if upN D.ho x (-2) u = -2 then (-1 : Int) else if upN D.ho x (-2) u < 0 then s (31 + 5 * u) else upN D.ho x (-2) u)
    rw [up1_ap, upN_ap]
    by_cases q : u = x
    · rw [if_pos q, if_pos q, if_pos rfl]
    · rw [if_neg q, if_neg q]; exact h.who u hu
  · show up1 (w 134) x 0 u = ((upN D.ma x 0 u : Nat) : Int)
    rw [up1_ap, upN_ap]
    by_cases q : u = x
    · rw [if_pos q, if_pos q]; rfl
    · rw [if_neg q, if_neg q]; exact h.nth u hu
  · have h2 : 2 ≤ upN D.ma x 0 u := h2
    rw [upN_ap] at h2
    by_cases q : u = x
    · rw [if_pos q] at h2; omega
    · rw [if_neg q] at h2; exact h.had u hu h2
theorem CDy.give {w0 w : Wd} {s : Nat → Int} {D : DY} (h : CDy w0 w s D) {x a to : Nat} {B : Int} {p : Int} (hB : B = ((D.hd x ||| 2 ^ a : Nat) : Int)) (hd : D.hd x < 256) (ha : a < 8) (hto : to < 8) (hm : D.ma x ≤ 60) (hx : (x : Int) < s 2) (hr : w 15 (8 * a + to) = s (205 + (8 * a + to))) (h0 : 0 ≤ s (205 + (8 * a + to)) ∧ s (205 + (8 * a + to)) ≤ 9) (hH : D.H ≤ 47) (hp : p = ((D.P + (s (141 + (8 * a + to))).toNat : Nat) : Int)) : CDy w0 (ub (ub (ub (ub (ub w 135 x (ior B (ishl 1 (to : Int)))) 133 x (to : Int)) 134 x (w32 (w 134 x + 1))) 136 x (w32 (w 132 2 + w 15 (8 * a + to)))) 132 4 p) s (giD s D x a to) := by
  refine (CDy.mk (Fr.ub (Fr.ub (Fr.ub (Fr.ub (Fr.ub h.fr (by decide)) (by decide)) (by decide)) (by decide)) (by decide)) ?_ ?_ ?_ ?_ ?_ (fun u hu => ?_) (fun u hu => ?_) (fun u hu => ?_) (fun u hu h2 => ?_))
  · show up1 (w 132) 4 p 0 = 1
    rw [up1_ap, if_neg (by decide)]; exact h.done
  · show up1 (w 132) 4 p 6 = _
    rw [up1_ap, if_neg (by decide)]; exact h.un
  · show up1 (w 132) 4 p 2 = _
    rw [up1_ap, if_neg (by decide)]; exact h.hour
  · show up1 (w 132) 4 p 3 = _
    rw [up1_ap, if_neg (by decide)]; exact h.met
  · show up1 (w 132) 4 p 4 = _
    rw [up1_ap, if_pos rfl, hp]; rfl
  · show up1 (w 133) x (to : Int) u = (if upN D.ho x (to : Int) u = -2 then (-1 : Int) else if upN D.ho x (to : Int) u < 0 then s (31 + 5 * u) else upN D.ho x (to : Int) u)
    rw [up1_ap, upN_ap]
    by_cases q : u = x
    · rw [if_pos q, if_pos q, if_neg (by omega), if_neg (by omega)]
    · rw [if_neg q, if_neg q]; exact h.who u hu
  · show up1 (w 134) x (w32 (w 134 x + 1)) u = ((upN D.ma x (D.ma x + 1) u : Nat) : Int)
    rw [up1_ap, upN_ap]
    by_cases q : u = x
    · rw [if_pos q, if_pos q, h.nth x hx, ixs (by omega)]
    · rw [if_neg q, if_neg q]; exact h.nth u hu
  · show up1 (w 136) x (w32 (w 132 2 + w 15 (8 * a + to))) u = ((upN D.fr x (D.H + (s (205 + (8 * a + to))).toNat) u : Nat) : Int)
    rw [up1_ap, upN_ap]
    by_cases q : u = x
    · rw [if_pos q, if_pos q, h.hour, hr, w32_id (by unfold in32; omega)]; omega
    · rw [if_neg q, if_neg q]; exact h.due u hu
  · show up1 (w 135) x (ior B (ishl 1 (to : Int))) u = ((upN D.hd x (D.hd x ||| (2 ^ a ||| 2 ^ to)) u : Nat) : Int)
    have h2 : 2 ≤ upN D.ma x (D.ma x + 1) u := h2
    rw [upN_ap] at h2
    rw [up1_ap, upN_ap]
    by_cases q : u = x
    · have b1 := two8 ha
      have b2 := two8 hto
      have b3 := or8 hd b1
      rw [if_pos q, if_pos q, hB, ishl1 (by omega), ior_nat (by omega) (by omega), Nat.or_assoc]
    · rw [if_neg q] at h2 ⊢
      rw [if_neg q]; exact h.had u hu h2
theorem wtn {H : Nat} {b : Int} {b' : Nat} (hb : b = b') (h : H + b' ≤ 100) : w32 ((H : Int) + b) = ((H + b' : Nat) : Int) := by
  rw [hb, w32_id (by unfold in32; omega)]; omega
theorem DOk.gone {s : Nat → Int} {i : Nat} {D : DY} (h : DOk s i D) {u : Nat} (hu : (u : Int) < s 2) : (D.ma u : Int) = 0 ↔ D.ho u = -2 := by
  rcases h.st u hu with ⟨a, b⟩ | ⟨a, b, _⟩ | ⟨p, a, b, c, _⟩
  · exact ⟨fun _ => a, fun _ => by omega⟩
  · exact ⟨fun z => by omega, fun z => by omega⟩
  · exact ⟨fun z => by omega, fun z => by omega⟩
theorem S_dayGiver {d : Nat} {Q : MV → Wd → Prop} {w0 w : Wd} {s nms : Nat → Int} {D : DY} {i : Nat} (rv : RV (w 4) (w 5) (w 6) (w 7) (w 8) (w 9) (w 10) (w 11) (w 12) (w 13) (w 14) (w 15) s nms) (ws : WS s) (hD : DOk s i D) (hC : CDy w0 w s D) (u to : Nat) (hu2 : (u : Int) < s 2) (to8 : to < 8) (hg : ¬ D.ho u = -2) (k : Q (mI (gvD s u (D.ho u) to)) w) : Cw (d + 3) 110 [mR 132, mR 4, mI u, mI to] w Q := by
  have un := ws.un
  have pe := ws.pe
  have st := hD.st u hu2
  have mk := rv.mak u hu2
  have pr := rv.par u hu2
  have mk' := ws.mak u hu2
  have pr' := ws.par u hu2
  have nt := hC.nth u hu2
  have wq := hC.who u hu2
  obtain ⟨m, hm⟩ := Int.eq_ofNat_of_zero_le mk'.1
  have r16 : 0 ≤ (u : Int) ∧ (u : Int) < 16 := by omega
  apply Day_giver_132_4_en
  intro n2
  rw [Int.toNat_natCast, ix5_1 (by omega), ix5_2 (by omega), Int.toNat_natCast, Int.toNat_natCast, mk, pr, nt]
  refine ⟨r16, fun z => ⟨r16, ?_⟩, fun z => ⟨by omega, by omega, fun zp => ?_, fun zp => ?_⟩⟩
  · rcases st with q | q | ⟨p, p8, hp, _⟩
    · exact absurd q.1 hg
    · omega
    · have e : w 133 u = p := by
        rw [wq]; unfold whoI
        rw [hp, if_neg (by omega), if_neg (by omega)]
      rw [e]
      refine L_dayGiver (d := d) rv ws (ishl 1 (p : Int)) (fun q => decide (q = p)) (fun q hq => ?_) to to8 (fun y hy => ?_) (s 0).toNat 0 (by omega) (fun q hq => absurd hq (Nat.not_lt_zero _))
      · rw [tb_bit (by omega) (by omega), Int.toNat_natCast]
      · rw [FirG_one ws (u := u) p8 to8 (fun q _ => rfl) hy, ← hp]; exact k
  · have hn : D.ho u < 0 := by
      rcases st with q | q | ⟨p, p8, hp, m2, _⟩ <;> omega
    refine L_dayGiver (d := d) rv ws _ (fiR s u) (fun q hq => ?_) to to8 (fun y hy => ?_) (s 0).toNat 0 (by omega) (fun q hq => absurd hq (Nat.not_lt_zero _))
    · obtain ⟨r, hr⟩ := Int.eq_ofNat_of_zero_le (show 0 ≤ s (32 + 5 * u) by omega)
      unfold fiR
      rw [hm, hr, tb_or, tb_bit (by omega) (by omega), tb_bit (by omega) (by omega), Int.toNat_natCast, Int.toNat_natCast]
      congr 1 <;> exact decide_eq_decide.mpr ⟨fun h => by omega, fun h => by omega⟩
    · rw [FirG_two ws hu2 to8 hn (fun q _ => rfl) hy]; exact k
  · have hn : D.ho u < 0 := by
      rcases st with q | q | ⟨p, p8, hp, m2, _⟩ <;> omega
    refine L_dayGiver (d := d) rv ws _ (fiR s u) (fun q hq => ?_) to to8 (fun y hy => ?_) (s 0).toNat 0 (by omega) (fun q hq => absurd hq (Nat.not_lt_zero _))
    · have zp := Classical.not_not.mp zp
      unfold fiR
      rw [hm, zp, tb_or, tb_bit (by omega) (by omega), Int.toNat_natCast, tb_zero, Bool.or_false, decide_eq_false (p := (-1 : Int) = q) (by omega), Bool.or_false]
      exact decide_eq_decide.mpr ⟨fun h => by omega, fun h => by omega⟩
    · rw [FirG_two ws hu2 to8 hn (fun q _ => rfl) hy]; exact k
theorem S_dayGive {d : Nat} {Q : MV → Wd → Prop} {w0 w : Wd} {s nms : Nat → Int} {D : DY} {i : Nat} (rv : RV (w 4) (w 5) (w 6) (w 7) (w 8) (w 9) (w 10) (w 11) (w 12) (w 13) (w 14) (w 15) s nms) (ws : WS s) (hD : DOk s i D) (i50 : i ≤ 50) (hC : CDy w0 w s D) (u to : Nat) (hu2 : (u : Int) < s 2) (to8 : to < 8) (to0 : (to : Int) < s 0) (hg : ¬ D.ho u = -2)
    (k4 : gvD s u (D.ho u) to < 0 → Q (mI 4) w) (k5 : ∀ a : Nat, gvD s u (D.ho u) to = a → fbD s D u a to = true → Q (mI 5) w) (k0 : ∀ (a : Nat) w', gvD s u (D.ho u) to = a → fbD s D u a to = false → CDy w0 w' s (giD s D u a to) → Q (mI 0) w') : Cw (d + 6) 109 [mR 132, mR 4, mI u, mI to] w Q := by
  have un := ws.un
  have pe := ws.pe
  have st := hD.st u hu2
  have mk := rv.mak u hu2
  have pr := rv.par u hu2
  have mk' := ws.mak u hu2
  have pr' := ws.par u hu2
  have nt := hC.nth u hu2
  have hH := hD.hH
  have hP := hD.hP
  obtain ⟨m, hm⟩ := Int.eq_ofNat_of_zero_le mk'.1
  have r16 : 0 ≤ (u : Int) ∧ (u : Int) < 16 := by omega
  have gb := gvD_bd ws hu2 (h := D.ho u) (by
    rcases st with z | z | ⟨p, p8, hp, _⟩
    · exact Or.inl (by omega)
    · exact Or.inl (by omega)
    · exact Or.inr ⟨p, p8, hp⟩) to8
  apply Day_give_132_4_en
  refine S_dayGiver (d := d + 2) rv ws hD hC u to hu2 to8 hg ?_
  rcases gb with gb | ⟨a, ga, a8, a0, at1⟩
  · rw [gb]
    exact ⟨_, rfl, fun z => absurd rfl z, fun _ => k4 (by omega)⟩
  · rw [ga]
    refine ⟨_, rfl, ?_⟩
    have hd8 := hD.hd u hu2
    have b1 := two8 a8
    have hB8 := or8 hd8 b1
    rw [Int.toNat_natCast, ix5_1 (by omega), ix5_2 (by omega), Int.toNat_natCast, Int.toNat_natCast, mk, pr, nt, rv.back, hm, ix8a (by omega) to8, Int.toNat_natCast]
    have bits : ∀ p, (D.hd u ||| 2 ^ a).testBit p = true → (p : Int) < s 0 := fun p hp => by
      rw [Nat.testBit_or, Nat.testBit_two_pow, Bool.or_eq_true, decide_eq_true_eq] at hp
      rcases hp with z | z
      · exact hD.hp u p hu2 z
      · omega
    have hfl := fbD_let ws hD hu2 a8 to8
    have tl := rv.told _ (show 8 * a + to < 64 by omega) at1
    have hu9 := ws.hou (8 * a + to) (by omega)
    have pa9 := ws.pai (8 * a + to) (by omega)
    have m60 : D.ma u ≤ 60 := by
      rcases st with z | z | ⟨p, p8, hp, _⟩ <;> omega
    -- what is had, on both ways
    have had1 : ¬ (D.ma u : Int) = 1 → w 135 u = ((D.hd u ||| 2 ^ a : Nat) : Int) := fun z => by
      rcases st with q | q | ⟨p, p8, hp, m2, _, hb, _⟩
      · exact absurd q.1 hg
      · omega
      · have ea : a = p := by
          rw [hp] at ga
          unfold gvD at ga
          rw [if_pos (by omega), Int.toNat_natCast] at ga
          by_cases y : s (269 + (8 * p + to)) = 1
          · rw [if_pos y] at ga; omega
          · rw [if_neg y] at ga; omega
        rw [hC.had u hu2 m2, ea]
        congr 1
        refine Nat.eq_of_testBit_eq (fun j => ?_)
        rw [Nat.testBit_or, Nat.testBit_two_pow]
        by_cases y : p = j
        · rw [← y, hb]; rfl
        · rw [decide_eq_false y, Bool.or_false]
    have had2 : ¬ ¬ (D.ma u : Int) = 1 → ishl 1 (a : Int) = ((D.hd u ||| 2 ^ a : Nat) : Int) := fun z => by
      rcases st with q | q | ⟨p, p8, hp, m2, _, hb, _⟩
      · exact absurd q.1 hg
      · rw [q.2.2, Nat.zero_or, ishl1 (by omega)]
      · omega
    have F1 : ¬ s (32 + 5 * u) = -1 → ∀ x, x < 8 → tb (ior (ishl 1 (m : Int)) (ishl 1 (s (32 + 5 * u)))) x = fiR s u x := fun zp x hx => by
      obtain ⟨r, hr⟩ := Int.eq_ofNat_of_zero_le (show 0 ≤ s (32 + 5 * u) by omega)
      unfold fiR
      rw [hm, hr, tb_or, tb_bit (by omega) (by omega), tb_bit (by omega) (by omega), Int.toNat_natCast, Int.toNat_natCast]
      congr 1 <;> exact decide_eq_decide.mpr ⟨fun h => by omega, fun h => by omega⟩
    have F0 : ¬ ¬ s (32 + 5 * u) = -1 → ∀ x, x < 8 → tb (ior (ishl 1 (m : Int)) 0) x = fiR s u x := fun zp x hx => by
      have zp := Classical.not_not.mp zp
      unfold fiR
      rw [hm, zp, tb_or, tb_bit (by omega) (by omega), Int.toNat_natCast, tb_zero, Bool.or_false, decide_eq_false (p := (-1 : Int) = x) (by omega), Bool.or_false]
      exact decide_eq_decide.mpr ⟨fun h => by omega, fun h => by omega⟩
    have r64 : 0 ≤ ((8 * a + to : Nat) : Int) ∧ ((8 * a + to : Nat) : Int) < 64 := by omega
    have g5 : ¬ letP s (fiR s u) (D.hd u ||| 2 ^ a) to → Q (mI 5) w := fun z => k5 a ga (by
      cases y : fbD s D u a to
      · exact absurd (hfl.mp y) z
      · rfl)
    have g0 : ∀ B : Int, B = ((D.hd u ||| 2 ^ a : Nat) : Int) → letP s (fiR s u) (D.hd u ||| 2 ^ a) to → Q (mI 0) (ub (ub (ub (ub (ub w 135 u (ior B (ishl 1 (to : Int)))) 133 u (to : Int)) 134 u (w32 (w 134 u + 1))) 136 u (w32 (w 132 2 + w 15 (8 * a + to)))) 132 4 (w32 (w 132 4 + w 14 (8 * a + to)))) := fun B hB z => by
      have e := hC.give (x := u) (a := a) (to := to) (B := B) (p := w32 (w 132 4 + w 14 (8 * a + to))) hB hd8 a8 to8 m60 hu2 tl.2 hu9 hH (by rw [hC.pa, tl.1, w32_id (by unfold in32; omega)]; omega)
      exact k0 a _ ga (hfl.mpr z) e
    refine ⟨fun _ => ⟨r16, fun z => ⟨r16, by omega, by omega, fun zp => ?_, fun zp => ?_⟩, fun z => ⟨by omega, by omega, fun zp => ?_, fun zp => ?_⟩⟩, fun z => absurd (show ¬ (a : Int) = -1 by omega) z⟩
    · rw [had1 z]
      refine S_letsG (d := d + 4) rv ws (fiR s u) _ (F1 zp) (D.hd u ||| 2 ^ a) hB8 bits to to0 (fun y => ?_) (fun y => ?_)
      · exact ⟨_, rfl, fun _ => ⟨r16, r16, r16, r16, r64, r16, r64, g0 _ rfl y⟩, fun y => absurd (show ¬ (1 : Int) = 0 by decide) y⟩
      · exact ⟨_, rfl, fun y => absurd rfl y, fun _ => g5 y⟩
    · rw [had1 z]
      refine S_letsG (d := d + 4) rv ws (fiR s u) _ (F0 zp) (D.hd u ||| 2 ^ a) hB8 bits to to0 (fun y => ?_) (fun y => ?_)
      · exact ⟨_, rfl, fun _ => ⟨r16, r16, r16, r16, r64, r16, r64, g0 _ rfl y⟩, fun y => absurd (show ¬ (1 : Int) = 0 by decide) y⟩
      · exact ⟨_, rfl, fun y => absurd rfl y, fun _ => g5 y⟩
    · rw [had2 z]
      refine S_letsG (d := d + 4) rv ws (fiR s u) _ (F1 zp) (D.hd u ||| 2 ^ a) hB8 bits to to0 (fun y => ?_) (fun y => ?_)
      · exact ⟨_, rfl, fun _ => ⟨r16, r16, r16, r16, r64, r16, r64, g0 _ rfl y⟩, fun y => absurd (show ¬ (1 : Int) = 0 by decide) y⟩
      · exact ⟨_, rfl, fun y => absurd rfl y, fun _ => g5 y⟩
    · rw [had2 z]
      refine S_letsG (d := d + 4) rv ws (fiR s u) _ (F0 zp) (D.hd u ||| 2 ^ a) hB8 bits to to0 (fun y => ?_) (fun y => ?_)
      · exact ⟨_, rfl, fun _ => ⟨r16, r16, r16, r16, r64, r16, r64, g0 _ rfl y⟩, fun y => absurd (show ¬ (1 : Int) = 0 by decide) y⟩
      · exact ⟨_, rfl, fun y => absurd rfl y, fun _ => g5 y⟩
/-- the class's act -/
theorem S_doAct {d : Nat} {Q : MV → Wd → Prop} {w0 w : Wd} {s nms : Nat → Int} {D : DY} {i : Nat} (rv0 : RV (w0 4) (w0 5) (w0 6) (w0 7) (w0 8) (w0 9) (w0 10) (w0 11) (w0 12) (w0 13) (w0 14) (w0 15) s nms) (ws : WS s) (wp : WP s) (hi : (i : Int) < s 333) (hD : DOk s i D) (hC : CDy w0 w s D) (a c : Int) (ea : a = s (334 + 3 * i)) (ec : s (334 + 3 * i) = 0 → c = s (336 + 3 * i))
    (k : ∀ w', CDy w0 w' s (doD s D i) → Q (mI (doY s D i)) w') : Cw (d + 10) 108 [mR 132, mR 4, mI a, mI (s (335 + 3 * i)), mI c] w Q := by
  have rv := RV_fr hC.fr (by decide) rv0
  have un := ws.un
  have pe := ws.pe
  have ac := wp.acts
  have wh := wp.what i hi
  have hH := hD.hH
  apply Day_doAct_132_4_en
  rw [ea]
  by_cases za : s (334 + 3 * i) = 2
  · -- wait
    have hb := wp.wait i hi za
    obtain ⟨b, hb'⟩ := Int.eq_ofNat_of_zero_le hb.1
    rw [hb'] at hb ⊢
    rw [hC.hour, wtn (b' := b) rfl (by omega)]
    refine ⟨fun z => absurd za z, fun _ => ⟨fun z => ?_, fun z => ?_⟩⟩
    · have y : doY s D i = 0 := by
        unfold doY
        rw [if_pos za, hb', if_neg (by omega)]
      have e : doD s D i = wtD D b := by
        unfold doD
        rw [y, if_pos rfl, if_pos za, hb', Int.toNat_natCast]
      have k1 := k _ (by rw [e]; exact hC.wait b)
      rw [y] at k1; exact k1
    · have y : doY s D i = 8 := by
        unfold doY
        rw [if_pos za, hb', if_pos (by omega)]
      have e : doD s D i = D := by
        unfold doD
        rw [y, if_neg (by decide)]
      have k1 := k w (by rw [e]; exact hC)
      rw [y] at k1; exact k1
  · have hu := wp.unit i hi za
    obtain ⟨u, hu'⟩ := Int.eq_ofNat_of_zero_le hu.1
    rw [hu'] at hu ⊢
    have hu2 := hu.2
    have e3 := rv.uhour u hu2
    have e4 := rv.spo u hu2
    have e4 : w 11 (5 * u + 4) = spS s u := e4
    have nt := hC.nth u hu2
    have du := hC.due u hu2
    have wn := whN_cases s D u
    have gone := hD.gone hu2
    have r16 : 0 ≤ (u : Int) ∧ (u : Int) < 16 := by omega
    -- what goes wrong at first
    have bad : ∀ y : Int, 0 < whN s D u → y = whN s D u → Q (mI y) w := by
      intro y h1 h2
      have ey : doY s D i = whN s D u := by
        unfold doY
        rw [if_neg za, hu', Int.toNat_natCast]
        by_cases z1 : s (334 + 3 * i) = 1
        · rw [if_pos z1]
          unfold whU
          rw [if_pos h1]
        · rw [if_neg z1, if_pos h1]
      have e : doD s D i = D := by
        unfold doD
        rw [ey, if_neg (by omega)]
      have k1 := k w (by rw [e]; exact hC)
      rw [ey, ← h2] at k1; exact k1
    rw [ix5_3 (by omega), ix5_4 (by omega), Int.toNat_natCast, Int.toNat_natCast, Int.toNat_natCast, e3, e4, nt, du, hC.hour]
    refine ⟨fun _ => ⟨by omega, fun z1 => ⟨r16, fun z2 => bad 2 (by omega) (by omega), fun z2 => ⟨by omega, fun z3 => ⟨r16, fun z4 => ⟨fun z5 => ?_, fun z5 => ?_⟩, fun z4 => bad 3 (by omega) (by omega)⟩, fun z3 => bad 2 (by omega) (by omega)⟩⟩, fun z1 => bad 1 (by omega) (by omega)⟩, fun z => absurd za z⟩
    · -- use
      have wz : whN s D u = 0 := by omega
      have w1 : s (334 + 3 * i) = 1 := by omega
      have wu := whU_cases s D u
      have ey : doY s D i = whU s D u := by
        unfold doY
        rw [if_neg za, hu', Int.toNat_natCast, if_pos w1]
      have still : ¬ whU s D u = 0 → doD s D i = D := by
        intro g
        unfold doD
        rw [ey, if_neg g]
      apply Day_use_132_4_en
      rw [Int.toNat_natCast, nt, rv.n]
      refine ⟨r16, fun z6 => ?_, fun z6 => ?_⟩
      · have la := ws.la
        have wq := hC.who u hu2
        have hho : w 133 u = D.ho u := by
          rw [wq]
          unfold whoI
          rcases hD.st u hu2 with ⟨z1, z2⟩ | ⟨z1, z2, _⟩ | ⟨p, p8, hp, m2, _⟩
          · exfalso; omega
          · exfalso; omega
          · rw [hp, if_neg (by omega), if_neg (by omega)]
        refine S_wantMet (d := d + 6) rv ws u hu2 (D.ho u) D.H D.M hD.hM hho hC.hour hC.met ?_
        have ew : wnF s D.H D.M (D.ho u) (s (30 + 5 * u)) (s 3).toNat 0 = wnD s D (D.ho u) u := rfl
        have wa := ws.wa
        rw [ew]
        refine ⟨_, rfl, fun z7 => ⟨r16, r16, ?_⟩, fun z7 => ?_⟩
        · rcases wnF_bd s D.H D.M (D.ho u) (s (30 + 5 * u)) (s 3).toNat 0 with z | ⟨v, hv, hv8⟩
          · exact absurd z z7
          · rw [ew] at hv
            have y0 : whU s D u = 0 := by omega
            have e : doD s D i = usD D u v := by
              unfold doD
              rw [ey, y0, if_pos rfl, if_neg za, if_pos w1, hu', Int.toNat_natCast, hv, Int.toNat_natCast]
            rw [hv]
            have k1 := k _ (by rw [e]; exact hC.use (x := u) hD.hM (show v < 8 by omega))
            rw [ey, y0] at k1
            exact ⟨_, rfl, k1⟩
        · have z7 := Classical.not_not.mp z7
          have y7 : whU s D u = 7 := by omega
          have k1 := k w (by rw [still (by omega)]; exact hC)
          rw [ey, y7] at k1
          exact ⟨_, rfl, k1⟩
      · have y6 : whU s D u = 6 := by omega
        have k1 := k w (by rw [still (by omega)]; exact hC)
        rw [ey, y6] at k1
        exact ⟨_, rfl, k1⟩
    · -- give
      have wz : whN s D u = 0 := by omega
      have w0' : s (334 + 3 * i) = 0 := Classical.not_not.mp z5
      have wm := wp.whom i hi w0'
      obtain ⟨to, hto⟩ := Int.eq_ofNat_of_zero_le wm.1
      have ec := ec w0'
      rw [hto] at ec wm
      rw [ec]
      have to8 : to < 8 := by omega
      have ey : doY s D i = if gvD s u (D.ho u) to < 0 then 4 else if fbD s D u (gvD s u (D.ho u) to).toNat to = true then 5 else 0 := by
        unfold doY
        rw [if_neg za, hu', Int.toNat_natCast, if_neg (by omega), if_neg (by omega), hto, Int.toNat_natCast]
      have still : ¬ doY s D i = 0 → doD s D i = D := by
        intro g
        unfold doD
        rw [if_neg g]
      refine S_dayGive (d := d + 3) rv ws hD (by omega) hC u to hu2 to8 wm.2 (by omega) (fun g => ?_) (fun a ga g => ?_) (fun a w' ga g hc => ?_)
      · have y : doY s D i = 4 := by rw [ey, if_pos g]
        have k1 := k w (by rw [still (by omega)]; exact hC)
        rw [y] at k1
        exact ⟨_, rfl, k1⟩
      · have y : doY s D i = 5 := by rw [ey, ga, if_neg (by omega), Int.toNat_natCast, if_pos g]
        have k1 := k w (by rw [still (by omega)]; exact hC)
        rw [y] at k1
        exact ⟨_, rfl, k1⟩
      · have y : doY s D i = 0 := by rw [ey, ga, if_neg (by omega), Int.toNat_natCast, if_neg (by rw [g]; simp)]
        have e : doD s D i = giD s D u a to := by
          unfold doD
          rw [y, if_pos rfl, if_neg za, if_neg (by omega), hu', Int.toNat_natCast, hto, Int.toNat_natCast, ga, Int.toNat_natCast]
        have k1 := k w' (by rw [e]; exact hc)
        rw [y] at k1
        exact ⟨_, rfl, k1⟩

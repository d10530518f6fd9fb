theorem S_munit {d : Nat} {Q : MV → Wd → Prop} {w : Wd} (h : Inv w) (u x : Int) (k1 : ((0 ≤ u ∧ u < w 4 8) ∧ 0 ≤ x) ∧ x < 5 → Q (mI (w 11 (u * 5 + x).toNat)) (ub w 144 0 0)) (k2 : ¬ (((0 ≤ u ∧ u < w 4 8) ∧ 0 ≤ x) ∧ x < 5) → Q (mI 0) (ub w 144 0 1)) : Cw (d + 3) 198 [mR 144, mI u, mI x] w Q := by
  have e := h.rv.units
  have p := h.ws.un
  have p1 := h.ws.so
  apply M_unit_144_en
  (repeat' (apply spl <;> intro))
  · exact k2 (by omega)
  · exact k2 (by ((try simp (disch := (unfold in32; omega)) only [w32_id] at *); (try simp (disch := (unfold in32; omega)) only [w32_id] at *)); omega)
  · exact k2 (by omega)
  · exact k2 (by omega)
  · ((try simp (disch := (unfold in32; omega)) only [w32_id] at *); (try simp (disch := (unfold in32; omega)) only [w32_id] at *))
    (refine And.intro (by omega) ?_)
    refine (?_ : Q _ _)
    have hu : (u.toNat : Int) < w 146 2 := by omega
    have q := k1 (by omega)
    have t : x = 0 ∨ x = 1 ∨ x = 2 ∨ x = 3 := by omega
    have a0 := h.rv.usort _ hu
    have a1 := h.rv.mak _ hu
    have a2 := h.rv.par _ hu
    have a3 := h.rv.uhour _ hu
    rcases t with t | t | t | t <;> subst t
    · rw [show (u * 5 + 0).toNat = 5 * u.toNat by omega, a0] at q
      rw [show (29 + 5 * u + 1 + 0).toNat = 30 + 5 * u.toNat by omega]; exact q
    · rw [show (u * 5 + 1).toNat = 5 * u.toNat + 1 by omega, a1] at q
      rw [show (29 + 5 * u + 1 + 1).toNat = 31 + 5 * u.toNat by omega]; exact q
    · rw [show (u * 5 + 2).toNat = 5 * u.toNat + 2 by omega, a2] at q
      rw [show (29 + 5 * u + 1 + 2).toNat = 32 + 5 * u.toNat by omega]; exact q
    · rw [show (u * 5 + 3).toNat = 5 * u.toNat + 3 by omega, a3] at q
      rw [show (29 + 5 * u + 1 + 3).toNat = 33 + 5 * u.toNat by omega]; exact q
  · ((try simp (disch := (unfold in32; omega)) only [w32_id] at *); (try simp (disch := (unfold in32; omega)) only [w32_id] at *))
    have hx : x = 4 := by omega
    subst hx
    have hu : (u.toNat : Int) < w 146 2 := by omega
    have q := k1 (by omega)
    have a4 := h.rv.spo _ hu
    have a0 := h.ws.usort _ hu
    have a3 := h.ws.uhour _ hu
    have i1 : (29 + 5 * u + 1).toNat = 30 + 5 * u.toNat := by omega
    have i2 : (29 + 5 * u + 4).toNat = 33 + 5 * u.toNat := by omega
    rw [i1, i2]
    have a5 := h.ws.life (w 146 (30 + 5 * u.toNat)).toNat (by omega)
    rw [w32_id (x := 23 + w 146 (30 + 5 * u.toNat)) (by unfold in32; omega)]
    have i3 : (23 + w 146 (30 + 5 * u.toNat)).toNat = 23 + (w 146 (30 + 5 * u.toNat)).toNat := by omega
    rw [i3, w32_id (by unfold in32; omega)]
    (refine And.intro (by omega) ?_)
    (refine And.intro (by omega) ?_)
    (refine And.intro (by omega) ?_)
    rw [show (u * 5 + 4).toNat = 5 * u.toNat + 4 by omega, a4] at q
    exact q
theorem S_mwant {d : Nat} {Q : MV → Wd → Prop} {w : Wd} (h : Inv w) (u x : Int) (k1 : ((0 ≤ u ∧ u < w 4 11) ∧ 0 ≤ x) ∧ x < 4 → Q (mI (w 13 (u * 4 + x).toNat)) (ub w 144 0 0)) (k2 : ¬ (((0 ≤ u ∧ u < w 4 11) ∧ 0 ≤ x) ∧ x < 4) → Q (mI 0) (ub w 144 0 1)) : Cw (d + 3) 203 [mR 144, mI u, mI x] w Q := by
  have e := h.rv.wants
  have p := h.ws.wa
  apply M_want_144_en
  (repeat' (apply spl <;> intro))
  · exact k2 (by omega)
  · exact k2 (by ((try simp (disch := (unfold in32; omega)) only [w32_id] at *); (try simp (disch := (unfold in32; omega)) only [w32_id] at *)); omega)
  · exact k2 (by omega)
  · exact k2 (by omega)
  · ((try simp (disch := (unfold in32; omega)) only [w32_id] at *); (try simp (disch := (unfold in32; omega)) only [w32_id] at *))
    (refine And.intro (by omega) ?_)
    have q := k1 (by omega)
    rw [h.rv.want (u * 4 + x).toNat (by omega)] at q
    rw [show (109 + 4 * u + x).toNat = 109 + (u * 4 + x).toNat by omega]; exact q
theorem S_mact {d : Nat} {Q : MV → Wd → Prop} {w : Wd} (h : Inv w) (i x : Int) (k1 : ((0 ≤ i ∧ i < w 28 0) ∧ 0 ≤ x) ∧ x < 3 → Q (mI (if x = 0 then w 29 i.toNat else if x = 1 then w 30 i.toNat else w 31 i.toNat)) (ub w 144 0 0)) (k2 : ¬ (((0 ≤ i ∧ i < w 28 0) ∧ 0 ≤ x) ∧ x < 3) → Q (mI 0) (ub w 144 0 1)) : Cw (d + 3) 236 [mR 144, mI i, mI x] w Q := by
  have e := h.rp.acts
  have p := h.wp.acts
  apply M_act2_144_en
  (repeat' (apply spl <;> intro))
  · exact k2 (by omega)
  · exact k2 (by ((try simp (disch := (unfold in32; omega)) only [w32_id] at *); (try simp (disch := (unfold in32; omega)) only [w32_id] at *)); omega)
  · exact k2 (by omega)
  · exact k2 (by omega)
  · ((try simp (disch := (unfold in32; omega)) only [w32_id] at *); (try simp (disch := (unfold in32; omega)) only [w32_id] at *))
    (refine And.intro (by omega) ?_)
    have q := k1 (by omega)
    have hi : (i.toNat : Int) < w 146 333 := by omega
    have t : x = 0 ∨ x = 1 ∨ x = 2 := by omega
    rw [h.rp.what _ hi, h.rp.unit _ hi, h.rp.whom _ hi] at q
    rcases t with t | t | t <;> subst t
    · rw [if_pos rfl] at q
      rw [show (334 + 3 * i + 0).toNat = 334 + 3 * i.toNat by omega]; exact q
    · rw [if_neg (by decide), if_pos rfl] at q
      rw [show (334 + 3 * i + 1).toNat = 335 + 3 * i.toNat by omega]; exact q
    · rw [if_neg (by decide), if_neg (by decide)] at q
      rw [show (334 + 3 * i + 2).toNat = 336 + 3 * i.toNat by omega]; exact q
theorem S_mgain {d : Nat} {Q : MV → Wd → Prop} {w : Wd} (h : Inv w) (i : Int) (k1 : 0 ≤ i ∧ i < w 140 5 → Q (mI (w 143 i.toNat)) (ub w 144 0 0)) (k2 : ¬ (0 ≤ i ∧ i < w 140 5) → Q (mI 0) (ub w 144 0 1)) : Cw (d + 3) 261 [mR 144, mI i] w Q := by
  obtain ⟨e, p1, p2⟩ := h.gainers
  apply M_gain1_144_en
  (repeat' (apply spl <;> intro))
  · exact k2 (by omega)
  · exact k2 (by ((try simp (disch := (unfold in32; omega)) only [w32_id] at *); (try simp (disch := (unfold in32; omega)) only [w32_id] at *)); omega)
  · ((try simp (disch := (unfold in32; omega)) only [w32_id] at *); (try simp (disch := (unfold in32; omega)) only [w32_id] at *))
    (refine And.intro (by omega) ?_)
    have q := k1 (by omega)
    rw [h.gained i.toNat (by omega)] at q
    exact q

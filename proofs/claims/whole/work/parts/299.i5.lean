theorem S_latRef {d : Nat} {w w3 : Wd} (h : Inv w) (u v : Nat) (hu : (u : Int) < w 146 2) (hv : (v : Int) < w 146 3) (fr3 : Fr ([113] ++ scrR) w w3) (i113 : w3 113 2 = -1) (i144 : w3 144 = w 144) (val : Int)
    (x1 : ∀ l, LeH (TmS (w 146)) (hitS (TmS (w 146)) (w 146) u v) (rowsO (TmS (w 146)) (w 146) u) l → val = lastH (w 146) u v - l)
    (x0 : (∀ r, r ∈ rowsO (TmS (w 146)) (w 146) u → hitS (TmS (w 146)) (w 146) u v r = false) → val = -1) : Cw (d + 30) 248 [mR 144, mI u, mI v] w3 (Post w val) := by
  have un := h.ws.un
  have wa := h.ws.wa
  have e3 : w3 146 = w 146 := fr3 146 (by decide)
  have k1 : Inv (ub w3 144 0 0) := Inv.g_trial h (Fr.ub fr3 (by decide)) (fun i hi => by
    simp only [List.mem_cons, List.not_mem_nil, or_false] at hi
    rw [hi]; show w3 113 2 = _; rw [i113, h.wat.2]) (fun i hi => by
    simp only [List.mem_cons, List.not_mem_nil, or_false] at hi
    show up1 (w3 144) 0 0 i = _
    rw [up1_ap, if_neg (by omega), i144])
  have q1 : (ub w3 144 0 0) 401 = w 401 := fr3 401 (by decide)
  have q0 : (ub w3 144 0 0) 400 = w 400 := fr3 400 (by decide)
  obtain ⟨ks, lf, md, by', e30, e23, e33, e112, ks6, lf1, lf48, md47, by47, elast⟩ := lastH_ref h.ws hu hv
  have eR : rowsO (TmS (w 146)) (w 146) u = rowsL (TmS (w 146)) (fiR (w 146) u) := by
    unfold rowsO
    rw [if_pos (allF_in h.ws (fun q hq => TmS_ha hq) hu)]
  rw [eR] at x1 x0
  have m1 : ¬ (u : Int) < 0 := by omega
  have m2 : ¬ w 146 2 - 1 < (u : Int) := by omega
  have m3 : ¬ (v : Int) < 0 := by omega
  have m4 : ¬ w 146 3 - 1 < (v : Int) := by omega
  apply M_latest_144_en
  intro n1
  rw [e3, w32_id (x := w 146 2 - 1) (by unfold in32; omega), w32_id (x := w 146 3 - 1) (by unfold in32; omega), ixw_1 (by omega), ixw_3 (by omega), ixu_1 (by omega), ixu_4 (by omega), Int.toNat_natCast, Int.toNat_natCast, Int.toNat_natCast, Int.toNat_natCast]
  refine ⟨fun z => absurd z m1, fun _ => ⟨fun z => absurd z m2, fun _ => ⟨fun z => absurd z m3, fun _ => ⟨fun z => absurd z m4, fun _ => ⟨by omega, by omega, fun zs => ?_, fun zs => Post.k (x0 (fun r _ => hitS_sort zs)).symm k1 q1 q0⟩⟩⟩⟩⟩
  refine S_refT (d := d + 28) (w := w) (w3 := ub w3 144 0 0) h.ws e3 ?_
  intro w4 hF4 i4 law rt
  have fr4 : Fr ([113] ++ scrR) w w4 := Fr.tr (Fr.ub fr3 (by decide)) hF4 (by decide)
  have e4 : w4 146 = w 146 := fr4 146 (by decide)
  have i4' : ∀ i, i ∈ [2, 15, 41, 42, 62, 64, 66, 71, 72] → w4 144 i = w 144 i := fun i hi => by
    rw [i4 i hi]
    simp only [List.mem_cons, List.not_mem_nil, or_false] at hi
    show up1 (w3 144) 0 0 i = _
    rw [up1_ap, if_neg (by omega), i144]
  have j113 : w4 113 2 = -1 := by rw [hF4 113 (by decide)]; exact i113
  have n2 := rt.n2
  have n6 := rt.n6
  rw [e4, e30, ixa_23 (by omega), Int.toNat_natCast, e23, e33, e112, law]
  rw [w32_id (x := (md : Int) + lf) (by unfold in32; omega), w32_id (x := (md : Int) + lf - 1) (by unfold in32; omega)]
  have go : ∀ most : Int, most = lastH (w 146) u v - (md : Int) → Cw (d + 29) 213 [mR 144, mI (TmS (w 146)).n] w4 (fun _ v11 => (0 ≤ most → Wp (Cw (d + 29)) cd_M_latest (1, 0, n1) (Post w val) 55 [mR 144, mI u, mI v, mI most, mI 0] [] v11) ∧ (¬ 0 ≤ most → Post w val (mI (-1)) v11)) := by
    intro most hm
    refine S_begin (d := d + 28) (TmS (w 146)).n ?_
    intro w5 b1 b2 b35 b34 b36 b156 b160
    have e5 : w5 146 = w 146 := by rw [b1 146 (by decide)]; exact e4
    have r5 : RfT (w5 144) (w 146) (w5 151) (w5 152) (w5 153) (w5 154) (TmS (w 146)) := RfT_fr (fun c hc => b1 c (by
      simp only [List.mem_cons, List.not_mem_nil, or_false] at hc
      rcases hc with z | z | z | z <;> subst z <;> decide)) (b2 26 (by decide) (by decide) (by decide)) (b2 27 (by decide) (by decide) (by decide)) rt
    refine ⟨fun z => ?_, fun z => ?_⟩
    · exact L_l55 (d := d + 26) (n1 := n1) (Q := Post w val) (w := w5) (T := TmS (w 146)) (by rw [e5]; exact r5) (by rw [e5]; exact h.ws) b35 (by rw [b2 25 (by decide) (by decide) (by decide)]; exact law) u v (by rw [e5]; exact hu) (by rw [e5]; exact hv) most (by rw [e5, e33]; exact hm) (by rw [e5]; exact zs) (rowsL (TmS (w 146)) (fiR (w 146) u)) (fun w6 l hA hl => by
        obtain ⟨g1, g2, g3⟩ := AtS.inv h fr4 j113 i4' b1 b2 hA
        rw [e5] at hl ⊢
        exact Post.k (x1 l hl).symm g1 g2 g3) (fun w6 hA hl => by
        obtain ⟨g1, g2, g3⟩ := AtS.inv h fr4 j113 i4' b1 b2 hA
        rw [e5] at hl
        exact Post.k (x0 hl).symm g1 g2 g3) _ (rowsL (TmS (w 146)) (fiR (w 146) u)) [] w5 most 0 (Nat.le_refl _) (AtS.rfl' _) (by rw [e5]; exact SrS_begin n2 b34 b36 b156 b160) rfl (Or.inl ⟨rfl, rfl, fun r hr => by cases hr⟩)
    · obtain ⟨g1, g2, g3⟩ := AtS.inv h fr4 j113 i4' b1 b2 (AtS.rfl' w5)
      exact Post.k (x0 (fun r _ => hitS_late (by rw [e33]; omega))).symm g1 g2 g3
  refine ⟨by omega, by omega, by omega, by omega, fun zm => ?_, fun zm => ?_⟩
  · rw [w32_id (x := (md : Int) + lf - 1 - md) (by unfold in32; omega)]
    refine ⟨by omega, go _ (by rw [elast, Int.min_eq_right (by omega)])⟩
  · rw [w32_id (x := (by' : Int) - md) (by unfold in32; omega)]
    refine ⟨by omega, go _ (by rw [elast, Int.min_eq_left (by omega)])⟩
theorem P_latest {d : Nat} {w : Wd} (h : Inv w) (x y : Int) : Pair (d + 30) 118 248 [mI x, mI y] w := by
  unfold Pair
  have un := h.ws.un
  have wa := h.ws.wa
  have eU : w 4 8 = w 146 2 := h.rv.units
  have eW : w 4 11 = w 146 3 := h.rv.wants
  have k0 : Inv (ub w 144 0 0) := (Inv.mk h.tape h.fault h.ws h.wp h.wb h.rv h.rp h.rb h.im0 h.im1 h.stale h.told h.wat h.hands h.hand h.askers h.asked h.gainers h.gained h.mid h.star h.done h.day h.shown h.words h.reserved)
  have out : (x < 0 ∨ w 146 2 ≤ x ∨ y < 0 ∨ w 146 3 ≤ y) → Mid (d + 30) 248 [mI x, mI y] w (mI (-1)) w := by
    intro hx
    (apply Mid.k)
    apply M_latest_144_en
    intro n1
    rw [w32_id (x := w 146 2 - 1) (by unfold in32; omega), w32_id (x := w 146 3 - 1) (by unfold in32; omega)]
    refine ⟨fun _ => Post.k rfl k0 rfl rfl, fun _ => ⟨fun _ => Post.k rfl k0 rfl rfl, fun _ => ⟨fun _ => Post.k rfl k0 rfl rfl, fun _ => ⟨fun _ => Post.k rfl k0 rfl rfl, fun _ => ?_⟩⟩⟩⟩
    exfalso; omega
  apply X_latest_0_en
  rw [eU, eW]
  refine ⟨fun z => out (Or.inl z), fun z1 => ⟨fun z => out (by omega), fun z2 => ⟨fun z => out (by omega), fun z3 => ⟨fun z => out (by omega), fun z4 => ?_⟩⟩⟩⟩
  obtain ⟨u, hu⟩ := Int.eq_ofNat_of_zero_le (show 0 ≤ x by omega)
  obtain ⟨v, hv⟩ := Int.eq_ofNat_of_zero_le (show 0 ≤ y by omega)
  subst hu
  subst hv
  refine S_latX (d := d) h u v (by omega) (by omega) ?_ ?_
  · intro w2 l fr2 i113 i144 hl
    (apply Mid.k)
    refine S_latRef h u v (by omega) (by omega) fr2 i113 i144 _ (fun l' hl' => by rw [hl.uniq hl']) (fun hz => ?_)
    obtain ⟨⟨r, a, b, _⟩, _⟩ := hl
    rw [hz r a] at b; cases b
  · intro w2 fr2 i113 i144 hz
    (apply Mid.k)
    refine S_latRef h u v (by omega) (by omega) fr2 i113 i144 _ (fun l hl => ?_) (fun _ => rfl)
    obtain ⟨⟨r, a, b, _⟩, _⟩ := hl
    rw [hz r a] at b; cases b

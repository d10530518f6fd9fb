theorem AtS.inv {w w4 w5 w6 : Wd} (h : Inv w) (fr4 : Fr ([113] ++ scrR) w w4) (i113 : w4 113 2 = -1) (i4 : ∀ i, i ∈ [2, 15, 41, 42, 62, 64, 66, 71, 72] → w4 144 i = w 144 i) (b1 : Fr cR7 w4 w5) (b2 : ∀ i, i ≠ 34 → i ≠ 35 → i ≠ 36 → w5 144 i = w4 144 i) (hA : AtS w5 w6) : Inv w6 ∧ w6 401 = w 401 ∧ w6 400 = w 400 := by
  have f5 : Fr ([113] ++ scrR) w w5 := Fr.tr fr4 b1 (by decide)
  have f6 : Fr ([113] ++ scrR) w w6 := Fr.tr f5 hA.1 (by decide)
  refine ⟨Inv.g_trial h f6 (fun i hi => ?_) (fun i hi => ?_), f6 401 (by decide), f6 400 (by decide)⟩
  · simp only [List.mem_cons, List.not_mem_nil, or_false] at hi
    rw [hi, hA.1 113 (by decide), b1 113 (by decide), i113, h.wat.2]
  · have hi2 := hi
    simp only [List.mem_cons, List.not_mem_nil, or_false] at hi2
    rw [hA.2 i (by omega) (by omega), b2 i (by omega) (by omega) (by omega), i4 i hi]
theorem S_waysRef {d : Nat} {w w3 : Wd} (h : Inv w) (u v n : Nat) (hu : (u : Int) < w 146 2) (hv : (v : Int) < w 146 3) (n2 : 2 ≤ n) (n6 : n ≤ 6) (fr3 : Fr ([113] ++ scrR) w w3) (i113 : w3 113 2 = -1) (i144 : w3 144 = w 144) : Cw (d + 30) 247 [mR 144, mI u, mI v, mI n] w3 (Post w (accC (hitS (TmO (w 146) n (TmS (w 146)).back) (w 146) u v) (rowsO (TmO (w 146) n (TmS (w 146)).back) (w 146) u) : Nat)) := by
  have un := h.ws.un
  have wa := h.ws.wa
  have e3 : w3 146 = w 146 := fr3 146 (by decide)
  have k1 : Inv (ub w3 144 0 0) := Inv.g_trial h (Fr.ub fr3 (by decide)) (fun i hi => by
    simp only [List.mem_cons, List.not_mem_nil, or_false] at hi
    rw [hi]; show w3 113 2 = _; rw [i113, h.wat.2]) (fun i hi => by
    simp only [List.mem_cons, List.not_mem_nil, or_false] at hi
    show up1 (w3 144) 0 0 i = _
    rw [up1_ap, if_neg (by omega), i144])
  obtain ⟨ks, lf, md, by', e30, e23, e33, e112, ks6, lf1, lf48, md47, by47, elast⟩ := lastH_ref h.ws hu hv
  have eR : rowsO (TmO (w 146) n (TmS (w 146)).back) (w 146) u = rowsL (TmO (w 146) n (TmS (w 146)).back) (fiR (w 146) u) := by
    unfold rowsO
    rw [if_pos (allF_in h.ws (fun q hq => TmO_ha hq) hu)]
  rw [eR]
  have m1 : ¬ (u : Int) < 0 := by omega
  have m2 : ¬ w 146 2 - 1 < (u : Int) := by omega
  have m3 : ¬ (v : Int) < 0 := by omega
  have m4 : ¬ w 146 3 - 1 < (v : Int) := by omega
  have m5 : ¬ (n : Int) < 2 := by omega
  have m6 : ¬ 6 < (n : Int) := by omega
  apply M_ways_144_en
  intro n1
  rw [e3, w32_id (x := w 146 2 - 1) (by unfold in32; omega), w32_id (x := w 146 3 - 1) (by unfold in32; omega), ixw_1 (by omega), ixw_3 (by omega), ixu_1 (by omega), ixu_4 (by omega), Int.toNat_natCast, Int.toNat_natCast, Int.toNat_natCast, Int.toNat_natCast]
  refine ⟨fun z => absurd z m1, fun _ => ⟨fun z => absurd z m2, fun _ => ⟨fun z => absurd z m3, fun _ => ⟨fun z => absurd z m4, fun _ => ⟨fun z => absurd z m5, fun _ => ⟨fun z => absurd z m6, fun _ => ?_⟩⟩⟩⟩⟩⟩
  refine S_refT (d := d + 28) (w := w) (w3 := ub w3 144 0 0) h.ws e3 ?_
  intro w4 hF4 i4 law rt
  have fr4 : Fr ([113] ++ scrR) w w4 := Fr.tr (Fr.ub fr3 (by decide)) hF4 (by decide)
  have e4 : w4 146 = w 146 := fr4 146 (by decide)
  have i4' : ∀ i, i ∈ [2, 15, 41, 42, 62, 64, 66, 71, 72] → w4 144 i = w 144 i := fun i hi => by
    rw [i4 i hi]
    simp only [List.mem_cons, List.not_mem_nil, or_false] at hi
    show up1 (w3 144) 0 0 i = _
    rw [up1_ap, if_neg (by omega), i144]
  have j113 : w4 113 2 = -1 := by rw [hF4 113 (by decide)]; exact i113
  rw [e4, e30, ixa_23 (by omega), Int.toNat_natCast, e23, e33, e112]
  rw [w32_id (x := (md : Int) + lf) (by unfold in32; omega), w32_id (x := (md : Int) + lf - 1) (by unfold in32; omega)]
  have rO := RfT_O rt n2 n6
  have go : ∀ most : Int, most = lastH (w 146) u v - (md : Int) → w 146 (110 + 4 * v) = ((ks : Nat) : Int) → Cw (d + 29) 213 [mR 144, mI n] w4 (fun _ v11 => (0 ≤ most → Wp (Cw (d + 29)) cd_M_ways (1, 0, n1) (Post w (accC (hitS (TmO (w 146) n (TmS (w 146)).back) (w 146) u v) (rowsL (TmO (w 146) n (TmS (w 146)).back) (fiR (w 146) u)) : Nat)) 61 [mR 144, mI u, mI v, mI n, mI 0, mI most] [] v11) ∧ (¬ 0 ≤ most → Post w (accC (hitS (TmO (w 146) n (TmS (w 146)).back) (w 146) u v) (rowsL (TmO (w 146) n (TmS (w 146)).back) (fiR (w 146) u)) : Nat) (mI 0) v11)) := by
    intro most hm hs
    refine S_begin (d := d + 28) n ?_
    intro w5 b1 b2 b35 b34 b36 b156 b160
    have e5 : w5 146 = w 146 := by rw [b1 146 (by decide)]; exact e4
    have r5 : RfT (w5 144) (w 146) (w5 151) (w5 152) (w5 153) (w5 154) (TmO (w 146) n (TmS (w 146)).back) := RfT_fr (fun c hc => b1 c (by
      simp only [List.mem_cons, List.not_mem_nil, or_false] at hc
      rcases hc with z | z | z | z <;> subst z <;> decide)) (b2 26 (by decide) (by decide) (by decide)) (b2 27 (by decide) (by decide) (by decide)) rO
    refine ⟨fun z => ?_, fun z => ?_⟩
    · have lp := L_w61 (d := d + 26) (n1 := n1) (Q := Post w (accC (hitS (TmO (w 146) n (TmS (w 146)).back) (w 146) u v) (rowsL (TmO (w 146) n (TmS (w 146)).back) (fiR (w 146) u)) : Nat)) (w := w5) (T := TmO (w 146) n (TmS (w 146)).back) (by rw [e5]; exact r5) b35 u v (by omega) (by omega) most (by rw [e5, e33]; exact hm) (by rw [e5, hs, e30]) (rowsL (TmO (w 146) n (TmS (w 146)).back) (fiR (w 146) u)) (rows_len rO.P8 n6 _) (fun w6 hA => by
        obtain ⟨g1, g2, g3⟩ := AtS.inv h fr4 j113 i4' b1 b2 hA
        rw [e5]
        exact Post.k rfl g1 g2 g3) _ (rowsL (TmO (w 146) n (TmS (w 146)).back) (fiR (w 146) u)) [] w5 (Nat.le_refl _) (AtS.rfl' _) (by rw [e5]; exact SrS_begin n2 b34 b36 b156 b160) rfl
      exact lp
    · obtain ⟨g1, g2, g3⟩ := AtS.inv h fr4 j113 i4' b1 b2 (AtS.rfl' w5)
      refine Post.k ?_ g1 g2 g3
      rw [accC_no (fun x _ => hitS_late (by rw [e33]; omega))]
      rfl
  refine ⟨by omega, by omega, fun zs => ?_, fun zs => ?_⟩
  · refine ⟨by omega, by omega, by omega, by omega, fun zm => ?_, fun zm => ?_⟩
    · rw [w32_id (x := (md : Int) + lf - 1 - md) (by unfold in32; omega)]
      refine ⟨by omega, go _ (by rw [elast, Int.min_eq_right (by omega)]) zs⟩
    · rw [w32_id (x := (by' : Int) - md) (by unfold in32; omega)]
      refine ⟨by omega, go _ (by rw [elast, Int.min_eq_left (by omega)]) zs⟩
  · obtain ⟨g1, g2, g3⟩ := AtS.inv h fr4 j113 i4' (Fr.rfl' _ _) (fun _ _ _ _ => rfl) (AtS.rfl' w4)
    refine Post.k ?_ g1 g2 g3
    rw [accC_no (fun x _ => hitS_sort (by rw [e30]; exact zs))]
    rfl
theorem P_ways {d : Nat} {w : Wd} (h : Inv w) (x y t : Int) : Pair (d + 30) 116 247 [mI x, mI y, mI t] w := by
  unfold Pair
  have un := h.ws.un
  have wa := h.ws.wa
  have eU : w 4 8 = w 146 2 := h.rv.units
  have eW : w 4 11 = w 146 3 := h.rv.wants
  have k0 : Inv (ub w 144 0 0) := (Inv.mk h.tape h.fault h.ws h.wp h.wb h.rv h.rp h.rb h.im0 h.im1 h.stale h.told h.wat h.hands h.hand h.askers h.asked h.gainers h.gained h.mid h.star h.done h.day h.shown h.words h.reserved)
  have out : (x < 0 ∨ w 146 2 ≤ x ∨ y < 0 ∨ w 146 3 ≤ y ∨ t < 2 ∨ 6 < t) → Mid (d + 30) 247 [mI x, mI y, mI t] w (mI (-1)) w := by
    intro hx
    (apply Mid.k)
    apply M_ways_144_en
    intro n1
    rw [w32_id (x := w 146 2 - 1) (by unfold in32; omega), w32_id (x := w 146 3 - 1) (by unfold in32; omega)]
    refine ⟨fun _ => Post.k rfl k0 rfl rfl, fun _ => ⟨fun _ => Post.k rfl k0 rfl rfl, fun _ => ⟨fun _ => Post.k rfl k0 rfl rfl, fun _ => ⟨fun _ => Post.k rfl k0 rfl rfl, fun _ => ⟨fun _ => Post.k rfl k0 rfl rfl, fun _ => ⟨fun _ => Post.k rfl k0 rfl rfl, fun _ => ?_⟩⟩⟩⟩⟩⟩
    exfalso; omega
  apply X_ways_0_en
  rw [eU, eW]
  refine ⟨fun z => out (Or.inl z), fun z1 => ⟨fun z => out (by omega), fun z2 => ⟨fun z => out (by omega), fun z3 => ⟨fun z => out (by omega), fun z4 => ⟨fun z => out (by omega), fun z5 => ⟨fun z6 => ?_, fun z => out (by omega)⟩⟩⟩⟩⟩⟩
  obtain ⟨u, hu⟩ := Int.eq_ofNat_of_zero_le (show 0 ≤ x by omega)
  obtain ⟨v, hv⟩ := Int.eq_ofNat_of_zero_le (show 0 ≤ y by omega)
  obtain ⟨n, hn⟩ := Int.eq_ofNat_of_zero_le (show 0 ≤ t by omega)
  subst hu
  subst hv
  subst hn
  refine S_waysX (d := d) h u v n (by omega) (by omega) (by omega) (by omega) ?_
  intro w2 fr2 i113 i144
  (apply Mid.k)
  exact S_waysRef h u v n (by omega) (by omega) (by omega) (by omega) fr2 i113 i144

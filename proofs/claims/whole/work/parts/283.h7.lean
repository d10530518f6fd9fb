theorem P_quarrel {d : Nat} {w : Wd} (h : Inv w) (x y : Int) : Pair (d + 30) 144 263 [mI x, mI y] w := by
  unfold Pair
  have pe := h.ws.pe
  have un := h.ws.un
  have wa := h.ws.wa
  have e0 : w 4 0 = w 146 0 := h.rv.people
  have k0 : Inv (ub w 144 0 0) := (Inv.mk h.tape h.fault h.ws h.wp h.wb h.rv h.rp h.rb h.im0 h.im1 h.stale h.told h.wat h.hands h.hand h.askers h.asked h.gainers h.gained h.mid h.star h.done h.day h.shown h.words h.reserved)
  have out : (x < 0 ∨ w 146 0 ≤ x ∨ y < 0 ∨ w 146 0 ≤ y ∨ x = y) → Mid (d + 30) 263 [mI x, mI y] w (mI (-1)) w := by
    intro hx
    (apply Mid.k)
    apply M_quarrel_144_en
    intro n1
    rw [w32_id (x := w 146 0 - 1) (by unfold in32; omega)]
    refine ⟨fun _ => Post.k rfl k0 rfl rfl, fun _ => ⟨fun _ => Post.k rfl k0 rfl rfl, fun _ => ⟨fun _ => Post.k rfl k0 rfl rfl, fun _ => ⟨fun _ => Post.k rfl k0 rfl rfl, fun _ => ⟨fun _ => Post.k rfl k0 rfl rfl, fun _ => ?_⟩⟩⟩⟩⟩
    exfalso; omega
  apply X_quarrel_0_en
  rw [e0]
  refine ⟨fun z => out (Or.inl z), fun z1 => ⟨fun z => out (by omega), fun z2 => ⟨fun z => out (by omega), fun z3 => ⟨fun z => out (by omega), fun z4 => ⟨fun z5 => ?_, fun z => out (by omega)⟩⟩⟩⟩⟩
  obtain ⟨a, ha⟩ := Int.eq_ofNat_of_zero_le (show 0 ≤ x by omega)
  obtain ⟨b, hb'⟩ := Int.eq_ofNat_of_zero_le (show 0 ≤ y by omega)
  subst ha
  subst hb'
  have ab : a ≠ b := by omega
  have a8 : a < 8 := by omega
  have b8 : b < 8 := by omega
  have ha : (a : Int) < w 146 0 := by omega
  have hb2 : (b : Int) < w 146 0 := by omega
  have r1 : 0 ≤ ((8 * a + b : Nat) : Int) ∧ ((8 * a + b : Nat) : Int) < 64 := by omega
  have r2 : 0 ≤ ((8 * b + a : Nat) : Int) ∧ ((8 * b + a : Nat) : Int) < 64 := by omega
  have W8 : (w 146 3).toNat ≤ 8 := by omega
  have ww : w 146 3 = ((w 146 3).toNat : Int) := by omega
  have hb : TmB (TmQ (w 146) a b) := TmB_Q (TmB_told h.ws) a b
  rw [ix8a (by omega) (by omega), ix8a (by omega) (by omega), Int.toNat_natCast, Int.toNat_natCast]
  refine S_try (d := d + 26) h ?_
  intro w1 tc
  refine ⟨r1, r2, ?_⟩
  have f : ∀ c, c ∉ [114, 115, 116, 117] → w1 c = w c := fun c hc => tc.fr c hc
  refine S_weigh_112 (d := d + 14) (w := ub (ub w1 116 (8 * a + b) (-1)) 116 (8 * b + a) (-1)) tc.rv h.ws hb (by show w1 113 2 = -1; rw [f 113 (by decide)]; exact h.wat.2) (CtT_Q a8 b8 tc.ct) ?_
  intro w2 hF2 h93 hw
  have fr2 : Fr ([113] ++ scrR) w w2 := Fr.tr (Fr.ub (Fr.ub (Fr.tr (Fr.rfl' _ w) tc.fr (by decide)) (by decide)) (by decide)) hF2 (by decide)
  have e4 : w2 4 11 = w 146 3 := by rw [fr2 4 (by decide)]; exact h.rv.wants
  have e113 : w2 113 2 = -1 := by
    rw [h93 2 (by decide) (by decide) (by decide) (by decide)]
    show w1 113 2 = -1
    rw [f 113 (by decide)]; exact h.wat.2
  obtain ⟨fd, v1, v2, v3, v4, v5, v6, v7, v8⟩ := top_day h.ws hw.top
  have i2 : w2 144 = w 144 := by
    rw [hF2 144 (by decide)]
    show w1 144 = w 144
    exact f 144 (by decide)
  have i140 : w2 140 = w 140 := by
    rw [hF2 140 (by decide)]
    show w1 140 = w 140
    exact f 140 (by decide)
  refine S_metWants_112 (d := d + 26) (w := w2) (w 146 3).toNat W8 (by rw [e4]; exact ww) rfl v3 v4 v8 (valid_le v1) ?_
  intro m hm
  refine ⟨_, rfl, ?_⟩
  rw [e4]
  refine S_most_112 (d := d + 27) (w := ub w2 140 7 (iand (w32 (ishl 1 (w 146 3) - 1)) (ixor m (-1)))) h.ws e4 hw.fnd ?_
  intro v g hv hM
  refine ⟨_, rfl, ?_⟩
  (apply Mid.k)
  refine S_quarrelRef h a b ab ha hb2 (w3 := ubf (ub w2 140 7 (iand (w32 (ishl 1 (w 146 3) - 1)) (ixor m (-1)))) 129 g) (Fr.ubf (Fr.ub (Fr.tr (Fr.rfl' _ w) fr2 (by decide)) (by decide)) (by decide)) e113 i2 (fun i hi => ?_) hw.top v8 hm ?_ v hM
  · show up1 (w2 140) 7 _ i = _
    have z : i ≠ 7 := by intro z; subst z; revert hi; decide
    rw [up1_ap, if_neg z, i140]
  · rw [← ww]
    show up1 (w2 140) 7 (iand (w32 (ishl 1 (w 146 3) - 1)) (ixor m (-1))) 7 = _
    rw [up1_ap, if_pos rfl]

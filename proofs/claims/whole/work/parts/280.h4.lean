theorem P_other {d : Nat} {w : Wd} (h : Inv w) (x y t : Int) : Pair (d + 30) 156 268 [mI x, mI y, mI t] w := by
  unfold Pair
  have un := h.ws.un
  have wa := h.ws.wa
  have k0 : Inv (ub w 144 0 0) := (Inv.mk h.tape h.fault h.ws h.wp h.wb h.rv h.rp h.rb h.im0 h.im1 h.stale h.told h.wat h.hands h.hand h.askers h.asked h.gainers h.gained h.mid h.star h.done h.day h.shown h.words h.reserved)
  have out : (x < 2 ∨ 6 < x ∨ y < 0 ∨ 3 < y ∨ t < 0 ∨ 2 < t) → Mid (d + 30) 268 [mI x, mI y, mI t] w (mI (-1)) w := by
    intro hx
    (apply Mid.k)
    apply M_other_144_en
    refine ⟨fun _ => Post.k rfl k0 rfl rfl, fun _ => ⟨fun _ => Post.k rfl k0 rfl rfl, fun _ => ⟨fun _ => Post.k rfl k0 rfl rfl, fun _ => ⟨fun _ => Post.k rfl k0 rfl rfl, fun _ => ⟨fun _ => Post.k rfl k0 rfl rfl, fun _ => ⟨fun _ => Post.k rfl k0 rfl rfl, fun _ => ?_⟩⟩⟩⟩⟩⟩
    exfalso; omega
  apply X_other_0_en
  refine ⟨fun z => out (Or.inl z), fun z1 => ⟨fun z => out (by omega), fun z2 => ⟨fun z => out (by omega), fun z3 => ⟨fun z => out (by omega), fun z4 => ⟨fun z => out (by omega), fun z5 => ⟨fun z6 => ?_, fun z => out (by omega)⟩⟩⟩⟩⟩⟩
  obtain ⟨n, hn⟩ := Int.eq_ofNat_of_zero_le (show 0 ≤ x by omega)
  obtain ⟨b, hb'⟩ := Int.eq_ofNat_of_zero_le (show 0 ≤ y by omega)
  subst hn
  subst hb'
  have y1 : 2 ≤ n := by omega
  have y2 : n ≤ 6 := by omega
  have y3 : b ≤ 3 := by omega
  have y4 : 0 ≤ t := by omega
  have y5 : t ≤ 2 := by omega
  have hb : TmB (TmO (w 146) n b) := TmB_O (TmB_told h.ws) y1 y2
  refine S_try (d := d + 26) h ?_
  intro w1 tc
  have f : ∀ c, c ∉ [114, 115, 116, 117] → w1 c = w c := fun c hc => tc.fr c hc
  have ct0 := tc.ct
  have ct : CtT (w1 4) (w1 7) (up1 (up1 (w1 114) 1 n) 2 b) (w1 115) (w1 116) (w1 117) (-1) (TmO (w 146) n b) := by
    refine (CtT.mk (ct0.P) (ct0.P8) ?_ (hb.n2) (hb.n6) ?_ (y3) (fun q hq => ?_) (fun p q hp hq => ?_) (ct0.pn) (ct0.ak) (ct0.mates) (ct0.pn9) (ct0.hr9) (ct0.ak9) (ct0.wt0))
    · rw [up1_ap, if_neg (by decide), up1_ap, if_pos rfl]; rfl
    · rw [up1_ap, if_pos rfl]; rfl
    · rw [up1_ap, if_neg (by decide), up1_ap, if_neg (by decide)]; exact ct0.hands q hq
    · rw [up1_ap, if_neg (by decide), up1_ap, if_neg (by decide)]; exact ct0.gv p q hp hq
  refine S_weigh_112 (d := d + 14) (w := ub (ub w1 114 1 (n : Int)) 114 2 (b : Int)) tc.rv h.ws hb (by show w1 113 2 = -1; rw [f 113 (by decide)]; exact h.wat.2) ct ?_
  intro w2 hF2 h93 hw
  have fr2 : Fr ([113] ++ scrR) w w2 := Fr.tr (Fr.ub (Fr.ub (Fr.tr (Fr.rfl' _ w) tc.fr (by decide)) (by decide)) (by decide)) hF2 (by decide)
  have e146 : w2 146 = w 146 := fr2 146 (by decide)
  have e4 : w2 4 11 = w 146 3 := by rw [fr2 4 (by decide)]; exact h.rv.wants
  have e113 : w2 113 2 = -1 := by
    rw [h93 2 (by decide) (by decide) (by decide) (by decide)]
    show w1 113 2 = -1
    rw [f 113 (by decide)]; exact h.wat.2
  obtain ⟨fd, v1, v2, v3, v4, v5, v6, v7, v8⟩ := top_day h.ws hw.top
  have vS := valid_adjS v1
  have i2 : w2 144 = w 144 := by
    rw [hF2 144 (by decide)]
    show w1 144 = w 144
    exact f 144 (by decide)
  rw [top_sum h.ws hw.top]
  refine ⟨fun za => ⟨fun zb => ?_, fun zb => ?_⟩, fun za => ?_⟩
  · have e114 : w2 114 = up1 (up1 (w1 114) 1 n) 2 b := by rw [hF2 114 (by decide)]; rfl
    have e116 : w2 116 = w1 116 := by rw [hF2 116 (by decide)]; rfl
    have hpn : ∀ p q, p < (TmO (w 146) n b).P → q < (TmO (w 146) n b).P → (TmO (w 146) n b).gv p q = true → w2 116 (8 * p + q) = (TmO (w 146) n b).pn p q := fun p q hp hq hg => by rw [e116]; exact (ct.pn p q hp hq hg).1
    refine S_painsMet_112 (d := d + 26) (w := w2) hb h.ws e4 hw.key (by rw [e114]; exact ct.n) hpn rfl v3 v4 v8 vS ?_
    refine ⟨_, rfl, ?_⟩
    (apply Mid.k)
    exact S_otherRef h n b t y1 y2 y3 y4 y5 fr2 e113 i2 hw.top v8 _ (fun q => absurd q za) (fun q => absurd q zb) (fun _ => rfl)
  · (apply Mid.k)
    exact S_otherRef h n b t y1 y2 y3 y4 y5 fr2 e113 i2 hw.top v8 _ (fun q => absurd q za) (fun _ => rfl) (fun q => (t_n12 (t_one zb) q).elim)
  · refine S_most_112 (d := d + 27) (w := w2) h.ws e4 hw.fnd ?_
    intro v g hv hm
    refine ⟨_, rfl, ?_⟩
    (apply Mid.k)
    exact S_otherRef (w3 := ubf w2 129 g) h n b t y1 y2 y3 y4 y5 (Fr.ubf fr2 (by decide)) (show w2 113 2 = -1 from e113) (show w2 144 = w 144 from i2) hw.top v8 _ (fun _ => ⟨v, rfl, hm⟩) (fun q => (t_n01 (t_zero za) q).elim) (fun q => (t_n02 (t_zero za) q).elim)

/-! the reference's makes, one line, all lines -/
theorem ixu_1' {n : Nat} (h : n < 100) : w32 (((29 + 5 * n : Nat) : Int) + 1) = ((30 + 5 * n : Nat) : Int) := by rw [w32_id (by unfold in32; omega)]; omega
theorem ixu_2' {n : Nat} (h : n < 100) : w32 (((29 + 5 * n : Nat) : Int) + 2) = ((31 + 5 * n : Nat) : Int) := by rw [w32_id (by unfold in32; omega)]; omega
theorem ixu_3' {n : Nat} (h : n < 100) : w32 (((29 + 5 * n : Nat) : Int) + 3) = ((32 + 5 * n : Nat) : Int) := by rw [w32_id (by unfold in32; omega)]; omega
theorem ixu_4' {n : Nat} (h : n < 100) : w32 (((29 + 5 * n : Nat) : Int) + 4) = ((33 + 5 * n : Nat) : Int) := by rw [w32_id (by unfold in32; omega)]; omega
theorem unitsH_2 (ln a b s t : Int) (h : Nat → Int) (n0 : Nat) (h2 : h 2 = n0) : ∀ k : Nat, (unitsH ln a b s t k h) 2 = ((n0 + k : Nat) : Int)
  | 0 => h2
  | k + 1 => by
    have := unitsH_2 ln a b s t h n0 h2 k
    show (unitH ln a b s t (unitsH ln a b s t k h)) 2 = _
    unfold unitH
    rw [up1_self, this]; omega
theorem N_readMakes {d : Nat} {Q : MV → Wd → Prop} {w : Wd} {x : Tx} {p : Nat} {g h nm : Nat → Int} (hs : MSt x p w g) (hk : 10 ≤ tkF x p) (W : WS h)
    (kb : ∀ (e : Fl) (g2 h2 nm2 : Nat → Int), makesL x h nm p = .inl e → GF g g2 → (∀ i, i < 14 → nm2 i = nm i) → MBd e g2 → Q (mI 0) (M3 w g2 h2 nm2))
    (kg : ∀ (a b s n t : Int) (q : Nat), makesL x h nm p = .inr ((a, b, s, n, t), q) → ∀ g2 : Nat → Int, MSt x q w g2 → GF g g2 → g2 19 = g 19 → g2 20 = g 20 → Q (mI 1) (M3 w g2 (unitsH (g 20) a b s t n.toNat h) nm)) : Cw (d + 7) 189 [mR 144] (M3 w g h nm) Q := by
  have pe := W.pe
  have so := W.so
  have un := W.un
  obtain ⟨n0, hn⟩ : ∃ n : Nat, h 2 = n := ⟨(h 2).toNat, by omega⟩
  apply M_readMakes_144_en (d := d + 5)
  intro n1
  have U : ∀ {α : Fl ⊕ ((Int × Int × Int × Int × Int) × Nat)}, bnF (whF x h nm (-1) (nxF x p)) (fun a p2 => bnF (if tkF x p2 = 15 then whF x h nm a (nxF x p2) else .inr (-1, p2)) fun b p3 => bnF (soF x h nm p3) fun s p4 =>
    if tkF x p4 = 4 ∧ (1 ≤ vnF x p4 ∧ vnF x p4 ≤ 9) ∧ 16 < h 2 + vnF x p4 then .inl (4, plF x p4) else bnF (numF x 1 9 p4) fun n p5 => bnF (numF x 0 47 p5) fun t p6 => .inr ((a, b, s, n, t), p6)) = α → makesL x h nm p = α := fun y => by unfold makesL; exact y
  have lp : ∀ (a b s t : Int) (nn q : Nat) (g3 : Nat → Int), n0 + nn ≤ 16 → makesL x h nm p = .inr ((a, b, s, (nn : Int), t), q) → MSt x q w g3 → GF g g3 → g3 19 = g 19 → g3 20 = g 20 → g3 18 = t → ∀ r k : Nat, k + r = nn → Wp (Cw (d + 6)) cd_M_readMakes (2, 0, n1) Q 78 [mR 144, mI a, mI b, mI s, mI (nn : Nat), mI (k : Nat), none] [] (M3 w g3 (unitsH (g 20) a b s t k h) nm) := by
    intro a b s t nn q g3 hnn hm hs3 f e19 e20 e18 r
    induction r with
    | zero =>
      intro k hk2
      have : k = nn := by omega
      subst this
      apply M_readMakes_144_c78
      refine ⟨fun _ => ?_, fun z => by exfalso; omega⟩
      have := kg a b s (k : Int) t q hm g3 hs3 f e19 e20
      rw [Int.toNat_natCast] at this
      exact this
    | succ r ih =>
      intro k hk2
      have e2 := unitsH_2 (g 20) a b s t h n0 hn k
      apply M_readMakes_144_c78
      rw [M3_h, M3_g, e2, ixu (u := n0 + k) (by omega), ixu_1' (n := n0 + k) (by omega), ixu_2' (n := n0 + k) (by omega), ixu_3' (n := n0 + k) (by omega), ixu_4' (n := n0 + k) (by omega), Int.toNat_natCast, Int.toNat_natCast, Int.toNat_natCast, Int.toNat_natCast, Int.toNat_natCast, ixs (k := k) (by omega), e20, e18, M3_uh, M3_uh, M3_uh, M3_uh, M3_uh, M3_uh]
      have ex : up1 (up1 (up1 (up1 (up1 (unitsH (g 20) a b s t k h) (29 + 5 * (n0 + k)) (g 20)) (30 + 5 * (n0 + k)) s) (31 + 5 * (n0 + k)) a) (32 + 5 * (n0 + k)) b) (33 + 5 * (n0 + k)) t 2 = ((n0 + k : Nat) : Int) := by
        simp (disch := omega) only [up1_ne]
        exact e2
      rw [ex, w32_id (x := ((n0 + k : Nat) : Int) + 1) (by unfold in32; omega)]
      refine ⟨fun z => by exfalso; omega, fun _ => ⟨by omega, by omega, by omega, by omega, by omega, ?_⟩⟩
      have := ih (k + 1) (by omega)
      have eh : unitsH (g 20) a b s t (k + 1) h = up1 (up1 (up1 (up1 (up1 (up1 (unitsH (g 20) a b s t k h) (29 + 5 * (n0 + k)) (g 20)) (30 + 5 * (n0 + k)) s) (31 + 5 * (n0 + k)) a) (32 + 5 * (n0 + k)) b) (33 + 5 * (n0 + k)) t) 2 (((n0 + k : Nat) : Int) + 1) := by
        show unitH (g 20) a b s t (unitsH (g 20) a b s t k h) = _
        unfold unitH
        rw [e2, Int.toNat_natCast]
      rw [eh] at this
      exact this
  have rest : ∀ (a b : Int) (p3 : Nat) (g3 : Nat → Int), (∀ {α : Fl ⊕ ((Int × Int × Int × Int × Int) × Nat)}, bnF (soF x h nm p3) (fun s p4 =>
    if tkF x p4 = 4 ∧ (1 ≤ vnF x p4 ∧ vnF x p4 ≤ 9) ∧ 16 < h 2 + vnF x p4 then .inl (4, plF x p4) else bnF (numF x 1 9 p4) fun n p5 => bnF (numF x 0 47 p5) fun t p6 => .inr ((a, b, s, n, t), p6)) = α → makesL x h nm p = α) → MSt x p3 w g3 → GF g g3 → g3 19 = g 19 → g3 20 = g 20 → Wp (Cw (d + 6)) cd_M_readMakes (2, 0, n1) Q 28 [mR 144, mI a, mI b, none, none, none, none] [] (M3 w g3 h nm) := by
    intro a b p3 g3 U2 hs3 f e19 e20
    apply M_readMakes_144_c28
    refine N_sort (d := d + 3) hs3 so (fun e g4 he f4 hb => ⟨_, rfl, fun y => absurd rfl y, fun _ => kb e _ _ _ (U2 (bnF_l he)) (f.t f4) (fun _ _ => rfl) hb⟩) (fun s hso g4 hs4 f4 e18 x19 x20 => ⟨_, rfl, fun _ => ?_, fun y => absurd (by decide) y⟩)
    have F4 : GF g g4 := f.t f4
    have k11 := MdK_11 hs4.tok
    have go : ¬ (tkF x (nxF x p3) = 4 ∧ (1 ≤ vnF x (nxF x p3) ∧ vnF x (nxF x p3) ≤ 9) ∧ 16 < h 2 + vnF x (nxF x p3)) → Wp (Cw (d + 6)) cd_M_readMakes (2, 0, n1) Q 59 [mR 144, mI a, mI b, mI s, none, none, none] [] (M3 w g4 h nm) := fun c => by
      have U4 : ∀ {α : Fl ⊕ ((Int × Int × Int × Int × Int) × Nat)}, bnF (numF x 1 9 (nxF x p3)) (fun n p5 => bnF (numF x 0 47 p5) fun t p6 => .inr ((a, b, s, n, t), p6)) = α → makesL x h nm p = α := fun y => U2 (by rw [bnF_r hso, if_neg c]; exact y)
      apply M_readMakes_144_c59
      refine N_num (d := d + 3) hs4 (fun e g5 he f5 hb => ⟨_, rfl, fun y => absurd rfl y, fun _ => kb e _ _ _ (U4 (bnF_l he)) (F4.t f5) (fun _ _ => rfl) hb⟩) (fun l1 l2 hg g5 hs5 f5 y18 y19 y20 => ⟨_, rfl, fun _ => ?_, fun y => absurd (by decide) y⟩)
      have t4 := (numF_r hg).1
      rw [show (M3 w g5 h nm) 144 18 = vnF x (nxF x p3) by rw [M3_g, y18]]
      refine N_num (d := d + 3) hs5 (fun e g6 he f6 hb => ⟨_, rfl, fun y => absurd rfl y, fun _ => kb e _ _ _ (U4 (by rw [bnF_r hg]; exact bnF_l he)) ((F4.t f5).t f6) (fun _ _ => rfl) hb⟩) (fun m1 m2 hg2 g6 hs6 f6 z18 z19 z20 => ⟨_, rfl, fun _ => ?_, fun y => absurd (by decide) y⟩)
      obtain ⟨nn, hnn⟩ : ∃ n : Nat, vnF x (nxF x p3) = n := ⟨(vnF x (nxF x p3)).toNat, by omega⟩
      rw [hnn]
      exact lp a b s (vnF x (nxF x (nxF x p3))) nn (nxF x (nxF x (nxF x p3))) g6 (by omega) (by rw [← hnn]; exact U4 (by rw [bnF_r hg, bnF_r hg2])) hs6 ((F4.t f5).t f6) (by rw [z19, y19, x19, e19]) (by rw [z20, y20, x20, e20]) z18 nn 0 (by omega)
    rw [gB_w, M3_g, M3_h, e18, hn]
    by_cases z : tkF x (nxF x p3) = 4
    · have t := hs4.tok.k4 z
      have vb := vnF_in (x := x) (p := nxF x p3) (by rw [tkF_le.1 (by omega)]; exact z)
      rw [t.1, t.2.1, w32_id (x := (n0 : Int) + vnF x (nxF x p3)) (by unfold in32; omega)]
      refine ⟨fun y => absurd rfl y, fun _ => ⟨fun y => go (by omega), fun y => ⟨fun y2 => go (by omega), fun y2 => ⟨fun y3 => go (by omega), fun y3 => ?_⟩⟩⟩⟩
      exact kb (4, plF x (nxF x p3)) _ _ _ (U2 (by rw [bnF_r hso, if_pos ⟨z, by omega, by omega⟩])) (gB_f F4 4) (fun _ _ => rfl) (gB_b hs4.tok 4)
    · refine ⟨fun _ => go (fun c => z c.1), fun y => absurd (k11.2.2.1.mp (Classical.not_not.mp y)) z⟩
  refine N_next (d := d + 4) hs (by omega) (fun g1 hs1 f1 _ a19 a20 => ?_)
  refine N_who (d := d + 3) hs1 pe (fun e g2 he f2 hb => ⟨_, rfl, fun y => absurd rfl y, fun _ => kb e _ _ _ (U (bnF_l he)) (f1.t f2) (fun _ _ => rfl) hb⟩) (fun a ha g2 hs2 f2 e18 b19 b20 => ⟨_, rfl, fun _ => ?_, fun y => absurd (by decide) y⟩)
  rw [M3_g, e18]
  have F2 : GF g g2 := f1.t f2
  by_cases z : tkF x (nxF x (nxF x p)) = 10 + 5
  · refine wd_yes (MdK_yes hs2.tok z) ?_
    refine N_next (d := d + 4) hs2 (by omega) (fun g3 hs3 f3 _ c19 c20 => ?_)
    refine N_who (d := d + 3) hs3 pe (fun e g4 he f4 hb => ⟨_, rfl, fun y => absurd rfl y, fun _ => kb e _ _ _ (U (by rw [bnF_r ha, if_pos z]; exact bnF_l he)) ((F2.t f3).t f4) (fun _ _ => rfl) hb⟩) (fun b hb g4 hs4 f4 x18 d19 d20 => ⟨_, rfl, fun _ => ?_, fun y => absurd (by decide) y⟩)
    rw [show (M3 w g4 h nm) 144 18 = b by rw [M3_g, x18]]
    exact rest a b _ g4 (fun y => U (by rw [bnF_r ha, if_pos z, bnF_r hb]; exact y)) hs4 ((F2.t f3).t f4) (by rw [d19, c19, b19, a19]) (by rw [d20, c20, b20, a20])
  · refine wd_no (MdK_no hs2.tok (by decide) z) ?_
    exact rest a (-1) _ g2 (fun y => U (by rw [bnF_r ha, if_neg z]; exact y)) hs2 F2 (by rw [b19, a19]) (by rw [b20, a20])
theorem N_line {d : Nat} {Q : MV → Wd → Prop} {w : Wd} {x : Tx} {p : Nat} {g h nm : Nat → Int} (hs : MSt x p w g) (W : WS h)
    (kb : ∀ (e : Fl) (g2 h2 nm2 : Nat → Int), lineF x (g 20) (h, nm, g 19) p = .inl e → GF g g2 → (∀ i, i < 14 → nm2 i = nm i) → MBd e g2 → Q (mI 0) (M3 w g2 h2 nm2))
    (kg : ∀ (h2 nm2 : Nat → Int) (l2 : Int) (q : Nat), lineF x (g 20) (h, nm, g 19) p = .inr ((h2, nm2, l2), q) → (∀ i, i < 14 → nm2 i = nm i) → ∀ g2 : Nat → Int, MSt x q w g2 → GF g g2 → g2 19 = l2 → g2 20 = g 20 → Q (mI 1) (M3 w g2 h2 nm2)) : Cw (d + 8) 179 [mR 144] (M3 w g h nm) Q := by
  have tl := tkF_le (x := x) (p := p)
  have pe := W.pe
  have so := W.so
  apply M_line_144_en (d := d + 6)
  intro n1
  have fin : ∀ r : Int, r = 0 ∨ r = 1 → ∀ w3, Q (mI r) w3 → Wp (Cw (d + 7)) cd_M_line (2, 0, n1) Q 45 [none] [mI r] w3 := fun r hr w3 q => by
    apply M_line_144_c45
    exact ⟨hr, q⟩
  have B : ¬ tkF x p = 10 → ¬ tkF x p = 13 → ¬ tkF x p = 14 → ¬ tkF x p = 16 → ¬ tkF x p = 18 → ¬ tkF x p = 19 → Wp (Cw (d + 7)) cd_M_line (2, 0, n1) Q 45 [none] [mI 0] (M3 w (gB g 1) h nm) := fun a b c d' e f => fin 0 (Or.inl rfl) _ (kb (1, plF x p) _ _ _ (by unfold lineF; rw [if_neg a, if_neg b, if_neg c, if_neg d', if_neg e, if_neg f]) (gB_f (GF.r g) 1) (fun _ _ => rfl) (gB_b hs.tok 1))
  rw [gB_w, M3_g]
  by_cases c1 : tkF x p = 10 + 0
  · have c1' : tkF x p = 10 := c1
    refine wd_yes (MdK_yes hs.tok c1) ?_
    refine N_readWho (d := d) hs (by omega) W (fun e g2 h2 nm2 he f hn hb => ⟨_, rfl, Or.inl rfl, ?_⟩) (fun t a q he g2 hs2 f e19 e20 => ⟨_, rfl, Or.inr rfl, ?_⟩)
    · exact kb e _ _ _ (by unfold lineF; rw [if_pos c1']; exact bnF_l he) f hn hb
    · exact kg _ _ _ q (by unfold lineF; rw [if_pos c1', bnF_r he]) (fun i hi => up1_ne _ (by omega)) g2 hs2 f e19 e20
  refine wd_no (MdK_no hs.tok (by decide) c1) ?_
  have c1' : ¬ tkF x p = 10 := c1
  by_cases c2 : tkF x p = 10 + 3
  · have c2' : tkF x p = 13 := c2
    refine wd_yes (MdK_yes hs.tok c2) ?_
    refine N_readSort (d := d) hs (by omega) W (fun e g2 h2 nm2 he f hn hb => ⟨_, rfl, Or.inl rfl, ?_⟩) (fun v q he g2 hs2 f e19 e20 => ⟨_, rfl, Or.inr rfl, ?_⟩)
    · exact kb e _ _ _ (by unfold lineF; rw [if_neg c1', if_pos c2']; exact bnF_l he) f hn hb
    · exact kg _ _ _ q (by unfold lineF; rw [if_neg c1', if_pos c2', bnF_r he]) (fun i hi => up1_ne _ (by omega)) g2 hs2 f e19 e20
  refine wd_no (MdK_no hs.tok (by decide) c2) ?_
  have c2' : ¬ tkF x p = 13 := c2
  by_cases c3 : tkF x p = 10 + 4
  · have c3' : tkF x p = 14 := c3
    refine wd_yes (MdK_yes hs.tok c3) ?_
    refine N_readMakes (d := d) hs (by omega) W (fun e g2 h2 nm2 he f hn hb => ⟨_, rfl, Or.inl rfl, ?_⟩) (fun a b s n t q he g2 hs2 f e19 e20 => ⟨_, rfl, Or.inr rfl, ?_⟩)
    · exact kb e _ _ _ (by unfold lineF; rw [if_neg c1', if_neg c2', if_pos c3']; exact bnF_l he) f hn hb
    · exact kg _ _ _ q (by unfold lineF; rw [if_neg c1', if_neg c2', if_pos c3', bnF_r he]) (fun i hi => rfl) g2 hs2 f e19 e20
  refine wd_no (MdK_no hs.tok (by decide) c3) ?_
  have c3' : ¬ tkF x p = 14 := c3
  by_cases c4 : tkF x p = 10 + 6
  · have c4' : tkF x p = 16 := c4
    refine wd_yes (MdK_yes hs.tok c4) ?_
    refine N_readWants (d := d) hs (by omega) W (fun e g2 h2 nm2 he f hn hb => ⟨_, rfl, Or.inl rfl, ?_⟩) (fun a s v b q he g2 hs2 f e19 e20 => ⟨_, rfl, Or.inr rfl, ?_⟩)
    · exact kb e _ _ _ (by unfold lineF; rw [if_neg c1', if_neg c2', if_neg c3', if_pos c4']; exact bnF_l he) f hn hb
    · exact kg _ _ _ q (by unfold lineF; rw [if_neg c1', if_neg c2', if_neg c3', if_pos c4', bnF_r he]) (fun i hi => rfl) g2 hs2 f e19 e20
  refine wd_no (MdK_no hs.tok (by decide) c4) ?_
  have c4' : ¬ tkF x p = 16 := c4
  by_cases c5 : tkF x p = 10 + 8
  · have c5' : tkF x p = 18 := c5
    refine wd_yes (MdK_yes hs.tok c5) ?_
    refine N_readGives (d := d) hs (by omega) W (fun e g2 h2 nm2 he f hn hb => ⟨_, rfl, Or.inl rfl, ?_⟩) (fun a b v t q he g2 hs2 f e19 e20 => ⟨_, rfl, Or.inr rfl, ?_⟩)
    · exact kb e _ _ _ (by unfold lineF; rw [if_neg c1', if_neg c2', if_neg c3', if_neg c4', if_pos c5']; exact bnF_l he) f hn hb
    · exact kg _ _ _ q (by unfold lineF; rw [if_neg c1', if_neg c2', if_neg c3', if_neg c4', if_pos c5', bnF_r he]) (fun i hi => rfl) g2 hs2 f e19 e20
  refine wd_no (MdK_no hs.tok (by decide) c5) ?_
  have c5' : ¬ tkF x p = 18 := c5
  by_cases c6 : tkF x p = 10 + 9
  · have c6' : tkF x p = 19 := c6
    refine wd_yes (MdK_yes hs.tok c6) ?_
    refine N_readLaw (d := d) hs (by omega) (fun e g2 h2 nm2 he f hn hb => ⟨_, rfl, ?_⟩) (fun n b q he g2 hs2 f e19 e20 => ⟨_, rfl, ?_⟩)
    · exact fin 0 (Or.inl rfl) _ (kb e _ _ _ (by unfold lineF; rw [if_neg c1', if_neg c2', if_neg c3', if_neg c4', if_neg c5', if_pos c6']; exact bnF_l he) f hn hb)
    · exact fin 1 (Or.inr rfl) _ (kg _ _ _ q (by unfold lineF; rw [if_neg c1', if_neg c2', if_neg c3', if_neg c4', if_neg c5', if_pos c6', bnF_r he]) (fun i hi => rfl) g2 hs2 f e19 e20)
  refine wd_no (MdK_no hs.tok (by decide) c6) ?_
  exact B c1' c2' c3' c4' c5' c6

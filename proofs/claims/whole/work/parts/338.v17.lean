/-! a plan read by the reference, and the pair -/
theorem M3_a (w : Wd) (ac g h nm : Nat → Int) (i : Nat) (v : Int) : ub (M3 (ubf w 148 ac) g h nm) 148 i v = M3 (ubf w 148 (up1 ac i v)) g h nm := by
  unfold M3
  funext c j
  simp only [ub_ap, ubf_ap]
  by_cases e : c = 148
  · subst e; rfl
  · rw [if_neg e]
    by_cases e1 : c = 144
    · subst e1; rfl
    · by_cases e2 : c = 149
      · subst e2; rfl
      · by_cases e3 : c = 147
        · subst e3; rfl
        · rw [if_neg e1, if_neg e2, if_neg e3, if_neg e, if_neg e1, if_neg e2, if_neg e3, if_neg e]
theorem MSt.ac {x : Tx} {p : Nat} {w : Wd} {a b g : Nat → Int} (h : MSt x p (ubf w 148 a) g) : MSt x p (ubf w 148 b) g := MSt.mk h.tx h.tok h.f3 h.f5 h.f15 h.tape h.words
theorem jx3_0 {k : Nat} (h : k ≤ 50) : w32 (3 * (k : Int)) = ((3 * k : Nat) : Int) := by rw [w32_id (by unfold in32; omega)]; omega
theorem jx3_1 {k : Nat} (h : k ≤ 50) : w32 (((3 * k : Nat) : Int) + 1) = ((3 * k + 1 : Nat) : Int) := by rw [w32_id (by unfold in32; omega)]; omega
theorem jx3_2 {k : Nat} (h : k ≤ 50) : w32 (((3 * k : Nat) : Int) + 2) = ((3 * k + 2 : Nat) : Int) := by rw [w32_id (by unfold in32; omega)]; omega
theorem N_act {d : Nat} {Q : MV → Wd → Prop} {w : Wd} {x : Tx} {p k : Nat} {ac g h nm : Nat → Int} (hs : MSt x p (ubf w 148 ac) g) (hk : k ≤ 50) (g50 : g 50 = k) (hU : 0 ≤ w 146 2 ∧ w 146 2 ≤ 16) (hP : 0 ≤ w 146 0 ∧ w 146 0 ≤ 8)
    (kb : ∀ (e : Fl) (g2 ac2 : Nat → Int), actF x (w 146 2) (w 146 0) nm k p = .inl e → GF g g2 → MBd e g2 → Q (mI 0) (M3 (ubf w 148 ac2) g2 h nm))
    (kg : ∀ (r : Int × Int × Int) (q : Nat), actF x (w 146 2) (w 146 0) nm k p = .inr (r, q) → ∀ g2 ac2 : Nat → Int, MSt x q (ubf w 148 ac2) g2 → GF g g2 → (∀ i, i < 3 * k → ac2 i = ac i) → ac2 (3 * k) = r.1 → ac2 (3 * k + 1) = r.2.1 → ac2 (3 * k + 2) = r.2.2 → Q (mI 1) (M3 (ubf w 148 ac2) g2 h nm)) : Cw (d + 7) 232 [mR 144] (M3 (ubf w 148 ac) g h nm) Q := by
  have tl := tkF_le (x := x) (p := p)
  apply M_act0_144_en (d := d + 5)
  intro n1
  rw [M3_g]
  -- the number, and whom
  have q72 : ∀ (what lo hi : Int) (g1 : Nat → Int), 3 ≤ tkF x p → actF x (w 146 2) (w 146 0) nm k p = aqF x (w 146 2) (w 146 0) nm what lo hi p → k < 50 → 0 ≤ what → MSt x (nxF x p) (ubf w 148 (up1 (up1 ac (3 * k) what) (3 * k + 2) (-1))) g1 → GF g g1 → Wp (Cw (d + 6)) cd_M_act0 (2, 0, n1) Q 72 [mR 144, mI what, none] [mI hi, mI lo, mR 144] (M3 (ubf w 148 (up1 (up1 ac (3 * k) what) (3 * k + 2) (-1))) g1 h nm) := by
    intro what lo hi g1 t3 ua hk5 hw hs1 f1
    apply M_act0_144_c72
    refine N_num (d := d + 3) hs1 (fun e g2 he f2 hb => ⟨_, rfl, fun y => absurd rfl y, fun _ => kb e g2 _ (by rw [ua]; unfold aqF; exact bnF_l he) (f1.t f2) hb⟩) (fun l1 l2 hg g2 hs2 f2 e18 e19 e20 => ⟨_, rfl, fun _ => ?_, fun y => absurd (by decide) y⟩)
    have F2 : GF g g2 := f1.t f2
    have e50 : (M3 (ubf w 148 (up1 (up1 ac (3 * k) what) (3 * k + 2) (-1))) g2 h nm) 144 50 = (k : Nat) := by rw [M3_g, F2 50 (by omega) (by omega)]; exact g50
    rw [e50, jx3_0 hk, jx3_1 hk, Int.toNat_natCast, M3_g, e18, M3_a]
    refine ⟨by omega, fun w0 => ?_, fun w0 => ?_⟩
    · have w00 : what = 0 := by omega
      have uq : ∀ {α : Fl ⊕ ((Int × Int × Int) × Nat)}, bnF (ppF x (w 146 0) nm (nxF x (nxF x p))) (fun c p3 => .inr ((what, vnF x (nxF x p), c), p3)) = α → actF x (w 146 2) (w 146 0) nm k p = α := fun y => by
        rw [ua]
        unfold aqF
        rw [bnF_r hg, if_neg (by omega)]
        exact y
      have hs2' : MSt x (nxF x (nxF x p)) (ubf w 148 (up1 (up1 (up1 ac (3 * k) what) (3 * k + 2) (-1)) (3 * k + 1) (vnF x (nxF x p)))) g2 := hs2.ac
      refine N_isName (d := d + 5) hs2' (fun z => ⟨_, rfl, fun _ => ?_, fun y => absurd (by decide) y⟩) (fun z => ⟨_, rfl, fun y => absurd rfl y, fun _ => ?_⟩)
      · obtain ⟨n, hn⟩ : ∃ n : Nat, w 146 0 = n := ⟨(w 146 0).toNat, by omega⟩
        have e146 : (M3 (ubf w 148 (up1 (up1 (up1 ac (3 * k) what) (3 * k + 2) (-1)) (3 * k + 1) (vnF x (nxF x p)))) g2 h nm) 146 0 = (n : Nat) := hn
        rw [e146]
        have bd := fdF_bd nm (f256 (liF x (nxF x (nxF x p)))) 0 (w 146 0)
        have wd : ppF x (w 146 0) nm (nxF x (nxF x p)) = if fdF nm (f256 (liF x (nxF x (nxF x p)))) 0 (w 146 0) < 0 then .inl (3, plF x (nxF x (nxF x p))) else .inr (fdF nm (f256 (liF x (nxF x (nxF x p)))) 0 (w 146 0), nxF x (nxF x (nxF x p))) := by unfold ppF; rw [if_pos z]
        have c17 := (hs2'.tok.k6 z).2.1
        rw [← c17] at wd bd
        have KF : ∀ v : Int, v = fdF nm (g2 17) 0 (w 146 0) → 0 ≤ v → Cw (d + 6) 175 [mR 144] (M3 (ubf w 148 (up1 (up1 (up1 (up1 ac (3 * k) what) (3 * k + 2) (-1)) (3 * k + 1) (vnF x (nxF x p))) (3 * k + 2) v)) g2 h nm) (fun _ v14 => Q (mI 1) v14) := fun v hv v0 => by
          refine N_next (d := d + 4) hs2'.ac (by omega) (fun g3 hs3 f3 _ _ _ => ?_)
          refine kg (what, vnF x (nxF x p), v) _ (uq (by rw [bnF_r (show ppF x (w 146 0) nm (nxF x (nxF x p)) = .inr (v, nxF x (nxF x (nxF x p))) by rw [wd, ← hv, if_neg (by omega)])])) g3 _ hs3 (F2.t f3) (fun i hi => ?_) ?_ ?_ ?_
          · rw [up1_ne _ (by omega), up1_ne _ (by omega), up1_ne _ (by omega), up1_ne _ (by omega)]
          · rw [up1_ne _ (by omega), up1_ne _ (by omega), up1_ne _ (by omega), up1_self]
          · rw [up1_ne _ (by omega), up1_self]
          · rw [up1_self]
        refine N_find (d := d + 5) (a := 0) (n := n) (by omega) ⟨_, rfl, fun y => ?_, fun y => ?_⟩
        · have e50' : (M3 (ubf w 148 (up1 (up1 (up1 ac (3 * k) what) (3 * k + 2) (-1)) (3 * k + 1) (vnF x (nxF x p)))) g2 h nm) 144 50 = (k : Nat) := by rw [M3_g, F2 50 (by omega) (by omega)]; exact g50
          rw [e50', jx3_0 hk, jx3_2 hk, Int.toNat_natCast, M3_a]
          exact ⟨by omega, KF _ (by rw [hn]) y⟩
        · rw [gB_w]
          exact kb (3, plF x (nxF x (nxF x p))) _ _ (uq (bnF_l (by rw [wd, hn, if_pos (by omega)]))) (gB_f F2 3) (gB_b hs2'.tok 3)
      · rw [gB_w]
        exact kb (1, plF x (nxF x (nxF x p))) _ _ (uq (bnF_l (by unfold ppF; rw [if_neg z]))) (gB_f F2 1) (gB_b hs2'.tok 1)
    · refine kg (what, vnF x (nxF x p), -1) (nxF x (nxF x p)) (by rw [ua]; unfold aqF; rw [bnF_r hg, if_pos (by omega)]) g2 _ hs2.ac F2 (fun i hi => ?_) ?_ ?_ ?_
      · rw [up1_ne _ (by omega), up1_ne _ (by omega), up1_ne _ (by omega)]
      · rw [up1_ne _ (by omega), up1_ne _ (by omega), up1_self]
      · rw [up1_self]
      · rw [up1_ne _ (by omega), up1_self]
  -- which word
  have q19 : ∀ what : Nat, what ≤ 2 → 24 ≤ tkF x p ∧ tkF x p ≤ 26 → (k ≠ 50 → actF x (w 146 2) (w 146 0) nm k p = aqF x (w 146 2) (w 146 0) nm (what : Int) (if what = 2 then 1 else 0) (if what = 2 then 47 else w 146 2 - 1) p) → Wp (Cw (d + 6)) cd_M_act0 (2, 0, n1) Q 19 [mR 144, none, none] [mI (what : Nat)] (M3 (ubf w 148 ac) g h nm) := by
    intro what hw IN ua
    apply M_act0_144_c19
    rw [M3_g, g50, jx3_0 hk, jx3_2 hk, Int.toNat_natCast, Int.toNat_natCast, M3_a, M3_a]
    refine ⟨fun _ => ⟨fun k50 => ⟨by omega, by omega, ?_⟩, fun k50 => ?_⟩, fun y => by exfalso; omega⟩
    · have ua := ua (by omega)
      refine N_next (d := d + 4) hs.ac (by omega) (fun g1 hs1 f1 _ _ _ => ?_)
      have e2 : ∀ g', (M3 (ubf w 148 (up1 (up1 ac (3 * k) (what : Int)) (3 * k + 2) (-1))) g' h nm) 146 2 = w 146 2 := fun _ => rfl
      by_cases c : what = 2
      · rw [if_pos c, if_pos c] at ua
        refine ⟨fun y => absurd (by omega) y, fun _ => ?_⟩
        apply M_act0_144_c61
        refine ⟨fun y => absurd (by omega) y, fun _ => ?_⟩
        exact q72 (what : Int) 1 47 g1 (by omega) ua (by omega) (by omega) hs1 f1
      · rw [if_neg c, if_neg c] at ua
        refine ⟨fun _ => ?_, fun y => by exfalso; omega⟩
        apply M_act0_144_c61
        rw [e2, w32_id (x := w 146 2 - 1) (by unfold in32; omega)]
        refine ⟨fun _ => ?_, fun y => by exfalso; omega⟩
        exact q72 (what : Int) 0 (w 146 2 - 1) g1 (by omega) ua (by omega) (by omega) hs1 f1
    · have e12 : ub (ub (M3 (ubf w 148 ac) g h nm) 144 15 4) 144 16 (g 12) = M3 (ubf w 148 ac) (gB g 4) h nm := by rw [M3_ug, M3_ug]; rfl
      rw [e12]
      exact kb (4, plF x p) _ _ (by unfold actF; rw [if_pos IN, if_pos (by omega)]) (gB_f (GF.r g) 4) (gB_b hs.tok 4)
  by_cases z0 : tkF x p = 10 + 14
  · refine wd_yes (MdK_yes hs.tok z0) ?_
    exact q19 0 (by omega) (by omega) (fun k5 => by unfold actF; rw [if_pos (by omega), if_neg k5, if_neg (by omega), if_neg (by omega)]; rfl)
  refine wd_no (MdK_no hs.tok (by decide) z0) ?_
  by_cases z1 : tkF x p = 10 + 15
  · refine wd_yes (MdK_yes hs.tok z1) ?_
    exact q19 1 (by omega) (by omega) (fun k5 => by unfold actF; rw [if_pos (by omega), if_neg k5, if_neg (by omega), if_pos (by omega)]; rfl)
  refine wd_no (MdK_no hs.tok (by decide) z1) ?_
  by_cases z2 : tkF x p = 10 + 16
  · refine wd_yes (MdK_yes hs.tok z2) ?_
    exact q19 2 (by omega) (by omega) (fun k5 => by unfold actF; rw [if_pos (by omega), if_neg k5, if_pos (by omega)]; rfl)
  refine wd_no (MdK_no hs.tok (by decide) z2) ?_
  apply M_act0_144_c19
  refine ⟨fun y => absurd y (by decide), fun _ => ?_⟩
  rw [gB_w]
  exact kb (1, plF x p) _ _ (by unfold actF; rw [if_neg (by omega)]) (gB_f (GF.r g) 1) (gB_b hs.tok 1)
/-- what plan leaves of the reference's own fields -/
def GW (g0 g : Nat → Int) : Prop := ∀ i, (i = 1 ∨ (6 ≤ i ∧ i ≤ 10) ∨ 20 < i) → i ≠ 50 → g i = g0 i
theorem GW.f {g0 g g2 : Nat → Int} (h : GW g0 g) (f : GF g g2) : GW g0 g2 := fun i hi h5 => by rw [f i (by omega) (by omega)]; exact h i hi h5
def AcM (k : Nat) (a b c ac : Nat → Int) : Prop := ∀ i, i < k → ac (3 * i) = a i ∧ ac (3 * i + 1) = b i ∧ ac (3 * i + 2) = c i
theorem N_plan {d : Nat} {Q : MV → Wd → Prop} {w : Wd} {x : Tx} {g h nm a0 b0 c0 : Nat → Int} (hx : TxO x) (hM : x.M = 500) (hL : g 2 = x.L) (tape : ∀ i, i < 1040 → iand (w 145 i) 255 = x.t i) (words : ∀ j, j < 17 → w 150 j = nthA 0 resK j) (hU : 0 ≤ w 146 2 ∧ w 146 2 ≤ 16) (hP : 0 ≤ w 146 0 ∧ w 146 0 ≤ 8)
    (kb : ∀ (e : Fl) (g2 ac2 : Nat → Int), planF x (w 146 2) (w 146 0) nm 1041 (0, a0, b0, c0) 0 = .inl e → GW g g2 → g2 2 = 0 → MBd e g2 → Q (mI (w32 (-1 - e.2))) (M3 (ubf w 148 ac2) g2 h nm))
    (kg : ∀ (k : Nat) (a b c g2 ac2 s2 : Nat → Int), planF x (w 146 2) (w 146 0) nm 1041 (0, a0, b0, c0) 0 = .inr (k, a, b, c) → k ≤ 50 → GW g g2 → g2 2 = 0 → g2 15 = 0 → PlanW (w 146) k a b c → s2 333 = k → (∀ i, i < k → s2 (334 + 3 * i) = a i ∧ s2 (335 + 3 * i) = b i ∧ s2 (336 + 3 * i) = c i) → (∀ i, i < 333 ∨ 484 ≤ i → s2 i = w 146 i) → Q (mI (k : Nat)) (ubf (M3 (ubf w 148 ac2) g2 h nm) 146 s2)) : Cw (d + 9) 231 [mR 144] (M3 w g h nm) Q := by
  have hLo := hx.L
  apply M_plan_144_en (d := d + 7)
  intro n1
  rw [M3_g, M3_ug, M3_ug, M3_ug, M3_ug, M3_ug, M3_ug, M3_ug, hL]
  have lR : ∀ (m p k : Nat) (a b c g2 ac : Nat → Int), 1041 ≤ p + m → p ≤ rdb x → k ≤ 50 → planF x (w 146 2) (w 146 0) nm 1041 (0, a0, b0, c0) 0 = planF x (w 146 2) (w 146 0) nm m (k, a, b, c) p → MSt x p (ubf w 148 ac) g2 → GW g g2 → g2 2 = 0 → g2 50 = (k : Nat) → PlanW (w 146) k a b c → AcM k a b c ac → Wp (Cw (d + 8)) cd_M_plan (1, 0, n1) Q 14 [mR 144] [] (M3 (ubf w 148 ac) g2 h nm) := by
    intro m
    induction m with
    | zero =>
      intro p k a b c g2 ac hm hp
      have e : rdb x ≤ x.L := Nat.min_le_left _ _
      exfalso; omega
    | succ m ih =>
      intro p k a b c g2 ac hm hp hk hr hs f e2 e50 W A
      have er : rdb x ≤ x.L := Nat.min_le_left _ _
      have k11 := MdK_11 hs.tok
      apply M_plan_144_c14
      rw [M3_g]
      by_cases t0 : tkF x p = 0
      · refine ⟨fun _ => ?_, fun y => absurd (k11.1.mpr t0) y⟩
        refine S_keepPlan (d := d + 7) k hk (by rw [M3_g]; exact e50) (fun s2 s333 s1 s3 => ?_)
        have eg : (ubf (M3 (ubf w 148 ac) g2 h nm) 146 s2) 144 50 = (k : Nat) := by
          show (M3 (ubf w 148 ac) g2 h nm) 144 50 = _
          rw [M3_g]; exact e50
        rw [eg]
        refine kg k a b c g2 ac s2 (by rw [hr]; unfold planF; rw [if_pos t0]) hk f e2 hs.f15 W s333 (fun i hi => ?_) s3
        obtain ⟨u1, u2, u3⟩ := A i hi
        have b1 := s1 (3 * i) (by omega)
        have b2 := s1 (3 * i + 1) (by omega)
        have b3 := s1 (3 * i + 2) (by omega)
        rw [show 334 + (3 * i + 1) = 335 + 3 * i by omega] at b2
        rw [show 334 + (3 * i + 2) = 336 + 3 * i by omega] at b3
        exact ⟨b1.trans u1, b2.trans u2, b3.trans u3⟩
      have U : planF x (w 146 2) (w 146 0) nm 1041 (0, a0, b0, c0) 0 = bnF (actF x (w 146 2) (w 146 0) nm k p) fun r p2 => if tkF x p2 = 3 then planF x (w 146 2) (w 146 0) nm m (k + 1, up1 a k r.1, up1 b k r.2.1, up1 c k r.2.2) (nxF x p2) else .inl (1, plF x p2) := by
        rw [hr]
        show (if tkF x p = 0 then _ else _) = _
        rw [if_neg t0]
      refine ⟨fun y => absurd (k11.1.mp y) t0, fun _ => ?_⟩
      refine N_act (d := d + 1) hs hk e50 hU hP (fun e g3 ac3 he f3 hb => ⟨_, rfl, fun _ => ?_, fun y => absurd rfl y⟩) (fun r q he g3 ac3 hs3 f3 o1 o2 o3 o4 => ⟨_, rfl, fun y => absurd y (by decide), fun _ => ?_⟩)
      · rw [M3_g, hb.2]
        exact kb e g3 ac3 (by rw [U]; exact bnF_l he) (f.f f3) (by rw [f3 2 (by omega) (by omega)]; exact e2) hb
      · have ar := actF_r he
        refine N_sign (d := d + 5) hs3 (fun y g4 f4 hb => ⟨_, rfl, fun y2 => absurd rfl y2, fun _ => ?_⟩) (fun y g4 hs4 f4 e194 e204 => ⟨_, rfl, fun _ => ?_, fun y2 => absurd (by decide) y2⟩)
        · rw [M3_g, hb.2]
          exact kb (1, plF x q) g4 ac3 (by rw [U, bnF_r he, if_neg y]) ((f.f f3).f f4) (by rw [f4 2 (by omega) (by omega), f3 2 (by omega) (by omega)]; exact e2) hb
        · have n3 := tkF_3 y
          have nx := tkF_nx (x := x) (p := q) (by omega)
          have e505 : g4 50 = (k : Nat) := by rw [f4 50 (by omega) (by omega), f3 50 (by omega) (by omega)]; exact e50
          rw [M3_g, e505, ixs (k := k) (by omega), M3_ug]
          refine ih (nxF x q) (k + 1) (up1 a k r.1) (up1 b k r.2.1) (up1 c k r.2.2) _ ac3 (by omega) n3 (by omega) ?_ (hs4.g18 50 _ (by omega)) (fun i hi h5 => ?_) ?_ (up1_self _ _ _) (fun i hi => ?_) (fun i hi => ?_)
          · rw [U, bnF_r he, if_pos y]
          · rw [up1_ne _ h5]; exact ((f.f f3).f f4) i hi h5
          · rw [up1_ne _ (by decide), f4 2 (by omega) (by omega), f3 2 (by omega) (by omega)]; exact e2
          · by_cases e : i = k
            · rw [e, up1_self, up1_self, up1_self]; exact ar.1
            · rw [up1_ne _ e, up1_ne _ e, up1_ne _ e]; exact W i (by omega)
          · by_cases e : i = k
            · rw [e, up1_self, up1_self, up1_self]; exact ⟨o2, o3, o4⟩
            · rw [up1_ne _ e, up1_ne _ e, up1_ne _ e, o1 _ (by omega), o1 _ (by omega), o1 _ (by omega)]; exact A i (by omega)
  have ew : w = ubf w 148 (w 148) := (ubf_sf0 w 148).symm
  generalize hg0 : up1 (up1 (up1 (up1 (up1 (up1 (up1 g 0 0) 3 ((x.L : Nat) : Int)) 2 0) 4 0) 5 500) 15 0) 50 0 = g0
  have q3 : g0 3 = x.L := by rw [← hg0]; rfl
  have q5 : g0 5 = 500 := by rw [← hg0]; rfl
  have q4 : g0 4 = ((0 : Nat) : Int) := by rw [← hg0]; rfl
  have q2 : g0 2 = 0 := by rw [← hg0]; rfl
  have q15 : g0 15 = 0 := by rw [← hg0]; rfl
  have q50 : g0 50 = 0 := by rw [← hg0]; rfl
  have fg : GW g g0 := fun i hi h5 => by
    rw [← hg0, up1_ne _ h5, up1_ne _ (by omega), up1_ne _ (by omega), up1_ne _ (by omega), up1_ne _ (by omega), up1_ne _ (by omega), up1_ne _ (by omega)]
  refine S_next (d := d + 6) (x := x) hx tape (p := 0) (Nat.zero_le _) ?_ ?_ ?_ (fun g3 hg fr => ?_)
  · rw [M3_g]; exact q3
  · rw [M3_g, q5, hM]; rfl
  · rw [M3_g]; exact q4
  · rw [M3_g] at fr
    rw [M3_fg]
    have fe : ∀ j, j ≠ 4 → (j < 11 ∨ 20 < j ∨ j = 15) → g3 j = g0 j := fun j a b => fr j a (by omega) (by omega) (by omega) (by omega) (by omega)
    have := lR 1041 0 0 a0 b0 c0 g3 (w 148) (by omega) (Nat.zero_le _) (by omega) rfl (MSt.mk hx (MdT_K hg) (by rw [fe 3 (by omega) (by omega)]; exact q3) (by rw [fe 5 (by omega) (by omega), q5, hM]; rfl) (by rw [fe 15 (by omega) (by omega)]; exact q15) tape words) (fun i hi h5 => by rw [fe i (by omega) (by omega)]; exact fg i hi h5) (by rw [fe 2 (by omega) (by omega)]; exact q2) (by rw [fe 50 (by omega) (by omega), q50]; rfl) (fun i hi => absurd hi (Nat.not_lt_zero _)) (fun i hi => absurd hi (Nat.not_lt_zero _))
    rw [← ew] at this
    exact this

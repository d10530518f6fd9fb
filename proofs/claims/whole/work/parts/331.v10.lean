/-! the class's makes, one line, all lines (by gen/mkv10.py) -/
def MkI (ln a b s t p0 p1 : Int) (n0 k : Nat) (h : Nat → Int) : Prop := h 2 = ((n0 + k : Nat) : Int) ∧ h 0 = p0 ∧ h 1 = p1 ∧ (∀ u : Nat, u < n0 → h (29 + 5 * u) < ln) ∧ ∀ u : Nat, n0 ≤ u → u < n0 + k → h (29 + 5 * u) = ln ∧ h (30 + 5 * u) = s ∧ h (31 + 5 * u) = a ∧ h (32 + 5 * u) = b ∧ h (33 + 5 * u) = t
theorem MkI_next {ln a b s t p0 p1 : Int} {n0 k : Nat} {h : Nat → Int} (H : MkI ln a b s t p0 p1 n0 k h) : MkI ln a b s t p0 p1 n0 (k + 1) (unitH ln a b s t h) := by
  obtain ⟨h2, h0, h1, hl, hu⟩ := H
  unfold unitH
  rw [h2, Int.toNat_natCast]
  refine ⟨?_, ?_, ?_, fun u hu2 => ?_, fun u a1 a2 => ?_⟩
  · simp (disch := omega) only [up1_ne, up1_self]; omega
  · simp (disch := omega) only [up1_ne, up1_self]; exact h0
  · simp (disch := omega) only [up1_ne, up1_self]; exact h1
  · simp (disch := omega) only [up1_ne, up1_self]; exact hl u hu2
  · by_cases e : u = n0 + k
    · subst e
      simp (disch := omega) only [up1_ne, up1_self]
      exact ⟨True.intro, True.intro, True.intro, True.intro, True.intro⟩
    · simp (disch := omega) only [up1_ne, up1_self]; exact hu u a1 (by omega)
theorem numF_l {x : Tx} {lo hi : Int} {p : Nat} {e : Fl} (h : numF x lo hi p = .inl e) : ¬ (tkF x p = 4 ∧ lo ≤ vnF x p ∧ vnF x p ≤ hi) := fun z => by
  unfold numF at h
  rw [if_pos z.1, if_pos z.2] at h
  cases h
theorem L_makes {d : Nat} {Q : MV → Wd → Prop} {w : Wd} {x : Tx} {p : Nat} {h nm : Nat → Int} {ln : Int} (hs : CSt x p w) (hk : 10 ≤ tkF x p) (D : Dr h nm w) (hln : 0 ≤ ln ∧ ln ≤ 2000) (hlt : ∀ u : Nat, (u : Int) < h 2 → h (29 + 5 * u) < ln)
    (kb : ∀ (e : Fl) (w2 : Wd), makesL x h nm p = .inl e → Fr dcC w w2 → CBd e w2 → Q (mI 0) w2)
    (kg : ∀ (a b s n t : Int) (q : Nat) (w2 : Wd), makesL x h nm p = .inr ((a, b, s, n, t), q) → Fr dcC w w2 → CSt x q w2 → Dr (unitsH ln a b s t n.toNat h) nm w2 → w2 16 17 = w 16 17 → (∀ u : Nat, (u : Int) < (unitsH ln a b s t n.toNat h) 2 → (unitsH ln a b s t n.toNat h) (29 + 5 * u) ≤ ln) → Q (mI 1) w2) : Cw (d + 7) 37 [mR 16, mR 2] w Q := by
  have pe := D.ws.pe
  have so := D.ws.so
  have un := D.ws.un
  obtain ⟨n0, hn⟩ : ∃ n : Nat, h 2 = n := ⟨(h 2).toNat, by omega⟩
  have e0h : w 16 0 = h 0 := D.rv.people
  apply Village_makesLine_16_2_en (d := d + 5)
  intro n1
  -- the loop
  have lp : ∀ (a b s t : Int) (nn q : Nat), 0 ≤ a ∧ a < h 0 → (b = -1 ∨ (0 ≤ b ∧ b < h 0 ∧ b ≠ a)) → 0 ≤ s ∧ s < h 1 → 0 ≤ t ∧ t ≤ 47 → n0 + nn ≤ 16 → makesL x h nm p = .inr ((a, b, s, (nn : Int), t), q) → ∀ (r k : Nat) (w3 : Wd), k + r = nn → Fr dcC w w3 → CSt x q w3 → Dr (unitsH ln a b s t k h) nm w3 → MkI ln a b s t (h 0) (h 1) n0 k (unitsH ln a b s t k h) → w3 16 17 = w 16 17 → Wp (Cw (d + 6)) cd_Village_makesLine (2, 0, n1) Q 71 [mR 16, none, mI a, mI b, mI s, mI (nn : Nat), mI t, mI (n0 : Nat), mI (k : Nat)] [] w3 := by
    intro a b s t nn q ha hb hs2 ht hnn hm r
    induction r with
    | zero =>
      intro k w3 hk2 fr hs3 D3 M c17
      have : k = nn := by omega
      subst this
      apply Village_makesLine_16_2_c71
      refine ⟨fun _ => ?_, fun z => by exfalso; omega⟩
      refine kg a b s (k : Int) t q w3 hm fr hs3 (by rw [Int.toNat_natCast]; exact D3) c17 (fun u hu => ?_)
      rw [Int.toNat_natCast] at hu ⊢
      have := M.1
      by_cases z : u < n0
      · have := M.2.2.2.1 u z; omega
      · have := (M.2.2.2.2 u (by omega) (by omega)).1; omega
    | succ r ih =>
      intro k w3 hk2 fr hs3 D3 M c17
      have e8 : w3 16 8 = ((n0 + k : Nat) : Int) := by rw [D3.rv.units, M.1]
      apply Village_makesLine_16_2_c71
      rw [e8, ix5_0 (u := n0 + k) (by omega), ix5_1 (u := n0 + k) (by omega), ix5_2 (u := n0 + k) (by omega), ix5_3 (u := n0 + k) (by omega), ix5_4 (u := n0 + k) (by omega), Int.toNat_natCast, Int.toNat_natCast, Int.toNat_natCast, Int.toNat_natCast, Int.toNat_natCast, Int.toNat_natCast, ixs (k := k) (by omega), w32_id (x := ((n0 + k : Nat) : Int) + 1) (by unfold in32; omega)]
      have lv := D3.rv.lives s.toNat (by rw [M.2.2.1]; omega)
      have lvb := D3.ws.life s.toNat (by rw [M.2.2.1]; omega)
      have el : w32 (t + w3 22 s.toNat) = t + w3 22 s.toNat := w32_id (by rw [lv]; unfold in32; omega)
      rw [el]
      refine ⟨fun z => by exfalso; omega, fun _ => ⟨by omega, by omega, by omega, by omega, by omega, by omega, by omega, ?_⟩⟩
      have W2 := WS_unit (n := n0 + k) (ln := ln) (a := a) (b := b) (s := s) (t := t) D3.ws M.1 (by omega) hln (by rw [M.2.1]; exact ha) (by rw [M.2.1]; exact hb) (by rw [M.2.2.1]; exact hs2) ht (fun u hu => by
        by_cases z : u < n0
        · have := M.2.2.2.1 u z; omega
        · have := (M.2.2.2.2 u (by omega) (by omega)).1; omega) (fun u hu he => by
        by_cases z : u < n0
        · have := M.2.2.2.1 u z; omega
        · exact (M.2.2.2.2 u (by omega) (by omega)).2)
      have V2 := RV_unit (n := n0 + k) (ln := ln) (a := a) (b := b) (s := s) (t := t) (f := (n0 : Int)) D3.ws D3.rv M.1 (by omega) (by rw [M.2.2.1]; exact hs2) ⟨by omega, by omega, fun z => by rw [Int.toNat_natCast]; exact (M.2.2.2.2 n0 (Nat.le_refl _) (by omega)).1, fun v hv => by have := M.2.2.2.1 v (by omega); omega⟩
      have eh : unitsH ln a b s t (k + 1) h = up1 (up1 (up1 (up1 (up1 (up1 (unitsH ln a b s t k h) (29 + 5 * (n0 + k)) ln) (30 + 5 * (n0 + k)) s) (31 + 5 * (n0 + k)) a) (32 + 5 * (n0 + k)) b) (33 + 5 * (n0 + k)) t) 2 (((n0 + k : Nat) : Int) + 1) := by
        show unitH ln a b s t (unitsH ln a b s t k h) = _
        unfold unitH
        rw [M.1, Int.toNat_natCast]
      refine ih (k + 1) _ (by omega) (((((((fr.ub (by decide)).ub (by decide)).ub (by decide)).ub (by decide)).ub (by decide)).ub (by decide)).ub (by decide)) (hs3.mv rfl rfl rfl) ?_ (MkI_next M) c17
      rw [eh]
      exact Dr.mk W2 V2
  have U : ∀ {α : Fl ⊕ ((Int × Int × Int × Int × Int) × Nat)}, bnF (whF x h nm (-1) (nxF x p)) (fun a p2 => bnF (if tkF x p2 = 15 then whF x h nm a (nxF x p2) else .inr (-1, p2)) fun b p3 => bnF (soF x h nm p3) fun s p4 =>
    if tkF x p4 = 4 ∧ (1 ≤ vnF x p4 ∧ vnF x p4 ≤ 9) ∧ 16 < h 2 + vnF x p4 then .inl (4, plF x p4) else bnF (numF x 1 9 p4) fun n p5 => bnF (numF x 0 47 p5) fun t p6 => .inr ((a, b, s, n, t), p6)) = α → makesL x h nm p = α := fun y => by unfold makesL; exact y
  have rest : ∀ (a b : Int) (p3 : Nat) (w3 : Wd), 0 ≤ a ∧ a < h 0 → (b = -1 ∨ (0 ≤ b ∧ b < h 0 ∧ b ≠ a)) → (∀ {α : Fl ⊕ ((Int × Int × Int × Int × Int) × Nat)}, bnF (soF x h nm p3) (fun s p4 =>
    if tkF x p4 = 4 ∧ (1 ≤ vnF x p4 ∧ vnF x p4 ≤ 9) ∧ 16 < h 2 + vnF x p4 then .inl (4, plF x p4) else bnF (numF x 1 9 p4) fun n p5 => bnF (numF x 0 47 p5) fun t p6 => .inr ((a, b, s, n, t), p6)) = α → makesL x h nm p = α) → Fr dcC w w3 → CSt x p3 w3 → Dr h nm w3 → w3 16 17 = w 16 17 → Wp (Cw (d + 6)) cd_Village_makesLine (2, 0, n1) Q 28 [mR 16, mR 2, mI a, mI b, none, none, none, none, none] [] w3 := by
    intro a b p3 w3 ha hb U2 fr hs3 D3 c17
    apply Village_makesLine_16_2_c28
    refine K_sort (d := d + 1) hs3 so D3.rv.sorts D3.n21 (fun e v he hc => ⟨_, rfl, fun _ => ?_, fun y => absurd rfl y⟩) (fun s o3 hso hs4 => ⟨_, rfl, fun y => ?_, fun _ => ?_⟩)
    · apply Village_makesLine_16_2_c40
      exact kb e _ (U2 (bnF_l he)) (fr.ub (by decide)) hc
    · have := soF_r hso; exfalso; omega
    have sr := soF_r hso
    have e8 : (ubf w3 2 o3) 16 8 = (n0 : Nat) := by
      show w3 16 8 = _
      rw [D3.rv.units, hn]
    refine K_num (d := d + 2) hs4 (fun e v he hc => ⟨_, rfl, fun y => absurd rfl y, fun _ => ?_⟩) (fun z4 l1 l2 hg o4 => ⟨_, rfl, fun _ => ?_, fun y => absurd (by decide) y⟩)
    · apply Village_makesLine_16_2_c40
      refine kb e _ (U2 ?_) ((fr.ubf (by decide)).ub (by decide)) hc
      rw [bnF_r hso, if_neg (fun y => numF_l he ⟨y.1, y.2.1.1, y.2.1.2⟩)]
      exact bnF_l he
    rw [e8, o4, w32_id (x := (n0 : Int) + vnF x (nxF x p3)) (by unfold in32; omega)]
    refine ⟨fun y16 => ?_, fun y16 => ?_⟩
    rotate_left
    · refine kb (4, plF x (nxF x p3)) _ (U2 ?_) ((fr.ubf (by decide)).ub (by decide)) ⟨rfl, hs4.tok.pl⟩
      rw [bnF_r hso, if_pos ⟨z4, ⟨l1, l2⟩, by omega⟩]
    have U3 : ∀ {α : Fl ⊕ ((Int × Int × Int × Int × Int) × Nat)}, bnF (numF x 0 47 (nxF x (nxF x p3))) (fun t p6 => .inr ((a, b, s, vnF x (nxF x p3), t), p6)) = α → makesL x h nm p = α := fun y => U2 (by
      rw [bnF_r hso, if_neg (fun c => by omega), bnF_r hg]; exact y)
    refine K_take (d := d + 1) hs4 (by omega) o4 (fun o5 hs5 => ⟨_, rfl, ?_⟩)
    refine K_num (d := d + 2) hs5 (fun e v he hc => ⟨_, rfl, fun y => absurd rfl y, fun _ => kb e _ (U3 (bnF_l he)) (((fr.ubf (by decide)).ubf (by decide)).ub (by decide)) hc⟩) (fun z4' m1 m2 hg2 o6 => ⟨_, rfl, fun _ => ?_, fun y => absurd (by decide) y⟩)
    refine K_take (d := d + 1) hs5 (by omega) o6 (fun o7 hs7 => ⟨_, rfl, ?_⟩)
    obtain ⟨nn, hnn⟩ : ∃ n : Nat, vnF x (nxF x p3) = n := ⟨(vnF x (nxF x p3)).toNat, by omega⟩
    have e9 : (ubf (ubf (ubf w3 2 o3) 2 o5) 2 o7) 16 8 = (n0 : Nat) := e8
    rw [e9, hnn]
    have := lp a b s (vnF x (nxF x (nxF x p3))) nn (nxF x (nxF x (nxF x p3))) ha hb ⟨sr.1, sr.2.1⟩ ⟨m1, m2⟩ (by omega) (by rw [← hnn]; exact U3 (by rw [bnF_r hg2])) nn 0 (ubf (ubf (ubf w3 2 o3) 2 o5) 2 o7) (by omega) (((fr.ubf (by decide)).ubf (by decide)).ubf (by decide)) hs7 (Dr.mk D3.ws D3.rv) ⟨by rw [Nat.add_zero]; exact hn, rfl, rfl, fun u hu => hlt u (by omega), fun u a1 a2 => by exfalso; omega⟩ c17
    exact this
  refine K_adv (d := d + 2) hs (by omega) (fun o1 hs1 => ?_)
  refine K_takePerson (d := d) hs1 (by decide) pe e0h D.n17 (fun e v he hc => ⟨_, rfl, fun y => absurd rfl y, fun _ => kb e _ (U (bnF_l he)) (by repeat' (first | exact Fr.rfl' _ _ | assumption | (refine Fr.ubf ?_ (by decide)) | (refine Fr.ub ?_ (by decide)))) hc⟩) (fun a o2 ha hs2 => ⟨_, rfl, fun _ => ?_, fun y => ?_⟩)
  rotate_left
  · have := whF_r ha; exfalso; omega
  have ar := whF_r ha
  refine K_skip (d := d + 1) (kw := 5) hs2 (by decide) (fun z => ⟨_, rfl, fun _ => ?_, fun y => absurd rfl y⟩) (fun z o3 hs3 => ⟨_, rfl, fun y => absurd y (by decide), fun _ => ?_⟩)
  · exact rest a (-1) (nxF x (nxF x p)) _ ⟨ar.1, ar.2.1⟩ (Or.inl rfl) (fun y => U (by rw [bnF_r ha, if_neg z]; exact y)) (by repeat' (first | exact Fr.rfl' _ _ | assumption | (refine Fr.ubf ?_ (by decide)) | (refine Fr.ub ?_ (by decide)))) hs2 (Dr.mk D.ws D.rv) rfl
  · refine K_takePerson (d := d) hs3 (by omega) pe e0h D.n17 (fun e v he hc => ⟨_, rfl, fun y => absurd rfl y, fun _ => kb e _ (U (by rw [bnF_r ha, if_pos z]; exact bnF_l he)) (by repeat' (first | exact Fr.rfl' _ _ | assumption | (refine Fr.ubf ?_ (by decide)) | (refine Fr.ub ?_ (by decide)))) hc⟩) (fun b o4 hb hs4 => ⟨_, rfl, fun _ => ?_, fun y => ?_⟩)
    rotate_left
    · have := whF_r hb; exfalso; omega
    have br := whF_r hb
    exact rest a b (nxF x (nxF x (nxF x (nxF x p)))) _ ⟨ar.1, ar.2.1⟩ (Or.inr ⟨br.1, br.2.1, br.2.2.1⟩) (fun y => U (by rw [bnF_r ha, if_pos z, bnF_r hb]; exact y)) (by repeat' (first | exact Fr.rfl' _ _ | assumption | (refine Fr.ubf ?_ (by decide)) | (refine Fr.ub ?_ (by decide)))) hs4 (Dr.mk D.ws D.rv) rfl
theorem LN_keep {h h2 : Nat → Int} {ln : Int} (e2 : h2 2 = h 2) (el : ∀ u : Nat, (u : Int) < h 2 → h2 (29 + 5 * u) = h (29 + 5 * u)) (hlt : ∀ u : Nat, (u : Int) < h 2 → h (29 + 5 * u) < ln) : ∀ u : Nat, (u : Int) < h2 2 → h2 (29 + 5 * u) ≤ ln := fun u hu => by
  rw [e2] at hu
  rw [el u hu]
  have := hlt u hu
  omega
theorem L_line {d : Nat} {Q : MV → Wd → Prop} {w : Wd} {x : Tx} {p : Nat} {h nm : Nat → Int} {l ln : Int} (hs : CSt x p w) (D : Dr h nm w) (hl : w 16 17 = l) (hln : 0 ≤ ln ∧ ln ≤ 2000) (hlt : ∀ u : Nat, (u : Int) < h 2 → h (29 + 5 * u) < ln)
    (kb : ∀ (e : Fl) (w2 : Wd), lineF x ln (h, nm, l) p = .inl e → Fr dcC w w2 → CBd e w2 → Q (mI 0) w2)
    (kg : ∀ (h2 nm2 : Nat → Int) (l2 : Int) (q : Nat) (w2 : Wd), lineF x ln (h, nm, l) p = .inr ((h2, nm2, l2), q) → Fr dcC w w2 → CSt x q w2 → Dr h2 nm2 w2 → w2 16 17 = l2 → (∀ u : Nat, (u : Int) < h2 2 → h2 (29 + 5 * u) ≤ ln) → Q (mI 1) w2) : Cw (d + 8) 25 [mR 16, mR 2] w Q := by
  have KW := ClK_kw hs.tok
  have tl := tkF_le (x := x) (p := p)
  have pe := D.ws.pe
  have so := D.ws.so
  have un := D.ws.un
  have wa := D.ws.wa
  have B : ¬ tkF x p = 10 → ¬ tkF x p = 13 → ¬ tkF x p = 14 → ¬ tkF x p = 16 → ¬ tkF x p = 18 → ¬ tkF x p = 19 → Q (mI 0) (ub w 2 8 1) := fun a b c d' e f => kb (1, plF x p) _ (by unfold lineF; rw [if_neg a, if_neg b, if_neg c, if_neg d', if_neg e, if_neg f]) (by repeat' (first | exact Fr.rfl' _ _ | assumption | (refine Fr.ubf ?_ (by decide)) | (refine Fr.ub ?_ (by decide)))) ⟨rfl, hs.tok.pl⟩
  have F0 : tkF x p = 10 → Cw (d + 7) 27 [mR 16, mR 2] w (fun r v => ∃ r2 : Int, r = mI r2 ∧ ((r2 = 0 ∨ r2 = 1) ∧ Q (mI r2) v)) := fun z => by
    refine L_who (d := d) hs (by omega) D (fun e w2 he fr hc => ⟨_, rfl, Or.inl rfl, kb e w2 (by unfold lineF; rw [if_pos z]; exact bnF_l he) fr hc⟩) (fun t a q w2 he fr hs2 D2 e17 => ⟨_, rfl, Or.inr rfl, ?_⟩)
    exact kg _ _ _ q w2 (by unfold lineF; rw [if_pos z]; rw [bnF_r he]) fr hs2 D2 (by rw [e17]; exact hl) (LN_keep (by unfold whoH; simp (disch := omega) only [up1_ne, up1_self]) (fun u hu => by unfold whoH; simp (disch := omega) only [up1_ne, up1_self]) hlt)
  have F3 : tkF x p = 13 → Cw (d + 7) 36 [mR 16, mR 2] w (fun r v => ∃ r2 : Int, r = mI r2 ∧ ((r2 = 0 ∨ r2 = 1) ∧ Q (mI r2) v)) := fun z => by
    refine L_sort (d := d) hs (by omega) D (fun e w2 he fr hc => ⟨_, rfl, Or.inl rfl, kb e w2 (by unfold lineF; rw [if_neg (by omega), if_pos z]; exact bnF_l he) fr hc⟩) (fun v q w2 he fr hs2 D2 e17 => ⟨_, rfl, Or.inr rfl, ?_⟩)
    exact kg _ _ _ q w2 (by unfold lineF; rw [if_neg (by omega), if_pos z]; rw [bnF_r he]) fr hs2 D2 (by rw [e17]; exact hl) (LN_keep (by unfold sortH; simp (disch := omega) only [up1_ne, up1_self]) (fun u hu => by
      have n6 : ¬ h 1 = 6 := fun c => by unfold sortL at he; rw [if_pos c] at he; cases he
      unfold sortH; simp (disch := omega) only [up1_ne, up1_self]) hlt)
  have F4 : tkF x p = 14 → Cw (d + 7) 37 [mR 16, mR 2] w (fun r v => ∃ r2 : Int, r = mI r2 ∧ ((r2 = 0 ∨ r2 = 1) ∧ Q (mI r2) v)) := fun z => by
    refine L_makes (d := d) hs (by omega) D hln hlt (fun e w2 he fr hc => ⟨_, rfl, Or.inl rfl, kb e w2 (by unfold lineF; rw [if_neg (by omega), if_neg (by omega), if_pos z]; exact bnF_l he) fr hc⟩) (fun a b s n t q w2 he fr hs2 D2 e17 hle => ⟨_, rfl, Or.inr rfl, ?_⟩)
    exact kg _ _ _ q w2 (by unfold lineF; rw [if_neg (by omega), if_neg (by omega), if_pos z]; rw [bnF_r he]) fr hs2 D2 (by rw [e17]; exact hl) (hle)
  have F6 : tkF x p = 16 → Cw (d + 7) 42 [mR 16, mR 2] w (fun r v => ∃ r2 : Int, r = mI r2 ∧ ((r2 = 0 ∨ r2 = 1) ∧ Q (mI r2) v)) := fun z => by
    refine L_wants (d := d) hs (by omega) D (fun e w2 he fr hc => ⟨_, rfl, Or.inl rfl, kb e w2 (by unfold lineF; rw [if_neg (by omega), if_neg (by omega), if_neg (by omega), if_pos z]; exact bnF_l he) fr hc⟩) (fun a s v b q w2 he fr hs2 D2 e17 => ⟨_, rfl, Or.inr rfl, ?_⟩)
    exact kg _ _ _ q w2 (by unfold lineF; rw [if_neg (by omega), if_neg (by omega), if_neg (by omega), if_pos z]; rw [bnF_r he]) fr hs2 D2 (by rw [e17]; exact hl) (LN_keep (by unfold wantH; simp (disch := omega) only [up1_ne, up1_self]) (fun u hu => by unfold wantH; simp (disch := omega) only [up1_ne, up1_self]) hlt)
  have F8 : tkF x p = 18 → Cw (d + 7) 43 [mR 16, mR 2] w (fun r v => ∃ r2 : Int, r = mI r2 ∧ ((r2 = 0 ∨ r2 = 1) ∧ Q (mI r2) v)) := fun z => by
    refine L_gives (d := d) hs (by omega) D (fun e w2 he fr hc => ⟨_, rfl, Or.inl rfl, kb e w2 (by unfold lineF; rw [if_neg (by omega), if_neg (by omega), if_neg (by omega), if_neg (by omega), if_pos z]; exact bnF_l he) fr hc⟩) (fun a b v t q w2 he fr hs2 D2 e17 => ⟨_, rfl, Or.inr rfl, ?_⟩)
    exact kg _ _ _ q w2 (by unfold lineF; rw [if_neg (by omega), if_neg (by omega), if_neg (by omega), if_neg (by omega), if_pos z]; rw [bnF_r he]) fr hs2 D2 (by rw [e17]; exact hl) (LN_keep (by unfold giveH; simp (disch := omega) only [up1_ne, up1_self]) (fun u hu => by unfold giveH; simp (disch := omega) only [up1_ne, up1_self]) hlt)
  have F9 : tkF x p = 19 → Cw (d + 7) 44 [mR 16, mR 2] w (fun r v => ∃ r2 : Int, r = mI r2 ∧ ((r2 = 0 ∨ r2 = 1) ∧ Q (mI r2) v)) := fun z => by
    refine L_law (d := d) hs (by omega) D hl (fun e w2 he fr hc => ⟨_, rfl, Or.inl rfl, kb e w2 (by unfold lineF; rw [if_neg (by omega), if_neg (by omega), if_neg (by omega), if_neg (by omega), if_neg (by omega), if_pos z]; exact bnF_l he) fr hc⟩) (fun n b q w2 he fr hs2 D2 e17 => ⟨_, rfl, Or.inr rfl, ?_⟩)
    exact kg _ _ _ q w2 (by unfold lineF; rw [if_neg (by omega), if_neg (by omega), if_neg (by omega), if_neg (by omega), if_neg (by omega), if_pos z]; rw [bnF_r he]) fr hs2 D2 e17 (LN_keep (by unfold lawH; simp (disch := omega) only [up1_ne, up1_self]) (fun u hu => by unfold lawH; simp (disch := omega) only [up1_ne, up1_self]) hlt)
  apply Village_line_16_2_en (d := d + 6)
  by_cases z : tkF x p < 10
  · refine ⟨fun _ => ?_, fun y => absurd (KW.1 z) y⟩
    exact ⟨fun y => absurd y (by decide), fun _ => ⟨fun y => absurd y (by decide), fun _ => ⟨fun y => absurd y (by decide), fun _ => ⟨fun y => absurd y (by decide), fun _ => ⟨fun y => absurd y (by decide), fun _ => ⟨fun y => absurd y (by decide), fun _ => ⟨fun y => absurd y (by decide), fun _ => ⟨fun y => absurd y (by decide), fun _ => ⟨fun y => absurd y (by decide), fun _ => ⟨fun y => absurd y (by decide), fun _ => (B (by omega) (by omega) (by omega) (by omega) (by omega) (by omega))⟩⟩⟩⟩⟩⟩⟩⟩⟩⟩
  · obtain ⟨o5, o6⟩ := KW.2 z
    obtain ⟨j, hj⟩ : ∃ j : Nat, tkF x p = 10 + j := ⟨tkF x p - 10, by omega⟩
    rw [o5, o6, show tkF x p - 10 = j by omega]
    refine ⟨fun y => absurd rfl y, fun _ => ?_⟩
    exact ⟨fun y0 => F0 (by omega), fun m0 => ⟨fun y1 => B (by omega) (by omega) (by omega) (by omega) (by omega) (by omega), fun m1 => ⟨fun y2 => B (by omega) (by omega) (by omega) (by omega) (by omega) (by omega), fun m2 => ⟨fun y3 => F3 (by omega), fun m3 => ⟨fun y4 => F4 (by omega), fun m4 => ⟨fun y5 => B (by omega) (by omega) (by omega) (by omega) (by omega) (by omega), fun m5 => ⟨fun y6 => F6 (by omega), fun m6 => ⟨fun y7 => B (by omega) (by omega) (by omega) (by omega) (by omega) (by omega), fun m7 => ⟨fun y8 => F8 (by omega), fun m8 => ⟨fun y9 => F9 (by omega), fun m9 => B (by omega) (by omega) (by omega) (by omega) (by omega) (by omega)⟩⟩⟩⟩⟩⟩⟩⟩⟩⟩
theorem optF_nx {x : Tx} {kw : Nat} {lo hi v0 v : Int} {p q : Nat} (hp : p ≤ x.L) (h : optF x kw lo hi v0 p = .inr (v, q)) : p ≤ q ∧ q ≤ x.L := by
  unfold optF at h
  by_cases z : tkF x p = 10 + kw
  · rw [if_pos z] at h
    have n := tkF_nx (x := x) (p := p) (by omega)
    have b := numF_nx n.2 h
    omega
  · rw [if_neg z] at h
    have := inr_pair h
    omega
theorem lineF_nx {x : Tx} {ln : Int} {s s2 : DS} {p q : Nat} (h : lineF x ln s p = .inr (s2, q)) : p < q ∧ q ≤ x.L := by
  have tl := tkF_le (x := x) (p := p)
  have n : 3 ≤ tkF x p → p < nxF x p ∧ nxF x p ≤ x.L := tkF_nx
  unfold lineF at h
  by_cases c1 : tkF x p = 10
  · rw [if_pos c1] at h
    obtain ⟨r, q1, h1, h2⟩ := bnF_inv h
    have e := (inr_pair h2).2
    unfold whoL at h1
    by_cases c : s.1 0 = 8
    · rw [if_pos c] at h1; cases h1
    · rw [if_neg c] at h1
      obtain ⟨a1, q2, k1, h1⟩ := bnF_inv h1
      obtain ⟨a2, q3, k2, h1⟩ := bnF_inv h1
      obtain ⟨a3, q4, k3, h1⟩ := bnF_inv h1
      have e1 := (inr_pair h1).2
      have := n (by omega)
      have := frF_r k1
      have := optF_nx (by omega) k2
      have := optF_nx (by omega) k3
      omega
  rw [if_neg c1] at h
  by_cases c2 : tkF x p = 13
  · rw [if_pos c2] at h
    obtain ⟨r, q1, h1, h2⟩ := bnF_inv h
    have e := (inr_pair h2).2
    unfold sortL at h1
    by_cases c : s.1 1 = 6
    · rw [if_pos c] at h1; cases h1
    · rw [if_neg c] at h1
      obtain ⟨a1, q2, k1, h1⟩ := bnF_inv h1
      obtain ⟨a2, q3, k2, h1⟩ := bnF_inv h1
      have e1 := (inr_pair h1).2
      have := n (by omega)
      have := frF_r k1
      have := numF_nx (by omega) k2
      omega
  rw [if_neg c2] at h
  by_cases c3 : tkF x p = 14
  · rw [if_pos c3] at h
    obtain ⟨r, q1, h1, h2⟩ := bnF_inv h
    have e := (inr_pair h2).2
    unfold makesL at h1
    obtain ⟨a1, q2, k1, h1⟩ := bnF_inv h1
    obtain ⟨a2, q3, k2, h1⟩ := bnF_inv h1
    obtain ⟨a3, q4, k3, h1⟩ := bnF_inv h1
    have r1 := whF_r k1
    have r3 := soF_r k3
    have r2 : q2 ≤ q3 := by
      by_cases c : tkF x q2 = 15
      · rw [if_pos c] at k2
        have := whF_r k2
        have := tkF_nx (x := x) (p := q2) (by omega)
        omega
      · rw [if_neg c] at k2
        have := (inr_pair k2).2
        omega
    by_cases c : tkF x q4 = 4 ∧ (1 ≤ vnF x q4 ∧ vnF x q4 ≤ 9) ∧ 16 < s.1 2 + vnF x q4
    · rw [if_pos c] at h1; cases h1
    · rw [if_neg c] at h1
      obtain ⟨a4, q5, k4, h1⟩ := bnF_inv h1
      obtain ⟨a5, q6, k5, h1⟩ := bnF_inv h1
      have e1 := (inr_pair h1).2
      have := n (by omega)
      have := numF_nx (by omega) k4
      have := numF_nx (by omega) k5
      omega
  rw [if_neg c3] at h
  by_cases c4 : tkF x p = 16
  · rw [if_pos c4] at h
    obtain ⟨r, q1, h1, h2⟩ := bnF_inv h
    have e := (inr_pair h2).2
    unfold wantsL at h1
    by_cases c : s.1 3 = 8
    · rw [if_pos c] at h1; cases h1
    · rw [if_neg c] at h1
      obtain ⟨a1, q2, k1, h1⟩ := bnF_inv h1
      obtain ⟨a2, q3, k2, h1⟩ := bnF_inv h1
      obtain ⟨a3, q4, k3, h1⟩ := bnF_inv h1
      obtain ⟨a4, q5, k4, h1⟩ := bnF_inv h1
      have e1 := (inr_pair h1).2
      have := n (by omega)
      have := whF_r k1
      have := soF_r k2
      have := numF_nx (by omega) k3
      have := optF_nx (by omega) k4
      omega
  rw [if_neg c4] at h
  by_cases c5 : tkF x p = 18
  · rw [if_pos c5] at h
    obtain ⟨r, q1, h1, h2⟩ := bnF_inv h
    have e := (inr_pair h2).2
    unfold givesL at h1
    obtain ⟨a1, q2, k1, h1⟩ := bnF_inv h1
    obtain ⟨a2, q3, k2, h1⟩ := bnF_inv h1
    obtain ⟨a3, q4, k3, h1⟩ := bnF_inv h1
    obtain ⟨a4, q5, k4, h1⟩ := bnF_inv h1
    have e1 := (inr_pair h1).2
    have := n (by omega)
    have := whF_r k1
    have := giF_r k2
    have := numF_nx (by omega) k3
    have := numF_nx (by omega) k4
    omega
  rw [if_neg c5] at h
  by_cases c6 : tkF x p = 19
  · rw [if_pos c6] at h
    obtain ⟨r, q1, h1, h2⟩ := bnF_inv h
    have e := (inr_pair h2).2
    unfold lawL at h1
    by_cases c : s.2.2 = 0
    · rw [if_pos c] at h1
      obtain ⟨a1, q2, k1, h1⟩ := bnF_inv h1
      have := n (by omega)
      have := numF_nx (by omega) k1
      by_cases c7 : 20 ≤ tkF x q2 ∧ tkF x q2 ≤ 23
      · rw [if_pos c7] at h1
        have e1 := (inr_pair h1).2
        have := tkF_nx (x := x) (p := q2) (by omega)
        omega
      · rw [if_neg c7] at h1; cases h1
    · rw [if_neg c] at h1; cases h1
  rw [if_neg c6] at h
  cases h
theorem tkF_end {x : Tx} {p : Nat} (h1 : p ≤ rdb x) (h2 : x.L ≤ p) : tkF x p = 0 := by
  have e : rdb x ≤ x.L := Nat.min_le_left _ _
  have q := qF_ge x p
  have k : kdF x p = 0 := by unfold kdF; rw [if_pos (by omega), if_neg (by omega)]
  unfold tkF
  rw [k]; rfl
/-- all lines -/
theorem L_read {d : Nat} {Q : MV → Wd → Prop} {w : Wd} {x : Tx} {p0 : Nat} {hI nm : Nat → Int} (hs : CSt x p0 w) (hp0 : p0 ≤ rdb x) (z4 : hI 4 = 3) (z5 : hI 5 = 1) (z : ∀ i, i < 333 → i ≠ 4 → i ≠ 5 → hI i = 0)
    (kb : ∀ (e : Fl) (w2 : Wd), readF x 1041 0 (hI, nm, 0) p0 = .inl e → Fr dcC w w2 → CBd e w2 → Q (mI (w32 (-1 - e.2))) w2)
    (kg : ∀ (h2 nm2 : Nat → Int) (l2 ln : Int) (w2 : Wd), readF x 1041 0 (hI, nm, 0) p0 = .inr ((h2, nm2, l2), ln) → 0 ≤ ln → Fr dcC w w2 → w2 2 8 = 0 → Dr h2 nm2 w2 → Q (mI ln) w2) : Cw (d + 9) 23 [mR 16, mR 2] w Q := by
  apply Village_read_16_2_en (d := d + 7)
  intro n1
  have lp : ∀ (m p ln : Nat) (h nmx : Nat → Int) (l : Int) (w3 : Wd), 1041 ≤ p + m → p ≤ rdb x → ln ≤ p → readF x 1041 0 (hI, nm, 0) p0 = readF x m (ln : Nat) (h, nmx, l) p → Fr dcC w w3 → CSt x p w3 → Dr h nmx w3 → w3 16 17 = l → (∀ u : Nat, (u : Int) < h 2 → h (29 + 5 * u) < (ln : Int)) → Wp (Cw (d + 8)) cd_Village_read (1, 0, n1) Q 4 [mR 16, mR 2, mI (ln : Nat)] [] w3 := by
    intro m
    induction m with
    | zero =>
      intro p ln h nmx l w3 hm hp
      have e : rdb x ≤ x.L := Nat.min_le_left _ _
      have := hs.tx.L
      exfalso; omega
    | succ m ih =>
      intro p ln h nmx l w3 hm hp hlp hr fr hs3 D3 c17 hlt
      have e : rdb x ≤ x.L := Nat.min_le_left _ _
      have hL := hs.tx.L
      apply Village_read_16_2_c4
      by_cases t0 : tkF x p = 0
      · have G : Q (mI (ln : Nat)) w3 := kg h nmx l ln w3 (by rw [hr]; unfold readF; rw [if_pos t0]) (by omega) fr hs3.ok D3
        have o5 : w3 2 5 = 0 := by rw [hs3.tok.k0 (by omega), t0]; rfl
        exact ⟨fun _ => G, fun _ => ⟨fun _ => G, fun y => absurd o5 y⟩⟩
      have nl : ¬ (1040 : Int) ≤ (ln : Nat) := fun y => t0 (tkF_end hp (by omega))
      have o5 : ¬ w3 2 5 = 0 := fun y => by
        have tl := tkF_le (x := x) (p := p)
        by_cases a : tkF x p < 5
        · rw [hs3.tok.k0 a] at y; omega
        · by_cases b : tkF x p = 6
          · rw [(hs3.tok.k6 b).1] at y; omega
          · rw [(hs3.tok.kw (tkF x p - 10) (by omega)).1] at y; omega
      have U : readF x 1041 0 (hI, nm, 0) p0 = bnF (lineF x (ln : Nat) (h, nmx, l) p) fun s2 p2 => if tkF x p2 = 3 then readF x m ((ln : Nat) + 1) s2 (nxF x p2) else .inl (1, plF x p2) := by
        rw [hr]
        show (if tkF x p = 0 then _ else _) = _
        rw [if_neg t0]
      refine ⟨fun y => absurd y nl, fun _ => ⟨fun y => absurd y o5, fun _ => ?_⟩⟩
      refine L_line (d := d) (ln := (ln : Nat)) hs3 D3 c17 (by omega) hlt (fun e w2 he fr2 hc => ⟨_, rfl, fun _ => ?_, fun y => absurd rfl y⟩) (fun h2 nm2 l2 q w2 he fr2 hs4 D4 c172 hle => ⟨_, rfl, fun y => absurd y (by decide), fun _ => ?_⟩)
      · rw [hc.2]
        exact kb e w2 (by rw [U]; exact bnF_l he) (fr.tr fr2 (fun c hc2 => hc2)) hc
      · refine K_semi (d := d + 3) hs4 (fun y hc => ⟨_, rfl, fun y2 => absurd rfl y2, fun _ => ?_⟩) (fun y o hs5 => ⟨_, rfl, fun _ => ?_, fun y2 => absurd (by decide) y2⟩)
        · rw [hc.2]
          exact kb (1, plF x q) _ (by rw [U, bnF_r he, if_neg y]) ((fr.tr fr2 (fun c hc2 => hc2)).ub (by decide)) hc
        · have n3 := tkF_3 y
          have nx := tkF_nx (x := x) (p := q) (by omega)
          have pq := lineF_nx he
          rw [ixs (k := ln) (by omega)]
          refine ih (nxF x q) (ln + 1) h2 nm2 l2 _ (by omega) n3 (by omega) ?_ ((fr.tr fr2 (fun c hc2 => hc2)).ubf (by decide)) hs5 (Dr.mk D4.ws D4.rv) c172 (fun u hu => ?_)
          · rw [U, bnF_r he, if_pos y]; rfl
          · have := hle u hu; omega
  apply Village_clear_16_en (d := d + 7)
  refine S_fillI (d := d + 6) 26 64 (-1) rfl rfl (by omega) (by decide) (fun g hg _ => ?_)
  have ws0 : WS hI := by
    have y0 := z 0 (by omega) (by omega) (by omega)
    have y1 := z 1 (by omega) (by omega) (by omega)
    have y2 := z 2 (by omega) (by omega) (by omega)
    have y3 := z 3 (by omega) (by omega) (by omega)
    exact WS.mk (by omega) (by omega) (by omega) (by omega) (by omega) (by omega) (fun p hp => by have := z (7 + p) (by omega) (by omega) (by omega); omega) (fun p hp => by have := z (15 + p) (by omega) (by omega) (by omega); omega) (fun k hk => by omega) (fun k hk => by omega) (fun k hk => by omega) (fun k hk => by omega) (fun k hk => by omega) (fun u v a b => by omega) (fun u v a b c => by omega) (fun k hk => by omega) (fun k hk => by omega) (fun k hk => by omega) (fun k hk => by omega) (fun k hk => by have := z (269 + k) (by omega) (by omega) (by omega); omega) (fun a b ha hb h => by have := z (269 + (8 * a + b)) (by omega) (by omega) (by omega); omega) (fun k hk => by have := z (141 + k) (by omega) (by omega) (by omega); omega) (fun k hk => by have := z (205 + k) (by omega) (by omega) (by omega); omega)
  refine lp 1041 p0 0 hI nm 0 _ (by omega) hp0 (Nat.zero_le _) rfl (by repeat' (first | exact Fr.rfl' _ _ | assumption | (refine Fr.ubf ?_ (by decide)) | (refine Fr.ub ?_ (by decide)))) (hs.mv rfl rfl rfl) (Dr.mk ws0 ?_) rfl (fun u hu => ?_)
  · show RV (up1 (up1 (up1 (up1 (up1 (up1 (up1 (w 16) 0 0) 5 0) 8 0) 11 0) 15 3) 16 1) 17 0) (w 17) (w 18) (w 19) (w 20) (w 21) (w 22) (w 23) (w 24) (w 25) g (w 27) hI (fun i => nm (14 + i))
    have y0 := z 0 (by omega) (by omega) (by omega)
    have y1 := z 1 (by omega) (by omega) (by omega)
    have y2 := z 2 (by omega) (by omega) (by omega)
    have y3 := z 3 (by omega) (by omega) (by omega)
    exact RV.mk y0.symm y1.symm y2.symm y3.symm z4.symm z5.symm (fun p hp => by omega) (fun p q hp => by omega) (fun p hp => by omega) (fun k hk => by omega) (fun u hu => by omega) (fun u hu => by omega) (fun u hu => by omega) (fun u hu => by omega) (fun u hu => by omega) (fun u hu => by omega) (fun i hi => by omega) (fun k hk ht => by rw [z (269 + k) (by omega) (by omega) (by omega)] at ht; omega) (fun k hk _ => hg k hk) (fun p hp => by omega) (fun k hk => by omega)
  · rw [z 2 (by omega) (by omega) (by omega)] at hu; omega

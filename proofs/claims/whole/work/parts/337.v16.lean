/-! a plan read, on both sides (by gen/mkv16.py) -/
noncomputable def ppF (x : Tx) (P : Int) (nm : Nat → Int) (p : Nat) : Fl ⊕ (Int × Nat) := if tkF x p = 6 then (if fdF nm (f256 (liF x p)) 0 P < 0 then .inl (3, plF x p) else .inr (fdF nm (f256 (liF x p)) 0 P, nxF x p)) else .inl (1, plF x p)
noncomputable def aqF (x : Tx) (U P : Int) (nm : Nat → Int) (what lo hi : Int) (p : Nat) : Fl ⊕ ((Int × Int × Int) × Nat) :=
  bnF (numF x lo hi (nxF x p)) fun v p2 => if 0 < what then .inr ((what, v, -1), p2) else bnF (ppF x P nm p2) fun c p3 => .inr ((what, v, c), p3)
noncomputable def actF (x : Tx) (U P : Int) (nm : Nat → Int) (k : Nat) (p : Nat) : Fl ⊕ ((Int × Int × Int) × Nat) :=
  if 24 ≤ tkF x p ∧ tkF x p ≤ 26 then (if k = 50 then .inl (4, plF x p) else if tkF x p = 26 then aqF x U P nm 2 1 47 p else if tkF x p = 25 then aqF x U P nm 1 0 (U - 1) p else aqF x U P nm 0 0 (U - 1) p) else .inl (1, plF x p)
abbrev PS : Type := Nat × (Nat → Int) × (Nat → Int) × (Nat → Int)
noncomputable def planF (x : Tx) (U P : Int) (nm : Nat → Int) : Nat → PS → Nat → Fl ⊕ PS
  | 0, _, _ => .inl (0, 0)
  | m + 1, s, p => if tkF x p = 0 then .inr s else bnF (actF x U P nm s.1 p) fun r p2 => if tkF x p2 = 3 then planF x U P nm m (s.1 + 1, up1 s.2.1 s.1 r.1, up1 s.2.2.1 s.1 r.2.1, up1 s.2.2.2 s.1 r.2.2) (nxF x p2) else .inl (1, plF x p2)
theorem ppF_ok (x : Tx) (P : Int) (nm : Nat → Int) (p : Nat) : okF (rdb x) (ppF x P nm p) := by
  unfold ppF
  exact okF_i (okF_i (okF_l (plF_le x p)) okF_r) (okF_l (plF_le x p))
theorem aqF_ok (x : Tx) (U P : Int) (nm : Nat → Int) (a lo hi : Int) (p : Nat) : okF (rdb x) (aqF x U P nm a lo hi p) := by
  unfold aqF
  exact okF_b (numF_ok _ _ _ _) (fun _ _ => okF_i okF_r (okF_b (ppF_ok _ _ _ _) (fun _ _ => okF_r)))
theorem actF_ok (x : Tx) (U P : Int) (nm : Nat → Int) (k p : Nat) : okF (rdb x) (actF x U P nm k p) := by
  unfold actF
  exact okF_i (okF_i (okF_l (plF_le x p)) (okF_i (aqF_ok _ _ _ _ _ _ _ _) (okF_i (aqF_ok _ _ _ _ _ _ _ _) (aqF_ok _ _ _ _ _ _ _ _)))) (okF_l (plF_le x p))
theorem planF_ok (x : Tx) (U P : Int) (nm : Nat → Int) : ∀ (m : Nat) (s : PS) (p : Nat), okF (rdb x) (planF x U P nm m s p)
  | 0, _, _ => okF_l (Nat.zero_le _)
  | m + 1, s, p => by
    show okF (rdb x) (if tkF x p = 0 then _ else bnF _ _)
    exact okF_i okF_r (okF_b (actF_ok _ _ _ _ _ _) (fun s2 q => okF_i (planF_ok x U P nm m _ _) (okF_l (plF_le x q))))
theorem ppF_r {x : Tx} {P : Int} {nm : Nat → Int} {v : Int} {p q : Nat} (e : ppF x P nm p = .inr (v, q)) : 0 ≤ v ∧ v < P ∧ p < q ∧ q ≤ x.L ∧ tkF x p = 6 := by
  unfold ppF at e
  have b := fdF_bd nm (f256 (liF x p)) 0 P
  by_cases z : tkF x p = 6
  · rw [if_pos z] at e
    have n := tkF_nx (x := x) (p := p) (by omega)
    by_cases y : fdF nm (f256 (liF x p)) 0 P < 0
    · rw [if_pos y] at e; cases e
    · rw [if_neg y] at e
      have e1 := inr_pair e
      omega
  · rw [if_neg z] at e; cases e
/-- what an act is, and where it ends -/
theorem aqF_r {x : Tx} {U P : Int} {nm : Nat → Int} {what lo hi : Int} {p q : Nat} {r : Int × Int × Int} (h3 : 3 ≤ tkF x p) (e : aqF x U P nm what lo hi p = .inr (r, q)) : r.1 = what ∧ lo ≤ r.2.1 ∧ r.2.1 ≤ hi ∧ (¬ 0 < what → 0 ≤ r.2.2 ∧ r.2.2 < P) ∧ p < q ∧ q ≤ x.L := by
  unfold aqF at e
  obtain ⟨v, p2, k1, e⟩ := bnF_inv e
  have n := tkF_nx (x := x) (p := p) h3
  have o1 := numF_r k1
  have o2 := numF_nx (by omega) k1
  by_cases z : 0 < what
  · rw [if_pos z] at e
    have e1 := inr_pair e
    rw [← e1.1, ← e1.2]
    exact ⟨rfl, o1.2.1, o1.2.2.1, fun y => absurd z y, by omega, by omega⟩
  · rw [if_neg z] at e
    obtain ⟨c, p3, k2, e⟩ := bnF_inv e
    have o3 := ppF_r k2
    have e1 := inr_pair e
    rw [← e1.1, ← e1.2]
    exact ⟨rfl, o1.2.1, o1.2.2.1, fun _ => ⟨o3.1, o3.2.1⟩, by omega, by omega⟩
theorem actF_r {x : Tx} {s nm : Nat → Int} {k p q : Nat} {r : Int × Int × Int} (e : actF x (s 2) (s 0) nm k p = .inr (r, q)) : ((0 ≤ r.1 ∧ r.1 ≤ 2) ∧ (r.1 = 2 → 0 ≤ r.2.1 ∧ r.2.1 ≤ 47) ∧ (r.1 ≠ 2 → 0 ≤ r.2.1 ∧ r.2.1 < s 2) ∧ (r.1 = 0 → 0 ≤ r.2.2 ∧ r.2.2 < s 0)) ∧ p < q ∧ q ≤ x.L ∧ k ≠ 50 := by
  unfold actF at e
  by_cases z : 24 ≤ tkF x p ∧ tkF x p ≤ 26
  · rw [if_pos z] at e
    by_cases y : k = 50
    · rw [if_pos y] at e; cases e
    · rw [if_neg y] at e
      by_cases c : tkF x p = 26
      · rw [if_pos c] at e
        have o := aqF_r (by omega) e
        omega
      · rw [if_neg c] at e
        by_cases c2 : tkF x p = 25
        · rw [if_pos c2] at e
          have o := aqF_r (by omega) e
          omega
        · rw [if_neg c2] at e
          have o := aqF_r (by omega) e
          omega
  · rw [if_neg z] at e; cases e
/-- one WHO of the village as told -/
theorem K_person4 {d : Nat} {Q : MV → Wd → Prop} {w : Wd} {x : Tx} {p : Nat} {P : Int} {nm : Nat → Int} (hs : CSt x p w) (h0 : 0 ≤ P ∧ P ≤ 8) (e0 : w 4 0 = P) (hr : NmR (w 5) nm 0 P)
    (kb : ∀ (e : Fl) (v : Int), ppF x P nm p = .inl e → CBd e (ub w 2 8 v) → Q (mI (-1)) (ub w 2 8 v))
    (kg : ∀ g : Int, ppF x P nm p = .inr (g, nxF x p) → Q (mI g) w) : Cw (d + 5) 39 [mR 4, mR 2, mI (-1)] w Q := by
  have pl : ∀ v : Int, (ub w 2 8 v) 2 7 = plF x p := fun v => by
    have : (ub w 2 8 v) 2 7 = w 2 7 := rfl
    rw [this]; exact hs.tok.pl
  have N := ClK_name hs.tok
  apply Village_person_4_2_en (d := d + 2)
  by_cases z : tkF x p = 6
  · refine ⟨fun _ => ?_, fun y => absurd (N.1 z) y⟩
    have o6 := (hs.tok.k6 z).2.2
    obtain ⟨n, hn⟩ : ∃ n : Nat, P = n := ⟨P.toNat, by omega⟩
    rw [o6, e0, hn]
    have bd := fdF_bd nm (f256 (liF x p)) 0 P
    have wd : ppF x P nm p = if fdF nm (f256 (liF x p)) 0 P < 0 then .inl (3, plF x p) else .inr (fdF nm (f256 (liF x p)) 0 P, nxF x p) := by unfold ppF; rw [if_pos z]
    rw [hn] at bd hr
    refine K_ix5 (d := d) (nm := nm) (a := 0) (n := n) (v2 := f256 (liF x p)) (by omega) hr (nameTok z) ⟨_, rfl, fun y => ?_, fun y => ⟨fun y2 => ?_, fun y2 => ?_⟩⟩
    · exact kb (3, plF x p) 3 (by rw [wd, hn, if_pos (by omega)]) ⟨rfl, pl 3⟩
    · exact kg _ (by rw [wd, hn, if_neg (by omega)])
    · exact absurd (Classical.not_not.mp y2) y
  · refine ⟨fun y => absurd y (N.2 z), fun _ => ?_⟩
    exact kb (1, plF x p) 1 (by unfold ppF; rw [if_neg z]) ⟨rfl, pl 1⟩
abbrev dcP : List Nat := [2, 32, 33, 34, 35]
/-- the class's acts -/
def AcD (k : Nat) (a b c : Nat → Int) (w : Wd) : Prop := w 32 0 = k ∧ ∀ i, i < k → w 33 i = a i ∧ w 34 i = b i ∧ w 35 i = c i
theorem AcD.add {k : Nat} {a b c : Nat → Int} {w w2 : Wd} {u v y : Int} (h : AcD k a b c w) (e32 : w2 32 = up1 (w 32) 0 ((k : Int) + 1)) (e33 : w2 33 = up1 (w 33) k u) (e34 : w2 34 = up1 (w 34) k v) (e35 : w2 35 = up1 (w 35) k y) : AcD (k + 1) (up1 a k u) (up1 b k v) (up1 c k y) w2 := by
  refine ⟨by rw [e32, up1_self]; rfl, fun i hi => ?_⟩
  rw [e33, e34, e35]
  by_cases e : i = k
  · rw [e, up1_self, up1_self, up1_self, up1_self, up1_self, up1_self]; exact ⟨rfl, rfl, rfl⟩
  · rw [up1_ne _ e, up1_ne _ e, up1_ne _ e, up1_ne _ e, up1_ne _ e, up1_ne _ e]; exact h.2 i (by omega)
theorem L_act {d : Nat} {Q : MV → Wd → Prop} {w : Wd} {x : Tx} {p k : Nat} {U P : Int} {nm a b c : Nat → Int} (hs : CSt x p w) (hU : 0 ≤ U ∧ U ≤ 16) (hP : 0 ≤ P ∧ P ≤ 8) (eU : w 4 8 = U) (eP : w 4 0 = P) (hr : NmR (w 5) nm 0 P) (hk : k ≤ 50) (A : AcD k a b c w)
    (kb : ∀ (e : Fl) (w2 : Wd), actF x U P nm k p = .inl e → Fr dcP w w2 → CBd e w2 → Q (mI 0) w2)
    (kg : ∀ (r : Int × Int × Int) (q : Nat) (w2 : Wd), actF x U P nm k p = .inr (r, q) → Fr dcP w w2 → CSt x q w2 → AcD (k + 1) (up1 a k r.1) (up1 b k r.2.1) (up1 c k r.2.2) w2 → Q (mI 1) w2) : Cw (d + 7) 99 [mR 32, mR 2, mR 4] w Q := by
  have KW := ClK_kw hs.tok
  have tl := tkF_le (x := x) (p := p)
  have B : ¬ (24 ≤ tkF x p ∧ tkF x p ≤ 26) → Q (mI 0) (ub w 2 8 1) := fun z => kb (1, plF x p) _ (by unfold actF; rw [if_neg z]) (by repeat' (first | exact Fr.rfl' _ _ | assumption | (refine Fr.ubf ?_ (by decide)) | (refine Fr.ub ?_ (by decide)))) ⟨rfl, hs.tok.pl⟩
  apply Plan_readAct_32_2_4_en (d := d + 5)
  refine ⟨fun y => B (fun z => y (KW.2 (by omega)).1), fun y => ?_⟩
  have y := Classical.not_not.mp y
  have z10 : ¬ tkF x p < 10 := fun z => (KW.1 z) y
  have e6 := (KW.2 z10).2
  refine ⟨fun z1 => B (fun z => by omega), fun z1 => ⟨fun z2 => ?_, fun z2 => B (fun z => by omega)⟩⟩
  have IN : 24 ≤ tkF x p ∧ tkF x p ≤ 26 := by omega
  rw [A.1]
  refine ⟨fun k50 => ?_, fun k50 => kb (4, plF x p) _ (by unfold actF; rw [if_pos IN, if_pos (by omega)]) (by repeat' (first | exact Fr.rfl' _ _ | assumption | (refine Fr.ubf ?_ (by decide)) | (refine Fr.ub ?_ (by decide)))) ⟨rfl, hs.tok.pl⟩⟩
  have k5 : ¬ k = 50 := by omega
  refine K_adv (d := d + 2) hs (by omega) (fun o1 hs1 => ?_)
  -- an act more
  have add : ∀ (w3 : Wd) (u v y : Int) (q : Nat), actF x U P nm k p = .inr ((u, v, y), q) → Fr dcP w w3 → CSt x q w3 → w3 32 = w 32 → w3 33 = w 33 → w3 34 = w 34 → w3 35 = w 35 → (50 ≤ w3 32 0 → Q (mI 1) w3) ∧ (¬ (50 ≤ w3 32 0) → ((0 ≤ w3 32 0 ∧ w3 32 0 < 50) ∧ ((0 ≤ w3 32 0 ∧ w3 32 0 < 50) ∧ ((0 ≤ w3 32 0 ∧ w3 32 0 < 50) ∧ Q (mI 1) (ub (ub (ub (ub w3 33 (w3 32 0).toNat u) 34 (w3 32 0).toNat v) 35 (w3 32 0).toNat y) 32 0 (w32 ((w3 32 0) + 1))))))) := by
    intro w3 u v y q he fr hs3 c32 c33 c34 c35
    have e3 : w3 32 0 = (k : Nat) := by rw [c32]; exact A.1
    rw [e3, Int.toNat_natCast, w32_id (x := (k : Int) + 1) (by unfold in32; omega)]
    refine ⟨fun z => by exfalso; omega, fun _ => ⟨by omega, by omega, by omega, ?_⟩⟩
    refine kg (u, v, y) q _ he ((((fr.ub (by decide)).ub (by decide)).ub (by decide)).ub (by decide)) (hs3.mv rfl rfl rfl) (A.add ?_ ?_ ?_ ?_)
    · show up1 (w3 32) 0 _ = _
      rw [c32]
    · show up1 (w3 33) k u = _
      rw [c33]
    · show up1 (w3 34) k v = _
      rw [c34]
    · show up1 (w3 35) k y = _
      rw [c35]
  refine ⟨fun z16 => ?_, fun z16 => ?_⟩
  · have t26 : ¬ tkF x p = 26 := fun c => z16 (by rw [e6]; omega)
    have e48 : (ubf w 2 o1) 4 8 = U := eU
    rw [e48, w32_id (x := U - 1) (by unfold in32; omega)]
    have UA : ∀ (what : Int), (tkF x p = 25 ∧ what = 1) ∨ (tkF x p = 24 ∧ what = 0) → actF x U P nm k p = aqF x U P nm what 0 (U - 1) p := fun what hw => by
      unfold actF
      rw [if_pos IN, if_neg k5, if_neg t26]
      rcases hw with hw | hw
      · rw [if_pos hw.1, hw.2]
      · rw [if_neg (by omega), hw.2]
    obtain ⟨what, hw⟩ : ∃ what : Int, (tkF x p = 25 ∧ what = 1) ∨ (tkF x p = 24 ∧ what = 0) := by
      by_cases c : tkF x p = 25
      · exact ⟨1, Or.inl ⟨c, rfl⟩⟩
      · exact ⟨0, Or.inr ⟨by omega, rfl⟩⟩
    have ua := UA what hw
    refine K_num (d := d + 2) hs1 (fun e v he hc => ⟨_, rfl, fun y => absurd rfl y, fun _ => kb e _ (by rw [ua]; unfold aqF; exact bnF_l he) (by repeat' (first | exact Fr.rfl' _ _ | assumption | (refine Fr.ubf ?_ (by decide)) | (refine Fr.ub ?_ (by decide)))) hc⟩) (fun z4 l1 l2 hg o4 => ⟨_, rfl, fun _ => ?_, fun y => absurd (by decide) y⟩)
    refine K_take (d := d + 1) hs1 (by omega) o4 (fun o5 hs5 => ⟨_, rfl, ?_⟩)
    refine ⟨fun z14 => ⟨fun _ => ?_, fun c => absurd z14 c⟩, fun z14 => ?_⟩
    · have w1 : what = 1 := by
        rcases hw with hw | hw
        · exact hw.2
        · exfalso; apply z14; rw [e6]; omega
      have := add (ubf (ubf w 2 o1) 2 o5) 1 (vnF x (nxF x p)) (-1) (nxF x (nxF x p)) (by rw [ua, w1]; unfold aqF; rw [bnF_r hg, if_pos (by decide)]) (by repeat' (first | exact Fr.rfl' _ _ | assumption | (refine Fr.ubf ?_ (by decide)) | (refine Fr.ub ?_ (by decide)))) hs5 rfl rfl rfl rfl
      exact this
    · have w0 : what = 0 := by
        rcases hw with hw | hw
        · exfalso
          have := Classical.not_not.mp z14
          rw [e6] at this; omega
        · exact hw.2
      have uq : ∀ {α : Fl ⊕ ((Int × Int × Int) × Nat)}, bnF (ppF x P nm (nxF x (nxF x p))) (fun c p3 => .inr ((0, vnF x (nxF x p), c), p3)) = α → actF x U P nm k p = α := fun h => by
        rw [ua, w0]
        unfold aqF
        rw [bnF_r hg, if_neg (by decide)]
        exact h
      refine K_person4 (d := d + 1) hs5 hP eP hr (fun e v he hc => ⟨_, rfl, fun y => absurd rfl y, fun _ => kb e _ (uq (bnF_l he)) (by repeat' (first | exact Fr.rfl' _ _ | assumption | (refine Fr.ubf ?_ (by decide)) | (refine Fr.ub ?_ (by decide)))) hc⟩) (fun g hg2 => ⟨_, rfl, fun _ => ?_, fun y => ?_⟩)
      · have pr := ppF_r hg2
        refine K_adv (d := d + 2) hs5 (by omega) (fun o7 hs7 => ?_)
        refine ⟨fun c => absurd (Classical.not_not.mp z14) c, fun _ => ?_⟩
        exact add (ubf (ubf (ubf w 2 o1) 2 o5) 2 o7) 0 (vnF x (nxF x p)) g _ (uq (by rw [bnF_r hg2])) (by repeat' (first | exact Fr.rfl' _ _ | assumption | (refine Fr.ubf ?_ (by decide)) | (refine Fr.ub ?_ (by decide)))) hs7 rfl rfl rfl rfl
      · have pr := ppF_r hg2
        exfalso; omega
  · have t26 : tkF x p = 26 := by
      have := Classical.not_not.mp z16
      rw [e6] at this; omega
    have ua : actF x U P nm k p = aqF x U P nm 2 1 47 p := by
      unfold actF
      rw [if_pos IN, if_neg k5, if_pos t26]
    refine K_num (d := d + 2) hs1 (fun e v he hc => ⟨_, rfl, fun y => absurd rfl y, fun _ => kb e _ (by rw [ua]; unfold aqF; exact bnF_l he) (by repeat' (first | exact Fr.rfl' _ _ | assumption | (refine Fr.ubf ?_ (by decide)) | (refine Fr.ub ?_ (by decide)))) hc⟩) (fun z4 l1 l2 hg o4 => ⟨_, rfl, fun _ => ?_, fun y => absurd (by decide) y⟩)
    refine K_take (d := d + 1) hs1 (by omega) o4 (fun o5 hs5 => ⟨_, rfl, ?_⟩)
    exact add (ubf (ubf w 2 o1) 2 o5) 2 (vnF x (nxF x p)) (-1) (nxF x (nxF x p)) (by rw [ua]; unfold aqF; rw [bnF_r hg, if_pos (by decide)]) (by repeat' (first | exact Fr.rfl' _ _ | assumption | (refine Fr.ubf ?_ (by decide)) | (refine Fr.ub ?_ (by decide)))) hs5 rfl rfl rfl rfl
theorem L_plan {d : Nat} {Q : MV → Wd → Prop} {w : Wd} {x : Tx} {p0 : Nat} {U P : Int} {nm a0 b0 c0 : Nat → Int} (hs : CSt x p0 w) (hp0 : p0 ≤ rdb x) (hU : 0 ≤ U ∧ U ≤ 16) (hP : 0 ≤ P ∧ P ≤ 8) (eU : w 4 8 = U) (eP : w 4 0 = P) (hr : NmR (w 5) nm 0 P)
    (kb : ∀ (e : Fl) (w2 : Wd), planF x U P nm 1041 (0, a0, b0, c0) p0 = .inl e → Fr dcP w w2 → CBd e w2 → Q (mI (w32 (-1 - e.2))) w2)
    (kg : ∀ (k : Nat) (a b c : Nat → Int) (w2 : Wd), planF x U P nm 1041 (0, a0, b0, c0) p0 = .inr (k, a, b, c) → k ≤ 50 → Fr dcP w w2 → w2 2 8 = 0 → AcD k a b c w2 → Q (mI (k : Nat)) w2) : Cw (d + 9) 98 [mR 32, mR 2, mR 4] w Q := by
  apply Plan_read_32_2_4_en (d := d + 7)
  intro n1
  have lp : ∀ (m p k : Nat) (a b c : Nat → Int) (w3 : Wd), 1041 ≤ p + m → p ≤ rdb x → k ≤ 50 → planF x U P nm 1041 (0, a0, b0, c0) p0 = planF x U P nm m (k, a, b, c) p → Fr dcP w w3 → CSt x p w3 → AcD k a b c w3 → Wp (Cw (d + 8)) cd_Plan_read (1, 0, n1) Q 5 [mR 32, mR 2, mR 4, mI (k : Nat)] [] w3 := by
    intro m
    induction m with
    | zero =>
      intro p k a b c w3 hm hp
      have e : rdb x ≤ x.L := Nat.min_le_left _ _
      have := hs.tx.L
      exfalso; omega
    | succ m ih =>
      intro p k a b c w3 hm hp hk hr2 fr hs3 A
      have e : rdb x ≤ x.L := Nat.min_le_left _ _
      have hL := hs.tx.L
      apply Plan_read_32_2_4_c5
      rw [A.1]
      by_cases t0 : tkF x p = 0
      · have G : Q (mI (k : Nat)) w3 := kg k a b c w3 (by rw [hr2]; unfold planF; rw [if_pos t0]) hk fr hs3.ok A
        have o5 : w3 2 5 = 0 := by rw [hs3.tok.k0 (by omega), t0]; rfl
        exact ⟨fun _ => G, fun _ => ⟨fun _ => G, fun y => absurd o5 y⟩⟩
      have o5 : ¬ w3 2 5 = 0 := fun y => by
        have tl := tkF_le (x := x) (p := p)
        by_cases a : tkF x p < 5
        · rw [hs3.tok.k0 a] at y; omega
        · by_cases b : tkF x p = 6
          · rw [(hs3.tok.k6 b).1] at y; omega
          · rw [(hs3.tok.kw (tkF x p - 10) (by omega)).1] at y; omega
      have UU : planF x U P nm 1041 (0, a0, b0, c0) p0 = bnF (actF x U P nm k p) fun r p2 => if tkF x p2 = 3 then planF x U P nm m (k + 1, up1 a k r.1, up1 b k r.2.1, up1 c k r.2.2) (nxF x p2) else .inl (1, plF x p2) := by
        rw [hr2]
        show (if tkF x p = 0 then _ else _) = _
        rw [if_neg t0]
      refine ⟨fun y => by exfalso; omega, fun _ => ⟨fun y => absurd y o5, fun _ => ?_⟩⟩
      refine L_act (d := d + 1) hs3 hU hP (by rw [fr 4 (by decide)]; exact eU) (by rw [fr 4 (by decide)]; exact eP) (by rw [fr 5 (by decide)]; exact hr) hk A (fun e w2 he fr2 hc => ⟨_, rfl, fun _ => ?_, fun y => absurd rfl y⟩) (fun r q w2 he fr2 hs4 A2 => ⟨_, rfl, fun y => absurd y (by decide), fun _ => ?_⟩)
      · rw [hc.2]
        exact kb e w2 (by rw [UU]; exact bnF_l he) (fr.tr fr2 (fun c hc2 => hc2)) hc
      · have ar := actF_r (s := fun i => if i = 2 then U else P) he
        refine K_semi (d := d + 3) hs4 (fun y hc => ⟨_, rfl, fun y2 => absurd rfl y2, fun _ => ?_⟩) (fun y o hs5 => ⟨_, rfl, fun _ => ?_, fun y2 => absurd (by decide) y2⟩)
        · rw [hc.2]
          exact kb (1, plF x q) _ (by rw [UU, bnF_r he, if_neg y]) ((fr.tr fr2 (fun c hc2 => hc2)).ub (by decide)) hc
        · have n3 := tkF_3 y
          have nx := tkF_nx (x := x) (p := q) (by omega)
          rw [ixs (k := k) (by omega)]
          refine ih (nxF x q) (k + 1) _ _ _ _ (by omega) n3 (by omega) ?_ ((fr.tr fr2 (fun c hc2 => hc2)).ubf (by decide)) hs5 A2
          rw [UU, bnF_r he, if_pos y]
  refine lp 1041 p0 0 a0 b0 c0 _ (by omega) hp0 (by omega) rfl (by repeat' (first | exact Fr.rfl' _ _ | assumption | (refine Fr.ubf ?_ (by decide)) | (refine Fr.ub ?_ (by decide)))) (hs.mv rfl rfl rfl) ⟨rfl, fun i hi => absurd hi (Nat.not_lt_zero _)⟩

/-! the reference's lines -/
theorem ixw_1' {n : Nat} (h : n < 100) : w32 (((109 + 4 * n : Nat) : Int) + 1) = ((110 + 4 * n : Nat) : Int) := by rw [w32_id (by unfold in32; omega)]; omega
theorem ixw_2' {n : Nat} (h : n < 100) : w32 (((109 + 4 * n : Nat) : Int) + 2) = ((111 + 4 * n : Nat) : Int) := by rw [w32_id (by unfold in32; omega)]; omega
theorem ixw_3' {n : Nat} (h : n < 100) : w32 (((109 + 4 * n : Nat) : Int) + 3) = ((112 + 4 * n : Nat) : Int) := by rw [w32_id (by unfold in32; omega)]; omega
theorem N_readWho {d : Nat} {Q : MV → Wd → Prop} {w : Wd} {x : Tx} {p : Nat} {g h nm : Nat → Int} (hs : MSt x p w g) (hk : 10 ≤ tkF x p) (W : WS h)
    (kb : ∀ (e : Fl) (g2 h2 nm2 : Nat → Int), whoL x h nm p = .inl e → GF g g2 → (∀ i, i < 14 → nm2 i = nm i) → MBd e g2 → Q (mI 0) (M3 w g2 h2 nm2))
    (kg : ∀ (t a : Int) (q : Nat), whoL x h nm p = .inr ((t, a), q) → ∀ g2 : Nat → Int, MSt x q w g2 → GF g g2 → g2 19 = g 19 → g2 20 = g 20 → Q (mI 1) (M3 w g2 (whoH h t a) (up1 nm (14 + (h 0).toNat) (f256 (liF x (nxF x p)))))) : Cw (d + 7) 181 [mR 144] (M3 w g h nm) Q := by
  have pe := W.pe
  have so := W.so
  obtain ⟨n, hn⟩ : ∃ n : Nat, h 0 = n := ⟨(h 0).toNat, by omega⟩
  have e0 : (M3 w g h nm) 147 0 = (n : Nat) := hn
  apply M_readWho_144_en (d := d + 5)
  rw [e0, gB_w]
  refine ⟨fun y => ?_, fun y => kb (4, plF x p) _ _ _ (by unfold whoL; rw [if_pos (by omega)]) (gB_f (GF.r g) 4) (fun _ _ => rfl) (gB_b hs.tok 4)⟩
  rw [ixa_7 (k := n) (by omega), ixa_15 (k := n) (by omega), show w32 (14 + ((n : Nat) : Int)) = ((14 + n : Nat) : Int) by rw [w32_id (by unfold in32; omega)]; omega, Int.toNat_natCast, Int.toNat_natCast, Int.toNat_natCast]
  have h8 : ¬ h 0 = 8 := by omega
  have U : ∀ {α : Fl ⊕ ((Int × Int) × Nat)}, bnF (frF x h nm (nxF x p)) (fun _ p2 => bnF (optF x 1 0 9 0 p2) fun t p3 => bnF (optF x 2 0 99 0 p3) fun a p4 => .inr ((t, a), p4)) = α → whoL x h nm p = α := fun y => by unfold whoL; rw [if_neg h8]; exact y
  refine N_next (d := d + 4) hs (by omega) (fun g1 hs1 f1 _ a19 a20 => ?_)
  refine N_fresh (d := d + 3) hs1 pe so (fun e g2 he f2 hb => ⟨_, rfl, fun y => absurd rfl y, fun _ => kb e _ _ _ (U (bnF_l he)) (f1.t f2) (fun _ _ => rfl) hb⟩) (fun z6 hf => ⟨_, rfl, fun _ => ⟨by omega, ?_⟩, fun y => absurd (by decide) y⟩)
  have U2 : ∀ {α : Fl ⊕ ((Int × Int) × Nat)}, bnF (optF x 1 0 9 0 (nxF x (nxF x p))) (fun t p3 => bnF (optF x 2 0 99 0 p3) fun a p4 => .inr ((t, a), p4)) = α → whoL x h nm p = α := fun y => U (by rw [bnF_r hf]; exact y)
  rw [show (M3 w g1 h nm) 144 17 = f256 (liF x (nxF x p)) by rw [M3_g]; exact (hs1.tok.k6 z6).2.1, M3_un]
  have nmk : ∀ i, i < 14 → (up1 nm (14 + n) (f256 (liF x (nxF x p)))) i = nm i := fun i hi => up1_ne _ (by omega)
  have KG : ∀ (t a : Int) (q : Nat), whoL x h nm p = .inr ((t, a), q) → ∀ g2 : Nat → Int, MSt x q w g2 → GF g g2 → g2 19 = g 19 → g2 20 = g 20 → Q (mI 1) (M3 w g2 (up1 (up1 (up1 h (7 + n) t) (15 + n) a) 0 ((n : Int) + 1)) (up1 nm (14 + n) (f256 (liF x (nxF x p))))) := by
    intro t a q hw g2 hs2 f e19 e20
    have := kg t a q hw g2 hs2 f e19 e20
    unfold whoH at this
    rw [hn, Int.toNat_natCast] at this
    exact this
  refine N_next (d := d + 4) hs1 (by omega) (fun g3 hs3 f3 _ b19 b20 => ⟨by omega, by omega, ?_⟩)
  have F3 : GF g g3 := f1.t f3
  -- asks
  have asks : ∀ (t : Int) (q : Nat) (g4 hX : Nat → Int), (∀ {α : Fl ⊕ ((Int × Int) × Nat)}, bnF (optF x 2 0 99 0 q) (fun a p4 => .inr ((t, a), p4)) = α → whoL x h nm p = α) → MSt x q w g4 → GF g g4 → g4 19 = g 19 → g4 20 = g 20 → hX = up1 (up1 h (7 + n) t) (15 + n) 0 → ∀ (Z : Prop) (W2 : Wd), (Q (mI 1) (M3 w g4 (up1 hX 0 ((n : Int) + 1)) (up1 nm (14 + n) (f256 (liF x (nxF x p))))) → Z) → W2 = M3 w g4 hX (up1 nm (14 + n) (f256 (liF x (nxF x p)))) → (¬ g4 11 = 1 → Z) ∧ (¬ (¬ g4 11 = 1) → ((¬ cmp3 (g4 17) 1634954099 = 0 → Z) ∧ (¬ (¬ cmp3 (g4 17) 1634954099 = 0) → Cw (d + 6) 175 [mR 144] W2 (fun _ v36 => Cw (d + 6) 186 [mR 144, mI 0, mI 99] v36 (fun r v38 => ∃ r39 : Int, r = mI r39 ∧ ((¬ r39 = 0 → ((0 ≤ ((15 + n : Nat) : Int) ∧ ((15 + n : Nat) : Int) < 333) ∧ Q (mI 1) (ub (ub v38 147 (15 + n) (v38 144 18)) 147 0 (w32 (((up1 (v38 147) (15 + n) (v38 144 18)) 0) + 1))))) ∧ (¬ (¬ r39 = 0) → Q (mI 0) v38))))))) := by
    intro t q g4 hX hw hs4 f e19 e20 hX2 Z W2 hZ hW
    by_cases z : tkF x q = 10 + 2
    · refine wd_yes (MdK_yes hs4.tok z) ?_
      rw [hW]
      refine N_next (d := d + 4) hs4 (by omega) (fun g5 hs5 f5 _ c19 c20 => ?_)
      refine N_num (d := d + 3) hs5 (fun e g6 he f6 hb => ⟨_, rfl, fun y => absurd rfl y, fun _ => kb e _ _ _ (hw (bnF_l (by unfold optF; rw [if_pos z]; exact he))) ((f.t f5).t f6) nmk hb⟩) (fun l1 l2 hg g6 hs6 f6 e18 d19 d20 => ⟨_, rfl, fun _ => ⟨by omega, ?_⟩, fun y => absurd (by decide) y⟩)
      rw [M3_g, e18, M3_h, M3_uh, M3_uh]
      have ex : up1 hX (15 + n) (vnF x (nxF x q)) 0 = (n : Int) := by
        rw [hX2]
        simp (disch := omega) only [up1_ne]
        exact hn
      rw [ex, w32_id (x := (n : Int) + 1) (by unfold in32; omega), hX2, up1_two]
      exact KG t _ _ (hw (by unfold optF; rw [if_pos z, bnF_r hg])) g6 hs6 ((f.t f5).t f6) (by rw [d19, c19, e19]) (by rw [d20, c20, e20])
    · refine wd_no (MdK_no hs4.tok (by decide) z) (hZ ?_)
      rw [hX2]
      exact KG t 0 q (hw (by unfold optF; rw [if_neg z]; rfl)) g4 hs4 f e19 e20
  rw [M3_g, M3_h, M3_uh, M3_uh]
  have e8 : up1 (up1 h (7 + n) 0) (15 + n) 0 0 = (n : Int) := by
    simp (disch := omega) only [up1_ne]
    exact hn
  rw [e8, w32_id (x := (n : Int) + 1) (by unfold in32; omega), M3_uh]
  by_cases z : tkF x (nxF x (nxF x p)) = 10 + 1
  · refine wd_yes (MdK_yes hs3.tok z) ?_
    refine N_next (d := d + 4) hs3 (by omega) (fun g5 hs5 f5 _ c19 c20 => ?_)
    refine N_num (d := d + 3) hs5 (fun e g6 he f6 hb => ⟨_, rfl, fun y => absurd rfl y, fun _ => kb e _ _ _ (U2 (bnF_l (by unfold optF; rw [if_pos z]; exact he))) ((F3.t f5).t f6) nmk hb⟩) (fun l1 l2 hg g6 hs6 f6 e18 d19 d20 => ⟨_, rfl, fun _ => ⟨by omega, ?_⟩, fun y => absurd (by decide) y⟩)
    have hX2 : up1 (up1 (up1 h (7 + n) 0) (15 + n) 0) (7 + n) (vnF x (nxF x (nxF x (nxF x p)))) = up1 (up1 h (7 + n) (vnF x (nxF x (nxF x (nxF x p))))) (15 + n) 0 := by
      funext k
      simp only [up1_ap]
      by_cases c1 : k = 7 + n
      · rw [if_pos c1, if_neg (by omega), if_pos c1]
      · rw [if_neg c1]
        by_cases c2 : k = 15 + n
        · rw [if_pos c2, if_pos c2]
        · rw [if_neg c2, if_neg c2, if_neg c1, if_neg c1]
    rw [M3_g, e18, M3_h, hX2, M3_uh, hX2]
    have e9 : up1 (up1 h (7 + n) (vnF x (nxF x (nxF x (nxF x p))))) (15 + n) 0 0 = (n : Int) := by
      simp (disch := omega) only [up1_ne]
      exact hn
    rw [e9, w32_id (x := (n : Int) + 1) (by unfold in32; omega), M3_uh]
    exact asks _ _ g6 _ (fun y => U2 (by rw [bnF_r (show optF x 1 0 9 0 (nxF x (nxF x p)) = .inr (vnF x (nxF x (nxF x (nxF x p))), nxF x (nxF x (nxF x (nxF x p)))) by unfold optF; rw [if_pos z]; exact hg)]; exact y)) hs6 ((F3.t f5).t f6) (by rw [d19, c19, b19, a19]) (by rw [d20, c20, b20, a20]) rfl _ _ (fun y => y) rfl
  · refine wd_no (MdK_no hs3.tok (by decide) z) ?_
    exact asks 0 _ g3 _ (fun y => U2 (by rw [bnF_r (show optF x 1 0 9 0 (nxF x (nxF x p)) = .inr (0, nxF x (nxF x p)) by unfold optF; rw [if_neg z])]; exact y)) hs3 F3 (by rw [b19, a19]) (by rw [b20, a20]) rfl _ _ (fun y => y) rfl
theorem N_readSort {d : Nat} {Q : MV → Wd → Prop} {w : Wd} {x : Tx} {p : Nat} {g h nm : Nat → Int} (hs : MSt x p w g) (hk : 10 ≤ tkF x p) (W : WS h)
    (kb : ∀ (e : Fl) (g2 h2 nm2 : Nat → Int), sortL x h nm p = .inl e → GF g g2 → (∀ i, i < 14 → nm2 i = nm i) → MBd e g2 → Q (mI 0) (M3 w g2 h2 nm2))
    (kg : ∀ (v : Int) (q : Nat), sortL x h nm p = .inr (v, q) → ∀ g2 : Nat → Int, MSt x q w g2 → GF g g2 → g2 19 = g 19 → g2 20 = g 20 → Q (mI 1) (M3 w g2 (sortH h v) (up1 nm (22 + (h 1).toNat) (f256 (liF x (nxF x p)))))) : Cw (d + 7) 188 [mR 144] (M3 w g h nm) Q := by
  have pe := W.pe
  have so := W.so
  obtain ⟨n, hn⟩ : ∃ n : Nat, h 1 = n := ⟨(h 1).toNat, by omega⟩
  have e0 : ∀ g nm, (M3 w g h nm) 147 1 = (n : Nat) := fun _ _ => hn
  apply M_readSort_144_en (d := d + 5)
  rw [e0, gB_w]
  refine ⟨fun y => ?_, fun y => kb (4, plF x p) _ _ _ (by unfold sortL; rw [if_pos (by omega)]) (gB_f (GF.r g) 4) (fun _ _ => rfl) (gB_b hs.tok 4)⟩
  have h8 : ¬ h 1 = 6 := by omega
  have U : ∀ {α : Fl ⊕ (Int × Nat)}, bnF (frF x h nm (nxF x p)) (fun _ p2 => bnF (numF x 1 48 p2) fun v p3 => .inr (v, p3)) = α → sortL x h nm p = α := fun y => by unfold sortL; rw [if_neg h8]; exact y
  refine N_next (d := d + 4) hs (by omega) (fun g1 hs1 f1 _ a19 a20 => ?_)
  refine N_fresh (d := d + 3) hs1 pe so (fun e g2 he f2 hb => ⟨_, rfl, fun y => absurd rfl y, fun _ => kb e _ _ _ (U (bnF_l he)) (f1.t f2) (fun _ _ => rfl) hb⟩) (fun z6 hf => ⟨_, rfl, fun _ => ?_, fun y => absurd (by decide) y⟩)
  rw [e0, show w32 (22 + ((n : Nat) : Int)) = ((22 + n : Nat) : Int) by rw [w32_id (by unfold in32; omega)]; omega, Int.toNat_natCast, show (M3 w g1 h nm) 144 17 = f256 (liF x (nxF x p)) by rw [M3_g]; exact (hs1.tok.k6 z6).2.1, M3_un]
  have nmk : ∀ i, i < 14 → (up1 nm (22 + n) (f256 (liF x (nxF x p)))) i = nm i := fun i hi => up1_ne _ (by omega)
  refine ⟨by omega, ?_⟩
  refine N_next (d := d + 4) hs1 (by omega) (fun g3 hs3 f3 _ b19 b20 => ?_)
  refine N_num (d := d + 3) hs3 (fun e g6 he f6 hb => ⟨_, rfl, fun y => absurd rfl y, fun _ => kb e _ _ _ (U (by rw [bnF_r hf]; exact bnF_l he)) ((f1.t f3).t f6) nmk hb⟩) (fun l1 l2 hg g6 hs6 f6 e18 d19 d20 => ⟨_, rfl, fun _ => ?_, fun y => absurd (by decide) y⟩)
  rw [e0, show w32 (23 + ((n : Nat) : Int)) = ((23 + n : Nat) : Int) by rw [w32_id (by unfold in32; omega)]; omega, Int.toNat_natCast, M3_g, e18, M3_h, M3_uh, M3_uh]
  refine ⟨by omega, ?_⟩
  have ex : up1 h (23 + n) (vnF x (nxF x (nxF x p))) 1 = (n : Int) := by
    simp (disch := omega) only [up1_ne]
    exact hn
  rw [ex, w32_id (x := (n : Int) + 1) (by unfold in32; omega)]
  have := kg _ _ (U (by rw [bnF_r hf, bnF_r hg])) g6 hs6 ((f1.t f3).t f6) (by rw [d19, b19, a19]) (by rw [d20, b20, a20])
  unfold sortH at this
  rw [hn, Int.toNat_natCast] at this
  exact this
theorem N_readLaw {d : Nat} {Q : MV → Wd → Prop} {w : Wd} {x : Tx} {p : Nat} {g h nm : Nat → Int} (hs : MSt x p w g) (hk : 10 ≤ tkF x p)
    (kb : ∀ (e : Fl) (g2 h2 nm2 : Nat → Int), lawL x (g 19) p = .inl e → GF g g2 → (∀ i, i < 14 → nm2 i = nm i) → MBd e g2 → Q (mI 0) (M3 w g2 h2 nm2))
    (kg : ∀ (n b : Int) (q : Nat), lawL x (g 19) p = .inr ((n, b), q) → ∀ g2 : Nat → Int, MSt x q w g2 → GF g g2 → g2 19 = 1 → g2 20 = g 20 → Q (mI 1) (M3 w g2 (lawH h n b) nm)) : Cw (d + 7) 194 [mR 144] (M3 w g h nm) Q := by
  apply M_readLaw_144_en (d := d + 5)
  intro n1
  rw [gB_w, M3_g, M3_ug]
  refine ⟨fun y => ?_, fun y => kb (3, plF x p) _ _ _ (by unfold lawL; rw [if_neg y]) (gB_f (GF.r g) 3) (fun _ _ => rfl) (gB_b hs.tok 3)⟩
  have U : ∀ {α : Fl ⊕ ((Int × Int) × Nat)}, bnF (numF x 2 6 (nxF x p)) (fun n p2 => if 20 ≤ tkF x p2 ∧ tkF x p2 ≤ 23 then .inr ((n, ((tkF x p2 - 20 : Nat) : Int)), nxF x p2) else .inl (1, plF x p2)) = α → lawL x (g 19) p = α := fun z => by unfold lawL; rw [if_pos y]; exact z
  refine N_next (d := d + 4) (hs.g18 19 1 (by omega)) (by omega) (fun g1 hs1 f1 _ a19 a20 => ?_)
  have F1 : GF g g1 := ((GF.r g).u (Or.inr (by omega))).t f1
  refine N_num (d := d + 3) hs1 (fun e g6 he f6 hb => ⟨_, rfl, fun y => absurd rfl y, fun _ => kb e _ _ _ (U (bnF_l he)) (F1.t f6) (fun _ _ => rfl) hb⟩) (fun l1 l2 hg g6 hs6 f6 e18 d19 d20 => ⟨_, rfl, fun _ => ?_, fun y => absurd (by decide) y⟩)
  rw [M3_g, e18, M3_uh]
  have F6 : GF g g6 := F1.t f6
  have bad : ¬ (20 ≤ tkF x (nxF x (nxF x p)) ∧ tkF x (nxF x (nxF x p)) ≤ 23) → Wp (Cw (d + 6)) cd_M_readLaw (2, 0, n1) Q 50 [mR 144, none] [mI ((-1))] (M3 w g6 (up1 h 4 (vnF x (nxF x p))) nm) := fun z => by
    apply M_readLaw_144_c50
    refine ⟨fun z2 => absurd z2 (by decide), fun _ => ?_⟩
    rw [gB_w]
    exact kb (1, plF x (nxF x (nxF x p))) _ _ _ (U (by rw [bnF_r hg, if_neg z])) (gB_f F6 1) (fun _ _ => rfl) (gB_b hs6.tok 1)
  have good : ∀ b : Nat, tkF x (nxF x (nxF x p)) = 10 + (10 + b) → b ≤ 3 → Wp (Cw (d + 6)) cd_M_readLaw (2, 0, n1) Q 50 [mR 144, none] [mI (b : Nat)] (M3 w g6 (up1 h 4 (vnF x (nxF x p))) nm) := fun b z hb => by
    apply M_readLaw_144_c50
    refine ⟨fun _ => ?_, fun z2 => by exfalso; omega⟩
    rw [M3_uh]
    refine N_next (d := d + 4) hs6 (by omega) (fun g7 hs7 f7 _ c19 c20 => ?_)
    refine kg (vnF x (nxF x p)) (b : Nat) _ (U ?_) g7 hs7 (F6.t f7) (by rw [c19, d19, a19, up1_self]) (by rw [c20, d20, a20, up1_ne _ (by decide)])
    rw [bnF_r hg, if_pos (by omega), show tkF x (nxF x (nxF x p)) - 20 = b by omega]
  by_cases z0 : tkF x (nxF x (nxF x p)) = 10 + 10
  · exact wd_yes (MdK_yes hs6.tok z0) (good 0 z0 (by omega))
  refine wd_no (MdK_no hs6.tok (by decide) z0) ?_
  by_cases z1 : tkF x (nxF x (nxF x p)) = 10 + 11
  · exact wd_yes (MdK_yes hs6.tok z1) (good 1 z1 (by omega))
  refine wd_no (MdK_no hs6.tok (by decide) z1) ?_
  by_cases z2 : tkF x (nxF x (nxF x p)) = 10 + 12
  · exact wd_yes (MdK_yes hs6.tok z2) (good 2 z2 (by omega))
  refine wd_no (MdK_no hs6.tok (by decide) z2) ?_
  by_cases z3 : tkF x (nxF x (nxF x p)) = 10 + 13
  · exact wd_yes (MdK_yes hs6.tok z3) (good 3 z3 (by omega))
  exact wd_no (MdK_no hs6.tok (by decide) z3) (bad (by omega))
theorem N_readWants {d : Nat} {Q : MV → Wd → Prop} {w : Wd} {x : Tx} {p : Nat} {g h nm : Nat → Int} (hs : MSt x p w g) (hk : 10 ≤ tkF x p) (W : WS h)
    (kb : ∀ (e : Fl) (g2 h2 nm2 : Nat → Int), wantsL x h nm p = .inl e → GF g g2 → (∀ i, i < 14 → nm2 i = nm i) → MBd e g2 → Q (mI 0) (M3 w g2 h2 nm2))
    (kg : ∀ (a s v b : Int) (q : Nat), wantsL x h nm p = .inr ((a, s, v, b), q) → ∀ g2 : Nat → Int, MSt x q w g2 → GF g g2 → g2 19 = g 19 → g2 20 = g 20 → Q (mI 1) (M3 w g2 (wantH h a s v b) nm)) : Cw (d + 7) 192 [mR 144] (M3 w g h nm) Q := by
  have pe := W.pe
  have so := W.so
  have wa := W.wa
  obtain ⟨n, hn⟩ : ∃ n : Nat, h 3 = n := ⟨(h 3).toNat, by omega⟩
  have e0 : ∀ g, (M3 w g h nm) 147 3 = (n : Nat) := fun _ => hn
  apply M_readWants_144_en (d := d + 5)
  rw [e0, gB_w]
  refine ⟨fun y => ?_, fun y => kb (4, plF x p) _ _ _ (by unfold wantsL; rw [if_pos (by omega)]) (gB_f (GF.r g) 4) (fun _ _ => rfl) (gB_b hs.tok 4)⟩
  have h8 : ¬ h 3 = 8 := by omega
  have U : ∀ {α : Fl ⊕ ((Int × Int × Int × Int) × Nat)}, bnF (whF x h nm (-1) (nxF x p)) (fun a p2 => bnF (soF x h nm p2) fun s p3 => bnF (numF x 0 999 p3) fun v p4 => bnF (optF x 7 0 47 47 p4) fun b p5 => .inr ((a, s, v, b), p5)) = α → wantsL x h nm p = α := fun y => by unfold wantsL; rw [if_neg h8]; exact y
  refine N_next (d := d + 4) hs (by omega) (fun g1 hs1 f1 _ a19 a20 => ?_)
  rw [e0, ixw (v := n) (by omega), ixw_1' (n := n) (by omega), ixw_2' (n := n) (by omega), ixw_3' (n := n) (by omega), Int.toNat_natCast, Int.toNat_natCast, Int.toNat_natCast, Int.toNat_natCast]
  refine N_who (d := d + 3) hs1 pe (fun e g2 he f2 hb => ⟨_, rfl, fun y => absurd rfl y, fun _ => kb e _ _ _ (U (bnF_l he)) (f1.t f2) (fun _ _ => rfl) hb⟩) (fun a ha g2 hs2 f2 e18 b19 b20 => ⟨_, rfl, fun _ => ⟨by omega, ?_⟩, fun y => absurd (by decide) y⟩)
  rw [M3_g, e18, M3_uh]
  have k0 : ∀ i, i < 109 → (up1 h (109 + 4 * n) a) i = h i := fun i hi => up1_ne _ (by omega)
  have fs : soF x (up1 h (109 + 4 * n) a) nm (nxF x (nxF x p)) = soF x h nm (nxF x (nxF x p)) := by unfold soF; rw [k0 1 (by omega)]
  refine N_sort (d := d + 3) hs2 (by rw [k0 1 (by omega)]; exact so) (fun e g3 he f3 hb => ⟨_, rfl, fun y => absurd rfl y, fun _ => kb e _ _ _ (U (by rw [bnF_r ha]; exact bnF_l (by rw [← fs]; exact he))) ((f1.t f2).t f3) (fun _ _ => rfl) hb⟩) (fun s hso g3 hs3 f3 e18' c19 c20 => ⟨_, rfl, fun _ => ⟨by omega, ?_⟩, fun y => absurd (by decide) y⟩)
  rw [fs] at hso
  rw [M3_g, e18', M3_uh]
  refine N_num (d := d + 3) hs3 (fun e g4 he f4 hb => ⟨_, rfl, fun y => absurd rfl y, fun _ => kb e _ _ _ (U (by rw [bnF_r ha, bnF_r hso]; exact bnF_l he)) (((f1.t f2).t f3).t f4) (fun _ _ => rfl) hb⟩) (fun l1 l2 hg g4 hs4 f4 e18'' d19 d20 => ⟨_, rfl, fun _ => ⟨by omega, by omega, ?_⟩, fun y => absurd (by decide) y⟩)
  rw [M3_g, e18'', M3_h, M3_uh, M3_uh, M3_uh]
  have F4 : GF g g4 := ((f1.t f2).t f3).t f4
  generalize hv : vnF x (nxF x (nxF x (nxF x p))) = v at *
  have ex : up1 (up1 (up1 (up1 h (109 + 4 * n) a) (110 + 4 * n) s) (111 + 4 * n) v) (112 + 4 * n) 47 3 = (n : Int) := by
    simp (disch := omega) only [up1_ne]
    exact hn
  rw [ex, w32_id (x := (n : Int) + 1) (by unfold in32; omega)]
  have KG : ∀ (b : Int) (q : Nat), wantsL x h nm p = .inr ((a, s, v, b), q) → ∀ g2 : Nat → Int, MSt x q w g2 → GF g g2 → g2 19 = g 19 → g2 20 = g 20 → Q (mI 1) (M3 w g2 (up1 (up1 (up1 (up1 (up1 h (109 + 4 * n) a) (110 + 4 * n) s) (111 + 4 * n) v) (112 + 4 * n) b) 3 ((n : Int) + 1)) nm) := by
    intro b q hw g2 hs2 f x19 x20
    have := kg a s v b q hw g2 hs2 f x19 x20
    unfold wantH at this
    rw [hn, Int.toNat_natCast] at this
    exact this
  by_cases z : tkF x (nxF x (nxF x (nxF x (nxF x p)))) = 10 + 7
  · refine wd_yes (MdK_yes hs4.tok z) ?_
    refine N_next (d := d + 4) hs4 (by omega) (fun g5 hs5 f5 _ x19 x20 => ?_)
    refine N_num (d := d + 3) hs5 (fun e g6 he f6 hb => ⟨_, rfl, fun y => absurd rfl y, fun _ => kb e _ _ _ (U (by rw [bnF_r ha, bnF_r hso, bnF_r hg]; exact bnF_l (by unfold optF; rw [if_pos z]; exact he))) ((F4.t f5).t f6) (fun _ _ => rfl) hb⟩) (fun m1 m2 hg2 g6 hs6 f6 y18 y19 y20 => ⟨_, rfl, fun _ => ⟨by omega, ?_⟩, fun y => absurd (by decide) y⟩)
    rw [M3_g, y18, M3_h, M3_uh, M3_uh, up1_two]
    have ex2 : up1 (up1 (up1 (up1 h (109 + 4 * n) a) (110 + 4 * n) s) (111 + 4 * n) v) (112 + 4 * n) (vnF x (nxF x (nxF x (nxF x (nxF x (nxF x p)))))) 3 = (n : Int) := by
      simp (disch := omega) only [up1_ne]
      exact hn
    rw [ex2, w32_id (x := (n : Int) + 1) (by unfold in32; omega)]
    have e7 : optF x 7 0 47 47 (nxF x (nxF x (nxF x (nxF x p)))) = .inr (vnF x (nxF x (nxF x (nxF x (nxF x (nxF x p))))), nxF x (nxF x (nxF x (nxF x (nxF x (nxF x p)))))) := by unfold optF; rw [if_pos z]; exact hg2
    exact KG (vnF x (nxF x (nxF x (nxF x (nxF x (nxF x p)))))) (nxF x (nxF x (nxF x (nxF x (nxF x (nxF x p)))))) (U (by rw [bnF_r ha, bnF_r hso, bnF_r hg, bnF_r e7])) g6 hs6 ((F4.t f5).t f6) (by rw [y19, x19, d19, c19, b19, a19]) (by rw [y20, x20, d20, c20, b20, a20])
  · refine wd_no (MdK_no hs4.tok (by decide) z) ?_
    have e7 : optF x 7 0 47 47 (nxF x (nxF x (nxF x (nxF x p)))) = .inr (47, (nxF x (nxF x (nxF x (nxF x p))))) := by unfold optF; rw [if_neg z]
    exact KG 47 (nxF x (nxF x (nxF x (nxF x p)))) (U (by rw [bnF_r ha, bnF_r hso, bnF_r hg, bnF_r e7])) g4 hs4 F4 (by rw [d19, c19, b19, a19]) (by rw [d20, c20, b20, a20])
theorem N_readGives {d : Nat} {Q : MV → Wd → Prop} {w : Wd} {x : Tx} {p : Nat} {g h nm : Nat → Int} (hs : MSt x p w g) (hk : 10 ≤ tkF x p) (W : WS h)
    (kb : ∀ (e : Fl) (g2 h2 nm2 : Nat → Int), givesL x h nm p = .inl e → GF g g2 → (∀ i, i < 14 → nm2 i = nm i) → MBd e g2 → Q (mI 0) (M3 w g2 h2 nm2))
    (kg : ∀ (a b v t : Int) (q : Nat), givesL x h nm p = .inr ((a, b, v, t), q) → ∀ g2 : Nat → Int, MSt x q w g2 → GF g g2 → g2 19 = g 19 → g2 20 = g 20 → Q (mI 1) (M3 w g2 (giveH h a b v t) nm)) : Cw (d + 7) 193 [mR 144] (M3 w g h nm) Q := by
  have pe := W.pe
  apply M_readGives_144_en (d := d + 5)
  have U : ∀ {α : Fl ⊕ ((Int × Int × Int × Int) × Nat)}, bnF (whF x h nm (-1) (nxF x p)) (fun a p2 => bnF (giF x h nm a p2) fun b p3 => bnF (numF x 0 99 p3) fun v p4 => bnF (numF x 0 9 p4) fun t p5 => .inr ((a, b, v, t), p5)) = α → givesL x h nm p = α := fun y => by unfold givesL; exact y
  refine N_next (d := d + 4) hs (by omega) (fun g1 hs1 f1 _ a19 a20 => ?_)
  refine N_who (d := d + 3) hs1 pe (fun e g2 he f2 hb => ⟨_, rfl, fun y => absurd rfl y, fun _ => kb e _ _ _ (U (bnF_l he)) (f1.t f2) (fun _ _ => rfl) hb⟩) (fun a ha g2 hs2 f2 e18 b19 b20 => ⟨_, rfl, fun _ => ?_, fun y => absurd (by decide) y⟩)
  have ar := whF_r ha
  obtain ⟨i, hi⟩ : ∃ i : Nat, a = i := ⟨a.toNat, by omega⟩
  have F2 : GF g g2 := f1.t f2
  rw [show (M3 w g2 h nm) 144 18 = (i : Nat) by rw [M3_g, e18, hi]]
  have nb : ∀ e : Fl, giF x h nm a (nxF x (nxF x p)) = .inl e → givesL x h nm p = .inl e := fun e he => U (by rw [bnF_r ha]; exact bnF_l he)
  refine N_isName (d := d + 5) hs2 (fun z => ⟨_, rfl, fun _ => ?_, fun y => absurd (by decide) y⟩) (fun z => ⟨_, rfl, fun y => absurd rfl y, fun _ => ?_⟩)
  rotate_left
  · rw [gB_w]
    exact kb (1, plF x (nxF x (nxF x p))) _ _ _ (nb _ (by unfold giF; rw [if_neg z])) (gB_f F2 1) (fun _ _ => rfl) (gB_b hs2.tok 1)
  obtain ⟨n, hn⟩ : ∃ n : Nat, h 0 = n := ⟨(h 0).toNat, by omega⟩
  rw [M3_h, hn]
  have bd := fdF_bd nm (f256 (liF x (nxF x (nxF x p)))) 14 (h 0)
  have gd : giF x h nm a (nxF x (nxF x p)) = if fdF nm (f256 (liF x (nxF x (nxF x p)))) 14 (h 0) < 0 ∨ fdF nm (f256 (liF x (nxF x (nxF x p)))) 14 (h 0) = a ∨ h (269 + (8 * a.toNat + (fdF nm (f256 (liF x (nxF x (nxF x p)))) 14 (h 0)).toNat)) = 1 then .inl (3, plF x (nxF x (nxF x p))) else .inr (fdF nm (f256 (liF x (nxF x (nxF x p)))) 14 (h 0), nxF x (nxF x (nxF x p))) := by unfold giF; rw [if_pos z]
  have c17 := (hs2.tok.k6 z).2.1
  rw [hn, ← c17] at gd bd
  have B3 : giF x h nm a (nxF x (nxF x p)) = .inl (3, plF x (nxF x (nxF x p))) → Q (mI 0) (M3 w (gB g2 3) h nm) := fun y => kb _ _ _ _ (nb _ y) (gB_f F2 3) (fun _ _ => rfl) (gB_b hs2.tok 3)
  refine N_find (d := d + 5) (a := 14) (n := n) (by omega) ⟨_, rfl, fun y => ?_, fun y => ⟨fun y2 => ?_, fun y2 => ?_⟩⟩
  · rw [gB_w]; exact B3 (by rw [gd, if_pos (Or.inl y)])
  · rw [gB_w]; exact B3 (by rw [gd, if_pos (Or.inr (Or.inl (by omega)))])
  generalize fdF nm (g2 17) 14 (n : Int) = b at *
  obtain ⟨j, hj⟩ : ∃ j : Nat, b = j := ⟨b.toNat, by omega⟩
  subst hj
  rw [hi, Int.toNat_natCast, Int.toNat_natCast, ← hi] at gd
  rw [ixp_269 (a := i) (b := j) (by omega) (by omega), ixp_141 (a := i) (b := j) (by omega) (by omega), ixp_205 (a := i) (b := j) (by omega) (by omega), Int.toNat_natCast, Int.toNat_natCast, Int.toNat_natCast, gB_w]
  refine ⟨by omega, fun y3 => ?_, fun y3 => B3 (by
    have y4 : h (269 + (8 * i + j)) = 1 := Classical.not_not.mp y3
    rw [gd, if_pos (Or.inr (Or.inr y4))])⟩
  have y3 : ¬ h (269 + (8 * i + j)) = 1 := y3
  rw [if_neg (by omega)] at gd
  refine N_next (d := d + 4) hs2 (by omega) (fun g3 hs3 f3 _ c19 c20 => ?_)
  refine N_num (d := d + 3) hs3 (fun e g4 he f4 hb => ⟨_, rfl, fun y => absurd rfl y, fun _ => kb e _ _ _ (U (by rw [bnF_r ha, bnF_r gd]; exact bnF_l he)) ((F2.t f3).t f4) (fun _ _ => rfl) hb⟩) (fun l1 l2 hg g4 hs4 f4 e18'' d19 d20 => ⟨_, rfl, fun _ => ⟨by omega, ?_⟩, fun y => absurd (by decide) y⟩)
  rw [M3_g, e18'', M3_uh]
  refine N_num (d := d + 3) hs4 (fun e g5 he f5 hb => ⟨_, rfl, fun y => absurd rfl y, fun _ => kb e _ _ _ (U (by rw [bnF_r ha, bnF_r gd, bnF_r hg]; exact bnF_l he)) (((F2.t f3).t f4).t f5) (fun _ _ => rfl) hb⟩) (fun m1 m2 hg2 g5 hs5 f5 x18 x19 x20 => ⟨_, rfl, fun _ => ⟨by omega, by omega, ?_⟩, fun y => absurd (by decide) y⟩)
  rw [M3_g, x18, M3_uh, M3_uh]
  have := kg a (j : Nat) _ _ _ (U (by rw [bnF_r ha, bnF_r gd, bnF_r hg, bnF_r hg2])) g5 hs5 (((F2.t f3).t f4).t f5) (by rw [x19, d19, c19, b19, a19]) (by rw [x20, d20, c20, b20, a20])
  unfold giveH at this
  rw [hi, Int.toNat_natCast, Int.toNat_natCast] at this
  exact this

theorem L_sort {d : Nat} {Q : MV → Wd → Prop} {w : Wd} {x : Tx} {p : Nat} {h nm : Nat → Int} (hs : CSt x p w) (hk : 10 ≤ tkF x p) (D : Dr h nm w)
    (kb : ∀ (e : Fl) (w2 : Wd), sortL x h nm p = .inl e → Fr dcC w w2 → CBd e w2 → Q (mI 0) w2)
    (kg : ∀ (v : Int) (q : Nat) (w2 : Wd), sortL x h nm p = .inr (v, q) → Fr dcC w w2 → CSt x q w2 → Dr (sortH h v) (up1 nm (22 + (h 1).toNat) (f256 (liF x (nxF x p)))) w2 → w2 16 17 = w 16 17 → Q (mI 1) w2) : Cw (d + 7) 36 [mR 16, mR 2] w Q := by
  have pe := D.ws.pe
  have so := D.ws.so
  obtain ⟨n, hn⟩ : ∃ n : Nat, h 1 = n := ⟨(h 1).toNat, by omega⟩
  have e1 : w 16 5 = (n : Nat) := by rw [D.rv.sorts, hn]
  have e1h : w 16 5 = h 1 := D.rv.sorts
  have e0h : w 16 0 = h 0 := D.rv.people
  apply Village_sortLine_16_2_en (d := d + 5)
  refine ⟨fun y => ?_, fun y => kb (4, plF x p) _ (by unfold sortL; rw [if_pos (by omega)]) (by repeat' (first | exact Fr.rfl' _ _ | (refine Fr.ubf ?_ (by decide)) | (refine Fr.ub ?_ (by decide)))) ⟨rfl, hs.tok.pl⟩⟩
  have h8 : ¬ h 1 = 6 := by omega
  have U : ∀ {α : Fl ⊕ (Int × Nat)}, bnF (frF x h nm (nxF x p)) (fun _ p2 => bnF (numF x 1 48 p2) fun v p3 => .inr (v, p3)) = α → sortL x h nm p = α := fun y => by unfold sortL; rw [if_neg h8]; exact y
  refine K_adv (d := d + 2) hs (by omega) (fun o1 hs1 => ?_)
  refine K_fresh (d := d + 1) hs1 pe so e0h e1h D.n17 D.n21 (fun e v he hc => ⟨_, rfl, fun y => absurd rfl y, fun _ => kb e _ (U (bnF_l he)) (by repeat' (first | exact Fr.rfl' _ _ | (refine Fr.ubf ?_ (by decide)) | (refine Fr.ub ?_ (by decide)))) hc⟩) (fun z6 hf o6 => ⟨_, rfl, fun _ => ?_, fun y => absurd (by decide) y⟩)
  refine K_take (d := d + 1) hs1 (by omega) o6 (fun o2 hs2 => ⟨_, rfl, ?_⟩)
  refine K_num (d := d + 2) hs2 (fun e v he hc => ⟨_, rfl, fun y => absurd rfl y, fun _ => kb e _ (U (by rw [bnF_r hf]; exact bnF_l he)) (by repeat' (first | exact Fr.rfl' _ _ | (refine Fr.ubf ?_ (by decide)) | (refine Fr.ub ?_ (by decide)))) hc⟩) (fun z4 l1 l2 hg o4 => ⟨_, rfl, fun _ => ?_, fun y => absurd (by decide) y⟩)
  have e5 : (ubf (ubf w 2 o1) 2 o2) 16 5 = (n : Nat) := e1
  rw [e5, Int.toNat_natCast]
  refine ⟨by omega, ?_⟩
  refine K_take (d := d + 1) (hs2.mv rfl rfl rfl) (by omega) o4 (fun o3 hs3 => ⟨_, rfl, by omega, ?_⟩)
  have e6 : (ubf (ub (ubf (ubf w 2 o1) 2 o2) 21 n (f27 (liF x (nxF x p)))) 2 o3) 16 5 = (n : Nat) := e1
  rw [w32_id (x := (ubf (ub (ubf (ubf w 2 o1) 2 o2) 21 n (f27 (liF x (nxF x p)))) 2 o3) 16 5 + 1) (by rw [e6]; unfold in32; omega), e6]
  have W2 := WS_sort D.ws hn (by omega) ⟨l1, l2⟩
  have V2 := RV_sort (v := vnF x (nxF x (nxF x p))) D.ws D.rv hn (by omega) (nameTok z6)
  refine kg (vnF x (nxF x (nxF x p))) (nxF x (nxF x (nxF x p))) _ (U (by rw [bnF_r hf, bnF_r hg])) (by repeat' (first | exact Fr.rfl' _ _ | (refine Fr.ubf ?_ (by decide)) | (refine Fr.ub ?_ (by decide)))) (hs3.mv rfl rfl rfl) ?_ rfl
  unfold sortH
  rw [hn, Int.toNat_natCast]
  exact Dr.mk W2 V2
theorem L_wants {d : Nat} {Q : MV → Wd → Prop} {w : Wd} {x : Tx} {p : Nat} {h nm : Nat → Int} (hs : CSt x p w) (hk : 10 ≤ tkF x p) (D : Dr h nm w)
    (kb : ∀ (e : Fl) (w2 : Wd), wantsL x h nm p = .inl e → Fr dcC w w2 → CBd e w2 → Q (mI 0) w2)
    (kg : ∀ (a s v b : Int) (q : Nat) (w2 : Wd), wantsL x h nm p = .inr ((a, s, v, b), q) → Fr dcC w w2 → CSt x q w2 → Dr (wantH h a s v b) nm w2 → w2 16 17 = w 16 17 → Q (mI 1) w2) : Cw (d + 7) 42 [mR 16, mR 2] w Q := by
  have pe := D.ws.pe
  have so := D.ws.so
  have wa := D.ws.wa
  obtain ⟨n, hn⟩ : ∃ n : Nat, h 3 = n := ⟨(h 3).toNat, by omega⟩
  have e3 : w 16 11 = (n : Nat) := by rw [D.rv.wants, hn]
  have e1h : w 16 5 = h 1 := D.rv.sorts
  have e0h : w 16 0 = h 0 := D.rv.people
  apply Village_wantsLine_16_2_en (d := d + 5)
  intro n1
  refine ⟨fun y => ?_, fun y => kb (4, plF x p) _ (by unfold wantsL; rw [if_pos (by omega)]) (by repeat' (first | exact Fr.rfl' _ _ | (refine Fr.ubf ?_ (by decide)) | (refine Fr.ub ?_ (by decide)))) ⟨rfl, hs.tok.pl⟩⟩
  have h8 : ¬ h 3 = 8 := by omega
  have U : ∀ {α : Fl ⊕ ((Int × Int × Int × Int) × Nat)}, bnF (whF x h nm (-1) (nxF x p)) (fun a p2 => bnF (soF x h nm p2) fun s p3 => bnF (numF x 0 999 p3) fun v p4 => bnF (optF x 7 0 47 47 p4) fun b p5 => .inr ((a, s, v, b), p5)) = α → wantsL x h nm p = α := fun y => by unfold wantsL; rw [if_neg h8]; exact y
  have last : ∀ (w3 : Wd) (a s v b : Int) (q : Nat), 0 ≤ a ∧ a < h 0 → 0 ≤ s ∧ s < h 1 → 0 ≤ v ∧ v ≤ 999 → 0 ≤ b ∧ b ≤ 47 → wantsL x h nm p = .inr ((a, s, v, b), q) → Fr dcC w w3 → CSt x q w3 → w3 16 = w 16 → w3 17 = w 17 → w3 18 = w 18 → w3 19 = w 19 → w3 20 = w 20 → w3 21 = w 21 → w3 22 = w 22 → w3 23 = w 23 → w3 24 = w 24 → w3 25 = w 25 → w3 26 = w 26 → w3 27 = w 27 → Wp (Cw (d + 6)) cd_Village_wantsLine (2, 0, n1) Q 53 [mR 16, none, mI a, mI s, mI v, mI b, none] [] w3 := by
    intro w3 a s v b q ha hs2 hv hb hw fr hs3 c16 c17 c18 c19 c20 c21 c22 c23 c24 c25 c26 c27
    apply Village_wantsLine_16_2_c53
    rw [show w3 16 11 = (n : Nat) by rw [c16]; exact e3, ix4_0 (v := n) (by omega), ix4_1 (v := n) (by omega), ix4_2 (v := n) (by omega), ix4_3 (v := n) (by omega), Int.toNat_natCast, Int.toNat_natCast, Int.toNat_natCast, Int.toNat_natCast, w32_id (x := (n : Int) + 1) (by unfold in32; omega)]
    refine ⟨by omega, by omega, by omega, by omega, ?_⟩
    have W2 := WS_want D.ws hn (by omega) ha hs2 hv hb
    have V2 := RV_want (a := a) (s := s) (v := v) (b := b) D.ws D.rv hn (by omega)
    refine kg a s v b q _ hw (((((fr.ub (by decide)).ub (by decide)).ub (by decide)).ub (by decide)).ub (by decide)) (hs3.mv rfl rfl rfl) ?_ ?_
    · unfold wantH
      rw [hn, Int.toNat_natCast]
      refine Dr.mk W2 ?_
      show RV (up1 (w3 16) 11 ((n : Int) + 1)) (w3 17) (w3 18) (w3 19) (w3 20) (w3 21) (w3 22) (w3 23) (w3 24) (up1 (up1 (up1 (up1 (w3 25) (4 * n) a) (4 * n + 1) s) (4 * n + 2) v) (4 * n + 3) b) (w3 26) (w3 27) _ _
      rw [c16, c17, c18, c19, c20, c21, c22, c23, c24, c25, c26, c27]
      exact V2
    · show w3 16 17 = _
      rw [c16]
  refine K_adv (d := d + 2) hs (by omega) (fun o1 hs1 => ?_)
  refine K_takePerson (d := d) hs1 (by decide) pe e0h D.n17 (fun e v he hc => ⟨_, rfl, fun y => absurd rfl y, fun _ => kb e _ (U (bnF_l he)) (by repeat' (first | exact Fr.rfl' _ _ | (refine Fr.ubf ?_ (by decide)) | (refine Fr.ub ?_ (by decide)))) hc⟩) (fun a o2 ha hs2 => ⟨_, rfl, fun _ => ?_, fun y => ?_⟩)
  rotate_left
  · have := whF_r ha; exfalso; omega
  have ar := whF_r ha
  refine K_sort (d := d + 1) hs2 so e1h D.n21 (fun e v he hc => ⟨_, rfl, fun _ => ?_, fun y => absurd rfl y⟩) (fun s o3 hso hs3 => ⟨_, rfl, fun y => ?_, fun _ => ?_⟩)
  · apply Village_wantsLine_16_2_c32
    exact kb e _ (U (by rw [bnF_r ha]; exact bnF_l he)) (by repeat' (first | exact Fr.rfl' _ _ | (refine Fr.ubf ?_ (by decide)) | (refine Fr.ub ?_ (by decide)))) hc
  · have := soF_r hso; exfalso; omega
  have sr := soF_r hso
  refine K_num (d := d + 2) hs3 (fun e v he hc => ⟨_, rfl, fun y => absurd rfl y, fun _ => ?_⟩) (fun z4 l1 l2 hg o4 => ⟨_, rfl, fun _ => ?_, fun y => absurd (by decide) y⟩)
  · apply Village_wantsLine_16_2_c32
    exact kb e _ (U (by rw [bnF_r ha, bnF_r hso]; exact bnF_l he)) (by repeat' (first | exact Fr.rfl' _ _ | (refine Fr.ubf ?_ (by decide)) | (refine Fr.ub ?_ (by decide)))) hc
  refine K_take (d := d + 1) hs3 (by omega) o4 (fun o4' hs4 => ⟨_, rfl, ?_⟩)
  refine K_skip (d := d + 1) (kw := 7) hs4 (by decide) (fun z => ⟨_, rfl, fun _ => ?_, fun y => absurd rfl y⟩) (fun z o5 hs5 => ⟨_, rfl, fun y => absurd y (by decide), fun _ => ?_⟩)
  · have e7 : optF x 7 0 47 47 (nxF x (nxF x (nxF x (nxF x p)))) = .inr (47, (nxF x (nxF x (nxF x (nxF x p))))) := by unfold optF; rw [if_neg z]
    have eq : wantsL x h nm p = .inr ((a, s, vnF x (nxF x (nxF x (nxF x p))), 47), (nxF x (nxF x (nxF x (nxF x p))))) := U (by rw [bnF_r ha, bnF_r hso, bnF_r hg, bnF_r e7])
    exact last _ a s (vnF x (nxF x (nxF x (nxF x p)))) 47 (nxF x (nxF x (nxF x (nxF x p)))) ⟨ar.1, ar.2.1⟩ ⟨sr.1, sr.2.1⟩ ⟨l1, l2⟩ ⟨by decide, by decide⟩ eq (by repeat' (first | exact Fr.rfl' _ _ | (refine Fr.ubf ?_ (by decide)) | (refine Fr.ub ?_ (by decide)))) hs4 rfl rfl rfl rfl rfl rfl rfl rfl rfl rfl rfl rfl
  · refine K_num (d := d + 2) hs5 (fun e v he hc => ⟨_, rfl, fun y => absurd rfl y, fun _ => kb e _ (U (by rw [bnF_r ha, bnF_r hso, bnF_r hg]; exact bnF_l (by unfold optF; rw [if_pos z]; exact he))) (by repeat' (first | exact Fr.rfl' _ _ | (refine Fr.ubf ?_ (by decide)) | (refine Fr.ub ?_ (by decide)))) hc⟩) (fun z4' m1 m2 hg2 o6 => ⟨_, rfl, fun _ => ?_, fun y => absurd (by decide) y⟩)
    refine K_take (d := d + 1) hs5 (by omega) o6 (fun o7 hs7 => ⟨_, rfl, ?_⟩)
    have e7 : optF x 7 0 47 47 (nxF x (nxF x (nxF x (nxF x p)))) = .inr (vnF x (nxF x (nxF x (nxF x (nxF x (nxF x p))))), (nxF x (nxF x (nxF x (nxF x (nxF x (nxF x p))))))) := by unfold optF; rw [if_pos z]; exact hg2
    have eq : wantsL x h nm p = .inr ((a, s, vnF x (nxF x (nxF x (nxF x p))), vnF x (nxF x (nxF x (nxF x (nxF x (nxF x p)))))), (nxF x (nxF x (nxF x (nxF x (nxF x (nxF x p))))))) := U (by rw [bnF_r ha, bnF_r hso, bnF_r hg, bnF_r e7])
    exact last _ a s (vnF x (nxF x (nxF x (nxF x p)))) (vnF x (nxF x (nxF x (nxF x (nxF x (nxF x p)))))) (nxF x (nxF x (nxF x (nxF x (nxF x (nxF x p)))))) ⟨ar.1, ar.2.1⟩ ⟨sr.1, sr.2.1⟩ ⟨l1, l2⟩ ⟨m1, m2⟩ eq (by repeat' (first | exact Fr.rfl' _ _ | (refine Fr.ubf ?_ (by decide)) | (refine Fr.ub ?_ (by decide)))) hs7 rfl rfl rfl rfl rfl rfl rfl rfl rfl rfl rfl rfl
theorem L_gives {d : Nat} {Q : MV → Wd → Prop} {w : Wd} {x : Tx} {p : Nat} {h nm : Nat → Int} (hs : CSt x p w) (hk : 10 ≤ tkF x p) (D : Dr h nm w)
    (kb : ∀ (e : Fl) (w2 : Wd), givesL x h nm p = .inl e → Fr dcC w w2 → CBd e w2 → Q (mI 0) w2)
    (kg : ∀ (a b v t : Int) (q : Nat) (w2 : Wd), givesL x h nm p = .inr ((a, b, v, t), q) → Fr dcC w w2 → CSt x q w2 → Dr (giveH h a b v t) nm w2 → w2 16 17 = w 16 17 → Q (mI 1) w2) : Cw (d + 7) 43 [mR 16, mR 2] w Q := by
  have pe := D.ws.pe
  have e0h : w 16 0 = h 0 := D.rv.people
  apply Village_givesLine_16_2_en (d := d + 5)
  have U : ∀ {α : Fl ⊕ ((Int × Int × Int × Int) × Nat)}, bnF (whF x h nm (-1) (nxF x p)) (fun a p2 => bnF (giF x h nm a p2) fun b p3 => bnF (numF x 0 99 p3) fun v p4 => bnF (numF x 0 9 p4) fun t p5 => .inr ((a, b, v, t), p5)) = α → givesL x h nm p = α := fun y => by unfold givesL; exact y
  refine K_adv (d := d + 2) hs (by omega) (fun o1 hs1 => ?_)
  refine K_takePerson (d := d) hs1 (by decide) pe e0h D.n17 (fun e v he hc => ⟨_, rfl, fun y => absurd rfl y, fun _ => kb e _ (U (bnF_l he)) (by repeat' (first | exact Fr.rfl' _ _ | (refine Fr.ubf ?_ (by decide)) | (refine Fr.ub ?_ (by decide)))) hc⟩) (fun a o2 ha hs2 => ⟨_, rfl, fun _ => ?_, fun y => ?_⟩)
  rotate_left
  · have := whF_r ha; exfalso; omega
  have ar := whF_r ha
  have gl : ∀ e : Fl, whF x h nm a (nxF x (nxF x p)) = .inl e → giF x h nm a (nxF x (nxF x p)) = .inl e := fun e he => by
    unfold whF at he
    unfold giF
    by_cases z : tkF x (nxF x (nxF x p)) = 6
    · rw [if_pos z] at he ⊢
      by_cases y : fdF nm (f256 (liF x (nxF x (nxF x p)))) 14 (h 0) < 0 ∨ fdF nm (f256 (liF x (nxF x (nxF x p)))) 14 (h 0) = a
      · rw [if_pos y] at he
        rw [if_pos (y.elim (fun b => Or.inl b) (fun b => Or.inr (Or.inl b)))]
        exact he
      · rw [if_neg y] at he; cases he
    · rw [if_neg z] at he ⊢; exact he
  refine K_person (d := d + 1) hs2 (by omega) pe e0h D.n17 (fun e v he hc => ⟨_, rfl, fun y => absurd rfl y, fun _ => kb e _ (U (by rw [bnF_r ha]; exact bnF_l (gl e he))) (by repeat' (first | exact Fr.rfl' _ _ | (refine Fr.ubf ?_ (by decide)) | (refine Fr.ub ?_ (by decide)))) hc⟩) (fun b hb => ⟨_, rfl, fun _ => ?_, fun y => ?_⟩)
  rotate_left
  · have := whF_r hb; exfalso; omega
  have br := whF_r hb
  have b6 := whF_tk hb
  have bv : b = fdF nm (f256 (liF x (nxF x (nxF x p)))) 14 (h 0) := by
    unfold whF at hb
    rw [if_pos b6] at hb
    by_cases y : fdF nm (f256 (liF x (nxF x (nxF x p)))) 14 (h 0) < 0 ∨ fdF nm (f256 (liF x (nxF x (nxF x p)))) 14 (h 0) = a
    · rw [if_pos y] at hb; cases hb
    · rw [if_neg y] at hb
      injection hb with hb
      injection hb with h1 h2
      exact h1.symm
  obtain ⟨i, hi⟩ : ∃ i : Nat, a = i := ⟨a.toNat, by omega⟩
  obtain ⟨j, hj⟩ : ∃ j : Nat, b = j := ⟨b.toNat, by omega⟩
  have gd : giF x h nm a (nxF x (nxF x p)) = if h (269 + (8 * i + j)) = 1 then .inl (3, plF x (nxF x (nxF x p))) else .inr (b, nxF x (nxF x (nxF x p))) := by
    unfold giF
    rw [if_pos b6, ← bv, hi, hj, Int.toNat_natCast, Int.toNat_natCast]
    by_cases y : h (269 + (8 * i + j)) = 1
    · rw [if_pos y, if_pos (Or.inr (Or.inr y))]
    · rw [if_neg y, if_neg (fun z => by
        rcases z with z | z | z
        · omega
        · omega
        · exact y z)]
  have ix : w32 (w32 (a * 8) + b) = ((8 * i + j : Nat) : Int) := by
    rw [hi, hj, w32_id (x := (i : Int) * 8) (by unfold in32; omega), w32_id (by unfold in32; omega)]; omega
  rw [ix, Int.toNat_natCast]
  refine ⟨by omega, fun y => ?_, fun y => ?_⟩
  rotate_left
  · have y : ¬ w 26 (8 * i + j) = -1 := y
    have t01 := D.ws.told (8 * i + j) (by omega)
    have t1 : h (269 + (8 * i + j)) = 1 := by
      rcases t01 with z | z
      · exact absurd (D.rv.untold (8 * i + j) (by omega) z) y
      · exact z
    exact kb (3, plF x (nxF x (nxF x p))) _ (U (by rw [bnF_r ha]; exact bnF_l (by rw [gd, if_pos t1]))) (by repeat' (first | exact Fr.rfl' _ _ | (refine Fr.ubf ?_ (by decide)) | (refine Fr.ub ?_ (by decide)))) ⟨rfl, hs2.tok.pl⟩
  have y : w 26 (8 * i + j) = -1 := y
  have t0 : ¬ h (269 + (8 * i + j)) = 1 := fun z => by
    have := D.rv.told (8 * i + j) (by omega) z
    have := D.ws.pai (8 * i + j) (by omega)
    omega
  rw [if_neg t0] at gd
  refine K_adv (d := d + 2) hs2 (by omega) (fun o3 hs3 => ?_)
  refine K_num (d := d + 2) hs3 (fun e v he hc => ⟨_, rfl, fun y => absurd rfl y, fun _ => kb e _ (U (by rw [bnF_r ha, bnF_r gd]; exact bnF_l he)) (by repeat' (first | exact Fr.rfl' _ _ | (refine Fr.ubf ?_ (by decide)) | (refine Fr.ub ?_ (by decide)))) hc⟩) (fun z4 l1 l2 hg o4 => ⟨_, rfl, fun _ => ?_, fun y => absurd (by decide) y⟩)
  refine K_take (d := d + 1) hs3 (by omega) o4 (fun o5 hs5 => ⟨_, rfl, by omega, ?_⟩)
  refine K_num (d := d + 2) (hs5.mv rfl rfl rfl) (fun e v he hc => ⟨_, rfl, fun y => absurd rfl y, fun _ => kb e _ (U (by rw [bnF_r ha, bnF_r gd, bnF_r hg]; exact bnF_l he)) (by repeat' (first | exact Fr.rfl' _ _ | (refine Fr.ubf ?_ (by decide)) | (refine Fr.ub ?_ (by decide)))) hc⟩) (fun z4' m1 m2 hg2 o6 => ⟨_, rfl, fun _ => ?_, fun y => absurd (by decide) y⟩)
  refine K_take (d := d + 1) (hs5.mv rfl rfl rfl) (by omega) o6 (fun o7 hs7 => ⟨_, rfl, by omega, ?_⟩)
  have W2 := WS_give (a := i) (b := j) D.ws (by omega) (by omega) (by omega) ⟨l1, l2⟩ ⟨m1, m2⟩
  have V2 := RV_give (a := i) (b := j) (v := vnF x (nxF x (nxF x (nxF x p)))) (t := vnF x (nxF x (nxF x (nxF x (nxF x p))))) D.ws D.rv (by omega) (by omega)
  refine kg a b (vnF x (nxF x (nxF x (nxF x p)))) (vnF x (nxF x (nxF x (nxF x (nxF x p))))) (nxF x (nxF x (nxF x (nxF x (nxF x p))))) _ (U (by rw [bnF_r ha, bnF_r gd, bnF_r hg, bnF_r hg2])) (by repeat' (first | exact Fr.rfl' _ _ | (refine Fr.ubf ?_ (by decide)) | (refine Fr.ub ?_ (by decide)))) (hs7.mv rfl rfl rfl) ?_ rfl
  unfold giveH
  rw [hi, hj, Int.toNat_natCast, Int.toNat_natCast]
  exact Dr.mk W2 V2
theorem RV_flag {ob nm tw mt ak sn lv un ld wn pn hr s names : Nat → Int} {a b : Int} (V : RV (up1 (up1 ob 15 a) 16 b) nm tw mt ak sn lv un ld wn pn hr s names) : RV (up1 (up1 (up1 ob 17 1) 15 a) 16 b) nm tw mt ak sn lv un ld wn pn hr s names := by
  have e : ∀ i, i ≠ 17 → (up1 (up1 (up1 ob 17 1) 15 a) 16 b) i = (up1 (up1 ob 15 a) 16 b) i := fun i hi => by
    rw [up1_ap, up1_ap, up1_ap, up1_ap, up1_ap, if_neg hi]
  exact RV.mk (by rw [e 0 (by decide)]; exact V.people) (by rw [e 5 (by decide)]; exact V.sorts) (by rw [e 8 (by decide)]; exact V.units) (by rw [e 11 (by decide)]; exact V.wants) (by rw [e 15 (by decide)]; exact V.n) (by rw [e 16 (by decide)]; exact V.back) V.towns V.mates V.asks V.lives V.usort V.mak V.par V.uhour V.spo V.lead V.want V.told V.untold V.pnames V.snames
theorem L_law {d : Nat} {Q : MV → Wd → Prop} {w : Wd} {x : Tx} {p : Nat} {h nm : Nat → Int} {l : Int} (hs : CSt x p w) (hk : 10 ≤ tkF x p) (D : Dr h nm w) (hl : w 16 17 = l)
    (kb : ∀ (e : Fl) (w2 : Wd), lawL x l p = .inl e → Fr dcC w w2 → CBd e w2 → Q (mI 0) w2)
    (kg : ∀ (n b : Int) (q : Nat) (w2 : Wd), lawL x l p = .inr ((n, b), q) → Fr dcC w w2 → CSt x q w2 → Dr (lawH h n b) nm w2 → w2 16 17 = 1 → Q (mI 1) w2) : Cw (d + 7) 44 [mR 16, mR 2] w Q := by
  apply Village_lawLine_16_2_en (d := d + 5)
  rw [hl]
  refine ⟨fun y => ?_, fun y => kb (3, plF x p) _ (by unfold lawL; rw [if_neg y]) (by repeat' (first | exact Fr.rfl' _ _ | (refine Fr.ubf ?_ (by decide)) | (refine Fr.ub ?_ (by decide)))) ⟨rfl, hs.tok.pl⟩⟩
  have U : ∀ {α : Fl ⊕ ((Int × Int) × Nat)}, bnF (numF x 2 6 (nxF x p)) (fun n p2 => if 20 ≤ tkF x p2 ∧ tkF x p2 ≤ 23 then .inr ((n, ((tkF x p2 - 20 : Nat) : Int)), nxF x p2) else .inl (1, plF x p2)) = α → lawL x l p = α := fun z => by unfold lawL; rw [if_pos y]; exact z
  refine K_adv (d := d + 2) (hs.mv rfl rfl rfl) (by omega) (fun o1 hs1 => ?_)
  refine K_num (d := d + 2) hs1 (fun e v he hc => ⟨_, rfl, fun y => absurd rfl y, fun _ => kb e _ (U (bnF_l he)) (by repeat' (first | exact Fr.rfl' _ _ | (refine Fr.ubf ?_ (by decide)) | (refine Fr.ub ?_ (by decide)))) hc⟩) (fun z4 l1 l2 hg o4 => ⟨_, rfl, fun _ => ?_, fun y => absurd (by decide) y⟩)
  refine K_take (d := d + 1) hs1 (by omega) o4 (fun o2 hs2 => ⟨_, rfl, ?_⟩)
  have KW := ClK_kw hs2.tok
  have tl := tkF_le (x := x) (p := nxF x (nxF x p))
  have B : ¬ (20 ≤ tkF x (nxF x (nxF x p)) ∧ tkF x (nxF x (nxF x p)) ≤ 23) → Q (mI 0) (ub (ub (ubf (ubf (ub w 16 17 1) 2 o1) 2 o2) 16 15 (vnF x (nxF x p))) 2 8 1) := fun z => kb (1, plF x (nxF x (nxF x p))) _ (U (by rw [bnF_r hg, if_neg z])) (by repeat' (first | exact Fr.rfl' _ _ | (refine Fr.ubf ?_ (by decide)) | (refine Fr.ub ?_ (by decide)))) ⟨rfl, hs2.tok.pl⟩
  refine ⟨fun z => B (fun c => z (KW.2 (by omega)).1), fun z => ?_⟩
  have big : ¬ tkF x (nxF x (nxF x p)) < 10 := fun c => (KW.1 c) (Classical.not_not.mp z)
  have e6 := (KW.2 big).2
  refine ⟨fun z2 => B (fun c => by omega), fun z2 => ⟨fun z3 => ?_, fun z3 => B (fun c => by omega)⟩⟩
  refine K_adv (d := d + 2) (hs2.mv rfl rfl rfl) (by omega) (fun o3 hs3 => ?_)
  have ev : w32 ((ubf (ubf (ub w 16 17 1) 2 o1) 2 o2) 2 6 - 10) = ((tkF x (nxF x (nxF x p)) - 20 : Nat) : Int) := by
    rw [e6, w32_id (by unfold in32; omega)]; omega
  rw [ev] at hs3 ⊢
  have W2 := WS_law D.ws ⟨l1, l2⟩ (b := ((tkF x (nxF x (nxF x p)) - 20 : Nat) : Int)) (by omega)
  have V2 := RV_law (n := vnF x (nxF x p)) (b := ((tkF x (nxF x (nxF x p)) - 20 : Nat) : Int)) D.ws D.rv
  refine kg (vnF x (nxF x p)) ((tkF x (nxF x (nxF x p)) - 20 : Nat) : Int) (nxF x (nxF x (nxF x p))) _ (U (by rw [bnF_r hg, if_pos (by omega)])) (by repeat' (first | exact Fr.rfl' _ _ | (refine Fr.ubf ?_ (by decide)) | (refine Fr.ub ?_ (by decide)))) hs3 ?_ rfl
  refine Dr.mk W2 ?_
  have c16 : (ubf (ub (ub (ubf (ubf (ub w 16 17 1) 2 o1) 2 o2) 16 15 (vnF x (nxF x p))) 16 16 ((tkF x (nxF x (nxF x p)) - 20 : Nat) : Int)) 2 o3) 16 = up1 (up1 (up1 (w 16) 17 1) 15 (vnF x (nxF x p))) 16 ((tkF x (nxF x (nxF x p)) - 20 : Nat) : Int) := rfl
  rw [c16]
  exact RV_flag V2

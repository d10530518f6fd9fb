/-! the class's lines (by gen/mkv8.py) -/
abbrev dcC : List Nat := [2, 16, 17, 18, 19, 20, 21, 22, 23, 24, 25, 26, 27]
def Dr (h nm : Nat → Int) (w : Wd) : Prop := (WS h) ∧ (RV (w 16) (w 17) (w 18) (w 19) (w 20) (w 21) (w 22) (w 23) (w 24) (w 25) (w 26) (w 27) h (fun i => nm (14 + i)))
theorem Dr.mk {h nm : Nat → Int} {w : Wd} (ws_ : WS h) (rv_ : RV (w 16) (w 17) (w 18) (w 19) (w 20) (w 21) (w 22) (w 23) (w 24) (w 25) (w 26) (w 27) h (fun i => nm (14 + i))) : Dr h nm w := And.intro ws_ (rv_)
theorem Dr.ws {h nm : Nat → Int} {w : Wd} (h_ : Dr h nm w) : WS h := h_.1
theorem Dr.rv {h nm : Nat → Int} {w : Wd} (h_ : Dr h nm w) : RV (w 16) (w 17) (w 18) (w 19) (w 20) (w 21) (w 22) (w 23) (w 24) (w 25) (w 26) (w 27) h (fun i => nm (14 + i)) := h_.2
theorem Dr.n17 {h nm : Nat → Int} {w : Wd} (D : Dr h nm w) : NmR (w 17) nm 14 (h 0) := fun p hp => D.rv.pnames p hp
theorem Dr.n21 {h nm : Nat → Int} {w : Wd} (D : Dr h nm w) : NmR (w 21) nm 22 (h 1) := fun k hk => by
  have := D.rv.snames k hk
  have e : 14 + (8 + k) = 22 + k := by omega
  rw [← e]
  exact this
theorem K_join {d : Nat} {Q : MV → Wd → Prop} {w : Wd} {n : Nat} (hn : n < 8) (hm : ∀ p q : Nat, p < n → tb (w 19 p) q = decide (q < n ∧ w 18 p = w 18 q)) (k : ∀ m : Nat → Int, (∀ p q : Nat, p < n + 1 → tb (m p) q = decide (q < n + 1 ∧ w 18 p = w 18 q)) → Q none (ubf w 19 m)) : Cw (d + 4) 35 [mR 16, mI (n : Nat)] w Q := by
  apply Village_join_16_en (d := d + 3)
  intro n1
  rw [Int.toNat_natCast]
  refine ⟨by omega, ?_⟩
  have tbn : ∀ i q : Nat, i < 8 → tb (ishl 1 (i : Nat)) q = decide (q = i) := fun i q hi => by
    rw [tb_bit (by omega) (by omega), Int.toNat_natCast]
  have lp : ∀ (r i : Nat) (m : Nat → Int), i + r = n → (∀ p q : Nat, p < i → tb (m p) q = decide (q < n + 1 ∧ w 18 p = w 18 q)) → (∀ p q : Nat, i ≤ p → p < n → tb (m p) q = decide (q < n ∧ w 18 p = w 18 q)) → (∀ q : Nat, tb (m n) q = decide (q = n ∨ (q < i ∧ w 18 n = w 18 q))) → Wp (Cw (d + 3)) cd_Village_join (0, 0, n1) Q 9 [mR 16, mI (n : Nat), mI (i : Nat)] [] (ubf w 19 m) := by
    intro r
    induction r with
    | zero =>
      intro i m hi h1 h2 h3
      have : i = n := by omega
      subst this
      apply Village_join_16_c9
      refine ⟨fun _ => k m (fun p q hp => ?_), fun z => by exfalso; omega⟩
      by_cases e : p = i
      · rw [e, h3 q]
        apply decide_eq_decide.mpr
        constructor
        · intro z
          rcases z with z | z
          · rw [z]; exact ⟨by omega, rfl⟩
          · exact ⟨by omega, z.2⟩
        · intro z
          by_cases y : q = i
          · exact Or.inl y
          · exact Or.inr ⟨by omega, z.2⟩
      · exact h1 p q (by omega)
    | succ r ih =>
      intro i m hi h1 h2 h3
      apply Village_join_16_c9
      rw [Int.toNat_natCast, Int.toNat_natCast, ixs (k := i) (by omega)]
      have e18 : ∀ j, (ubf w 19 m) 18 j = w 18 j := fun j => rfl
      have e19 : ∀ j, (ubf w 19 m) 19 j = m j := fun j => by rw [ubf_self]
      have f19 : (ubf w 19 m) 19 = m := ubf_self _ _ _
      rw [e18, e18, e19, f19, ub_on, ub_on]
      refine ⟨fun z => by exfalso; omega, fun _ => ⟨by omega, by omega, fun z => ?_, fun z => ⟨by omega, by omega, by omega, by omega, ?_⟩⟩⟩
      · refine ih (i + 1) m (by omega) (fun p q hp => ?_) (fun p q a b => h2 p q (by omega) b) (fun q => ?_)
        · by_cases e : p = i
          · rw [e, h2 i q (Nat.le_refl _) (by omega)]
            apply decide_eq_decide.mpr
            constructor
            · intro y; exact ⟨by omega, y.2⟩
            · intro y
              refine ⟨?_, y.2⟩
              by_cases e2 : q = n
              · rw [e2] at y; exact absurd y.2 z
              · omega
          · exact h1 p q (by omega)
        · rw [h3 q]
          apply decide_eq_decide.mpr
          constructor
          · intro y
            rcases y with y | y
            · exact Or.inl y
            · exact Or.inr ⟨by omega, y.2⟩
          · intro y
            rcases y with y | y
            · exact Or.inl y
            · refine Or.inr ⟨?_, y.2⟩
              by_cases e2 : q = i
              · rw [e2] at y; exact absurd y.2.symm z
              · omega
      · have z := Classical.not_not.mp z
        have ne : ¬ n = i := by omega
        refine ih (i + 1) _ (by omega) (fun p q hp => ?_) (fun p q a b => ?_) (fun q => ?_)
        · rw [up1_ap, if_neg (by omega), up1_ap]
          by_cases e : p = i
          · rw [if_pos e, tb_or, h2 i q (Nat.le_refl _) (by omega), tbn n q hn, e]
            rw [← Bool.decide_or]
            apply decide_eq_decide.mpr
            constructor
            · intro y
              rcases y with y | y
              · exact ⟨by omega, y.2⟩
              · rw [y]; exact ⟨by omega, z⟩
            · intro y
              by_cases e2 : q = n
              · exact Or.inr e2
              · exact Or.inl ⟨by omega, y.2⟩
          · rw [if_neg e]; exact h1 p q (by omega)
        · rw [up1_ap, if_neg (by omega), up1_ap, if_neg (by omega)]; exact h2 p q (by omega) b
        · rw [up1_ap, if_pos rfl, up1_ap, if_neg ne, tb_or, h3 q, tbn i q (by omega), ← Bool.decide_or]
          apply decide_eq_decide.mpr
          constructor
          · intro y
            rcases y with (y | y) | y
            · exact Or.inl y
            · exact Or.inr ⟨by omega, y.2⟩
            · rw [y]; exact Or.inr ⟨by omega, z.symm⟩
          · intro y
            rcases y with y | y
            · exact Or.inl (Or.inl y)
            · by_cases e2 : q = i
              · exact Or.inr e2
              · exact Or.inl (Or.inr ⟨by omega, y.2⟩)
  rw [ub_ubf]
  refine lp n 0 _ (by omega) (fun p q hp => absurd hp (Nat.not_lt_zero _)) (fun p q _ hp => ?_) (fun q => ?_)
  · rw [up1_ap, if_neg (by omega)]; exact hm p q hp
  · rw [up1_ap, if_pos rfl, tbn n q hn]
    apply decide_eq_decide.mpr
    constructor
    · intro y; exact Or.inl y
    · intro y
      rcases y with y | y
      · exact y
      · exact absurd y.1 (Nat.not_lt_zero _)
theorem L_who {d : Nat} {Q : MV → Wd → Prop} {w : Wd} {x : Tx} {p : Nat} {h nm : Nat → Int} (hs : CSt x p w) (hk : 10 ≤ tkF x p) (D : Dr h nm w)
    (kb : ∀ (e : Fl) (w2 : Wd), whoL x h nm p = .inl e → Fr dcC w w2 → CBd e w2 → Q (mI 0) w2)
    (kg : ∀ (t a : Int) (q : Nat) (w2 : Wd), whoL x h nm p = .inr ((t, a), q) → Fr dcC w w2 → CSt x q w2 → Dr (whoH h t a) (up1 nm (14 + (h 0).toNat) (f256 (liF x (nxF x p)))) w2 → w2 16 17 = w 16 17 → Q (mI 1) w2) : Cw (d + 7) 27 [mR 16, mR 2] w Q := by
  have pe := D.ws.pe
  have so := D.ws.so
  obtain ⟨n, hn⟩ : ∃ n : Nat, h 0 = n := ⟨(h 0).toNat, by omega⟩
  have e0 : w 16 0 = (n : Nat) := by rw [D.rv.people, hn]
  have e0h : w 16 0 = h 0 := D.rv.people
  have e1 : w 16 5 = h 1 := D.rv.sorts
  apply Village_whoLine_16_2_en (d := d + 5)
  refine ⟨fun y => ?_, fun y => kb (4, plF x p) _ (by unfold whoL; rw [if_pos (by omega)]) (by repeat' (first | exact Fr.rfl' _ _ | (refine Fr.ubf ?_ (by decide)) | (refine Fr.ub ?_ (by decide)))) ⟨rfl, hs.tok.pl⟩⟩
  have h8 : ¬ h 0 = 8 := by omega
  have U : ∀ {α : Fl ⊕ ((Int × Int) × Nat)}, bnF (frF x h nm (nxF x p)) (fun _ p2 => bnF (optF x 1 0 9 0 p2) fun t p3 => bnF (optF x 2 0 99 0 p3) fun a p4 => .inr ((t, a), p4)) = α → whoL x h nm p = α := fun y => by unfold whoL; rw [if_neg h8]; exact y
  refine K_adv (d := d + 2) hs (by omega) (fun o1 hs1 => ?_)
  refine K_fresh (d := d + 1) hs1 pe so e0h e1 D.n17 D.n21 (fun e v he hc => ⟨_, rfl, fun y => absurd rfl y, fun _ => kb e _ (U (bnF_l he)) (by repeat' (first | exact Fr.rfl' _ _ | (refine Fr.ubf ?_ (by decide)) | (refine Fr.ub ?_ (by decide)))) hc⟩) (fun z6 hf o6 => ⟨_, rfl, fun _ => ?_, fun y => absurd (by decide) y⟩)
  have U2 : ∀ {α : Fl ⊕ ((Int × Int) × Nat)}, bnF (optF x 1 0 9 0 (nxF x (nxF x p))) (fun t p3 => bnF (optF x 2 0 99 0 p3) fun a p4 => .inr ((t, a), p4)) = α → whoL x h nm p = α := fun y => U (by rw [bnF_r hf]; exact y)
  -- the end: what stands in the draft then
  have last : ∀ (w3 : Wd) (t a : Int) (q : Nat), 0 ≤ t ∧ t ≤ 9 → 0 ≤ a ∧ a ≤ 99 → whoL x h nm p = .inr ((t, a), q) → Fr dcC w w3 → CSt x q w3 → w3 16 = up1 (w 16) 0 ((n : Int) + 1) → w3 17 = up1 (w 17) n (f27 (liF x (nxF x p))) → w3 18 = up1 (w 18) n t → w3 19 = w 19 → w3 20 = up1 (w 20) n a → w3 21 = w 21 → w3 22 = w 22 → w3 23 = w 23 → w3 24 = w 24 → w3 25 = w 25 → w3 26 = w 26 → w3 27 = w 27 → Cw (d + 6) 35 [mR 16, mI (n : Nat)] w3 (fun _ v => Q (mI 1) v) := by
    intro w3 t a q ht ha hw fr hs3 c16 c17 c18 c19 c20 c21 c22 c23 c24 c25 c26 c27
    have tw : ∀ j : Nat, j < n + 1 → (up1 (w 18) n t) j = (up1 (up1 (up1 h (7 + n) t) (15 + n) a) 0 ((n : Int) + 1)) (7 + j) := fun j hj => by
      by_cases e : j = n
      · subst e; simp (disch := omega) only [up1_ne, up1_self]
      · simp (disch := omega) only [up1_ne, up1_self]; exact D.rv.towns j (by omega)
    refine K_join (d := d + 2) (by omega) (fun r q2 hr => ?_) (fun m hm => ?_)
    · rw [c19, c18]
      have := D.rv.mates r q2 (by omega)
      rw [this]
      apply decide_eq_decide.mpr
      constructor
      · intro y
        refine ⟨by omega, ?_⟩
        rw [up1_ne _ (by omega), up1_ne _ (by omega), D.rv.towns r (by omega), D.rv.towns q2 (by omega)]; exact y.2
      · intro y
        have y2 := y.2
        rw [up1_ne _ (by omega), up1_ne _ (by omega), D.rv.towns r (by omega), D.rv.towns q2 (by omega)] at y2
        exact ⟨by omega, y2⟩
    · rw [c18] at hm
      have W2 := WS_who D.ws hn (by omega) ht ha
      have V2 := RV_who (mt2 := m) (t := t) (a := a) D.ws D.rv hn (by omega) (nameTok z6) (fun r q2 hr => by
        rw [hm r q2 hr]
        apply decide_eq_decide.mpr
        constructor
        · intro y; rw [← tw r hr, ← tw q2 y.1]; exact y
        · intro y; rw [← tw r hr, ← tw q2 y.1] at y; exact y)
      refine kg t a q _ hw (fr.ubf (by decide)) (hs3.mv rfl rfl rfl) ?_ ?_
      · unfold whoH
        rw [hn, Int.toNat_natCast]
        refine Dr.mk W2 ?_
        show RV (w3 16) (w3 17) (w3 18) m (w3 20) (w3 21) (w3 22) (w3 23) (w3 24) (w3 25) (w3 26) (w3 27) _ _
        rw [c16, c17, c18, c20, c21, c22, c23, c24, c25, c26, c27]
        exact V2
      · show w3 16 17 = _
        rw [c16, up1_ne _ (by decide)]
  have asks : ∀ (w3 : Wd) (t : Int) (q : Nat), 0 ≤ t ∧ t ≤ 9 → (∀ {α : Fl ⊕ ((Int × Int) × Nat)}, bnF (optF x 2 0 99 0 q) (fun a p4 => .inr ((t, a), p4)) = α → whoL x h nm p = α) → Fr dcC w w3 → CSt x q w3 → w3 16 = up1 (w 16) 0 ((n : Int) + 1) → w3 17 = up1 (w 17) n (f27 (liF x (nxF x p))) → w3 18 = up1 (w 18) n t → w3 19 = w 19 → w3 20 = up1 (w 20) n 0 → w3 21 = w 21 → w3 22 = w 22 → w3 23 = w 23 → w3 24 = w 24 → w3 25 = w 25 → w3 26 = w 26 → w3 27 = w 27 → Cw (d + 6) 33 [mR 2, mI 2] w3 (fun r v15 => ∃ r16 : Int, r = mI r16 ∧ ((r16 = 0 → Cw (d + 6) 35 [mR 16, mI (n : Nat)] v15 (fun _ v19 => Q (mI 1) v19)) ∧ (¬ (r16 = 0) → Cw (d + 6) 34 [mR 2, mI 0, mI 99] v15 (fun r v21 => ∃ r22 : Int, r = mI r22 ∧ ((¬ r22 = 0 → Cw (d + 6) 32 [mR 2] v21 (fun r v25 => ∃ r26 : Int, r = mI r26 ∧ ((0 ≤ ((n : Nat) : Int) ∧ ((n : Nat) : Int) < 8) ∧ Cw (d + 6) 35 [mR 16, mI (n : Nat)] (ub v25 20 (((n : Nat) : Int)).toNat r26) (fun _ v28 => Q (mI 1) v28)))) ∧ (¬ (¬ r22 = 0) → Q (mI 0) v21)))))) := by
    intro w3 t q ht hw fr hs3 c16 c17 c18 c19 c20 c21 c22 c23 c24 c25 c26 c27
    rw [Int.toNat_natCast]
    refine K_skip (d := d + 1) (kw := 2) hs3 (by decide) (fun z => ⟨_, rfl, fun _ => ?_, fun y => absurd rfl y⟩) (fun z o3 hs4 => ⟨_, rfl, fun y => absurd y (by decide), fun _ => ?_⟩)
    · exact last w3 t 0 q ht (by omega) (hw (by unfold optF; rw [if_neg z]; rfl)) fr hs3 c16 c17 c18 c19 c20 c21 c22 c23 c24 c25 c26 c27
    · refine K_num (d := d + 2) hs4 (fun e v he hc => ⟨_, rfl, fun y => absurd rfl y, fun _ => kb e _ (hw (bnF_l (by unfold optF; rw [if_pos z]; exact he))) ((fr.ubf (by decide)).ub (by decide)) hc⟩) (fun z4 l1 l2 hg o4 => ⟨_, rfl, fun _ => ?_, fun y => absurd (by decide) y⟩)
      refine K_take (d := d + 1) hs4 (by omega) o4 (fun o5 hs5 => ⟨_, rfl, ⟨by omega, by omega⟩, ?_⟩)
      refine last _ t (vnF x (nxF x q)) (nxF x (nxF x q)) ht ⟨l1, l2⟩ (hw ?_) (((fr.ubf (by decide)).ubf (by decide)).ub (by decide)) (hs5.mv rfl rfl rfl) c16 c17 c18 c19 ?_ c21 c22 c23 c24 c25 c26 c27
      · rw [bnF_r (show optF x 2 0 99 0 q = .inr (vnF x (nxF x q), nxF x (nxF x q)) by unfold optF; rw [if_pos z]; exact hg)]
      · show up1 (w3 20) n _ = _
        rw [c20, up1_two]
  refine K_take (d := d + 1) hs1 (by omega) o6 (fun o2 hs2 => ⟨_, rfl, ?_⟩)
  have e4 : (ubf w 2 o1) 16 0 = (n : Nat) := e0
  have e5 : (ubf (ubf w 2 o1) 2 o2) 16 0 = (n : Nat) := e0
  rw [e4, e5]
  refine ⟨by omega, by omega, by omega, ?_⟩
  rw [Int.toNat_natCast, w32_id (x := (n : Int) + 1) (by unfold in32; omega)]
  refine K_skip (d := d + 1) (kw := 1) (hs2.mv rfl rfl rfl) (by decide) (fun z => ⟨_, rfl, fun _ => ?_, fun y => absurd rfl y⟩) (fun z o3 hs4 => ⟨_, rfl, fun y => absurd y (by decide), fun _ => ?_⟩)
  · have := asks _ 0 (nxF x (nxF x p)) (by omega) (fun y => U2 (by rw [bnF_r (show optF x 1 0 9 0 (nxF x (nxF x p)) = .inr (0, nxF x (nxF x p)) by unfold optF; rw [if_neg z])]; exact y)) (by repeat' (first | exact Fr.rfl' _ _ | (refine Fr.ubf ?_ (by decide)) | (refine Fr.ub ?_ (by decide)))) (hs2.mv (w2 := ub (ub (ub (ub (ubf (ubf w 2 o1) 2 o2) 17 n (f27 (liF x (nxF x p)))) 18 n 0) 20 n 0) 16 0 ((n : Int) + 1)) rfl rfl rfl) rfl rfl rfl rfl rfl rfl rfl rfl rfl rfl rfl rfl
    rw [Int.toNat_natCast] at this
    exact this
  · refine K_num (d := d + 2) hs4 (fun e v he hc => ⟨_, rfl, fun y => absurd rfl y, fun _ => kb e _ (U2 (bnF_l (by unfold optF; rw [if_pos z]; exact he))) (by repeat' (first | exact Fr.rfl' _ _ | (refine Fr.ubf ?_ (by decide)) | (refine Fr.ub ?_ (by decide)))) hc⟩) (fun z4 l1 l2 hg o4 => ⟨_, rfl, fun _ => ?_, fun y => absurd (by decide) y⟩)
    refine K_take (d := d + 1) hs4 (by omega) o4 (fun o5 hs5 => ⟨_, rfl, ⟨by omega, by omega⟩, ?_⟩)
    have := asks _ (vnF x (nxF x (nxF x (nxF x p)))) (nxF x (nxF x (nxF x (nxF x p)))) ⟨l1, l2⟩ (fun y => U2 (by rw [bnF_r (show optF x 1 0 9 0 (nxF x (nxF x p)) = .inr (vnF x (nxF x (nxF x (nxF x p))), nxF x (nxF x (nxF x (nxF x p)))) by unfold optF; rw [if_pos z]; exact hg)]; exact y)) (by repeat' (first | exact Fr.rfl' _ _ | (refine Fr.ubf ?_ (by decide)) | (refine Fr.ub ?_ (by decide)))) (hs5.mv (w2 := ub (ubf (ubf (ub (ub (ub (ub (ubf (ubf w 2 o1) 2 o2) 17 n (f27 (liF x (nxF x p)))) 18 n 0) 20 n 0) 16 0 ((n : Int) + 1)) 2 o3) 2 o5) 18 n (vnF x (nxF x (nxF x (nxF x p))))) rfl rfl rfl) rfl rfl (up1_two _ _ _ _) rfl rfl rfl rfl rfl rfl rfl rfl rfl
    rw [Int.toNat_natCast] at this
    exact this

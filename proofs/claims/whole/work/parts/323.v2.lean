theorem ubf_two (w : Wd) (c : Nat) (f g : Nat → Int) : ubf (ubf w c f) c g = ubf w c g := by
  funext a i
  rw [ubf_ap, ubf_ap, ubf_ap]
  split <;> simp_all
/-- the class reads its next token -/
theorem S_advance {d : Nat} {Q : MV → Wd → Prop} {w : Wd} {x : Tx} (hx : TxO x) (ht : ∀ i, i < 1040 → w 1 i = x.t i) (hw : ∀ i, i < 17 → w 3 i = nthA 0 tokK i) {p : Nat} (hp : p ≤ 1040) (h2 : w 2 2 = x.L) (h3 : w 2 3 = rdb x) (h4 : w 2 4 = p)
    (k : ∀ o : Nat → Int, ClT o x p → o 8 = w 2 8 → (∀ i, i < 2 → o i = w 2 i) → Q none (ubf w 2 o)) : Cw (d + 3) 18 [mR 2] w Q := by
  have hL := hx.L
  have hR : rdb x ≤ x.L := Nat.min_le_left _ _
  apply Tokens_advance_2_en
  intro n1
  have lE : ∀ o : Nat → Int, (∀ i, i ≠ 4 → i ≠ 6 → i ≠ 7 → o i = w 2 i) → qF x p < rdb x → o 4 = qF x p → o 6 = 0 → o 7 = qF x p → Wp (Cw (d + 2)) cd_Tokens_advance (0, 0, n1) Q 57 [mR 2, mI (qF x p : Nat), mI 0] [] (ubf w 2 o) := by
    intro o ho hq o4 o6 o7
    have e2 : (ubf w 2 o) 2 2 = x.L := by rw [ubf_self, ho 2 (by decide) (by decide) (by decide), h2]
    have e4 : (ubf w 2 o) 2 4 = (qF x p : Nat) := by rw [ubf_self, o4]
    have qL : qF x p < x.L := by omega
    have base : ∀ o' : Nat → Int, o' 2 = o 2 → o' 3 = o 3 → o' 7 = o 7 → o' 2 = x.L ∧ o' 3 = rdb x ∧ o' 7 = plF x p := fun o' a b c => ⟨by rw [a, ho 2 (by decide) (by decide) (by decide), h2], by rw [b, ho 3 (by decide) (by decide) (by decide), h3], by rw [c, o7]; unfold plF; rw [if_neg (by omega)]⟩
    have low : ∀ o' : Nat → Int, o' 8 = o 8 → o' 0 = o 0 → o' 1 = o 1 → o' 8 = w 2 8 ∧ ∀ i, i < 2 → o' i = w 2 i := fun o' a b c => ⟨by rw [a, ho 8 (by decide) (by decide) (by decide)], fun i hi => by
      rcases (show i = 0 ∨ i = 1 by omega) with e | e
      · rw [e, b, ho 0 (by decide) (by decide) (by decide)]
      · rw [e, c, ho 1 (by decide) (by decide) (by decide)]⟩
    -- the end of the run
    have fin : ∀ j : Nat, j = eF x p → qF x p ≤ j → j ≤ x.L → (¬ (j : Int) = (qF x p : Nat) → Cw (d + 2) 21 [mR 2, mI (j : Nat), mI (dgF x.t (qF x p) (j - qF x p) : Nat)] (ubf w 2 o) (fun _ v => Q none (ub v 2 4 (j : Nat)))) ∧ (¬ (¬ (j : Int) = (qF x p : Nat)) → ((0 ≤ ((qF x p : Nat) : Int) ∧ ((qF x p : Nat) : Int) < 1040) ∧ ((¬ x.t (qF x p) = 59 → Q none (ub (ub (ubf w 2 o) 2 5 2) 2 4 (w32 (((qF x p : Nat) : Int) + 1)))) ∧ (¬ (¬ x.t (qF x p) = 59) → Q none (ub (ub (ubf w 2 o) 2 5 3) 2 4 (w32 (((qF x p : Nat) : Int) + 1))))))) := by
      intro j hj hqj hjL
      refine ⟨fun z => ?_, fun z => ⟨by omega, fun y => ?_, fun y => ?_⟩⟩
      · have ne : ¬ eF x p = qF x p := by omega
        have nx : nxF x p = j := by unfold nxF; rw [if_neg ne, hj]
        have rr : ∀ i, i < j - qF x p → isR (x.t (qF x p + i)) := fun i hi => ruF_run x.t x.L (x.L - qF x p) (qF x p) _ (by omega) (by
          have : eF x p = ruF x.t x.L (x.L - qF x p) (qF x p) := rfl
          omega)
        have e7 : (ubf w 2 o) 2 7 = (qF x p : Nat) := by rw [ubf_self, o7]
        have e6 : (ubf w 2 o) 2 6 = 0 := by rw [ubf_self, o6]
        have jq : qF x p + (j - qF x p) = j := by omega
        have T := S_takeRun (d := d) (Q := fun _ v => Q none (ub v 2 4 (j : Nat))) (w := ubf w 2 o) (x := x) ht (qF x p) (j - qF x p) (by omega) (by omega) e7 e6 hw rr ?_ ?_ ?_
        · rw [jq] at T
          exact T
        · intro o1 h1 h5 a b
          rw [ubf_two, ub_on]
          have h1 : ∀ i, i ≠ 5 → i ≠ 6 → o1 i = o i := h1
          have B := base (up1 o1 4 (j : Nat)) (by rw [up1_ap, if_neg (by decide), h1 2 (by decide) (by decide)]) (by rw [up1_ap, if_neg (by decide), h1 3 (by decide) (by decide)]) (by rw [up1_ap, if_neg (by decide), h1 7 (by decide) (by decide)])
          have C := low (up1 o1 4 (j : Nat)) (by rw [up1_ap, if_neg (by decide), h1 8 (by decide) (by decide)]) (by rw [up1_ap, if_neg (by decide), h1 0 (by decide) (by decide)]) (by rw [up1_ap, if_neg (by decide), h1 1 (by decide) (by decide)])
          have kd : kdF x p = 2 := by unfold kdF; rw [if_neg (by omega), if_neg ne, ← hj, if_neg a, if_neg b]
          refine k _ ⟨B.1, B.2.1, B.2.2, fun z => by omega, fun z => by omega, fun _ => by rw [up1_ap, if_neg (by decide)]; exact h5, fun z => by omega, fun z => by omega, fun z => by omega⟩ C.1 C.2
        · intro o1 h1 a h5 h6
          rw [ubf_two, ub_on]
          have h1 : ∀ i, i ≠ 5 → i ≠ 6 → o1 i = o i := h1
          have B := base (up1 o1 4 (j : Nat)) (by rw [up1_ap, if_neg (by decide), h1 2 (by decide) (by decide)]) (by rw [up1_ap, if_neg (by decide), h1 3 (by decide) (by decide)]) (by rw [up1_ap, if_neg (by decide), h1 7 (by decide) (by decide)])
          have C := low (up1 o1 4 (j : Nat)) (by rw [up1_ap, if_neg (by decide), h1 8 (by decide) (by decide)]) (by rw [up1_ap, if_neg (by decide), h1 0 (by decide) (by decide)]) (by rw [up1_ap, if_neg (by decide), h1 1 (by decide) (by decide)])
          have kd : kdF x p = 4 := by unfold kdF; rw [if_neg (by omega), if_neg ne, ← hj, if_pos a]
          refine k _ ⟨B.1, B.2.1, B.2.2, fun z => by omega, fun z => by omega, fun z => by omega, fun z => by omega, fun _ => ⟨by rw [up1_ap, if_neg (by decide)]; exact h5, by rw [up1_ap, if_pos rfl, nx], by rw [up1_ap, if_neg (by decide), h6, hj]; rfl⟩, fun z => by omega⟩ C.1 C.2
        · intro o1 h1 a b h5
          rw [ubf_two, ub_on]
          have h1 : ∀ i, i ≠ 5 → i ≠ 6 → o1 i = o i := h1
          have B := base (up1 o1 4 (j : Nat)) (by rw [up1_ap, if_neg (by decide), h1 2 (by decide) (by decide)]) (by rw [up1_ap, if_neg (by decide), h1 3 (by decide) (by decide)]) (by rw [up1_ap, if_neg (by decide), h1 7 (by decide) (by decide)])
          have C := low (up1 o1 4 (j : Nat)) (by rw [up1_ap, if_neg (by decide), h1 8 (by decide) (by decide)]) (by rw [up1_ap, if_neg (by decide), h1 0 (by decide) (by decide)]) (by rw [up1_ap, if_neg (by decide), h1 1 (by decide) (by decide)])
          have kd : kdF x p = 5 := by unfold kdF; rw [if_neg (by omega), if_neg ne, ← hj, if_neg a, if_pos b]
          rw [hj] at h5
          refine k _ ⟨B.1, B.2.1, B.2.2, fun z => by omega, fun z => by omega, fun z => by omega, fun z => by omega, fun z => by omega, fun _ => ⟨by rw [up1_ap, if_pos rfl, nx], ?_⟩⟩ C.1 C.2
          rw [up1_ap, if_neg (by decide), up1_ap, if_neg (by decide)]
          exact h5
      · have eq : eF x p = qF x p := by omega
        have nx : nxF x p = qF x p + 1 := by unfold nxF; rw [if_pos eq]
        have kd : kdF x p = 2 := by unfold kdF; rw [if_neg (by omega), if_pos eq, if_neg y]
        rw [ub_on, ub_on]
        have B := base (up1 (up1 o 5 2) 4 (w32 (((qF x p : Nat) : Int) + 1))) rfl rfl rfl
        have C := low (up1 (up1 o 5 2) 4 (w32 (((qF x p : Nat) : Int) + 1))) rfl rfl rfl
        exact k _ ⟨B.1, B.2.1, B.2.2, fun z => by omega, fun z => by omega, fun _ => rfl, fun z => by omega, fun z => by omega, fun z => by omega⟩ C.1 C.2
      · have eq : eF x p = qF x p := by omega
        have nx : nxF x p = qF x p + 1 := by unfold nxF; rw [if_pos eq]
        have kd : kdF x p = 3 := by unfold kdF; rw [if_neg (by omega), if_pos eq, if_pos (Classical.not_not.mp y)]
        rw [w32_id (by unfold in32; omega), ub_on, ub_on]
        have B := base (up1 (up1 o 5 3) 4 (((qF x p : Nat) : Int) + 1)) rfl rfl rfl
        have C := low (up1 (up1 o 5 3) 4 (((qF x p : Nat) : Int) + 1)) rfl rfl rfl
        exact k _ ⟨B.1, B.2.1, B.2.2, fun z => by omega, fun z => by omega, fun z => by omega, fun _ => ⟨rfl, by rw [up1_ap, if_pos rfl, nx]; omega⟩, fun z => by omega, fun z => by omega⟩ C.1 C.2
    have lp : ∀ (m j : Nat), j + m = x.L → qF x p ≤ j → eF x p = ruF x.t x.L (x.L - j) j → Wp (Cw (d + 2)) cd_Tokens_advance (0, 0, n1) Q 57 [mR 2, mI (j : Nat), mI (dgF x.t (qF x p) (j - qF x p) : Nat)] [] (ubf w 2 o) := by
      intro m
      induction m with
      | zero =>
        intro j hj hq he
        have : j = eF x p := by
          rw [he, show x.L - j = 0 by omega]; rfl
        have F := fin j this hq (by omega)
        apply Tokens_advance_2_c57
        rw [e2, e4, Int.toNat_natCast, Int.toNat_natCast, show (ubf w 2 o) 1 (qF x p) = x.t (qF x p) from ht _ (by omega)]
        exact ⟨fun _ => F, fun z => by exfalso; omega⟩
      | succ m ih =>
        intro j hj hq he
        have dl := dgF_le x.t (qF x p) (j - qF x p)
        apply Tokens_advance_2_c57
        rw [e2, e4, Int.toNat_natCast, Int.toNat_natCast, show (ubf w 2 o) 1 (qF x p) = x.t (qF x p) from ht _ (by omega), show (ubf w 2 o) 1 j = x.t j from ht _ (by omega)]
        by_cases z : isR (x.t j)
        · have G := ih (j + 1) (by omega) (by omega) (by rw [he, show x.L - j = (x.L - (j + 1)) + 1 by omega, ruF_go (by omega) z])
          rw [show j + 1 - qF x p = (j - qF x p) + 1 by omega] at G
          have gd : dgF x.t (qF x p) ((j - qF x p) + 1) = dgF x.t (qF x p) (j - qF x p) + @ite _ (isD (x.t j)) (Classical.propDecidable _) 1 0 := by
            show dgF x.t (qF x p) (j - qF x p) + @ite _ (isD (x.t (qF x p + (j - qF x p)))) (Classical.propDecidable _) 1 0 = _
            rw [show qF x p + (j - qF x p) = j by omega]
          rw [gd] at G
          clear fin gd
          generalize hg : dgF x.t (qF x p) (j - qF x p) = g at *
          rw [w32_id (x := (j : Int) + 1) (by unfold in32; omega), w32_id (x := (g : Int) + 0) (by unfold in32; omega), w32_id (x := (g : Int) + 1) (by unfold in32; omega)]
          have GD : isD (x.t j) → Wp (Cw (d + 2)) cd_Tokens_advance (0, 0, n1) Q 57 [mR 2, mI ((j : Int) + 1), mI ((g : Int) + 1)] [] (ubf w 2 o) := fun y => by
            rw [if_pos y] at G
            exact G
          have GS : ¬ isD (x.t j) → Wp (Cw (d + 2)) cd_Tokens_advance (0, 0, n1) Q 57 [mR 2, mI ((j : Int) + 1), mI ((g : Int) + 0)] [] (ubf w 2 o) := fun y => by
            rw [if_neg y] at G
            rw [Int.add_zero]
            exact G
          unfold isR isS isD at z
          unfold isD at GD GS
          clear G ih
          generalize x.t j = c at *
          refine ⟨fun y => by exfalso; omega, fun _ => ⟨by omega, ?_⟩⟩
          refine ⟨fun y1 => ⟨by omega, fun y2 => by exfalso; omega, fun y2 => by exfalso; omega⟩, fun y1 => ⟨fun y2 => ⟨by omega, fun y3 => by exfalso; omega, fun y3 => ⟨fun y4 => by exfalso; omega, fun y4 => ⟨by omega, fun y5 => by exfalso; omega, fun y5 => ⟨fun y6 => GS (by omega), fun y6 => by exfalso; omega⟩⟩⟩⟩, fun y2 => ⟨by omega, fun y3 => by exfalso; omega, fun y3 => ⟨fun y4 => by exfalso; omega, fun y4 => GD (by omega)⟩⟩⟩⟩
        · have : j = eF x p := by
            rw [he, ruF_stop (fun y => z y.2)]
          have F := fin j this hq (by omega)
          unfold isR isS isD at z
          clear fin ih
          generalize x.t j = c at *
          refine ⟨fun y => by exfalso; omega, fun _ => ⟨by omega, ?_⟩⟩
          refine ⟨fun y1 => ⟨by omega, fun y2 => F, fun y2 => by exfalso; omega⟩, fun y1 => ⟨fun y2 => ⟨by omega, fun y3 => F, fun y3 => ⟨fun y4 => F, fun y4 => by exfalso; omega⟩⟩, fun y2 => by exfalso; omega⟩⟩
    have := lp (x.L - qF x p) (qF x p) (by omega) (Nat.le_refl _) rfl
    rw [Nat.sub_self] at this
    exact this
  have l0 : ∀ (m j : Nat) (o : Nat → Int), rdb x - j = m → j ≤ 1040 → (∀ i, i ≠ 4 → o i = w 2 i) → o 4 = j → qF x p = skF x.t (rdb x) (rdb x - j) j → Wp (Cw (d + 2)) cd_Tokens_advance (0, 0, n1) Q 0 [mR 2, none, none] [] (ubf w 2 o) := by
    intro m
    induction m with
    | zero =>
      intro j o hm hj ho o4 hq
      have e2 : (ubf w 2 o) 2 2 = x.L := by rw [ubf_self, ho 2 (by decide), h2]
      have e3 : (ubf w 2 o) 2 3 = rdb x := by rw [ubf_self, ho 3 (by decide), h3]
      have e4 : (ubf w 2 o) 2 4 = j := by rw [ubf_self, o4]
      have qj : qF x p = j := by rw [hq, hm]; rfl
      have mn : min (j : Int) (rdb x : Nat) = (plF x p : Nat) := by
        unfold plF; rw [if_pos (by omega)]; omega
      apply Tokens_advance_2_c0
      rw [e2, e3, e4, mn]
      refine ⟨fun _ => ⟨fun z => by exfalso; omega, fun z => ⟨fun y => ?_, fun y => ?_⟩⟩, fun z => by exfalso; omega⟩
      · have kd : kdF x p = 0 := by unfold kdF; rw [if_pos (by omega), if_neg (by omega)]
        rw [ub_on, ub_on, ub_on]
        exact k _ ⟨by rw [← h2]; exact ho 2 (by decide), by rw [← h3]; exact ho 3 (by decide), rfl, fun _ => rfl, fun z => by omega, fun z => by omega, fun z => by omega, fun z => by omega, fun z => by omega⟩ (ho 8 (by decide)) (fun i hi => by rw [up1_ap, if_neg (by omega), up1_ap, if_neg (by omega), up1_ap, if_neg (by omega)]; exact ho i (by omega))
      · have kd : kdF x p = 1 := by unfold kdF; rw [if_pos (by omega), if_pos (by omega)]
        rw [ub_on, ub_on, ub_on]
        exact k _ ⟨by rw [← h2]; exact ho 2 (by decide), by rw [← h3]; exact ho 3 (by decide), rfl, fun z => by omega, fun _ => rfl, fun z => by omega, fun z => by omega, fun z => by omega, fun z => by omega⟩ (ho 8 (by decide)) (fun i hi => by rw [up1_ap, if_neg (by omega), up1_ap, if_neg (by omega), up1_ap, if_neg (by omega)]; exact ho i (by omega))
    | succ m ih =>
      intro j o hm hj ho o4 hq
      have e2 : (ubf w 2 o) 2 2 = x.L := by rw [ubf_self, ho 2 (by decide), h2]
      have e3 : (ubf w 2 o) 2 3 = rdb x := by rw [ubf_self, ho 3 (by decide), h3]
      have e4 : (ubf w 2 o) 2 4 = j := by rw [ubf_self, o4]
      apply Tokens_advance_2_c0
      rw [e2, e3, e4, Int.toNat_natCast, show (ubf w 2 o) 1 j = x.t j from ht _ (by omega), show min (j : Int) (rdb x : Nat) = (j : Int) by omega]
      by_cases z : isB (x.t j)
      · have G := ih (j + 1) (up1 o 4 ((j : Int) + 1)) (by omega) (by omega) (fun i hi => by rw [up1_ap, if_neg hi]; exact ho i hi) (by rw [up1_ap, if_pos rfl]; omega) (by rw [hq, show rdb x - j = (rdb x - (j + 1)) + 1 by omega, skF_go (by omega) z])
        rw [w32_id (x := (j : Int) + 1) (by unfold in32; omega)]
        rw [← ub_on] at G
        unfold isB at z
        refine ⟨fun y => by exfalso; omega, fun _ => ⟨by omega, fun _ => G, fun y => ⟨by omega, fun y2 => by exfalso; omega, fun _ => G⟩⟩⟩
      · have qj : qF x p = j := by rw [hq, skF_stop (fun y => z y.2)]
        have G := lE (up1 (up1 o 7 (j : Int)) 6 0) (fun i a b c => by rw [up1_ap, if_neg b, up1_ap, if_neg c]; exact ho i a) (by omega) (by rw [qj]; exact o4) rfl (by rw [qj]; rfl)
        rw [qj] at G
        rw [ub_on (c := 2) (i := 7), ub_on]
        unfold isB at z
        refine ⟨fun y => by exfalso; omega, fun _ => ⟨by omega, fun y => by exfalso; omega, fun y => ⟨by omega, fun _ => ⟨fun _ => G, fun y2 => by exfalso; omega⟩, fun y2 => by exfalso; omega⟩⟩⟩
  have := l0 (rdb x - p) p (w 2) rfl hp (fun i _ => rfl) h4 rfl
  rw [ubf_sf0] at this
  exact this

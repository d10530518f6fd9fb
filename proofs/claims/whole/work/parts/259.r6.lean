theorem wayO_same {T : Tm} {s : Nat → Int} {u u' : Nat} (e1 : s (30 + 5 * u) = s (30 + 5 * u')) (e2 : s (31 + 5 * u) = s (31 + 5 * u')) (e3 : s (32 + 5 * u) = s (32 + 5 * u')) (e4 : s (33 + 5 * u) = s (33 + 5 * u')) (v : Nat) : wayO T s u v = wayO T s u' v := by
  have a : allF T s u = allF T s u' := by unfold allF; rw [e2, e3]
  have b : fiR s u = fiR s u' := by funext q; unfold fiR; rw [e2, e3]
  have c : hitS T s u v = hitS T s u' v := by funext r; unfold hitS lastH; rw [e1, e4]
  unfold wayO
  rw [a, b, c]
theorem S_areFirsts {d : Nat} {Q : MV → Wd → Prop} {w : Wd} {T : Tm} (g : RfT (w 144) (w 146) (w 151) (w 152) (w 153) (w 154) T) (hs : WS (w 146)) (u : Nat) (hu : (u : Int) < w 146 2) (k : Q (mI (if allF T (w 146) u then 1 else 0)) w) : Cw (d + 2) 210 [mR 144, mI u] w Q := by
  have un := hs.un
  have mk := hs.mak u hu
  have pr := hs.par u hu
  have pe := hs.pe
  obtain ⟨m, hm⟩ := Int.eq_ofNat_of_zero_le mk.1
  have h1 := g.hands m (by omega)
  unfold allF at k
  rw [hm, Int.toNat_natCast] at k
  apply M_areFirsts_144_en
  rw [ixu_2 (by omega), ixu_3 (by omega), Int.toNat_natCast, Int.toNat_natCast, hm, h1]
  (refine And.intro (by omega) ?_)
  cases z1 : T.ha m
  · rw [z1] at k
    simp only [Bool.false_and, Bool.false_eq_true, if_false] at k ⊢
    (repeat' (apply spl <;> intro))
    all_goals try (exfalso; omega)
    exact k
  · rw [z1] at k
    rw [if_pos (rfl : true = true)]
    simp only [Bool.true_and] at k
    (repeat' (apply spl <;> intro))
    all_goals try (exfalso; omega)
    (refine And.intro (by omega) ?_)
    (repeat' (apply spl <;> intro))
    · rename_i z
      rw [decide_eq_true z] at k
      exact k
    · rename_i z
      obtain ⟨p, hp⟩ := Int.eq_ofNat_of_zero_le (show 0 ≤ w 146 (32 + 5 * u) by omega)
      have h2 := g.hands p (by omega)
      rw [decide_eq_false z, hp, Int.toNat_natCast] at k
      (refine And.intro (by omega) ?_)
      rw [hp, h2]
      cases z2 : T.ha p
      · rw [z2] at k
        simp only [Bool.false_or, Bool.false_eq_true, if_false] at k ⊢
        (repeat' (apply spl <;> intro))
        all_goals try (exfalso; omega)
        exact k
      · rw [z2] at k
        rw [if_pos (rfl : true = true)]
        (repeat' (apply spl <;> intro))
        all_goals try (exfalso; omega)
        exact k
def WkW (w w' : Wd) : Prop := Fr [144, 155, 156, 157, 158, 159, 160, 161, 162, 163, 164] w w' ∧ (∀ i, i ≠ 34 → i ≠ 35 → i ≠ 36 → w' 144 i = w 144 i)
theorem WkW.tr {a b c : Wd} (h : WkW a b) (g : WkW b c) : WkW a c := ⟨Fr.tr h.1 g.1 (fun _ q => q), fun i i1 i2 i3 => by rw [g.2 i i1 i2 i3, h.2 i i1 i2 i3]⟩
theorem WkW.rft {w0 w : Wd} (h : WkW w0 w) {T : Tm} (g : RfT (w0 144) (w0 146) (w0 151) (w0 152) (w0 153) (w0 154) T) : RfT (w 144) (w 146) (w 151) (w 152) (w 153) (w 154) T := by
  have e1 := h.1 146 (by decide)
  have e2 := h.1 151 (by decide)
  have e3 := h.1 152 (by decide)
  have e4 := h.1 153 (by decide)
  have e5 := h.1 154 (by decide)
  rw [e1, e2, e3, e4, e5]
  exact (RfT.mk (g.P) (g.P8) (g.n2) (g.n6) (by rw [h.2 26 (by decide) (by decide) (by decide)]; exact g.back) (g.back3) (by rw [h.2 27 (by decide) (by decide) (by decide)]; exact g.hands) (g.gv) (g.pn) (g.hr) (g.ak) (g.tw) (g.pn9) (g.hr9) (g.ak9) (g.tw9))
theorem S_weigh {d : Nat} {Q : MV → Wd → Prop} {w : Wd} {T : Tm} (g : RfT (w 144) (w 146) (w 151) (w 152) (w 153) (w 154) T) (law : w 144 25 = T.n) (hs : WS (w 146)) (U W : Nat) (h2 : w 146 2 = U) (h3 : w 146 3 = W)
    (k : ∀ w', WkW w w' → (∀ u v, u < U → v < W → WayR T (w' 161) (w' 162) (w' 163) (w' 164) (8 * u + v) (wayO T (w 146) u v)) → Q none w') : Cw (d + 5) 209 [mR 144] w Q := by
  have hU : U ≤ 16 := by have := hs.un; omega
  have hW : W ≤ 8 := by have := hs.wa; omega
  apply M_weigh_144_en
  intro n1
  have l2 : ∀ (m u : Nat) (w1 : Wd), u + m = U → WkW w w1 → (∀ x v, x < u → v < W → WayR T (w1 161) (w1 162) (w1 163) (w1 164) (8 * x + v) (wayO T (w 146) x v)) → Wp (Cw (d + 4)) cd_M_weigh (0, 0, n1) Q 2 [mR 144, mI u, none] [] w1 := by
    intro m
    induction m with
    | zero =>
      intro u w1 hu hK hw
      have : u = U := by omega
      subst this
      have e2 : w1 146 2 = u := by rw [hK.1 146 (by decide)]; exact h2
      apply M_weigh_144_c2
      (repeat' (apply spl <;> intro))
      · exact k w1 hK hw
      all_goals (exfalso; omega)
    | succ m ih =>
      intro u w1 hu hK hw
      have e146 : w1 146 = w 146 := hK.1 146 (by decide)
      have e2 : w1 146 2 = U := by rw [e146]; exact h2
      have g1 := hK.rft g
      have law1 : w1 144 25 = T.n := by rw [hK.2 25 (by decide) (by decide) (by decide)]; exact law
      -- weighed, or none
      have own : Cw (d + 4) 210 [mR 144, mI u] w1 (fun r v3 => ∃ r4 : Int, r = mI r4 ∧ ((r4 = 0 → Wp (Cw (d + 4)) cd_M_weigh (0, 0, n1) Q 119 [mR 144, mI u, mI 0] [] v3) ∧ (¬ (r4 = 0) → Cw (d + 4) 212 [mR 144, mI u] v3 (fun _ v7 => Wp (Cw (d + 4)) cd_M_weigh (0, 0, n1) Q 2 [mR 144, mI (w32 ((u : Int) + 1)), none] [] v7)))) := by
        refine S_areFirsts g1 (by rw [e146]; exact hs) u (by omega) ?_
        rw [e146]
        refine ⟨_, rfl, ?_⟩
        cases zf : allF T (w 146) u
        · refine ⟨fun _ => ?_, fun z => absurd (by simp) z⟩
          have l119 : ∀ (r v : Nat) (f : Nat → Int), v + r = 8 → (∀ x, x < v → f (8 * u + x) = 1000000000) → (∀ i, i < 8 * u → f i = w1 161 i) → Wp (Cw (d + 4)) cd_M_weigh (0, 0, n1) Q 119 [mR 144, mI u, mI v] [] (ubf w1 161 f) := by
            intro r
            induction r with
            | zero =>
              intro v f hv hf ho
              have : v = 8 := by omega
              subst this
              apply M_weigh_144_c119
              rw [ixs (k := u) (by omega)]
              (repeat' (apply spl <;> intro))
              · refine ih (u + 1) _ (by omega) (hK.tr ⟨Fr.ubf (Fr.rfl' _ _) (by decide), fun _ _ _ _ => rfl⟩) (fun x v hx hv => ?_)
                by_cases z : x = u
                · have eo : wayO T (w 146) x v = none := by unfold wayO; rw [z, zf]; rfl
                  rw [eo]
                  show f (8 * x + v) = 1000000000
                  rw [z]; exact hf v (by omega)
                · refine WayR_ext ?_ rfl rfl rfl (hw x v (by omega) hv)
                  show f (8 * x + v) = w1 161 (8 * x + v)
                  exact ho _ (by omega)
              · exfalso; omega
            | succ r ih2 =>
              intro v f hv hf ho
              apply M_weigh_144_c119
              rw [ixs (k := v) (by omega), ix8b (by omega) (by omega), Int.toNat_natCast, ub_on]
              (repeat' (apply spl <;> intro))
              · exfalso; omega
              · (refine And.intro (by omega) ?_)
                refine ih2 (v + 1) _ (by omega) (fun x hx => ?_) (fun i hi => ?_)
                · rw [up1_ap]
                  by_cases z : x = v
                  · rw [if_pos (by omega)]
                  · rw [if_neg (by omega)]; exact hf x (by omega)
                · rw [up1_ap, if_neg (by omega)]; exact ho i hi
          have e := l119 8 0 (w1 161) (by omega) (fun x hx => by omega) (fun i _ => rfl)
          rw [ubf_sf0] at e
          exact e
        · refine ⟨fun z => absurd z (by simp), fun _ => ?_⟩
          refine S_weighUnit g1 law1 (by rw [e146]; exact hs) U W e2 (by rw [e146]; exact h3) u (by omega) ?_
          intro w2 hK2 hw2
          rw [ixs (k := u) (by omega)]
          refine ih (u + 1) w2 (by omega) (hK.tr ⟨hK2.1, hK2.2.1⟩) (fun x v hx hv => ?_)
          by_cases z : x = u
          · have eo : wayO T (w 146) u v = bestR T (fiR (w 146) u) (hitS T (w 146) u v) := by unfold wayO; rw [zf]; rfl
            rw [z, eo]
            have := hw2 v hv
            rwa [e146] at this
          · obtain ⟨a1, a2, a3, a4⟩ := hK2.2.2 (8 * x + v) (by omega)
            exact WayR_ext a1 a2 a3 a4 (hw x v (by omega) hv)
      apply M_weigh_144_c2
      (repeat' (apply spl <;> intro))
      · exfalso; omega
      · exact own
      · rename_i zu
        rw [ixu (by omega), w32_id (x := ((29 + 5 * u : Nat) : Int) - 5) (by unfold in32; omega), show ((29 + 5 * u : Nat) : Int) - 5 = ((29 + 5 * (u - 1) : Nat) : Int) by omega, Int.toNat_natCast, Int.toNat_natCast]
        (refine And.intro (by omega) ?_); (refine And.intro (by omega) ?_)
        (repeat' (apply spl <;> intro))
        · exact own
        · rename_i zl
          have zl := Decidable.not_not.mp zl
          rw [e146] at zl
          have sm := hs.same (u - 1) u (by omega) (by omega) zl.symm
          have l31 : ∀ (r v : Nat) (f1 f2 f3 f4 : Nat → Int), v + r = 8 → (∀ i, i < 8 * u → f1 i = w1 161 i ∧ f2 i = w1 162 i ∧ f3 i = w1 163 i ∧ f4 i = w1 164 i) → (∀ x, x < v → f1 (8 * u + x) = w1 161 (8 * (u - 1) + x) ∧ f2 (8 * u + x) = w1 162 (8 * (u - 1) + x) ∧ f3 (8 * u + x) = w1 163 (8 * (u - 1) + x) ∧ f4 (8 * u + x) = w1 164 (8 * (u - 1) + x)) → Wp (Cw (d + 4)) cd_M_weigh (0, 0, n1) Q 31 [mR 144, mI u, mI v] [] (ubf (ubf (ubf (ubf w1 161 f1) 162 f2) 163 f3) 164 f4) := by
            intro r
            induction r with
            | zero =>
              intro v f1 f2 f3 f4 hv ho hf
              have : v = 8 := by omega
              subst this
              apply M_weigh_144_c31
              rw [ixs (k := u) (by omega)]
              (repeat' (apply spl <;> intro))
              · refine ih (u + 1) _ (by omega) (hK.tr ⟨?_, fun _ _ _ _ => rfl⟩) (fun x v hx hv => ?_)
                · refine Fr.ubf (Fr.ubf (Fr.ubf (Fr.ubf (Fr.rfl' _ _) ?_) ?_) ?_) ?_ <;> decide
                · by_cases z : x = u
                  · rw [z, wayO_same (u' := u - 1) sm.1.symm sm.2.1.symm sm.2.2.1.symm sm.2.2.2.symm]
                    have h0 := hw (u - 1) v (by omega) hv
                    obtain ⟨a1, a2, a3, a4⟩ := hf v (by omega)
                    cases o : wayO T (w 146) (u - 1) v with
                    | none => rw [o] at h0; show f1 (8 * u + v) = 1000000000; rw [a1]; exact h0
                    | some b =>
                      rw [o] at h0
                      obtain ⟨b1, b2, b3, b4⟩ := h0
                      exact ⟨by show f1 (8 * u + v) = _; rw [a1]; exact b1, by show f2 (8 * u + v) = _; rw [a2]; exact b2, by show f3 (8 * u + v) = _; rw [a3]; exact b3, by show f4 (8 * u + v) = _; rw [a4]; exact b4⟩
                  · obtain ⟨a1, a2, a3, a4⟩ := ho (8 * x + v) (by omega)
                    exact WayR_ext a1 a2 a3 a4 (hw x v (by omega) hv)
              · exfalso; omega
            | succ r ih2 =>
              intro v f1 f2 f3 f4 hv ho hf
              apply M_weigh_144_c31
              rw [ixs (k := v) (by omega), ix8b (by omega) (by omega), w32_id (x := ((8 * u + v : Nat) : Int) - 8) (by unfold in32; omega), show ((8 * u + v : Nat) : Int) - 8 = ((8 * (u - 1) + v : Nat) : Int) by omega, Int.toNat_natCast, Int.toNat_natCast]
              obtain ⟨o1, o2, o3, o4⟩ := ho (8 * (u - 1) + v) (by omega)
              have ew : ub (ub (ub (ub (ubf (ubf (ubf (ubf w1 161 f1) 162 f2) 163 f3) 164 f4) 161 (8 * u + v) ((ubf (ubf (ubf (ubf w1 161 f1) 162 f2) 163 f3) 164 f4) 161 (8 * (u - 1) + v))) 162 (8 * u + v) ((ubf (ubf (ubf (ubf w1 161 f1) 162 f2) 163 f3) 164 f4) 162 (8 * (u - 1) + v))) 163 (8 * u + v) ((ubf (ubf (ubf (ubf w1 161 f1) 162 f2) 163 f3) 164 f4) 163 (8 * (u - 1) + v))) 164 (8 * u + v) ((ubf (ubf (ubf (ubf w1 161 f1) 162 f2) 163 f3) 164 f4) 164 (8 * (u - 1) + v)) = ubf (ubf (ubf (ubf w1 161 (up1 f1 (8 * u + v) (f1 (8 * (u - 1) + v)))) 162 (up1 f2 (8 * u + v) (f2 (8 * (u - 1) + v)))) 163 (up1 f3 (8 * u + v) (f3 (8 * (u - 1) + v)))) 164 (up1 f4 (8 * u + v) (f4 (8 * (u - 1) + v))) := by
                funext c i
                simp only [ub_ap, ubf_ap, up1_ap]
                by_cases z : c = 164
                · simp [z]
                · by_cases z2 : c = 163
                  · simp [z2]
                  · by_cases z3 : c = 162
                    · simp [z3]
                    · by_cases z4 : c = 161 <;> simp [z, z2, z3, z4]
              (repeat' (apply spl <;> intro))
              · exfalso; omega
              · (refine And.intro (by omega) ?_); (refine And.intro (by omega) ?_); (refine And.intro (by omega) ?_); (refine And.intro (by omega) ?_); (refine And.intro (by omega) ?_); (refine And.intro (by omega) ?_); (refine And.intro (by omega) ?_); (refine And.intro (by omega) ?_)
                refine cw3_ ?_ ew
                refine ih2 (v + 1) _ _ _ _ (by omega) (fun i hi => ?_) (fun x hx => ?_)
                · rw [up1_ap, up1_ap, up1_ap, up1_ap, if_neg (by omega), if_neg (by omega), if_neg (by omega), if_neg (by omega)]; exact ho i hi
                · rw [up1_ap, up1_ap, up1_ap, up1_ap]
                  by_cases z : x = v
                  · rw [if_pos (by omega), if_pos (by omega), if_pos (by omega), if_pos (by omega), z]; exact ⟨o1, o2, o3, o4⟩
                  · rw [if_neg (by omega), if_neg (by omega), if_neg (by omega), if_neg (by omega)]; exact hf x (by omega)
          have e := l31 8 0 (w1 161) (w1 162) (w1 163) (w1 164) (by omega) (fun i _ => ⟨rfl, rfl, rfl, rfl⟩) (fun x hx => by omega)
          have ew : ubf (ubf (ubf (ubf w1 161 (w1 161)) 162 (w1 162)) 163 (w1 163)) 164 (w1 164) = w1 := by
            funext c i
            simp only [ubf_ap]
            by_cases z : c = 164
            · simp [z]
            · by_cases z2 : c = 163
              · simp [z2]
              · by_cases z3 : c = 162
                · simp [z3]
                · by_cases z4 : c = 161 <;> simp [z, z2, z3, z4]
          rw [ew] at e
          exact e
  have WkW_rfl : WkW w w := ⟨Fr.rfl' _ _, fun _ _ _ _ => rfl⟩
  exact l2 U 0 w (by omega) WkW_rfl (fun x v hx => by omega)

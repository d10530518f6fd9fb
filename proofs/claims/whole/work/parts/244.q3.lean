theorem mat_empty (W : Nat) (adj : Nat → Nat → Bool) {X : Nat → Bool} (h : ∀ w, X w = false) : ∀ k : Nat, mat W adj k X
  | 0 => h
  | k + 1 => Or.inl (mat_empty W adj h k)
theorem tbit0 (i : Nat) : (0 : Nat).testBit i = false := by simp
theorem S_meets {d : Nat} {Q : MV → Wd → Prop} {w : Wd} (U W : Nat) (hU : U ≤ 16) (hW : W ≤ 8) (h2 : w 146 2 = U) (h3 : w 146 3 = W) (adj : Nat → Nat → Bool) (ha : ∀ u v, u < U → v < W → (w 161 (8 * u + v) < 1000000000 ↔ adj u v = true))
    (k : ∀ g : Nat → Int, (∀ S, S < 256 → (g S = 0 ∨ g S = 1) ∧ (g S = 1 ↔ mat W adj U S.testBit)) → Q none (ubf w 165 g)) : Cw (d + 2) 224 [mR 144] w Q := by
  apply M_meets_144_en
  intro n1
  have l18 : ∀ (r u : Nat) (g : Nat → Int), u + r = U → (∀ S, S < 256 → (g S = 0 ∨ g S = 1) ∧ (g S = 1 ↔ mat W adj u S.testBit)) → Wp (Cw (d + 1)) cd_M_meets (0, 0, n1) Q 18 [mR 144, mI u, none, none] [] (ubf w 165 g) := by
    intro r
    induction r with
    | zero =>
      intro u g hu hg
      have : u = U := by omega
      subst this
      apply M_meets_144_c18
      (repeat' (apply spl <;> intro))
      · exact k g hg
      · exfalso; rename_i q; apply q; show w 146 2 ≤ (u : Int); omega
    | succ r ih =>
      intro u g hu hg
      apply M_meets_144_c18
      (repeat' (apply spl <;> intro))
      · exfalso; rename_i q; have q : w 146 2 ≤ (u : Int) := q; omega
      · have l26 : ∀ (S : Nat) (g : Nat → Int), S < 256 → (∀ T, T < 256 → (g T = 0 ∨ g T = 1) ∧ (g T = 1 ↔ mat W adj (if T ≤ S then u else u + 1) T.testBit)) → Wp (Cw (d + 1)) cd_M_meets (0, 0, n1) Q 26 [mR 144, mI u, mI S, none] [] (ubf w 165 g) := by
          intro S
          induction S with
          | zero =>
            intro g hS hg
            apply M_meets_144_c26
            rw [w32_id (x := (u : Int) + 1) (by unfold in32; omega)]
            (repeat' (apply spl <;> intro))
            · refine ih (u + 1) g (by omega) ?_
              intro T hT
              refine ⟨(hg T hT).1, ?_⟩
              by_cases z : T = 0
              · subst z
                have h1 := (hg 0 hT).2
                rw [if_pos (Nat.le_refl _)] at h1
                rw [h1]
                exact ⟨fun _ => mat_empty W adj tbit0 _, fun _ => mat_empty W adj tbit0 _⟩
              · have h1 := (hg T hT).2
                rw [if_neg (by omega)] at h1
                exact h1
            · exfalso; omega
          | succ S ihS =>
            intro g hS hg
            apply M_meets_144_c26
            (repeat' (apply spl <;> intro))
            · exfalso; omega
            · have fin : ∀ (v : Nat) (g' : Nat → Int), v ≤ W → (∀ T, T ≠ S + 1 → g' T = g T) → (g' (S + 1) = 0 ∨ g' (S + 1) = 1) → (g' (S + 1) = 1 ↔ mat W adj (u + 1) (S + 1).testBit) → Wp (Cw (d + 1)) cd_M_meets (0, 0, n1) Q 26 [mR 144, mI u, mI (w32 (((S + 1 : Nat) : Int) + (-1))), none] [] (ubf w 165 g') := by
                intro v g' hv h1 h2 h3
                rw [w32_id (by unfold in32; omega), show ((S + 1 : Nat) : Int) + (-1) = (S : Int) by omega]
                refine ihS g' (by omega) ?_
                intro T hT
                by_cases z : T = S + 1
                · subst z; rw [if_neg (by omega)]; exact ⟨h2, h3⟩
                · have h4 := hg T hT
                  rw [h1 T z]
                  by_cases z2 : T ≤ S
                  · rw [if_pos z2]; rw [if_pos (by omega)] at h4; exact h4
                  · rw [if_neg z2]; rw [if_neg (by omega)] at h4; exact h4
              have h5 := hg (S + 1) (by omega)
              rw [if_pos (Nat.le_refl _)] at h5
              have l30 : ∀ (r v : Nat) (g' : Nat → Int), v + r = W → (∀ T, T ≠ S + 1 → g' T = g T) → (g' (S + 1) = 0 ∨ g' (S + 1) = 1) → (g' (S + 1) = 1 ↔ (mat W adj u (S + 1).testBit ∨ ∃ v', v' < v ∧ (S + 1).testBit v' = true ∧ adj u v' = true ∧ mat W adj u (remB (S + 1).testBit v'))) → Wp (Cw (d + 1)) cd_M_meets (0, 0, n1) Q 30 [mR 144, mI u, mI ((S + 1 : Nat) : Int), mI v] [] (ubf w 165 g') := by
                intro r2
                induction r2 with
                | zero =>
                  intro v g' hv h1 h2 hc
                  have : v = W := by omega
                  subst this
                  apply M_meets_144_c30
                  (repeat' (apply spl <;> intro))
                  · exact fin v g' (Nat.le_refl _) h1 h2 hc
                  · exfalso; rename_i q; apply q; show w 146 3 ≤ (v : Int); omega
                | succ r2 ih2 =>
                  intro v g' hv h1 h2 hc
                  have e3 : (ubf w 165 g') 146 3 = W := h3
                  have e5 : ∀ i, (ubf w 165 g') 165 i = g' i := fun _ => rfl
                  have e6 : ∀ i, (ubf w 165 g') 161 i = w 161 i := fun _ => rfl
                  have ih3 : ∀ x : Int, (x = 0 ∨ x = 1) → (x = 1 ↔ (mat W adj u (S + 1).testBit ∨ ∃ v', v' < v + 1 ∧ (S + 1).testBit v' = true ∧ adj u v' = true ∧ mat W adj u (remB (S + 1).testBit v'))) → Wp (Cw (d + 1)) cd_M_meets (0, 0, n1) Q 30 [mR 144, mI u, mI ((S + 1 : Nat) : Int), mI (w32 ((v : Int) + 1))] [] (ub (ubf w 165 g') 165 (S + 1) x) := by
                    intro x x1 x2
                    rw [w32_id (x := (v : Int) + 1) (by unfold in32; omega), ub_on]
                    refine ih2 (v + 1) _ (by omega) ?_ ?_ ?_
                    · intro T hT; rw [up1_ap, if_neg hT]; exact h1 T hT
                    · rw [up1_ap, if_pos rfl]; exact x1
                    · rw [up1_ap, if_pos rfl]; exact x2
                  apply M_meets_144_c30
                  rw [e3]
                  simp only [e5, e6, Int.toNat_natCast]
                  (repeat' (apply spl <;> intro))
                  · exfalso; omega
                  · (refine And.intro (by omega) ?_)
                    have common : ¬ g' (S + 1) = 1 → (¬ ((S + 1).testBit v = true ∧ adj u v = true ∧ mat W adj u (remB (S + 1).testBit v)) → ((0 : Int) = 1 ↔ (mat W adj u (S + 1).testBit ∨ ∃ v', v' < v + 1 ∧ (S + 1).testBit v' = true ∧ adj u v' = true ∧ mat W adj u (remB (S + 1).testBit v')))) := by
                      intro g0 z
                      have no : ¬ (mat W adj u (S + 1).testBit ∨ ∃ v', v' < v ∧ (S + 1).testBit v' = true ∧ adj u v' = true ∧ mat W adj u (remB (S + 1).testBit v')) := fun z => g0 (hc.mpr z)
                      refine ⟨fun z => by omega, fun z2 => ?_⟩
                      exfalso
                      rcases z2 with m | ⟨v', a, b, c, m⟩
                      · exact no (Or.inl m)
                      · by_cases z3 : v' = v
                        · subst z3; exact z ⟨b, c, m⟩
                        · exact no (Or.inr ⟨v', by omega, b, c, m⟩)
                    have hbit := bit_nat (x := S + 1) (k := v) (by omega) (by omega)
                    (repeat' (apply spl <;> intro))
                    · rename_i q
                      have g1 : g' (S + 1) = 1 := by omega
                      refine fin v g' (by omega) h1 h2 ⟨fun _ => ?_, fun _ => g1⟩
                      rcases hc.mp g1 with m | ⟨v', a, b, c, m⟩
                      · exact Or.inl m
                      · exact Or.inr ⟨v', by omega, b, c, m⟩
                    · rename_i q q2
                      have g0 : ¬ g' (S + 1) = 1 := by omega
                      (refine And.intro (by omega) ?_)
                      refine ih3 0 (Or.inl rfl) (common g0 (fun z => q2 ?_))
                      rw [hbit, if_pos z.1]
                    · rename_i q q2
                      have g0 : ¬ g' (S + 1) = 1 := by omega
                      have nx := common g0
                      have b1 : (S + 1).testBit v = true := by
                        cases z : (S + 1).testBit v
                        · exfalso; apply q2; rw [hbit, z]; intro z2; simp at z2
                        · rfl
                      have x1 := xor_lt b1
                      rw [ishl1 (by omega), ixor_nat (by omega) (by have := pw8 (v := v) (by omega); omega), w32_id (x := 8 * (u : Int)) (by unfold in32; omega), w32_id (x := 8 * (u : Int) + v) (by unfold in32; omega), Int.toNat_natCast, show (8 * (u : Int) + v).toNat = 8 * u + v by omega]
                      (refine And.intro (by omega) ?_)
                      have h6 := hg ((S + 1) ^^^ 2 ^ v) (by omega)
                      rw [if_pos (by omega)] at h6
                      have h7 : g' ((S + 1) ^^^ 2 ^ v) = g ((S + 1) ^^^ 2 ^ v) := h1 _ (by omega)
                      rw [tbit_xor_pow b1, ← h7] at h6
                      (repeat' (apply spl <;> intro))
                      · rename_i q3
                        (refine And.intro (by omega) ?_)
                        exact ih3 0 (Or.inl rfl) (nx (fun z => by have := h6.2.mpr z.2.2; omega))
                      · rename_i q3
                        (refine And.intro (by omega) ?_)
                        have h8 := ha u v (by omega) (by omega)
                        have m1 : mat W adj u (remB (S + 1).testBit v) := h6.2.mp (by have := h6.1; omega)
                        (repeat' (apply spl <;> intro))
                        · rename_i q4
                          (refine And.intro (by omega) ?_)
                          exact ih3 0 (Or.inl rfl) (nx (fun z => by have := h8.mpr z.2.1; omega))
                        · rename_i q4
                          (refine And.intro (by omega) ?_)
                          refine ih3 1 (Or.inr rfl) ⟨fun _ => Or.inr ⟨v, by omega, b1, h8.mp (by omega), m1⟩, fun _ => rfl⟩
              refine l30 W 0 g (by omega) (fun _ _ => rfl) h5.1 ?_
              rw [h5.2]
              exact ⟨fun z => Or.inl z, fun z => by
                rcases z with z | ⟨v', a, _⟩
                · exact z
                · omega⟩
        refine l26 255 g (by omega) ?_
        intro T hT
        rw [if_pos (by omega)]
        exact hg T hT
  have l2 : ∀ (r S : Nat) (g : Nat → Int), S + r = 256 → (∀ T, T < S → g T = if T = 0 then 1 else 0) → Wp (Cw (d + 1)) cd_M_meets (0, 0, n1) Q 2 [mR 144, mI S, none, none] [] (ubf w 165 g) := by
    intro r
    induction r with
    | zero =>
      intro S g hS hg
      apply M_meets_144_c2
      (repeat' (apply spl <;> intro))
      · refine l18 U 0 g (by omega) ?_
        intro T hT
        rw [hg T (by omega)]
        by_cases z : T = 0
        · subst z
          refine ⟨Or.inr rfl, fun _ => tbit0, fun _ => rfl⟩
        · rw [if_neg z]
          refine ⟨Or.inl rfl, fun z2 => by omega, fun z2 => ?_⟩
          exfalso; apply z
          have z2 : ∀ w, T.testBit w = false := z2
          apply Nat.eq_of_testBit_eq
          intro i; rw [z2 i]; simp
      all_goals (exfalso; omega)
    | succ r ih =>
      intro S g hS hg
      apply M_meets_144_c2
      rw [w32_id (x := (S : Int) + 1) (by unfold in32; omega), ub_on, ub_on, Int.toNat_natCast]
      (repeat' (apply spl <;> intro))
      · exfalso; omega
      · (refine And.intro (by omega) ?_)
        refine ih (S + 1) _ (by omega) ?_
        intro T hT
        rw [up1_ap]
        by_cases z : T = S
        · rw [if_pos z, if_neg (by omega)]
        · rw [if_neg z]; exact hg T (by omega)
      · (refine And.intro (by omega) ?_)
        refine ih (S + 1) _ (by omega) ?_
        intro T hT
        rw [up1_ap]
        by_cases z : T = S
        · rw [if_pos z, if_pos (by omega)]
        · rw [if_neg z]; exact hg T (by omega)
  have e : w = ubf w 165 (w 165) := (ubf_sf0 w 165).symm
  rw [e]
  exact l2 256 0 (w 165) (by omega) (fun T hT => by omega)
theorem mat_pop {W U : Nat} (hW : W ≤ 8) {adj : Nat → Nat → Bool} {S : Nat} (hS : S < 256) (h : mat W adj U S.testBit) : pop S = cntB W S.testBit := by
  rw [pop_cnt (k := 8) (by omega) (by omega)]
  have := cntB_trim (p := S.testBit) (k := W) (fun i hi => by
    cases q : S.testBit i
    · rfl
    · have := mat_sub h i q; omega) (8 - W)
  rw [show W + (8 - W) = 8 by omega] at this
  exact this
theorem S_mostMet {d : Nat} {Q : MV → Wd → Prop} {w : Wd} (U W : Nat) (hU : U ≤ 16) (hW : W ≤ 8) (h2 : w 146 2 = U) (h3 : w 146 3 = W) (adj : Nat → Nat → Bool) (ha : ∀ u v, u < U → v < W → (w 161 (8 * u + v) < 1000000000 ↔ adj u v = true))
    (k : ∀ (v : Nat) (g : Nat → Int), IsMost W adj U v → Q (mI v) (ubf w 165 g)) : Cw (d + 3) 223 [mR 144] w Q := by
  apply M_mostMet_144_en
  intro n1
  refine S_meets U W hU hW h2 h3 adj ha ?_
  intro g hg
  have lp : ∀ (r S b : Nat), S + r = 256 → b ≤ 8 → (∀ T, T < S → mat W adj U T.testBit → pop T ≤ b) → (∃ T, T < 256 ∧ mat W adj U T.testBit ∧ pop T = b) → Wp (Cw (d + 2)) cd_M_mostMet (1, 0, n1) Q 6 [mR 144, mI b, mI S] [] (ubf w 165 g) := by
    intro r
    induction r with
    | zero =>
      intro S b hS hb h1 h2
      apply M_mostMet_144_c6
      (repeat' (apply spl <;> intro))
      · refine k b g ⟨fun X hX => ?_, ?_⟩
        · have hs := fun w hw => mat_sub hX w hw
          have hp := pw8 hW
          have hl := toN_lt X W
          have := h1 (toN W X) (by omega) (by rw [toN_fun hs]; exact hX)
          rw [pop_cnt (k := W) (by omega) hl, toN_fun hs] at this
          exact this
        · obtain ⟨T, a, b', c⟩ := h2
          exact ⟨T.testBit, b', by rw [← mat_pop hW a b']; exact c⟩
      · exfalso; omega
    | succ r ih =>
      intro S b hS hb h1 h2
      have e5 : (ubf w 165 g) 165 S = g S := rfl
      have hgS := hg S (by omega)
      have pS : pop S ≤ 8 := by
        rw [pop_cnt (k := 8) (by omega) (by omega)]; exact cntB_le _ _
      apply M_mostMet_144_c6
      rw [w32_id (x := (S : Int) + 1) (by unfold in32; omega), Int.toNat_natCast, e5]
      (repeat' (apply spl <;> intro))
      · exfalso; omega
      · (refine And.intro (by omega) ?_)
        (repeat' (apply spl <;> intro))
        · rename_i q
          refine ih (S + 1) b (by omega) hb (fun T hT hm => ?_) h2
          by_cases z : T = S
          · exfalso; rw [z] at hm; have := hgS.2.mpr hm; omega
          · exact h1 T (by omega) hm
        · rename_i q
          have hm := hgS.2.mp (by have := hgS.1; omega)
          refine S_count1 S rfl (by omega) ?_
          refine ⟨_, rfl, ?_⟩
          (repeat' (apply spl <;> intro))
          · refine ih (S + 1) b (by omega) hb (fun T hT hm => ?_) h2
            by_cases z : T = S
            · rw [z]; omega
            · exact h1 T (by omega) hm
          · refine S_count1 S rfl (by omega) ?_
            refine ⟨_, rfl, ?_⟩
            refine ih (S + 1) (pop S) (by omega) pS (fun T hT hm => ?_) ⟨S, by omega, hm, rfl⟩
            by_cases z : T = S
            · rw [z]; omega
            · have := h1 T (by omega) hm; omega
  exact lp 256 0 0 (by omega) (by omega) (fun T hT => by omega) ⟨0, by omega, mat_empty W adj tbit0 _, rfl⟩

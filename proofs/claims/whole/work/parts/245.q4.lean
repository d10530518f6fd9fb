/-- BARS, set by set -/
def barF (c : Nat → Nat) : Nat → Nat
  | 0 => 0
  | S + 1 => if c S < pop S ∧ (barF c S = 0 ∨ pop S < pop (barF c S)) then S else barF c S
theorem barF_lt (c : Nat → Nat) : ∀ n, barF c n ≤ n - 1
  | 0 => Nat.le_refl _
  | S + 1 => by
    have := barF_lt c S
    unfold barF
    split <;> omega
theorem barF_ext {c c' : Nat → Nat} : ∀ {n : Nat}, (∀ S, S < n → c S = c' S) → barF c n = barF c' n
  | 0, _ => rfl
  | S + 1, h => by
    unfold barF
    rw [barF_ext (fun T hT => h T (by omega)), h S (by omega)]
theorem barF_yes {c : Nat → Nat} {S : Nat} (h1 : c S < pop S) (h2 : barF c S = 0 ∨ pop S < pop (barF c S)) : barF c (S + 1) = S := by
  show (if c S < pop S ∧ (barF c S = 0 ∨ pop S < pop (barF c S)) then S else barF c S) = S
  rw [if_pos ⟨h1, h2⟩]
theorem barF_no {c : Nat → Nat} {S : Nat} (h : ¬ (c S < pop S ∧ (barF c S = 0 ∨ pop S < pop (barF c S)))) : barF c (S + 1) = barF c S := by
  show (if c S < pop S ∧ (barF c S = 0 ∨ pop S < pop (barF c S)) then S else barF c S) = barF c S
  rw [if_neg h]
theorem S_barring_92 {d : Nat} {Q : MV → Wd → Prop} {w : Wd} (W : Nat) (hW : W ≤ 8) (h4 : w 4 11 = W) (D : Nat → Nat) (hD : ∀ v, v < W → w 108 v = D v) (hlt : ∀ v, D v < 65536)
    (k : ∀ g : Nat → Int, Q (mI (barF (fun S => pop (arn D W S)) (2 ^ W))) (ubf w 109 g)) : Cw (d + 2) 90 [mR 92] w Q := by
  have hw := pw8 hW
  have hwp := Nat.two_pow_pos W
  apply Meeting_barring_92_en
  intro n1
  refine S_lookAround_92 W hW h4 D hD hlt ?_
  intro g hg
  have lp : ∀ (r S : Nat), S + r = 2 ^ W → Wp (Cw (d + 1)) cd_Meeting_barring (1, 0, n1) Q 6 [mR 92, mI (barF (fun S => pop (arn D W S)) S), mI S, none] [] (ubf w 109 g) := by
    intro r
    induction r with
    | zero =>
      intro S hS
      have hS : S = 2 ^ W := by omega
      subst hS
      apply Meeting_barring_92_c6
      have e4 : (ubf w 109 g) 4 11 = W := h4
      rw [e4, ishl1 (by omega)]
      (repeat' (apply spl <;> intro))
      · exact k g
      · exfalso; omega
    | succ r ih =>
      intro S hS
      have aS : arn D W S < 65536 := by have := arn_lt (k := 16) hlt S W; omega
      have e4 : (ubf w 109 g) 4 11 = W := h4
      have e5 : (ubf w 109 g) 109 S = arn D W S := hg S (by omega)
      have bl := barF_lt (fun S => pop (arn D W S)) S
      have ih := ih (S + 1) (by omega)
      apply Meeting_barring_92_c6
      rw [e4, ishl1 (by omega), w32_id (x := (S : Int) + 1) (by unfold in32; omega)]
      (repeat' (apply spl <;> intro))
      · exfalso; omega
      · refine S_bitCount S rfl (by omega) ?_
        refine ⟨_, rfl, ?_⟩
        (refine And.intro (by omega) ?_)
        rw [Int.toNat_natCast, e5]
        refine S_bitCount (arn D W S) rfl aS ?_
        refine ⟨_, rfl, ?_⟩
        (repeat' (apply spl <;> intro))
        · rename_i q
          rw [barF_no (fun z => by have := z.1; omega)] at ih
          exact ih
        · rename_i q q2
          rw [barF_yes (by show pop (arn D W S) < pop S; omega) (Or.inl (by omega))] at ih
          exact ih
        · rename_i q q2
          refine S_bitCount S rfl (by omega) ?_
          refine ⟨_, rfl, ?_⟩
          refine S_bitCount _ rfl (by omega) ?_
          refine ⟨_, rfl, ?_⟩
          (repeat' (apply spl <;> intro))
          · rename_i q3
            rw [barF_no (fun z => by rcases z.2 with z | z <;> omega)] at ih
            exact ih
          · rename_i q3
            rw [barF_yes (by show pop (arn D W S) < pop S; omega) (Or.inr (by omega))] at ih
            exact ih
  have h1 := lp (2 ^ W - 1) 1 (by omega)
  have e : barF (fun S => pop (arn D W S)) 1 = 0 := barF_no (S := 0) (fun z => by
    have := z.1
    rw [show pop 0 = 0 from rfl] at this
    omega)
  rw [e] at h1
  exact h1
/-- the loop of the reference: units around a set, counted -/
theorem S_mbarsLoop {d : Nat} {n1 : Int} {Q : MV → Wd → Prop} {w : Wd} (U W : Nat) (hU : U ≤ 16) (hW : W ≤ 8) (h2 : w 146 2 = U) (h3 : w 146 3 = W) (adj : Nat → Nat → Bool) (ha : ∀ u v, u < U → v < W → (w 161 (8 * u + v) < 1000000000 ↔ adj u v = true))
    (k : Q (mI (barF (fun S => cntB U (nbB W adj S.testBit)) (2 ^ W))) w) : Wp (Cw (d + 1)) cd_M_bars (1, 0, n1) Q 11 [mR 144, mI 0, mI 1, none, none, none, none] [] w := by
  have hw := pw8 hW
  have hwp := Nat.two_pow_pos W
  generalize hc : (fun S : Nat => cntB U (nbB W adj S.testBit)) = c at k
  have hcS : ∀ S : Nat, c S = cntB U (nbB W adj S.testBit) := fun S => by rw [← hc]
  have lp : ∀ (r S : Nat), S + r = 2 ^ W → Wp (Cw (d + 1)) cd_M_bars (1, 0, n1) Q 11 [mR 144, mI (barF c S), mI S, none, none, none, none] [] w := by
    intro r
    induction r with
    | zero =>
      intro S hS
      have hS : S = 2 ^ W := by omega
      subst hS
      apply M_bars_144_c11
      rw [h3, ishl1 (by omega)]
      (repeat' (apply spl <;> intro))
      · exact k
      · exfalso; omega
    | succ r ih =>
      intro S hS
      have bl := barF_lt c S
      have ih := ih (S + 1) (by omega)
      apply M_bars_144_c11
      rw [h3, ishl1 (by omega)]
      (repeat' (apply spl <;> intro))
      · exfalso; omega
      · have l23 : ∀ (r u : Nat), u + r = U → Wp (Cw (d + 1)) cd_M_bars (1, 0, n1) Q 23 [mR 144, mI (barF c S), mI S, mI (cntB u (nbB W adj S.testBit)), mI u, none, none] [] w := by
          intro r2
          induction r2 with
          | zero =>
            intro u hu
            have : u = U := by omega
            subst this
            rw [← hcS]
            apply M_bars_144_c23
            rw [h2, w32_id (x := (S : Int) + 1) (by unfold in32; omega)]
            (repeat' (apply spl <;> intro))
            · refine S_count1 S rfl (by omega) ?_
              refine ⟨_, rfl, ?_⟩
              (repeat' (apply spl <;> intro))
              · rename_i q
                rw [barF_no (fun z => by have := z.1; omega)] at ih
                exact ih
              · rename_i q q2
                rw [barF_yes (by omega) (Or.inl (by omega))] at ih
                exact ih
              · rename_i q q2
                refine S_count1 S rfl (by omega) ?_
                refine ⟨_, rfl, ?_⟩
                refine S_count1 _ rfl (by omega) ?_
                refine ⟨_, rfl, ?_⟩
                (repeat' (apply spl <;> intro))
                · rename_i q3
                  rw [barF_no (fun z => by rcases z.2 with z | z <;> omega)] at ih
                  exact ih
                · rename_i q3
                  rw [barF_yes (by omega) (Or.inr (by omega))] at ih
                  exact ih
            · exfalso; omega
          | succ r2 ih2 =>
            intro u hu
            have cl := cntB_le (nbB W adj S.testBit) u
            have l33 : ∀ (r v : Nat), v + r = W → Wp (Cw (d + 1)) cd_M_bars (1, 0, n1) Q 33 [mR 144, mI (barF c S), mI S, mI (cntB u (nbB W adj S.testBit)), mI u, mI (if anyB v (fun v => S.testBit v && adj u v) then 1 else 0), mI v] [] w := by
              intro r3
              induction r3 with
              | zero =>
                intro v hv
                have : v = W := by omega
                subst this
                have es : cntB (u + 1) (nbB v adj S.testBit) = cntB u (nbB v adj S.testBit) + (if nbB v adj S.testBit u then 1 else 0) := rfl
                have ih2 := ih2 (u + 1) (by omega)
                rw [es] at ih2
                apply M_bars_144_c33
                rw [h3, w32_id (x := (u : Int) + 1) (by unfold in32; omega), w32_id (x := (cntB u (nbB v adj S.testBit) : Int) + 1) (by unfold in32; omega), w32_id (x := (cntB u (nbB v adj S.testBit) : Int) + 0) (by unfold in32; omega)]
                have en : nbB v adj S.testBit u = anyB v (fun v => S.testBit v && adj u v) := rfl
                rw [en] at ih2
                cases z : anyB v (fun v => S.testBit v && adj u v)
                · simp only [z, Bool.false_eq_true, if_false] at ih2 ⊢
                  (repeat' (apply spl <;> intro))
                  all_goals first
                    | (exfalso; omega)
                    | (rename_i q; exact absurd trivial q)
                    | (rename_i q _; exact absurd trivial q)
                    | exact ih2
                · simp only [z, if_true] at ih2 ⊢
                  (repeat' (apply spl <;> intro))
                  all_goals first
                    | (exfalso; omega)
                    | (rename_i q; exact absurd trivial q)
                    | (rename_i q _; exact absurd trivial q)
                    | exact ih2
              | succ r3 ih3 =>
                intro v hv
                have ih3 := ih3 (v + 1) (by omega)
                have ea : anyB (v + 1) (fun v => S.testBit v && adj u v) = (anyB v (fun v => S.testBit v && adj u v) || (S.testBit v && adj u v)) := rfl
                rw [ea] at ih3
                have hbit := bit_nat (x := S) (k := v) (by omega) (by omega)
                have h8 := ha u v (by omega) (by omega)
                apply M_bars_144_c33
                rw [h3, w32_id (x := (v : Int) + 1) (by unfold in32; omega), hbit, w32_id (x := 8 * (u : Int)) (by unfold in32; omega), w32_id (x := 8 * (u : Int) + v) (by unfold in32; omega), show (8 * (u : Int) + v).toNat = 8 * u + v by omega]
                cases z : anyB v (fun v => S.testBit v && adj u v)
                · cases z2 : S.testBit v
                  · simp only [z, z2, Bool.false_or, Bool.false_and, Bool.false_eq_true, if_false] at ih3 ⊢
                    (repeat' (apply spl <;> intro))
                    all_goals first
                      | (exfalso; omega)
                      | (rename_i q; exact absurd trivial q)
                      | (rename_i q _; exact absurd trivial q)
                      | exact ih3
                  · simp only [z, z2, Bool.false_or, Bool.true_and, Bool.false_eq_true, if_false, if_true] at ih3 ⊢
                    (repeat' (apply spl <;> intro))
                    all_goals try first
                      | (exfalso; omega)
                      | (rename_i q; exact absurd trivial q)
                      | (rename_i q _; exact absurd trivial q)
                    (refine And.intro (by omega) ?_)
                    (repeat' (apply spl <;> intro))
                    · rename_i q
                      have : adj u v = false := by
                        cases z3 : adj u v
                        · rfl
                        · have := h8.mpr z3; omega
                      simp only [this, Bool.false_eq_true, if_false] at ih3
                      exact ih3
                    · rename_i q
                      simp only [h8.mp (by omega), if_true] at ih3
                      exact ih3
                · simp only [z, Bool.true_or, if_true] at ih3 ⊢
                  (repeat' (apply spl <;> intro))
                  all_goals first
                    | (exfalso; omega)
                    | (rename_i q; exact absurd trivial q)
                    | (rename_i q _; exact absurd trivial q)
                    | exact ih3
            apply M_bars_144_c23
            rw [h2]
            (repeat' (apply spl <;> intro))
            · exfalso; omega
            · exact l33 W 0 (by omega)
        exact l23 U 0 (by omega)
  have h1 := lp (2 ^ W - 1) 1 (by omega)
  have e : barF c 1 = 0 := barF_no (S := 0) (fun z => by
    have := z.1
    rw [show pop 0 = 0 from rfl] at this
    omega)
  rw [e] at h1
  exact h1

def leS (a c : Nat → Int) (S b : Nat) : Prop := a S < a b ∨ (a S = a b ∧ (pop S < pop b ∨ (pop S = pop b ∧ c b ≤ c S)))
def nsum : Nat → Nat
  | 0 => 0
  | n + 1 => nsum n + 16 * 17 ^ (7 - n)
theorem bd166 (w : Wd) (a c : Nat → Int) (i : Nat) (x y : Int) : ub (ub (ubf (ubf w 166 a) 168 c) 166 i x) 168 i y = ubf (ubf w 166 (up1 a i x)) 168 (up1 c i y) := by
  funext c' j
  simp only [ub_ap, ubf_ap, up1_ap]
  by_cases z : c' = 168
  · simp [z]
  · by_cases z2 : c' = 166 <;> simp [z, z2]
/-- one entry, want by want -/
theorem L_bd51 {d : Nat} {n1 : Int} {Q : MV → Wd → Prop} {w : Wd} {U W : Nat} {wo : Nat → Nat} {adj : Nat → Nat → Bool} {co pa : Nat → Nat → Nat} (h : RfD (w 146) (w 161) (w 163) U W wo adj co pa) (u : Nat) (hu : u < U) (S : Nat) (hS : S < 256) (hS0 : 0 < S) (a c : Nat → Int) (hT : TabR W adj (netD wo co) (fun T => if T ≤ S then u else u + 1) a c)
    (fin : ∀ a' c' : Nat → Int, TabR W adj (netD wo co) (fun T => if T ≤ S - 1 then u else u + 1) a' c' → Wp (Cw (d + 1)) cd_M_bestDay (0, 0, n1) Q 47 [mR 144, none, none, mI u, mI (S - 1 : Nat), none, none, none, none, none] [] (ubf (ubf w 166 a') 168 c')) :
    ∀ (r v : Nat) (a' c' : Nat → Int), v + r = W → (∀ T, T ≠ S → a' T = a T ∧ c' T = c T) → 0 ≤ c' S → c' S ≤ 6975757440 → (a' S = -1000000000 ∨ a' S ≥ -50000) →
      (∀ y, encR (a S) (c S) = some y → ∃ y', encR (a' S) (c' S) = some y' ∧ y ≤ y') →
      (∀ x, x < v → S.testBit x = true → adj u x = true → ∀ y, encR (a (S ^^^ 2 ^ x)) (c (S ^^^ 2 ^ x)) = some y → ∃ y', encR (a' S) (c' S) = some y' ∧ y + cR (netD wo co) u x ≤ y') →
      (∀ y', encR (a' S) (c' S) = some y' → encR (a S) (c S) = some y' ∨ ∃ x, x < W ∧ S.testBit x = true ∧ adj u x = true ∧ ∃ y, encR (a (S ^^^ 2 ^ x)) (c (S ^^^ 2 ^ x)) = some y ∧ y' = y + cR (netD wo co) u x) →
      Wp (Cw (d + 1)) cd_M_bestDay (0, 0, n1) Q 51 [mR 144, none, none, mI u, mI S, mI v, none, none, none, none] [] (ubf (ubf w 166 a') 168 c') := by
  have hU := h.hU
  have hW := h.hW
  intro r
  induction r with
  | zero =>
    intro v a' c' hv h1 h2 h3 h4 h5 h6 h7
    have : v = W := by omega
    subst this
    have e3 : (ubf (ubf w 166 a') 168 c') 146 3 = v := h.wa
    apply M_bestDay_144_c51
    (repeat' (apply spl <;> intro))
    · rw [w32_id (x := (S : Int) + (-1)) (by unfold in32; omega), show (S : Int) + (-1) = ((S - 1 : Nat) : Int) by omega]
      refine fin a' c' ?_
      intro T hT'
      have g1 := hT T hT'
      dsimp only at g1
      dsimp only
      by_cases z : T = S
      · subst z
        rw [if_pos (Nat.le_refl _)] at g1
        rw [if_neg (by omega)]
        refine ⟨?_, h2, h3⟩
        refine opt_step hW (by omega) (x := encR (a T) (c T)) (y := fun x => encR (a (T ^^^ 2 ^ x)) (c (T ^^^ 2 ^ x))) g1.1 ?_ h5 ?_ ?_
        · intro x hx hb hA
          have s1 := hT (T ^^^ 2 ^ x) (by have := xor_lt hb; omega)
          dsimp only at s1
          rw [if_pos (by have := xor_lt hb; omega), tbit_xor_pow hb] at s1
          exact s1.1
        · intro x hx hb hA
          exact h6 x hx hb hA
        · exact h7
      · rw [(h1 T z).1, (h1 T z).2]
        by_cases z2 : T < S
        · rw [if_pos (by omega)]
          rw [if_pos (by omega)] at g1
          exact g1
        · rw [if_neg (by omega)]
          rw [if_neg (by omega)] at g1
          exact g1
    all_goals (exfalso; omega)
  | succ r ih =>
    intro v a' c' hv h1 h2 h3 h4 h5 h6 h7
    have e3 : (ubf (ubf w 166 a') 168 c') 146 3 = W := h.wa
    have e161 : ∀ i, (ubf (ubf w 166 a') 168 c') 161 i = w 161 i := fun _ => rfl
    have e166 : ∀ i, (ubf (ubf w 166 a') 168 c') 166 i = a' i := fun _ => rfl
    have e168 : ∀ i, (ubf (ubf w 166 a') 168 c') 168 i = c' i := fun _ => rfl
    have e146 : (ubf (ubf w 166 a') 168 c') 146 (111 + 4 * v) = wo v := (h.wor v (by omega)).1
    have bt := bit_nat (x := S) (k := v) (by omega) (by omega)
    have p := pw8 (v := v) (by omega)
    -- going on without a change
    have skip : (S.testBit v = true → adj u v = true → ∀ y, encR (a (S ^^^ 2 ^ v)) (c (S ^^^ 2 ^ v)) = some y → ∃ y', encR (a' S) (c' S) = some y' ∧ y + cR (netD wo co) u v ≤ y') → Wp (Cw (d + 1)) cd_M_bestDay (0, 0, n1) Q 51 [mR 144, none, none, mI u, mI S, mI (v + 1 : Nat), none, none, none, none] [] (ubf (ubf w 166 a') 168 c') := by
      intro hs
      refine ih (v + 1) a' c' (by omega) h1 h2 h3 h4 h5 (fun x hx b1 b2 y hy => ?_) h7
      by_cases z : x = v
      · subst z; exact hs b1 b2 y hy
      · exact h6 x (by omega) b1 b2 y hy
    apply M_bestDay_144_c51
    rw [e3, bt, ix8b (by omega) (by omega), Int.toNat_natCast, ixs (by omega)]
    simp only [e161]
    cases z1 : S.testBit v
    · simp only [Bool.false_eq_true, if_false]
      (repeat' (apply spl <;> intro))
      · exfalso; omega
      · exact skip (fun q => by rw [z1] at q; cases q)
      · rename_i q; exfalso; omega
    · simp only [if_true]
      cases z2 : adj u v
      · have n0 := h.no u v hu (by omega) z2
        (repeat' (apply spl <;> intro))
        · exfalso; omega
        · rename_i q; exfalso; exact q trivial
        · refine ⟨by omega, ?_⟩
          (repeat' (apply spl <;> intro))
          · exact skip (fun _ q => by rw [z2] at q; cases q)
          all_goals (exfalso; omega)
      · have y0 := h.yes u v hu (by omega) z2
        have w0 := h.wor v (by omega)
        have xl := xor_lt z1
        have hne : S ^^^ 2 ^ v ≠ S := by omega
        have f1 := h1 (S ^^^ 2 ^ v) hne
        have s1 := hT (S ^^^ 2 ^ v) (by omega)
        dsimp only at s1
        rw [if_pos (by omega)] at s1
        rw [ishl1 (by omega), ixor_nat (by omega) (by omega), Int.toNat_natCast, e166, f1.1, y0.1]
        (repeat' (apply spl <;> intro))
        · exfalso; omega
        · rename_i q; exfalso; exact q trivial
        · refine ⟨by omega, ?_⟩
          (repeat' (apply spl <;> intro))
          · exfalso; omega
          · refine ⟨by omega, ?_⟩
            (repeat' (apply spl <;> intro))
            · rename_i q
              obtain ⟨g, g1, g2, g3, g4, g5, g6⟩ := tab_day h s1.1 (by omega) s1.2.1 s1.2.2 q
              have gw : g v = 0 := by
                apply Classical.byContradiction
                intro z
                have := (g2 v).mp z
                rw [tbit_xor_pow z1] at this
                unfold remB at this
                simp at this
              have gd := dig17_put (valid_le g1) (show 16 - u ≤ 16 by omega) (show 16 - u ≠ 0 by omega) (show v < 8 by omega) gw
              have gh := dig17_hi (putF_le (g := g) (w := v) (d := 16 - u) (valid_le g1) (by omega))
              have gl := dig_lo (b := 17) (by omega) g 8
              refine ⟨by omega, ?_⟩
              rw [ixw_2 (by omega), Int.toNat_natCast, e146]
              refine ⟨by omega, by omega, by omega, ?_⟩
              refine S_seventeen v (by omega) ?_
              refine ⟨_, rfl, by omega, ?_⟩
              rw [Int.toNat_natCast, e166, e168, e168, f1.2]
              have P7 : (17 : Nat) ^ (7 - v) ≤ 410338673 := by
                have := Nat.pow_le_pow_right (n := 17) (by omega) (show 7 - v ≤ 7 by omega)
                rw [show (17 : Nat) ^ 7 = 410338673 from rfl] at this
                exact this
              have hcR : cR (netD wo co) u v = ((wo v : Int) - co u v) * 6975757441 + (((16 - u) * 17 ^ (7 - v) : Nat) : Int) := by
                unfold cR netD digc pw
                simp only [Int.natCast_mul, Int.natCast_pow]
                rfl
              have emul : (16 - u) * 17 ^ (7 - v) ≤ 16 * 410338673 := Nat.mul_le_mul (by omega) P7
              have hm : w64 (w32 (16 - (u : Int)) * ((17 ^ (7 - v) : Nat) : Int)) = (((16 - u) * 17 ^ (7 - v) : Nat) : Int) := by
                rw [w32_id (x := 16 - (u : Int)) (by unfold in32; omega), show 16 - (u : Int) = ((16 - u : Nat) : Int) by omega, ← Int.natCast_mul, w64_id (by unfold in64; omega)]
              rw [hm]
              generalize (16 - u) * 17 ^ (7 - v) = P at *
              rw [w64_id (x := c (S ^^^ 2 ^ v) - (P : Int)) (by unfold in64; omega), w32_id (x := a (S ^^^ 2 ^ v) + (wo v : Int)) (by unfold in32; omega), w32_id (x := a (S ^^^ 2 ^ v) + (wo v : Int) - (co u v : Int)) (by unfold in32; omega)]
              have enc0 : encR (a (S ^^^ 2 ^ v)) (c (S ^^^ 2 ^ v)) = some (a (S ^^^ 2 ^ v) * 6975757441 + (6975757440 - c (S ^^^ 2 ^ v))) := encR_some.mpr ⟨q, rfl⟩
              have keep : a' S ≠ -1000000000 → a (S ^^^ 2 ^ v) * 6975757441 + (6975757440 - c (S ^^^ 2 ^ v)) + (((wo v : Int) - co u v) * 6975757441 + (P : Int)) ≤ a' S * 6975757441 + (6975757440 - c' S) → Wp (Cw (d + 1)) cd_M_bestDay (0, 0, n1) Q 51 [mR 144, none, none, mI u, mI S, mI (v + 1 : Nat), none, none, none, none] [] (ubf (ubf w 166 a') 168 c') := by
                intro k1 k2
                refine skip (fun _ _ y hy => ⟨_, encR_some.mpr ⟨k1, rfl⟩, ?_⟩)
                rw [enc0] at hy
                injection hy with hy
                rw [hcR, ← hy]; exact k2
              have take : a' S = -1000000000 ∨ a' S * 6975757441 + (6975757440 - c' S) ≤ a (S ^^^ 2 ^ v) * 6975757441 + (6975757440 - c (S ^^^ 2 ^ v)) + (((wo v : Int) - co u v) * 6975757441 + (P : Int)) → Wp (Cw (d + 1)) cd_M_bestDay (0, 0, n1) Q 51 [mR 144, none, none, mI u, mI S, mI (v + 1 : Nat), none, none, none, none] [] (ub (ub (ubf (ubf w 166 a') 168 c') 166 S (a (S ^^^ 2 ^ v) + (wo v : Int) - (co u v : Int))) 168 S (c (S ^^^ 2 ^ v) - (P : Int))) := by
                intro k1
                rw [bd166]
                have en : encR (up1 a' S (a (S ^^^ 2 ^ v) + (wo v : Int) - (co u v : Int)) S) (up1 c' S (c (S ^^^ 2 ^ v) - (P : Int)) S) = some ((a (S ^^^ 2 ^ v) + (wo v : Int) - (co u v : Int)) * 6975757441 + (6975757440 - (c (S ^^^ 2 ^ v) - (P : Int)))) := by
                  rw [up1_ap, if_pos rfl, up1_ap, if_pos rfl]
                  exact encR_some.mpr ⟨by omega, rfl⟩
                refine ih (v + 1) _ _ (by omega) ?_ ?_ ?_ ?_ ?_ ?_ ?_
                · intro T hT'
                  rw [up1_ap, if_neg hT', up1_ap, if_neg hT']; exact h1 T hT'
                · rw [up1_ap, if_pos rfl]; omega
                · rw [up1_ap, if_pos rfl]; omega
                · rw [up1_ap, if_pos rfl]; right; omega
                · intro y hy
                  obtain ⟨y', b1, b2⟩ := h5 y hy
                  rw [encR_some] at b1
                  refine ⟨_, en, ?_⟩
                  rcases k1 with k1 | k1
                  · exact absurd k1 b1.1
                  · omega
                · intro x hx b1 b2 y hy
                  refine ⟨_, en, ?_⟩
                  by_cases z : x = v
                  · subst z
                    rw [enc0] at hy
                    injection hy with hy
                    rw [hcR, ← hy]; omega
                  · obtain ⟨y', b3, b4⟩ := h6 x (by omega) b1 b2 y hy
                    rw [encR_some] at b3
                    rcases k1 with k1 | k1
                    · exact absurd k1 b3.1
                    · omega
                · intro y' hy'
                  rw [en] at hy'
                  injection hy' with hy'
                  exact Or.inr ⟨v, by omega, z1, z2, _, enc0, by rw [hcR, ← hy']; omega⟩
              (repeat' (apply spl <;> intro))
              · rename_i q2
                exact keep (by omega) (by omega)
              · rename_i q2
                refine ⟨by omega, ?_⟩
                (repeat' (apply spl <;> intro))
                · rename_i q3
                  (refine And.intro (by omega) ?_); (refine And.intro (by omega) ?_)
                  exact take (by omega)
                · rename_i q3
                  refine ⟨by omega, ?_⟩
                  have cm : cmp3 (c (S ^^^ 2 ^ v) - (P : Int)) (c' S) < 0 ↔ c (S ^^^ 2 ^ v) - (P : Int) < c' S := by
                    unfold cmp3
                    by_cases y1 : c (S ^^^ 2 ^ v) - (P : Int) < c' S
                    · rw [if_pos y1]; omega
                    · rw [if_neg y1]; split <;> omega
                  (repeat' (apply spl <;> intro))
                  · rename_i q4
                    have q4 := cm.mp q4
                    (refine And.intro (by omega) ?_); (refine And.intro (by omega) ?_)
                    exact take (by omega)
                  · rename_i q4
                    have q4 : ¬ c (S ^^^ 2 ^ v) - (P : Int) < c' S := fun y => q4 (cm.mpr y)
                    exact keep (by omega) (by omega)
            · rename_i q
              refine skip (fun _ _ y hy => ?_)
              rw [encR_some] at hy
              exact absurd (by omega) hy.1

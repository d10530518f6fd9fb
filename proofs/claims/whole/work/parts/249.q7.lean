theorem cL_nonneg {wo : Nat → Nat} {co : Nat → Nat → Nat} {u v : Nat} (h : 0 ≤ netD wo co u v) : 0 ≤ cL (netD wo co) u v := by
  obtain ⟨n, hn⟩ := Int.eq_ofNat_of_zero_le h
  rw [cL_form hn]; omega
theorem cL_bd {wo : Nat → Nat} {co : Nat → Nat → Nat} {u v : Nat} (h : 0 ≤ netD wo co u v) (hw : wo v ≤ 999) : cL (netD wo co) u v ≤ 18014398509481984 := by
  obtain ⟨n, hn⟩ := Int.eq_ofNat_of_zero_le h
  have l7 := p32_le (m := 7 - v) (by omega)
  have l8 : (16 - u) * 32 ^ (7 - v) ≤ 16 * 34359738368 := Nat.mul_le_mul (by omega) l7
  unfold netD at hn
  rw [cL_form (n := n) (by unfold netD; exact hn)]
  omega
theorem val_adjP {wo : Nat → Nat} {adj A : Nat → Nat → Bool} {co : Nat → Nat → Nat} {W U : Nat} {f : Nat → Nat} (hA : ∀ u v, A u v = true → adjP wo adj co u v = true) (hw : ∀ v, v < W → wo v ≤ 999) (hf : valid W A U f) : 0 ≤ val (cL (netD wo co)) f ∧ val (cL (netD wo co)) f ≤ 144115188075855872 := by
  have e : ∀ v, v < 8 → 0 ≤ (if f v = 0 then (0 : Int) else cL (netD wo co) (16 - f v) v) ∧ (if f v = 0 then (0 : Int) else cL (netD wo co) (16 - f v) v) ≤ 18014398509481984 := by
    intro v _
    by_cases q : f v = 0
    · rw [if_pos q]; omega
    · rw [if_neg q]
      obtain ⟨a, _, _, b⟩ := hf.1 v q
      have b := hA _ _ b
      unfold adjP at b
      rw [Bool.and_eq_true, decide_eq_true_eq] at b
      exact ⟨cL_nonneg b.2, cL_bd b.2 (hw v a)⟩
  unfold val
  refine ⟨sumZ_nonneg (fun v hv => (e v hv).1), ?_⟩
  have := sumZ_le (g := fun w => if f w = 0 then (0 : Int) else cL (netD wo co) (16 - f w) w) 18014398509481984 (n := 8) (fun v hv => (e v hv).2)
  omega
/-- the table of a sort's sets -/
def TabC (W : Nat) (A : Nat → Nat → Bool) (c : Nat → Nat → Int) (all : Nat) (kk : Nat → Nat) (g : Nat → Int) : Prop := ∀ S, S < 256 → S &&& all = S → Opt W A c (kk S) S.testBit (decZ (g S)) ∧ -1 ≤ g S
theorem opt_skip {W : Nat} (hW : W ≤ 8) {A : Nat → Nat → Bool} {c : Nat → Nat → Int} {k : Nat} (hk : k < 16) {S : Nat → Bool} {x : Option Int} (hn : ∀ w, w < W → S w = true → A k w = false) (h : Opt W A c k S x) : Opt W A c (k + 1) S x := by
  refine opt_step hW hk (y := fun _ => none) h ?_ ?_ ?_ ?_
  · intro w a b c'; rw [hn w a b] at c'; cases c'
  · intro v hv; exact ⟨v, hv, Int.le_refl _⟩
  · intro w a b c'; rw [hn w a b] at c'; cases c'
  · intro v' hv'; exact Or.inl hv'
theorem opt_val {W : Nat} {A : Nat → Nat → Bool} {c : Nat → Nat → Int} {k : Nat} {S : Nat → Bool} {z : Int} (h : Opt W A c k S (decZ z)) (hz : 0 ≤ z) : ∃ f, valid W A k f ∧ (∀ w, f w ≠ 0 ↔ S w = true) ∧ val c f = z := h.2 z (decZ_some.mpr ⟨hz, rfl⟩)
theorem S_meetBy_92 {d : Nat} {Q : MV → Wd → Prop} {w : Wd} {U W J : Nat} {su sw wo : Nat → Nat} {adj : Nat → Nat → Bool} {co : Nat → Nat → Nat} (h : MtD (w 4) (w 11) (w 13) (w 107) U W J su sw wo adj co) (u j : Nat) (hu : u < U) (hj : su u = j)
    (hT : TabC W (fun u v => adjP wo adj co u v && sw v == j) (cL (netD wo co)) (toN W (fun v => sw v == j)) (fun _ => u) (w 110))
    (k : ∀ (a g : Nat → Int), TabC W (fun u v => adjP wo adj co u v && sw v == j) (cL (netD wo co)) (toN W (fun v => sw v == j)) (fun _ => u + 1) g → Q none (ubf (ubf w 111 a) 110 g)) : Cw (d + 3) 75 [mR 92, mI u, mI (toN W (fun v => sw v == j) : Nat)] w Q := by
  have hU := h.hU
  have hW := h.hW
  have hal : toN W (fun v => sw v == j) < 256 := by have := toN_lt (fun v => sw v == j) W; have := pw8 hW; omega
  have hbit := toN_bit (fun v => sw v == j) W
  generalize toN W (fun v => sw v == j) = all at *
  have hAP : ∀ u v, (adjP wo adj co u v && sw v == j) = true → adjP wo adj co u v = true := fun u v z => by rw [Bool.and_eq_true] at z; exact z.1
  have hwo : ∀ v, v < W → wo v ≤ 999 := fun v hv => (h.wor v hv).2
  have hsort : ∀ v, adjP wo adj co u v = true → v < W ∧ sw v = j := fun v z => by
    unfold adjP at z
    rw [Bool.and_eq_true] at z
    have := h.ran u v z.1
    exact ⟨this.2.1, by omega⟩
  have hAu : ∀ v, (adjP wo adj co u v && sw v == j) = adjP wo adj co u v := fun v => by
    cases z : adjP wo adj co u v
    · rfl
    · have := (hsort v z).2
      simp [this]
  apply Meeting_meetBy_92_en
  intro n1
  refine S_appraise_92 h u hu ?_
  intro O a hO hOb ha
  refine ⟨_, rfl, ?_⟩
  have start : ∀ (met : Nat) (g : Nat → Int), met < 256 → met &&& all = met → TabC W (fun u v => adjP wo adj co u v && sw v == j) (cL (netD wo co)) all (fun S => if S ≤ met then u else u + 1) g → Wp (Cw (d + 2)) cd_Meeting_meetBy (0, 0, n1) Q 9 [mR 92, none, mI all, mI O, mI met, none, none, none] [] (ubf (ubf w 111 a) 110 g) := by
    intro met
    induction met using Nat.strongRecOn with
    | ind met ih =>
      intro g hm hsub hg
      apply Meeting_meetBy_92_c9
      (repeat' (apply spl <;> intro))
      · refine k a g ?_
        intro S hS hSs
        dsimp only
        have g1 := hg S hS hSs
        dsimp only at g1
        by_cases z : S ≤ met
        · rw [if_pos z] at g1
          have z0 : S = 0 := by omega
          subst z0
          exact ⟨opt_skip hW (by omega) (fun w _ q => by rw [tbit0] at q; cases q) g1.1, g1.2⟩
        · rw [if_neg z] at g1
          exact g1
      · rename_i qm
        have inner : ∀ (r v : Nat) (g' : Nat → Int), v + r = W → (∀ S, S ≠ met → g' S = g S) → -1 ≤ g' met → (0 ≤ g met → g met ≤ g' met) → (∀ x, x < v → met.testBit x = true → adjP wo adj co u x = true → 0 ≤ g (met ^^^ 2 ^ x) → g (met ^^^ 2 ^ x) + cL (netD wo co) u x ≤ g' met) → (0 ≤ g' met → g' met = g met ∨ ∃ x, x < W ∧ met.testBit x = true ∧ adjP wo adj co u x = true ∧ 0 ≤ g (met ^^^ 2 ^ x) ∧ g' met = g (met ^^^ 2 ^ x) + cL (netD wo co) u x) → Wp (Cw (d + 2)) cd_Meeting_meetBy (0, 0, n1) Q 13 [mR 92, none, mI all, mI O, mI met, mI v, none, none] [] (ubf (ubf w 111 a) 110 g') := by
          intro r
          induction r with
          | zero =>
            intro v g' hv h1 h2 h3 h4 h5
            have : v = W := by omega
            subst this
            have nx := sub_dec (all := all) (met := met) (by omega)
            have e4 : (ubf (ubf w 111 a) 110 g') 4 11 = v := h.wa
            apply Meeting_meetBy_92_c13
            (repeat' (apply spl <;> intro))
            · rw [w32_id (x := (met : Int) - 1) (by unfold in32; omega), show (met : Int) - 1 = ((met - 1 : Nat) : Int) by omega, iand_nat (by omega) (by omega)]
              refine ih ((met - 1) &&& all) nx g' (by omega) (sub_is _ _) ?_
              intro S hS hSs
              dsimp only
              have g1 := hg S hS hSs
              dsimp only at g1
              by_cases z : S = met
              · subst z
                rw [if_pos (Nat.le_refl _)] at g1
                rw [if_neg (by omega)]
                refine ⟨?_, h2⟩
                refine opt_stepZ hW (by omega) (x := g S) (y := fun x => g (S ^^^ 2 ^ x)) g1.1 ?_ ?_ h3 ?_ ?_
                · intro x hx hb hA
                  have s1 := hg (S ^^^ 2 ^ x) (by have := xor_lt hb; omega) (sub_xor hSs hb)
                  dsimp only at s1
                  rw [if_pos (by have := xor_lt hb; omega), tbit_xor_pow hb] at s1
                  exact s1.1
                · intro x hx hA
                  rw [hAu] at hA
                  unfold adjP at hA
                  rw [Bool.and_eq_true, decide_eq_true_eq] at hA
                  exact cL_nonneg hA.2
                · intro x hx hb hA
                  rw [hAu] at hA
                  exact h4 x hx hb hA
                · intro q
                  rcases h5 q with z | ⟨x, x1, x2, x3, x4, x5⟩
                  · exact Or.inl z
                  · exact Or.inr ⟨x, x1, x2, by rw [hAu]; exact x3, x4, x5⟩
              · rw [h1 S z]
                by_cases z2 : S < met
                · rw [if_pos (sub_next 8 hm hsub hSs z2)]
                  rw [if_pos (by omega)] at g1
                  exact g1
                · rw [if_neg (by omega)]
                  rw [if_neg (by omega)] at g1
                  exact g1
            all_goals (exfalso; omega)
          | succ r ih2 =>
            intro v g' hv h1 h2 h3 h4 h5
            have e4 : (ubf (ubf w 111 a) 110 g') 4 11 = W := h.wa
            have e110 : ∀ i, (ubf (ubf w 111 a) 110 g') 110 i = g' i := fun _ => rfl
            have e111 : ∀ i, (ubf (ubf w 111 a) 110 g') 111 i = a i := fun _ => rfl
            have al := Nat.and_le_left (n := met) (m := O)
            have bt := bit_nat (x := met &&& O) (k := v) (by omega) (by omega)
            have tba : (met &&& O).testBit v = (met.testBit v && O.testBit v) := Nat.testBit_and ..
            have next : ∀ g2 : Nat → Int, (∀ S, S ≠ met → g2 S = g' S) → g' met ≤ g2 met → (met.testBit v = true → adjP wo adj co u v = true → 0 ≤ g (met ^^^ 2 ^ v) → g (met ^^^ 2 ^ v) + cL (netD wo co) u v ≤ g2 met) → (g2 met = g' met ∨ (met.testBit v = true ∧ adjP wo adj co u v = true ∧ 0 ≤ g (met ^^^ 2 ^ v) ∧ g2 met = g (met ^^^ 2 ^ v) + cL (netD wo co) u v)) → Wp (Cw (d + 2)) cd_Meeting_meetBy (0, 0, n1) Q 13 [mR 92, none, mI all, mI O, mI met, mI (w32 ((v : Int) + 1)), none, none] [] (ubf (ubf w 111 a) 110 g2) := by
              intro g2 n1 n2 n3 n4
              rw [ixs (by omega)]
              refine ih2 (v + 1) g2 (by omega) (fun S hS => by rw [n1 S hS, h1 S hS]) (by omega) (fun q => by have := h3 q; omega) (fun x hx a1 a2 a3 => ?_) (fun q => ?_)
              · by_cases z : x = v
                · subst z; exact n3 a1 a2 a3
                · have := h4 x (by omega) a1 a2 a3; omega
              · rcases n4 with n4 | ⟨n4, n5, n6, n7⟩
                · rw [n4] at q ⊢; exact h5 q
                · exact Or.inr ⟨v, by omega, n4, n5, n6, n7⟩
            apply Meeting_meetBy_92_c13
            rw [e4, iand_nat (by omega) (by omega), bt, tba]
            cases z1 : met.testBit v
            · simp only [Bool.false_and, Bool.false_eq_true, if_false]
              (repeat' (apply spl <;> intro))
              · exfalso; omega
              · exact next g' (fun _ _ => rfl) (Int.le_refl _) (fun q => by rw [z1] at q; cases q) (Or.inl rfl)
              · rename_i q; exact absurd trivial q
            · cases z2 : O.testBit v
              · have z3 : ¬ adjP wo adj co u v = true := fun q => by rw [(hOb v).mpr q] at z2; cases z2
                simp only [Bool.and_false, Bool.false_eq_true, if_false]
                (repeat' (apply spl <;> intro))
                · exfalso; omega
                · exact next g' (fun _ _ => rfl) (Int.le_refl _) (fun _ q => absurd q z3) (Or.inl rfl)
                · rename_i q; exact absurd trivial q
              · have z3 := (hOb v).mp z2
                have z4 := z3
                unfold adjP at z4
                rw [Bool.and_eq_true, decide_eq_true_eq] at z4
                have xl := xor_lt z1
                have p := pw8 (v := v) (by omega)
                have ex : g' (met ^^^ 2 ^ v) = g (met ^^^ 2 ^ v) := h1 _ (by omega)
                have s1 := hg (met ^^^ 2 ^ v) (by omega) (sub_xor hsub z1)
                dsimp only at s1
                simp only [Bool.true_and, if_true]
                rw [ishl1 (by omega), ixor_nat (by omega) (by omega), Int.toNat_natCast, e110, ex]
                (repeat' (apply spl <;> intro))
                · exfalso; omega
                · exfalso; omega
                · (refine And.intro (by omega) ?_)
                  (repeat' (apply spl <;> intro))
                  · rename_i q
                    have q := cmp3_zero.mp q
                    exact next g' (fun _ _ => rfl) (Int.le_refl _) (fun _ _ q2 => by omega) (Or.inl rfl)
                  · rename_i q
                    have q : ¬ g (met ^^^ 2 ^ v) = -1 := fun y => q (cmp3_zero.mpr y)
                    have q0 : 0 ≤ g (met ^^^ 2 ^ v) := by have := s1.2; omega
                    obtain ⟨f, f1, _, f3⟩ := opt_val s1.1 q0
                    have fb := val_adjP hAP hwo f1
                    have cb := cL_bd z4.2 (hwo v (by omega))
                    have cn := cL_nonneg z4.2
                    have ea := ha v z3
                    (refine And.intro (by omega) ?_); (refine And.intro (by omega) ?_); (refine And.intro (by omega) ?_)
                    rw [Int.toNat_natCast, Int.toNat_natCast, e111, e110, ea, w64_id (by unfold in64; omega), ub_on]
                    refine next _ (fun S hS => by rw [up1_ap, if_neg hS]) ?_ ?_ ?_
                    · rw [up1_ap, if_pos rfl]; omega
                    · intro _ _ _; rw [up1_ap, if_pos rfl]; omega
                    · rw [up1_ap, if_pos rfl]
                      by_cases y : g (met ^^^ 2 ^ v) + cL (netD wo co) u v ≤ g' met
                      · left; omega
                      · right; exact ⟨z1, z3, q0, by omega⟩
        have g1 := hg met hm hsub
        dsimp only at g1
        rw [if_pos (Nat.le_refl _)] at g1
        exact inner W 0 g (by omega) (fun _ _ => rfl) g1.2 (fun _ => Int.le_refl _) (fun x hx => by omega) (fun _ => Or.inl rfl)
  (repeat' (apply spl <;> intro))
  · refine Eq.mp ?_ (start all (w 110) hal (Nat.and_self all) (fun S hS hSs => ?_))
    · rw [show ubf (ubf w 111 a) 110 (w 110) = ubf w 111 a from ubf_sf0 (ubf w 111 a) 110]
    · have g1 := hT S hS hSs
      have := Nat.and_le_right (n := S) (m := all)
      dsimp only
      rw [if_pos (by omega)]
      exact g1
  · rename_i q
    have hO0 : O = 0 := by omega
    have g2 := k a (w 110) (fun S hS hSs => by
      have g1 := hT S hS hSs
      dsimp only at g1
      refine ⟨opt_skip hW (by omega) (fun v _ _ => ?_) g1.1, g1.2⟩
      rw [hAu]
      cases z : adjP wo adj co u v
      · rfl
      · have := (hOb v).mpr z
        rw [hO0, tbit0] at this; cases this)
    rw [show ubf (ubf w 111 a) 110 (w 110) = ubf w 111 a from ubf_sf0 (ubf w 111 a) 110] at g2
    exact g2

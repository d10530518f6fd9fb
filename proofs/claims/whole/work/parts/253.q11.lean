def painS (pa : Nat → Nat → Nat) (f : Nat → Nat) : Nat → Int := fun w => if f w = 0 then 0 else (pa (16 - f w) w : Int)
def unitI (f : Nat → Nat) (w : Nat) : Int := if f w = 0 then -1 else ((16 - f w : Nat) : Int)
theorem bd4 (w : Wd) (a c b : Nat → Int) : ubf (ubf (ubf (ubf w 166 a) 168 c) 144 b) 166 a = ubf (ubf (ubf w 166 a) 168 c) 144 b := by
  funext c' j
  simp only [ubf_ap]
  by_cases z : c' = 166
  · simp [z]
  · simp [z]
theorem S_bestDay {d : Nat} {Q : MV → Wd → Prop} {w : Wd} {U W : Nat} {wo : Nat → Nat} {adj : Nat → Nat → Bool} {co pa : Nat → Nat → Nat} (h : RfD (w 146) (w 161) (w 163) U W wo adj co pa)
    (k : ∀ (f : Nat → Nat) (a c b o : Nat → Int), valid W adj U f → (∀ f', valid W adj U f' → lexR (netD wo co) f' f) → (∀ i, i ≠ 47 → i ≠ 48 → i ≠ 49 → o i = w 144 i) → o 47 = netS (netD wo co) f → o 48 = cntS f → o 49 = sumZ 8 (painS pa f) → (∀ v, v < 8 → b v = unitI f v) → Q none (ubf (ubf (ubf (ubf w 166 a) 168 c) 144 o) 167 b)) : Cw (d + 2) 228 [mR 144] w Q := by
  have hU := h.hU
  have hW := h.hW
  apply M_bestDay_144_en
  intro n1
  -- the last loop: digits
  have l229 : ∀ (f : Nat → Nat) (a c : Nat → Int), valid W adj U f → (∀ f', valid W adj U f' → lexR (netD wo co) f' f) → ∀ (j : Nat) (o b : Nat → Int), j ≤ 8 → (∀ i, i ≠ 47 → i ≠ 48 → i ≠ 49 → o i = w 144 i) → o 47 = netS (netD wo co) f → o 48 = cntS f → o 49 + sumZ j (painS pa f) = sumZ 8 (painS pa f) → 0 ≤ o 49 → (∀ v, j ≤ v → v < 8 → b v = unitI f v) → Wp (Cw (d + 1)) cd_M_bestDay (0, 0, n1) Q 229 [mR 144, none, none, none, mL (dig 17 (fun w => 16 - f w) j), none, mI ((j : Int) - 1), none, none, none] [] (ubf (ubf (ubf (ubf w 166 a) 168 c) 144 o) 167 b) := by
    intro f a c hf hbest j
    induction j with
    | zero =>
      intro o b _ h1 h2 h3 h4 _ h5
      apply M_bestDay_144_c229
      (repeat' (apply spl <;> intro))
      · exact k f a c b o hf hbest h1 h2 h3 (by have : sumZ 0 (painS pa f) = 0 := rfl; omega) (fun v hv => h5 v (Nat.zero_le _) hv)
      all_goals (exfalso; omega)
    | succ j ih =>
      intro o b hj h1 h2 h3 h4 h49 h5
      have fl := valid_le hf
      have dl := dig_lo (b := 17) (by omega) (fun w => 16 - f w) (j + 1)
      have dr := dig17_read (f := fun w => 16 - f w) (fun w => by omega) j
      have em : Int.tmod (dig 17 (fun w => 16 - f w) (j + 1)) 17 = ((16 - f j : Nat) : Int) := by rw [Int.tmod_eq_emod_of_nonneg dl]; exact dr.1
      have ed : Int.tdiv (dig 17 (fun w => 16 - f w) (j + 1)) 17 = dig 17 (fun w => 16 - f w) j := by rw [Int.tdiv_eq_ediv_of_nonneg dl]; exact dr.2
      have dh := dig17_hi (f := fun w => 16 - f w) (fun w => by omega)
      have dj : dig 17 (fun w => 16 - f w) j < 9223372036854775808 := by
        have mono : ∀ m n : Nat, m ≤ n → dig 17 (fun w => 16 - f w) m ≤ dig 17 (fun w => 16 - f w) n := by
          intro m n hmn
          induction hmn with
          | refl => exact Int.le_refl _
          | step _ ih =>
            rename_i n _
            have := dig_lo (b := 17) (by omega) (fun w => 16 - f w) n
            show _ ≤ dig 17 (fun w => 16 - f w) n * 17 + ((16 - f n : Nat) : Int)
            omega
        have := mono j 8 (by omega)
        omega
      have dj0 := dig_lo (b := 17) (by omega) (fun w => 16 - f w) j
      have es : sumZ (j + 1) (painS pa f) = sumZ j (painS pa f) + painS pa f j := rfl
      have e163 : ∀ i, (ubf (ubf (ubf (ubf w 166 a) 168 c) 144 o) 167 b) 163 i = w 163 i := fun _ => rfl
      have e144 : ∀ i, (ubf (ubf (ubf (ubf w 166 a) 168 c) 144 o) 167 b) 144 i = o i := fun _ => rfl
      have pnn : ∀ n, 0 ≤ sumZ n (painS pa f) := fun n => sumZ_nonneg (fun i _ => by unfold painS; split <;> omega)
      have ptop : sumZ 8 (painS pa f) ≤ 40000 := by
        have := sumZ_le (g := painS pa f) 5000 (n := 8) (fun v _ => by
          unfold painS
          by_cases q : f v = 0
          · rw [if_pos q]; omega
          · rw [if_neg q]
            obtain ⟨x1, x2, x3, x4⟩ := hf.1 v q
            have := (h.yes _ v x3 x1 x4).2.2.2
            omega)
        omega
      have g0 := pnn j
      have go : ∀ x y : Int, x = unitI f j → y = o 49 + painS pa f j → Wp (Cw (d + 1)) cd_M_bestDay (0, 0, n1) Q 229 [mR 144, none, none, none, mL (dig 17 (fun w => 16 - f w) j), none, mI ((j : Int) - 1), none, none, none] [] (ub (ub (ubf (ubf (ubf (ubf w 166 a) 168 c) 144 o) 167 b) 167 j x) 144 49 y) := by
        intro x y hx hy
        have ew : ub (ub (ubf (ubf (ubf (ubf w 166 a) 168 c) 144 o) 167 b) 167 j x) 144 49 y = ubf (ubf (ubf (ubf w 166 a) 168 c) 144 (up1 o 49 y)) 167 (up1 b j x) := by
          funext c' i
          simp only [ub_ap, ubf_ap, up1_ap]
          by_cases z : c' = 167
          · simp [z]
          · by_cases z2 : c' = 144 <;> simp [z, z2]
        rw [ew]
        have pj : 0 ≤ painS pa f j := by unfold painS; split <;> omega
        refine ih _ _ (by omega) ?_ ?_ ?_ ?_ ?_ ?_
        · intro i i1 i2 i3; rw [up1_ap, if_neg i3]; exact h1 i i1 i2 i3
        · rw [up1_ap, if_neg (by decide)]; exact h2
        · rw [up1_ap, if_neg (by decide)]; exact h3
        · rw [up1_ap, if_pos rfl]; omega
        · rw [up1_ap, if_pos rfl]; omega
        · intro v v1 v2
          rw [up1_ap]
          by_cases z : v = j
          · rw [if_pos z, z]; exact hx
          · rw [if_neg z]; exact h5 v (by omega) v2
      apply M_bestDay_144_c229
      rw [em, ed, w32n (n := 16 - f j) (by omega), w64_id (by unfold in64; omega), show (((j + 1 : Nat) : Int) - 1) = (j : Int) by omega, w32_id (x := (j : Int) + (-1)) (by unfold in32; omega), show (j : Int) + (-1) = (j : Int) - 1 by omega, Int.toNat_natCast]
      simp only [e163, e144]
      by_cases z : f j = 0
      · have p0 : painS pa f j = 0 := by unfold painS; rw [if_pos z]
        have u0 : unitI f j = -1 := by unfold unitI; rw [if_pos z]
        (repeat' (apply spl <;> intro))
        · exfalso; omega
        · exfalso; omega
        · refine ⟨by omega, ?_⟩
          (repeat' (apply spl <;> intro))
          · exfalso; omega
          · rw [w32_id (x := o 49 + 0) (by unfold in32; omega)]
            exact go _ _ u0.symm (by rw [p0])
      · obtain ⟨x1, x2, x3, x4⟩ := hf.1 j z
        have y0 := h.yes _ j x3 x1 x4
        have p0 : painS pa f j = (pa (16 - f j) j : Int) := by unfold painS; rw [if_neg z]
        have u0 : unitI f j = ((16 - f j : Nat) : Int) := by unfold unitI; rw [if_neg z]
        (repeat' (apply spl <;> intro))
        · exfalso; omega
        · refine ⟨by omega, ?_⟩
          (repeat' (apply spl <;> intro))
          · rw [ix8b (by omega) (by omega), Int.toNat_natCast, y0.2.2.1]
            refine ⟨by omega, ?_⟩
            rw [w32_id (x := o 49 + (pa (16 - f j) j : Int)) (by unfold in32; omega)]
            exact go _ _ u0.symm (by rw [p0])
          · exfalso; omega
        · exfalso; omega
  -- the best entry
  have l157 : ∀ (a c : Nat → Int), TabR W adj (netD wo co) (fun _ => U) a c → ∀ (r S b : Nat), S + r = 256 → b < 256 → a b ≠ -1000000000 → (∀ T, T < S → a T ≠ -1000000000 → leS a c T b) → Wp (Cw (d + 1)) cd_M_bestDay (0, 0, n1) Q 157 [mR 144, none, none, mI b, mI S, none, none, none, none, none] [] (ubf (ubf w 166 a) 168 c) := by
    intro a c hT r
    induction r with
    | zero =>
      intro S b hS hb ha hle
      have : S = 256 := by omega
      subst this
      have t0 := hT b hb
      dsimp only at t0
      obtain ⟨f, f1, f2, f3, f4, _, _⟩ := tab_day h t0.1 (Nat.le_refl _) t0.2.1 t0.2.2 ha
      have e166 : (ubf (ubf w 166 a) 168 c) 166 b = a b := rfl
      have pb : pop b ≤ 8 := by
        rw [pop_cnt (k := 8) (by omega) (by omega)]; exact cntB_le _ _
      apply M_bestDay_144_c157
      rw [Int.toNat_natCast, e166]
      (repeat' (apply spl <;> intro))
      · refine ⟨by omega, ?_⟩
        refine S_count1 b rfl (by omega) ?_
        refine ⟨_, rfl, by omega, ?_⟩
        have e168 : (ub (ubf (ubf w 166 a) 168 c) 144 47 (a b)) 168 b = c b := rfl
        rw [e168]
        have hd : c b = dig 17 (fun w => 16 - f w) 8 := by
          rw [dig17_co (valid_le f1)]; omega
        rw [hd]
        have ew : ub (ub (ub (ubf (ubf w 166 a) 168 c) 144 47 (a b)) 144 48 (pop b)) 144 49 0 = ubf (ubf (ubf (ubf w 166 a) 168 c) 144 (up1 (up1 (up1 (w 144) 47 (a b)) 48 (pop b)) 49 0)) 167 (w 167) := by
          funext c' i
          simp only [ub_ap, ubf_ap, up1_ap]
          by_cases z : c' = 167
          · simp [z]
          · by_cases z2 : c' = 144
            · simp [z2]
            · simp [z, z2]
        rw [ew]
        refine l229 f a c f1 ?_ 8 _ _ (Nat.le_refl _) ?_ ?_ ?_ ?_ ?_ ?_
        · intro f' hf'
          have hsl : toN W (fun v => decide (f' v ≠ 0)) < 256 := by have := toN_lt (fun v => decide (f' v ≠ 0)) W; have := pw8 hW; omega
          have hsb : ∀ v, f' v ≠ 0 ↔ (toN W (fun v => decide (f' v ≠ 0))).testBit v = true := (supp_sub (X := fun _ => true) (fun _ _ _ => rfl) hf').1
          generalize toN W (fun v => decide (f' v ≠ 0)) = S at *
          have t1 := hT S hsl
          dsimp only at t1
          obtain ⟨y, y1, y2⟩ := t1.1.1 f' hf' hsb
          rw [encR_some] at y1
          rw [val_cR (netD wo co) hf'] at y2
          have l1 := dig17_hi (valid_le hf')
          have l2 := dig_lo (b := 17) (by omega) f' 8
          have cs := cnt_supp hsl hsb
          have cb := cnt_supp hb f2
          have q := hle S hsl y1.1
          unfold lexR
          unfold leS at q
          rw [f3, f4, cs, cb]
          have y3 := y1.2
          have t12 := t1.2.1
          have t13 := t1.2.2
          have t02 := t0.2.1
          have t03 := t0.2.2
          by_cases p1 : netS (netD wo co) f' < a b
          · exact Or.inl p1
          · right
            rcases q with q | ⟨q1, q | ⟨q2, q3⟩⟩
            · exfalso; omega
            · refine ⟨by omega, Or.inl (by omega)⟩
            · refine ⟨by omega, Or.inr ⟨by omega, by omega⟩⟩
        · intro i i1 i2 i3
          rw [up1_ap, if_neg i3, up1_ap, if_neg i2, up1_ap, if_neg i1]
        · rw [up1_ap, if_neg (by decide), up1_ap, if_neg (by decide), up1_ap, if_pos rfl]; exact f3.symm
        · rw [up1_ap, if_neg (by decide), up1_ap, if_pos rfl]; exact (cnt_supp hb f2).symm
        · rw [up1_ap, if_pos rfl]; omega
        · rw [up1_ap, if_pos rfl]; omega
        · intro v v1 v2; omega
      all_goals (exfalso; omega)
    | succ r ih =>
      intro S b hS hb ha hle
      have e166 : ∀ i, (ubf (ubf w 166 a) 168 c) 166 i = a i := fun _ => rfl
      have e168 : ∀ i, (ubf (ubf w 166 a) 168 c) 168 i = c i := fun _ => rfl
      have pb : pop b ≤ 8 := by
        rw [pop_cnt (k := 8) (by omega) (by omega)]; exact cntB_le _ _
      have pS : pop S ≤ 8 := by
        rw [pop_cnt (k := 8) (by omega) (by omega)]; exact cntB_le _ _
      have stay : (a S = -1000000000 ∨ leS a c S b) → Wp (Cw (d + 1)) cd_M_bestDay (0, 0, n1) Q 157 [mR 144, none, none, mI b, mI (S + 1 : Nat), none, none, none, none, none] [] (ubf (ubf w 166 a) 168 c) := by
        intro q
        refine ih (S + 1) b (by omega) hb ha (fun T hT' hn => ?_)
        by_cases z : T = S
        · rw [z] at hn ⊢
          rcases q with q | q
          · exact absurd q hn
          · exact q
        · exact hle T (by omega) hn
      have move : a S ≠ -1000000000 → leS a c b S → Wp (Cw (d + 1)) cd_M_bestDay (0, 0, n1) Q 157 [mR 144, none, none, mI S, mI (S + 1 : Nat), none, none, none, none, none] [] (ubf (ubf w 166 a) 168 c) := by
        intro hn q
        refine ih (S + 1) S (by omega) (by omega) hn (fun T hT' hn' => ?_)
        by_cases z : T = S
        · rw [z]; exact Or.inr ⟨rfl, Or.inr ⟨rfl, Int.le_refl _⟩⟩
        · have q2 := hle T (by omega) hn'
          unfold leS at q q2 ⊢
          omega
      have cm : 0 ≤ cmp3 (c S) (c b) ↔ c b ≤ c S := by
        unfold cmp3
        by_cases y1 : c S < c b
        · rw [if_pos y1]; omega
        · rw [if_neg y1]; split <;> omega
      apply M_bestDay_144_c157
      rw [ixs (by omega), Int.toNat_natCast, Int.toNat_natCast]
      simp only [e166]
      (repeat' (apply spl <;> intro))
      · exfalso; omega
      · refine ⟨by omega, ?_⟩
        (repeat' (apply spl <;> intro))
        · rename_i q; exact stay (Or.inl q)
        · rename_i q
          (refine And.intro (by omega) ?_); (refine And.intro (by omega) ?_)
          (repeat' (apply spl <;> intro))
          · refine S_count1 S rfl (by omega) ?_
            refine ⟨_, rfl, ?_⟩
            refine S_count1 b rfl (by omega) ?_
            refine ⟨_, rfl, by omega, by omega, ?_⟩
            rw [w32_id (x := (pop S : Int) - (pop b : Int)) (by unfold in32; omega)]
            simp only [e166, e168]
            (repeat' (apply spl <;> intro))
            · exact move q (Or.inl (by omega))
            · exact move q (Or.inr ⟨by omega, Or.inl (by omega)⟩)
            · exact stay (Or.inr (Or.inr ⟨by omega, Or.inl (by omega)⟩))
            · (refine And.intro (by omega) ?_); (refine And.intro (by omega) ?_)
              (repeat' (apply spl <;> intro))
              · rename_i q5
                have q5 := cm.mp q5
                exact stay (Or.inr (Or.inr ⟨by omega, Or.inr ⟨by omega, q5⟩⟩))
              · rename_i q5
                have q5 : ¬ c b ≤ c S := fun y => q5 (cm.mpr y)
                exact move q (Or.inr ⟨by omega, Or.inr ⟨by omega, by omega⟩⟩)
          · exact stay (Or.inr (Or.inl (by omega)))
  -- the units
  have l39 : ∀ (r u : Nat) (a c : Nat → Int), u + r = U → TabR W adj (netD wo co) (fun _ => u) a c → a 0 ≠ -1000000000 → Wp (Cw (d + 1)) cd_M_bestDay (0, 0, n1) Q 39 [mR 144, none, none, mI u, none, none, none, none, none, none] [] (ubf (ubf w 166 a) 168 c) := by
    intro r
    induction r with
    | zero =>
      intro u a c hu hT h0
      have : u = U := by omega
      subst this
      have e2 : (ubf (ubf w 166 a) 168 c) 146 2 = u := h.un
      apply M_bestDay_144_c39
      (repeat' (apply spl <;> intro))
      · exact l157 a c hT 255 1 0 (by omega) (by omega) h0 (fun T hT' hn => by
          have : T = 0 := by omega
          rw [this]
          exact Or.inr ⟨rfl, Or.inr ⟨rfl, Int.le_refl _⟩⟩)
      · exfalso; omega
    | succ r ih =>
      intro u a c hu hT h0
      have e2 : (ubf (ubf w 166 a) 168 c) 146 2 = U := h.un
      have l47 : ∀ (S : Nat) (a c : Nat → Int), S < 256 → TabR W adj (netD wo co) (fun T => if T ≤ S then u else u + 1) a c → Wp (Cw (d + 1)) cd_M_bestDay (0, 0, n1) Q 47 [mR 144, none, none, mI u, mI S, none, none, none, none, none] [] (ubf (ubf w 166 a) 168 c) := by
        intro S
        induction S with
        | zero =>
          intro a c hS hT
          apply M_bestDay_144_c47
          rw [ixs (by omega)]
          (repeat' (apply spl <;> intro))
          · refine ih (u + 1) a c (by omega) ?_ ?_
            · intro T hT'
              have g1 := hT T hT'
              dsimp only at g1
              by_cases z : T = 0
              · subst z
                rw [if_pos (Nat.le_refl _)] at g1
                exact ⟨opt_skip hW (by omega) (fun w _ q => by rw [tbit0] at q; cases q) g1.1, g1.2⟩
              · rw [if_neg (by omega)] at g1
                exact g1
            · have g1 := (hT 0 (by omega)).1
              have g2 := g1.1 (fun _ => 0) (valid_zero _ _ _) (fun w => by rw [tbit0]; simp)
              obtain ⟨y, y1, _⟩ := g2
              exact (encR_some.mp y1).1
          · exfalso; omega
        | succ S ihS =>
          intro a c hS hT
          apply M_bestDay_144_c47
          (repeat' (apply spl <;> intro))
          · exfalso; omega
          · refine L_bd51 h u (by omega) (S + 1) hS (by omega) a c hT ?_ W 0 a c (by omega) (fun _ _ => ⟨rfl, rfl⟩) (hT (S + 1) hS).2.1 (hT (S + 1) hS).2.2 ?_ (fun y hy => ⟨y, hy, Int.le_refl _⟩) (fun x hx => by omega) (fun y hy => Or.inl hy)
            · intro a' c' hT'
              exact ihS a' c' (by omega) hT'
            · by_cases z : a (S + 1) = -1000000000
              · exact Or.inl z
              · right
                have t0 := hT (S + 1) hS
                dsimp only at t0
                rw [if_pos (Nat.le_refl _)] at t0
                obtain ⟨_, _, _, _, _, g5, _⟩ := tab_day h t0.1 (by omega) t0.2.1 t0.2.2 z
                omega
      apply M_bestDay_144_c39
      (repeat' (apply spl <;> intro))
      · exfalso; omega
      · refine l47 255 a c (by omega) (fun T hT' => ?_)
        dsimp only
        rw [if_pos (by omega)]
        exact hT T hT'
  -- the beginning
  have l18 : ∀ (r S : Nat) (a c : Nat → Int), S + r = 256 → (∀ T, T < S → a T = (if T = 0 then 0 else -1000000000) ∧ c T = 6975757440) → Wp (Cw (d + 1)) cd_M_bestDay (0, 0, n1) Q 18 [mR 144, mL 6975757440, none, mI S, none, none, none, none, none, none] [] (ubf (ubf w 166 a) 168 c) := by
    intro r
    induction r with
    | zero =>
      intro S a c hS hac
      apply M_bestDay_144_c18
      (repeat' (apply spl <;> intro))
      · refine l39 U 0 a c (by omega) ?_ ?_
        · intro T hT
          obtain ⟨a1, c1⟩ := hac T (by omega)
          rw [a1, c1]
          refine ⟨?_, by omega, by omega⟩
          by_cases z : T = 0
          · subst z
            rw [if_pos rfl]
            exact opt_zero_yes tbit0
          · rw [if_neg z]
            obtain ⟨i, hi⟩ := Nat.exists_testBit_of_ne_zero z
            exact opt_zero_no i hi
        · rw [(hac 0 (by omega)).1, if_pos rfl]; omega
      all_goals (exfalso; omega)
    | succ r ih =>
      intro S a c hS hac
      apply M_bestDay_144_c18
      rw [ixs (by omega), bd166, bd166, Int.toNat_natCast]
      (repeat' (apply spl <;> intro))
      · exfalso; omega
      · (refine And.intro (by omega) ?_); (refine And.intro (by omega) ?_)
        refine ih (S + 1) _ _ (by omega) (fun T hT => ?_)
        rw [up1_ap, up1_ap]
        by_cases z : T = S
        · rw [if_pos z, if_pos z, if_neg (by omega)]; exact ⟨rfl, rfl⟩
        · rw [if_neg z, if_neg z]; exact hac T (by omega)
      · (refine And.intro (by omega) ?_); (refine And.intro (by omega) ?_)
        refine ih (S + 1) _ _ (by omega) (fun T hT => ?_)
        rw [up1_ap, up1_ap]
        by_cases z : T = S
        · rw [if_pos z, if_pos z, if_pos (by omega)]; exact ⟨rfl, rfl⟩
        · rw [if_neg z, if_neg z]; exact hac T (by omega)
  have l4 : ∀ (r v : Nat), v + r = 8 → Wp (Cw (d + 1)) cd_M_bestDay (0, 0, n1) Q 4 [mR 144, mL (nsum v : Nat), none, mI v, none, none, none, none, none, none] [] w := by
    intro r
    induction r with
    | zero =>
      intro v hv
      have : v = 8 := by omega
      subst this
      apply M_bestDay_144_c4
      have e8 : ((nsum 8 : Nat) : Int) = 6975757440 := rfl
      rw [e8]
      (repeat' (apply spl <;> intro))
      · have e : w = ubf (ubf w 166 (w 166)) 168 (w 168) := by
          funext c' i
          simp only [ubf_ap]
          by_cases z : c' = 168
          · simp [z]
          · by_cases z2 : c' = 166 <;> simp [z, z2]
        rw [e]
        exact l18 256 0 (w 166) (w 168) (by omega) (fun T hT => by omega)
      · exfalso; omega
    | succ r ih =>
      intro v hv
      have ih := ih (v + 1) (by omega)
      have es : nsum (v + 1) = nsum v + 16 * 17 ^ (7 - v) := rfl
      have b1 : nsum v ≤ 6975757440 := by
        rcases (show v = 0 ∨ v = 1 ∨ v = 2 ∨ v = 3 ∨ v = 4 ∨ v = 5 ∨ v = 6 ∨ v = 7 by omega) with q | q | q | q | q | q | q | q <;> subst q <;> decide
      have P7 : (17 : Nat) ^ (7 - v) ≤ 410338673 := by
        have := Nat.pow_le_pow_right (n := 17) (by omega) (show 7 - v ≤ 7 by omega)
        rw [show (17 : Nat) ^ 7 = 410338673 from rfl] at this
        exact this
      rw [es] at ih
      apply M_bestDay_144_c4
      (repeat' (apply spl <;> intro))
      · exfalso; omega
      · refine S_seventeen v (by omega) ?_
        refine ⟨_, rfl, ?_⟩
        generalize 17 ^ (7 - v) = P at *
        rw [ixs (by omega), w64_id (x := 16 * (P : Int)) (by unfold in64; omega), w64_id (by unfold in64; omega)]
        exact ih
  exact l4 8 0 (by omega)

theorem S_lookAround_112 {d : Nat} {Q : MV → Wd → Prop} {w : Wd} (W : Nat) (hW : W ≤ 8) (h4 : w 4 11 = W) (D : Nat → Nat) (hD : ∀ v, v < W → w 128 v = D v) (hlt : ∀ v, D v < 65536) (k : ∀ g : Nat → Int, (∀ S, S < 2 ^ W → g S = arn D W S) → Q none (ubf w 129 g)) : Cw (d + 1) 88 [mR 112] w Q := by
  apply Meeting_lookAround_112_en
  intro n1
  have outer : ∀ (r v : Nat) (g : Nat → Int), v + r = W → (∀ S, S < 2 ^ v → g S = arn D W S) → Wp (Cw (d + 0)) cd_Meeting_lookAround (0, 0, n1) Q 7 [mR 112, mI v, none] [] (ubf w 129 g) := by
    intro r
    induction r with
    | zero =>
      intro v g hv hg
      have : v = W := by omega
      subst this
      apply Meeting_lookAround_112_c7
      (repeat' (apply spl <;> intro))
      · exact k g hg
      · exfalso
        rename_i q
        apply q
        show w 4 11 ≤ (v : Int)
        omega
    | succ r ih =>
      intro v g hv hg
      apply Meeting_lookAround_112_c7
      have p0 := Nat.two_pow_pos v
      have p1 : 2 ^ v ≤ 128 := Nat.pow_le_pow_right (n := 2) (by omega) (show v ≤ 7 by omega)
      have e2 : 2 ^ (v + 1) = 2 ^ v + 2 ^ v := by rw [Nat.pow_succ]; omega
      have inner : ∀ (m S : Nat) (g : Nat → Int), S + m = 2 ^ v → (∀ T, T < 2 ^ v + S → g T = arn D W T) → Wp (Cw (d + 0)) cd_Meeting_lookAround (0, 0, n1) Q 14 [mR 112, mI v, mI S] [] (ubf w 129 g) := by
        intro m
        induction m with
        | zero =>
          intro S g hS hg
          apply Meeting_lookAround_112_c14
          rw [ishl1 (by omega), w32_id (x := (v : Int) + 1) (by unfold in32; omega)]
          (repeat' (apply spl <;> intro))
          · exact ih (v + 1) g (by omega) (fun T hT => hg T (by omega))
          · exfalso; omega
        | succ m ihm =>
          intro S g hS hg
          have hS2 : S < 2 ^ v := by omega
          have e3 := or_pow hS2
          have e4 : S ||| 2 ^ v < 256 := by omega
          have a1 := arn_lt (k := 16) hlt S W
          have a2 := hlt v
          have e5 : w 128 v = D v := hD v (by omega)
          have e6 : g S = arn D W S := hg S (by omega)
          have e7 : (ubf w 129 g) 129 S = arn D W S := e6
          have e8 : (ubf w 129 g) 128 v = D v := e5
          apply Meeting_lookAround_112_c14
          rw [ishl1 (by omega), w32_id (x := (S : Int) + 1) (by unfold in32; omega), ior_nat (by omega) (by omega), Int.toNat_natCast, Int.toNat_natCast, Int.toNat_natCast, e7, e8, ior_nat (by omega) (by omega), ub_on]
          (repeat' (apply spl <;> intro))
          · exfalso; omega
          · (refine And.intro (by omega) ?_); (refine And.intro (by omega) ?_); (refine And.intro (by omega) ?_)
            refine ihm (S + 1) _ (by omega) ?_
            intro T hT
            rw [up1_ap]
            by_cases q : T = S ||| 2 ^ v
            · rw [if_pos q, q, arn_or (by omega)]
            · rw [if_neg q]; exact hg T (by omega)
      (repeat' (apply spl <;> intro))
      · exfalso
        rename_i q
        have q : w 4 11 ≤ (v : Int) := q
        omega
      · exact inner (2 ^ v) 0 g (by omega) (fun T hT => hg T (by omega))
  refine Eq.mp ?_ (outer W 0 (up1 (w 129) 0 0) (by omega) (fun S hS => by
    have : S = 0 := by rw [Nat.pow_zero] at hS; omega
    subst this
    rw [arn_zero]; rfl))
  rfl
theorem S_matched_112 {d : Nat} {Q : MV → Wd → Prop} {w : Wd} (W : Nat) (hW : W ≤ 8) (h4 : w 4 11 = W) (D : Nat → Nat) (hD : ∀ v, v < W → w 128 v = D v) (U : Nat) (hU : U ≤ 16) (hlt : ∀ v, D v < 2 ^ U)
    (k : ∀ (v : Nat) (g : Nat → Int), v ≤ W → IsMost W (fun u w => (D w).testBit u) U v → Q (mI v) (ubf w 129 g)) : Cw (d + 2) 87 [mR 112] w Q := by
  have hu : 2 ^ U ≤ 65536 := Nat.pow_le_pow_right (n := 2) (by omega) hU
  have hw := pw8 hW
  have hwp := Nat.two_pow_pos W
  apply Meeting_matched_112_en
  intro n1
  refine S_lookAround_112 W hW h4 D hD (fun v => by have := hlt v; omega) ?_
  intro g hg
  have lp : ∀ (r S L : Nat), S + r = 2 ^ W → L ≤ 8 → (∀ T, T < S → pop T ≤ L + pop (arn D W T)) → (∃ T, T < 2 ^ W ∧ pop T = L + pop (arn D W T)) → Wp (Cw (d + 1)) cd_Meeting_matched (1, 0, n1) Q 6 [mR 112, mI L, mI S] [] (ubf w 129 g) := by
    intro r
    induction r with
    | zero =>
      intro S L hS hL8 hL hT
      have hS : S = 2 ^ W := by omega
      subst hS
      apply Meeting_matched_112_c6
      have e4 : (ubf w 129 g) 4 11 = W := h4
      rw [e4, ishl1 (by omega)]
      have fin : ∀ v : Nat, v + L = W → Q (mI v) (ubf w 129 g) := by
        intro v hv
        refine k v g (by omega) (isMost_lack ?_ ?_)
        · intro Y hY
          have h1 := hL (toN W Y) (toN_lt Y W)
          rw [pop_cnt (k := W) (by omega) (toN_lt Y W), pop_cnt (k := U) (by omega) (arn_lt hlt _ _), toN_fun hY] at h1
          have e : (arn D W (toN W Y)).testBit = nbB W (fun u w => (D w).testBit u) Y := by
            funext u; rw [arn_bit, toN_fun hY]
          rw [e] at h1
          omega
        · obtain ⟨T, t1, t2⟩ := hT
          rw [pop_cnt (k := W) (by omega) t1, pop_cnt (k := U) (by omega) (arn_lt hlt _ _)] at t2
          have e : (arn D W T).testBit = nbB W (fun u w => (D w).testBit u) T.testBit := by
            funext u; rw [arn_bit]
          rw [e] at t2
          exact ⟨T.testBit, fun w hw => tbit_lt t1 hw, by omega⟩
      have hLW : L ≤ W := by
        obtain ⟨T, t1, t2⟩ := hT
        rw [pop_cnt (k := W) (by omega) t1] at t2
        have := cntB_le T.testBit W
        omega
      (repeat' (apply spl <;> intro))
      · rw [w32_id (x := (W : Int) - L) (by unfold in32; omega), show (W : Int) - L = ((W - L : Nat) : Int) by omega]
        exact fin (W - L) (by omega)
      · exfalso; omega
    | succ r ih =>
      intro S L hS hL8 hL hT
      have aS : arn D W S < 65536 := by have := arn_lt hlt S W; omega
      have e4 : (ubf w 129 g) 4 11 = W := h4
      have e5 : (ubf w 129 g) 129 S = arn D W S := hg S (by omega)
      have pS : pop S ≤ 8 := by
        rw [pop_cnt (k := 8) (by omega) (by omega)]; exact cntB_le _ _
      have pA : pop (arn D W S) ≤ 16 := by
        rw [pop_cnt (k := 16) (by omega) (by omega)]; exact cntB_le _ _
      apply Meeting_matched_112_c6
      rw [e4, ishl1 (by omega), w32_id (x := (S : Int) + 1) (by unfold in32; omega)]
      (repeat' (apply spl <;> intro))
      · exfalso; omega
      · refine S_bitCount S rfl (by omega) ?_
        refine ⟨_, rfl, ?_⟩
        (refine And.intro (by omega) ?_)
        rw [Int.toNat_natCast, e5]
        refine S_bitCount (arn D W S) rfl aS ?_
        refine ⟨_, rfl, ?_⟩
        rw [w32_id (x := (pop S : Int) - (pop (arn D W S) : Int)) (by unfold in32; omega)]
        by_cases q : pop S ≤ L + pop (arn D W S)
        · rw [Int.max_eq_left (by omega)]
          exact ih (S + 1) L (by omega) hL8 (fun T hT' => by
            by_cases z : T = S
            · rw [z]; exact q
            · exact hL T (by omega)) hT
        · rw [Int.max_eq_right (by omega), show (pop S : Int) - (pop (arn D W S) : Int) = ((pop S - pop (arn D W S) : Nat) : Int) by omega]
          exact ih (S + 1) _ (by omega) (by omega) (fun T hT' => by
            by_cases z : T = S
            · rw [z]; omega
            · have := hL T (by omega); omega) ⟨S, by omega, by omega⟩
  exact lp (2 ^ W - 1) 1 0 (by omega) (by omega) (fun T hT => by
    have : T = 0 := by omega
    subst this
    exact Nat.zero_le _) ⟨0, by omega, by rw [arn_zero]; omega⟩
theorem S_appraise_112 {d : Nat} {Q : MV → Wd → Prop} {w : Wd} {U W J : Nat} {su sw wo : Nat → Nat} {adj : Nat → Nat → Bool} {co : Nat → Nat → Nat} (h : MtD (w 4) (w 11) (w 13) (w 127) U W J su sw wo adj co) (u : Nat) (hu : u < U)
    (k : ∀ (O : Nat) (g : Nat → Int), O < 256 → (∀ v, O.testBit v = true ↔ adjP wo adj co u v = true) → (∀ v, adjP wo adj co u v = true → g v = cL (netD wo co) u v) → Q (mI O) (ubf w 131 g)) : Cw (d + 2) 76 [mR 112, mI u] w Q := by
  have hU := h.hU
  have hW := h.hW
  apply Meeting_appraise_112_en
  intro n1
  have lp : ∀ (r v O : Nat) (g : Nat → Int), v + r = W → O < 2 ^ v → (∀ i, O.testBit i = true ↔ i < v ∧ adjP wo adj co u i = true) → (∀ i, i < v → adjP wo adj co u i = true → g i = cL (netD wo co) u i) → Wp (Cw (d + 1)) cd_Meeting_appraise (1, 0, n1) Q 4 [mR 112, mI u, mI O, mI v, none, none, none] [] (ubf w 131 g) := by
    intro r
    induction r with
    | zero =>
      intro v O g hv hO hb hg
      have : v = W := by omega
      subst this
      have p := pw8 hW
      apply Meeting_appraise_112_c4
      (repeat' (apply spl <;> intro))
      · refine k O g (by omega) (fun i => ?_) (fun i hi => ?_)
        · rw [hb i]
          constructor
          · exact fun z => z.2
          · intro z
            refine ⟨?_, z⟩
            unfold adjP at z
            rw [Bool.and_eq_true] at z
            exact (h.ran u i z.1).2.1
        · refine hg i ?_ hi
          unfold adjP at hi
          rw [Bool.and_eq_true] at hi
          exact (h.ran u i hi.1).2.1
      · exfalso; rename_i q; apply q; show w 4 11 ≤ (v : Int); have := h.wa; omega
    | succ r ih =>
      intro v O g hv hO hb hg
      have p := pw8 (v := v) (by omega)
      have p2 : 2 ^ (v + 1) = 2 ^ v + 2 ^ v := by rw [Nat.pow_succ]; omega
      have e4 : (ubf w 131 g) 4 11 = W := h.wa
      have e13 : (ubf w 131 g) 13 (4 * v + 2) = wo v := (h.wor v (by omega)).1
      have e107 : (ubf w 131 g) 127 (8 * u + v) = w 127 (8 * u + v) := rfl
      have skip : adjP wo adj co u v = false → Wp (Cw (d + 1)) cd_Meeting_appraise (1, 0, n1) Q 4 [mR 112, mI u, mI O, mI (w32 ((v : Int) + 1)), none, none, none] [] (ubf w 131 g) := by
        intro z
        rw [w32_id (x := (v : Int) + 1) (by unfold in32; omega)]
        refine ih (v + 1) O g (by omega) (by omega) (fun i => ?_) (fun i hi hj => ?_)
        · rw [hb i]
          constructor
          · intro ⟨a, b⟩; exact ⟨by omega, b⟩
          · intro ⟨a, b⟩
            refine ⟨?_, b⟩
            by_cases y : i = v
            · subst y; rw [z] at b; cases b
            · omega
        · refine hg i ?_ hj
          by_cases y : i = v
          · subst y; rw [z] at hj; cases hj
          · omega
      apply Meeting_appraise_112_c4
      rw [e4, ix8a (by omega) (by omega), ix4_2 (by omega), Int.toNat_natCast, Int.toNat_natCast, e13, e107]
      cases za : adj u v
      · have en := h.no u v hu (by omega) za
        have zz : cmp3 (w 127 (8 * u + v)) 9223372036854775807 = 0 := cmp3_zero.mpr en
        have zp : adjP wo adj co u v = false := by unfold adjP; rw [za]; rfl
        (repeat' (apply spl <;> intro))
        · exfalso; omega
        · refine ⟨by omega, ?_⟩
          (repeat' (apply spl <;> intro))
          · exfalso; rename_i q; exact q zz
          · exact skip zp
      · obtain ⟨c1, K, k1, k2, k3⟩ := h.yes u v hu (by omega) za
        have wl := (h.wor v (by omega)).2
        have zz : ¬ cmp3 (w 127 (8 * u + v)) 9223372036854775807 = 0 := by
          rw [cmp3_zero, k1]; omega
        have el : w32 (lushr (w 127 (8 * u + v)) 24) = co u v := by
          rw [k1, show (24 : Int) = ((24 : Nat) : Int) from rfl, lushr_nat (by omega) (by omega), show K / 2 ^ 24 = K / 16777216 from rfl, k3, w32_id (by unfold in32; omega)]
        rw [el, w32_id (x := (wo v : Int) - (co u v : Int)) (by unfold in32; omega)]
        (repeat' (apply spl <;> intro))
        · exfalso; omega
        · refine ⟨by omega, ?_⟩
          (repeat' (apply spl <;> intro))
          · refine ⟨by omega, ?_⟩
            (repeat' (apply spl <;> intro))
            · rename_i q
              refine skip ?_
              unfold adjP netD
              rw [za]; simp; omega
            · rename_i q
              have zp : adjP wo adj co u v = true := by
                unfold adjP netD
                rw [za]; simp; omega
              refine ⟨by omega, ?_⟩
              rw [Int.toNat_natCast, ub_on, ishl1 (by omega), ior_nat (by omega) (by omega), w32_id (x := (v : Int) + 1) (by unfold in32; omega)]
              have hm := or_pow hO
              have hn : ((wo v : Int) - (co u v : Int)) = ((wo v - co u v : Nat) : Int) := by omega
              have ev : w64 (lshl (w64 (w64 (((wo v : Int) - (co u v : Int)) * 16) + 1)) 40 + lshl (w32 (16 - (u : Int))) (w32 (5 * w32 (7 - (v : Int))))) = cL (netD wo co) u v := by
                have f1 := cL_form (wo := wo) (co := co) (u := u) (v := v) (n := wo v - co u v) hn
                have l7 := p32_le (m := 7 - v) (by omega)
                have l8 : (16 - u) * 32 ^ (7 - v) ≤ 16 * 34359738368 := Nat.mul_le_mul (by omega) l7
                have g1 : lshl (((wo v - co u v) * 16 + 1 : Nat) : Int) 40 = (((wo v - co u v) * 16 + 1) * 1099511627776 : Nat) := by
                  have := lshl_nat (a := (wo v - co u v) * 16 + 1) (n := 40) (by omega) (by rw [show 2 ^ 40 = 1099511627776 from rfl]; omega)
                  rw [show 2 ^ 40 = 1099511627776 from rfl] at this
                  exact this
                have g2 : lshl ((16 - u : Nat) : Int) ((5 * (7 - v) : Nat) : Int) = ((16 - u) * 32 ^ (7 - v) : Nat) := by
                  have := lshl_nat (a := 16 - u) (n := 5 * (7 - v)) (by omega) (by rw [p32]; omega)
                  rw [p32] at this
                  exact this
                rw [hn, w64_id (x := ((wo v - co u v : Nat) : Int) * 16) (by unfold in64; omega), w64_id (x := ((wo v - co u v : Nat) : Int) * 16 + 1) (by unfold in64; omega), show ((wo v - co u v : Nat) : Int) * 16 + 1 = (((wo v - co u v) * 16 + 1 : Nat) : Int) by omega, g1, w32_id (x := 16 - (u : Int)) (by unfold in32; omega), show 16 - (u : Int) = ((16 - u : Nat) : Int) by omega, w32_id (x := 7 - (v : Int)) (by unfold in32; omega), show 7 - (v : Int) = ((7 - v : Nat) : Int) by omega, w32_id (x := 5 * ((7 - v : Nat) : Int)) (by unfold in32; omega), show 5 * ((7 - v : Nat) : Int) = ((5 * (7 - v) : Nat) : Int) by omega, g2, f1, w64_id (by unfold in64; omega)]
                omega
              rw [ev]
              refine ih (v + 1) (O ||| 2 ^ v) _ (by omega) (by omega) (fun i => ?_) (fun i hi hj => ?_)
              · rw [tbit_or_pow, Bool.or_eq_true, hb i, decide_eq_true_eq]
                constructor
                · rintro (⟨a, b⟩ | a)
                  · exact ⟨by omega, b⟩
                  · subst a; exact ⟨by omega, zp⟩
                · intro ⟨a, b⟩
                  by_cases y : i = v
                  · exact Or.inr y.symm
                  · exact Or.inl ⟨by omega, b⟩
              · rw [up1_ap]
                by_cases y : i = v
                · rw [if_pos y, y]
                · rw [if_neg y]; exact hg i (by omega) hj
          · exfalso; rename_i q; exact q zz
  have e : w = ubf w 131 (w 131) := (ubf_sf0 w 131).symm
  rw [e]
  exact lp W 0 0 (w 131) (by omega) (by omega) (fun i => by simp) (fun i hi => by omega)
theorem S_meetBy_112 {d : Nat} {Q : MV → Wd → Prop} {w : Wd} {U W J : Nat} {su sw wo : Nat → Nat} {adj : Nat → Nat → Bool} {co : Nat → Nat → Nat} (h : MtD (w 4) (w 11) (w 13) (w 127) U W J su sw wo adj co) (u j : Nat) (hu : u < U) (hj : su u = j)
    (hT : TabC W (fun u v => adjP wo adj co u v && sw v == j) (cL (netD wo co)) (toN W (fun v => sw v == j)) (fun _ => u) (w 130))
    (k : ∀ (a g : Nat → Int), TabC W (fun u v => adjP wo adj co u v && sw v == j) (cL (netD wo co)) (toN W (fun v => sw v == j)) (fun _ => u + 1) g → Q none (ubf (ubf w 131 a) 130 g)) : Cw (d + 3) 75 [mR 112, mI u, mI (toN W (fun v => sw v == j) : Nat)] w Q := by
  have hU := h.hU
  have hW := h.hW
  have hal : toN W (fun v => sw v == j) < 256 := by have := toN_lt (fun v => sw v == j) W; have := pw8 hW; omega
  have hbit := toN_bit (fun v => sw v == j) W
  generalize toN W (fun v => sw v == j) = all at *
  have hAP : ∀ u v, (adjP wo adj co u v && sw v == j) = true → adjP wo adj co u v = true := fun u v z => by rw [Bool.and_eq_true] at z; exact z.1
  have hwo : ∀ v, v < W → wo v ≤ 999 := fun v hv => (h.wor v hv).2
  have hsort : ∀ v, adjP wo adj co u v = true → v < W ∧ sw v = j := fun v z => by
    unfold adjP at z
    rw [Bool.and_eq_true] at z
    have := h.ran u v z.1
    exact ⟨this.2.1, by omega⟩
  have hAu : ∀ v, (adjP wo adj co u v && sw v == j) = adjP wo adj co u v := fun v => by
    cases z : adjP wo adj co u v
    · rfl
    · have := (hsort v z).2
      simp [this]
  apply Meeting_meetBy_112_en
  intro n1
  refine S_appraise_112 h u hu ?_
  intro O a hO hOb ha
  refine ⟨_, rfl, ?_⟩
  have start : ∀ (met : Nat) (g : Nat → Int), met < 256 → met &&& all = met → TabC W (fun u v => adjP wo adj co u v && sw v == j) (cL (netD wo co)) all (fun S => if S ≤ met then u else u + 1) g → Wp (Cw (d + 2)) cd_Meeting_meetBy (0, 0, n1) Q 9 [mR 112, none, mI all, mI O, mI met, none, none, none] [] (ubf (ubf w 131 a) 130 g) := by
    intro met
    induction met using Nat.strongRecOn with
    | ind met ih =>
      intro g hm hsub hg
      apply Meeting_meetBy_112_c9
      (repeat' (apply spl <;> intro))
      · refine k a g ?_
        intro S hS hSs
        dsimp only
        have g1 := hg S hS hSs
        dsimp only at g1
        by_cases z : S ≤ met
        · rw [if_pos z] at g1
          have z0 : S = 0 := by omega
          subst z0
          exact ⟨opt_skip hW (by omega) (fun w _ q => by rw [tbit0] at q; cases q) g1.1, g1.2⟩
        · rw [if_neg z] at g1
          exact g1
      · rename_i qm
        have inner : ∀ (r v : Nat) (g' : Nat → Int), v + r = W → (∀ S, S ≠ met → g' S = g S) → -1 ≤ g' met → (0 ≤ g met → g met ≤ g' met) → (∀ x, x < v → met.testBit x = true → adjP wo adj co u x = true → 0 ≤ g (met ^^^ 2 ^ x) → g (met ^^^ 2 ^ x) + cL (netD wo co) u x ≤ g' met) → (0 ≤ g' met → g' met = g met ∨ ∃ x, x < W ∧ met.testBit x = true ∧ adjP wo adj co u x = true ∧ 0 ≤ g (met ^^^ 2 ^ x) ∧ g' met = g (met ^^^ 2 ^ x) + cL (netD wo co) u x) → Wp (Cw (d + 2)) cd_Meeting_meetBy (0, 0, n1) Q 13 [mR 112, none, mI all, mI O, mI met, mI v, none, none] [] (ubf (ubf w 131 a) 130 g') := by
          intro r
          induction r with
          | zero =>
            intro v g' hv h1 h2 h3 h4 h5
            have : v = W := by omega
            subst this
            have nx := sub_dec (all := all) (met := met) (by omega)
            have e4 : (ubf (ubf w 131 a) 130 g') 4 11 = v := h.wa
            apply Meeting_meetBy_112_c13
            (repeat' (apply spl <;> intro))
            · rw [w32_id (x := (met : Int) - 1) (by unfold in32; omega), show (met : Int) - 1 = ((met - 1 : Nat) : Int) by omega, iand_nat (by omega) (by omega)]
              refine ih ((met - 1) &&& all) nx g' (by omega) (sub_is _ _) ?_
              intro S hS hSs
              dsimp only
              have g1 := hg S hS hSs
              dsimp only at g1
              by_cases z : S = met
              · subst z
                rw [if_pos (Nat.le_refl _)] at g1
                rw [if_neg (by omega)]
                refine ⟨?_, h2⟩
                refine opt_stepZ hW (by omega) (x := g S) (y := fun x => g (S ^^^ 2 ^ x)) g1.1 ?_ ?_ h3 ?_ ?_
                · intro x hx hb hA
                  have s1 := hg (S ^^^ 2 ^ x) (by have := xor_lt hb; omega) (sub_xor hSs hb)
                  dsimp only at s1
                  rw [if_pos (by have := xor_lt hb; omega), tbit_xor_pow hb] at s1
                  exact s1.1
                · intro x hx hA
                  rw [hAu] at hA
                  unfold adjP at hA
                  rw [Bool.and_eq_true, decide_eq_true_eq] at hA
                  exact cL_nonneg hA.2
                · intro x hx hb hA
                  rw [hAu] at hA
                  exact h4 x hx hb hA
                · intro q
                  rcases h5 q with z | ⟨x, x1, x2, x3, x4, x5⟩
                  · exact Or.inl z
                  · exact Or.inr ⟨x, x1, x2, by rw [hAu]; exact x3, x4, x5⟩
              · rw [h1 S z]
                by_cases z2 : S < met
                · rw [if_pos (sub_next 8 hm hsub hSs z2)]
                  rw [if_pos (by omega)] at g1
                  exact g1
                · rw [if_neg (by omega)]
                  rw [if_neg (by omega)] at g1
                  exact g1
            all_goals (exfalso; omega)
          | succ r ih2 =>
            intro v g' hv h1 h2 h3 h4 h5
            have e4 : (ubf (ubf w 131 a) 130 g') 4 11 = W := h.wa
            have e110 : ∀ i, (ubf (ubf w 131 a) 130 g') 130 i = g' i := fun _ => rfl
            have e111 : ∀ i, (ubf (ubf w 131 a) 130 g') 131 i = a i := fun _ => rfl
            have al := Nat.and_le_left (n := met) (m := O)
            have bt := bit_nat (x := met &&& O) (k := v) (by omega) (by omega)
            have tba : (met &&& O).testBit v = (met.testBit v && O.testBit v) := Nat.testBit_and ..
            have next : ∀ g2 : Nat → Int, (∀ S, S ≠ met → g2 S = g' S) → g' met ≤ g2 met → (met.testBit v = true → adjP wo adj co u v = true → 0 ≤ g (met ^^^ 2 ^ v) → g (met ^^^ 2 ^ v) + cL (netD wo co) u v ≤ g2 met) → (g2 met = g' met ∨ (met.testBit v = true ∧ adjP wo adj co u v = true ∧ 0 ≤ g (met ^^^ 2 ^ v) ∧ g2 met = g (met ^^^ 2 ^ v) + cL (netD wo co) u v)) → Wp (Cw (d + 2)) cd_Meeting_meetBy (0, 0, n1) Q 13 [mR 112, none, mI all, mI O, mI met, mI (w32 ((v : Int) + 1)), none, none] [] (ubf (ubf w 131 a) 130 g2) := by
              intro g2 n1 n2 n3 n4
              rw [ixs (by omega)]
              refine ih2 (v + 1) g2 (by omega) (fun S hS => by rw [n1 S hS, h1 S hS]) (by omega) (fun q => by have := h3 q; omega) (fun x hx a1 a2 a3 => ?_) (fun q => ?_)
              · by_cases z : x = v
                · subst z; exact n3 a1 a2 a3
                · have := h4 x (by omega) a1 a2 a3; omega
              · rcases n4 with n4 | ⟨n4, n5, n6, n7⟩
                · rw [n4] at q ⊢; exact h5 q
                · exact Or.inr ⟨v, by omega, n4, n5, n6, n7⟩
            apply Meeting_meetBy_112_c13
            rw [e4, iand_nat (by omega) (by omega), bt, tba]
            cases z1 : met.testBit v
            · simp only [Bool.false_and, Bool.false_eq_true, if_false]
              (repeat' (apply spl <;> intro))
              · exfalso; omega
              · exact next g' (fun _ _ => rfl) (Int.le_refl _) (fun q => by rw [z1] at q; cases q) (Or.inl rfl)
              · rename_i q; exact absurd trivial q
            · cases z2 : O.testBit v
              · have z3 : ¬ adjP wo adj co u v = true := fun q => by rw [(hOb v).mpr q] at z2; cases z2
                simp only [Bool.and_false, Bool.false_eq_true, if_false]
                (repeat' (apply spl <;> intro))
                · exfalso; omega
                · exact next g' (fun _ _ => rfl) (Int.le_refl _) (fun _ q => absurd q z3) (Or.inl rfl)
                · rename_i q; exact absurd trivial q
              · have z3 := (hOb v).mp z2
                have z4 := z3
                unfold adjP at z4
                rw [Bool.and_eq_true, decide_eq_true_eq] at z4
                have xl := xor_lt z1
                have p := pw8 (v := v) (by omega)
                have ex : g' (met ^^^ 2 ^ v) = g (met ^^^ 2 ^ v) := h1 _ (by omega)
                have s1 := hg (met ^^^ 2 ^ v) (by omega) (sub_xor hsub z1)
                dsimp only at s1
                simp only [Bool.true_and, if_true]
                rw [ishl1 (by omega), ixor_nat (by omega) (by omega), Int.toNat_natCast, e110, ex]
                (repeat' (apply spl <;> intro))
                · exfalso; omega
                · exfalso; omega
                · (refine And.intro (by omega) ?_)
                  (repeat' (apply spl <;> intro))
                  · rename_i q
                    have q := cmp3_zero.mp q
                    exact next g' (fun _ _ => rfl) (Int.le_refl _) (fun _ _ q2 => by omega) (Or.inl rfl)
                  · rename_i q
                    have q : ¬ g (met ^^^ 2 ^ v) = -1 := fun y => q (cmp3_zero.mpr y)
                    have q0 : 0 ≤ g (met ^^^ 2 ^ v) := by have := s1.2; omega
                    obtain ⟨f, f1, _, f3⟩ := opt_val s1.1 q0
                    have fb := val_adjP hAP hwo f1
                    have cb := cL_bd z4.2 (hwo v (by omega))
                    have cn := cL_nonneg z4.2
                    have ea := ha v z3
                    (refine And.intro (by omega) ?_); (refine And.intro (by omega) ?_); (refine And.intro (by omega) ?_)
                    rw [Int.toNat_natCast, Int.toNat_natCast, e111, e110, ea, w64_id (by unfold in64; omega), ub_on]
                    refine next _ (fun S hS => by rw [up1_ap, if_neg hS]) ?_ ?_ ?_
                    · rw [up1_ap, if_pos rfl]; omega
                    · intro _ _ _; rw [up1_ap, if_pos rfl]; omega
                    · rw [up1_ap, if_pos rfl]
                      by_cases y : g (met ^^^ 2 ^ v) + cL (netD wo co) u v ≤ g' met
                      · left; omega
                      · right; exact ⟨z1, z3, q0, by omega⟩
        have g1 := hg met hm hsub
        dsimp only at g1
        rw [if_pos (Nat.le_refl _)] at g1
        exact inner W 0 g (by omega) (fun _ _ => rfl) g1.2 (fun _ => Int.le_refl _) (fun x hx => by omega) (fun _ => Or.inl rfl)
  (repeat' (apply spl <;> intro))
  · refine Eq.mp ?_ (start all (w 130) hal (Nat.and_self all) (fun S hS hSs => ?_))
    · rw [show ubf (ubf w 131 a) 130 (w 130) = ubf w 131 a from ubf_sf0 (ubf w 131 a) 130]
    · have g1 := hT S hS hSs
      have := Nat.and_le_right (n := S) (m := all)
      dsimp only
      rw [if_pos (by omega)]
      exact g1
  · rename_i q
    have hO0 : O = 0 := by omega
    have g2 := k a (w 130) (fun S hS hSs => by
      have g1 := hT S hS hSs
      dsimp only at g1
      refine ⟨opt_skip hW (by omega) (fun v _ _ => ?_) g1.1, g1.2⟩
      rw [hAu]
      cases z : adjP wo adj co u v
      · rfl
      · have := (hOb v).mpr z
        rw [hO0, tbit0] at this; cases this)
    rw [show ubf (ubf w 131 a) 130 (w 130) = ubf w 131 a from ubf_sf0 (ubf w 131 a) 130] at g2
    exact g2
theorem S_bestOfSort_112 {d : Nat} {Q : MV → Wd → Prop} {w : Wd} {U W J : Nat} {su sw wo : Nat → Nat} {adj : Nat → Nat → Bool} {co : Nat → Nat → Nat} (h : MtD (w 4) (w 11) (w 13) (w 127) U W J su sw wo adj co) (j : Nat) (hj : j < J)
    (k : ∀ (b : Int) (a g : Nat → Int), 0 ≤ b → b ≤ 144115188075855872 → IsMax W (fun u v => adjP wo adj co u v && sw v == j) (cL (netD wo co)) U b → Q (mL b) (ubf (ubf w 131 a) 130 g)) : Cw (d + 4) 73 [mR 112, mI j] w Q := by
  have hU := h.hU
  have hW := h.hW
  have hwo : ∀ v, v < W → wo v ≤ 999 := fun v hv => (h.wor v hv).2
  have hAP : ∀ u v, (adjP wo adj co u v && sw v == j) = true → adjP wo adj co u v = true := fun u v z => by rw [Bool.and_eq_true] at z; exact z.1
  have hAX : ∀ u v, (adjP wo adj co u v && sw v == j) = true → (fun v => sw v == j) v = true := fun u v z => by rw [Bool.and_eq_true] at z; exact z.2
  have hal : toN W (fun v => sw v == j) < 256 := by have := toN_lt (fun v => sw v == j) W; have := pw8 hW; omega
  apply Meeting_bestOfSort_112_en
  intro n1
  refine S_wantsOfSort W hW h.wa sw h.ws j ?_
  refine ⟨_, rfl, ?_⟩
  (repeat' (apply spl <;> intro))
  · refine S_fillL 130 256 (-1) rfl rfl (by omega) (by decide) ?_
    intro g0 hg0 _
    -- behind the loop over units
    have max42 : ∀ (a g : Nat → Int), TabC W (fun u v => adjP wo adj co u v && sw v == j) (cL (netD wo co)) (toN W (fun v => sw v == j)) (fun _ => U) g → ∀ (met : Nat) (b : Int), met < 256 → met &&& toN W (fun v => sw v == j) = met → 0 ≤ b → (∃ f, valid W (fun u v => adjP wo adj co u v && sw v == j) U f ∧ val (cL (netD wo co)) f = b) → (∀ S, S < 256 → S &&& toN W (fun v => sw v == j) = S → met < S → g S ≤ b) → Wp (Cw (d + 3)) cd_Meeting_bestOfSort (3, 0, n1) Q 42 [mR 112, none, mI (toN W (fun v => sw v == j) : Nat), mL b, none, mI met] [] (ubf (ubf w 131 a) 130 g) := by
      intro a g hT met
      induction met using Nat.strongRecOn with
      | ind met ih =>
        intro b hm hsub hb hex hle
        have e110 : (ubf (ubf w 131 a) 130 g) 130 met = g met := rfl
        obtain ⟨f, f1, f2⟩ := hex
        have fb := val_adjP hAP hwo f1
        apply Meeting_bestOfSort_112_c42
        rw [Int.toNat_natCast, e110]
        (repeat' (apply spl <;> intro))
        · refine k b a g hb (by omega) ⟨fun f' hf' => ?_, f, f1, f2⟩
          obtain ⟨s1, s2⟩ := supp_sub hAX hf'
          have sl : toN W (fun v => decide (f' v ≠ 0)) < 256 := by have := toN_lt (fun v => decide (f' v ≠ 0)) W; have := pw8 hW; omega
          have t1 := (hT _ sl s2).1.1 f' hf' s1
          obtain ⟨v, v1, v2⟩ := t1
          rw [decZ_some] at v1
          by_cases z : toN W (fun v => decide (f' v ≠ 0)) = 0
          · have e0 : f' = fun _ => 0 := by
              funext i
              apply Classical.byContradiction
              intro y
              have := (s1 i).mp y
              rw [z, tbit0] at this; cases this
            rw [e0, val_zero]; exact hb
          · have := hle _ sl s2 (by omega)
            omega
        · refine ⟨by omega, ?_⟩
          have nx := sub_dec (all := toN W (fun v => sw v == j)) (met := met) (by omega)
          have t0 := hT met hm hsub
          dsimp only at t0
          rw [w32_id (x := (met : Int) - 1) (by unfold in32; omega), show (met : Int) - 1 = ((met - 1 : Nat) : Int) by omega, iand_nat (by omega) (by omega)]
          refine ih ((met - 1) &&& toN W (fun v => sw v == j)) nx (max b (g met)) (by omega) (sub_is _ _) (by omega) ?_ ?_
          · by_cases y : g met ≤ b
            · rw [Int.max_eq_left y]; exact ⟨f, f1, f2⟩
            · rw [Int.max_eq_right (by omega)]
              obtain ⟨f', p1, _, p3⟩ := opt_val t0.1 (by omega)
              exact ⟨f', p1, p3⟩
          · intro S hS hSs hlt
            by_cases y : S = met
            · rw [y]; omega
            · by_cases y2 : met < S
              · have := hle S hS hSs y2; omega
              · have := sub_next 8 hm hsub hSs (by omega); omega
    have units : ∀ (r u : Nat) (a g : Nat → Int), u + r = U → TabC W (fun u v => adjP wo adj co u v && sw v == j) (cL (netD wo co)) (toN W (fun v => sw v == j)) (fun _ => u) g → Wp (Cw (d + 3)) cd_Meeting_bestOfSort (3, 0, n1) Q 20 [mR 112, mI j, mI (toN W (fun v => sw v == j) : Nat), mI u, none, none] [] (ubf (ubf w 131 a) 130 g) := by
      intro r
      induction r with
      | zero =>
        intro u a g hu hT
        have : u = U := by omega
        subst this
        have e4 : (ubf (ubf w 131 a) 130 g) 4 8 = u := h.un
        apply Meeting_bestOfSort_112_c20
        (repeat' (apply spl <;> intro))
        · exact max42 a g hT _ 0 hal (Nat.and_self _) (Int.le_refl _) ⟨_, valid_zero _ _ _, val_zero _⟩ (fun S hS hSs hl => by
            have := Nat.and_le_right (n := S) (m := toN W (fun v => sw v == j))
            omega)
        · exfalso; omega
      | succ r ih =>
        intro u a g hu hT
        have e4 : (ubf (ubf w 131 a) 130 g) 4 8 = U := h.un
        have e11 : (ubf (ubf w 131 a) 130 g) 11 (5 * u) = su u := h.us u (by omega)
        apply Meeting_bestOfSort_112_c20
        rw [ix5_0 (by omega), Int.toNat_natCast, e11, ixs (by omega)]
        (repeat' (apply spl <;> intro))
        · exfalso; omega
        · refine ⟨by omega, ?_⟩
          (repeat' (apply spl <;> intro))
          · rename_i q
            refine ih (u + 1) a g (by omega) ?_
            intro S hS hSs
            have g1 := hT S hS hSs
            refine ⟨opt_skip hW (by omega) (fun v hv _ => ?_) g1.1, g1.2⟩
            cases z : (adjP wo adj co u v && sw v == j)
            · rfl
            · rw [Bool.and_eq_true] at z
              have z1 := z.1
              unfold adjP at z1
              rw [Bool.and_eq_true] at z1
              have := (h.ran u v z1.1).2.2
              have := beq_iff_eq.mp z.2
              exfalso; omega
          · rename_i q
            refine S_meetBy_112 (w := ubf (ubf w 131 a) 130 g) h u j (by omega) (by omega) hT ?_
            intro a' g' hT'
            have ew : ubf (ubf (ubf (ubf w 131 a) 130 g) 131 a') 130 g' = ubf (ubf w 131 a') 130 g' := by
              funext c i
              simp only [ubf_ap]
              by_cases z : c = 130
              · simp [z]
              · by_cases z2 : c = 131 <;> simp [z, z2]
            rw [ew]
            exact ih (u + 1) a' g' (by omega) hT'
    refine Eq.mp ?_ (units U 0 (w 131) (up1 g0 0 0) (by omega) (fun S hS hSs => ?_))
    · rw [ub_on, show ubf w 131 (w 131) = w from ubf_sf0 w 131]
      rfl
    · dsimp only
      rw [up1_ap]
      by_cases z : S = 0
      · subst z
        rw [if_pos rfl]
        exact ⟨opt_zero_yes tbit0, by omega⟩
      · rw [if_neg z, hg0 S hS]
        obtain ⟨i, hi⟩ := Nat.exists_testBit_of_ne_zero z
        exact ⟨opt_zero_no i hi, by omega⟩
  · rename_i q
    have q0 : toN W (fun v => sw v == j) = 0 := by omega
    have k1 := k 0 (w 131) (w 130) (Int.le_refl _) (by omega) (isMax_none (fun u v hv => by
      cases z : sw v == j
      · simp
      · have := toN_bit (fun v => sw v == j) W v
        rw [q0, tbit0] at this
        simp [hv] at this
        exact absurd (beq_iff_eq.mp z) this))
    rw [show ubf w 131 (w 131) = w from ubf_sf0 w 131, show ubf w 130 (w 130) = w from ubf_sf0 w 130] at k1
    exact k1
theorem S_solve_112 {d : Nat} {Q : MV → Wd → Prop} {w : Wd} {U W J : Nat} {su sw wo : Nat → Nat} {adj : Nat → Nat → Bool} {co : Nat → Nat → Nat} (h : MtD (w 4) (w 11) (w 13) (w 127) U W J su sw wo adj co)
    (k : ∀ (t : Int) (o a g : Nat → Int), (∀ i, i ≠ 7 → o i = w 112 i) → o 7 = t → IsMax W (adjP wo adj co) (cL (netD wo co)) U t → Q none (ubf (ubf (ubf w 112 o) 131 a) 130 g)) : Cw (d + 5) 72 [mR 112] w Q := by
  have hJ := h.hJ
  apply Meeting_solve_112_en
  intro n1
  have lp : ∀ (r j : Nat) (b : Nat → Int) (o a g : Nat → Int), j + r = J → (∀ i, i ≠ 7 → o i = w 112 i) → o 7 = sumZ j b → (∀ i, i < j → 0 ≤ b i ∧ b i ≤ 144115188075855872 ∧ IsMax W (fun u v => adjP wo adj co u v && sw v == i) (cL (netD wo co)) U (b i)) → Wp (Cw (d + 4)) cd_Meeting_solve (0, 0, n1) Q 5 [mR 112, mI j] [] (ubf (ubf (ubf w 112 o) 131 a) 130 g) := by
    intro r
    induction r with
    | zero =>
      intro j b o a g hj ho ht hb
      have : j = J := by omega
      subst this
      have e4 : (ubf (ubf (ubf w 112 o) 131 a) 130 g) 4 5 = j := h.so
      apply Meeting_solve_112_c5
      (repeat' (apply spl <;> intro))
      · refine k (o 7) o a g ho rfl ?_
        have m1 := isMax_sorts (W := W) (adj := adjP wo adj co) (c := cL (netD wo co)) (U := U) (su := su) (sw := sw) (fun u v z => by
          unfold adjP at z
          rw [Bool.and_eq_true] at z
          exact (h.ran u v z.1).2.2) b j (fun i hi => (hb i hi).2.2)
        rw [← ht] at m1
        have ea : ∀ f, valid W (fun u v => adjP wo adj co u v && decide (sw v < j)) U f ↔ valid W (adjP wo adj co) U f := by
          intro f
          constructor
          · intro hf
            refine ⟨fun v hv => ?_, hf.2⟩
            obtain ⟨a, b, c, z⟩ := hf.1 v hv
            rw [Bool.and_eq_true] at z
            exact ⟨a, b, c, z.1⟩
          · intro hf
            refine ⟨fun v hv => ?_, hf.2⟩
            obtain ⟨a, b, c, z⟩ := hf.1 v hv
            refine ⟨a, b, c, ?_⟩
            dsimp only
            rw [z]; simp [h.swJ v a]
        refine ⟨fun f hf => m1.1 f ((ea f).mpr hf), ?_⟩
        obtain ⟨f, f1, f2⟩ := m1.2
        exact ⟨f, (ea f).mp f1, f2⟩
      · exfalso; omega
    | succ r ih =>
      intro j b o a g hj ho ht hb
      have e4 : (ubf (ubf (ubf w 112 o) 131 a) 130 g) 4 5 = J := h.so
      have e92 : (ubf (ubf (ubf w 112 o) 131 a) 130 g) 112 7 = o 7 := rfl
      have l1 : 0 ≤ sumZ j b := sumZ_nonneg (fun i hi => (hb i hi).1)
      have l2 := sumZ_le (g := b) 144115188075855872 (n := j) (fun i hi => (hb i hi).2.1)
      apply Meeting_solve_112_c5
      rw [e92, ixs (by omega)]
      (repeat' (apply spl <;> intro))
      · exfalso; omega
      · refine S_bestOfSort_112 (w := ubf (ubf (ubf w 112 o) 131 a) 130 g) h j (by omega) ?_
        intro bj a' g' b1 b2 b3
        refine ⟨_, rfl, ?_⟩
        have l3 : (j : Int) * 144115188075855872 ≤ 6 * 144115188075855872 := by omega
        rw [ht, w64_id (by unfold in64; omega)]
        have ew : ub (ubf (ubf (ubf (ubf (ubf w 112 o) 131 a) 130 g) 131 a') 130 g') 112 7 (sumZ j b + bj) = ubf (ubf (ubf w 112 (up1 o 7 (sumZ j b + bj))) 131 a') 130 g' := by
          funext c i
          simp only [ubf_ap, ub_ap, up1_ap]
          by_cases z : c = 130
          · simp [z]
          · by_cases z2 : c = 131
            · simp [z, z2]
            · by_cases z3 : c = 112 <;> simp [z, z2, z3]
        rw [ew]
        have es : sumZ (j + 1) (fun i => if i = j then bj else b i) = sumZ j b + bj := by
          show sumZ j (fun i => if i = j then bj else b i) + (if j = j then bj else b j) = _
          rw [if_pos rfl, sumZ_ext (n := j) (g := fun i => if i = j then bj else b i) (h := b) (fun i hi => by rw [if_neg (by omega)])]
        refine ih (j + 1) (fun i => if i = j then bj else b i) _ a' g' (by omega) (fun i hi => ?_) ?_ (fun i hi => ?_)
        · rw [up1_ap, if_neg hi]; exact ho i hi
        · rw [up1_ap, if_pos rfl, es]
        · by_cases z : i = j
          · rw [if_pos z, z]; exact ⟨b1, b2, b3⟩
          · rw [if_neg z]; exact hb i (by omega)
  have e : ub w 112 7 0 = ubf (ubf (ubf w 112 (up1 (w 112) 7 0)) 131 (w 131)) 130 (w 130) := by
    funext c i
    simp only [ubf_ap, ub_ap, up1_ap]
    by_cases z : c = 130
    · simp [z]
    · by_cases z2 : c = 131
      · simp [z, z2]
      · by_cases z3 : c = 112 <;> simp [z, z2, z3]
  rw [e]
  exact lp J 0 (fun _ => 0) _ _ _ (by omega) (fun i hi => by rw [up1_ap, if_neg hi]) (by rw [up1_ap, if_pos rfl]; rfl) (fun i hi => by omega)
theorem arr3t (w : Wd) (a b c : Nat → Int) (i j k : Nat) (x y z : Int) : ub (ub (ub (ubf (ubf (ubf w 118 a) 120 b) 121 c) 121 i x) 120 j y) 118 k z = ubf (ubf (ubf w 118 (up1 a k z)) 120 (up1 b j y)) 121 (up1 c i x) := by
  funext c' t
  simp only [ub_ap, ubf_ap, up1_ap]
  by_cases z1 : c' = 118
  · simp [z1]
  · by_cases z2 : c' = 120
    · simp [z2]
    · by_cases z3 : c' = 121 <;> simp [z1, z2, z3]
theorem S_arrive_113 {d : Nat} {Q : MV → Wd → Prop} {w : Wd} {T : Tm} {wt : Int} (u W k : Nat) (hu : u < 16) (hW : W ≤ 8) (e93 : w 113 7 = u) (e4 : w 4 11 = W) (hk : k ≤ 5) (r : List Nat) (hr : RowC T wt (w 122) (w 123) (w 124) (w 125) (w 126) r) (hl : r.length = k + 1) (r8 : ∀ x, x ∈ r → x < 8) (b1 : hoL T r < 64) (b2 : coL T r ≤ 5000) (hc : ∀ v, v < W → 0 ≤ w 120 v ∧ w 120 v ≤ 1000000)
    (kk : ∀ g98 g100 g101 : Nat → Int, AccW u W (hitC (w 119) (fun v => w 13 (4 * v)) T) T wt [r] (w 118) (w 120) (w 121) g98 g100 g101 → Q none (ubf (ubf (ubf w 118 g98) 120 g100) 121 g101)) : Cw (d + 1) 65 [mR 113, mI k] w Q := by
  apply Ways_arrive_113_en
  intro n1
  obtain ⟨q, t, er⟩ : ∃ q t, r = q :: t := by
    cases r with
    | nil => simp at hl
    | cons q t => exact ⟨q, t, rfl⟩
  have lt : t.length = k := by rw [er] at hl; simp at hl; omega
  have hr2 := hr
  rw [er] at hr2
  obtain ⟨⟨c1, c2, _, _, c5, c6, c7⟩, _⟩ := hr2
  rw [← er] at c5 c6 c7
  rw [lt] at c1 c5 c6 c7
  have pl := pthL_bd r r8
  have p8 := Nat.pow_le_pow_right (n := 8) (by omega) (show r.length ≤ 6 by omega)
  rw [show (8 : Nat) ^ 6 = 262144 from rfl] at p8
  have ekey : keyL T r = (coL T r : Int) * 16777216 + (hoL T r : Int) * 262144 + (pthL r : Int) := rfl
  -- want by want
  have l46 : ∀ (m v : Nat) (g98 g100 g101 : Nat → Int), v + m = W → (∀ x k, x < v → k < 3 → g98 ((8 * u + x) * 3 + k) = accK (fun r => hitC (w 119) (fun v => w 13 (4 * v)) T x r && (min (tmW T.n wt r) 2 == k)) (keyL T) [r] (w 118 ((8 * u + x) * 3 + k))) → (∀ i, ¬ (∃ x k, x < v ∧ k < 3 ∧ i = (8 * u + x) * 3 + k) → g98 i = w 118 i) → (∀ x, x < v → g100 x = w 120 x + accC (hitC (w 119) (fun v => w 13 (4 * v)) T x) [r]) → (∀ x, v ≤ x → g100 x = w 120 x) → (∀ x, x < v → g101 x = accL (hitC (w 119) (fun v => w 13 (4 * v)) T x) (fun r => (hoL T r : Int)) [r] (w 120 x) (w 121 x)) → (∀ x, v ≤ x → g101 x = w 121 x) → Wp (Cw (d + 0)) cd_Ways_arrive (0, 0, n1) Q 46 [mR 113, mI k, none, mL (keyL T r), none, mI (min (tmW T.n wt r) 2 : Nat), mI v, none, none] [] (ubf (ubf (ubf w 118 g98) 120 g100) 121 g101) := by
    intro m
    induction m with
    | zero =>
      intro v g98 g100 g101 hv h1 h2 h3 h4 h5 h6
      have : v = W := by omega
      subst this
      have e4' : (ubf (ubf (ubf w 118 g98) 120 g100) 121 g101) 4 11 = v := e4
      apply Ways_arrive_113_c46
      (repeat' (apply spl <;> intro))
      · refine kk g98 g100 g101 ⟨h1, fun i hi => h2 i ?_, h3, h5⟩
        rintro ⟨x, k', a, b, c⟩
        omega
      all_goals (exfalso; omega)
    | succ m ih =>
      intro v g98 g100 g101 hv h1 h2 h3 h4 h5 h6
      have e4' : (ubf (ubf (ubf w 118 g98) 120 g100) 121 g101) 4 11 = W := e4
      have e13 : (ubf (ubf (ubf w 118 g98) 120 g100) 121 g101) 13 (4 * v) = w 13 (4 * v) := rfl
      have e99 : (ubf (ubf (ubf w 118 g98) 120 g100) 121 g101) 119 v = w 119 v := rfl
      have e104 : (ubf (ubf (ubf w 118 g98) 120 g100) 121 g101) 124 k = hoL T r := c5
      have e102 : (ubf (ubf (ubf w 118 g98) 120 g100) 121 g101) 122 k = q := c1
      have e100 : (ubf (ubf (ubf w 118 g98) 120 g100) 121 g101) 120 v = w 120 v := h4 v (Nat.le_refl _)
      have e101 : (ubf (ubf (ubf w 118 g98) 120 g100) 121 g101) 121 v = w 121 v := h6 v (Nat.le_refl _)
      have e93' : (ubf (ubf (ubf w 118 g98) 120 g100) 121 g101) 113 7 = u := e93
      have hcv := hc v (by omega)
      have ehit : hitC (w 119) (fun v => w 13 (4 * v)) T v r = (decide (w 13 (4 * v) = q) && decide ((hoL T r : Int) ≤ w 119 v)) := by
        unfold hitC
        rw [er]
      have s3 : min (tmW T.n wt r) 2 < 3 := by omega
      have e98 : (ubf (ubf (ubf w 118 g98) 120 g100) 121 g101) 118 ((8 * u + v) * 3 + min (tmW T.n wt r) 2) = w 118 ((8 * u + v) * 3 + min (tmW T.n wt r) 2) := h2 _ (by rintro ⟨x, k', a, b, c⟩; omega)
      have miss : hitC (w 119) (fun v => w 13 (4 * v)) T v r = false → Wp (Cw (d + 0)) cd_Ways_arrive (0, 0, n1) Q 46 [mR 113, mI k, none, mL (keyL T r), none, mI (min (tmW T.n wt r) 2 : Nat), mI (v + 1 : Nat), none, none] [] (ubf (ubf (ubf w 118 g98) 120 g100) 121 g101) := by
        intro z
        refine ih (v + 1) g98 g100 g101 (by omega) (fun x k' hx hk' => ?_) (fun i hi => ?_) (fun x hx => ?_) (fun x hx => h4 x (by omega)) (fun x hx => ?_) (fun x hx => h6 x (by omega))
        · by_cases y : x = v
          · rw [y, accK_no (fun a ha => by rw [List.mem_singleton] at ha; rw [ha, z]; rfl)]
            exact h2 _ (by rintro ⟨x2, k2, a, b, c⟩; omega)
          · exact h1 x k' (by omega) hk'
        · refine h2 i ?_
          rintro ⟨x, k', a, b, c⟩
          exact hi ⟨x, k', by omega, b, c⟩
        · by_cases y : x = v
          · rw [y, accC_no (fun a ha => by rw [List.mem_singleton] at ha; rw [ha, z]), h4 v (Nat.le_refl _)]; omega
          · exact h3 x (by omega)
        · by_cases y : x = v
          · rw [y, accL_no (fun a ha => by rw [List.mem_singleton] at ha; rw [ha, z])]
            exact h6 v (Nat.le_refl _)
          · exact h5 x (by omega)
      have take : ∀ y, hitC (w 119) (fun v => w 13 (4 * v)) T v r = true → y = (if w 120 v = 0 then (hoL T r : Int) else min (w 121 v) (hoL T r)) → Wp (Cw (d + 0)) cd_Ways_arrive (0, 0, n1) Q 46 [mR 113, mI k, none, mL (keyL T r), none, mI (min (tmW T.n wt r) 2 : Nat), mI (v + 1 : Nat), none, none] [] (ub (ub (ub (ubf (ubf (ubf w 118 g98) 120 g100) 121 g101) 121 v y) 120 v (w 120 v + 1)) 118 ((8 * u + v) * 3 + min (tmW T.n wt r) 2) (min (w 118 ((8 * u + v) * 3 + min (tmW T.n wt r) 2)) (keyL T r))) := by
        intro y z hy
        rw [arr3t]
        refine ih (v + 1) _ _ _ (by omega) (fun x k' hx hk' => ?_) (fun i hi => ?_) (fun x hx => ?_) (fun x hx => ?_) (fun x hx => ?_) (fun x hx => ?_)
        · rw [up1_ap]
          by_cases y1 : x = v
          · rw [y1]
            show _ = (if (hitC (w 119) (fun v => w 13 (4 * v)) T v r && (min (tmW T.n wt r) 2 == k')) = true then min (w 118 ((8 * u + v) * 3 + k')) (keyL T r) else w 118 ((8 * u + v) * 3 + k'))
            rw [z, Bool.true_and]
            by_cases y2 : min (tmW T.n wt r) 2 = k'
            · rw [y2, if_pos rfl, if_pos (by simp)]
            · rw [if_neg (by omega), if_neg (by simp; exact y2)]
              exact h2 _ (by rintro ⟨x2, k2, a, b, c⟩; omega)
          · rw [if_neg (by omega)]; exact h1 x k' (by omega) hk'
        · rw [up1_ap, if_neg (fun y1 => hi ⟨v, _, by omega, s3, y1⟩)]
          refine h2 i ?_
          rintro ⟨x, k', a, b, c⟩
          exact hi ⟨x, k', by omega, b, c⟩
        · rw [up1_ap]
          by_cases y1 : x = v
          · rw [if_pos y1, y1]
            show _ = _ + (((if hitC (w 119) (fun v => w 13 (4 * v)) T v r = true then 1 else 0) + 0 : Nat) : Int)
            rw [if_pos z]; rfl
          · rw [if_neg y1]; exact h3 x (by omega)
        · rw [up1_ap, if_neg (by omega)]; exact h4 x (by omega)
        · rw [up1_ap]
          by_cases y1 : x = v
          · rw [if_pos y1, y1]
            show _ = (if hitC (w 119) (fun v => w 13 (4 * v)) T v r = true then (if w 120 v = 0 then (hoL T r : Int) else min (w 121 v) (hoL T r)) else w 121 v)
            rw [if_pos z, hy]
          · rw [if_neg y1]; exact h5 x (by omega)
        · rw [up1_ap, if_neg (by omega)]; exact h6 x (by omega)
      apply Ways_arrive_113_c46
      rw [e4', e93', ix24 hu (by omega) s3, ix4_0 (by omega), Int.toNat_natCast, Int.toNat_natCast, Int.toNat_natCast, Int.toNat_natCast, e13, e99, e104, e102, e100, e101, e98, ixs (k := v) (by omega), w32_id (x := w 120 v + 1) (by unfold in32; omega)]
      (repeat' (apply spl <;> intro))
      · exfalso; omega
      · (refine And.intro (by omega) ?_); (refine And.intro (by omega) ?_); (refine And.intro (by omega) ?_)
        (repeat' (apply spl <;> intro))
        · rename_i z
          exact miss (by rw [ehit, decide_eq_false (show ¬ (hoL T r : Int) ≤ w 119 v by omega), Bool.and_false])
        · rename_i z
          (refine And.intro (by omega) ?_)
          (repeat' (apply spl <;> intro))
          · rename_i z2
            exact miss (by rw [ehit, decide_eq_false z2]; rfl)
          · rename_i z2
            have hy : hitC (w 119) (fun v => w 13 (4 * v)) T v r = true := by
              rw [ehit, decide_eq_true (Decidable.not_not.mp z2), decide_eq_true (show (hoL T r : Int) ≤ w 119 v by omega)]; rfl
            (refine And.intro (by omega) ?_)
            (repeat' (apply spl <;> intro))
            · rename_i z3
              (refine And.intro (by omega) ?_); (refine And.intro (by omega) ?_); (refine And.intro (by omega) ?_); (refine And.intro (by omega) ?_); (refine And.intro (by omega) ?_); (refine And.intro (by omega) ?_); (refine And.intro (by omega) ?_)
              exact take _ hy (by rw [if_neg z3])
            · rename_i z3
              (refine And.intro (by omega) ?_); (refine And.intro (by omega) ?_); (refine And.intro (by omega) ?_); (refine And.intro (by omega) ?_); (refine And.intro (by omega) ?_); (refine And.intro (by omega) ?_)
              exact take _ hy (by rw [if_pos (by omega)])
  -- the path
  have l4 : ∀ (m i : Nat), i + m = k + 1 → Wp (Cw (d + 0)) cd_Ways_arrive (0, 0, n1) Q 4 [mR 113, mI k, mI (pthL (r.drop (k + 1 - i)) : Nat), mI i, none, none, none, none, none] [] w := by
    intro m
    induction m with
    | zero =>
      intro i hi
      have : i = k + 1 := by omega
      subst this
      rw [Nat.sub_self, List.drop_zero]
      apply Ways_arrive_113_c4
      rw [Int.toNat_natCast, c5, c6, c7]
      have g1 : lshl ((coL T r : Nat) : Int) 24 = (coL T r * 16777216 : Nat) := by
        have := lshl_nat (a := coL T r) (n := 24) (by omega) (by rw [show 2 ^ 24 = 16777216 from rfl]; omega)
        rw [show 2 ^ 24 = 16777216 from rfl] at this
        exact this
      have g2 : lshl ((hoL T r : Nat) : Int) 18 = (hoL T r * 262144 : Nat) := by
        have := lshl_nat (a := hoL T r) (n := 18) (by omega) (by rw [show 2 ^ 18 = 262144 from rfl]; omega)
        rw [show 2 ^ 18 = 262144 from rfl] at this
        exact this
      have ek : w64 (w64 (lshl ((coL T r : Nat) : Int) 24 + lshl ((hoL T r : Nat) : Int) 18) + ((pthL r : Nat) : Int)) = keyL T r := by
        rw [g1, g2, w64_id (x := ((coL T r * 16777216 : Nat) : Int) + ((hoL T r * 262144 : Nat) : Int)) (by unfold in64; omega), w64_id (by unfold in64; omega), ekey]
        omega
      rw [ek]
      (repeat' (apply spl <;> intro))
      · (refine And.intro (by omega) ?_); (refine And.intro (by omega) ?_); (refine And.intro (by omega) ?_)
        have em : min ((tmW T.n wt r : Nat) : Int) 2 = ((min (tmW T.n wt r) 2 : Nat) : Int) := by omega
        rw [em]
        have ew : w = ubf (ubf (ubf w 118 (w 118)) 120 (w 120)) 121 (w 121) := by
          funext c' t
          simp only [ubf_ap]
          by_cases z1 : c' = 118
          · simp [z1]
          · by_cases z2 : c' = 120
            · simp [z2]
            · by_cases z3 : c' = 121 <;> simp [z1, z2, z3]
        have e := l46 W 0 (w 118) (w 120) (w 121) (by omega) (fun x _ hx => by omega) (fun _ _ => rfl) (fun x hx => by omega) (fun _ _ => rfl) (fun x hx => by omega) (fun _ _ => rfl)
        rw [← ew] at e
        exact e
      · exfalso; omega
    | succ m ih =>
      intro i hi
      have hlt : k + 1 - i - 1 < r.length := by omega
      have ed : r.drop (k + 1 - (i + 1)) = r[k + 1 - i - 1] :: r.drop (k + 1 - i) := by
        have := List.drop_eq_getElem_cons hlt
        rw [show k + 1 - (i + 1) = k + 1 - i - 1 by omega, this, show k + 1 - i - 1 + 1 = k + 1 - i by omega]
      have ld : (r.drop (k + 1 - i)).length = i := by rw [List.length_drop]; omega
      have hro : RowC T wt (w 122) (w 123) (w 124) (w 125) (w 126) (r[k + 1 - i - 1] :: r.drop (k + 1 - i)) := by
        have hro0 := hr
        have e := List.take_append_drop (k + 1 - (i + 1)) r
        rw [← e] at hro0
        have := RowC_suf hro0
        rwa [ed] at this
      obtain ⟨⟨ro1, ro2, _⟩, _⟩ := hro
      rw [ld] at ro1
      have hx8 : ∀ x, x ∈ r.drop (k + 1 - i) → x < 8 := fun x hx => r8 x (List.mem_of_mem_drop hx)
      have hb := pthL_bd _ hx8
      rw [ld] at hb
      have p8' := Nat.pow_le_pow_right (n := 8) (by omega) (show i ≤ 5 by omega)
      rw [show (8 : Nat) ^ 5 = 32768 from rfl] at p8'
      have ih := ih (i + 1) (by omega)
      rw [ed, show pthL (r[k + 1 - i - 1] :: r.drop (k + 1 - i)) = pthL (r.drop (k + 1 - i)) * 8 + r[k + 1 - i - 1] from rfl] at ih
      generalize r[k + 1 - i - 1] = rq at *
      generalize pthL (r.drop (k + 1 - i)) = px at *
      have es : px <<< 3 = px * 8 := by rw [Nat.shiftLeft_eq]
      have h2 := Nat.shiftLeft_add_eq_or_of_lt (b := rq) (i := 3) (by omega) px
      have g3 : ior (ishl (px : Int) 3) (rq : Int) = ((px * 8 + rq : Nat) : Int) := by
        have := ishl_nat (a := px) (n := 3) (by omega) (by omega) (by rw [es]; omega)
        rw [show ishl (px : Int) 3 = ((px <<< 3 : Nat) : Int) from this, ior_nat (by omega) (by omega), ← h2, es]
      apply Ways_arrive_113_c4
      rw [Int.toNat_natCast i, ro1, g3, ixs (k := i) (by omega)]
      (repeat' (apply spl <;> intro))
      · exfalso; omega
      · (refine And.intro (by omega) ?_)
        exact ih
  have := l4 (k + 1) 0 (by omega)
  rw [Nat.sub_zero, show r.drop (k + 1) = [] from List.drop_eq_nil_of_le (by omega)] at this
  exact this
def cC8t : List Nat := [118, 120, 121, 122, 123, 124, 125, 126]
theorem st5t (w : Wd) (i : Nat) (a b c e f : Int) : Fr cC8t w (ub (ub (ub (ub (ub w 122 i a) 123 i b) 124 i c) 125 i e) 126 i f) := by
  refine Fr.ub (Fr.ub (Fr.ub (Fr.ub (Fr.ub (Fr.rfl' _ _) ?_) ?_) ?_) ?_) ?_ <;> decide
theorem L_onward_113 {w0 : Wd} {u W : Nat} {fi : Nat → Bool} {wt : Int} {T : Tm} (b : WkB (w0 4) (w0 7) (w0 13) (w0 113) (w0 114) (w0 115) (w0 116) (w0 117) (w0 119) u W fi wt T) :
    ∀ (j : Nat) (pre : List Nat) (w : Wd) (d : Nat) (Q : MV → Wd → Prop), Fr cC8t w0 w → RowC T wt (w 122) (w 123) (w 124) (w 125) (w 126) pre → pre.length + j = T.n → 1 ≤ pre.length → (∀ x, x ∈ pre → x < T.P) → (∀ v, v < W → 0 ≤ w 120 v ∧ w 120 v + ((8 ^ j : Nat) : Int) ≤ 1000000) →
      (∀ w', Fr cC8t w0 w' → (∀ i, i < pre.length → w' 122 i = w 122 i ∧ w' 123 i = w 123 i ∧ w' 124 i = w 124 i ∧ w' 125 i = w 125 i ∧ w' 126 i = w 126 i) → AccW u W (hitC (w0 119) (fun v => w0 13 (4 * v)) T) T wt (ext T fi j pre) (w 118) (w 120) (w 121) (w' 118) (w' 120) (w' 121) → Q none w') →
      Cw (d + 2 * j + 2) 64 [mR 113, mI (pre.length - 1 : Nat)] w Q := by
  intro j
  have P8 := b.ct.P8
  have n6 := b.ct.n6
  have n2 := b.ct.n2
  induction j with
  | zero =>
    intro pre w d Q hF hr hl h1 hP hc kk
    have e93 : w 113 = w0 113 := hF 113 (by decide)
    have e94 : w 114 = w0 114 := hF 114 (by decide)
    have e4 : w 4 = w0 4 := hF 4 (by decide)
    have e13 : w 13 = w0 13 := hF 13 (by decide)
    have e99 : w 119 = w0 119 := hF 119 (by decide)
    have hn := b.ct.n
    have b1 := hoL_bd b.ct.hr9 pre
    have b2 := paL_bd b.ct.pn9 pre
    have b3 := asL_bd b.ct.ak9 pre
    apply Ways_onward_113_en
    intro n1
    rw [e94, hn, w32_id (x := (T.n : Int) - 1) (by unfold in32; omega)]
    refine ⟨fun _ => ?_, fun z => ?_⟩
    · refine S_arrive_113 (T := T) (wt := wt) u W (pre.length - 1) b.hu b.hW (by rw [e93]; exact b.eu) (by rw [e4]; exact b.wa) (by omega) pre hr (by omega) (fun x hx => by have := hP x hx; omega) (by omega) (by unfold coL; omega) (fun v hv => by have := hc v hv; rw [Nat.pow_zero] at this; omega) ?_
      intro g98 g100 g101 hA
      refine kk _ (fun c hc => ?_) (fun i hi => ⟨rfl, rfl, rfl, rfl, rfl⟩) ?_
      · rw [ubf_ne _ (fun z => hc (by subst z; decide)), ubf_ne _ (fun z => hc (by subst z; decide)), ubf_ne _ (fun z => hc (by subst z; decide))]
        exact hF c hc
      · rw [e99, e13] at hA
        exact hA
    · exfalso; omega
  | succ j ih =>
    intro pre w d Q hF hr hl h1 hP hc kk
    rw [show d + 2 * (j + 1) + 2 = (d + 2 * j + 2) + 2 by omega]
    have e93 : w 113 = w0 113 := hF 113 (by decide)
    have e94 : w 114 = w0 114 := hF 114 (by decide)
    have e4 : w 4 = w0 4 := hF 4 (by decide)
    have hn := b.ct.n
    obtain ⟨p, t, er⟩ : ∃ p t, pre = p :: t := by
      cases pre with
      | nil => simp at h1
      | cons p t => exact ⟨p, t, rfl⟩
    have lt : pre.length - 1 = t.length := by rw [er]; simp
    have lp : pre.length = t.length + 1 := by rw [er]; simp
    have hr2 := hr
    rw [er] at hr2
    obtain ⟨⟨c1, c2, c3, c4, c5, c6, c7⟩, _⟩ := hr2
    rw [← er] at c5 c6 c7
    have pP : p < T.P := hP p (by rw [er]; exact List.mem_cons_self ..)
    have ext0 : tb (w0 114 7) p = false → ext T fi (j + 1) pre = [] := by
      intro z
      rw [ext_succ]
      refine sib_nil (fun q _ hq => ?_)
      have : okB T fi pre q = false := by
        have g0 : T.gv p q = false := by
          cases g : T.gv p q
          · rfl
          · have := ((b.ct.gv p q pP (by omega)).mpr g).2
            rw [z] at this; cases this
        rw [er]
        unfold okB
        simp only [g0, Bool.false_and, Bool.and_false]
      rw [this]; rfl
    -- one after the other
    have l44 : ∀ (NX : Int), (∀ q, q < 8 → tb NX q = true → T.ha q = true) → (∀ q, q < 8 → tb NX q = false → T.ha q = false ∨ (j = 0 ∧ tb (w0 113 9) q = false)) → tb (w0 114 7) p = true → ∀ (m q : Nat) (w1 : Wd), q + m = T.P → Fr cC8t w0 w1 → (∀ i, i < pre.length → w1 122 i = w 122 i ∧ w1 123 i = w 123 i ∧ w1 124 i = w 124 i ∧ w1 125 i = w 125 i ∧ w1 126 i = w 126 i) → (∀ v, v < W → 0 ≤ w1 120 v ∧ w1 120 v + ((m * 8 ^ j : Nat) : Int) ≤ 1000000) →
        (∀ w', Fr cC8t w0 w' → (∀ i, i < pre.length → w' 122 i = w 122 i ∧ w' 123 i = w 123 i ∧ w' 124 i = w 124 i ∧ w' 125 i = w 125 i ∧ w' 126 i = w 126 i) → AccW u W (hitC (w0 119) (fun v => w0 13 (4 * v)) T) T wt (sib (fun q => if okB T fi pre q then ext T fi j (q :: pre) else []) m q) (w1 118) (w1 120) (w1 121) (w' 118) (w' 120) (w' 121) → Q none w') →
        ∀ n1, Wp (Cw (d + 2 * j + 2 + 1)) cd_Ways_onward (0, 0, n1) Q 44 [mR 113, mI t.length, mI NX, mI q, none] [] w1 := by
      intro NX nx1 nx0 hg m
      induction m with
      | zero =>
        intro q w1 hq hF1 hi1 hc1 k1 n1
        have e4' : w1 4 0 = T.P := by rw [hF1 4 (by decide)]; exact b.ct.P
        apply Ways_onward_113_c44
        rw [e4']
        (repeat' (apply spl <;> intro))
        · exact k1 w1 hF1 hi1 AccW.nil
        · exfalso; omega
      | succ m ihm =>
        intro q w1 hq hF1 hi1 hc1 k1 n1
        have hq8 : q < 8 := by omega
        have e4' : w1 4 0 = T.P := by rw [hF1 4 (by decide)]; exact b.ct.P
        have f94 : w1 114 = w0 114 := hF1 114 (by decide)
        have f93 : w1 113 = w0 113 := hF1 113 (by decide)
        have f95 : w1 115 = w0 115 := hF1 115 (by decide)
        have f96 : w1 116 = w0 116 := hF1 116 (by decide)
        have f97 : w1 117 = w0 117 := hF1 117 (by decide)
        obtain ⟨i1, i2, i3, i4, i5⟩ := hi1 t.length (by omega)
        rw [c1] at i1
        rw [c5] at i3
        rw [c6] at i4
        rw [c7] at i5
        have bh := hoL_bd b.ct.hr9 pre
        have bp := paL_bd b.ct.pn9 pre
        have ba := asL_bd b.ct.ak9 pre
        have hgv := b.ct.gv p q pP (by omega)
        have hpn := b.ct.pn p q pP (by omega)
        have es : ∀ x, sib (fun q => if okB T fi pre q then ext T fi j (q :: pre) else []) (m + 1) q = x ↔ (if okB T fi pre q then ext T fi j (q :: pre) else []) ++ sib (fun q => if okB T fi pre q then ext T fi j (q :: pre) else []) m (q + 1) = x := fun x => Iff.rfl
        have hm1 : (m + 1) * 8 ^ j = m * 8 ^ j + 8 ^ j := Nat.succ_mul m (8 ^ j)
        have skip : (∀ v x, v < W → x ∈ (if okB T fi pre q then ext T fi j (q :: pre) else []) → hitC (w0 119) (fun v => w0 13 (4 * v)) T v x = false) → Wp (Cw (d + 2 * j + 2 + 1)) cd_Ways_onward (0, 0, n1) Q 44 [mR 113, mI t.length, mI NX, mI (q + 1 : Nat), none] [] w1 := by
          intro z
          refine ihm (q + 1) w1 (by omega) hF1 hi1 (fun v hv => ?_) (fun w' a1 a2 a3 => k1 w' a1 a2 ?_) n1
          · have := hc1 v hv
            rw [hm1] at this
            generalize 8 ^ j = X at *
            generalize m * X = Y at *
            omega
          · exact (AccW.no z).app a3
        have dead : okB T fi pre q = false → Wp (Cw (d + 2 * j + 2 + 1)) cd_Ways_onward (0, 0, n1) Q 44 [mR 113, mI t.length, mI NX, mI (q + 1 : Nat), none] [] w1 := by
          intro z
          refine skip (fun v x _ hx => ?_)
          rw [z] at hx
          cases hx
        have eok : okB T fi pre q = (T.ha q && (T.gv p q && (if T.back = 1 then (!(pre.contains q) || fi q) else if T.back = 2 then (!(pre.contains q) && !(fi q)) else if T.back = 3 then !(pre.any (fun x => T.tw x == T.tw q)) else true))) := by
          rw [er]; rfl
        apply Ways_onward_113_c44
        rw [e4', Int.toNat_natCast, i1, i3, f96, f97, f93, f94, hasbit _ (n := q) (by omega), ix8a (by omega) hq8, Int.toNat_natCast, ixs (k := q) (by omega)]
        (repeat' (apply spl <;> intro))
        · exfalso; omega
        · (refine And.intro (by omega) ?_)
          cases zn : tb NX q
          · simp only [Bool.false_eq_true, if_false]
            refine ⟨fun _ => ?_, fun z => absurd trivial z⟩
            rcases nx0 q hq8 zn with z | ⟨z1, z2⟩
            · exact dead (by rw [eok, z]; rfl)
            · refine skip (fun v x hv hx => ?_)
              subst z1
              by_cases zo : okB T fi pre q = true
              · rw [if_pos zo] at hx
                have hx : x ∈ [q :: pre] := hx
                rw [List.mem_singleton] at hx
                rw [hx]
                cases zh : hitC (w0 119) (fun v => w0 13 (4 * v)) T v (q :: pre)
                · rfl
                · exfalso
                  unfold hitC at zh
                  simp only [Bool.and_eq_true, decide_eq_true_eq] at zh
                  have := b.wan v hv (by omega)
                  rw [zh.1, Int.toNat_natCast, z2] at this
                  cases this
              · rw [if_neg zo] at hx; cases hx
          · rw [if_pos (rfl : true = true)]
            refine ⟨fun z => by exfalso; omega, fun _ => ?_⟩
            (refine And.intro (by omega) ?_)
            (repeat' (apply spl <;> intro))
            · rename_i z
              refine dead ?_
              rw [eok]
              have : T.gv p q = false := by
                cases g : T.gv p q
                · rfl
                · exact absurd z (hgv.mpr g).1
              rw [this]; simp
            · rename_i z
              have gq : T.gv p q = true := hgv.mp ⟨z, hg⟩
              obtain ⟨p1, p2⟩ := hpn gq
              have h9 := b.ct.hr9 p q
              have p9 := b.ct.pn9 p q
              have ehq : hoL T (q :: pre) = hoL T pre + T.hr p q := by rw [er]; rfl
              (refine And.intro (by omega) ?_); (refine And.intro (by omega) ?_)
              rw [p2, w32_id (x := (hoL T pre : Int) + (T.hr p q : Int)) (by unfold in32; omega)]
              (repeat' (apply spl <;> intro))
              · rename_i z2
                refine skip (fun v x hv hx => ?_)
                by_cases zo : okB T fi pre q = true
                · rw [if_pos zo] at hx
                  obtain ⟨t', e, _, _⟩ := mem_ext hx
                  have h3 := hoL_app T (q :: pre) t'
                  have h4 := b.room v hv
                  cases zh : hitC (w0 119) (fun v => w0 13 (4 * v)) T v x
                  · rfl
                  · exfalso
                    unfold hitC at zh
                    rw [Bool.and_eq_true, decide_eq_true_eq] at zh
                    have := zh.2
                    rw [e] at this
                    omega
                · rw [if_neg zo] at hx; cases hx
              · rename_i z2
                (refine And.intro (by omega) ?_)
                have e2b : w0 114 2 = T.back := b.ct.back
                rw [e2b]
                have fC4 : w1 4 = w0 4 := hF1 4 (by decide)
                have fC7 : w1 7 = w0 7 := hF1 7 (by decide)
                refine S_lets (w := w1) (T := T) (wt := wt) (by rw [fC4, fC7]; exact b.ct) fi (w0 113 8) (w1 123 t.length) b.fb pre hP (by rw [i2]; exact c3) (by rw [i2, er]; exact c4) q (by omega) ?_
                refine ⟨_, rfl, ?_⟩
                cases zl : (if T.back = 1 then (!(pre.contains q) || fi q) else if T.back = 2 then (!(pre.contains q) && !(fi q)) else if T.back = 3 then !(pre.any (fun x => T.tw x == T.tw q)) else true)
                · rw [zl, Bool.and_false, Bool.and_false] at eok
                  simp only [Bool.false_eq_true, if_false]
                  refine ⟨fun _ => dead eok, fun z => absurd trivial z⟩
                · rw [zl, nx1 q hq8 zn, gq] at eok
                  rw [if_pos (rfl : true = true)]
                  refine ⟨fun z => by exfalso; omega, fun _ => ?_⟩
                  -- a step on
                  have epq : paL T (q :: pre) = paL T pre + T.pn p q := by rw [er]; rfl
                  have eaq : asL T (q :: pre) = asL T pre + (if pre.length < T.n - 1 then T.ak q else 0) := by rw [er]; rfl
                  have etq : tmW T.n wt (q :: pre) = tmW T.n wt pre + (if pre.length < T.n - 1 ∧ (q : Int) = wt then 1 else 0) := by rw [er]; rfl
                  have aq := b.ct.ak q (by omega)
                  have aq9 := b.ct.ak9 q
                  have eco : coL T pre = paL T pre + asL T pre := rfl
                  have ecq : coL T (q :: pre) = paL T (q :: pre) + asL T (q :: pre) := rfl
                  have tb9 : tmW T.n wt pre ≤ pre.length := by
                    have : ∀ l : List Nat, tmW T.n wt l ≤ l.length := by
                      intro l
                      induction l with
                      | nil => exact Nat.le_refl _
                      | cons x l ihl =>
                        cases l with
                        | nil => exact Nat.zero_le _
                        | cons y l =>
                          show tmW T.n wt (y :: l) + (if (y :: l).length < T.n - 1 ∧ (x : Int) = wt then 1 else 0) ≤ (y :: l).length + 1
                          split <;> omega
                    exact this pre
                  have go : ∀ (co ti hd : Int), hd = ior (w1 123 t.length) (ishl 1 (q : Int)) → co = (coL T (q :: pre) : Nat) → ti = (tmW T.n wt (q :: pre) : Nat) → Cw (d + 2 * j + 2) 64 [mR 113, mI (t.length + 1 : Nat)] (ub (ub (ub (ub (ub w1 122 (t.length + 1) q) 123 (t.length + 1) hd) 124 (t.length + 1) ((hoL T pre : Int) + (T.hr p q : Int))) 125 (t.length + 1) co) 126 (t.length + 1) ti) (fun _ v9 => Wp (Cw (d + 2 * j + 2 + 1)) cd_Ways_onward (0, 0, n1) Q 44 [mR 113, mI t.length, mI NX, mI (q + 1 : Nat), none] [] v9) := by
                    intro co ti hd hhd hco hti
                    have hF2 : Fr cC8t w0 (ub (ub (ub (ub (ub w1 122 (t.length + 1) q) 123 (t.length + 1) hd) 124 (t.length + 1) ((hoL T pre : Int) + (T.hr p q : Int))) 125 (t.length + 1) co) 126 (t.length + 1) ti) := Fr.tr hF1 (st5t w1 _ _ _ _ _ _) (fun _ x => x)
                    have ix2 : ∀ i, i < pre.length → (ub (ub (ub (ub (ub w1 122 (t.length + 1) q) 123 (t.length + 1) hd) 124 (t.length + 1) ((hoL T pre : Int) + (T.hr p q : Int))) 125 (t.length + 1) co) 126 (t.length + 1) ti) 122 i = w 122 i ∧ (ub (ub (ub (ub (ub w1 122 (t.length + 1) q) 123 (t.length + 1) hd) 124 (t.length + 1) ((hoL T pre : Int) + (T.hr p q : Int))) 125 (t.length + 1) co) 126 (t.length + 1) ti) 123 i = w 123 i ∧ (ub (ub (ub (ub (ub w1 122 (t.length + 1) q) 123 (t.length + 1) hd) 124 (t.length + 1) ((hoL T pre : Int) + (T.hr p q : Int))) 125 (t.length + 1) co) 126 (t.length + 1) ti) 124 i = w 124 i ∧ (ub (ub (ub (ub (ub w1 122 (t.length + 1) q) 123 (t.length + 1) hd) 124 (t.length + 1) ((hoL T pre : Int) + (T.hr p q : Int))) 125 (t.length + 1) co) 126 (t.length + 1) ti) 125 i = w 125 i ∧ (ub (ub (ub (ub (ub w1 122 (t.length + 1) q) 123 (t.length + 1) hd) 124 (t.length + 1) ((hoL T pre : Int) + (T.hr p q : Int))) 125 (t.length + 1) co) 126 (t.length + 1) ti) 126 i = w 126 i := by
                      intro i hi
                      obtain ⟨a1, a2, a3, a4, a5⟩ := hi1 i hi
                      refine ⟨?_, ?_, ?_, ?_, ?_⟩
                      · show up1 (w1 122) (t.length + 1) _ i = _; rw [up1_ap, if_neg (by omega), a1]
                      · show up1 (w1 123) (t.length + 1) _ i = _; rw [up1_ap, if_neg (by omega), a2]
                      · show up1 (w1 124) (t.length + 1) _ i = _; rw [up1_ap, if_neg (by omega), a3]
                      · show up1 (w1 125) (t.length + 1) _ i = _; rw [up1_ap, if_neg (by omega), a4]
                      · show up1 (w1 126) (t.length + 1) _ i = _; rw [up1_ap, if_neg (by omega), a5]
                    have r102 : ∀ z, (ub (ub (ub (ub (ub w1 122 (t.length + 1) q) 123 (t.length + 1) hd) 124 (t.length + 1) ((hoL T pre : Int) + (T.hr p q : Int))) 125 (t.length + 1) co) 126 (t.length + 1) ti) 122 z = up1 (w1 122) (t.length + 1) q z := fun _ => rfl
                    have r103 : ∀ z, (ub (ub (ub (ub (ub w1 122 (t.length + 1) q) 123 (t.length + 1) hd) 124 (t.length + 1) ((hoL T pre : Int) + (T.hr p q : Int))) 125 (t.length + 1) co) 126 (t.length + 1) ti) 123 z = up1 (w1 123) (t.length + 1) hd z := fun _ => rfl
                    have r104 : ∀ z, (ub (ub (ub (ub (ub w1 122 (t.length + 1) q) 123 (t.length + 1) hd) 124 (t.length + 1) ((hoL T pre : Int) + (T.hr p q : Int))) 125 (t.length + 1) co) 126 (t.length + 1) ti) 124 z = up1 (w1 124) (t.length + 1) ((hoL T pre : Int) + (T.hr p q : Int)) z := fun _ => rfl
                    have r105 : ∀ z, (ub (ub (ub (ub (ub w1 122 (t.length + 1) q) 123 (t.length + 1) hd) 124 (t.length + 1) ((hoL T pre : Int) + (T.hr p q : Int))) 125 (t.length + 1) co) 126 (t.length + 1) ti) 125 z = up1 (w1 125) (t.length + 1) co z := fun _ => rfl
                    have r106 : ∀ z, (ub (ub (ub (ub (ub w1 122 (t.length + 1) q) 123 (t.length + 1) hd) 124 (t.length + 1) ((hoL T pre : Int) + (T.hr p q : Int))) 125 (t.length + 1) co) 126 (t.length + 1) ti) 126 z = up1 (w1 126) (t.length + 1) ti z := fun _ => rfl
                    have s98 : (ub (ub (ub (ub (ub w1 122 (t.length + 1) q) 123 (t.length + 1) hd) 124 (t.length + 1) ((hoL T pre : Int) + (T.hr p q : Int))) 125 (t.length + 1) co) 126 (t.length + 1) ti) 118 = w1 118 := rfl
                    have s100 : (ub (ub (ub (ub (ub w1 122 (t.length + 1) q) 123 (t.length + 1) hd) 124 (t.length + 1) ((hoL T pre : Int) + (T.hr p q : Int))) 125 (t.length + 1) co) 126 (t.length + 1) ti) 120 = w1 120 := rfl
                    have s101 : (ub (ub (ub (ub (ub w1 122 (t.length + 1) q) 123 (t.length + 1) hd) 124 (t.length + 1) ((hoL T pre : Int) + (T.hr p q : Int))) 125 (t.length + 1) co) 126 (t.length + 1) ti) 121 = w1 121 := rfl
                    generalize (ub (ub (ub (ub (ub w1 122 (t.length + 1) q) 123 (t.length + 1) hd) 124 (t.length + 1) ((hoL T pre : Int) + (T.hr p q : Int))) 125 (t.length + 1) co) 126 (t.length + 1) ti) = w2 at *
                    have hd0 : 0 ≤ hd ∧ hd < 256 ∧ ∀ x, x < 8 → tb hd x = (q :: pre).contains x := by
                      obtain ⟨hn', hn2⟩ := Int.eq_ofNat_of_zero_le c3.1
                      have p7 : 2 ^ q ≤ 128 := Nat.pow_le_pow_right (n := 2) (by omega) (show q ≤ 7 by omega)
                      have o8 : hn' ||| 2 ^ q < 256 := Nat.or_lt_two_pow (n := 8) (by omega) (by omega)
                      rw [hhd, i2, hn2, ishl1 (by omega), ior_nat (by omega) (by omega)]
                      refine ⟨by omega, by omega, fun x hx => ?_⟩
                      rw [tb_nat _ _ (by omega), tbit_or_pow]
                      have c4x := c4 x hx
                      rw [hn2, tb_nat _ _ (by omega), ← er] at c4x
                      rw [c4x, List.contains_cons]
                      rw [Bool.or_comm]
                      congr 1
                      by_cases y : q = x
                      · subst y; simp
                      · have : (x == q) = false := by simp; omega
                        rw [this]; simp [y]
                    have hro2 : RowC T wt (w2 122) (w2 123) (w2 124) (w2 125) (w2 126) (q :: pre) := by
                      refine ⟨⟨?_, hq8, ?_, ?_, ?_, ?_, ?_⟩, RowC_ext ix2 hr⟩
                      · rw [lp, r102, up1_ap, if_pos rfl]
                      · rw [lp, r103, up1_ap, if_pos rfl]; exact ⟨hd0.1, hd0.2.1⟩
                      · rw [lp, r103, up1_ap, if_pos rfl]; exact hd0.2.2
                      · rw [lp, r104, up1_ap, if_pos rfl, ehq]; omega
                      · rw [lp, r105, up1_ap, if_pos rfl, hco]
                      · rw [lp, r106, up1_ap, if_pos rfl, hti]
                    have := ih (q :: pre) w2 d (fun _ v9 => Wp (Cw (d + 2 * j + 2 + 1)) cd_Ways_onward (0, 0, n1) Q 44 [mR 113, mI t.length, mI NX, mI (q + 1 : Nat), none] [] v9) hF2 hro2 (by simp; omega) (by simp) (fun x hx => by
                      rw [List.mem_cons] at hx
                      rcases hx with hx | hx
                      · omega
                      · exact hP x hx) (fun v hv => by
                      have := hc1 v hv
                      rw [s100]
                      rw [hm1] at this
                      generalize 8 ^ j = X at *
                      generalize m * X = Y at *
                      omega) ?_
                    · rw [show (q :: pre).length - 1 = t.length + 1 by simp; omega] at this
                      exact this
                    · intro w3 a1 a2 a3
                      rw [s98, s100, s101] at a3
                      refine ihm (q + 1) w3 (by omega) a1 (fun i hi => ?_) (fun v hv => ?_) (fun w' b1 b2 b3 => k1 w' b1 b2 ?_) n1
                      · obtain ⟨x1, x2, x3, x4, x5⟩ := a2 i (by simp; omega)
                        obtain ⟨y1, y2, y3, y4, y5⟩ := ix2 i hi
                        exact ⟨by rw [x1, y1], by rw [x2, y2], by rw [x3, y3], by rw [x4, y4], by rw [x5, y5]⟩
                      · have h1 := hc1 v hv
                        have h2 := a3.2.2.1 v hv
                        have h3 := accC_le (hitC (w0 119) (fun v => w0 13 (4 * v)) T v) (ext T fi j (q :: pre))
                        have h4 := ext_len T P8 fi j (q :: pre)
                        rw [h2]
                        rw [hm1] at h1
                        generalize 8 ^ j = X at *
                        generalize m * X = Y at *
                        omega
                      · refine AccW.app (A := if okB T fi pre q then ext T fi j (q :: pre) else []) ?_ b3
                        rw [eok]
                        exact a3
                  apply Ways_step_113_en
                  rw [f93, f94, f95, f96, f97, hn, b.wat, w32_id (x := (T.n : Int) - 1) (by unfold in32; omega), ixs (k := t.length) (by omega), Int.toNat_natCast, Int.toNat_natCast, Int.toNat_natCast, Int.toNat_natCast, i3, i4, i5, p1, p2, w32_id (x := (hoL T pre : Int) + (T.hr p q : Int)) (by unfold in32; omega), w32_id (x := (coL T pre : Int) + (T.pn p q : Int)) (by unfold in32; omega), w32_id (x := (coL T pre : Int) + (T.pn p q : Int) + 0) (by unfold in32; omega), w32_id (x := (tmW T.n wt pre : Int) + 0) (by unfold in32; omega), w32_id (x := (tmW T.n wt pre : Int) + 1) (by unfold in32; omega)]
                  have fin : ∀ (co ti : Int), co = (coL T (q :: pre) : Nat) → ti = (tmW T.n wt (q :: pre) : Nat) → Cw (d + 2 * j + 2 + 0) 64 [mR 113, mI (t.length + 1 : Nat)] (ub (ub (ub (ub (ub w1 122 (t.length + 1) q) 123 (t.length + 1) (ior (w1 123 t.length) (ishl 1 (q : Int)))) 124 (t.length + 1) ((hoL T pre : Int) + (T.hr p q : Int))) 125 (t.length + 1) co) 126 (t.length + 1) ti) (fun _ v2 => Wp (Cw (d + 2 * j + 2 + 1)) cd_Ways_onward (0, 0, n1) Q 44 [mR 113, mI t.length, mI NX, mI (q + 1 : Nat), none] [] v2) := fun co ti h1 h2 => go co ti _ rfl h1 h2
                  (repeat' (apply spl <;> intro))
                  · rename_i zb
                    (refine And.intro (by omega) ?_); (refine And.intro (by omega) ?_); (refine And.intro (by omega) ?_); (refine And.intro (by omega) ?_); (refine And.intro (by omega) ?_); (refine And.intro (by omega) ?_); (refine And.intro (by omega) ?_); (refine And.intro (by omega) ?_); (refine And.intro (by omega) ?_); (refine And.intro (by omega) ?_); (refine And.intro (by omega) ?_)
                    refine fin _ _ ?_ ?_
                    · rw [ecq, epq, eaq, if_neg (by omega)]; omega
                    · rw [etq, if_neg (by omega)]; omega
                  · rename_i zb
                    (refine And.intro (by omega) ?_); (refine And.intro (by omega) ?_); (refine And.intro (by omega) ?_); (refine And.intro (by omega) ?_); (refine And.intro (by omega) ?_); (refine And.intro (by omega) ?_); (refine And.intro (by omega) ?_); (refine And.intro (by omega) ?_)
                    (repeat' (apply spl <;> intro))
                    · rename_i zw
                      rw [if_pos zw] at aq
                      (refine And.intro (by omega) ?_); (refine And.intro (by omega) ?_)
                      (repeat' (apply spl <;> intro))
                      · rename_i zw2; exact absurd zw zw2
                      · (refine And.intro (by omega) ?_)
                        refine fin _ _ ?_ ?_
                        · rw [ecq, epq, eaq, if_pos (by omega)]; omega
                        · rw [etq, if_pos ⟨by omega, zw⟩]; omega
                    · rename_i zw
                      rw [if_neg zw] at aq
                      (refine And.intro (by omega) ?_); (refine And.intro (by omega) ?_); (refine And.intro (by omega) ?_)
                      rw [aq, w32_id (x := (coL T pre : Int) + (T.pn p q : Int) + (T.ak q : Int)) (by unfold in32; omega)]
                      (repeat' (apply spl <;> intro))
                      · (refine And.intro (by omega) ?_)
                        refine fin _ _ ?_ ?_
                        · rw [ecq, epq, eaq, if_pos (by omega)]; omega
                        · rw [etq, if_neg (by omega)]; omega
                      · rename_i zw2; exact absurd zw zw2
    apply Ways_onward_113_en
    intro n1
    rw [e94, e93, hn, w32_id (x := (T.n : Int) - 1) (by unfold in32; omega), lt, ixs (k := t.length) (by omega), Int.toNat_natCast, c1, hasbit _ (n := p) (by omega)]
    have start : ∀ NX, (∀ q, q < 8 → tb NX q = true → T.ha q = true) → (∀ q, q < 8 → tb NX q = false → T.ha q = false ∨ (j = 0 ∧ tb (w0 113 9) q = false)) → tb (w0 114 7) p = true → Wp (Cw (d + 2 * j + 2 + 1)) cd_Ways_onward (0, 0, n1) Q 44 [mR 113, mI t.length, mI NX, mI 0, none] [] w := by
      intro NX x1 x2 x3
      refine l44 NX x1 x2 x3 T.P 0 w (by omega) hF (fun i _ => ⟨rfl, rfl, rfl, rfl, rfl⟩) (fun v hv => ?_) (fun w' a1 a2 a3 => kk w' a1 a2 (by rw [ext_succ]; exact a3)) n1
      have h1 := hc v hv
      have h2 : T.P * 8 ^ j ≤ 8 * 8 ^ j := Nat.mul_le_mul_right _ P8
      rw [Nat.pow_succ] at h1
      generalize 8 ^ j = X at *
      generalize T.P * X = Y at *
      omega
    (repeat' (apply spl <;> intro))
    · exfalso; omega
    · (refine And.intro (by omega) ?_)
      cases zg : tb (w0 114 7) p
      · simp only [Bool.false_eq_true, if_false]
        refine ⟨fun _ => ?_, fun z => absurd trivial z⟩
        refine kk w hF (fun i _ => ⟨rfl, rfl, rfl, rfl, rfl⟩) ?_
        rw [ext0 zg]
        exact AccW.nil
      · rw [if_pos (rfl : true = true)]
        refine ⟨fun z => by exfalso; omega, fun _ => ?_⟩
        (repeat' (apply spl <;> intro))
        · refine start _ (fun q hq z => ?_) (fun q hq z => Or.inl ?_) zg
          · rw [tb_and, b.ct.hands q hq, Bool.and_eq_true] at z; exact z.1
          · rw [tb_and, b.ct.hands q hq, tb_neg1] at z
            simpa [show q < 32 by omega] using z
        · rename_i zl
          refine start _ (fun q hq z => ?_) (fun q hq z => ?_) zg
          · rw [tb_and, b.ct.hands q hq, Bool.and_eq_true] at z; exact z.1
          · rw [tb_and, b.ct.hands q hq, Bool.and_eq_false_iff] at z
            rcases z with z | z
            · exact Or.inl z
            · exact Or.inr ⟨by omega, z⟩
    · exfalso; omega
theorem mr4t (w : Wd) (o g : Nat → Int) (i : Nat) (x y z e : Int) : ub (ub (ub (ub (ubf (ubf w 113 o) 119 g) 119 i x) 119 i y) 113 10 z) 113 9 e = ubf (ubf w 113 (up1 (up1 o 10 z) 9 e)) 119 (up1 g i y) := by
  funext c' t
  simp only [ub_ap, ubf_ap, up1_ap]
  by_cases z1 : c' = 119
  · by_cases z2 : t = i <;> simp [z1, z2]
  · by_cases z2 : c' = 113 <;> simp [z1, z2]
theorem S_measureRooms_113 {d : Nat} {Q : MV → Wd → Prop} {w : Wd} {s nms : Nat → Int} (rv : RV (w 4) (w 5) (w 6) (w 7) (w 8) (w 9) (w 10) (w 11) (w 12) (w 13) (w 14) (w 15) s nms) (hs : WS s) (U W u : Nat) (h2 : s 2 = U) (h3 : s 3 = W) (hu : u < U) (eu : w 113 7 = u)
    (k : ∀ o g : Nat → Int, (∀ i, i ≠ 9 → i ≠ 10 → o i = w 113 i) → (∀ v, v < W → g v = roomS s u v) → (∀ v, v < W → g v ≤ o 10) → (∀ v, v < W → 0 ≤ g v → tb (o 9) (w 13 (4 * v)).toNat = true) → Q none (ubf (ubf w 113 o) 119 g)) : Cw (d + 2) 62 [mR 113] w Q := by
  have hU : U ≤ 16 := by have := hs.un; omega
  have hW : W ≤ 8 := by have := hs.wa; omega
  have us := hs.usort u (by omega)
  have uh := hs.uhour u (by omega)
  have so6 := hs.so
  obtain ⟨ks, hks⟩ := Int.eq_ofNat_of_zero_le us.1
  have li := hs.life ks (by omega)
  apply Ways_measureRooms_113_en
  intro n1
  have lp : ∀ (m v : Nat) (o g : Nat → Int), v + m = W → (∀ i, i ≠ 9 → i ≠ 10 → o i = w 113 i) → (-1 ≤ o 10 ∧ o 10 ≤ 120) → (∃ B : Nat, o 9 = B ∧ B < 256) → (∀ x, x < v → g x = roomS s u x) → (∀ x, x < v → g x ≤ o 10) → (∀ x, x < v → 0 ≤ g x → tb (o 9) (w 13 (4 * x)).toNat = true) → Wp (Cw (d + 1)) cd_Ways_measureRooms (0, 0, n1) Q 8 [mR 113, mI v, none] [] (ubf (ubf w 113 o) 119 g) := by
    intro m
    induction m with
    | zero =>
      intro v o g hv h1 _ _ h4 h5 h6
      have : v = W := by omega
      subst this
      have e4 : (ubf (ubf w 113 o) 119 g) 4 11 = v := by show w 4 11 = v; rw [rv.wants]; exact h3
      apply Ways_measureRooms_113_c8
      (repeat' (apply spl <;> intro))
      · exact k o g h1 h4 h5 h6
      all_goals (exfalso; omega)
    | succ m ih =>
      intro v o g hv h1 h10 hB h4 h5 h6
      obtain ⟨B, hB1, hB2⟩ := hB
      have e4 : (ubf (ubf w 113 o) 119 g) 4 11 = W := by show w 4 11 = W; rw [rv.wants]; exact h3
      have e93 : (ubf (ubf w 113 o) 119 g) 113 7 = u := by show o 7 = u; rw [h1 7 (by decide) (by decide)]; exact eu
      have e131 : (ubf (ubf w 113 o) 119 g) 13 (4 * v + 1) = s (110 + 4 * v) := by show w 13 (4 * v + 1) = _; rw [rv.want _ (by omega)]; congr 1; omega
      have e133 : (ubf (ubf w 113 o) 119 g) 13 (4 * v + 3) = s (112 + 4 * v) := by show w 13 (4 * v + 3) = _; rw [rv.want _ (by omega)]; congr 1; omega
      have e130 : (ubf (ubf w 113 o) 119 g) 13 (4 * v) = w 13 (4 * v) := rfl
      have f130 : w 13 (4 * v) = s (109 + 4 * v) := by rw [rv.want _ (by omega)]
      have e110 : (ubf (ubf w 113 o) 119 g) 11 (5 * u) = ks := by show w 11 (5 * u) = _; rw [rv.usort u (by omega)]; exact hks
      have e113 : (ubf (ubf w 113 o) 119 g) 11 (5 * u + 3) = s (33 + 5 * u) := rv.uhour u (by omega)
      have e114 : (ubf (ubf w 113 o) 119 g) 11 (5 * u + 4) = s (33 + 5 * u) + s (23 + ks) := by
        show w 11 (5 * u + 4) = _
        rw [rv.spo u (by omega), hks, Int.toNat_natCast]
      have ww := hs.wwho v (by omega)
      have wb := hs.wby v (by omega)
      have pe := hs.pe
      obtain ⟨q, hq⟩ := Int.eq_ofNat_of_zero_le ww.1
      have f10 : (ubf (ubf w 113 o) 119 g) 113 10 = o 10 := rfl
      have f9 : (ubf (ubf w 113 o) 119 g) 113 9 = o 9 := rfl
      have lh : lastH s u v = min (s (112 + 4 * v)) (s (33 + 5 * u) + s (23 + ks) - 1) := by unfold lastH; rw [hks, Int.toNat_natCast]
      apply Ways_measureRooms_113_c8
      rw [e4, e93, ix4_1 (by omega), ix4_3 (by omega), ix4_0 (by omega), ix5_0 (by omega), ix5_3 (by omega), ix5_4 (by omega), ixs (k := v) (by omega), Int.toNat_natCast, Int.toNat_natCast, Int.toNat_natCast, Int.toNat_natCast, Int.toNat_natCast, Int.toNat_natCast, Int.toNat_natCast, e131, e133, e130, e110, e113, e114, f10, f9, f130, hq, hB1, w32_id (x := s (33 + 5 * u) + s (23 + ks) - 1) (by unfold in32; omega), w32_id (x := min (s (112 + 4 * v)) (s (33 + 5 * u) + s (23 + ks) - 1) - s (33 + 5 * u)) (by unfold in32; omega), up1_self]
      (repeat' (apply spl <;> intro))
      · exfalso; omega
      · (refine And.intro (by omega) ?_); (refine And.intro (by omega) ?_); (refine And.intro (by omega) ?_)
        (repeat' (apply spl <;> intro))
        · rename_i z
          have ro : roomS s u v = -1 := by unfold roomS; rw [hks, if_neg z]
          rw [ub_on]
          refine ih (v + 1) o _ (by omega) h1 h10 ⟨B, hB1, hB2⟩ (fun x hx => ?_) (fun x hx => ?_) (fun x hx => ?_)
          · rw [up1_ap]
            by_cases y : x = v
            · rw [if_pos y, y, ro]
            · rw [if_neg y]; exact h4 x (by omega)
          · rw [up1_ap]
            by_cases y : x = v
            · rw [if_pos y]; omega
            · rw [if_neg y]; exact h5 x (by omega)
          · rw [up1_ap]
            by_cases y : x = v
            · rw [if_pos y]; intro z; omega
            · rw [if_neg y]; exact h6 x (by omega)
        · rename_i z
          have z := Decidable.not_not.mp z
          have ro : roomS s u v = min (s (112 + 4 * v)) (s (33 + 5 * u) + s (23 + ks) - 1) - s (33 + 5 * u) := by unfold roomS; rw [hks, if_pos z, lh]
          have p := Nat.pow_le_pow_right (n := 2) (by omega) (show q ≤ 7 by omega)
          rw [show (2 : Nat) ^ 7 = 128 from rfl] at p
          have go : ∀ (B' : Nat), B' < 256 → (∀ i, tb (B : Int) i = true → tb (B' : Int) i = true) → (0 ≤ min (s (112 + 4 * v)) (s (33 + 5 * u) + s (23 + ks) - 1) - s (33 + 5 * u) → tb (B' : Int) q = true) → Wp (Cw (d + 1)) cd_Ways_measureRooms (0, 0, n1) Q 8 [mR 113, mI (v + 1 : Nat), none] [] (ub (ub (ub (ub (ubf (ubf w 113 o) 119 g) 119 v (-1)) 119 v (min (s (112 + 4 * v)) (s (33 + 5 * u) + s (23 + ks) - 1) - s (33 + 5 * u))) 113 10 (max (o 10) (min (s (112 + 4 * v)) (s (33 + 5 * u) + s (23 + ks) - 1) - s (33 + 5 * u)))) 113 9 (B' : Int)) := by
            intro B' hB' hsub hnew
            rw [mr4t]
            refine ih (v + 1) _ _ (by omega) (fun i i1 i2 => ?_) ?_ ⟨B', ?_, hB'⟩ (fun x hx => ?_) (fun x hx => ?_) (fun x hx => ?_)
            · rw [up1_ap, if_neg i1, up1_ap, if_neg i2]; exact h1 i i1 i2
            · rw [up1_ap, if_neg (by decide), up1_ap, if_pos rfl]; omega
            · rw [up1_ap, if_pos rfl]
            · rw [up1_ap]
              by_cases y : x = v
              · rw [if_pos y, y, ro]
              · rw [if_neg y]; exact h4 x (by omega)
            · have e10 : up1 (up1 o 10 (max (o 10) (min (s (112 + 4 * v)) (s (33 + 5 * u) + s (23 + ks) - 1) - s (33 + 5 * u)))) 9 (B' : Int) 10 = max (o 10) (min (s (112 + 4 * v)) (s (33 + 5 * u) + s (23 + ks) - 1) - s (33 + 5 * u)) := by rw [up1_ap, if_neg (by decide), up1_ap, if_pos rfl]
              rw [e10, up1_ap]
              by_cases y : x = v
              · rw [if_pos y]; omega
              · rw [if_neg y]; have := h5 x (by omega); omega
            · rw [up1_ap, up1_ap, if_pos rfl]
              by_cases y : x = v
              · rw [if_pos y, y, f130, hq, Int.toNat_natCast]; exact hnew
              · rw [if_neg y]
                intro z2
                have := h6 x (by omega) z2
                rw [hB1] at this
                exact hsub _ this
          refine ⟨by omega, by omega, by omega, by omega, by omega, by omega, ?_⟩
          (repeat' (apply spl <;> intro))
          · (refine And.intro (by omega) ?_)
            rw [ishl1 (by omega), ior_nat (by omega) (by omega)]
            refine go _ (Nat.or_lt_two_pow (n := 8) (by omega) (by omega)) (fun i hi => ?_) (fun _ => ?_)
            · rw [tb_natw] at hi ⊢
              rw [tbit_or_pow]
              rw [Bool.and_eq_true] at hi ⊢
              exact ⟨hi.1, by rw [hi.2]; rfl⟩
            · rw [tb_natw, tbit_or_pow]; simp; omega
          · rename_i z2
            rw [show (0 : Int) = ((0 : Nat) : Int) from rfl, ior_nat (by omega) (by omega), Nat.or_zero]
            exact go B hB2 (fun _ h => h) (fun z3 => absurd z3 z2)
  have e := lp W 0 (up1 (up1 (w 113) 9 0) 10 (-1)) (w 119) (by omega) (fun i i1 i2 => by rw [up1_ap, if_neg i2, up1_ap, if_neg i1]) (by rw [up1_ap, if_pos rfl]; omega) ⟨0, by rw [up1_ap, if_neg (by decide), up1_ap, if_pos rfl]; rfl, by omega⟩ (fun x hx => by omega) (fun x hx => by omega) (fun x hx => by omega)
  refine cw3_ e ?_
  funext c i
  simp only [ub_ap, ubf_ap, up1_ap]
  by_cases z1 : c = 119
  · simp [z1]
  · by_cases z2 : c = 113
    · simp [z2]
    · simp [z1, z2]
def cC9t : List Nat := [113, 118, 119, 120, 121, 122, 123, 124, 125, 126]
theorem cC8_9t : ∀ c, c ∈ cC8t → c ∈ cC9t := by decide
theorem L_on12_113 {w0 : Wd} {u W : Nat} {fi : Nat → Bool} {wt : Int} {T : Tm} (b : WkB (w0 4) (w0 7) (w0 13) (w0 113) (w0 114) (w0 115) (w0 116) (w0 117) (w0 119) u W fi wt T) (p : Nat) (w : Wd) (d : Nat) (Q : MV → Wd → Prop) (hF : Fr cC8t w0 w) (hr : RowC T wt (w 122) (w 123) (w 124) (w 125) (w 126) [p]) (hP : p < T.P) (hc : ∀ v, v < W → 0 ≤ w 120 v ∧ w 120 v ≤ 40000)
    (kk : ∀ w', Fr cC8t w0 w' → AccW u W (hitC (w0 119) (fun v => w0 13 (4 * v)) T) T wt (ext T fi (T.n - 1) [p]) (w 118) (w 120) (w 121) (w' 118) (w' 120) (w' 121) → Q none w') : Cw (d + 12) 64 [mR 113, mI 0] w Q := by
  have n6 := b.ct.n6
  have n2 := b.ct.n2
  have p8 := Nat.pow_le_pow_right (n := 8) (by omega) (show T.n - 1 ≤ 5 by omega)
  rw [show (8 : Nat) ^ 5 = 32768 from rfl] at p8
  have h := L_onward_113 b (T.n - 1) [p] w (d + 10 - 2 * (T.n - 1)) Q hF hr (by simp; omega) (by simp) (fun x hx => by rw [List.mem_singleton] at hx; omega) (fun v hv => by have := hc v hv; omega) (fun w' a1 _ a3 => kk w' a1 a3)
  rw [show d + 10 - 2 * (T.n - 1) + 2 * (T.n - 1) + 2 = d + 12 by omega] at h
  exact h
theorem S_walkUnit_113 {d : Nat} {Q : MV → Wd → Prop} {w : Wd} {s nms : Nat → Int} {T : Tm} (rv : RV (w 4) (w 5) (w 6) (w 7) (w 8) (w 9) (w 10) (w 11) (w 12) (w 13) (w 14) (w 15) s nms) (hs : WS s) (ct : CtT (w 4) (w 7) (w 114) (w 115) (w 116) (w 117) (w 113 2) T) (U W u : Nat) (h2 : s 2 = U) (h3 : s 3 = W) (hu : u < U)
    (k : ∀ w', Fr cC9t w w' → (∀ i, i ≠ 7 → i ≠ 8 → i ≠ 9 → i ≠ 10 → w' 113 i = w 113 i) → (∀ i, i < 24 * u ∨ 24 * u + 24 ≤ i → w' 118 i = w 118 i) → WalkU T (w 113 2) s u W (w' 118) (w' 120) (w' 121) → (∀ v, v < W → w' 119 v = roomS s u v) → Q none w') : Cw (d + 13) 59 [mR 113, mI u] w Q := by
  have hU : U ≤ 16 := by have := hs.un; omega
  have hW : W ≤ 8 := by have := hs.wa; omega
  have mk := hs.mak u (by omega)
  have pr := hs.par u (by omega)
  have pe := hs.pe
  obtain ⟨m, hm⟩ := Int.eq_ofNat_of_zero_le mk.1
  have hP : (T.P : Int) = s 0 := by rw [← ct.P, rv.people]
  have P8 := ct.P8
  have hmP : m < T.P := by omega
  have e111 : w 11 (5 * u + 1) = m := by rw [rv.mak u (by omega)]; exact hm
  have e112 : w 11 (5 * u + 2) = s (32 + 5 * u) := rv.par u (by omega)
  -- behind the firsts
  have main : ∀ (FB : Int) (n1 : Int), (∀ x, x < 8 → tb FB x = fiR s u x) → (∀ x, 8 ≤ x → tb FB x = false) → in32 FB → Cw (d + 10 + 2) 276 [mR 120, mI 0] (ub (ub w 113 7 u) 113 8 FB) (fun _ v2 => Wp (Cw (d + 10 + 2)) cd_Ways_walkUnit (0, 0, n1) Q 19 [mR 113, mI u, mI (w32 (w32 ((u : Int) * 8) * 3)), none] [] v2) := by
    intro FB n1 hF1 hF2 hF3
    refine S_fillI 120 8 0 rfl rfl (by omega) (by decide) ?_
    intro g0 hg0 _
    -- behind the keys
    have behind : ∀ (f : Nat → Int), (∀ v k, v < W → k < 3 → f ((8 * u + v) * 3 + k) = NOW) → (∀ i, i < 24 * u ∨ 24 * u + 24 ≤ i → f i = w 118 i) → Cw (d + 10 + 2) 62 [mR 113] (ubf (ubf (ub (ub w 113 7 u) 113 8 FB) 120 g0) 118 f) (fun _ v2 => (v2 113 10 < 0 → Q none v2) ∧ (¬ (v2 113 10 < 0) → ((iand (v2 113 8) (ixor (v2 114 6) ((-1))) = 0 → Wp (Cw (d + 10 + 2)) cd_Ways_walkUnit (0, 0, n1) Q 57 [mR 113, mI u, mI 1, none] [] v2) ∧ (¬ (iand (v2 113 8) (ixor (v2 114 6) ((-1))) = 0) → Q none v2)))) := by
      intro f hf hof
      refine S_measureRooms_113 (w := ubf (ubf (ub (ub w 113 7 u) 113 8 FB) 120 g0) 118 f) rv hs U W u h2 h3 hu rfl ?_
      intro o g ho hg hroom hwan
      have ho8 : o 8 = FB := by rw [ho 8 (by decide) (by decide)]; rfl
      have ho2 : o 2 = w 113 2 := by rw [ho 2 (by decide) (by decide)]; rfl
      have hfr : Fr cC9t w (ubf (ubf (ubf (ubf (ub (ub w 113 7 u) 113 8 FB) 120 g0) 118 f) 113 o) 119 g) := by
        refine Fr.ubf (Fr.ubf (Fr.ubf (Fr.ubf (Fr.ub (Fr.ub (Fr.rfl' _ _) ?_) ?_) ?_) ?_) ?_) ?_ <;> decide
      have h93 : ∀ i, i ≠ 7 → i ≠ 8 → i ≠ 9 → i ≠ 10 → o i = w 113 i := fun i i1 i2 i3 i4 => by
        rw [ho i i3 i4]
        show up1 (up1 (w 113) 7 u) 8 FB i = _
        rw [up1_ap, if_neg i2, up1_ap, if_neg i1]
      have f98 : (ubf (ubf (ubf (ubf (ub (ub w 113 7 u) 113 8 FB) 120 g0) 118 f) 113 o) 119 g) 118 = f := rfl
      have f100 : (ubf (ubf (ubf (ubf (ub (ub w 113 7 u) 113 8 FB) 120 g0) 118 f) 113 o) 119 g) 120 = g0 := rfl
      have f93 : (ubf (ubf (ubf (ubf (ub (ub w 113 7 u) 113 8 FB) 120 g0) 118 f) 113 o) 119 g) 113 = o := rfl
      have f99 : (ubf (ubf (ubf (ubf (ub (ub w 113 7 u) 113 8 FB) 120 g0) 118 f) 113 o) 119 g) 119 = g := rfl
      have f94 : (ubf (ubf (ubf (ubf (ub (ub w 113 7 u) 113 8 FB) 120 g0) 118 f) 113 o) 119 g) 114 = w 114 := rfl
      have f11 : (ubf (ubf (ubf (ubf (ub (ub w 113 7 u) 113 8 FB) 120 g0) 118 f) 113 o) 119 g) 11 = w 11 := rfl
      have f13 : (ubf (ubf (ubf (ubf (ub (ub w 113 7 u) 113 8 FB) 120 g0) 118 f) 113 o) 119 g) 13 = w 13 := rfl
      have f4 : (ubf (ubf (ubf (ubf (ub (ub w 113 7 u) 113 8 FB) 120 g0) 118 f) 113 o) 119 g) 4 = w 4 := rfl
      have f7 : (ubf (ubf (ubf (ubf (ub (ub w 113 7 u) 113 8 FB) 120 g0) 118 f) 113 o) 119 g) 7 = w 7 := rfl
      have f95 : (ubf (ubf (ubf (ubf (ub (ub w 113 7 u) 113 8 FB) 120 g0) 118 f) 113 o) 119 g) 115 = w 115 := rfl
      have f96 : (ubf (ubf (ubf (ubf (ub (ub w 113 7 u) 113 8 FB) 120 g0) 118 f) 113 o) 119 g) 116 = w 116 := rfl
      have f97 : (ubf (ubf (ubf (ubf (ub (ub w 113 7 u) 113 8 FB) 120 g0) 118 f) 113 o) 119 g) 117 = w 117 := rfl
      generalize (ubf (ubf (ubf (ubf (ub (ub w 113 7 u) 113 8 FB) 120 g0) 118 f) 113 o) 119 g) = w0 at *
      have hwho : ∀ v, v < W → w 13 (4 * v) = s (109 + 4 * v) := fun v hv => by rw [rv.want _ (by omega)]
      have hit : ∀ v r, v < W → hitC (w0 119) (fun v => w0 13 (4 * v)) T v r = hitS T s u v r := fun v r hv => by
        refine roomS_hit ?_ ?_
        · rw [f99]; exact hg v hv
        · show w0 13 (4 * v) = _
          rw [f13]; exact hwho v hv
      have hroom : ∀ v, v < W → g v ≤ o 10 := hroom
      have hwan : ∀ v, v < W → 0 ≤ g v → tb (o 9) (w 13 (4 * v)).toNat = true := hwan
      rw [f93, f94, ho8]
      refine ⟨fun z => ?_, fun z => ⟨fun z2 => ?_, fun z2 => ?_⟩⟩
      · -- no room at all
        have nohit : ∀ v r, v < W → hitS T s u v r = false := fun v r hv => by
          rw [← hit v r hv]
          unfold hitC
          have := hroom v hv
          rw [decide_eq_false (by rw [f99]; omega), Bool.and_false]
        refine k w0 hfr (by rw [f93]; exact h93) (by rw [f98]; exact hof) ?_ (by rw [f99]; exact hg)
        rw [f98, f100]
        refine ⟨fun v k' hv hk => ?_, fun v hv => ?_, fun v hv hne => ?_⟩
        · rw [hf v k' hv hk]
          refine ⟨fun r _ hh => ?_, Or.inl ⟨rfl, fun r _ => ?_⟩⟩
          · dsimp only at hh
            rw [nohit v r hv] at hh; cases hh
          · dsimp only
            rw [nohit v r hv]; rfl
        · rw [hg0 v (by omega), accC_no (fun x _ => nohit v x hv)]; rfl
        · exact absurd (hg0 v (by omega)) hne
      · -- the firsts may have it
        have hall : allF T s u = true := by
          have bits : ∀ x, x < 8 → fiR s u x = true → T.ha x = true := by
            intro x hx hf1
            have := congrArg (fun y => tb y x) z2
            simp only [tb_and, tb_zero] at this
            rw [tb_not _ (by omega), hF1 x hx, hf1, ct.hands x hx] at this
            cases q : T.ha x
            · rw [q] at this; simp at this
            · rfl
          unfold allF
          rw [hm, Int.toNat_natCast, Bool.and_eq_true]
          refine ⟨bits m (by omega) (by unfold fiR; rw [hm]; simp), ?_⟩
          rw [Bool.or_eq_true, decide_eq_true_eq]
          rcases pr with p1 | p1
          · left; omega
          · obtain ⟨p, hp⟩ := Int.eq_ofNat_of_zero_le p1.1
            right
            rw [hp, Int.toNat_natCast]
            exact bits p (by omega) (by unfold fiR; rw [hp]; simp)
        have B : WkB (w0 4) (w0 7) (w0 13) (w0 113) (w0 114) (w0 115) (w0 116) (w0 117) (w0 119) u W (fiR s u) (w 113 2) T := by
          rw [f4, f7, f13, f93, f94, f95, f96, f97, f99]
          refine (WkB.mk (ct) (by omega) (hW) (ho2) ?_ (by rw [rv.wants]; exact h3) (by rw [ho8]; exact hF1) (hroom) (fun v hv => ?_) (hwan))
          · rw [ho 7 (by decide) (by decide)]; rfl
          · rw [hwho v hv]
            have := hs.wwho v (by omega)
            omega
        -- one first, from its own row on
        have one : ∀ (p : Nat) (w1 : Wd) (Q' : MV → Wd → Prop), p < T.P → Fr cC8t w0 w1 → (∀ v, v < W → 0 ≤ w1 120 v ∧ w1 120 v ≤ 40000) → (∀ w', Fr cC8t w0 w' → AccW u W (hitS T s u) T (w 113 2) (ext T (fiR s u) (T.n - 1) [p]) (w1 118) (w1 120) (w1 121) (w' 118) (w' 120) (w' 121) → Q' none w') → Cw (d + 10 + 2) 64 [mR 113, mI 0] (ub (ub (ub (ub (ub w1 122 0 (p : Int)) 123 0 (ishl 1 (p : Int))) 124 0 0) 125 0 0) 126 0 0) Q' := by
          intro p w1 Q' hp hF4 hc4 kk
          have p7 : 2 ^ p ≤ 128 := Nat.pow_le_pow_right (n := 2) (by omega) (show p ≤ 7 by omega)
          refine L_on12_113 B p _ d Q' (Fr.tr hF4 (st5t w1 0 _ _ _ _ _) (fun _ x => x)) ?_ hp hc4 ?_
          · refine ⟨⟨rfl, by omega, ?_, ?_, rfl, rfl, rfl⟩, trivial⟩
            · show 0 ≤ ishl 1 (p : Int) ∧ ishl 1 (p : Int) < 256
              rw [ishl1 (by omega)]
              have := Nat.two_pow_pos p
              omega
            · intro x hx
              show tb (ishl 1 (p : Int)) x = [p].contains x
              rw [tb_bit (by omega) (by omega), Int.toNat_natCast]
              by_cases y : x = p
              · rw [y]; simp
              · simp [y]
          · intro w' a1 a2
            refine kk w' a1 ?_
            have : ∀ v r, v < W → hitC (w0 119) (fun v => w0 13 (4 * v)) T v r = hitS T s u v r := hit
            refine ⟨fun v k' hv hk => ?_, a2.2.1, fun v hv => ?_, fun v hv => ?_⟩
            · have e : (fun r => hitS T s u v r && (min (tmW T.n (w 113 2) r) 2 == k')) = (fun r => hitC (w0 119) (fun v => w0 13 (4 * v)) T v r && (min (tmW T.n (w 113 2) r) 2 == k')) := by funext r; rw [this v r hv]
              rw [e]; exact a2.1 v k' hv hk
            · have e : hitS T s u v = hitC (w0 119) (fun v => w0 13 (4 * v)) T v := by funext r; rw [this v r hv]
              rw [e]; exact a2.2.2.1 v hv
            · have e : hitS T s u v = hitC (w0 119) (fun v => w0 13 (4 * v)) T v := by funext r; rw [this v r hv]
              rw [e]; exact a2.2.2.2 v hv
        -- the end
        have fin : ∀ (w' : Wd) (Bs : List (List Nat)), Fr cC8t w0 w' → ((s (32 + 5 * u) = -1 ∧ Bs = []) ∨ ∃ p : Nat, s (32 + 5 * u) = p ∧ p < T.P ∧ p ≠ m ∧ Bs = ext T (fiR s u) (T.n - 1) [p]) → AccW u W (hitS T s u) T (w 113 2) (ext T (fiR s u) (T.n - 1) [m] ++ Bs) (w0 118) (w0 120) (w0 121) (w' 118) (w' 120) (w' 121) → Q none w' := by
          intro w' Bs a1 a2 a3
          have j := walk_join (wt := w 113 2) (W := W) P8 ct.n2 ct.n6 ct.hr9 ct.pn9 ct.ak9 m hm hmP Bs a2 hall (f98 := w0 118) (f100 := w0 120) (f101 := w0 121) (by rw [f98]; exact hf) (fun v hv => by rw [f100]; exact hg0 v (by omega)) a3
          refine k w' (Fr.tr hfr a1 cC8_9t) ?_ (fun i hi => by rw [a3.2.1 i hi, f98]; exact hof i hi) j (fun v hv => by rw [a1 119 (by decide), f99]; exact hg v hv)
          rw [a1 113 (by decide), f93]; exact h93
        have lenb : ∀ p, (ext T (fiR s u) (T.n - 1) [p]).length ≤ 32768 := fun p => by
          have a := ext_len T P8 (fiR s u) (T.n - 1) [p]
          have p8 := Nat.pow_le_pow_right (n := 8) (by omega) (show T.n - 1 ≤ 5 by have := ct.n6; omega)
          rw [show (8 : Nat) ^ 5 = 32768 from rfl] at p8
          omega
        apply Ways_walkUnit_113_c57
        rw [ix5_1 (by omega), Int.toNat_natCast, f11, e111, w32_id (x := 1 + 1) (by unfold in32; omega), show ((1 : Int) + 1) = 2 from rfl]
        (repeat' (apply spl <;> intro))
        · exfalso; omega
        · (refine And.intro (by omega) ?_)
          (repeat' (apply spl <;> intro))
          · exfalso; omega
          · refine one m w0 _ hmP (Fr.rfl' _ _) (fun v hv => by rw [f100, hg0 v (by omega)]; omega) ?_
            intro w2 a1 a2
            have g11 : w2 11 = w 11 := by rw [a1 11 (by decide), f11]
            apply Ways_walkUnit_113_c57
            rw [ix5_2 (by omega), Int.toNat_natCast, g11, e112, w32_id (x := 2 + 1) (by unfold in32; omega), show ((2 : Int) + 1) = 3 from rfl]
            have last : ∀ w3, Q none w3 → Wp (Cw (d + 10 + 2)) cd_Ways_walkUnit (0, 0, n1) Q 57 [mR 113, mI u, mI 3, none] [] w3 := by
              intro w3 hq
              apply Ways_walkUnit_113_c57
              refine ⟨fun _ => hq, fun y => ?_⟩
              exfalso; omega
            (repeat' (apply spl <;> intro))
            · exfalso; omega
            · (refine And.intro (by omega) ?_)
              (repeat' (apply spl <;> intro))
              · rename_i y
                refine last _ (fin w2 [] a1 (Or.inl ⟨y, rfl⟩) ?_)
                rw [List.append_nil]; exact a2
              · rename_i y
                obtain ⟨p, hp⟩ := Int.eq_ofNat_of_zero_le (show 0 ≤ s (32 + 5 * u) by omega)
                rw [hp]
                refine one p w2 _ (by omega) a1 (fun v hv => ?_) ?_
                · have b1 := a2.2.2.1 v hv
                  rw [f100, hg0 v (by omega)] at b1
                  have b2 := accC_le (hitS T s u v) (ext T (fiR s u) (T.n - 1) [m])
                  have b3 := lenb m
                  omega
                · intro w3 c1 c2
                  refine last _ (fin w3 _ c1 (Or.inr ⟨p, hp, by omega, by omega, rfl⟩) (a2.app c2))
      · -- a first may not
        have hall : allF T s u = false := by
          cases q : allF T s u
          · rfl
          · exfalso
            apply z2
            refine tb_ext (iand_in _ _) (by unfold in32; omega) ?_
            intro x hx
            rw [tb_and, tb_zero, tb_not _ hx]
            by_cases x8 : x < 8
            · rw [hF1 x x8, ct.hands x x8]
              unfold allF at q
              rw [hm, Int.toNat_natCast, Bool.and_eq_true] at q
              cases q1 : fiR s u x
              · rfl
              · unfold fiR at q1
                rw [hm, Bool.or_eq_true, decide_eq_true_eq, decide_eq_true_eq] at q1
                rcases q1 with q1 | q1
                · have : m = x := by omega
                  rw [← this, q.1]; rfl
                · have q2 := q.2
                  rw [q1, Int.toNat_natCast, Bool.or_eq_true, decide_eq_true_eq] at q2
                  rcases q2 with q2 | q2
                  · omega
                  · rw [q2]; rfl
            · rw [hF2 x (by omega)]; rfl
        have hro : rowsO T s u = [] := by unfold rowsO; rw [hall]; rfl
        refine k w0 hfr (by rw [f93]; exact h93) (by rw [f98]; exact hof) ?_ (by rw [f99]; exact hg)
        rw [f98, f100, WalkU, hro]
        refine ⟨fun v k' hv hk => ?_, fun v hv => ?_, fun v hv hne => ?_⟩
        · rw [hf v k' hv hk]; exact leastK_nil _ _
        · rw [hg0 v (by omega)]; rfl
        · exact absurd (hg0 v (by omega)) hne
    -- the keys
    have l19 : ∀ (m i : Nat) (f : Nat → Int), i + m = 24 * u + 24 → 24 * u ≤ i → (∀ x, 24 * u ≤ x → x < i → f x = NOW) → (∀ x, x < 24 * u ∨ 24 * u + 24 ≤ x → f x = w 118 x) → Wp (Cw (d + 10 + 2)) cd_Ways_walkUnit (0, 0, n1) Q 19 [mR 113, mI u, mI i, none] [] (ubf (ubf (ub (ub w 113 7 u) 113 8 FB) 120 g0) 118 f) := by
      intro m
      induction m with
      | zero =>
        intro i f hi h24 hf ho
        have : i = 24 * u + 24 := by omega
        subst this
        apply Ways_walkUnit_113_c19
        rw [ixs (k := u) (by omega), w32_id (x := ((u + 1 : Nat) : Int) * 8) (by unfold in32; omega), w32_id (x := ((u + 1 : Nat) : Int) * 8 * 3) (by unfold in32; omega)]
        refine ⟨fun _ => behind f (fun v k' hv hk => hf _ (by omega) (by omega)) ho, fun z => ?_⟩
        exfalso; omega
      | succ m ih =>
        intro i f hi h24 hf ho
        apply Ways_walkUnit_113_c19
        rw [ixs (k := u) (by omega), w32_id (x := ((u + 1 : Nat) : Int) * 8) (by unfold in32; omega), w32_id (x := ((u + 1 : Nat) : Int) * 8 * 3) (by unfold in32; omega), ixs (k := i) (by omega), Int.toNat_natCast, ub_on]
        refine ⟨fun z => by exfalso; omega, fun _ => ⟨fun z => by exfalso; omega, fun _ => ⟨by omega, ?_⟩⟩⟩
        refine ih (i + 1) _ (by omega) (by omega) (fun x x1 x2 => ?_) (fun x hx => ?_)
        · rw [up1_ap]
          by_cases y : x = i
          · rw [if_pos y]; rfl
          · rw [if_neg y]; exact hf x x1 (by omega)
        · rw [up1_ap, if_neg (by omega)]; exact ho x hx
    rw [w32_id (x := (u : Int) * 8) (by unfold in32; omega), w32_id (x := (u : Int) * 8 * 3) (by unfold in32; omega), show (u : Int) * 8 * 3 = ((24 * u : Nat) : Int) by omega]
    have e := l19 24 (24 * u) (w 118) (by omega) (Nat.le_refl _) (fun x x1 x2 => by omega) (fun _ _ => rfl)
    have ew : ubf (ubf (ub (ub w 113 7 u) 113 8 FB) 120 g0) 118 (w 118) = ubf (ub (ub w 113 7 u) 113 8 FB) 120 g0 := ubf_sf0 (ubf (ub (ub w 113 7 u) 113 8 FB) 120 g0) 118
    rw [ew] at e
    exact e
  apply Ways_walkUnit_113_en (d := d + 10)
  intro n1
  rw [ix5_1 (by omega), ix5_2 (by omega), Int.toNat_natCast, Int.toNat_natCast, e111, e112]
  have p7 : 2 ^ m ≤ 128 := Nat.pow_le_pow_right (n := 2) (by omega) (show m ≤ 7 by omega)
  have p0 := Nat.two_pow_pos m
  (refine And.intro (by omega) ?_); (refine And.intro (by omega) ?_)
  (repeat' (apply spl <;> intro))
  · rename_i z
    obtain ⟨p, hp⟩ := Int.eq_ofNat_of_zero_le (show 0 ≤ s (32 + 5 * u) by omega)
    have p72 : 2 ^ p ≤ 128 := Nat.pow_le_pow_right (n := 2) (by omega) (show p ≤ 7 by omega)
    have o8 : 2 ^ m ||| 2 ^ p < 256 := Nat.or_lt_two_pow (n := 8) (by omega) (by omega)
    have eb : ior (ishl 1 (m : Int)) (ishl 1 (s (32 + 5 * u))) = ((2 ^ m ||| 2 ^ p : Nat) : Int) := by
      rw [hp, ishl1 (by omega), ishl1 (by omega), ior_nat (by omega) (by omega)]
    refine main _ n1 (fun x hx => ?_) (fun x hx => ?_) (by rw [eb]; unfold in32; omega)
    · rw [eb, tb_nat _ _ (by omega), tbit_or_pow, Nat.testBit_two_pow]
      unfold fiR
      rw [hm, hp]
      congr 1
      · by_cases y : m = x
        · subst y; simp
        · rw [decide_eq_false y, decide_eq_false (by omega)]
      · by_cases y : p = x
        · subst y; simp
        · rw [decide_eq_false y, decide_eq_false (by omega)]
    · rw [eb, tb_nat _ _ (by omega)]
      exact Nat.testBit_lt_two_pow (Nat.lt_of_lt_of_le o8 (by have := Nat.pow_le_pow_right (n := 2) (by omega) hx; omega))
  · rename_i z
    have eb : ior (ishl 1 (m : Int)) 0 = ((2 ^ m : Nat) : Int) := by
      rw [ishl1 (by omega), show (0 : Int) = ((0 : Nat) : Int) from rfl, ior_nat (by omega) (by omega), Nat.or_zero]
    refine main _ n1 (fun x hx => ?_) (fun x hx => ?_) (by rw [eb]; unfold in32; omega)
    · rw [eb, tb_nat _ _ (by omega), Nat.testBit_two_pow]
      unfold fiR
      rw [hm]
      by_cases y : m = x
      · subst y; simp
      · rw [decide_eq_false y, decide_eq_false (by omega), decide_eq_false (by omega)]; rfl
    · rw [eb, tb_nat _ _ (by omega)]
      exact Nat.testBit_lt_two_pow (Nat.lt_of_lt_of_le (show 2 ^ m < 256 by omega) (by have := Nat.pow_le_pow_right (n := 2) (by omega) hx; omega))
theorem S_walkAll_113 {d : Nat} {Q : MV → Wd → Prop} {w : Wd} {s nms : Nat → Int} {T : Tm} (rv : RV (w 4) (w 5) (w 6) (w 7) (w 8) (w 9) (w 10) (w 11) (w 12) (w 13) (w 14) (w 15) s nms) (hs : WS s) (ct : CtT (w 4) (w 7) (w 114) (w 115) (w 116) (w 117) (w 113 2) T) (U W : Nat) (h2 : s 2 = U) (h3 : s 3 = W)
    (k : ∀ w', Fr cC9t w w' → (∀ i, i ≠ 7 → i ≠ 8 → i ≠ 9 → i ≠ 10 → w' 113 i = w 113 i) → (∀ u, u < U → w 12 u = u → ∀ v k, v < W → k < 3 → LeastK (rowsO T s u) (fun r => hitS T s u v r && (min (tmW T.n (w 113 2) r) 2 == k)) (keyL T) (w' 118 ((8 * u + v) * 3 + k))) → Q none w') : Cw (d + 14) 58 [mR 113] w Q := by
  have hU : U ≤ 16 := by have := hs.un; omega
  have hW : W ≤ 8 := by have := hs.wa; omega
  apply Ways_walkAll_113_en
  intro n1
  have lp : ∀ (m u : Nat) (w1 : Wd), u + m = U → Fr cC9t w w1 → (∀ i, i ≠ 7 → i ≠ 8 → i ≠ 9 → i ≠ 10 → w1 113 i = w 113 i) → (∀ x, x < u → w 12 x = x → ∀ v k, v < W → k < 3 → LeastK (rowsO T s x) (fun r => hitS T s x v r && (min (tmW T.n (w 113 2) r) 2 == k)) (keyL T) (w1 118 ((8 * x + v) * 3 + k))) → Wp (Cw (d + 13)) cd_Ways_walkAll (0, 0, n1) Q 2 [mR 113, mI u] [] w1 := by
    intro m
    induction m with
    | zero =>
      intro u w1 hu hF h93 hk
      have : u = U := by omega
      subst this
      have e4 : w1 4 8 = u := by rw [hF 4 (by decide), rv.units]; exact h2
      apply Ways_walkAll_113_c2
      (repeat' (apply spl <;> intro))
      · exact k w1 hF h93 hk
      all_goals (exfalso; omega)
    | succ m ih =>
      intro u w1 hu hF h93 hk
      have e4 : w1 4 8 = U := by rw [hF 4 (by decide), rv.units]; exact h2
      have e12 : w1 12 u = w 12 u := by rw [hF 12 (by decide)]
      apply Ways_walkAll_113_c2
      rw [e4, Int.toNat_natCast, e12, ixs (k := u) (by omega)]
      (repeat' (apply spl <;> intro))
      · exfalso; omega
      · (refine And.intro (by omega) ?_)
        (repeat' (apply spl <;> intro))
        · rename_i z
          refine ih (u + 1) w1 (by omega) hF h93 (fun x hx hl => ?_)
          by_cases y : x = u
          · rw [y] at hl; exact absurd hl z
          · exact hk x (by omega) hl
        · rename_i z
          have f4 := hF 4 (by decide)
          have f5 := hF 5 (by decide)
          have f6 := hF 6 (by decide)
          have f7 := hF 7 (by decide)
          have f8 := hF 8 (by decide)
          have f9 := hF 9 (by decide)
          have f10 := hF 10 (by decide)
          have f11 := hF 11 (by decide)
          have f12 := hF 12 (by decide)
          have f13 := hF 13 (by decide)
          have f14 := hF 14 (by decide)
          have f15 := hF 15 (by decide)
          have f94 := hF 114 (by decide)
          have f95 := hF 115 (by decide)
          have f96 := hF 116 (by decide)
          have f97 := hF 117 (by decide)
          have f2 := h93 2 (by decide) (by decide) (by decide) (by decide)
          refine S_walkUnit_113 (w := w1) (s := s) (nms := nms) (T := T) (by rw [f4, f5, f6, f7, f8, f9, f10, f11, f12, f13, f14, f15]; exact rv) hs (by rw [f4, f7, f94, f95, f96, f97, f2]; exact ct) U W u h2 h3 (by omega) ?_
          intro w2 hF2 g93 g98 hw _
          rw [f2] at hw
          refine ih (u + 1) w2 (by omega) (Fr.tr hF hF2 (fun _ x => x)) (fun i i1 i2 i3 i4 => by rw [g93 i i1 i2 i3 i4, h93 i i1 i2 i3 i4]) (fun x hx hl v k' hv hk' => ?_)
          by_cases y : x = u
          · rw [y]; exact hw.1 v k' hv hk'
          · rw [g98 _ (by omega)]
            exact hk x (by omega) hl v k' hv hk'
  exact lp U 0 w (by omega) (Fr.rfl' _ _) (fun _ _ _ _ _ => rfl) (fun x hx => by omega)
theorem S_takenAsking_112 {d : Nat} {Q : MV → Wd → Prop} {w : Wd} (row ask : Nat) (hr : row < 128) (ha : ask ≤ 20) (hb : ∀ k, k < 3 → w 118 (row * 3 + k) = NOW ∨ (0 ≤ w 118 (row * 3 + k) ∧ w 118 (row * 3 + k) < 1152921504606846976))
    (k : Q (mL (min (min (addK (w 118 (row * 3)) 0) (addK (w 118 (row * 3 + 1)) ask)) (addK (w 118 (row * 3 + 2)) (ask * 2)))) w) : Cw (d + 2) 70 [mR 112, mI row, mI ask] w Q := by
  apply Meeting_takenAsking_112_en
  intro n1
  -- one round
  have rd1 : ∀ (x : Int) (t : Nat), t < 3 → x ≤ NOW → Wp (Cw (d + 1)) cd_Meeting_takenAsking (3, 0, n1) Q 4 [mR 112, mI row, mI ask, mL (min x (addK (w 118 (row * 3 + t)) (ask * t))), none, mI (t + 1 : Nat)] [] w → Wp (Cw (d + 1)) cd_Meeting_takenAsking (3, 0, n1) Q 4 [mR 112, mI row, mI ask, mL x, none, mI t] [] w := by
    intro x t ht hx h
    have hbt := hb t ht
    have hm : ask * t ≤ 20 * 2 := Nat.mul_le_mul ha (by omega)
    apply Meeting_takenAsking_112_c4
    rw [ix3k hr ht, Int.toNat_natCast, ixs (k := t) (by omega), show (ask : Int) * (t : Int) = ((ask * t : Nat) : Int) from (Int.natCast_mul ask t).symm, w32n (n := ask * t) (by omega)]
    unfold addK at h
    (repeat' (apply spl <;> intro))
    · exfalso; omega
    · (refine And.intro (by omega) ?_)
      have g1 : lshl ((ask * t : Nat) : Int) 24 = (ask * t * 16777216 : Nat) := by
        have := lshl_nat (a := ask * t) (n := 24) (by omega) (by rw [show 2 ^ 24 = 16777216 from rfl]; omega)
        rw [show 2 ^ 24 = 16777216 from rfl] at this
        exact this
      rw [g1]
      generalize ask * t = at' at *
      (repeat' (apply spl <;> intro))
      · rename_i z
        have z : ¬ w 118 (row * 3 + t) = NOW := fun y => z (cmp3_zero.mpr y)
        rw [if_neg z] at h
        rw [w64_id (by unfold in64; omega)]
        have e : ((at' * 16777216 : Nat) : Int) = (at' : Int) * 16777216 := by omega
        rw [e]; exact h
      · rename_i z
        have z : w 118 (row * 3 + t) = NOW := cmp3_zero.mp (Decidable.not_not.mp z)
        rw [if_pos z] at h
        exact h
  have adk : ∀ m a, (m = NOW ∨ (0 ≤ m ∧ m < 1152921504606846976)) → a ≤ 40 → addK m a ≤ NOW := by
    intro m a h1 h2
    unfold addK NOW
    split
    · omega
    · rename_i z
      unfold NOW at h1
      omega
  refine rd1 9223372036854775807 0 (by omega) (by unfold NOW; omega) ?_
  refine rd1 _ 1 (by omega) (by have := adk _ (ask * 0) (hb 0 (by omega)) (by omega); omega) ?_
  refine rd1 _ 2 (by omega) (by have := adk _ (ask * 0) (hb 0 (by omega)) (by omega); omega) ?_
  apply Meeting_takenAsking_112_c4
  have a0 := adk _ 0 (hb 0 (by omega)) (by omega)
  refine ⟨fun _ => ?_, fun z => by exfalso; omega⟩
  rw [Nat.mul_zero, Nat.mul_one, Nat.add_zero, Int.min_eq_right (show addK (w 118 (row * 3)) 0 ≤ 9223372036854775807 from a0)]
  exact k
theorem ch2t (w : Wd) (a b : Nat → Int) (i j : Nat) (x y : Int) : ub (ub (ubf (ubf w 127 a) 128 b) 127 i x) 128 j y = ubf (ubf w 127 (up1 a i x)) 128 (up1 b j y) := by
  funext c' t
  simp only [ub_ap, ubf_ap, up1_ap]
  by_cases z1 : c' = 128
  · simp [z1]
  · by_cases z2 : c' = 127 <;> simp [z1, z2]
theorem S_choose_112 {d : Nat} {Q : MV → Wd → Prop} {w : Wd} {s nms : Nat → Int} {T : Tm} {wt : Int} (rv : RV (w 4) (w 5) (w 6) (w 7) (w 8) (w 9) (w 10) (w 11) (w 12) (w 13) (w 14) (w 15) s nms) (hs : WS s) (P8 : T.P ≤ 8) (n2 : 2 ≤ T.n) (n6 : T.n ≤ 6) (hr9 : ∀ p q, T.hr p q ≤ 9) (pn9 : ∀ p q, T.pn p q ≤ 99) (ak9 : ∀ q, T.ak q ≤ 99) (hg : ∀ p, T.gv p p = false) (U W : Nat) (h2 : s 2 = U) (h3 : s 3 = W) (ask : Nat) (ha : ask ≤ 20)
    (hk : ∀ u, u < U → w 12 u = u → ∀ v k, v < W → k < 3 → LeastK (rowsO T s u) (fun r => hitS T s u v r && (min (tmW T.n wt r) 2 == k)) (keyL T) (w 118 ((8 * u + v) * 3 + k)))
    (k : ∀ (g107 g108 : Nat → Int) (D : Nat → Nat), ChoD T wt ask s U W g107 g108 D → Q none (ubf (ubf w 127 g107) 128 g108)) : Cw (d + 3) 69 [mR 112, mI ask] w Q := by
  have hU : U ≤ 16 := by have := hs.un; omega
  have hW : W ≤ 8 := by have := hs.wa; omega
  apply Meeting_choose_112_en
  intro n1
  refine S_fillI 128 8 0 rfl rfl (by omega) (by decide) ?_
  intro g0 hg0 _
  have U16 : 2 ^ U ≤ 65536 := Nat.pow_le_pow_right (n := 2) (by omega) hU
  have l6 : ∀ (m u : Nat) (a b : Nat → Int) (D : Nat → Nat), u + m = U → (∀ x v, x < u → v < W → LeastK (rowsO T s x) (hitS T s x v) (keyW T wt ask) (a (8 * x + v))) → (∀ v, v < W → b v = D v) → (∀ v, D v < 2 ^ u) → (∀ x v, x < u → v < W → ((D v).testBit x = true ↔ a (8 * x + v) ≠ NOW)) → Wp (Cw (d + 2)) cd_Meeting_choose (0, 0, n1) Q 6 [mR 112, mI ask, mI u, none, none, none] [] (ubf (ubf w 127 a) 128 b) := by
    intro m
    induction m with
    | zero =>
      intro u a b D hu h1 h2' h3' h4
      have : u = U := by omega
      subst this
      have e4 : (ubf (ubf w 127 a) 128 b) 4 8 = u := by show w 4 8 = u; rw [rv.units]; exact h2
      apply Meeting_choose_112_c6
      (repeat' (apply spl <;> intro))
      · exact k a b D (ChoD.mk (h1) (h2') (h3') (h4))
      · exfalso; omega
    | succ m ih =>
      intro u a b D hu h1 h2' h3' h4
      have e4 : (ubf (ubf w 127 a) 128 b) 4 8 = U := by show w 4 8 = U; rw [rv.units]; exact h2
      have ld := rv.lead u (by omega)
      obtain ⟨l, hl, hlu⟩ : ∃ l : Nat, w 12 u = l ∧ l ≤ u := by
        obtain ⟨l, hl⟩ := Int.eq_ofNat_of_zero_le ld.1
        exact ⟨l, hl, by have := ld.2.1; omega⟩
      rw [hl, Int.toNat_natCast] at ld
      have sm := hs.same l u hlu (by omega) ld.2.2.1
      have ldl := rv.lead l (by omega)
      have hll : w 12 l = l := by
        obtain ⟨l2, hl2⟩ := Int.eq_ofNat_of_zero_le ldl.1
        rw [hl2, Int.toNat_natCast] at ldl
        rw [hl2]
        by_cases y : l2 = l
        · rw [y]
        · exfalso
          have := ld.2.2.2 l2 (by have := ldl.2.1; omega)
          exact this (by rw [ldl.2.2.1, ld.2.2.1])
      have ro := rowsO_same (T := T) sm.2.1 sm.2.2.1
      have hi := fun v => hitS_same (T := T) sm.1 sm.2.2.2 v
      have p2u : 2 ^ (u + 1) = 2 ^ u + 2 ^ u := by rw [Nat.pow_succ]; omega
      have pu : 2 ^ u ≤ 32768 := Nat.pow_le_pow_right (n := 2) (by omega) (show u ≤ 15 by omega)
      have pu0 := Nat.two_pow_pos u
      have l13 : ∀ (m v : Nat) (a' b' : Nat → Int) (D' : Nat → Nat), v + m = W → (∀ x y, x < u → y < W → a' (8 * x + y) = a (8 * x + y)) → (∀ y, y < v → LeastK (rowsO T s u) (hitS T s u y) (keyW T wt ask) (a' (8 * u + y))) → (∀ y, y < W → b' y = D' y) → (∀ y, y < v → D' y < 2 ^ (u + 1)) → (∀ y, v ≤ y → D' y = D y) → (∀ x y, x < u → y < W → (D' y).testBit x = (D y).testBit x) → (∀ y, y < v → ((D' y).testBit u = true ↔ a' (8 * u + y) ≠ NOW)) → Wp (Cw (d + 2)) cd_Meeting_choose (0, 0, n1) Q 13 [mR 112, mI ask, mI u, mI v, none, none] [] (ubf (ubf w 127 a') 128 b') := by
        intro m2
        induction m2 with
        | zero =>
          intro v a' b' D' hv q1 q2 q3 q4 q5 q6 q7
          have : v = W := by omega
          subst this
          have e4' : (ubf (ubf w 127 a') 128 b') 4 11 = v := by show w 4 11 = v; rw [rv.wants]; exact h3
          apply Meeting_choose_112_c13
          rw [ixs (k := u) (by omega)]
          (repeat' (apply spl <;> intro))
          · refine ih (u + 1) a' b' D' (by omega) (fun x y hx hy => ?_) q3 (fun y => ?_) (fun x y hx hy => ?_)
            · by_cases z : x = u
              · rw [z]; exact q2 y hy
              · rw [q1 x y (by omega) hy]; exact h1 x y (by omega) hy
            · by_cases z : y < v
              · exact q4 y z
              · rw [q5 y (by omega)]; have := h3' y; omega
            · by_cases z : x = u
              · rw [z]; exact q7 y hy
              · rw [q6 x y (by omega) hy, q1 x y (by omega) hy]; exact h4 x y (by omega) hy
          · exfalso; omega
        | succ m2 ih2 =>
          intro v a' b' D' hv q1 q2 q3 q4 q5 q6 q7
          have e4' : (ubf (ubf w 127 a') 128 b') 4 11 = W := by show w 4 11 = W; rw [rv.wants]; exact h3
          have e12 : (ubf (ubf w 127 a') 128 b') 12 u = l := hl
          have keys := fun k' hk' => hk l (by omega) hll v k' (by omega) hk'
          have kb : ∀ r, r ∈ rowsO T s l → tmW T.n wt r ≤ 2 ∧ keyL T r < 1152921504606846976 := fun r hr => by
            obtain ⟨a1, a2, a3⟩ := rowsO_mem hr
            have := row_bd hr9 pn9 ak9 P8 n6 a1 a2
            refine ⟨tm_two hg n6 n2 wt a3 a1, ?_⟩
            unfold keyL; omega
          have kn : ∀ k', k' < 3 → w 118 ((8 * l + v) * 3 + k') = NOW ∨ (0 ≤ w 118 ((8 * l + v) * 3 + k') ∧ w 118 ((8 * l + v) * 3 + k') < 1152921504606846976) := fun k' hk' => by
            rcases (keys k' hk').2 with ⟨x, _⟩ | ⟨r, x, _, y⟩
            · exact Or.inl x
            · right
              rw [y]
              refine ⟨?_, (kb r x).2⟩
              unfold keyL; omega
          have lk := least_ask (T := T) (wt := wt) (ask := ask) (hit := hitS T s l v) kb ha (by have := keys 0 (by omega); rwa [Nat.add_zero] at this) (keys 1 (by omega)) (keys 2 (by omega))
          apply Meeting_choose_112_c13
          rw [e4', Int.toNat_natCast, e12, ix8a (by omega) (by omega), ix8a (by omega) (by omega), Int.toNat_natCast, Int.toNat_natCast, ixs (k := v) (by omega), ishl1 (by omega)]
          (repeat' (apply spl <;> intro))
          · exfalso; omega
          · (refine And.intro (by omega) ?_)
            refine S_takenAsking_112 (w := ubf (ubf w 127 a') 128 b') (8 * l + v) ask (by omega) ha (fun k' hk' => kn k' hk') ?_
            refine ⟨_, rfl, by omega, by omega, ?_⟩
            have lk2 : LeastK (rowsO T s u) (hitS T s u v) (keyW T wt ask) (min (min (addK ((ubf (ubf w 127 a') 128 b') 118 ((8 * l + v) * 3)) 0) (addK ((ubf (ubf w 127 a') 128 b') 118 ((8 * l + v) * 3 + 1)) ask)) (addK ((ubf (ubf w 127 a') 128 b') 118 ((8 * l + v) * 3 + 2)) (ask * 2))) := by
              rw [← ro, ← hi v]; exact lk
            generalize (min (min (addK ((ubf (ubf w 127 a') 128 b') 118 ((8 * l + v) * 3)) 0) (addK ((ubf (ubf w 127 a') 128 b') 118 ((8 * l + v) * 3 + 1)) ask)) (addK ((ubf (ubf w 127 a') 128 b') 118 ((8 * l + v) * 3 + 2)) (ask * 2))) = K at *
            have e108 : (ubf (ubf w 127 a') 128 b') 128 v = D v := by show b' v = _; rw [q3 v (by omega), q5 v (Nat.le_refl _)]
            have hDv := h3' v
            rw [e108]
            have go : ∀ X : Nat, X < 2 ^ (u + 1) → (∀ x, x < u → X.testBit x = (D v).testBit x) → (X.testBit u = true ↔ K ≠ NOW) → Wp (Cw (d + 2)) cd_Meeting_choose (0, 0, n1) Q 13 [mR 112, mI ask, mI u, mI (v + 1 : Nat), none, none] [] (ub (ub (ubf (ubf w 127 a') 128 b') 127 (8 * u + v) K) 128 v (X : Int)) := by
              intro X x1 x2 x3
              rw [ch2t]
              refine ih2 (v + 1) _ _ (fun y => if y = v then X else D' y) (by omega) (fun x y hx hy => ?_) (fun y hy => ?_) (fun y hy => ?_) (fun y hy => ?_) (fun y hy => ?_) (fun x y hx hy => ?_) (fun y hy => ?_)
              · rw [up1_ap, if_neg (by omega)]; exact q1 x y hx hy
              · rw [up1_ap]
                by_cases z : y = v
                · rw [if_pos (by omega), z]; exact lk2
                · rw [if_neg (by omega)]; exact q2 y (by omega)
              · rw [up1_ap]
                by_cases z : y = v
                · rw [if_pos z, if_pos z]
                · rw [if_neg z, if_neg z]; exact q3 y hy
              · by_cases z : y = v
                · rw [if_pos z]; exact x1
                · rw [if_neg z]; exact q4 y (by omega)
              · rw [if_neg (by omega)]; exact q5 y (by omega)
              · by_cases z : y = v
                · rw [if_pos z, z]; exact x2 x hx
                · rw [if_neg z]; exact q6 x y hx hy
              · rw [up1_ap]
                by_cases z : y = v
                · rw [if_pos z, if_pos (by omega)]; exact x3
                · rw [if_neg z, if_neg (by omega)]; exact q7 y (by omega)
            have du : (D v).testBit u = false := Nat.testBit_lt_two_pow (h3' v)
            (repeat' (apply spl <;> intro))
            · rename_i z
              have z : K ≠ NOW := fun y => z (cmp3_zero.mpr y)
              (refine And.intro (by omega) ?_)
              rw [ior_nat (by omega) (by omega)]
              refine go _ (Nat.or_lt_two_pow (by omega) (by omega)) (fun x hx => ?_) ⟨fun _ => z, fun _ => ?_⟩
              · rw [tbit_or_pow]
                have : decide (u = x) = false := by simp; omega
                rw [this, Bool.or_false]
              · rw [tbit_or_pow]; simp
            · rename_i z
              have z : K = NOW := cmp3_zero.mp (Decidable.not_not.mp z)
              (refine And.intro (by omega) ?_)
              rw [show (0 : Int) = ((0 : Nat) : Int) from rfl, ior_nat (by omega) (by omega), Nat.or_zero]
              refine go _ (by omega) (fun _ _ => rfl) ⟨fun y => ?_, fun y => absurd z y⟩
              rw [du] at y; cases y
      apply Meeting_choose_112_c6
      (repeat' (apply spl <;> intro))
      · exfalso; omega
      · exact l13 W 0 a b D (by omega) (fun _ _ _ _ => rfl) (fun y hy => by omega) h2' (fun y hy => by omega) (fun _ _ => rfl) (fun _ _ _ _ => rfl) (fun y hy => by omega)
  have ew : ubf w 128 g0 = ubf (ubf w 127 (w 127)) 128 g0 := by rw [show ubf w 127 (w 127) = w from ubf_sf0 w 127]
  rw [ew]
  exact l6 U 0 (w 127) g0 (fun _ => 0) (by omega) (fun x v hx => by omega) (fun v hv => by rw [hg0 v (by omega)]; rfl) (fun _ => by show 0 < 1; omega) (fun x v hx => by omega)
theorem S_reset_114 {d : Nat} {Q : MV → Wd → Prop} {w : Wd} (k : ∀ w', Fr [114, 115, 116, 117] w w' → w' 114 1 = w 4 15 → w' 114 2 = w 4 16 → w' 114 6 = -1 → w' 114 7 = -1 → (∀ i, i < 8 → w' 115 i = w 8 i) → (∀ i, i < 64 → w' 116 i = w 14 i) → (∀ i, i < 64 → w' 117 i = w 15 i) → Q none w') : Cw (d + 2) 56 [mR 114] w Q := by
  apply Terms_reset_114_en
  refine S_copyAll 8 115 8 rfl rfl rfl rfl (by decide) (by decide) ?_
  intro g1 a1 _
  refine S_copyAll 14 116 64 rfl rfl rfl rfl (by decide) (by decide) ?_
  intro g2 a2 _
  refine S_copyAll 15 117 64 rfl rfl rfl rfl (by decide) (by decide) ?_
  intro g3 a3 _
  refine k _ ?_ rfl rfl rfl rfl a1 a2 a3
  refine Fr.ub (Fr.ub (Fr.ubf (Fr.ubf (Fr.ubf (Fr.ub (Fr.ub (Fr.rfl' _ _) ?_) ?_) ?_) ?_) ?_) ?_) ?_ <;> decide
def cMt : List Nat := [112, 113, 118, 119, 120, 121, 122, 123, 124, 125, 126, 127, 128, 130, 131]
theorem cC9_Mt : ∀ c, c ∈ cC9t → c ∈ cMt := by decide
theorem S_weigh_112 {d : Nat} {Q : MV → Wd → Prop} {w : Wd} {s nms : Nat → Int} {T : Tm} (rv : RV (w 4) (w 5) (w 6) (w 7) (w 8) (w 9) (w 10) (w 11) (w 12) (w 13) (w 14) (w 15) s nms) (ws : WS s) (hb : TmB T) (wat : w 113 2 = -1) (ct : CtT (w 4) (w 7) (w 114) (w 115) (w 116) (w 117) (-1) T)
    (k : ∀ w', Fr cMt w w' → (∀ i, i ≠ 7 → i ≠ 8 → i ≠ 9 → i ≠ 10 → w' 113 i = w 113 i) → WghD T s (w' 112) (w' 127) (w' 128) → Q none w') : Cw (d + 15) 57 [mR 112] w Q := by
  have un := ws.un
  have wa := ws.wa
  apply Meeting_weigh_112_en
  refine S_walkAll_113 rv ws (T := T) (by rw [wat]; exact ct) (s 2).toNat (s 3).toNat (by omega) (by omega) ?_
  intro w1 hF1 h93 hk
  rw [wat] at hk
  have f : ∀ c, c ∉ cC9t → w1 c = w c := fun c hc => hF1 c hc
  have rv1 : RV (w1 4) (w1 5) (w1 6) (w1 7) (w1 8) (w1 9) (w1 10) (w1 11) (w1 12) (w1 13) (w1 14) (w1 15) s nms := by
    rw [f 4 (by decide), f 5 (by decide), f 6 (by decide), f 7 (by decide), f 8 (by decide), f 9 (by decide), f 10 (by decide), f 11 (by decide), f 12 (by decide), f 13 (by decide), f 14 (by decide), f 15 (by decide)]
    exact rv
  refine S_choose_112 (d := d + 11) rv1 ws hb.P8 hb.n2 hb.n6 hb.hr9 hb.pn9 hb.ak9 hb.gvi (s 2).toNat (s 3).toNat (by omega) (by omega) 0 (by omega) (wt := -1) (by rw [f 12 (by decide)]; exact hk) ?_
  intro g107 g108 D hD
  have hkey : ∀ u v : Nat, (u : Int) < s 2 → (v : Int) < s 3 → g107 (8 * u + v) = keyO T (wayO T s u v) := fun u v hu hv => ChoD_key hb hD hu hv
  have md := MtD_of hb ws rv1 hkey
  refine S_solve_112 (d := d + 9) (w := ubf (ubf w1 127 g107) 128 g108) md ?_
  intro t o a g ho ht hmax
  refine k _ ?_ ?_ ?_
  · refine Fr.ubf (Fr.ubf (Fr.ubf (Fr.ubf (Fr.ubf (Fr.tr (Fr.rfl' cMt w) hF1 cC9_Mt) ?_) ?_) ?_) ?_) ?_ <;> decide
  · exact h93
  · refine (WghD.mk (hkey) (⟨D, fun v hv => hD.doer v (by omega), hD.lt, fun u v hu hv => ?_⟩) ?_)
    · rw [hD.bit u v (by omega) (by omega), hkey u v hu hv]
      exact keyO_now hb
    · show IsMax _ _ _ _ (o 7)
      rw [ht]; exact hmax
theorem S_pains_113 {d : Nat} {Q : MV → Wd → Prop} {w : Wd} {T : Tm} (n2 : 2 ≤ T.n) (n6 : T.n ≤ 6) (P8 : T.P ≤ 8) (pn9 : ∀ p q, T.pn p q ≤ 99) (hn : w 114 1 = T.n) (hp : ∀ p q, p < T.P → q < T.P → T.gv p q = true → w 116 (8 * p + q) = T.pn p q) (r : List Nat) (hl : r.length = T.n) (h8 : ∀ x, x ∈ r → x < T.P) (hc : chN T r) (h1 : coL T r ≤ 5000) (h2 : hoL T r < 64) (h3 : pthL r < 262144) (k : Q (mI (paL T r : Nat)) w) : Cw (d + 2) 84 [mR 113, mL (keyL T r)] w Q := by
  apply Ways_pains_113_en
  intro n1
  rw [key_path h1 h2 h3]
  have h88 : ∀ x, x ∈ r → x < 8 := fun x hx => by have := h8 x hx; omega
  have lp : ∀ (m i : Nat), i + m = T.n → 1 ≤ i → Wp (Cw (d + 1)) cd_Ways_pains (1, 0, n1) Q 7 [mR 113, none, none, mI (pthL r : Nat), mI (paL T (r.drop (T.n - i)) : Nat), mI i] [] w := by
    intro m
    induction m with
    | zero =>
      intro i hi h1i
      have : i = T.n := by omega
      subst this
      apply Ways_pains_113_c7
      rw [hn, Nat.sub_self, List.drop_zero]
      (repeat' (apply spl <;> intro))
      · exact k
      · exfalso; omega
    | succ m ih =>
      intro i hi h1i
      have ih := ih (i + 1) (by omega) (by omega)
      have hlt : T.n - i - 1 < r.length := by omega
      have hlt2 : T.n - i < r.length := by omega
      have ed : r.drop (T.n - (i + 1)) = r[T.n - i - 1] :: r.drop (T.n - i) := by
        have := List.drop_eq_getElem_cons hlt
        rw [show T.n - (i + 1) = T.n - i - 1 by omega, this, show T.n - i - 1 + 1 = T.n - i by omega]
      have ed2 : r.drop (T.n - i) = r[T.n - i] :: r.drop (T.n - i + 1) := List.drop_eq_getElem_cons hlt2
      have hg := ch_at hc (T.n - i - 1) (by omega)
      have hg : T.gv (r[T.n - i]) (r[T.n - i - 1]) = true := by
        have e : ∀ (x y : Nat) (hx : x < r.length) (hy : y < r.length), x = y → r[x] = r[y] := fun x y hx hy e => by subst e; rfl
        rw [← e (T.n - i - 1 + 1) (T.n - i) (by omega) (by omega) (by omega)]
        exact hg
      have m1 := h8 _ (List.getElem_mem hlt)
      have m2 := h8 _ (List.getElem_mem hlt2)
      have hpp := hp _ _ m2 m1 hg
      have d1 := pth_dig r (T.n - i - 1) h88 hlt
      have d2 := pth_dig r (T.n - i) h88 hlt2
      have bp := paL_bd pn9 (r.drop (T.n - i))
      have lb : (r.drop (T.n - i)).length ≤ 6 := by rw [List.length_drop]; omega
      have p99 := pn9 (r[T.n - i]) (r[T.n - i - 1])
      have es : paL T (r.drop (T.n - (i + 1))) = paL T (r.drop (T.n - i)) + T.pn (r[T.n - i]) (r[T.n - i - 1]) := by
        rw [ed, ed2]; rfl
      rw [es] at ih
      apply Ways_pains_113_c7
      rw [hn, w32_id (x := (T.n : Int) - 1) (by unfold in32; omega), w32_id (x := (i : Int) - 1) (by unfold in32; omega), w32_id (x := (T.n : Int) - 1 - ((i : Int) - 1)) (by unfold in32; omega), w32_id (x := (T.n : Int) - 1 - (i : Int)) (by unfold in32; omega), show (T.n : Int) - 1 - ((i : Int) - 1) = ((T.n - i : Nat) : Int) by omega, show (T.n : Int) - 1 - (i : Int) = ((T.n - i - 1 : Nat) : Int) by omega, w32_id (x := 3 * ((T.n - i : Nat) : Int)) (by unfold in32; omega), w32_id (x := 3 * ((T.n - i - 1 : Nat) : Int)) (by unfold in32; omega), show 3 * ((T.n - i : Nat) : Int) = ((3 * (T.n - i) : Nat) : Int) by omega, show 3 * ((T.n - i - 1 : Nat) : Int) = ((3 * (T.n - i - 1) : Nat) : Int) by omega, hand_dig (by omega) (by omega), hand_dig (by omega) (by omega), d1, d2, ix8a (by omega) (by omega), Int.toNat_natCast, hpp, ixs (k := i) (by omega), w32_id (x := (paL T (r.drop (T.n - i)) : Int) + (T.pn (r[T.n - i]) (r[T.n - i - 1]) : Int)) (by unfold in32; omega)]
      (repeat' (apply spl <;> intro))
      · exfalso; omega
      · (refine And.intro (by omega) ?_)
        exact ih
  have e := lp (T.n - 1) 1 (by omega) (Nat.le_refl _)
  have e0 : paL T (r.drop (T.n - 1)) = 0 := by
    have hlt : T.n - 1 < r.length := by omega
    rw [List.drop_eq_getElem_cons hlt, show T.n - 1 + 1 = r.length by omega, List.drop_length]
    rfl
  rw [e0] at e
  exact e
theorem S_painsMet_112 {d : Nat} {Q : MV → Wd → Prop} {w : Wd} {T : Tm} (hb : TmB T) {s : Nat → Int} (ws : WS s) (h4 : w 4 11 = s 3) (hk : ∀ u v : Nat, (u : Int) < s 2 → (v : Int) < s 3 → w 127 (8 * u + v) = keyO T (wayO T s u v)) (hn : w 114 1 = T.n) (hp : ∀ p q, p < T.P → q < T.P → T.gv p q = true → w 116 (8 * p + q) = T.pn p q) {top : Int} (ht : w 112 7 = top) (h0 : 0 ≤ top) (hb8 : top < 9223372036854775808) {f : Nat → Nat} (hf : ∀ v, v < 8 → top / (32 ^ (7 - v)) % 32 = f v) (hv : valid (s 3).toNat (adjS T s) (s 2).toNat f)
    (k : Q (mI (sumZ 8 (painS (paS T s) f))) w) : Cw (d + 3) 94 [mR 112] w Q := by
  have wa := ws.wa
  have un := ws.un
  apply Meeting_painsMet_112_en
  intro n1
  have pb : ∀ v, 0 ≤ painS (paS T s) f v ∧ painS (paS T s) f v ≤ 500 := by
    intro v
    unfold painS
    by_cases z : f v = 0
    · rw [if_pos z]; omega
    · rw [if_neg z]
      obtain ⟨a, b, c, e⟩ := hv.1 v z
      obtain ⟨_, _, e⟩ := adjS_in e
      obtain ⟨r, hr⟩ := Option.isSome_iff_exists.mp e
      have ep : paS T s (16 - f v) v = paL T r := by unfold paS; rw [hr]; rfl
      obtain ⟨_, _, _, rl, _⟩ := wayO_bd hb hr
      have := paL_bd hb.pn9 r
      have := hb.n6
      omega
  have lp : ∀ (m v : Nat), v + m = (s 3).toNat → Wp (Cw (d + 2)) cd_Meeting_painsMet (1, 0, n1) Q 4 [mR 112, mI (sumZ v (painS (paS T s) f)), mI v, none] [] w := by
    intro m
    induction m with
    | zero =>
      intro v hv'
      have hv' : v = (s 3).toNat := by omega
      apply Meeting_painsMet_112_c4
      rw [h4]
      (repeat' (apply spl <;> intro))
      · have e := sumZ_trim (g := painS (paS T s) f) (W := v) (fun i hi => by
          unfold painS
          by_cases z : f i = 0
          · rw [if_pos z]
          · have := (hv.1 i z).1
            omega) (8 - v)
        rw [show v + (8 - v) = 8 by omega] at e
        rw [← e]; exact k
      all_goals (exfalso; omega)
    | succ m ih =>
      intro v hv'
      have ih := ih (v + 1) (by omega)
      have es : sumZ (v + 1) (painS (paS T s) f) = sumZ v (painS (paS T s) f) + painS (paS T s) f v := rfl
      have b1 : 0 ≤ sumZ v (painS (paS T s) f) := sumZ_nonneg (fun i _ => (pb i).1)
      have b2 := sumZ_le (g := painS (paS T s) f) 500 (n := v) (fun i _ => (pb i).2)
      have b3 := pb v
      have fv := valid_le hv v
      have ud := udig h0 hb8 (v := v) (x := f v) (by omega) (hf v (by omega))
      rw [es] at ih
      apply Meeting_painsMet_112_c4
      rw [h4, ht, ud, ixs (k := v) (by omega), w32_id (x := 16 - (f v : Int)) (by unfold in32; omega), w32_id (x := sumZ v (painS (paS T s) f) + 0) (by unfold in32; omega)]
      by_cases z : f v = 0
      · have p0 : painS (paS T s) f v = 0 := by unfold painS; rw [if_pos z]
        rw [p0] at ih
        (repeat' (apply spl <;> intro))
        · exfalso; omega
        · exfalso; omega
        · exfalso; omega
        · exact ih
      · obtain ⟨a, b, c, e⟩ := hv.1 v z
        obtain ⟨e1, e2, e⟩ := adjS_in e
        obtain ⟨r, hr⟩ := Option.isSome_iff_exists.mp e
        have ep : paS T s (16 - f v) v = paL T r := by unfold paS; rw [hr]; rfl
        have p0 : painS (paS T s) f v = (paL T r : Nat) := by unfold painS; rw [if_neg z, ep]
        obtain ⟨c1, c2, c3, rl, r8, rc, _⟩ := wayO_bd hb hr
        have kk := hk (16 - f v) v e1 e2
        rw [hr] at kk
        have kk : w 127 (8 * (16 - f v) + v) = keyL T r := kk
        rw [show (16 : Int) - (f v : Int) = ((16 - f v : Nat) : Int) by omega, ix8a (by omega) (by omega), Int.toNat_natCast, kk]
        (repeat' (apply spl <;> intro))
        · exfalso; omega
        · (refine And.intro (by omega) ?_)
          refine S_pains_113 (d := d) hb.n2 hb.n6 hb.P8 hb.pn9 hn hp r rl r8 rc c1 c2 c3 ?_
          refine ⟨_, rfl, ?_⟩
          rw [p0] at ih b3
          rw [w32_id (x := sumZ v (painS (paS T s) f) + (paL T r : Int)) (by unfold in32; omega)]
          exact ih
        · exfalso; omega
        · exfalso; omega
  have := lp (s 3).toNat 0 (by omega)
  exact this

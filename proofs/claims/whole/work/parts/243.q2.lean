theorem ub_on (w : Wd) (c : Nat) (g : Nat → Int) (i : Nat) (x : Int) : ub (ubf w c g) c i x = ubf w c (up1 g i x) := by
  funext c' j
  simp only [ub_ap, ubf_ap, up1_ap]
  by_cases q : c' = c <;> simp [q]
theorem ubf_on (w : Wd) (c : Nat) (g g' : Nat → Int) : ubf (ubf w c g) c g' = ubf w c g' := by
  funext c' j
  rw [ubf_ap, ubf_ap, ubf_ap]
  by_cases q : c' = c
  · rw [if_pos q, if_pos q]
  · rw [if_neg q, if_neg q, if_neg q]
theorem ub_is (w : Wd) (c i : Nat) (x : Int) : ub w c i x = ubf w c (up1 (w c) i x) := rfl
theorem pw8 {v : Nat} (h : v ≤ 8) : 2 ^ v ≤ 256 := Nat.pow_le_pow_right (n := 2) (by omega) h
theorem S_lookAround_92 {d : Nat} {Q : MV → Wd → Prop} {w : Wd} (W : Nat) (hW : W ≤ 8) (h4 : w 4 11 = W) (D : Nat → Nat) (hD : ∀ v, v < W → w 108 v = D v) (hlt : ∀ v, D v < 65536) (k : ∀ g : Nat → Int, (∀ S, S < 2 ^ W → g S = arn D W S) → Q none (ubf w 109 g)) : Cw (d + 1) 88 [mR 92] w Q := by
  apply Meeting_lookAround_92_en
  intro n1
  have outer : ∀ (r v : Nat) (g : Nat → Int), v + r = W → (∀ S, S < 2 ^ v → g S = arn D W S) → Wp (Cw (d + 0)) cd_Meeting_lookAround (0, 0, n1) Q 7 [mR 92, mI v, none] [] (ubf w 109 g) := by
    intro r
    induction r with
    | zero =>
      intro v g hv hg
      have : v = W := by omega
      subst this
      apply Meeting_lookAround_92_c7
      (repeat' (apply spl <;> intro))
      · exact k g hg
      · exfalso
        rename_i q
        apply q
        show w 4 11 ≤ (v : Int)
        omega
    | succ r ih =>
      intro v g hv hg
      apply Meeting_lookAround_92_c7
      have p0 := Nat.two_pow_pos v
      have p1 : 2 ^ v ≤ 128 := Nat.pow_le_pow_right (n := 2) (by omega) (show v ≤ 7 by omega)
      have e2 : 2 ^ (v + 1) = 2 ^ v + 2 ^ v := by rw [Nat.pow_succ]; omega
      have inner : ∀ (m S : Nat) (g : Nat → Int), S + m = 2 ^ v → (∀ T, T < 2 ^ v + S → g T = arn D W T) → Wp (Cw (d + 0)) cd_Meeting_lookAround (0, 0, n1) Q 14 [mR 92, mI v, mI S] [] (ubf w 109 g) := by
        intro m
        induction m with
        | zero =>
          intro S g hS hg
          apply Meeting_lookAround_92_c14
          rw [ishl1 (by omega), w32_id (x := (v : Int) + 1) (by unfold in32; omega)]
          (repeat' (apply spl <;> intro))
          · exact ih (v + 1) g (by omega) (fun T hT => hg T (by omega))
          · exfalso; omega
        | succ m ihm =>
          intro S g hS hg
          have hS2 : S < 2 ^ v := by omega
          have e3 := or_pow hS2
          have e4 : S ||| 2 ^ v < 256 := by omega
          have a1 := arn_lt (k := 16) hlt S W
          have a2 := hlt v
          have e5 : w 108 v = D v := hD v (by omega)
          have e6 : g S = arn D W S := hg S (by omega)
          have e7 : (ubf w 109 g) 109 S = arn D W S := e6
          have e8 : (ubf w 109 g) 108 v = D v := e5
          apply Meeting_lookAround_92_c14
          rw [ishl1 (by omega), w32_id (x := (S : Int) + 1) (by unfold in32; omega), ior_nat (by omega) (by omega), Int.toNat_natCast, Int.toNat_natCast, Int.toNat_natCast, e7, e8, ior_nat (by omega) (by omega), ub_on]
          (repeat' (apply spl <;> intro))
          · exfalso; omega
          · (refine And.intro (by omega) ?_); (refine And.intro (by omega) ?_); (refine And.intro (by omega) ?_)
            refine ihm (S + 1) _ (by omega) ?_
            intro T hT
            rw [up1_ap]
            by_cases q : T = S ||| 2 ^ v
            · rw [if_pos q, q, arn_or (by omega)]
            · rw [if_neg q]; exact hg T (by omega)
      (repeat' (apply spl <;> intro))
      · exfalso
        rename_i q
        have q : w 4 11 ≤ (v : Int) := q
        omega
      · exact inner (2 ^ v) 0 g (by omega) (fun T hT => hg T (by omega))
  refine Eq.mp ?_ (outer W 0 (up1 (w 109) 0 0) (by omega) (fun S hS => by
    have : S = 0 := by rw [Nat.pow_zero] at hS; omega
    subst this
    rw [arn_zero]; rfl))
  rfl
theorem S_matched_92 {d : Nat} {Q : MV → Wd → Prop} {w : Wd} (W : Nat) (hW : W ≤ 8) (h4 : w 4 11 = W) (D : Nat → Nat) (hD : ∀ v, v < W → w 108 v = D v) (U : Nat) (hU : U ≤ 16) (hlt : ∀ v, D v < 2 ^ U)
    (k : ∀ (v : Nat) (g : Nat → Int), v ≤ W → IsMost W (fun u w => (D w).testBit u) U v → Q (mI v) (ubf w 109 g)) : Cw (d + 2) 87 [mR 92] w Q := by
  have hu : 2 ^ U ≤ 65536 := Nat.pow_le_pow_right (n := 2) (by omega) hU
  have hw := pw8 hW
  have hwp := Nat.two_pow_pos W
  apply Meeting_matched_92_en
  intro n1
  refine S_lookAround_92 W hW h4 D hD (fun v => by have := hlt v; omega) ?_
  intro g hg
  have lp : ∀ (r S L : Nat), S + r = 2 ^ W → L ≤ 8 → (∀ T, T < S → pop T ≤ L + pop (arn D W T)) → (∃ T, T < 2 ^ W ∧ pop T = L + pop (arn D W T)) → Wp (Cw (d + 1)) cd_Meeting_matched (1, 0, n1) Q 6 [mR 92, mI L, mI S] [] (ubf w 109 g) := by
    intro r
    induction r with
    | zero =>
      intro S L hS hL8 hL hT
      have hS : S = 2 ^ W := by omega
      subst hS
      apply Meeting_matched_92_c6
      have e4 : (ubf w 109 g) 4 11 = W := h4
      rw [e4, ishl1 (by omega)]
      have fin : ∀ v : Nat, v + L = W → Q (mI v) (ubf w 109 g) := by
        intro v hv
        refine k v g (by omega) (isMost_lack ?_ ?_)
        · intro Y hY
          have h1 := hL (toN W Y) (toN_lt Y W)
          rw [pop_cnt (k := W) (by omega) (toN_lt Y W), pop_cnt (k := U) (by omega) (arn_lt hlt _ _), toN_fun hY] at h1
          have e : (arn D W (toN W Y)).testBit = nbB W (fun u w => (D w).testBit u) Y := by
            funext u; rw [arn_bit, toN_fun hY]
          rw [e] at h1
          omega
        · obtain ⟨T, t1, t2⟩ := hT
          rw [pop_cnt (k := W) (by omega) t1, pop_cnt (k := U) (by omega) (arn_lt hlt _ _)] at t2
          have e : (arn D W T).testBit = nbB W (fun u w => (D w).testBit u) T.testBit := by
            funext u; rw [arn_bit]
          rw [e] at t2
          exact ⟨T.testBit, fun w hw => tbit_lt t1 hw, by omega⟩
      have hLW : L ≤ W := by
        obtain ⟨T, t1, t2⟩ := hT
        rw [pop_cnt (k := W) (by omega) t1] at t2
        have := cntB_le T.testBit W
        omega
      (repeat' (apply spl <;> intro))
      · rw [w32_id (x := (W : Int) - L) (by unfold in32; omega), show (W : Int) - L = ((W - L : Nat) : Int) by omega]
        exact fin (W - L) (by omega)
      · exfalso; omega
    | succ r ih =>
      intro S L hS hL8 hL hT
      have aS : arn D W S < 65536 := by have := arn_lt hlt S W; omega
      have e4 : (ubf w 109 g) 4 11 = W := h4
      have e5 : (ubf w 109 g) 109 S = arn D W S := hg S (by omega)
      have pS : pop S ≤ 8 := by
        rw [pop_cnt (k := 8) (by omega) (by omega)]; exact cntB_le _ _
      have pA : pop (arn D W S) ≤ 16 := by
        rw [pop_cnt (k := 16) (by omega) (by omega)]; exact cntB_le _ _
      apply Meeting_matched_92_c6
      rw [e4, ishl1 (by omega), w32_id (x := (S : Int) + 1) (by unfold in32; omega)]
      (repeat' (apply spl <;> intro))
      · exfalso; omega
      · refine S_bitCount S rfl (by omega) ?_
        refine ⟨_, rfl, ?_⟩
        (refine And.intro (by omega) ?_)
        rw [Int.toNat_natCast, e5]
        refine S_bitCount (arn D W S) rfl aS ?_
        refine ⟨_, rfl, ?_⟩
        rw [w32_id (x := (pop S : Int) - (pop (arn D W S) : Int)) (by unfold in32; omega)]
        by_cases q : pop S ≤ L + pop (arn D W S)
        · rw [Int.max_eq_left (by omega)]
          exact ih (S + 1) L (by omega) hL8 (fun T hT' => by
            by_cases z : T = S
            · rw [z]; exact q
            · exact hL T (by omega)) hT
        · rw [Int.max_eq_right (by omega), show (pop S : Int) - (pop (arn D W S) : Int) = ((pop S - pop (arn D W S) : Nat) : Int) by omega]
          exact ih (S + 1) _ (by omega) (by omega) (fun T hT' => by
            by_cases z : T = S
            · rw [z]; omega
            · have := hL T (by omega); omega) ⟨S, by omega, by omega⟩
  exact lp (2 ^ W - 1) 1 0 (by omega) (by omega) (fun T hT => by
    have : T = 0 := by omega
    subst this
    exact Nat.zero_le _) ⟨0, by omega, by rw [arn_zero]; omega⟩

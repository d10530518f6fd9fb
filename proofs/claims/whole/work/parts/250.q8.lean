theorem S_wantsOfSort {d : Nat} {Q : MV → Wd → Prop} {w : Wd} (W : Nat) (hW : W ≤ 8) (h4 : w 4 11 = W) (sw : Nat → Nat) (hs : ∀ v, v < W → w 13 (4 * v + 1) = sw v) (j : Nat) (k : Q (mI (toN W (fun v => sw v == j) : Nat)) w) : Cw (d + 2) 74 [mR 4, mI j] w Q := by
  apply Village_wantsOfSort_4_en
  intro n1
  have lp : ∀ (r v : Nat), v + r = W → Wp (Cw (d + 1)) cd_Village_wantsOfSort (1, 0, n1) Q 4 [mR 4, mI j, mI (toN v (fun v => sw v == j) : Nat), mI v] [] w := by
    intro r
    induction r with
    | zero =>
      intro v hv
      have : v = W := by omega
      subst this
      apply Village_wantsOfSort_4_c4
      (repeat' (apply spl <;> intro))
      · exact k
      · exfalso; omega
    | succ r ih =>
      intro v hv
      have ih := ih (v + 1) (by omega)
      have es : toN (v + 1) (fun v => sw v == j) = toN v (fun v => sw v == j) ||| (if (sw v == j) = true then 2 ^ v else 0) := rfl
      have l1 := toN_lt (fun v => sw v == j) v
      have p := pw8 (v := v) (by omega)
      have e13 := hs v (by omega)
      apply Village_wantsOfSort_4_c4
      rw [ix4_1 (by omega), Int.toNat_natCast, e13, ixs (by omega), ishl1 (by omega), ior_nat (by omega) (by omega), show (0 : Int) = ((0 : Nat) : Int) from rfl, ior_nat (by omega) (by omega)]
      (repeat' (apply spl <;> intro))
      · exfalso; omega
      · refine ⟨by omega, ?_⟩
        (repeat' (apply spl <;> intro))
        · rename_i q
          rw [es, if_neg (by simp; omega)] at ih
          exact ih
        · rename_i q
          rw [es, if_pos (by simp; omega)] at ih
          exact ih
  exact lp W 0 (by omega)
theorem supp_sub {W : Nat} {A : Nat → Nat → Bool} {U : Nat} {f : Nat → Nat} {X : Nat → Bool} (hA : ∀ u v, A u v = true → X v = true) (hf : valid W A U f) : (∀ v, f v ≠ 0 ↔ (toN W (fun v => decide (f v ≠ 0))).testBit v = true) ∧ toN W (fun v => decide (f v ≠ 0)) &&& toN W X = toN W (fun v => decide (f v ≠ 0)) := by
  have e : (toN W (fun v => decide (f v ≠ 0))).testBit = fun v => decide (f v ≠ 0) := toN_fun (fun i hi => (hf.1 i (by simpa using hi)).1)
  refine ⟨fun v => by rw [e]; simp, ?_⟩
  apply Nat.eq_of_testBit_eq
  intro i
  rw [Nat.testBit_and, e, toN_bit]
  by_cases q : f i = 0
  · simp [q]
  · obtain ⟨a, _, _, b⟩ := hf.1 i q
    simp [q, a, hA _ _ b]
theorem S_bestOfSort_92 {d : Nat} {Q : MV → Wd → Prop} {w : Wd} {U W J : Nat} {su sw wo : Nat → Nat} {adj : Nat → Nat → Bool} {co : Nat → Nat → Nat} (h : MtD (w 4) (w 11) (w 13) (w 107) U W J su sw wo adj co) (j : Nat) (hj : j < J)
    (k : ∀ (b : Int) (a g : Nat → Int), 0 ≤ b → b ≤ 144115188075855872 → IsMax W (fun u v => adjP wo adj co u v && sw v == j) (cL (netD wo co)) U b → Q (mL b) (ubf (ubf w 111 a) 110 g)) : Cw (d + 4) 73 [mR 92, mI j] w Q := by
  have hU := h.hU
  have hW := h.hW
  have hwo : ∀ v, v < W → wo v ≤ 999 := fun v hv => (h.wor v hv).2
  have hAP : ∀ u v, (adjP wo adj co u v && sw v == j) = true → adjP wo adj co u v = true := fun u v z => by rw [Bool.and_eq_true] at z; exact z.1
  have hAX : ∀ u v, (adjP wo adj co u v && sw v == j) = true → (fun v => sw v == j) v = true := fun u v z => by rw [Bool.and_eq_true] at z; exact z.2
  have hal : toN W (fun v => sw v == j) < 256 := by have := toN_lt (fun v => sw v == j) W; have := pw8 hW; omega
  apply Meeting_bestOfSort_92_en
  intro n1
  refine S_wantsOfSort W hW h.wa sw h.ws j ?_
  refine ⟨_, rfl, ?_⟩
  (repeat' (apply spl <;> intro))
  · refine S_fillL 110 256 (-1) rfl rfl (by omega) (by decide) ?_
    intro g0 hg0 _
    -- behind the loop over units
    have max42 : ∀ (a g : Nat → Int), TabC W (fun u v => adjP wo adj co u v && sw v == j) (cL (netD wo co)) (toN W (fun v => sw v == j)) (fun _ => U) g → ∀ (met : Nat) (b : Int), met < 256 → met &&& toN W (fun v => sw v == j) = met → 0 ≤ b → (∃ f, valid W (fun u v => adjP wo adj co u v && sw v == j) U f ∧ val (cL (netD wo co)) f = b) → (∀ S, S < 256 → S &&& toN W (fun v => sw v == j) = S → met < S → g S ≤ b) → Wp (Cw (d + 3)) cd_Meeting_bestOfSort (3, 0, n1) Q 42 [mR 92, none, mI (toN W (fun v => sw v == j) : Nat), mL b, none, mI met] [] (ubf (ubf w 111 a) 110 g) := by
      intro a g hT met
      induction met using Nat.strongRecOn with
      | ind met ih =>
        intro b hm hsub hb hex hle
        have e110 : (ubf (ubf w 111 a) 110 g) 110 met = g met := rfl
        obtain ⟨f, f1, f2⟩ := hex
        have fb := val_adjP hAP hwo f1
        apply Meeting_bestOfSort_92_c42
        rw [Int.toNat_natCast, e110]
        (repeat' (apply spl <;> intro))
        · refine k b a g hb (by omega) ⟨fun f' hf' => ?_, f, f1, f2⟩
          obtain ⟨s1, s2⟩ := supp_sub hAX hf'
          have sl : toN W (fun v => decide (f' v ≠ 0)) < 256 := by have := toN_lt (fun v => decide (f' v ≠ 0)) W; have := pw8 hW; omega
          have t1 := (hT _ sl s2).1.1 f' hf' s1
          obtain ⟨v, v1, v2⟩ := t1
          rw [decZ_some] at v1
          by_cases z : toN W (fun v => decide (f' v ≠ 0)) = 0
          · have e0 : f' = fun _ => 0 := by
              funext i
              apply Classical.byContradiction
              intro y
              have := (s1 i).mp y
              rw [z, tbit0] at this; cases this
            rw [e0, val_zero]; exact hb
          · have := hle _ sl s2 (by omega)
            omega
        · refine ⟨by omega, ?_⟩
          have nx := sub_dec (all := toN W (fun v => sw v == j)) (met := met) (by omega)
          have t0 := hT met hm hsub
          dsimp only at t0
          rw [w32_id (x := (met : Int) - 1) (by unfold in32; omega), show (met : Int) - 1 = ((met - 1 : Nat) : Int) by omega, iand_nat (by omega) (by omega)]
          refine ih ((met - 1) &&& toN W (fun v => sw v == j)) nx (max b (g met)) (by omega) (sub_is _ _) (by omega) ?_ ?_
          · by_cases y : g met ≤ b
            · rw [Int.max_eq_left y]; exact ⟨f, f1, f2⟩
            · rw [Int.max_eq_right (by omega)]
              obtain ⟨f', p1, _, p3⟩ := opt_val t0.1 (by omega)
              exact ⟨f', p1, p3⟩
          · intro S hS hSs hlt
            by_cases y : S = met
            · rw [y]; omega
            · by_cases y2 : met < S
              · have := hle S hS hSs y2; omega
              · have := sub_next 8 hm hsub hSs (by omega); omega
    have units : ∀ (r u : Nat) (a g : Nat → Int), u + r = U → TabC W (fun u v => adjP wo adj co u v && sw v == j) (cL (netD wo co)) (toN W (fun v => sw v == j)) (fun _ => u) g → Wp (Cw (d + 3)) cd_Meeting_bestOfSort (3, 0, n1) Q 20 [mR 92, mI j, mI (toN W (fun v => sw v == j) : Nat), mI u, none, none] [] (ubf (ubf w 111 a) 110 g) := by
      intro r
      induction r with
      | zero =>
        intro u a g hu hT
        have : u = U := by omega
        subst this
        have e4 : (ubf (ubf w 111 a) 110 g) 4 8 = u := h.un
        apply Meeting_bestOfSort_92_c20
        (repeat' (apply spl <;> intro))
        · exact max42 a g hT _ 0 hal (Nat.and_self _) (Int.le_refl _) ⟨_, valid_zero _ _ _, val_zero _⟩ (fun S hS hSs hl => by
            have := Nat.and_le_right (n := S) (m := toN W (fun v => sw v == j))
            omega)
        · exfalso; omega
      | succ r ih =>
        intro u a g hu hT
        have e4 : (ubf (ubf w 111 a) 110 g) 4 8 = U := h.un
        have e11 : (ubf (ubf w 111 a) 110 g) 11 (5 * u) = su u := h.us u (by omega)
        apply Meeting_bestOfSort_92_c20
        rw [ix5_0 (by omega), Int.toNat_natCast, e11, ixs (by omega)]
        (repeat' (apply spl <;> intro))
        · exfalso; omega
        · refine ⟨by omega, ?_⟩
          (repeat' (apply spl <;> intro))
          · rename_i q
            refine ih (u + 1) a g (by omega) ?_
            intro S hS hSs
            have g1 := hT S hS hSs
            refine ⟨opt_skip hW (by omega) (fun v hv _ => ?_) g1.1, g1.2⟩
            cases z : (adjP wo adj co u v && sw v == j)
            · rfl
            · rw [Bool.and_eq_true] at z
              have z1 := z.1
              unfold adjP at z1
              rw [Bool.and_eq_true] at z1
              have := (h.ran u v z1.1).2.2
              have := beq_iff_eq.mp z.2
              exfalso; omega
          · rename_i q
            refine S_meetBy_92 (w := ubf (ubf w 111 a) 110 g) h u j (by omega) (by omega) hT ?_
            intro a' g' hT'
            have ew : ubf (ubf (ubf (ubf w 111 a) 110 g) 111 a') 110 g' = ubf (ubf w 111 a') 110 g' := by
              funext c i
              simp only [ubf_ap]
              by_cases z : c = 110
              · simp [z]
              · by_cases z2 : c = 111 <;> simp [z, z2]
            rw [ew]
            exact ih (u + 1) a' g' (by omega) hT'
    refine Eq.mp ?_ (units U 0 (w 111) (up1 g0 0 0) (by omega) (fun S hS hSs => ?_))
    · rw [ub_on, show ubf w 111 (w 111) = w from ubf_sf0 w 111]
      rfl
    · dsimp only
      rw [up1_ap]
      by_cases z : S = 0
      · subst z
        rw [if_pos rfl]
        exact ⟨opt_zero_yes tbit0, by omega⟩
      · rw [if_neg z, hg0 S hS]
        obtain ⟨i, hi⟩ := Nat.exists_testBit_of_ne_zero z
        exact ⟨opt_zero_no i hi, by omega⟩
  · rename_i q
    have q0 : toN W (fun v => sw v == j) = 0 := by omega
    have k1 := k 0 (w 111) (w 110) (Int.le_refl _) (by omega) (isMax_none (fun u v hv => by
      cases z : sw v == j
      · simp
      · have := toN_bit (fun v => sw v == j) W v
        rw [q0, tbit0] at this
        simp [hv] at this
        exact absurd (beq_iff_eq.mp z) this))
    rw [show ubf w 111 (w 111) = w from ubf_sf0 w 111, show ubf w 110 (w 110) = w from ubf_sf0 w 110] at k1
    exact k1
theorem S_solve_92 {d : Nat} {Q : MV → Wd → Prop} {w : Wd} {U W J : Nat} {su sw wo : Nat → Nat} {adj : Nat → Nat → Bool} {co : Nat → Nat → Nat} (h : MtD (w 4) (w 11) (w 13) (w 107) U W J su sw wo adj co)
    (k : ∀ (t : Int) (o a g : Nat → Int), (∀ i, i ≠ 7 → o i = w 92 i) → o 7 = t → IsMax W (adjP wo adj co) (cL (netD wo co)) U t → Q none (ubf (ubf (ubf w 92 o) 111 a) 110 g)) : Cw (d + 5) 72 [mR 92] w Q := by
  have hJ := h.hJ
  apply Meeting_solve_92_en
  intro n1
  have lp : ∀ (r j : Nat) (b : Nat → Int) (o a g : Nat → Int), j + r = J → (∀ i, i ≠ 7 → o i = w 92 i) → o 7 = sumZ j b → (∀ i, i < j → 0 ≤ b i ∧ b i ≤ 144115188075855872 ∧ IsMax W (fun u v => adjP wo adj co u v && sw v == i) (cL (netD wo co)) U (b i)) → Wp (Cw (d + 4)) cd_Meeting_solve (0, 0, n1) Q 5 [mR 92, mI j] [] (ubf (ubf (ubf w 92 o) 111 a) 110 g) := by
    intro r
    induction r with
    | zero =>
      intro j b o a g hj ho ht hb
      have : j = J := by omega
      subst this
      have e4 : (ubf (ubf (ubf w 92 o) 111 a) 110 g) 4 5 = j := h.so
      apply Meeting_solve_92_c5
      (repeat' (apply spl <;> intro))
      · refine k (o 7) o a g ho rfl ?_
        have m1 := isMax_sorts (W := W) (adj := adjP wo adj co) (c := cL (netD wo co)) (U := U) (su := su) (sw := sw) (fun u v z => by
          unfold adjP at z
          rw [Bool.and_eq_true] at z
          exact (h.ran u v z.1).2.2) b j (fun i hi => (hb i hi).2.2)
        rw [← ht] at m1
        have ea : ∀ f, valid W (fun u v => adjP wo adj co u v && decide (sw v < j)) U f ↔ valid W (adjP wo adj co) U f := by
          intro f
          constructor
          · intro hf
            refine ⟨fun v hv => ?_, hf.2⟩
            obtain ⟨a, b, c, z⟩ := hf.1 v hv
            rw [Bool.and_eq_true] at z
            exact ⟨a, b, c, z.1⟩
          · intro hf
            refine ⟨fun v hv => ?_, hf.2⟩
            obtain ⟨a, b, c, z⟩ := hf.1 v hv
            refine ⟨a, b, c, ?_⟩
            dsimp only
            rw [z]; simp [h.swJ v a]
        refine ⟨fun f hf => m1.1 f ((ea f).mpr hf), ?_⟩
        obtain ⟨f, f1, f2⟩ := m1.2
        exact ⟨f, (ea f).mp f1, f2⟩
      · exfalso; omega
    | succ r ih =>
      intro j b o a g hj ho ht hb
      have e4 : (ubf (ubf (ubf w 92 o) 111 a) 110 g) 4 5 = J := h.so
      have e92 : (ubf (ubf (ubf w 92 o) 111 a) 110 g) 92 7 = o 7 := rfl
      have l1 : 0 ≤ sumZ j b := sumZ_nonneg (fun i hi => (hb i hi).1)
      have l2 := sumZ_le (g := b) 144115188075855872 (n := j) (fun i hi => (hb i hi).2.1)
      apply Meeting_solve_92_c5
      rw [e92, ixs (by omega)]
      (repeat' (apply spl <;> intro))
      · exfalso; omega
      · refine S_bestOfSort_92 (w := ubf (ubf (ubf w 92 o) 111 a) 110 g) h j (by omega) ?_
        intro bj a' g' b1 b2 b3
        refine ⟨_, rfl, ?_⟩
        have l3 : (j : Int) * 144115188075855872 ≤ 6 * 144115188075855872 := by omega
        rw [ht, w64_id (by unfold in64; omega)]
        have ew : ub (ubf (ubf (ubf (ubf (ubf w 92 o) 111 a) 110 g) 111 a') 110 g') 92 7 (sumZ j b + bj) = ubf (ubf (ubf w 92 (up1 o 7 (sumZ j b + bj))) 111 a') 110 g' := by
          funext c i
          simp only [ubf_ap, ub_ap, up1_ap]
          by_cases z : c = 110
          · simp [z]
          · by_cases z2 : c = 111
            · simp [z, z2]
            · by_cases z3 : c = 92 <;> simp [z, z2, z3]
        rw [ew]
        have es : sumZ (j + 1) (fun i => if i = j then bj else b i) = sumZ j b + bj := by
          show sumZ j (fun i => if i = j then bj else b i) + (if j = j then bj else b j) = _
          rw [if_pos rfl, sumZ_ext (n := j) (g := fun i => if i = j then bj else b i) (h := b) (fun i hi => by rw [if_neg (by omega)])]
        refine ih (j + 1) (fun i => if i = j then bj else b i) _ a' g' (by omega) (fun i hi => ?_) ?_ (fun i hi => ?_)
        · rw [up1_ap, if_neg hi]; exact ho i hi
        · rw [up1_ap, if_pos rfl, es]
        · by_cases z : i = j
          · rw [if_pos z, z]; exact ⟨b1, b2, b3⟩
          · rw [if_neg z]; exact hb i (by omega)
  have e : ub w 92 7 0 = ubf (ubf (ubf w 92 (up1 (w 92) 7 0)) 111 (w 111)) 110 (w 110) := by
    funext c i
    simp only [ubf_ap, ub_ap, up1_ap]
    by_cases z : c = 110
    · simp [z]
    · by_cases z2 : c = 111
      · simp [z, z2]
      · by_cases z3 : c = 92 <;> simp [z, z2, z3]
  rw [e]
  exact lp J 0 (fun _ => 0) _ _ _ (by omega) (fun i hi => by rw [up1_ap, if_neg hi]) (by rw [up1_ap, if_pos rfl]; rfl) (fun i hi => by omega)

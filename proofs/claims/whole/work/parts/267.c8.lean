theorem rowsO_same {T : Tm} {s : Nat → Int} {u u' : Nat} (e2 : s (31 + 5 * u) = s (31 + 5 * u')) (e3 : s (32 + 5 * u) = s (32 + 5 * u')) : rowsO T s u = rowsO T s u' := by
  have a : allF T s u = allF T s u' := by unfold allF; rw [e2, e3]
  have b : fiR s u = fiR s u' := by funext q; unfold fiR; rw [e2, e3]
  unfold rowsO
  rw [a, b]
theorem hitS_same {T : Tm} {s : Nat → Int} {u u' : Nat} (e1 : s (30 + 5 * u) = s (30 + 5 * u')) (e4 : s (33 + 5 * u) = s (33 + 5 * u')) (v : Nat) : hitS T s u v = hitS T s u' v := by
  funext r; unfold hitS lastH; rw [e1, e4]
theorem rowsO_mem {T : Tm} {s : Nat → Int} {u : Nat} {r : List Nat} (h : r ∈ rowsO T s u) : r.length = T.n ∧ (∀ x, x ∈ r → x < T.P) ∧ chN T r := by
  unfold rowsO at h
  split at h
  · have := rows_mem h
    exact ⟨this.1, this.2, ch_ext h trivial⟩
  · cases h
theorem ch2 (w : Wd) (a b : Nat → Int) (i j : Nat) (x y : Int) : ub (ub (ubf (ubf w 107 a) 108 b) 107 i x) 108 j y = ubf (ubf w 107 (up1 a i x)) 108 (up1 b j y) := by
  funext c' t
  simp only [ub_ap, ubf_ap, up1_ap]
  by_cases z1 : c' = 108
  · simp [z1]
  · by_cases z2 : c' = 107 <;> simp [z1, z2]
/-- the keys chosen, and who does for a want -/
def ChoD (T : Tm) (wt : Int) (ask : Nat) (s : Nat → Int) (U W : Nat) (g107 g108 : Nat → Int) (D : Nat → Nat) : Prop := (∀ u v, u < U → v < W → LeastK (rowsO T s u) (hitS T s u v) (keyW T wt ask) (g107 (8 * u + v))) ∧ (∀ v, v < W → g108 v = D v) ∧ (∀ v, D v < 2 ^ U) ∧ (∀ u v, u < U → v < W → ((D v).testBit u = true ↔ g107 (8 * u + v) ≠ NOW))
theorem ChoD.mk {T : Tm} {wt : Int} {ask : Nat} {s : Nat → Int} {U W : Nat} {g107 g108 : Nat → Int} {D : Nat → Nat} (key_ : ∀ u v, u < U → v < W → LeastK (rowsO T s u) (hitS T s u v) (keyW T wt ask) (g107 (8 * u + v))) (doer_ : ∀ v, v < W → g108 v = D v) (lt_ : ∀ v, D v < 2 ^ U) (bit_ : ∀ u v, u < U → v < W → ((D v).testBit u = true ↔ g107 (8 * u + v) ≠ NOW)) : ChoD T wt ask s U W g107 g108 D := And.intro key_ (And.intro doer_ (And.intro lt_ (bit_)))
theorem ChoD.key {T : Tm} {wt : Int} {ask : Nat} {s : Nat → Int} {U W : Nat} {g107 g108 : Nat → Int} {D : Nat → Nat} (h_ : ChoD T wt ask s U W g107 g108 D) : ∀ u v, u < U → v < W → LeastK (rowsO T s u) (hitS T s u v) (keyW T wt ask) (g107 (8 * u + v)) := h_.1
theorem ChoD.doer {T : Tm} {wt : Int} {ask : Nat} {s : Nat → Int} {U W : Nat} {g107 g108 : Nat → Int} {D : Nat → Nat} (h_ : ChoD T wt ask s U W g107 g108 D) : ∀ v, v < W → g108 v = D v := h_.2.1
theorem ChoD.lt {T : Tm} {wt : Int} {ask : Nat} {s : Nat → Int} {U W : Nat} {g107 g108 : Nat → Int} {D : Nat → Nat} (h_ : ChoD T wt ask s U W g107 g108 D) : ∀ v, D v < 2 ^ U := h_.2.2.1
theorem ChoD.bit {T : Tm} {wt : Int} {ask : Nat} {s : Nat → Int} {U W : Nat} {g107 g108 : Nat → Int} {D : Nat → Nat} (h_ : ChoD T wt ask s U W g107 g108 D) : ∀ u v, u < U → v < W → ((D v).testBit u = true ↔ g107 (8 * u + v) ≠ NOW) := h_.2.2.2
theorem S_choose_92 {d : Nat} {Q : MV → Wd → Prop} {w : Wd} {s nms : Nat → Int} {T : Tm} {wt : Int} (rv : RV (w 4) (w 5) (w 6) (w 7) (w 8) (w 9) (w 10) (w 11) (w 12) (w 13) (w 14) (w 15) s nms) (hs : WS s) (P8 : T.P ≤ 8) (n2 : 2 ≤ T.n) (n6 : T.n ≤ 6) (hr9 : ∀ p q, T.hr p q ≤ 9) (pn9 : ∀ p q, T.pn p q ≤ 99) (ak9 : ∀ q, T.ak q ≤ 99) (hg : ∀ p, T.gv p p = false) (U W : Nat) (h2 : s 2 = U) (h3 : s 3 = W) (ask : Nat) (ha : ask ≤ 20)
    (hk : ∀ u, u < U → w 12 u = u → ∀ v k, v < W → k < 3 → LeastK (rowsO T s u) (fun r => hitS T s u v r && (min (tmW T.n wt r) 2 == k)) (keyL T) (w 98 ((8 * u + v) * 3 + k)))
    (k : ∀ (g107 g108 : Nat → Int) (D : Nat → Nat), ChoD T wt ask s U W g107 g108 D → Q none (ubf (ubf w 107 g107) 108 g108)) : Cw (d + 3) 69 [mR 92, mI ask] w Q := by
  have hU : U ≤ 16 := by have := hs.un; omega
  have hW : W ≤ 8 := by have := hs.wa; omega
  apply Meeting_choose_92_en
  intro n1
  refine S_fillI 108 8 0 rfl rfl (by omega) (by decide) ?_
  intro g0 hg0 _
  have U16 : 2 ^ U ≤ 65536 := Nat.pow_le_pow_right (n := 2) (by omega) hU
  have l6 : ∀ (m u : Nat) (a b : Nat → Int) (D : Nat → Nat), u + m = U → (∀ x v, x < u → v < W → LeastK (rowsO T s x) (hitS T s x v) (keyW T wt ask) (a (8 * x + v))) → (∀ v, v < W → b v = D v) → (∀ v, D v < 2 ^ u) → (∀ x v, x < u → v < W → ((D v).testBit x = true ↔ a (8 * x + v) ≠ NOW)) → Wp (Cw (d + 2)) cd_Meeting_choose (0, 0, n1) Q 6 [mR 92, mI ask, mI u, none, none, none] [] (ubf (ubf w 107 a) 108 b) := by
    intro m
    induction m with
    | zero =>
      intro u a b D hu h1 h2' h3' h4
      have : u = U := by omega
      subst this
      have e4 : (ubf (ubf w 107 a) 108 b) 4 8 = u := by show w 4 8 = u; rw [rv.units]; exact h2
      apply Meeting_choose_92_c6
      (repeat' (apply spl <;> intro))
      · exact k a b D (ChoD.mk (h1) (h2') (h3') (h4))
      · exfalso; omega
    | succ m ih =>
      intro u a b D hu h1 h2' h3' h4
      have e4 : (ubf (ubf w 107 a) 108 b) 4 8 = U := by show w 4 8 = U; rw [rv.units]; exact h2
      have ld := rv.lead u (by omega)
      obtain ⟨l, hl, hlu⟩ : ∃ l : Nat, w 12 u = l ∧ l ≤ u := by
        obtain ⟨l, hl⟩ := Int.eq_ofNat_of_zero_le ld.1
        exact ⟨l, hl, by have := ld.2.1; omega⟩
      rw [hl, Int.toNat_natCast] at ld
      have sm := hs.same l u hlu (by omega) ld.2.2.1
      have ldl := rv.lead l (by omega)
      have hll : w 12 l = l := by
        obtain ⟨l2, hl2⟩ := Int.eq_ofNat_of_zero_le ldl.1
        rw [hl2, Int.toNat_natCast] at ldl
        rw [hl2]
        by_cases y : l2 = l
        · rw [y]
        · exfalso
          have := ld.2.2.2 l2 (by have := ldl.2.1; omega)
          exact this (by rw [ldl.2.2.1, ld.2.2.1])
      have ro := rowsO_same (T := T) sm.2.1 sm.2.2.1
      have hi := fun v => hitS_same (T := T) sm.1 sm.2.2.2 v
      have p2u : 2 ^ (u + 1) = 2 ^ u + 2 ^ u := by rw [Nat.pow_succ]; omega
      have pu : 2 ^ u ≤ 32768 := Nat.pow_le_pow_right (n := 2) (by omega) (show u ≤ 15 by omega)
      have pu0 := Nat.two_pow_pos u
      have l13 : ∀ (m v : Nat) (a' b' : Nat → Int) (D' : Nat → Nat), v + m = W → (∀ x y, x < u → y < W → a' (8 * x + y) = a (8 * x + y)) → (∀ y, y < v → LeastK (rowsO T s u) (hitS T s u y) (keyW T wt ask) (a' (8 * u + y))) → (∀ y, y < W → b' y = D' y) → (∀ y, y < v → D' y < 2 ^ (u + 1)) → (∀ y, v ≤ y → D' y = D y) → (∀ x y, x < u → y < W → (D' y).testBit x = (D y).testBit x) → (∀ y, y < v → ((D' y).testBit u = true ↔ a' (8 * u + y) ≠ NOW)) → Wp (Cw (d + 2)) cd_Meeting_choose (0, 0, n1) Q 13 [mR 92, mI ask, mI u, mI v, none, none] [] (ubf (ubf w 107 a') 108 b') := by
        intro m2
        induction m2 with
        | zero =>
          intro v a' b' D' hv q1 q2 q3 q4 q5 q6 q7
          have : v = W := by omega
          subst this
          have e4' : (ubf (ubf w 107 a') 108 b') 4 11 = v := by show w 4 11 = v; rw [rv.wants]; exact h3
          apply Meeting_choose_92_c13
          rw [ixs (k := u) (by omega)]
          (repeat' (apply spl <;> intro))
          · refine ih (u + 1) a' b' D' (by omega) (fun x y hx hy => ?_) q3 (fun y => ?_) (fun x y hx hy => ?_)
            · by_cases z : x = u
              · rw [z]; exact q2 y hy
              · rw [q1 x y (by omega) hy]; exact h1 x y (by omega) hy
            · by_cases z : y < v
              · exact q4 y z
              · rw [q5 y (by omega)]; have := h3' y; omega
            · by_cases z : x = u
              · rw [z]; exact q7 y hy
              · rw [q6 x y (by omega) hy, q1 x y (by omega) hy]; exact h4 x y (by omega) hy
          · exfalso; omega
        | succ m2 ih2 =>
          intro v a' b' D' hv q1 q2 q3 q4 q5 q6 q7
          have e4' : (ubf (ubf w 107 a') 108 b') 4 11 = W := by show w 4 11 = W; rw [rv.wants]; exact h3
          have e12 : (ubf (ubf w 107 a') 108 b') 12 u = l := hl
          have keys := fun k' hk' => hk l (by omega) hll v k' (by omega) hk'
          have kb : ∀ r, r ∈ rowsO T s l → tmW T.n wt r ≤ 2 ∧ keyL T r < 1152921504606846976 := fun r hr => by
            obtain ⟨a1, a2, a3⟩ := rowsO_mem hr
            have := row_bd hr9 pn9 ak9 P8 n6 a1 a2
            refine ⟨tm_two hg n6 n2 wt a3 a1, ?_⟩
            unfold keyL; omega
          have kn : ∀ k', k' < 3 → w 98 ((8 * l + v) * 3 + k') = NOW ∨ (0 ≤ w 98 ((8 * l + v) * 3 + k') ∧ w 98 ((8 * l + v) * 3 + k') < 1152921504606846976) := fun k' hk' => by
            rcases (keys k' hk').2 with ⟨x, _⟩ | ⟨r, x, _, y⟩
            · exact Or.inl x
            · right
              rw [y]
              refine ⟨?_, (kb r x).2⟩
              unfold keyL; omega
          have lk := least_ask (T := T) (wt := wt) (ask := ask) (hit := hitS T s l v) kb ha (by have := keys 0 (by omega); rwa [Nat.add_zero] at this) (keys 1 (by omega)) (keys 2 (by omega))
          apply Meeting_choose_92_c13
          rw [e4', Int.toNat_natCast, e12, ix8a (by omega) (by omega), ix8a (by omega) (by omega), Int.toNat_natCast, Int.toNat_natCast, ixs (k := v) (by omega), ishl1 (by omega)]
          (repeat' (apply spl <;> intro))
          · exfalso; omega
          · (refine And.intro (by omega) ?_)
            refine S_takenAsking_92 (w := ubf (ubf w 107 a') 108 b') (8 * l + v) ask (by omega) ha (fun k' hk' => kn k' hk') ?_
            refine ⟨_, rfl, by omega, by omega, ?_⟩
            have lk2 : LeastK (rowsO T s u) (hitS T s u v) (keyW T wt ask) (min (min (addK ((ubf (ubf w 107 a') 108 b') 98 ((8 * l + v) * 3)) 0) (addK ((ubf (ubf w 107 a') 108 b') 98 ((8 * l + v) * 3 + 1)) ask)) (addK ((ubf (ubf w 107 a') 108 b') 98 ((8 * l + v) * 3 + 2)) (ask * 2))) := by
              rw [← ro, ← hi v]; exact lk
            generalize (min (min (addK ((ubf (ubf w 107 a') 108 b') 98 ((8 * l + v) * 3)) 0) (addK ((ubf (ubf w 107 a') 108 b') 98 ((8 * l + v) * 3 + 1)) ask)) (addK ((ubf (ubf w 107 a') 108 b') 98 ((8 * l + v) * 3 + 2)) (ask * 2))) = K at *
            have e108 : (ubf (ubf w 107 a') 108 b') 108 v = D v := by show b' v = _; rw [q3 v (by omega), q5 v (Nat.le_refl _)]
            have hDv := h3' v
            rw [e108]
            have go : ∀ X : Nat, X < 2 ^ (u + 1) → (∀ x, x < u → X.testBit x = (D v).testBit x) → (X.testBit u = true ↔ K ≠ NOW) → Wp (Cw (d + 2)) cd_Meeting_choose (0, 0, n1) Q 13 [mR 92, mI ask, mI u, mI (v + 1 : Nat), none, none] [] (ub (ub (ubf (ubf w 107 a') 108 b') 107 (8 * u + v) K) 108 v (X : Int)) := by
              intro X x1 x2 x3
              rw [ch2]
              refine ih2 (v + 1) _ _ (fun y => if y = v then X else D' y) (by omega) (fun x y hx hy => ?_) (fun y hy => ?_) (fun y hy => ?_) (fun y hy => ?_) (fun y hy => ?_) (fun x y hx hy => ?_) (fun y hy => ?_)
              · rw [up1_ap, if_neg (by omega)]; exact q1 x y hx hy
              · rw [up1_ap]
                by_cases z : y = v
                · rw [if_pos (by omega), z]; exact lk2
                · rw [if_neg (by omega)]; exact q2 y (by omega)
              · rw [up1_ap]
                by_cases z : y = v
                · rw [if_pos z, if_pos z]
                · rw [if_neg z, if_neg z]; exact q3 y hy
              · by_cases z : y = v
                · rw [if_pos z]; exact x1
                · rw [if_neg z]; exact q4 y (by omega)
              · rw [if_neg (by omega)]; exact q5 y (by omega)
              · by_cases z : y = v
                · rw [if_pos z, z]; exact x2 x hx
                · rw [if_neg z]; exact q6 x y hx hy
              · rw [up1_ap]
                by_cases z : y = v
                · rw [if_pos z, if_pos (by omega)]; exact x3
                · rw [if_neg z, if_neg (by omega)]; exact q7 y (by omega)
            have du : (D v).testBit u = false := Nat.testBit_lt_two_pow (h3' v)
            (repeat' (apply spl <;> intro))
            · rename_i z
              have z : K ≠ NOW := fun y => z (cmp3_zero.mpr y)
              (refine And.intro (by omega) ?_)
              rw [ior_nat (by omega) (by omega)]
              refine go _ (Nat.or_lt_two_pow (by omega) (by omega)) (fun x hx => ?_) ⟨fun _ => z, fun _ => ?_⟩
              · rw [tbit_or_pow]
                have : decide (u = x) = false := by simp; omega
                rw [this, Bool.or_false]
              · rw [tbit_or_pow]; simp
            · rename_i z
              have z : K = NOW := cmp3_zero.mp (Decidable.not_not.mp z)
              (refine And.intro (by omega) ?_)
              rw [show (0 : Int) = ((0 : Nat) : Int) from rfl, ior_nat (by omega) (by omega), Nat.or_zero]
              refine go _ (by omega) (fun _ _ => rfl) ⟨fun y => ?_, fun y => absurd z y⟩
              rw [du] at y; cases y
      apply Meeting_choose_92_c6
      (repeat' (apply spl <;> intro))
      · exfalso; omega
      · exact l13 W 0 a b D (by omega) (fun _ _ _ _ => rfl) (fun y hy => by omega) h2' (fun y hy => by omega) (fun _ _ => rfl) (fun _ _ _ _ => rfl) (fun y hy => by omega)
  have ew : ubf w 108 g0 = ubf (ubf w 107 (w 107)) 108 g0 := by rw [show ubf w 107 (w 107) = w from ubf_sf0 w 107]
  rw [ew]
  exact l6 U 0 (w 107) g0 (fun _ => 0) (by omega) (fun x v hx => by omega) (fun v hv => by rw [hg0 v (by omega)]; rfl) (fun _ => by show 0 < 1; omega) (fun x v hx => by omega)

def roomS (s : Nat → Int) (u v : Nat) : Int := if s (110 + 4 * v) = s (30 + 5 * u) then lastH s u v - s (33 + 5 * u) else -1
theorem roomS_hit {T : Tm} {s : Nat → Int} {u v : Nat} {r : List Nat} {rooms who : Nat → Int} (h1 : rooms v = roomS s u v) (h2 : who v = s (109 + 4 * v)) : hitC rooms who T v r = hitS T s u v r := by
  unfold hitC hitS
  rw [h1, h2]
  unfold roomS
  congr 1
  by_cases z : s (110 + 4 * v) = s (30 + 5 * u)
  · rw [if_pos z, decide_eq_true z, Bool.true_and]
    by_cases y : s (33 + 5 * u) + (hoL T r : Int) ≤ lastH s u v
    · rw [decide_eq_true y, decide_eq_true (by omega)]
    · rw [decide_eq_false y, decide_eq_false (by omega)]
  · rw [if_neg z, decide_eq_false z, Bool.false_and, decide_eq_false (by omega)]
theorem mr4 (w : Wd) (o g : Nat → Int) (i : Nat) (x y z e : Int) : ub (ub (ub (ub (ubf (ubf w 93 o) 99 g) 99 i x) 99 i y) 93 10 z) 93 9 e = ubf (ubf w 93 (up1 (up1 o 10 z) 9 e)) 99 (up1 g i y) := by
  funext c' t
  simp only [ub_ap, ubf_ap, up1_ap]
  by_cases z1 : c' = 99
  · by_cases z2 : t = i <;> simp [z1, z2]
  · by_cases z2 : c' = 93 <;> simp [z1, z2]
theorem S_measureRooms_93 {d : Nat} {Q : MV → Wd → Prop} {w : Wd} {s nms : Nat → Int} (rv : RV (w 4) (w 5) (w 6) (w 7) (w 8) (w 9) (w 10) (w 11) (w 12) (w 13) (w 14) (w 15) s nms) (hs : WS s) (U W u : Nat) (h2 : s 2 = U) (h3 : s 3 = W) (hu : u < U) (eu : w 93 7 = u)
    (k : ∀ o g : Nat → Int, (∀ i, i ≠ 9 → i ≠ 10 → o i = w 93 i) → (∀ v, v < W → g v = roomS s u v) → (∀ v, v < W → g v ≤ o 10) → (∀ v, v < W → 0 ≤ g v → tb (o 9) (w 13 (4 * v)).toNat = true) → Q none (ubf (ubf w 93 o) 99 g)) : Cw (d + 2) 62 [mR 93] w Q := by
  have hU : U ≤ 16 := by have := hs.un; omega
  have hW : W ≤ 8 := by have := hs.wa; omega
  have us := hs.usort u (by omega)
  have uh := hs.uhour u (by omega)
  have so6 := hs.so
  obtain ⟨ks, hks⟩ := Int.eq_ofNat_of_zero_le us.1
  have li := hs.life ks (by omega)
  apply Ways_measureRooms_93_en
  intro n1
  have lp : ∀ (m v : Nat) (o g : Nat → Int), v + m = W → (∀ i, i ≠ 9 → i ≠ 10 → o i = w 93 i) → (-1 ≤ o 10 ∧ o 10 ≤ 100) → (∃ B : Nat, o 9 = B ∧ B < 256) → (∀ x, x < v → g x = roomS s u x) → (∀ x, x < v → g x ≤ o 10) → (∀ x, x < v → 0 ≤ g x → tb (o 9) (w 13 (4 * x)).toNat = true) → Wp (Cw (d + 1)) cd_Ways_measureRooms (0, 0, n1) Q 8 [mR 93, mI v, none] [] (ubf (ubf w 93 o) 99 g) := by
    intro m
    induction m with
    | zero =>
      intro v o g hv h1 _ _ h4 h5 h6
      have : v = W := by omega
      subst this
      have e4 : (ubf (ubf w 93 o) 99 g) 4 11 = v := by show w 4 11 = v; rw [rv.wants]; exact h3
      apply Ways_measureRooms_93_c8
      (repeat' (apply spl <;> intro))
      · exact k o g h1 h4 h5 h6
      all_goals (exfalso; omega)
    | succ m ih =>
      intro v o g hv h1 h10 hB h4 h5 h6
      obtain ⟨B, hB1, hB2⟩ := hB
      have e4 : (ubf (ubf w 93 o) 99 g) 4 11 = W := by show w 4 11 = W; rw [rv.wants]; exact h3
      have e93 : (ubf (ubf w 93 o) 99 g) 93 7 = u := by show o 7 = u; rw [h1 7 (by decide) (by decide)]; exact eu
      have e131 : (ubf (ubf w 93 o) 99 g) 13 (4 * v + 1) = s (110 + 4 * v) := by show w 13 (4 * v + 1) = _; rw [rv.want _ (by omega)]; congr 1; omega
      have e133 : (ubf (ubf w 93 o) 99 g) 13 (4 * v + 3) = s (112 + 4 * v) := by show w 13 (4 * v + 3) = _; rw [rv.want _ (by omega)]; congr 1; omega
      have e130 : (ubf (ubf w 93 o) 99 g) 13 (4 * v) = w 13 (4 * v) := rfl
      have f130 : w 13 (4 * v) = s (109 + 4 * v) := by rw [rv.want _ (by omega)]
      have e110 : (ubf (ubf w 93 o) 99 g) 11 (5 * u) = ks := by show w 11 (5 * u) = _; rw [rv.usort u (by omega)]; exact hks
      have e113 : (ubf (ubf w 93 o) 99 g) 11 (5 * u + 3) = s (33 + 5 * u) := rv.uhour u (by omega)
      have e114 : (ubf (ubf w 93 o) 99 g) 11 (5 * u + 4) = s (33 + 5 * u) + s (23 + ks) := by
        show w 11 (5 * u + 4) = _
        rw [rv.spo u (by omega), hks, Int.toNat_natCast]
      have ww := hs.wwho v (by omega)
      have wb := hs.wby v (by omega)
      have pe := hs.pe
      obtain ⟨q, hq⟩ := Int.eq_ofNat_of_zero_le ww.1
      have f10 : (ubf (ubf w 93 o) 99 g) 93 10 = o 10 := rfl
      have f9 : (ubf (ubf w 93 o) 99 g) 93 9 = o 9 := rfl
      have lh : lastH s u v = min (s (112 + 4 * v)) (s (33 + 5 * u) + s (23 + ks) - 1) := by unfold lastH; rw [hks, Int.toNat_natCast]
      apply Ways_measureRooms_93_c8
      rw [e4, e93, ix4_1 (by omega), ix4_3 (by omega), ix4_0 (by omega), ix5_0 (by omega), ix5_3 (by omega), ix5_4 (by omega), ixs (k := v) (by omega), Int.toNat_natCast, Int.toNat_natCast, Int.toNat_natCast, Int.toNat_natCast, Int.toNat_natCast, Int.toNat_natCast, Int.toNat_natCast, e131, e133, e130, e110, e113, e114, f10, f9, f130, hq, hB1, w32_id (x := s (33 + 5 * u) + s (23 + ks) - 1) (by unfold in32; omega), w32_id (x := min (s (112 + 4 * v)) (s (33 + 5 * u) + s (23 + ks) - 1) - s (33 + 5 * u)) (by unfold in32; omega), up1_self]
      (repeat' (apply spl <;> intro))
      · exfalso; omega
      · (refine And.intro (by omega) ?_); (refine And.intro (by omega) ?_); (refine And.intro (by omega) ?_)
        (repeat' (apply spl <;> intro))
        · rename_i z
          have ro : roomS s u v = -1 := by unfold roomS; rw [hks, if_neg z]
          rw [ub_on]
          refine ih (v + 1) o _ (by omega) h1 h10 ⟨B, hB1, hB2⟩ (fun x hx => ?_) (fun x hx => ?_) (fun x hx => ?_)
          · rw [up1_ap]
            by_cases y : x = v
            · rw [if_pos y, y, ro]
            · rw [if_neg y]; exact h4 x (by omega)
          · rw [up1_ap]
            by_cases y : x = v
            · rw [if_pos y]; omega
            · rw [if_neg y]; exact h5 x (by omega)
          · rw [up1_ap]
            by_cases y : x = v
            · rw [if_pos y]; intro z; omega
            · rw [if_neg y]; exact h6 x (by omega)
        · rename_i z
          have z := Decidable.not_not.mp z
          have ro : roomS s u v = min (s (112 + 4 * v)) (s (33 + 5 * u) + s (23 + ks) - 1) - s (33 + 5 * u) := by unfold roomS; rw [hks, if_pos z, lh]
          have p := Nat.pow_le_pow_right (n := 2) (by omega) (show q ≤ 7 by omega)
          rw [show (2 : Nat) ^ 7 = 128 from rfl] at p
          have go : ∀ (B' : Nat), B' < 256 → (∀ i, tb (B : Int) i = true → tb (B' : Int) i = true) → (0 ≤ min (s (112 + 4 * v)) (s (33 + 5 * u) + s (23 + ks) - 1) - s (33 + 5 * u) → tb (B' : Int) q = true) → Wp (Cw (d + 1)) cd_Ways_measureRooms (0, 0, n1) Q 8 [mR 93, mI (v + 1 : Nat), none] [] (ub (ub (ub (ub (ubf (ubf w 93 o) 99 g) 99 v (-1)) 99 v (min (s (112 + 4 * v)) (s (33 + 5 * u) + s (23 + ks) - 1) - s (33 + 5 * u))) 93 10 (max (o 10) (min (s (112 + 4 * v)) (s (33 + 5 * u) + s (23 + ks) - 1) - s (33 + 5 * u)))) 93 9 (B' : Int)) := by
            intro B' hB' hsub hnew
            rw [mr4]
            refine ih (v + 1) _ _ (by omega) (fun i i1 i2 => ?_) ?_ ⟨B', ?_, hB'⟩ (fun x hx => ?_) (fun x hx => ?_) (fun x hx => ?_)
            · rw [up1_ap, if_neg i1, up1_ap, if_neg i2]; exact h1 i i1 i2
            · rw [up1_ap, if_neg (by decide), up1_ap, if_pos rfl]; omega
            · rw [up1_ap, if_pos rfl]
            · rw [up1_ap]
              by_cases y : x = v
              · rw [if_pos y, y, ro]
              · rw [if_neg y]; exact h4 x (by omega)
            · have e10 : up1 (up1 o 10 (max (o 10) (min (s (112 + 4 * v)) (s (33 + 5 * u) + s (23 + ks) - 1) - s (33 + 5 * u)))) 9 (B' : Int) 10 = max (o 10) (min (s (112 + 4 * v)) (s (33 + 5 * u) + s (23 + ks) - 1) - s (33 + 5 * u)) := by rw [up1_ap, if_neg (by decide), up1_ap, if_pos rfl]
              rw [e10, up1_ap]
              by_cases y : x = v
              · rw [if_pos y]; omega
              · rw [if_neg y]; have := h5 x (by omega); omega
            · rw [up1_ap, up1_ap, if_pos rfl]
              by_cases y : x = v
              · rw [if_pos y, y, f130, hq, Int.toNat_natCast]; exact hnew
              · rw [if_neg y]
                intro z2
                have := h6 x (by omega) z2
                rw [hB1] at this
                exact hsub _ this
          refine ⟨by omega, by omega, by omega, by omega, by omega, by omega, ?_⟩
          (repeat' (apply spl <;> intro))
          · (refine And.intro (by omega) ?_)
            rw [ishl1 (by omega), ior_nat (by omega) (by omega)]
            refine go _ (Nat.or_lt_two_pow (n := 8) (by omega) (by omega)) (fun i hi => ?_) (fun _ => ?_)
            · rw [tb_natw] at hi ⊢
              rw [tbit_or_pow]
              rw [Bool.and_eq_true] at hi ⊢
              exact ⟨hi.1, by rw [hi.2]; rfl⟩
            · rw [tb_natw, tbit_or_pow]; simp; omega
          · rename_i z2
            rw [show (0 : Int) = ((0 : Nat) : Int) from rfl, ior_nat (by omega) (by omega), Nat.or_zero]
            exact go B hB2 (fun _ h => h) (fun z3 => absurd z3 z2)
  have e := lp W 0 (up1 (up1 (w 93) 9 0) 10 (-1)) (w 99) (by omega) (fun i i1 i2 => by rw [up1_ap, if_neg i2, up1_ap, if_neg i1]) (by rw [up1_ap, if_pos rfl]; omega) ⟨0, by rw [up1_ap, if_neg (by decide), up1_ap, if_pos rfl]; rfl, by omega⟩ (fun x hx => by omega) (fun x hx => by omega) (fun x hx => by omega)
  refine cw3_ e ?_
  funext c i
  simp only [ub_ap, ubf_ap, up1_ap]
  by_cases z1 : c = 99
  · simp [z1]
  · by_cases z2 : c = 93
    · simp [z2]
    · simp [z1, z2]

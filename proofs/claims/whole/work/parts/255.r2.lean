theorem put_fin {w : Wd} {T : Tm} {pre : List Nat} (hs : StA T w pre) (q : Nat) (hq : q < 8) (htr : w 156 pre.length = (q : Int) + 1) (c tt hh pp aa : Int) (hc : c = ((q :: pre).count q : Nat)) (ht : tt = (tmN T (q :: pre) : Nat)) (e1 : hh = (hoL T (q :: pre) : Nat)) (e2 : pp = (paL T (q :: pre) : Nat)) (e3 : aa = (asL T (q :: pre) : Nat)) :
    Fr [144, 155, 157, 158, 159, 160] w (ub (ub (ub (ub (ub (ub w 155 pre.length q) 160 q c) 144 34 tt) 157 pre.length hh) 158 pre.length pp) 159 pre.length aa) ∧ (∀ i, i ≠ 34 → (ub (ub (ub (ub (ub (ub w 155 pre.length q) 160 q c) 144 34 tt) 157 pre.length hh) 158 pre.length pp) 159 pre.length aa) 144 i = w 144 i) ∧ StA T (ub (ub (ub (ub (ub (ub w 155 pre.length q) 160 q c) 144 34 tt) 157 pre.length hh) 158 pre.length pp) 159 pre.length aa) (q :: pre) := by
  refine ⟨?_, ?_, ?_⟩
  · refine Fr.ub (Fr.ub (Fr.ub (Fr.ub (Fr.ub (Fr.ub (Fr.rfl' _ _) ?_) ?_) ?_) ?_) ?_) ?_ <;> decide
  · intro i hi
    show up1 (w 144) 34 tt i = w 144 i
    rw [up1_ap, if_neg hi]
  · obtain ⟨h1, h2, h3⟩ := hs
    refine ⟨⟨⟨?_, hq, htr, ?_, ?_, ?_⟩, ?_⟩, ?_, ?_⟩
    · show up1 (w 155) pre.length q pre.length = q
      rw [up1_ap, if_pos rfl]
    · show up1 (w 157) pre.length hh pre.length = _
      rw [up1_ap, if_pos rfl, e1]
    · show up1 (w 158) pre.length pp pre.length = _
      rw [up1_ap, if_pos rfl, e2]
    · show up1 (w 159) pre.length aa pre.length = _
      rw [up1_ap, if_pos rfl, e3]
    · refine RowOk_ext (fun i hi => ⟨?_, rfl, ?_, ?_, ?_⟩) h1
      · show up1 (w 155) pre.length q i = w 155 i
        rw [up1_ap, if_neg (by omega)]
      · show up1 (w 157) pre.length hh i = w 157 i
        rw [up1_ap, if_neg (by omega)]
      · show up1 (w 158) pre.length pp i = w 158 i
        rw [up1_ap, if_neg (by omega)]
      · show up1 (w 159) pre.length aa i = w 159 i
        rw [up1_ap, if_neg (by omega)]
    · intro x hx
      show up1 (w 160) q c x = _
      rw [up1_ap]
      by_cases z : x = q
      · rw [if_pos z, z, hc]
      · rw [if_neg z, h2 x hx, List.count_cons]
        have : (q == x) = false := by simp; omega
        rw [this]; simp
    · show up1 (w 144) 34 tt 34 = _
      rw [up1_ap, if_pos rfl, ht]
theorem cnt_bd {pre : List Nat} {q : Nat} : pre.count q ≤ pre.length := List.count_le_length
theorem S_put {d : Nat} {Q : MV → Wd → Prop} {w : Wd} {T : Tm} (h : RfT (w 144) (w 146) (w 151) (w 152) (w 153) (w 154) T) {pre : List Nat} (hs : StA T w pre) (hl : pre.length < T.n) (q : Nat) (hq : q < 8) (htr : w 156 pre.length = (q : Int) + 1)
    (k : ∀ w', Fr [144, 155, 157, 158, 159, 160] w w' → (∀ i, i ≠ 34 → w' 144 i = w 144 i) → StA T w' (q :: pre) → Q none w') : Cw (d + 1) 218 [mR 144, mI q, mI pre.length, mI T.n] w Q := by
  have hn6 := h.n6
  have cq := cnt_bd (pre := pre) (q := q)
  have hcq := hs.2.1 q hq
  have htm := hs.2.2
  have htl := tmN_lt h.tw9 pre
  have twl := h.tw9 q
  have htw := h.tw q hq
  have hbk := h.back
  have hcc : w32 (w 160 q + 1) = ((q :: pre).count q : Nat) := by
    rw [hcq, w32_id (by unfold in32; omega), List.count_cons_self]; omega
  have fin := fun tt hh pp aa => put_fin hs q hq htr (w32 (w 160 q + 1)) tt hh pp aa hcc
  have go : ∀ tt hh pp aa : Int, tt = (tmN T (q :: pre) : Nat) → hh = (hoL T (q :: pre) : Nat) → pp = (paL T (q :: pre) : Nat) → aa = (asL T (q :: pre) : Nat) → Q none (ub (ub (ub (ub (ub (ub w 155 pre.length q) 160 q (w32 (w 160 q + 1))) 144 34 tt) 157 pre.length hh) 158 pre.length pp) 159 pre.length aa) := fun tt hh pp aa a1 a2 a3 a4 => by
    obtain ⟨b1, b2, b3⟩ := fin tt hh pp aa a1 a2 a3 a4
    exact k _ b1 b2 b3
  clear fin hcc
  apply M_put_144_en
  intro n1
  rw [ixa_7 (by omega), Int.toNat_natCast, Int.toNat_natCast, Int.toNat_natCast, htw]
  -- the towns
  have step : ∀ s0 : Int, ixor (w 144 34) s0 = (tmN T (q :: pre) : Nat) → Wp (Cw (d + 0)) cd_M_put (0, 0, n1) Q 30 [mR 144, mI q, mI pre.length, mI T.n, none] [mI s0, mI (w 144 34), mR 144] (ub (ub w 155 pre.length q) 160 q (w32 (w 160 q + 1))) := by
    intro s0 hs0
    apply M_put_144_c30
    cases pre with
    | nil =>
      have l0 : (([] : List Nat).length : Int) = 0 := rfl
      (repeat' (apply spl <;> intro))
      · exfalso; omega
      · apply M_put_144_c46
        (repeat' (apply spl <;> intro))
        · exfalso; omega
        · apply M_put_144_c65
          (refine And.intro (by omega) ?_)
          (repeat' (apply spl <;> intro))
          · exfalso; omega
          · apply M_put_144_c84
            (refine And.intro (by omega) ?_)
            (repeat' (apply spl <;> intro))
            · exfalso; omega
            · apply M_put_144_c110
              (refine And.intro (by omega) ?_)
              rw [hs0]
              exact go _ 0 0 0 rfl rfl rfl rfl
    | cons p t =>
      obtain ⟨⟨⟨r1, r2, r3, r4, r5, r6⟩, _⟩, _⟩ := hs
      have ll : ((p :: t).length : Int) - 1 = (t.length : Int) := by simp
      have lt : t.length < 6 := by simp at hl; omega
      have l0 : ((p :: t).length : Int) = (t.length : Int) + 1 := by simp
      have g1 := h.hr p q r2 hq
      have g2 := h.pn p q r2 hq
      have g3 := h.ak q hq
      have b1 := hoL_bd h.hr9 (p :: t)
      have b2 := paL_bd h.pn9 (p :: t)
      have b3 := asL_bd h.ak9 (p :: t)
      have c1 := h.hr9 p q
      have c2 := h.pn9 p q
      have c3 := h.ak9 q
      simp only [List.length_cons] at b1 b2 b3
      have e1 : hoL T (q :: p :: t) = hoL T (p :: t) + T.hr p q := rfl
      have e2 : paL T (q :: p :: t) = paL T (p :: t) + T.pn p q := rfl
      have e3 : asL T (q :: p :: t) = asL T (p :: t) + (if (p :: t).length < T.n - 1 then T.ak q else 0) := rfl
      have nl : ¬ (t.length : Nat) = (p :: t).length := by simp
      have rw0 : (ub (ub w 155 (p :: t).length q) 160 q (w32 (w 160 q + 1))) 155 t.length = p := by
        show up1 (w 155) (p :: t).length q t.length = p
        rw [up1_ap, if_neg nl, r1]
      rw [ll, w32n (n := t.length) (by omega), Int.toNat_natCast, rw0, ix8b (by omega) (by omega)]
      (repeat' (apply spl <;> intro))
      · (refine And.intro (by omega) ?_)
        apply M_put_144_c46
        rw [ll, w32n (n := t.length) (by omega), Int.toNat_natCast, Int.toNat_natCast]
        (repeat' (apply spl <;> intro))
        · refine ⟨by omega, by omega, ?_⟩
          apply M_put_144_c65
          rw [ll, w32n (n := t.length) (by omega), Int.toNat_natCast, Int.toNat_natCast, Int.toNat_natCast]
          (refine And.intro (by omega) ?_)
          (repeat' (apply spl <;> intro))
          · refine ⟨by omega, by omega, ?_⟩
            apply M_put_144_c84
            rw [ll, w32n (n := t.length) (by omega), Int.toNat_natCast, Int.toNat_natCast, Int.toNat_natCast, w32_id (x := (T.n : Int) - 1) (by unfold in32; omega)]
            (refine And.intro (by omega) ?_)
            (repeat' (apply spl <;> intro))
            · (refine And.intro (by omega) ?_)
              have ea : ∀ A : Int, A = (if (p :: t).length < T.n - 1 then (T.ak q : Int) else 0) → Wp (Cw (d + 0)) cd_M_put (0, 0, n1) Q 109 [none, none, none, none, none] [mI A, mI (w 159 t.length), mI (p :: t).length, mR 159] (ub (ub (ub (ub (ub w 155 (p :: t).length q) 160 q (w32 (w 160 q + 1))) 144 34 (ixor (w 144 34) s0)) 157 (p :: t).length (w32 (w 157 t.length + w 153 (8 * p + q)))) 158 (p :: t).length (w32 (w 158 t.length + w 152 (8 * p + q)))) := by
                intro A hA
                apply M_put_144_c109
                apply M_put_144_c110
                (refine And.intro (by omega) ?_)
                rw [Int.toNat_natCast]
                refine go _ _ _ _ hs0 ?_ ?_ ?_
                · rw [r4, g1, e1, w32_id (by unfold in32; omega)]; omega
                · rw [r5, g2, e2, w32_id (by unfold in32; omega)]; omega
                · rw [r6, hA, e3]
                  by_cases z : (p :: t).length < T.n - 1
                  · rw [if_pos z, if_pos z, w32_id (by unfold in32; omega)]; omega
                  · rw [if_neg z, if_neg z, w32_id (by unfold in32; omega)]; omega
              (repeat' (apply spl <;> intro))
              · refine ea 0 ?_
                rw [if_neg (by omega)]
              · (refine And.intro (by omega) ?_)
                refine ea _ ?_
                rw [if_pos (by omega)]
                exact g3
            · exfalso; omega
          · exfalso; omega
        · exfalso; omega
      · exfalso; omega
  (refine And.intro (by omega) ?_); (refine And.intro (by omega) ?_); (refine And.intro (by omega) ?_)
  have e : tmN T (q :: pre) = tmN T pre ^^^ (if T.back = 3 then 2 ^ (T.tw q) else 0) := rfl
  (repeat' (apply spl <;> intro))
  · rename_i z
    refine step 0 ?_
    rw [htm, e, if_neg (by omega), show (0 : Int) = ((0 : Nat) : Int) from rfl, ixor_nat (by omega) (by omega)]
  · rename_i z
    (refine And.intro (by omega) ?_)
    refine step _ ?_
    have p := Nat.pow_le_pow_right (n := 2) (by omega) twl
    rw [show (2 : Nat) ^ 9 = 512 from rfl] at p
    rw [htm, e, if_pos (by omega), ishl1 (by omega), ixor_nat (by omega) (by omega)]
/-- taking the last one away -/
theorem away_fin {w : Wd} {T : Tm} {q : Nat} {pre : List Nat} (hs : StA T w (q :: pre)) (c tt : Int) (hc : c = w 160 q - 1) (ht : tt = (tmN T pre : Nat)) : StA T (ub (ub w 160 q c) 144 34 tt) pre := by
  obtain ⟨⟨⟨_, hq, _⟩, h1⟩, h2, h3⟩ := hs
  refine ⟨h1, ?_, ?_⟩
  · intro x hx
    show up1 (w 160) q c x = _
    have e := h2 x hx
    rw [List.count_cons] at e
    rw [up1_ap]
    by_cases z : x = q
    · subst z
      rw [if_pos rfl, hc, e]
      simp
    · rw [if_neg z, e]
      have : (q == x) = false := by simp; omega
      rw [this]; simp
  · show up1 (w 144) 34 tt 34 = _
    rw [up1_ap, if_pos rfl, ht]
theorem tm_away {T : Tm} (ht : ∀ q, T.tw q ≤ 9) (q : Nat) (pre : List Nat) : (T.back = 3 → ixor ((tmN T (q :: pre) : Nat) : Int) (ishl 1 (T.tw q)) = (tmN T pre : Nat)) ∧ (¬ T.back = 3 → ixor ((tmN T (q :: pre) : Nat) : Int) 0 = (tmN T pre : Nat)) := by
  have a := tmN_lt ht pre
  have b := tmN_lt ht (q :: pre)
  have e : tmN T (q :: pre) = tmN T pre ^^^ (if T.back = 3 then 2 ^ (T.tw q) else 0) := rfl
  have p := Nat.pow_le_pow_right (n := 2) (by omega) (ht q)
  rw [show (2 : Nat) ^ 9 = 512 from rfl] at p
  have tq := ht q
  constructor
  · intro z
    rw [ishl1 (by omega), ixor_nat (by omega) (by omega), e, if_pos z, Nat.xor_assoc, Nat.xor_self, Nat.xor_zero]
  · intro z
    rw [show (0 : Int) = ((0 : Nat) : Int) from rfl, ixor_nat (by omega) (by omega), e, if_neg z, Nat.xor_zero, Nat.xor_zero]

theorem TmB_told {s : Nat → Int} (ws : WS s) : TmB (TmS s) := by
  obtain ⟨b1, b2, b3, b4, b5, b6, b7, b8, b9⟩ := TmS_bd ws
  exact (TmB.mk (b1) (b2) (b3) (b6) (b5) (b7) (b9))
theorem TmS_n {s : Nat → Int} (ws : WS s) : ((TmS s).n : Int) = s 4 := by
  have := ws.la
  show ((s 4).toNat : Int) = s 4; omega
theorem S_asTold_144 {d : Nat} {Q : MV → Wd → Prop} {w : Wd} (k : ∀ w', Fr [144, 151, 152, 153, 154] w w' → (∀ i, i ≠ 25 → i ≠ 26 → i ≠ 27 → w' 144 i = w 144 i) → w' 144 25 = w 146 4 → w' 144 26 = w 146 5 → w' 144 27 = 255 → (∀ k, k < 64 → w' 151 k = w 146 (269 + k) ∧ w' 152 k = w 146 (141 + k) ∧ w' 153 k = w 146 (205 + k)) → (∀ k, k < 8 → w' 154 k = w 146 (15 + k)) → Q none w') : Cw (d + 1) 208 [mR 144] w Q := by
  apply M_asTold_144_en
  intro n1
  have l39 : ∀ (a b c : Nat → Int), (∀ k, k < 64 → a k = w 146 (269 + k) ∧ b k = w 146 (141 + k) ∧ c k = w 146 (205 + k)) → ∀ (m i : Nat) (e : Nat → Int), i + m = 8 → (∀ k, k < i → e k = w 146 (15 + k)) → Wp (Cw (d + 0)) cd_M_asTold (0, 0, n1) Q 39 [mR 144, mI i] [] (ubf (ubf (ubf (ubf w 151 a) 152 b) 153 c) 154 e) := by
    intro a b c habc m
    induction m with
    | zero =>
      intro i e hi he
      apply M_asTold_144_c39
      (repeat' (apply spl <;> intro))
      · refine k _ ?_ ?_ rfl rfl rfl habc (fun k hk => he k (by omega))
        · refine Fr.ub (Fr.ub (Fr.ub (Fr.ubf (Fr.ubf (Fr.ubf (Fr.ubf (Fr.rfl' _ _) ?_) ?_) ?_) ?_) ?_) ?_) ?_ <;> decide
        · intro i i1 i2 i3
          show up1 (up1 (up1 (w 144) 25 _) 26 _) 27 255 i = w 144 i
          rw [up1_ap, if_neg i3, up1_ap, if_neg i2, up1_ap, if_neg i1]
      · exfalso; omega
    | succ m ih =>
      intro i e hi he
      have e146 : (ubf (ubf (ubf (ubf w 151 a) 152 b) 153 c) 154 e) 146 (15 + i) = w 146 (15 + i) := rfl
      apply M_asTold_144_c39
      rw [ixa_15 (by omega), Int.toNat_natCast, Int.toNat_natCast, e146, ixs (k := i) (by omega), ub_on]
      (repeat' (apply spl <;> intro))
      · exfalso; omega
      · (refine And.intro (by omega) ?_); (refine And.intro (by omega) ?_)
        refine ih (i + 1) _ (by omega) (fun k hk => ?_)
        rw [up1_ap]
        by_cases z : k = i
        · rw [if_pos z, z]
        · rw [if_neg z]; exact he k (by omega)
  have l2 : ∀ (m i : Nat) (a b c : Nat → Int), i + m = 64 → (∀ k, k < i → a k = w 146 (269 + k) ∧ b k = w 146 (141 + k) ∧ c k = w 146 (205 + k)) → Wp (Cw (d + 0)) cd_M_asTold (0, 0, n1) Q 2 [mR 144, mI i] [] (ubf (ubf (ubf w 151 a) 152 b) 153 c) := by
    intro m
    induction m with
    | zero =>
      intro i a b c hi h
      apply M_asTold_144_c2
      (repeat' (apply spl <;> intro))
      · have e := l39 a b c (fun k hk => h k (by omega)) 8 0 (w 154) (by omega) (fun k hk => by omega)
        have ew : ubf (ubf (ubf (ubf w 151 a) 152 b) 153 c) 154 (w 154) = ubf (ubf (ubf w 151 a) 152 b) 153 c := ubf_sf0 (ubf (ubf (ubf w 151 a) 152 b) 153 c) 154
        rw [ew] at e
        exact e
      · exfalso; omega
    | succ m ih =>
      intro i a b c hi h
      have e146 : ∀ j, (ubf (ubf (ubf w 151 a) 152 b) 153 c) 146 j = w 146 j := fun _ => rfl
      have ew : ∀ x y z : Int, ub (ub (ub (ubf (ubf (ubf w 151 a) 152 b) 153 c) 151 i x) 152 i y) 153 i z = ubf (ubf (ubf w 151 (up1 a i x)) 152 (up1 b i y)) 153 (up1 c i z) := by
        intro x y z
        funext c' t
        simp only [ub_ap, ubf_ap, up1_ap]
        by_cases z1 : c' = 153
        · simp [z1]
        · by_cases z2 : c' = 152
          · simp [z2]
          · by_cases z3 : c' = 151 <;> simp [z1, z2, z3]
      apply M_asTold_144_c2
      rw [ixa_269 (by omega), ixa_141 (by omega), ixa_205 (by omega), Int.toNat_natCast, Int.toNat_natCast, Int.toNat_natCast, Int.toNat_natCast, e146, e146, e146, ixs (k := i) (by omega), ew]
      (repeat' (apply spl <;> intro))
      · exfalso; omega
      · (refine And.intro (by omega) ?_); (refine And.intro (by omega) ?_); (refine And.intro (by omega) ?_); (refine And.intro (by omega) ?_); (refine And.intro (by omega) ?_); (refine And.intro (by omega) ?_)
        refine ih (i + 1) _ _ _ (by omega) (fun k hk => ?_)
        rw [up1_ap, up1_ap, up1_ap]
        by_cases z : k = i
        · rw [if_pos z, if_pos z, if_pos z, z]; exact ⟨rfl, rfl, rfl⟩
        · rw [if_neg z, if_neg z, if_neg z]; exact h k (by omega)
  have e := l2 64 0 (w 151) (w 152) (w 153) (by omega) (fun k hk => by omega)
  refine cw3_ e ?_
  funext c' t
  simp only [ubf_ap]
  by_cases z1 : c' = 153
  · simp [z1]
  · by_cases z2 : c' = 152
    · simp [z2]
    · by_cases z3 : c' = 151 <;> simp [z1, z2, z3]
theorem S_reset_94 {d : Nat} {Q : MV → Wd → Prop} {w : Wd} (k : ∀ w', Fr [94, 95, 96, 97] w w' → w' 94 1 = w 4 15 → w' 94 2 = w 4 16 → w' 94 6 = -1 → w' 94 7 = -1 → (∀ i, i < 8 → w' 95 i = w 8 i) → (∀ i, i < 64 → w' 96 i = w 14 i) → (∀ i, i < 64 → w' 97 i = w 15 i) → Q none w') : Cw (d + 2) 56 [mR 94] w Q := by
  apply Terms_reset_94_en
  refine S_copyAll 8 95 8 rfl rfl rfl rfl (by decide) (by decide) ?_
  intro g1 a1 _
  refine S_copyAll 14 96 64 rfl rfl rfl rfl (by decide) (by decide) ?_
  intro g2 a2 _
  refine S_copyAll 15 97 64 rfl rfl rfl rfl (by decide) (by decide) ?_
  intro g3 a3 _
  refine k _ ?_ rfl rfl rfl rfl a1 a2 a3
  refine Fr.ub (Fr.ub (Fr.ubf (Fr.ubf (Fr.ubf (Fr.ub (Fr.ub (Fr.rfl' _ _) ?_) ?_) ?_) ?_) ?_) ?_) ?_ <;> decide
def cM : List Nat := [92, 93, 98, 99, 100, 101, 102, 103, 104, 105, 106, 107, 108, 110, 111]
theorem cC9_M : ∀ c, c ∈ cC9 → c ∈ cM := by decide
/-- what a weighing leaves: keys of all rows, who does, the best -/
def WghD (T : Tm) (s : Nat → Int) (f92 f107 f108 : Nat → Int) : Prop := (∀ u v : Nat, (u : Int) < s 2 → (v : Int) < s 3 → f107 (8 * u + v) = keyO T (wayO T s u v)) ∧ (∃ D : Nat → Nat, (∀ v : Nat, (v : Int) < s 3 → f108 v = D v) ∧ (∀ v, D v < 2 ^ (s 2).toNat) ∧ ∀ u v : Nat, (u : Int) < s 2 → (v : Int) < s 3 → ((D v).testBit u = true ↔ (wayO T s u v).isSome = true)) ∧ (IsMax (s 3).toNat (adjP (woS s) (adjS T s) (coS T s)) (cL (netD (woS s) (coS T s))) (s 2).toNat (f92 7))
theorem WghD.mk {T : Tm} {s : Nat → Int} {f92 f107 f108 : Nat → Int} (key_ : ∀ u v : Nat, (u : Int) < s 2 → (v : Int) < s 3 → f107 (8 * u + v) = keyO T (wayO T s u v)) (doer_ : ∃ D : Nat → Nat, (∀ v : Nat, (v : Int) < s 3 → f108 v = D v) ∧ (∀ v, D v < 2 ^ (s 2).toNat) ∧ ∀ u v : Nat, (u : Int) < s 2 → (v : Int) < s 3 → ((D v).testBit u = true ↔ (wayO T s u v).isSome = true)) (top_ : IsMax (s 3).toNat (adjP (woS s) (adjS T s) (coS T s)) (cL (netD (woS s) (coS T s))) (s 2).toNat (f92 7)) : WghD T s f92 f107 f108 := And.intro key_ (And.intro doer_ (top_))
theorem WghD.key {T : Tm} {s : Nat → Int} {f92 f107 f108 : Nat → Int} (h_ : WghD T s f92 f107 f108) : ∀ u v : Nat, (u : Int) < s 2 → (v : Int) < s 3 → f107 (8 * u + v) = keyO T (wayO T s u v) := h_.1
theorem WghD.doer {T : Tm} {s : Nat → Int} {f92 f107 f108 : Nat → Int} (h_ : WghD T s f92 f107 f108) : ∃ D : Nat → Nat, (∀ v : Nat, (v : Int) < s 3 → f108 v = D v) ∧ (∀ v, D v < 2 ^ (s 2).toNat) ∧ ∀ u v : Nat, (u : Int) < s 2 → (v : Int) < s 3 → ((D v).testBit u = true ↔ (wayO T s u v).isSome = true) := h_.2.1
theorem WghD.top {T : Tm} {s : Nat → Int} {f92 f107 f108 : Nat → Int} (h_ : WghD T s f92 f107 f108) : IsMax (s 3).toNat (adjP (woS s) (adjS T s) (coS T s)) (cL (netD (woS s) (coS T s))) (s 2).toNat (f92 7) := h_.2.2
theorem keyO_now {T : Tm} (hb : TmB T) {s : Nat → Int} {u v : Nat} : keyO T (wayO T s u v) ≠ NOW ↔ (wayO T s u v).isSome = true := by
  cases o : wayO T s u v with
  | none => simp [keyO]
  | some b =>
    obtain ⟨c1, c2, c3, _⟩ := wayO_bd hb o
    have := keyL_now c1 c2 c3
    constructor
    · intro _; rfl
    · intro _
      show keyL T b ≠ NOW
      omega
theorem ChoD_key {T : Tm} (hb : TmB T) {s g107 g108 : Nat → Int} {D : Nat → Nat} (c : ChoD T (-1) 0 s (s 2).toNat (s 3).toNat g107 g108 D) {u v : Nat} (hu : (u : Int) < s 2) (hv : (v : Int) < s 3) : g107 (8 * u + v) = keyO T (wayO T s u v) := by
  have h := c.key u v (by omega) (by omega)
  have e : keyW T (-1) 0 = keyL T := by funext r; exact keyW0 T (-1) r
  rw [e] at h
  exact h.uniq (wayO_least hb.P8 hb.n6 hb.hr9 hb.pn9 hb.ak9)
theorem S_weigh_92 {d : Nat} {Q : MV → Wd → Prop} {w : Wd} {s nms : Nat → Int} {T : Tm} (rv : RV (w 4) (w 5) (w 6) (w 7) (w 8) (w 9) (w 10) (w 11) (w 12) (w 13) (w 14) (w 15) s nms) (ws : WS s) (hb : TmB T) (wat : w 93 2 = -1) (ct : CtT (w 4) (w 7) (w 94) (w 95) (w 96) (w 97) (-1) T)
    (k : ∀ w', Fr cM w w' → (∀ i, i ≠ 7 → i ≠ 8 → i ≠ 9 → i ≠ 10 → w' 93 i = w 93 i) → WghD T s (w' 92) (w' 107) (w' 108) → Q none w') : Cw (d + 15) 57 [mR 92] w Q := by
  have un := ws.un
  have wa := ws.wa
  apply Meeting_weigh_92_en
  refine S_walkAll_93 rv ws (T := T) (by rw [wat]; exact ct) (s 2).toNat (s 3).toNat (by omega) (by omega) ?_
  intro w1 hF1 h93 hk
  rw [wat] at hk
  have f : ∀ c, c ∉ cC9 → w1 c = w c := fun c hc => hF1 c hc
  have rv1 : RV (w1 4) (w1 5) (w1 6) (w1 7) (w1 8) (w1 9) (w1 10) (w1 11) (w1 12) (w1 13) (w1 14) (w1 15) s nms := by
    rw [f 4 (by decide), f 5 (by decide), f 6 (by decide), f 7 (by decide), f 8 (by decide), f 9 (by decide), f 10 (by decide), f 11 (by decide), f 12 (by decide), f 13 (by decide), f 14 (by decide), f 15 (by decide)]
    exact rv
  refine S_choose_92 (d := d + 11) rv1 ws hb.P8 hb.n2 hb.n6 hb.hr9 hb.pn9 hb.ak9 hb.gvi (s 2).toNat (s 3).toNat (by omega) (by omega) 0 (by omega) (wt := -1) (by rw [f 12 (by decide)]; exact hk) ?_
  intro g107 g108 D hD
  have hkey : ∀ u v : Nat, (u : Int) < s 2 → (v : Int) < s 3 → g107 (8 * u + v) = keyO T (wayO T s u v) := fun u v hu hv => ChoD_key hb hD hu hv
  have md := MtD_of hb ws rv1 hkey
  refine S_solve_92 (d := d + 9) (w := ubf (ubf w1 107 g107) 108 g108) md ?_
  intro t o a g ho ht hmax
  refine k _ ?_ ?_ ?_
  · refine Fr.ubf (Fr.ubf (Fr.ubf (Fr.ubf (Fr.ubf (Fr.tr (Fr.rfl' cM w) hF1 cC9_M) ?_) ?_) ?_) ?_) ?_ <;> decide
  · exact h93
  · refine (WghD.mk (hkey) (⟨D, fun v hv => hD.doer v (by omega), hD.lt, fun u v hu hv => ?_⟩) ?_)
    · rw [hD.bit u v (by omega) (by omega), hkey u v hu hv]
      exact keyO_now hb
    · show IsMax _ _ _ _ (o 7)
      rw [ht]; exact hmax
theorem toldC_sub : ∀ c, c ∈ [0, 92, 93, 94, 95, 96, 97, 98, 99, 100, 101, 102, 103, 104, 105, 106, 107, 108, 109, 110, 111] → c ∈ scrL := by decide
theorem S_asTold_0 {d : Nat} {Q : MV → Wd → Prop} {w : Wd} (h : Inv w) (k : ∀ w', Inv w' → w' 0 12 = 0 → Fr [0, 92, 93, 94, 95, 96, 97, 98, 99, 100, 101, 102, 103, 104, 105, 106, 107, 108, 109, 110, 111] w w' → (∀ i, i ≠ 12 → w' 0 i = w 0 i) → Q (mR 92) w') : Cw (d + 16) 55 [mR 0] w Q := by
  apply X_asTold_0_en
  refine ⟨fun z => k w h z (Fr.rfl' _ _) (fun _ _ => rfl), fun _ => ?_⟩
  refine S_reset_94 (d := d + 13) ?_
  intro w1 hF1 a1 a2 a3 a4 a5 a6 a7
  have f : ∀ c, c ∉ [94, 95, 96, 97] → w1 c = w c := fun c hc => hF1 c hc
  have rv1 : RV (w1 4) (w1 5) (w1 6) (w1 7) (w1 8) (w1 9) (w1 10) (w1 11) (w1 12) (w1 13) (w1 14) (w1 15) (w 146) (w 149) := by
    rw [f 4 (by decide), f 5 (by decide), f 6 (by decide), f 7 (by decide), f 8 (by decide), f 9 (by decide), f 10 (by decide), f 11 (by decide), f 12 (by decide), f 13 (by decide), f 14 (by decide), f 15 (by decide)]
    exact h.rv
  have ct : CtT (w1 4) (w1 7) (w1 94) (w1 95) (w1 96) (w1 97) (-1) (TmS (w 146)) := by
    refine CtT_told h.ws rv1 ?_ ?_ a3 a4 ?_ ?_ ?_
    · rw [a1, h.rv.n]
    · rw [a2, h.rv.back]
    · intro i hi; rw [a5 i hi, f 8 (by decide)]
    · intro i hi; rw [a6 i hi, f 14 (by decide)]
    · intro i hi; rw [a7 i hi, f 15 (by decide)]
  refine S_weigh_92 (d := d) rv1 h.ws (TmB_told h.ws) (by rw [f 93 (by decide)]; exact h.wat.1) ct ?_
  intro w2 hF2 h93 hw
  have fr : Fr [0, 92, 93, 94, 95, 96, 97, 98, 99, 100, 101, 102, 103, 104, 105, 106, 107, 108, 109, 110, 111] w (ub w2 0 12 0) := by
    refine Fr.ub (Fr.tr (Fr.tr (Fr.rfl' _ w) hF1 (by decide)) hF2 (by decide)) (by decide)
  have f0 : w2 0 = w 0 := by rw [hF2 0 (by decide), f 0 (by decide)]
  have f144 : w2 144 = w 144 := by rw [hF2 144 (by decide), f 144 (by decide)]
  have f113 : w2 113 = w 113 := by rw [hF2 113 (by decide), f 113 (by decide)]
  have f94 : w2 94 = w1 94 := hF2 94 (by decide)
  have f96 : w2 96 = w1 96 := hF2 96 (by decide)
  refine k _ ?_ rfl fr (fun i hi => ?_)
  · refine Inv.gen h (fun c hc => fr c (fun q => hc (toldC_sub c q))) ?_ (Or.inl rfl) (fun _ => ?_) ?_ (fun i _ => ?_)
    · show w2 0 1 = w 0 1 ∧ w2 0 2 = w 0 2
      rw [f0]; exact ⟨rfl, rfl⟩
    · refine ⟨hw.key, hw.doer, hw.top, ?_, fun k hk ht => ?_⟩
      · show w2 94 1 = _
        rw [f94, a1, h.rv.n]
      · show w2 96 k = _
        rw [f96, a6 k hk]; exact (h.rv.told k hk ht).1
    · show w2 93 2 = -1 ∧ w2 113 2 = -1
      rw [h93 2 (by decide) (by decide) (by decide) (by decide), f 93 (by decide), f113]; exact h.wat
    · show w2 144 i = w 144 i
      rw [f144]
  · show up1 (w2 0) 12 0 i = w 0 i
    rw [up1_ap, if_neg hi, f0]

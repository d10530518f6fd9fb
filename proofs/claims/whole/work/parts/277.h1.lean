theorem S_supposing {d : Nat} {P : Wd → Prop} {w : Wd} (k : ∀ w', Fr [114, 115, 116, 117] w w' → w' 114 1 = w 4 15 → w' 114 2 = w 4 16 → w' 114 6 = -1 → w' 114 7 = -1 → (∀ i, i < 8 → w' 115 i = w 8 i) → (∀ i, i < 64 → w' 116 i = w 14 i) → (∀ i, i < 64 → w' 117 i = w 15 i) → P w') : Cw (d + 3) 117 [mR 0] w (fun r v => r = mR 112 ∧ P v) := by
  apply X_supposing_0_en
  refine S_reset_114 (d := d) ?_
  intro w' a b c e f g h i
  exact ⟨rfl, k w' a b c e f g h i⟩
/-- what a finding leaves -/
def FndD (T : Tm) (s : Nat → Int) (f108 : Nat → Int) : Prop := (∃ D : Nat → Nat, (∀ v : Nat, (v : Int) < s 3 → f108 v = D v) ∧ (∀ v, D v < 2 ^ (s 2).toNat) ∧ ∀ u v : Nat, (u : Int) < s 2 → (v : Int) < s 3 → ((D v).testBit u = true ↔ (wayO T s u v).isSome = true))
theorem FndD.mk {T : Tm} {s : Nat → Int} {f108 : Nat → Int} (doer_ : ∃ D : Nat → Nat, (∀ v : Nat, (v : Int) < s 3 → f108 v = D v) ∧ (∀ v, D v < 2 ^ (s 2).toNat) ∧ ∀ u v : Nat, (u : Int) < s 2 → (v : Int) < s 3 → ((D v).testBit u = true ↔ (wayO T s u v).isSome = true)) : FndD T s f108 := doer_
theorem FndD.doer {T : Tm} {s : Nat → Int} {f108 : Nat → Int} (h_ : FndD T s f108) : ∃ D : Nat → Nat, (∀ v : Nat, (v : Int) < s 3 → f108 v = D v) ∧ (∀ v, D v < 2 ^ (s 2).toNat) ∧ ∀ u v : Nat, (u : Int) < s 2 → (v : Int) < s 3 → ((D v).testBit u = true ↔ (wayO T s u v).isSome = true) := h_
def cFt : List Nat := [113, 118, 119, 120, 121, 122, 123, 124, 125, 126, 127, 128]
theorem cC9t_F : ∀ c, c ∈ cC9t → c ∈ cFt := by decide
theorem S_find_112 {d : Nat} {Q : MV → Wd → Prop} {w : Wd} {s nms : Nat → Int} {T : Tm} (rv : RV (w 4) (w 5) (w 6) (w 7) (w 8) (w 9) (w 10) (w 11) (w 12) (w 13) (w 14) (w 15) s nms) (ws : WS s) (hb : TmB T) (wat : w 113 2 = -1) (ct : CtT (w 4) (w 7) (w 114) (w 115) (w 116) (w 117) (-1) T)
    (k : ∀ w', Fr cFt w w' → (∀ i, i ≠ 7 → i ≠ 8 → i ≠ 9 → i ≠ 10 → w' 113 i = w 113 i) → FndD T s (w' 128) → Q none w') : Cw (d + 15) 150 [mR 112] w Q := by
  have un := ws.un
  have wa := ws.wa
  apply Meeting_find_112_en
  refine S_walkAll_113 rv ws (T := T) (by rw [wat]; exact ct) (s 2).toNat (s 3).toNat (by omega) (by omega) ?_
  intro w1 hF1 h93 hk
  rw [wat] at hk
  have f : ∀ c, c ∉ cC9t → w1 c = w c := fun c hc => hF1 c hc
  have rv1 : RV (w1 4) (w1 5) (w1 6) (w1 7) (w1 8) (w1 9) (w1 10) (w1 11) (w1 12) (w1 13) (w1 14) (w1 15) s nms := by
    rw [f 4 (by decide), f 5 (by decide), f 6 (by decide), f 7 (by decide), f 8 (by decide), f 9 (by decide), f 10 (by decide), f 11 (by decide), f 12 (by decide), f 13 (by decide), f 14 (by decide), f 15 (by decide)]
    exact rv
  refine S_choose_112 (d := d + 11) rv1 ws hb.P8 hb.n2 hb.n6 hb.hr9 hb.pn9 hb.ak9 hb.gvi (s 2).toNat (s 3).toNat (by omega) (by omega) 0 (by omega) (wt := -1) (by rw [f 12 (by decide)]; exact hk) ?_
  intro g107 g108 D hD
  refine k _ ?_ ?_ ?_
  · refine Fr.ubf (Fr.ubf (Fr.tr (Fr.rfl' cFt w) hF1 cC9t_F) ?_) ?_ <;> decide
  · exact h93
  · refine (FndD.mk (⟨D, fun v hv => hD.doer v (by omega), hD.lt, fun u v hu hv => ?_⟩))
    rw [hD.bit u v (by omega) (by omega), ChoD_key hb hD hu hv]
    exact keyO_now hb
/-- MOST out of who does -/
theorem S_most_112 {d : Nat} {Q : MV → Wd → Prop} {w : Wd} {s : Nat → Int} {T : Tm} (ws : WS s) (h4 : w 4 11 = s 3) (f : FndD T s (w 128)) (k : ∀ (v : Nat) (g : Nat → Int), v ≤ (s 3).toNat → IsMost (s 3).toNat (adjS T s) (s 2).toNat v → Q (mI v) (ubf w 129 g)) : Cw (d + 2) 87 [mR 112] w Q := by
  have un := ws.un
  have wa := ws.wa
  obtain ⟨D, d1, d2, d3⟩ := f.doer
  refine S_matched_112 (d := d) (w := w) (s 3).toNat (by omega) (by rw [h4]; omega) D (fun v hv => d1 v (by omega)) (s 2).toNat (by omega) d2 ?_
  intro v g hv hm
  exact k v g hv (IsMost.congr (adjS_bit d3) hm)
theorem WghD.fnd {T : Tm} {s f92 f107 f108 : Nat → Int} (h : WghD T s f92 f107 f108) : FndD T s f108 := (FndD.mk (h.doer))
/-- the sum and the count as they are read -/
theorem top_sum {T : Tm} {s : Nat → Int} (ws : WS s) {top : Int} (h : IsMax (s 3).toNat (adjP (woS s) (adjS T s) (coS T s)) (cL (netD (woS s) (coS T s))) (s 2).toNat top) : w32 (lshr top 44) = top / 17592186044416 := by
  obtain ⟨f, v1, v2, v3, v4, v5, v6, v7, v8⟩ := top_day ws h
  have wa := ws.wa
  have nb : netS (netD (woS s) (coS T s)) f ≤ 7992 := by
    have e : ∀ v, v < 8 → (if f v = 0 then (0 : Int) else netD (woS s) (coS T s) (16 - f v) v) ≤ 999 := by
      intro v _
      by_cases q : f v = 0
      · rw [if_pos q]; omega
      · rw [if_neg q]
        have a := (v1.1 v q).1
        have := ws.worth v (by omega)
        unfold netD woS
        omega
    have := sumZ_le (g := fun w => if f w = 0 then (0 : Int) else netD (woS s) (coS T s) (16 - f w) w) 999 (n := 8) e
    unfold netS val
    omega
  obtain ⟨tn, htn⟩ := Int.eq_ofNat_of_zero_le v3
  rw [htn] at v4 v6 ⊢
  have e := lshr_nat (a := tn) (n := 44) (by omega) (by omega)
  rw [show (2 : Nat) ^ 44 = 17592186044416 from rfl] at e
  rw [show (44 : Int) = ((44 : Nat) : Int) from rfl, e, w32_id (by unfold in32; omega)]
  omega
theorem valid_adjS {T : Tm} {s : Nat → Int} {f : Nat → Nat} (h : valid (s 3).toNat (adjP (woS s) (adjS T s) (coS T s)) (s 2).toNat f) : valid (s 3).toNat (adjS T s) (s 2).toNat f := by
  refine ⟨fun v hv => ?_, h.2⟩
  obtain ⟨a, b, c, e⟩ := h.1 v hv
  unfold adjP at e
  rw [Bool.and_eq_true] at e
  exact ⟨a, b, c, e.1⟩
/-- another law -/
def TmO (s : Nat → Int) (n b : Nat) : Tm := ⟨n, b, (TmS s).P, (TmS s).gv, (TmS s).pn, (TmS s).hr, (TmS s).ak, (TmS s).ha, (TmS s).tw⟩

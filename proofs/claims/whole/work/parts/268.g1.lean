/-! the village as told: terms on both sides -/
theorem n8_le {p q x b : Nat} (h : p < 8 → q < 8 → x ≤ b) : n8 p q x ≤ b := by
  unfold n8
  by_cases z : p < 8 ∧ q < 8
  · rw [if_pos z]; exact h z.1 z.2
  · rw [if_neg z]; omega
theorem n8_in {p q x : Nat} (hp : p < 8) (hq : q < 8) : n8 p q x = x := by unfold n8; rw [if_pos ⟨hp, hq⟩]
theorem TmS_bd {s : Nat → Int} (ws : WS s) : (TmS s).P ≤ 8 ∧ 2 ≤ (TmS s).n ∧ (TmS s).n ≤ 6 ∧ (TmS s).back ≤ 3 ∧ (∀ p q, (TmS s).pn p q ≤ 99) ∧ (∀ p q, (TmS s).hr p q ≤ 9) ∧ (∀ q, (TmS s).ak q ≤ 99) ∧ (∀ q, (TmS s).tw q ≤ 9) ∧ (∀ p, (TmS s).gv p p = false) := by
  have h0 := ws.pe
  have h4 := ws.la
  have h5 := ws.ba
  refine ⟨?_, ?_, ?_, ?_, fun p q => ?_, fun p q => ?_, fun q => ?_, fun q => ?_, fun p => ?_⟩
  · show (s 0).toNat ≤ 8; omega
  · show 2 ≤ (s 4).toNat; omega
  · show (s 4).toNat ≤ 6; omega
  · show (s 5).toNat ≤ 3; omega
  · exact n8_le (fun a b => by have := ws.pai (8 * p + q) (by omega); omega)
  · exact n8_le (fun a b => by have := ws.hou (8 * p + q) (by omega); omega)
  · exact n8_le (fun a _ => by have := ws.ask q a; omega)
  · exact n8_le (fun a _ => by have := ws.town q a; omega)
  · show (decide (p < 8 ∧ p < 8) && decide (s (269 + (8 * p + p)) = 1)) = false
    by_cases z : p < 8
    · have : ¬ s (269 + (8 * p + p)) = 1 := fun y => (ws.tin p p z z y).2.2 rfl
      rw [decide_eq_false this, Bool.and_false]
    · rw [decide_eq_false (fun y => z y.1), Bool.false_and]
theorem RfT_told {s o gv pn hr ak : Nat → Int} (ws : WS s) (h26 : o 26 = s 5) (h27 : o 27 = 255) (hg : ∀ k, k < 64 → gv k = s (269 + k)) (hp : ∀ k, k < 64 → pn k = s (141 + k)) (hh : ∀ k, k < 64 → hr k = s (205 + k)) (ha : ∀ k, k < 8 → ak k = s (15 + k)) : RfT o s gv pn hr ak (TmS s) := by
  obtain ⟨b1, b2, b3, b4, b5, b6, b7, b8, b9⟩ := TmS_bd ws
  have h0 := ws.pe
  have h5 := ws.ba
  refine (RfT.mk ?_ (b1) (b2) (b3) ?_ (b4) (fun q hq => ?_) (fun p q p8 q8 => ?_) (fun p q p8 q8 => ?_) (fun p q p8 q8 => ?_) (fun q q8 => ?_) (fun q q8 => ?_) (b5) (b6) (b7) (b8))
  · show s 0 = ((s 0).toNat : Int); omega
  · rw [h26]; show s 5 = ((s 5).toNat : Int); omega
  · rw [h27]
    have e : ∀ q : Fin 8, iand (ishr 255 ((q : Nat) : Int)) 1 = 1 := by decide
    have e := e ⟨q, hq⟩
    show iand (ishr 255 (q : Int)) 1 = if decide (q < 8) = true then 1 else 0
    rw [if_pos (by simp [hq])]; exact e
  · rw [hg _ (by omega)]
    have t := ws.told (8 * p + q) (by omega)
    show _ ↔ (decide (p < 8 ∧ q < 8) && decide (s (269 + (8 * p + q)) = 1)) = true
    rw [decide_eq_true (show p < 8 ∧ q < 8 from ⟨p8, q8⟩), Bool.true_and, decide_eq_true_eq]
    omega
  · rw [hp _ (by omega)]
    have t := ws.pai (8 * p + q) (by omega)
    show _ = ((n8 p q (s (141 + (8 * p + q))).toNat : Nat) : Int)
    rw [n8_in p8 q8]; omega
  · rw [hh _ (by omega)]
    have t := ws.hou (8 * p + q) (by omega)
    show _ = ((n8 p q (s (205 + (8 * p + q))).toNat : Nat) : Int)
    rw [n8_in p8 q8]; omega
  · rw [ha q q8]
    have t := ws.ask q q8
    show _ = ((n8 q 0 (s (15 + q)).toNat : Nat) : Int)
    rw [n8_in q8 (by omega)]; omega
  · have t := ws.town q q8
    show _ = ((n8 q 0 (s (7 + q)).toNat : Nat) : Int)
    rw [n8_in q8 (by omega)]; omega
theorem CtT_told {s nms v4 v5 v6 v7 v8 v9 v10 v11 v12 v13 v14 v15 tm ak pn hr : Nat → Int} (ws : WS s) (rv : RV v4 v5 v6 v7 v8 v9 v10 v11 v12 v13 v14 v15 s nms) (h1 : tm 1 = s 4) (h2 : tm 2 = s 5) (h6 : tm 6 = -1) (h7 : tm 7 = -1) (ha : ∀ k, k < 8 → ak k = v8 k) (hp : ∀ k, k < 64 → pn k = v14 k) (hh : ∀ k, k < 64 → hr k = v15 k) : CtT v4 v7 tm ak pn hr (-1) (TmS s) := by
  obtain ⟨b1, b2, b3, b4, b5, b6, b7, b8, b9⟩ := TmS_bd ws
  have h0 := ws.pe
  have h4 := ws.la
  have h5 := ws.ba
  have eP : ((TmS s).P : Int) = s 0 := by show ((s 0).toNat : Int) = s 0; omega
  refine (CtT.mk ?_ (b1) ?_ (b2) (b3) ?_ (b4) (fun q hq => ?_) (fun p q hp' hq' => ?_) (fun p q hp' hq' hg => ?_) (fun q hq => ?_) (fun p q hp' hq' => ?_) (b5) (b6) (b7) (Or.inl rfl))
  · rw [rv.people, eP]
  · rw [h1]; show s 4 = ((s 4).toNat : Int); omega
  · rw [h2]; show s 5 = ((s 5).toNat : Int); omega
  · rw [h6, tb_neg1]
    show decide (q < 32) = decide (q < 8)
    rw [decide_eq_true hq, decide_eq_true (by omega)]
  · rw [hp _ (by omega), h7, tb_neg1]
    have t := ws.told (8 * p + q) (by omega)
    show _ ↔ (decide (p < 8 ∧ q < 8) && decide (s (269 + (8 * p + q)) = 1)) = true
    rw [decide_eq_true (show p < 8 ∧ q < 8 from ⟨by omega, by omega⟩), Bool.true_and, decide_eq_true_eq, decide_eq_true_eq]
    constructor
    · intro ⟨x, _⟩
      rcases t with t | t
      · exact absurd (rv.untold _ (by omega) t) x
      · exact t
    · intro x
      have y := (rv.told _ (by omega) x).1
      have z := ws.pai (8 * p + q) (by omega)
      refine ⟨by omega, by omega⟩
  · rw [hp _ (by omega), hh _ (by omega)]
    have hg : (decide (p < 8 ∧ q < 8) && decide (s (269 + (8 * p + q)) = 1)) = true := hg
    rw [Bool.and_eq_true, decide_eq_true_eq, decide_eq_true_eq] at hg
    have y := rv.told _ (by omega) hg.2
    have z1 := ws.pai (8 * p + q) (by omega)
    have z2 := ws.hou (8 * p + q) (by omega)
    rw [y.1, y.2]
    show _ = ((n8 p q (s (141 + (8 * p + q))).toNat : Nat) : Int) ∧ _ = ((n8 p q (s (205 + (8 * p + q))).toNat : Nat) : Int)
    rw [n8_in hg.1.1 hg.1.2, n8_in hg.1.1 hg.1.2]; omega
  · rw [if_neg (by omega), ha q (by omega), rv.asks q (by omega)]
    have t := ws.ask q (by omega)
    show _ = ((n8 q 0 (s (15 + q)).toNat : Nat) : Int)
    rw [n8_in (by omega) (by omega)]; omega
  · rw [rv.mates p q (by omega)]
    have t1 := ws.town p (by omega)
    have t2 := ws.town q hq'
    have e1 : (TmS s).tw p = (s (7 + p)).toNat := n8_in (by omega) (by omega)
    have e2 : (TmS s).tw q = (s (7 + q)).toNat := n8_in hq' (by omega)
    rw [e1, e2]
    apply decide_eq_decide.mpr
    constructor
    · intro ⟨x, y⟩; exact ⟨by omega, by omega⟩
    · intro ⟨x, y⟩; exact ⟨by omega, by omega⟩
/-- what is taken by keys is what the rows say -/
theorem keyW0 (T : Tm) (wt : Int) (r : List Nat) : keyW T wt 0 r = keyL T r := by
  unfold keyW
  rw [Nat.zero_mul]; omega
theorem wayO_row {T : Tm} {s : Nat → Int} {u v : Nat} {b : List Nat} (P8 : T.P ≤ 8) (n6 : T.n ≤ 6) (hr9 : ∀ p q, T.hr p q ≤ 9) (pn9 : ∀ p q, T.pn p q ≤ 99) (ak9 : ∀ q, T.ak q ≤ 99) (h : wayO T s u v = some b) : b ∈ rowsO T s u ∧ hitS T s u v b = true ∧ ∀ r, r ∈ rowsO T s u → hitS T s u v r = true → keyL T b ≤ keyL T r := by
  unfold wayO at h
  unfold rowsO
  cases z : allF T s u
  · rw [z] at h; cases h
  · rw [z] at h
    rw [if_pos (rfl : true = true)] at h ⊢
    have := bestR_least (T := T) (fi := fiR s u) (hit := hitS T s u v) P8 (fun r hr _ => by
      have a := rows_mem hr
      have b := row_bd hr9 pn9 ak9 P8 n6 a.1 a.2
      exact b.2)
    rw [h] at this
    exact this
theorem wayO_least {T : Tm} {s : Nat → Int} {u v : Nat} (P8 : T.P ≤ 8) (n6 : T.n ≤ 6) (hr9 : ∀ p q, T.hr p q ≤ 9) (pn9 : ∀ p q, T.pn p q ≤ 99) (ak9 : ∀ q, T.ak q ≤ 99) : LeastK (rowsO T s u) (hitS T s u v) (keyL T) (keyO T (wayO T s u v)) := by
  unfold wayO rowsO
  cases z : allF T s u
  · exact leastK_nil _ _
  · rw [if_pos (rfl : true = true), if_pos (rfl : true = true)]
    exact bestR_leastK P8 (fun r hr _ => by
      have a := rows_mem hr
      have b := row_bd hr9 pn9 ak9 P8 n6 a.1 a.2
      exact b.2)
/-- a key's cost -/
theorem keyL_nat (T : Tm) (b : List Nat) : keyL T b = ((coL T b * 16777216 + hoL T b * 262144 + pthL b : Nat) : Int) := by unfold keyL; omega
theorem keyL_cost {T : Tm} {b : List Nat} (h1 : hoL T b < 64) (h2 : pthL b < 262144) : (coL T b * 16777216 + hoL T b * 262144 + pthL b) / 16777216 = coL T b := by omega
def TmB (T : Tm) : Prop := (T.P ≤ 8) ∧ (2 ≤ T.n) ∧ (T.n ≤ 6) ∧ (∀ p q, T.hr p q ≤ 9) ∧ (∀ p q, T.pn p q ≤ 99) ∧ (∀ q, T.ak q ≤ 99) ∧ (∀ p, T.gv p p = false)
theorem TmB.mk {T : Tm} (P8_ : T.P ≤ 8) (n2_ : 2 ≤ T.n) (n6_ : T.n ≤ 6) (hr9_ : ∀ p q, T.hr p q ≤ 9) (pn9_ : ∀ p q, T.pn p q ≤ 99) (ak9_ : ∀ q, T.ak q ≤ 99) (gvi_ : ∀ p, T.gv p p = false) : TmB T := And.intro P8_ (And.intro n2_ (And.intro n6_ (And.intro hr9_ (And.intro pn9_ (And.intro ak9_ (gvi_))))))
theorem TmB.P8 {T : Tm} (h_ : TmB T) : T.P ≤ 8 := h_.1
theorem TmB.n2 {T : Tm} (h_ : TmB T) : 2 ≤ T.n := h_.2.1
theorem TmB.n6 {T : Tm} (h_ : TmB T) : T.n ≤ 6 := h_.2.2.1
theorem TmB.hr9 {T : Tm} (h_ : TmB T) : ∀ p q, T.hr p q ≤ 9 := h_.2.2.2.1
theorem TmB.pn9 {T : Tm} (h_ : TmB T) : ∀ p q, T.pn p q ≤ 99 := h_.2.2.2.2.1
theorem TmB.ak9 {T : Tm} (h_ : TmB T) : ∀ q, T.ak q ≤ 99 := h_.2.2.2.2.2.1
theorem TmB.gvi {T : Tm} (h_ : TmB T) : ∀ p, T.gv p p = false := h_.2.2.2.2.2.2
theorem wayO_bd {T : Tm} (hb : TmB T) {s : Nat → Int} {u v : Nat} {b : List Nat} (h : wayO T s u v = some b) : coL T b ≤ 5000 ∧ hoL T b < 64 ∧ pthL b < 262144 ∧ b.length = T.n ∧ (∀ x, x ∈ b → x < T.P) ∧ chN T b ∧ hitS T s u v b = true := by
  have a := wayO_row hb.P8 hb.n6 hb.hr9 hb.pn9 hb.ak9 h
  obtain ⟨r1, r2, r3⟩ := rowsO_mem a.1
  have c := row_bd hb.hr9 hb.pn9 hb.ak9 hb.P8 hb.n6 r1 r2
  exact ⟨c.1, c.2.1, c.2.2, r1, r2, r3, a.2.1⟩
/-- the class's data, from keys that are the rows' -/
theorem MtD_of {T : Tm} (hb : TmB T) {s nms v4 v5 v6 v7 v8 v9 v10 v11 v12 v13 v14 v15 v107 : Nat → Int} (ws : WS s) (rv : RV v4 v5 v6 v7 v8 v9 v10 v11 v12 v13 v14 v15 s nms) (hk : ∀ u v : Nat, (u : Int) < s 2 → (v : Int) < s 3 → v107 (8 * u + v) = keyO T (wayO T s u v)) : MtD v4 v11 v13 v107 (s 2).toNat (s 3).toNat (s 1).toNat (fun u => (s (30 + 5 * u)).toNat) (fun v => (s (110 + 4 * v)).toNat) (woS s) (adjS T s) (coS T s) := by
  have un := ws.un
  have wa := ws.wa
  have so := ws.so
  refine (MtD.mk (by omega) (by omega) (by omega) (by rw [rv.sorts]; omega) (by rw [rv.units]; omega) (by rw [rv.wants]; omega) (fun u hu => ?_) (fun v hv => ?_) (fun v hv => ?_) (fun v hv => ?_) (fun u v h => ?_) (fun u v hu hv h => ?_) (fun u v hu hv h => ?_))
  · have := ws.usort u (by omega)
    rw [rv.usort u (by omega)]; omega
  · have := ws.wsort v (by omega)
    rw [rv.want _ (by omega), show 109 + (4 * v + 1) = 110 + 4 * v by omega]; omega
  · have := ws.worth v (by omega)
    unfold woS
    rw [rv.want _ (by omega), show 109 + (4 * v + 2) = 111 + 4 * v by omega]; omega
  · have := ws.wsort v (by omega)
    omega
  · obtain ⟨a, b, c⟩ := adjS_in h
    obtain ⟨r, hr⟩ := Option.isSome_iff_exists.mp c
    have hh := (wayO_bd hb hr).2.2.2.2.2.2
    have e : s (110 + 4 * v) = s (30 + 5 * u) := by
      unfold hitS at hh
      rw [Bool.and_eq_true, Bool.and_eq_true, decide_eq_true_eq] at hh
      exact hh.2.1
    refine ⟨by omega, by omega, ?_⟩
    rw [e]
  · rw [hk u v (by omega) (by omega)]
    have : (wayO T s u v).isSome = false := by
      unfold adjS at h
      rw [decide_eq_true (show (u : Int) < s 2 by omega), decide_eq_true (show (v : Int) < s 3 by omega)] at h
      simpa using h
    have e : wayO T s u v = none := by
      cases q : wayO T s u v with
      | none => rfl
      | some b => rw [q] at this; cases this
    rw [e]; rfl
  · obtain ⟨a, b, c⟩ := adjS_in h
    obtain ⟨r, hr⟩ := Option.isSome_iff_exists.mp c
    obtain ⟨c1, c2, c3, _⟩ := wayO_bd hb hr
    have ec : coS T s u v = coL T r := by unfold coS; rw [hr]; rfl
    rw [ec, hk u v a b, hr]
    refine ⟨c1, _, keyL_nat T r, by omega, keyL_cost c2 c3⟩
/-- the reference's data -/
theorem RfD_of {T : Tm} (hb : TmB T) {s v161 v162 v163 v164 : Nat → Int} (ws : WS s) (hk : ∀ u v : Nat, (u : Int) < s 2 → (v : Int) < s 3 → WayR T v161 v162 v163 v164 (8 * u + v) (wayO T s u v)) : RfD s v161 v163 (s 2).toNat (s 3).toNat (woS s) (adjS T s) (coS T s) (paS T s) := by
  have un := ws.un
  have wa := ws.wa
  refine (RfD.mk (by omega) (by omega) (by omega) (by omega) (fun v hv => ?_) (fun u v h => ?_) (fun u v hu hv h => ?_) (fun u v hu hv h => ?_))
  · have := ws.worth v (by omega)
    unfold woS; omega
  · obtain ⟨a, b, c⟩ := adjS_in h
    exact ⟨by omega, by omega⟩
  · have w := hk u v (by omega) (by omega)
    have : (wayO T s u v).isSome = false := by
      unfold adjS at h
      rw [decide_eq_true (show (u : Int) < s 2 by omega), decide_eq_true (show (v : Int) < s 3 by omega)] at h
      simpa using h
    have e : wayO T s u v = none := by
      cases q : wayO T s u v with
      | none => rfl
      | some b => rw [q] at this; cases this
    rw [e] at w
    have w : v161 (8 * u + v) = 1000000000 := w
    omega
  · obtain ⟨a, b, c⟩ := adjS_in h
    obtain ⟨r, hr⟩ := Option.isSome_iff_exists.mp c
    obtain ⟨c1, c2, c3, _⟩ := wayO_bd hb hr
    have w := hk u v a b
    rw [hr] at w
    obtain ⟨w1, w2, w3, w4⟩ := w
    have ec : coS T s u v = coL T r := by unfold coS; rw [hr]; rfl
    have ep : paS T s u v = paL T r := by unfold paS; rw [hr]; rfl
    have : paL T r ≤ coL T r := by unfold coL; omega
    rw [ec, ep, w1, w3]
    exact ⟨rfl, c1, rfl, by omega⟩

theorem TmS_ex {s t : Nat → Int} (e : ∀ i : Nat, i < 333 → t i = s i) : TmS t = TmS s := by
  have e1 : (fun p q => decide (p < 8 ∧ q < 8) && decide (t (269 + (8 * p + q)) = 1)) = (fun p q => decide (p < 8 ∧ q < 8) && decide (s (269 + (8 * p + q)) = 1)) := by
    funext p q
    by_cases z : p < 8 ∧ q < 8
    · rw [e _ (by omega)]
    · rw [decide_eq_false z, Bool.false_and, Bool.false_and]
  have e2 : ∀ k : Nat, k + 64 ≤ 333 → (fun p q => n8 p q (t (k + (8 * p + q))).toNat) = (fun p q => n8 p q (s (k + (8 * p + q))).toNat) := by
    intro k hk
    funext p q
    unfold n8
    by_cases z : p < 8 ∧ q < 8
    · rw [if_pos z, if_pos z, e _ (by omega)]
    · rw [if_neg z, if_neg z]
  have e3 : ∀ k : Nat, k + 8 ≤ 333 → (fun q => n8 q 0 (t (k + q)).toNat) = (fun q => n8 q 0 (s (k + q)).toNat) := by
    intro k hk
    funext q
    unfold n8
    by_cases z : q < 8 ∧ 0 < 8
    · rw [if_pos z, if_pos z, e _ (by omega)]
    · rw [if_neg z, if_neg z]
  unfold TmS
  rw [e 4 (by omega), e 5 (by omega), e 0 (by omega), e1, e2 141 (by omega), e2 205 (by omega), e3 15 (by omega), e3 7 (by omega)]
theorem wayO_ex {T : Tm} {s t : Nat → Int} (e : ∀ i : Nat, i < 333 → t i = s i) (ws : WS s) {u v : Nat} (hu : (u : Int) < s 2) (hv : (v : Int) < s 3) : wayO T t u v = wayO T s u v := by
  have un := ws.un
  have wa := ws.wa
  have us := ws.usort u hu
  have so := ws.so
  have a : allF T t u = allF T s u := by unfold allF; rw [e _ (by omega), e _ (by omega)]
  have b : fiR t u = fiR s u := by funext q; unfold fiR; rw [e _ (by omega), e _ (by omega)]
  have c : hitS T t u v = hitS T s u v := by
    funext r
    unfold hitS lastH
    rw [e (109 + 4 * v) (by omega), e (110 + 4 * v) (by omega), e (30 + 5 * u) (by omega), e (33 + 5 * u) (by omega), e (112 + 4 * v) (by omega), e (23 + (s (30 + 5 * u)).toNat) (by omega)]
  unfold wayO
  rw [a, b, c]
theorem isMax_congr {W : Nat} {adj adj' : Nat → Nat → Bool} {c c' : Nat → Nat → Int} {U : Nat} {v : Int} (e1 : adj = adj') (e2 : ∀ u w, adj u w = true → c u w = c' u w) (h : IsMax W adj c U v) : IsMax W adj' c' U v := by
  subst e1
  have ev : ∀ f, valid W adj U f → val c f = val c' f := by
    intro f hf
    unfold val
    apply sumZ_ext
    intro i _
    show (if f i = 0 then (0 : Int) else c (16 - f i) i) = (if f i = 0 then (0 : Int) else c' (16 - f i) i)
    by_cases z : f i = 0
    · rw [if_pos z, if_pos z]
    · rw [if_neg z, if_neg z, e2 _ _ (hf.1 i z).2.2.2]
  refine ⟨fun f hf => by rw [← ev f hf]; exact h.1 f hf, ?_⟩
  obtain ⟨f, a, b⟩ := h.2
  exact ⟨f, a, by rw [← ev f a]; exact b⟩
theorem adjS_in {T : Tm} {s : Nat → Int} {u v : Nat} (h : adjS T s u v = true) : (u : Int) < s 2 ∧ (v : Int) < s 3 ∧ (wayO T s u v).isSome = true := by
  unfold adjS at h
  rw [Bool.and_eq_true, Bool.and_eq_true, decide_eq_true_eq, decide_eq_true_eq] at h
  exact ⟨h.1.1, h.1.2, h.2⟩
theorem Told.ex {mt wy tm ps ch dr s t : Nat → Int} (e : ∀ i : Nat, i < 333 → t i = s i) (ws : WS s) (h : Told mt wy tm ps ch dr s) : Told mt wy tm ps ch dr t := by
  have un := ws.un
  have wa := ws.wa
  have eT := TmS_ex e
  have eW : ∀ u v : Nat, (u : Int) < s 2 → (v : Int) < s 3 → wayO (TmS t) t u v = wayO (TmS s) s u v := fun u v hu hv => by rw [eT]; exact wayO_ex e ws hu hv
  have e2 := e 2 (by omega)
  have e3 := e 3 (by omega)
  obtain ⟨h1, ⟨D, d1, d2, d3⟩, h3, h4, h5⟩ := h
  have eA : adjS (TmS s) s = adjS (TmS t) t := by
    funext u v
    unfold adjS
    rw [e2, e3]
    by_cases z1 : (u : Int) < s 2
    · by_cases z2 : (v : Int) < s 3
      · rw [eW u v z1 z2]
      · rw [decide_eq_false z2, Bool.and_false, Bool.false_and, Bool.false_and]
    · rw [decide_eq_false z1, Bool.false_and, Bool.false_and, Bool.false_and]
  have eN : ∀ u v, adjS (TmS s) s u v = true → netD (woS s) (coS (TmS s) s) u v = netD (woS t) (coS (TmS t) t) u v := by
    intro u v z
    obtain ⟨z1, z2, _⟩ := adjS_in z
    unfold netD woS coS
    rw [eW u v z1 z2, eT, e _ (by omega)]
  refine ⟨fun u v hu hv => ?_, ⟨D, fun v hv => d1 v (by rw [← e3]; exact hv), by rw [e2]; exact d2, fun u v hu hv => ?_⟩, ?_, by rw [e 4 (by omega)]; exact h4, fun k hk ht => ?_⟩
  · rw [e2] at hu
    rw [e3] at hv
    rw [h1 u v hu hv, eW u v hu hv, eT]
  · rw [e2] at hu
    rw [e3] at hv
    rw [d3 u v hu hv, eW u v hu hv]
  · rw [e2, e3]
    refine isMax_congr ?_ ?_ h3
    · funext u v
      unfold adjP
      rw [← eA]
      cases z : adjS (TmS s) s u v
      · rfl
      · rw [eN u v z]
    · intro u v z
      unfold adjP at z
      rw [Bool.and_eq_true] at z
      unfold cL
      rw [eN u v z.1]
  · rw [e _ (by omega)] at ht
    rw [h5 k hk ht, e _ (by omega)]

theorem IsMost.congr {W U : Nat} {adj adj' : Nat → Nat → Bool} {v : Nat} (e : ∀ u w, u < U → w < W → adj u w = adj' u w) (h : IsMost W adj U v) : IsMost W adj' U v := by
  refine ⟨fun X hX => h.1 X (mat_ext (fun u w hu hw => (e u w hu hw).symm) hX), ?_⟩
  obtain ⟨X, a, b⟩ := h.2
  exact ⟨X, mat_ext e a, b⟩
def scrR : List Nat := [2, 16, 17, 18, 19, 20, 21, 22, 23, 24, 25, 26, 27, 32, 33, 34, 35, 41, 42, 95, 97, 98, 99, 100, 101, 102, 103, 104, 105, 106, 109, 110, 111, 112, 114, 115, 116, 117, 118, 119, 120, 121, 122, 123, 124, 125, 126, 127, 128, 129, 130, 131, 135, 136, 137, 138, 139, 144, 147, 148, 151, 152, 153, 154, 155, 156, 157, 158, 159, 160, 161, 162, 163, 164, 165, 166, 167, 168, 169, 170, 171, 172, 173, 177, 178, 180, 181]
theorem scrR_sub : ∀ c, c ∈ scrR → c ∈ scrL := by decide
theorem Inv.scr {w w' : Wd} (h : Inv w) (hF : Fr scrR w w') (h144 : ∀ i, i ∈ [2, 15, 41, 42, 62, 64, 66, 71, 72] → w' 144 i = w 144 i) : Inv w' := by
  have e0 := hF 0 (by decide)
  have e92 := hF 92 (by decide)
  have e93 := hF 93 (by decide)
  have e94 := hF 94 (by decide)
  have e96 := hF 96 (by decide)
  have e107 := hF 107 (by decide)
  have e108 := hF 108 (by decide)
  have e113 := hF 113 (by decide)
  refine Inv.gen h (fun c hc => hF c (fun q => hc (scrR_sub c q))) (by rw [e0]; exact ⟨rfl, rfl⟩) (by rw [e0]; exact h.stale) ?_ (by rw [e93, e113]; exact h.wat) h144
  rw [e0, e92, e93, e94, e96, e107, e108]
  exact h.told
def wkC : List Nat := [144, 151, 152, 153, 154, 155, 156, 157, 158, 159, 160, 161, 162, 163, 164]
/-- the reference's question of the village as told -/
theorem S_told2 {d : Nat} {P : Wd → Prop} {w : Wd} (ws : WS (w 146)) (k : ∀ w', Fr wkC w w' → (∀ i, i ≠ 25 → i ≠ 26 → i ≠ 27 → i ≠ 34 → i ≠ 35 → i ≠ 36 → w' 144 i = w 144 i) → w' 144 25 = w 146 4 → (∀ u v : Nat, (u : Int) < w 146 2 → (v : Int) < w 146 3 → WayR (TmS (w 146)) (w' 161) (w' 162) (w' 163) (w' 164) (8 * u + v) (wayO (TmS (w 146)) (w 146) u v)) → P w') : Cw (d + 5) 208 [mR 144] w (fun _ v1 => Cw (d + 5) 209 [mR 144] v1 (fun _ v3 => P v3)) := by
  have un := ws.un
  have wa := ws.wa
  refine S_asTold_144 (d := d + 4) ?_
  intro w1 hF h144 h25 h26 h27 h64 h8
  have e146 : w1 146 = w 146 := hF 146 (by decide)
  refine S_weigh (T := TmS (w 146)) (by rw [e146]; exact RfT_told ws h26 h27 (fun k hk => (h64 k hk).1) (fun k hk => (h64 k hk).2.1) (fun k hk => (h64 k hk).2.2) h8) (by rw [h25, TmS_n ws]) (by rw [e146]; exact ws) (w 146 2).toNat (w 146 3).toNat (by rw [e146]; omega) (by rw [e146]; omega) ?_
  intro w2 hK hw
  rw [e146] at hw
  refine k w2 (Fr.tr (Fr.tr (Fr.rfl' _ w) hF (by decide)) hK.1 (by decide)) (fun i i1 i2 i3 i4 i5 i6 => by rw [hK.2 i i4 i5 i6, h144 i i1 i2 i3]) (by rw [hK.2 25 (by decide) (by decide) (by decide)]; exact h25) (fun u v hu hv => hw u v (by omega) (by omega))
theorem f144_at {w w' : Wd} (h : ∀ i, i ≠ 25 → i ≠ 26 → i ≠ 27 → i ≠ 34 → i ≠ 35 → i ≠ 36 → w' 144 i = w 144 i) : ∀ i, i ∈ [2, 15, 41, 42, 62, 64, 66, 71, 72] → w' 144 i = w 144 i := fun i hi => by
  simp only [List.mem_cons, List.not_mem_nil, or_false] at hi
  exact h i (by omega) (by omega) (by omega) (by omega) (by omega) (by omega)
theorem adjS_bit {s : Nat → Int} {T : Tm} {D : Nat → Nat} (hd : ∀ u v : Nat, (u : Int) < s 2 → (v : Int) < s 3 → ((D v).testBit u = true ↔ (wayO T s u v).isSome = true)) : ∀ u v, u < (s 2).toNat → v < (s 3).toNat → (D v).testBit u = adjS T s u v := by
  intro u v hu hv
  have h := hd u v (by omega) (by omega)
  unfold adjS
  rw [decide_eq_true (show (u : Int) < s 2 by omega), decide_eq_true (show (v : Int) < s 3 by omega), Bool.true_and, Bool.true_and]
  cases a : (D v).testBit u <;> cases b : (wayO T s u v).isSome <;> rw [a, b] at h <;> simp at h ⊢
theorem P_most {d : Nat} {w : Wd} (h : Inv w) : Pair (d + 30) 86 222 [] w := by
  unfold Pair
  apply X_most_0_en
  refine S_asTold_0 (d := d + 13) h ?_
  intro w1 h1 z fr f0
  refine ⟨rfl, ?_⟩
  have un := h1.ws.un
  have wa := h1.ws.wa
  obtain ⟨t1, ⟨D, d1, d2, d3⟩, t3, t4, t5⟩ := h1.told z
  refine S_matched_92 (d := d + 27) (w := w1) (w1 146 3).toNat (by omega) (by rw [h1.rv.wants]; omega) D (fun v hv => d1 v (by omega)) (w1 146 2).toNat (by omega) d2 ?_
  intro v g hv hm
  refine ⟨_, rfl, ?_⟩
  (apply Mid.k)
  apply M_most_144_en
  refine S_told2 (d := d + 24) (w := ub (ubf w1 109 g) 144 0 0) h1.ws ?_
  intro w3 hF h144 h25 hway
  have e146 : w3 146 = w1 146 := hF 146 (by decide)
  have rf := RfD_of (TmB_told h1.ws) h1.ws hway
  have hF2 : Fr wkC (ub (ubf w1 109 g) 144 0 0) w3 := hF
  refine S_mostMet (d := d + 26) (w := w3) (w1 146 2).toNat (w1 146 3).toNat (by omega) (by omega) (by rw [e146]; omega) (by rw [e146]; omega) (adjS (TmS (w1 146)) (w1 146)) (fun u v hu hv => RfD.ha rf u v hu hv) ?_
  intro v' g' hm'
  have hm2 := IsMost.congr (adjS_bit d3) hm
  have := hm2.uniq hm'
  refine ⟨_, rfl, ?_⟩
  have frA : Fr scrR w1 (ubf w3 165 g') := by
    refine Fr.ubf (Fr.tr (Fr.ub (Fr.ubf (Fr.rfl' _ w1) (by decide)) (by decide)) hF2 (by decide)) (by decide)
  have e401 : (ubf w3 165 g') 401 = w 401 := by rw [frA 401 (by decide), fr 401 (by decide)]
  have e400 : (ubf w3 165 g') 400 = w 400 := by rw [frA 400 (by decide), fr 400 (by decide)]
  refine Post.k (by rw [this]) (Inv.scr h1 frA (fun i hi => ?_)) e401 e400
  show w3 144 i = w1 144 i
  rw [f144_at h144 i hi]
  show up1 (w1 144) 0 0 i = w1 144 i
  rw [up1_ap, if_neg (by intro y; subst y; revert hi; decide)]
theorem P_bars {d : Nat} {w : Wd} (h : Inv w) : Pair (d + 30) 89 226 [] w := by
  unfold Pair
  apply X_bars_0_en
  refine S_asTold_0 (d := d + 13) h ?_
  intro w1 h1 z fr f0
  refine ⟨rfl, ?_⟩
  have un := h1.ws.un
  have wa := h1.ws.wa
  obtain ⟨t1, ⟨D, d1, d2, d3⟩, t3, t4, t5⟩ := h1.told z
  have U16 : 2 ^ (w1 146 2).toNat ≤ 65536 := Nat.pow_le_pow_right (n := 2) (by omega) (show (w1 146 2).toNat ≤ 16 by omega)
  refine S_barring_92 (d := d + 27) (w := w1) (w1 146 3).toNat (by omega) (by rw [h1.rv.wants]; omega) D (fun v hv => d1 v (by omega)) (fun v => by have := d2 v; omega) ?_
  intro g
  refine ⟨_, rfl, ?_⟩
  (apply Mid.k)
  apply M_bars_144_en
  intro n1
  refine S_told2 (d := d + 24) (w := ub (ubf w1 109 g) 144 0 0) h1.ws ?_
  intro w3 hF h144 h25 hway
  have e146 : w3 146 = w1 146 := hF 146 (by decide)
  have rf := RfD_of (TmB_told h1.ws) h1.ws hway
  have hF2 : Fr wkC (ub (ubf w1 109 g) 144 0 0) w3 := hF
  refine S_mbarsLoop (d := d + 28) (w := w3) (w1 146 2).toNat (w1 146 3).toNat (by omega) (by omega) (by rw [e146]; omega) (by rw [e146]; omega) (adjS (TmS (w1 146)) (w1 146)) (fun u v hu hv => RfD.ha rf u v hu hv) ?_
  have frA : Fr scrR w1 w3 := Fr.tr (Fr.ub (Fr.ubf (Fr.rfl' _ w1) (by decide)) (by decide)) hF2 (by decide)
  have e401 : w3 401 = w 401 := by rw [frA 401 (by decide), fr 401 (by decide)]
  have e400 : w3 400 = w 400 := by rw [frA 400 (by decide), fr 400 (by decide)]
  have eb : barF (fun S => cntB (w1 146 2).toNat (nbB (w1 146 3).toNat (adjS (TmS (w1 146)) (w1 146)) S.testBit)) (2 ^ (w1 146 3).toNat) = barF (fun S => pop (arn D (w1 146 3).toNat S)) (2 ^ (w1 146 3).toNat) := by
    refine barF_ext (fun S hS => ?_)
    rw [pop_cnt (k := (w1 146 2).toNat) (by omega) (arn_lt d2 S _)]
    refine cntB_ext (fun u hu => ?_)
    rw [arn_bit]
    unfold nbB
    have ea : ∀ n, n ≤ (w1 146 3).toNat → anyB n (fun w => S.testBit w && adjS (TmS (w1 146)) (w1 146) u w) = anyB n (fun w => S.testBit w && (D w).testBit u) := by
      intro n
      induction n with
      | zero => intro _; rfl
      | succ n ih =>
        intro hn
        show (anyB n _ || _) = (anyB n _ || _)
        rw [ih (by omega)]
        dsimp only
        rw [adjS_bit d3 u n hu (by omega)]
    exact ea _ (Nat.le_refl _)
  refine Post.k (by rw [eb]) (Inv.scr h1 frA (fun i hi => ?_)) e401 e400
  rw [f144_at h144 i hi]
  show up1 (w1 144) 0 0 i = w1 144 i
  rw [up1_ap, if_neg (by intro y; subst y; revert hi; decide)]

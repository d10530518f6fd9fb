theorem midG_bd2 {n : Nat → Nat} {b M : Nat} (h : ∀ x, x ≤ M → n x ≤ b) : ∀ m, m ≤ M → midG n m ≤ m * b
  | 0, _ => Nat.zero_le _
  | m + 1, hm => by
    have h1 := midG_bd2 h m (by omega)
    have h2 := Nat.mul_le_mul (Nat.le_refl (m + 1)) (h (m + 1) hm)
    show (if midG n m < (m + 1) * n (m + 1) then (m + 1) * n (m + 1) else midG n m) ≤ (m + 1) * b
    have h3 : m * b ≤ (m + 1) * b := Nat.mul_le_mul_right _ (by omega)
    split <;> omega
theorem midG_nA {s : Nat → Int} (ws : WS s) {T : Tm} (hb : TmB T) (a : Nat) {m : Nat} (hm : m ≤ 20) : midG (nA s T a) m ≤ 960 := by
  have h := midG_bd2 (n := nA s T a) (b := 48) (M := 20) (fun x hx => nA_bd ws hb a hx) m hm
  omega
theorem tmW_drop {n : Nat} {wt : Int} {r : List Nat} {i : Nat} (hi : 1 ≤ i) (hn : i + 1 < n) (hl : r.length = n) : tmW n wt (r.drop (n - (i + 1))) = tmW n wt (r.drop (n - i)) + (if ((r[n - 1 - i]'(by omega) : Nat) : Int) = wt then 1 else 0) := by
  have hlt : n - i - 1 < r.length := by omega
  have ed : r.drop (n - (i + 1)) = r[n - i - 1] :: r.drop (n - i) := by
    have := List.drop_eq_getElem_cons hlt
    rw [show n - (i + 1) = n - i - 1 by omega, this, show n - i - 1 + 1 = n - i by omega]
  have ll : (r.drop (n - i)).length = i := by rw [List.length_drop]; omega
  have ex : ∀ (x y : Nat) (hx : x < r.length) (hy : y < r.length), x = y → r[x] = r[y] := fun x y hx hy e => by subst e; rfl
  rw [ed, ex (n - i - 1) (n - 1 - i) (by omega) (by omega) (by omega)]
  cases hd : r.drop (n - i) with
  | nil => rw [hd] at ll; simp at ll; omega
  | cons p t =>
    rw [hd] at ll
    show tmW n wt (p :: t) + (if (p :: t).length < n - 1 ∧ ((r[n - 1 - i]'(by omega) : Nat) : Int) = wt then 1 else 0) = _
    congr 1
    by_cases z : ((r[n - 1 - i]'(by omega) : Nat) : Int) = wt
    · rw [if_pos z, if_pos ⟨by omega, z⟩]
    · rw [if_neg z, if_neg (fun y => z y.2)]
theorem tmW_one {n : Nat} {wt : Int} {r : List Nat} (hn : 2 ≤ n) (hl : r.length = n) : tmW n wt (r.drop (n - 1)) = 0 := by
  have hlt : n - 1 < r.length := by omega
  rw [List.drop_eq_getElem_cons hlt, show n - 1 + 1 = r.length by omega, List.drop_length]
  rfl
theorem tmW_tail {n : Nat} {wt : Int} {r : List Nat} (hn : 2 ≤ n) (hl : r.length = n) : tmW n wt (r.drop 1) = tmW n wt r := by
  cases r with
  | nil => rfl
  | cons q t =>
    cases t with
    | nil => rfl
    | cons p t =>
      have hl : (p :: t).length + 1 = n := hl
      show tmW n wt (p :: t) = tmW n wt (p :: t) + (if (p :: t).length < n - 1 ∧ (q : Int) = wt then 1 else 0)
      rw [if_neg (by omega)]; omega
theorem S_times_113 {d : Nat} {Q : MV → Wd → Prop} {w : Wd} {T : Tm} (n2 : 2 ≤ T.n) (n6 : T.n ≤ 6) (P8 : T.P ≤ 8) (hn : w 114 1 = T.n) (r : List Nat) (hl : r.length = T.n) (h8 : ∀ x, x ∈ r → x < T.P) (h1 : coL T r ≤ 5000) (h2 : hoL T r < 64) (h3 : pthL r < 262144) (a : Nat) (k : Q (mI (tmW T.n a r : Nat)) w) : Cw (d + 2) 123 [mR 113, mL (keyL T r), mI a] w Q := by
  apply Ways_timesBetween_113_en
  intro n1
  rw [key_path h1 h2 h3]
  have h88 : ∀ x, x ∈ r → x < 8 := fun x hx => by have := h8 x hx; omega
  have lp : ∀ (m i : Nat), i + m = T.n - 1 → 1 ≤ i → Wp (Cw (d + 1)) cd_Ways_timesBetween (1, 0, n1) Q 7 [mR 113, none, none, mI a, mI (pthL r : Nat), mI (tmW T.n a (r.drop (T.n - i)) : Nat), mI i] [] w := by
    intro m
    induction m with
    | zero =>
      intro i hi h1i
      have e : T.n - i = 1 := by omega
      apply Ways_timesBetween_113_c7
      rw [hn, e, tmW_tail n2 hl, w32_id (x := (T.n : Int) - 1) (by unfold in32; omega)]
      exact ⟨fun _ => k, fun z => by exfalso; omega⟩
    | succ m ih =>
      intro i hi h1i
      have ih := ih (i + 1) (by omega) (by omega)
      have es := tmW_drop (n := T.n) (wt := (a : Int)) (r := r) (i := i) h1i (by omega) hl
      have d1 := pth_dig r (T.n - 1 - i) h88 (by omega)
      have b := tmW_len T.n (a : Int) (r.drop (T.n - i))
      rw [List.length_drop] at b
      rw [es] at ih
      apply Ways_timesBetween_113_c7
      rw [hn, w32_id (x := (T.n : Int) - 1) (by unfold in32; omega), w32_id (x := (T.n : Int) - 1 - (i : Int)) (by unfold in32; omega), show (T.n : Int) - 1 - (i : Int) = ((T.n - 1 - i : Nat) : Int) by omega, w32_id (x := 3 * ((T.n - 1 - i : Nat) : Int)) (by unfold in32; omega), show 3 * ((T.n - 1 - i : Nat) : Int) = ((3 * (T.n - 1 - i) : Nat) : Int) by omega, hand_dig (by omega) (by omega), d1, ixs (k := i) (by omega)]
      refine ⟨fun z => by exfalso; omega, fun _ => ⟨fun z => ?_, fun z => ?_⟩⟩
      · rw [if_neg z, Nat.add_zero] at ih
        rw [w32_id (by unfold in32; omega), Int.add_zero]
        exact ih
      · rw [if_pos (Classical.not_not.mp z)] at ih
        rw [ixs (by omega)]
        exact ih
  have e := lp (T.n - 2) 1 (by omega) (Nat.le_refl _)
  rw [tmW_one n2 hl] at e
  exact e
theorem S_timesMet_112 {d : Nat} {Q : MV → Wd → Prop} {w : Wd} {T : Tm} (hb : TmB T) {s : Nat → Int} (ws : WS s) (a : Nat) (h4 : w 4 11 = s 3) (hk : ∀ u v : Nat, (u : Int) < s 2 → (v : Int) < s 3 → w 127 (8 * u + v) = keyO T (wayO T s u v)) (hn : w 114 1 = T.n) {top : Int} (ht : w 112 7 = top) (h0 : 0 ≤ top) (hb8 : top < 9223372036854775808) {f : Nat → Nat} (hf : ∀ v, v < 8 → top / (32 ^ (7 - v)) % 32 = f v) (hv : valid (s 3).toNat (adjS T s) (s 2).toNat f)
    (k : Q (mI (sumZ 8 (painS (tmS T s a) f))) w) : Cw (d + 3) 122 [mR 112, mI a] w Q := by
  have wa := ws.wa
  have un := ws.un
  apply Meeting_timesMet_112_en
  intro n1
  have pb : ∀ v, 0 ≤ painS (tmS T s a) f v ∧ painS (tmS T s a) f v ≤ 500 := by
    intro v
    unfold painS
    by_cases z : f v = 0
    · rw [if_pos z]; omega
    · rw [if_neg z]
      unfold tmS
      cases q : wayO T s (16 - f v) v with
      | none => show 0 ≤ ((0 : Nat) : Int) ∧ ((0 : Nat) : Int) ≤ 500; omega
      | some r =>
        obtain ⟨_, _, _, rl, _⟩ := wayO_bd hb q
        have := tmW_len T.n (a : Int) r
        have := hb.n6
        show 0 ≤ ((tmW T.n (a : Int) r : Nat) : Int) ∧ ((tmW T.n (a : Int) r : Nat) : Int) ≤ 500
        omega
  have lp : ∀ (m v : Nat), v + m = (s 3).toNat → Wp (Cw (d + 2)) cd_Meeting_timesMet (1, 0, n1) Q 4 [mR 112, mI a, mI (sumZ v (painS (tmS T s a) f)), mI v, none] [] w := by
    intro m
    induction m with
    | zero =>
      intro v hv'
      have hv' : v = (s 3).toNat := by omega
      apply Meeting_timesMet_112_c4
      rw [h4]
      refine ⟨fun _ => ?_, fun z => absurd (show s 3 ≤ (v : Int) by omega) z⟩
      have e := sumZ_trim (g := painS (tmS T s a) f) (W := v) (fun i hi => by
        unfold painS
        by_cases z : f i = 0
        · rw [if_pos z]
        · have := (hv.1 i z).1
          omega) (8 - v)
      rw [show v + (8 - v) = 8 by omega] at e
      rw [← e]; exact k
    | succ m ih =>
      intro v hv'
      have ih := ih (v + 1) (by omega)
      have es : sumZ (v + 1) (painS (tmS T s a) f) = sumZ v (painS (tmS T s a) f) + painS (tmS T s a) f v := rfl
      have b1 : 0 ≤ sumZ v (painS (tmS T s a) f) := sumZ_nonneg (fun i _ => (pb i).1)
      have b2 := sumZ_le (g := painS (tmS T s a) f) 500 (n := v) (fun i _ => (pb i).2)
      have b3 := pb v
      have fv := valid_le hv v
      have ud := udig h0 hb8 (v := v) (x := f v) (by omega) (hf v (by omega))
      rw [es] at ih
      apply Meeting_timesMet_112_c4
      rw [h4, ht, ud, ixs (k := v) (by omega)]
      clear ud hf
      generalize sumZ v (painS (tmS T s a) f) = S at *
      rw [w32_id (x := 16 - (f v : Int)) (by unfold in32; omega), w32_id (x := S + 0) (by unfold in32; omega)]
      by_cases z : f v = 0
      · have p0 : painS (tmS T s a) f v = 0 := by unfold painS; rw [if_pos z]
        rw [p0] at ih
        refine ⟨fun y => by exfalso; omega, fun _ => ⟨fun y => absurd (by omega) y, fun _ => ih⟩⟩
      · obtain ⟨z1, z2, z3, e⟩ := hv.1 v z
        obtain ⟨e1, e2, e⟩ := adjS_in e
        obtain ⟨r, hr⟩ := Option.isSome_iff_exists.mp e
        have ep : tmS T s a (16 - f v) v = tmW T.n (a : Int) r := by unfold tmS; rw [hr]; rfl
        have p0 : painS (tmS T s a) f v = (tmW T.n (a : Int) r : Nat) := by unfold painS; rw [if_neg z, ep]
        obtain ⟨c1, c2, c3, rl, r8, rc, _⟩ := wayO_bd hb hr
        have kk := hk (16 - f v) v e1 e2
        rw [hr] at kk
        have kk : w 127 (8 * (16 - f v) + v) = keyL T r := kk
        rw [show (16 : Int) - (f v : Int) = ((16 - f v : Nat) : Int) by omega, ix8a (by omega) (by omega), Int.toNat_natCast, kk]
        clear kk
        refine ⟨fun y => by exfalso; omega, fun _ => ⟨fun _ => ⟨fun _ => ⟨by omega, ?_⟩, fun y => absurd (by omega) y⟩, fun y => by exfalso; omega⟩⟩
        refine S_times_113 (d := d) hb.n2 hb.n6 hb.P8 hn r rl r8 c1 c2 c3 a ?_
        refine ⟨_, rfl, ?_⟩
        rw [p0] at ih b3
        rw [w32_id (by unfold in32; omega)]
        exact ih
  exact lp (s 3).toNat 0 (by omega)
def cMd : List Nat := [112, 113, 118, 119, 120, 121, 122, 123, 124, 125, 126, 127, 128, 130, 131]
theorem cC9t_Md : ∀ c, c ∈ cC9t → c ∈ cMd := by decide
theorem CtT_K {vo mt tm ak pn hr : Nat → Int} {T : Tm} (a : Nat) (h : CtT vo mt tm ak pn hr (-1) T) : CtT vo mt tm ak pn hr (a : Int) (TmK T a 0) := by
  refine (CtT.mk (h.P) (h.P8) (h.n) (h.n2) (h.n6) (h.back) (h.back3) (h.hands) (h.gv) (h.pn) (fun q hq => ?_) (h.mates) (h.pn9) (h.hr9) (fun q => ?_) (Or.inr (by omega)))
  · have hq : q < T.P := hq
    have e := h.ak q hq
    rw [if_neg (by omega)] at e
    show (if (q : Int) = (a : Int) then (0 : Int) else ak q) = ((upN T.ak a 0 q : Nat) : Int)
    rw [upN_ap]
    by_cases z : q = a
    · rw [if_pos z, if_pos (by omega)]; rfl
    · rw [if_neg z, if_neg (by omega)]; exact e
  · show upN T.ak a 0 q ≤ 99
    rw [upN_ap]
    by_cases z : q = a
    · rw [if_pos z]; omega
    · rw [if_neg z]; exact h.ak9 q
theorem ChoD_K {T : Tm} {a x : Nat} {s g107 g108 : Nat → Int} {U W : Nat} {D : Nat → Nat} (h : ChoD (TmK T a 0) (a : Int) x s U W g107 g108 D) : ChoD (TmK T a x) (-1) 0 s U W g107 g108 D := by
  refine (ChoD.mk (fun u v hu hv => ?_) (h.doer) (h.lt) (h.bit))
  have e := h.key u v hu hv
  have e0 : keyW (TmK T a x) (-1) 0 = keyL (TmK T a x) := funext (fun r => keyW0 _ _ r)
  rw [keyW_K, rowsO_E (TmE_K T a 0), hitS_K] at e
  rw [e0, rowsO_E (TmE_K T a x), hitS_K]
  exact e
/-- the class's one asking -/
theorem S_midOne {d : Nat} {Q : MV → Wd → Prop} {w : Wd} {s nms : Nat → Int} {T : Tm} (rv : RV (w 4) (w 5) (w 6) (w 7) (w 8) (w 9) (w 10) (w 11) (w 12) (w 13) (w 14) (w 15) s nms) (ws : WS s) (hb : TmB T) (a x : Nat) (hx : x ≤ 20) (hn : w 114 1 = T.n)
    (hk : ∀ u, u < (s 2).toNat → w 12 u = u → ∀ v k, v < (s 3).toNat → k < 3 → LeastK (rowsO (TmK T a 0) s u) (fun r => hitS (TmK T a 0) s u v r && (min (tmW (TmK T a 0).n (a : Int) r) 2 == k)) (keyL (TmK T a 0)) (w 118 ((8 * u + v) * 3 + k)))
    (k : ∀ w', Fr [112, 127, 128, 130, 131] w w' → w' 112 8 = w 112 8 → Q (mI (nA s T a x : Nat)) w') : Cw (d + 6) 69 [mR 112, mI x] w (fun _ v3 => Cw (d + 6) 72 [mR 112] v3 (fun _ v5 => Cw (d + 6) 122 [mR 112, mI a] v5 Q)) := by
  have un := ws.un
  have wa := ws.wa
  have hb0 := TmB_K hb a (x := 0) (by omega)
  have hbx := TmB_K hb a (x := x) (by omega)
  refine S_choose_112 (d := d + 3) rv ws hb0.P8 hb0.n2 hb0.n6 hb0.hr9 hb0.pn9 hb0.ak9 hb0.gvi (s 2).toNat (s 3).toNat (by omega) (by omega) x hx hk ?_
  intro g107 g108 D hD0
  have hD := ChoD_K hD0
  have hkey : ∀ u v : Nat, (u : Int) < s 2 → (v : Int) < s 3 → g107 (8 * u + v) = keyO (TmK T a x) (wayO (TmK T a x) s u v) := fun u v hu hv => ChoD_key hbx hD hu hv
  have md := MtD_of hbx ws rv hkey
  refine S_solve_112 (d := d + 1) (w := ubf (ubf w 127 g107) 128 g108) md ?_
  intro t o b g ho ht hmax
  obtain ⟨fd, v1, v2, v3, v4, v5, v6, v7, v8⟩ := top_day ws hmax
  refine S_timesMet_112 (d := d + 3) (w := ubf (ubf (ubf (ubf (ubf w 127 g107) 128 g108) 112 o) 131 b) 130 g) hbx ws a rv.wants hkey hn ht v3 v4 v8 (valid_adjS v1) ?_
  have e : TmsR s (TmK T a x) a (nA s T a x) := tmsV_spec ws _ a
  have en : ((nA s T a x : Nat) : Int) = sumZ 8 (painS (tmS (TmK T a x) s a) fd) := by
    obtain ⟨m, hm⟩ := Int.eq_ofNat_of_zero_le (show 0 ≤ sumZ 8 (painS (tmS (TmK T a x) s a) fd) from sumZ_nonneg (fun i _ => by unfold painS; split <;> omega))
    have e2 : TmsR s (TmK T a x) a m := ⟨t, fd, hmax, v8, hm.symm⟩
    rw [hm, e.uniq e2]
  rw [← en]
  refine k _ ?_ ?_
  · refine Fr.ubf (Fr.ubf (Fr.ubf (Fr.ubf (Fr.ubf (Fr.rfl' _ w) ?_) ?_) ?_) ?_) ?_ <;> decide
  · show o 8 = _
    exact ho 8 (by decide)
theorem S_middleAsk {d : Nat} {Q : MV → Wd → Prop} {w : Wd} {s nms : Nat → Int} {T : Tm} (rv : RV (w 4) (w 5) (w 6) (w 7) (w 8) (w 9) (w 10) (w 11) (w 12) (w 13) (w 14) (w 15) s nms) (ws : WS s) (hb : TmB T) (a : Nat) (ct : CtT (w 4) (w 7) (w 114) (w 115) (w 116) (w 117) (-1) T)
    (k : ∀ w', Fr cMd w w' → w' 113 2 = -1 → w' 112 8 = (midG (nA s T a) 20 : Nat) → Q (mI (midB (nA s T a) 20 : Nat)) w') : Cw (d + 15) 121 [mR 112, mI a] w Q := by
  have un := ws.un
  have wa := ws.wa
  apply Meeting_middleAsk_112_en
  intro n1
  refine S_walkAll_113 (d := d) (w := ub w 113 2 (a : Int)) rv ws (T := TmK T a 0) (by rw [show (ub w 113 2 (a : Int)) 113 2 = (a : Int) from by rw [ub_ap, if_pos rfl, if_pos rfl]]; exact CtT_K a ct) (s 2).toNat (s 3).toNat (by omega) (by omega) ?_
  intro w1 hF1 h93 hk
  rw [show (ub w 113 2 (a : Int)) 113 2 = (a : Int) from by rw [ub_ap, if_pos rfl, if_pos rfl]] at hk
  have f1 : Fr cMd w w1 := Fr.tr (Fr.ub (Fr.rfl' _ w) (by decide)) hF1 cC9t_Md
  have fr0 : Fr cMd w (ub (ub w1 113 2 (-1)) 112 8 0) := Fr.ub (Fr.ub f1 (by decide)) (by decide)
  have lp : ∀ (m x : Nat) (t : Int) (w2 : Wd), x + m = 20 → Fr [112, 127, 128, 130, 131] (ub (ub w1 113 2 (-1)) 112 8 0) w2 → w2 112 8 = (midG (nA s T a) x : Nat) → (x = 0 ∧ t = -1 ∨ 1 ≤ x ∧ t = (nA s T a x : Nat)) → Wp (Cw (d + 14)) cd_Meeting_middleAsk (1, 0, n1) Q 20 [mR 112, mI a, mI (midB (nA s T a) x : Nat), mI t, mI (x + 1 : Nat)] [] w2 := by
    intro m
    induction m with
    | zero =>
      intro x t w2 hx hF hg ht
      have : x = 20 := by omega
      subst this
      apply Meeting_middleAsk_112_c20
      refine ⟨fun _ => k w2 (Fr.tr fr0 hF (by decide)) ?_ hg, fun z => by exfalso; omega⟩
      rw [hF 113 (by decide)]; rfl
    | succ m ih =>
      intro x t w2 hx hF hg ht
      have frw : Fr cMd w w2 := Fr.tr fr0 hF (by decide)
      have rv2 := RV_fr frw (by decide) rv
      have h114 : w2 114 1 = T.n := by rw [frw 114 (by decide)]; exact ct.n
      have e118 : w2 118 = w1 118 := hF 118 (by decide)
      have e12 : w2 12 = w1 12 := hF 12 (by decide)
      have e12' : w1 12 = (ub w 113 2 (a : Int)) 12 := hF1 12 (by decide)
      have nb := nA_bd ws hb a (x := x + 1) (by omega)
      have gb := midG_nA ws hb a (m := x) (by omega)
      have one : Cw (d + 14) 69 [mR 112, mI (x + 1 : Nat)] w2 (fun _ v3 => Cw (d + 14) 72 [mR 112] v3 (fun _ v5 => Cw (d + 14) 122 [mR 112, mI a] v5 (fun r v7 => ∃ r8 : Int, r = mI r8 ∧ ((w32 (((x + 1 : Nat) : Int) * r8) ≤ v7 112 8 → Wp (Cw (d + 14)) cd_Meeting_middleAsk (1, 0, n1) Q 20 [mR 112, mI a, mI (midB (nA s T a) x : Nat), mI r8, mI (w32 (((x + 1 : Nat) : Int) + 1))] [] v7) ∧ (¬ (w32 (((x + 1 : Nat) : Int) * r8) ≤ v7 112 8) → Wp (Cw (d + 14)) cd_Meeting_middleAsk (1, 0, n1) Q 20 [mR 112, mI a, mI (x + 1 : Nat), mI r8, mI (w32 (((x + 1 : Nat) : Int) + 1))] [] (ub v7 112 8 (w32 (((x + 1 : Nat) : Int) * r8)))))))) := by
        refine S_midOne (d := d + 8) rv2 ws hb a (x + 1) (by omega) h114 (fun u hu h12 v k hv hk3 => ?_) ?_
        · rw [e118]
          exact hk u hu (by rw [← e12', ← e12]; exact h12) v k hv hk3
        · intro w3 hF3 hg3
          have ep : ((x + 1 : Nat) : Int) * ((nA s T a (x + 1) : Nat) : Int) = (((x + 1) * nA s T a (x + 1) : Nat) : Int) := (Int.natCast_mul _ _).symm
          have pb : (x + 1) * nA s T a (x + 1) ≤ 20 * 48 := Nat.mul_le_mul (by omega) nb
          refine ⟨_, rfl, ?_⟩
          rw [ep, w32n (by omega), ixs (k := x + 1) (by omega), hg3, hg]
          have fr3 : Fr [112, 127, 128, 130, 131] (ub (ub w1 113 2 (-1)) 112 8 0) w3 := Fr.tr hF hF3 (fun _ q => q)
          refine ⟨fun z => ?_, fun z => ?_⟩
          · have n1' : ¬ midG (nA s T a) x < (x + 1) * nA s T a (x + 1) := by omega
            have i1 := ih (x + 1) (nA s T a (x + 1) : Nat) w3 (by omega) fr3 (by
              rw [hg3, hg]
              show _ = ((if midG (nA s T a) x < (x + 1) * nA s T a (x + 1) then (x + 1) * nA s T a (x + 1) else midG (nA s T a) x : Nat) : Int)
              rw [if_neg n1']) (Or.inr ⟨by omega, rfl⟩)
            have eb : midB (nA s T a) (x + 1) = midB (nA s T a) x := by
              show (if midG (nA s T a) x < (x + 1) * nA s T a (x + 1) then x + 1 else midB (nA s T a) x) = _
              rw [if_neg n1']
            rw [eb] at i1
            exact i1
          · have n1' : midG (nA s T a) x < (x + 1) * nA s T a (x + 1) := by omega
            have i1 := ih (x + 1) (nA s T a (x + 1) : Nat) (ub w3 112 8 (((x + 1) * nA s T a (x + 1) : Nat) : Int)) (by omega) (Fr.ub fr3 (by decide)) (by
              rw [ub_ap, if_pos rfl, if_pos rfl]
              show _ = ((if midG (nA s T a) x < (x + 1) * nA s T a (x + 1) then (x + 1) * nA s T a (x + 1) else midG (nA s T a) x : Nat) : Int)
              rw [if_pos n1']) (Or.inr ⟨by omega, rfl⟩)
            have eb : midB (nA s T a) (x + 1) = x + 1 := by
              show (if midG (nA s T a) x < (x + 1) * nA s T a (x + 1) then x + 1 else midB (nA s T a) x) = _
              rw [if_pos n1']
            rw [eb] at i1
            exact i1
      apply Meeting_middleAsk_112_c20
      refine ⟨fun z => by exfalso; omega, fun _ => ⟨fun _ => one, fun z => ?_⟩⟩
      rcases ht with ⟨_, ht⟩ | ⟨x1, ht⟩
      · exact absurd ht z
      · have nx := nA_bd ws hb a (x := x) (by omega)
        rw [ht, hg, w32_id (x := ((nA s T a x : Nat) : Int) * 20) (by unfold in32; omega)]
        refine ⟨fun z2 => ?_, fun _ => one⟩
        obtain ⟨s1, s2⟩ := mid_stop (n := nA s T a) (fun x y hxy hy => nA_mono ws hb a hxy hy) (m := x) (by omega) (20 - x) (by omega)
        rw [show x + (20 - x) = 20 by omega] at s1 s2
        have k1 := k w2 frw (by rw [hF 113 (by decide)]; rfl) (by rw [s1]; exact hg)
        rw [s2] at k1
        exact k1
  refine lp 20 0 (-1) _ (by omega) (Fr.rfl' _ _) ?_ (Or.inl ⟨rfl, rfl⟩)
  rw [ub_ap, if_pos rfl, if_pos rfl]; rfl

theorem P_bestOf {d : Nat} {w : Wd} (h : Inv w) (x : Int) : Pair (d + 30) 96 230 [mI x] w := by
  unfold Pair
  have wa0 := h.ws.wa
  have e4 : w 4 11 = w 146 3 := h.rv.wants
  have k0 : Inv (ub w 144 0 0) := (Inv.mk h.tape h.fault h.ws h.wp h.wb h.rv h.rp h.rb h.im0 h.im1 h.stale h.told h.wat h.hands h.hand h.askers h.asked h.gainers h.gained h.mid h.star h.done h.day h.shown h.words h.reserved)
  apply X_bestOf_0_en
  rw [e4]
  have out : (x < 0 ∨ w 146 3 ≤ x) → Mid (d + 30) 230 [mI x] w (mI (-1)) w := by
    intro hx
    (apply Mid.k)
    apply M_bestOf_144_en
    rw [w32_id (x := w 146 3 - 1) (by unfold in32; omega)]
    (repeat' (apply spl <;> intro))
    · exact Post.k rfl k0 rfl rfl
    · exact Post.k rfl k0 rfl rfl
    · exfalso; omega
  (repeat' (apply spl <;> intro))
  · rename_i z; exact out (Or.inl z)
  · rename_i z _; exact out (Or.inr (by omega))
  · rename_i z1 z2
    obtain ⟨v, hv⟩ := Int.eq_ofNat_of_zero_le (show 0 ≤ x by omega)
    subst hv
    refine S_asTold_0 (d := d + 13) h ?_
    intro w1 h1 z fr f0
    refine ⟨rfl, ?_⟩
    have un := h1.ws.un
    have wa := h1.ws.wa
    have e146' : w1 146 = w 146 := fr 146 (by decide)
    obtain ⟨t1, ⟨D, d1, d2, d3⟩, t3, t4, t5⟩ := h1.told z
    obtain ⟨f, v1, v2, v3, v4, v5, v6, v7, v8⟩ := top_day h1.ws t3
    have fl := valid_le v1 v
    have ud := udig v3 v4 (v := v) (x := f v) (by omega) (v8 v (by omega))
    have ref : Cw (d + 30) 230 [mR 144, mI (v : Int)] w1 (Post w (unitI f v)) := by
      apply M_bestOf_144_en
      rw [e146', w32_id (x := w 146 3 - 1) (by unfold in32; omega)]
      (repeat' (apply spl <;> intro))
      · exfalso; omega
      · exfalso; omega
      · refine S_told2 (d := d + 24) (w := ub w1 144 0 0) h1.ws ?_
        intro w3 hF h144 h25 hway
        have e146 : w3 146 = w1 146 := hF 146 (by decide)
        have rf := RfD_of (TmB_told h1.ws) h1.ws hway
        refine S_bestDay (d := d + 27) (w := w3) (by rw [e146]; exact rf) ?_
        intro g a c b o g1 g2 g3 g4 g5 g6 g7
        obtain ⟨q1, q2, q3⟩ := day_same h1.ws t3 v8 g1 g2
        have frA : Fr scrR w1 (ubf (ubf (ubf (ubf w3 166 a) 168 c) 144 o) 167 b) := by
          refine Fr.ubf (Fr.ubf (Fr.ubf (Fr.ubf (Fr.tr (Fr.ub (Fr.rfl' _ w1) (by decide)) hF (by decide)) (by decide)) (by decide)) (by decide)) (by decide)
        refine ⟨by omega, ?_⟩
        refine Post.k ?_ (Inv.scr h1 frA (fun i hi => ?_)) ?_ ?_
        · show b (v : Int).toNat = _
          rw [Int.toNat_natCast, g7 v (by omega)]
          unfold unitI
          rw [q3 v (by omega)]
        · show o i = w1 144 i
          have hi2 := hi
          simp only [List.mem_cons, List.not_mem_nil, or_false] at hi2
          rw [g3 i (by omega) (by omega) (by omega), f144_at h144 i hi]
          show up1 (w1 144) 0 0 i = w1 144 i
          rw [up1_ap, if_neg (by omega)]
        · rw [frA 401 (by decide), fr 401 (by decide)]
        · rw [frA 400 (by decide), fr 400 (by decide)]
    rw [ud, w32_id (x := 16 - (f v : Int)) (by unfold in32; omega)]
    (repeat' (apply spl <;> intro))
    · rename_i z3
      (apply Mid.k)
      have e : unitI f v = 16 - (f v : Int) := by unfold unitI; rw [if_neg (by omega)]; omega
      rw [← e]; exact ref
    · rename_i z3
      (apply Mid.k)
      have e : unitI f v = -1 := by unfold unitI; rw [if_pos (by omega)]
      rw [← e]; exact ref
theorem hb_dig : ∀ (r : List Nat) (k : Nat), (∀ x, x ∈ r → x < 8) → (hk : k < r.length) → hbL r / 8 ^ k % 8 = r[r.length - 1 - k]
  | [], k, _, h => by simp at h
  | q :: t, k, h8, hk => by
    have hq := h8 q (List.mem_cons_self ..)
    have hl := hbL_lt t (fun x hx => h8 x (List.mem_cons_of_mem _ hx))
    have e : hbL (q :: t) = hbL t + q * 8 ^ t.length := rfl
    have p0 : 0 < 8 ^ t.length := Nat.pow_pos (by omega)
    have e2 : ∀ (x y : Nat) (hx : x < (q :: t).length) (hy : y < (q :: t).length), x = y → (q :: t)[x] = (q :: t)[y] := fun x y hx hy e => by subst e; rfl
    by_cases z : k = t.length
    · subst z
      rw [e, Nat.add_mul_div_right _ _ p0, Nat.div_eq_of_lt hl, Nat.zero_add, Nat.mod_eq_of_lt hq]
      have := e2 ((q :: t).length - 1 - t.length) 0 (by simp) (by simp) (by simp)
      rw [this]; rfl
    · have hk' : k < t.length := by simp at hk; omega
      have ih := hb_dig t k (fun x hx => h8 x (List.mem_cons_of_mem _ hx)) hk'
      have es : q * 8 ^ t.length = (q * 8 ^ (t.length - k - 1) * 8) * 8 ^ k := by
        rw [Nat.mul_assoc, Nat.mul_assoc, ← Nat.pow_succ', ← Nat.pow_add]
        congr 2; omega
      have p1 : 0 < 8 ^ k := Nat.pow_pos (by omega)
      rw [e, es, Nat.add_mul_div_right _ _ p1, Nat.add_mul_mod_self_right, ih]
      have := e2 ((q :: t).length - 1 - k) (t.length - 1 - k + 1) (by simp; omega) (by simp; omega) (by simp; omega)
      rw [this]; rfl
theorem S_keepWay {d : Nat} {Q : MV → Wd → Prop} {w : Wd} (n p : Nat) (hn : n ≤ 6) (hp : p < 2147483648) (k : ∀ g : Nat → Int, (∀ i, i < n → g i = ((p / 8 ^ (n - 1 - i) % 8 : Nat) : Int)) → Q none (ubf (ub w 140 1 n) 141 g)) : Cw (d + 2) 81 [mR 140, mI p, mI n] w Q := by
  apply Told_keepWay_140_en
  intro n1
  have lp : ∀ (m i : Nat) (g : Nat → Int), i + m = n → (∀ x, x < i → g x = ((p / 8 ^ (n - 1 - x) % 8 : Nat) : Int)) → Wp (Cw (d + 1)) cd_Told_keepWay (0, 0, n1) Q 5 [mR 140, mI p, mI n, mI i] [] (ubf (ub w 140 1 n) 141 g) := by
    intro m
    induction m with
    | zero =>
      intro i g hi hg
      have : i = n := by omega
      subst this
      apply Told_keepWay_140_c5
      (repeat' (apply spl <;> intro))
      · exact k g hg
      all_goals (exfalso; omega)
    | succ m ih =>
      intro i g hi hg
      apply Told_keepWay_140_c5
      rw [w32_id (x := (n : Int) - 1) (by unfold in32; omega), w32_id (x := (n : Int) - 1 - (i : Int)) (by unfold in32; omega), show (n : Int) - 1 - (i : Int) = ((n - 1 - i : Nat) : Int) by omega, w32_id (x := 3 * ((n - 1 - i : Nat) : Int)) (by unfold in32; omega), show 3 * ((n - 1 - i : Nat) : Int) = ((3 * (n - 1 - i) : Nat) : Int) by omega, hand_dig hp (by omega), ixs (k := i) (by omega), Int.toNat_natCast, ub_on]
      (repeat' (apply spl <;> intro))
      · exfalso; omega
      · exfalso; omega
      · (refine And.intro (by omega) ?_)
        refine ih (i + 1) _ (by omega) (fun x hx => ?_)
        rw [up1_ap]
        by_cases z : x = i
        · rw [if_pos z, z]
        · rw [if_neg z]; exact hg x (by omega)
  have e := lp n 0 (w 141) (by omega) (fun x hx => by omega)
  have ew : ubf (ub w 140 1 n) 141 (w 141) = ub w 140 1 n := ubf_sf0 (ub w 140 1 n) 141
  rw [ew] at e
  exact e
theorem key_c {T : Tm} {b : List Nat} (c1 : coL T b ≤ 5000) (c2 : hoL T b < 64) (c3 : pthL b < 262144) : w32 (lushr (keyL T b) 24) = (coL T b : Nat) := by
  rw [keyL_nat, show (24 : Int) = ((24 : Nat) : Int) from rfl, lushr_nat (by omega) (by omega), show (2 : Nat) ^ 24 = 16777216 from rfl, keyL_cost c2 c3, w32n (by omega)]
theorem key_h {T : Tm} {b : List Nat} (c1 : coL T b ≤ 5000) (c2 : hoL T b < 64) (c3 : pthL b < 262144) : iand (w32 (lushr (keyL T b) 18)) 63 = (hoL T b : Nat) := by
  have h1 : (coL T b * 16777216 + hoL T b * 262144 + pthL b) / 262144 % 64 = hoL T b := by omega
  rw [keyL_nat, show (18 : Int) = ((18 : Nat) : Int) from rfl, lushr_nat (by omega) (by omega), show (2 : Nat) ^ 18 = 262144 from rfl]
  have e := iand_low (x := (coL T b * 16777216 + hoL T b * 262144 + pthL b) / 262144) (b := 6) (by omega)
  rw [show ((2 ^ 6 - 1 : Nat) : Int) = 63 from rfl, show (2 : Nat) ^ 6 = 64 from rfl, h1] at e
  exact e
theorem P_way {d : Nat} {w : Wd} (h : Inv w) (x y t : Int) : Pair (d + 30) 52 207 [mI x, mI y, mI t] w := by
  unfold Pair
  have un0 := h.ws.un
  have wa0 := h.ws.wa
  have e8 : w 4 8 = w 146 2 := h.rv.units
  have e11 : w 4 11 = w 146 3 := h.rv.wants
  have k0 : Inv (ub w 144 0 0) := (Inv.mk h.tape h.fault h.ws h.wp h.wb h.rv h.rp h.rb h.im0 h.im1 h.stale h.told h.wat h.hands h.hand h.askers h.asked h.gainers h.gained h.mid h.star h.done h.day h.shown h.words h.reserved)
  have out : (x < 0 ∨ w 146 2 ≤ x ∨ y < 0 ∨ w 146 3 ≤ y ∨ t < 0 ∨ 2 < t) → Mid (d + 30) 207 [mI x, mI y, mI t] w (mI (-1)) w := by
    intro hx
    (apply Mid.k)
    apply M_way_144_en
    rw [w32_id (x := w 146 3 - 1) (by unfold in32; omega), w32_id (x := w 146 2 - 1) (by unfold in32; omega)]
    (repeat' (apply spl <;> intro))
    all_goals first
      | exact Post.k rfl k0 rfl rfl
      | (exfalso; omega)
  apply X_way_0_en
  rw [e8, e11]
  refine ⟨fun z => out (Or.inl z), fun z1 => ⟨fun z => out (by omega), fun z2 => ⟨fun z => out (by omega), fun z3 => ⟨fun z => out (by omega), fun z4 => ⟨fun z => out (by omega), fun z5 => ⟨fun z6 => ?_, fun z => out (by omega)⟩⟩⟩⟩⟩⟩
  obtain ⟨u, hu⟩ := Int.eq_ofNat_of_zero_le (show 0 ≤ x by omega)
  obtain ⟨v, hv⟩ := Int.eq_ofNat_of_zero_le (show 0 ≤ y by omega)
  subst hu
  subst hv
  refine S_asTold_0 (d := d + 13) h ?_
  intro w1 h1 z fr f0
  refine ⟨rfl, ?_⟩
  have un := h1.ws.un
  have wa := h1.ws.wa
  have la := h1.ws.la
  have e146' : w1 146 = w 146 := fr 146 (by decide)
  have hb := TmB_told h1.ws
  have td := h1.told z
  have tp := told_pains h1.ws td
  obtain ⟨t1, ⟨D, d1, d2, d3⟩, t3, t4, t5⟩ := td
  have hu1 : (u : Int) < w1 146 2 := by rw [e146']; omega
  have hv1 : (v : Int) < w1 146 3 := by rw [e146']; omega
  have kk := t1 u v hu1 hv1
  rw [ix8a (by omega) (by omega), Int.toNat_natCast, kk]
  refine ⟨by omega, ?_⟩
  cases o : wayO (TmS (w1 146)) (w1 146) u v with
  | none =>
    have kz : cmp3 (keyO (TmS (w1 146)) none) 9223372036854775807 = 0 := cmp3_zero.mpr rfl
    refine ⟨fun q => absurd kz q, fun _ => ?_⟩
    (apply Mid.k)
    apply M_way_144_en
    rw [e146', w32_id (x := w 146 3 - 1) (by unfold in32; omega), w32_id (x := w 146 2 - 1) (by unfold in32; omega)]
    refine ⟨fun z => by exfalso; omega, fun _ => ⟨fun z => by exfalso; omega, fun _ => ⟨fun z => by exfalso; omega, fun _ => ⟨fun z => by exfalso; omega, fun _ => ⟨fun z => by exfalso; omega, fun _ => ⟨fun z => by exfalso; omega, fun _ => ?_⟩⟩⟩⟩⟩⟩
    refine S_told2 (d := d + 24) (w := ub w1 144 0 0) h1.ws ?_
    intro w3 hF h144 h25 hway
    have wr := hway u v hu1 hv1
    have e0 : (ub w1 144 0 0) 146 = w1 146 := rfl
    rw [e0, o] at wr
    have wr : w3 161 (8 * u + v) = 1000000000 := wr
    have frA : Fr scrR w1 w3 := Fr.tr (Fr.ub (Fr.rfl' _ w1) (by decide)) hF (by decide)
    rw [ix8b (by omega) (by omega), Int.toNat_natCast, wr]
    refine ⟨by omega, fun _ => ?_, fun q => by exfalso; omega⟩
    refine Post.k rfl (Inv.scr h1 frA (fun i hi => ?_)) ?_ ?_
    · have hi2 := hi
      simp only [List.mem_cons, List.not_mem_nil, or_false] at hi2
      rw [f144_at h144 i hi]
      show up1 (w1 144) 0 0 i = w1 144 i
      rw [up1_ap, if_neg (by omega)]
    · rw [frA 401 (by decide), fr 401 (by decide)]
    · rw [frA 400 (by decide), fr 400 (by decide)]
  | some b =>
    obtain ⟨c1, c2, c3, rl, r8, rc, _⟩ := wayO_bd hb o
    have r88 : ∀ x, x ∈ b → x < 8 := fun x hx => by have := r8 x hx; have := hb.P8; omega
    have nn := TmS_n h1.ws
    have n6 := hb.n6
    have kl := keyL_now c1 c2 c3
    have kz : ¬ cmp3 (keyO (TmS (w1 146)) (some b)) 9223372036854775807 = 0 := by
      rw [cmp3_zero]
      show ¬ keyL _ b = _
      unfold NOW at kl; omega
    refine ⟨fun _ => ?_, fun q => absurd kz q⟩
    show Cw (d + 28 + 1) 81 [mR 140, mI (iand (w32 (keyL (TmS (w1 146)) b)) 262143), mI (w1 4 15)] w1 _
    rw [key_path c1 c2 c3, h1.rv.n, ← nn]
    refine S_keepWay (d := d + 27) (TmS (w1 146)).n (pthL b) n6 (by omega) ?_
    intro g hg
    -- the reference
    have ref : ∀ val : Int, (t = 0 → val = (coL (TmS (w1 146)) b : Nat)) → (t = 1 → val = (hoL (TmS (w1 146)) b : Nat)) → (t = 2 → val = (paL (TmS (w1 146)) b : Nat)) → Cw (d + 30) 207 [mR 144, mI (u : Int), mI (v : Int), mI t] (ubf (ub w1 140 1 (TmS (w1 146)).n) 141 g) (Post w val) := by
      intro val x0 x1 x2
      apply M_way_144_en
      have e0 : (ubf (ub w1 140 1 (TmS (w1 146)).n) 141 g) 146 = w 146 := e146'
      rw [e0, w32_id (x := w 146 3 - 1) (by unfold in32; omega), w32_id (x := w 146 2 - 1) (by unfold in32; omega)]
      refine ⟨fun z => by exfalso; omega, fun _ => ⟨fun z => by exfalso; omega, fun _ => ⟨fun z => by exfalso; omega, fun _ => ⟨fun z => by exfalso; omega, fun _ => ⟨fun z => by exfalso; omega, fun _ => ⟨fun z => by exfalso; omega, fun _ => ?_⟩⟩⟩⟩⟩⟩
      refine S_told2 (d := d + 24) (w := ub (ubf (ub w1 140 1 (TmS (w1 146)).n) 141 g) 144 0 0) h1.ws ?_
      intro w3 hF h144 h25 hway
      have wr := hway u v hu1 hv1
      have e1 : (ub (ubf (ub w1 140 1 (TmS (w1 146)).n) 141 g) 144 0 0) 146 = w1 146 := rfl
      rw [e1, o] at wr
      obtain ⟨q1, q2, q3, q4⟩ := wr
      have h25 : w3 144 25 = w1 146 4 := h25
      have hF' : Fr wkC (ub (ubf (ub w1 140 1 (TmS (w1 146)).n) 141 g) 144 0 0) w3 := hF
      have frA : Fr ([140, 141] ++ scrR) w1 w3 := Fr.tr (Fr.ub (Fr.ubf (Fr.ub (Fr.rfl' _ w1) (by decide)) (by decide)) (by decide)) hF' (by decide)
      rw [ix8b (by omega) (by omega), Int.toNat_natCast, q1, q2, q3, q4, h25]
      have fin : Inv (ub (ub w3 144 41 ((hbL b : Nat) : Int)) 144 42 (w1 146 4)) ∧ (ub (ub w3 144 41 ((hbL b : Nat) : Int)) 144 42 (w1 146 4)) 401 = w 401 ∧ (ub (ub w3 144 41 ((hbL b : Nat) : Int)) 144 42 (w1 146 4)) 400 = w 400 := by
        have frB : Fr ([140, 141] ++ scrR) w1 (ub (ub w3 144 41 ((hbL b : Nat) : Int)) 144 42 (w1 146 4)) := Fr.ub (Fr.ub frA (by decide)) (by decide)
        have e140 : w3 140 = up1 (w1 140) 1 (TmS (w1 146)).n := by
          rw [hF' 140 (by decide)]; rfl
        have e141 : w3 141 = g := by
          rw [hF' 141 (by decide)]; rfl
        refine ⟨Inv.g_way h1 frB (fun i hi => ?_) (fun i hi => ?_) ?_ ?_, ?_, ?_⟩
        · show w3 140 i = w1 140 i
          rw [e140, up1_ap, if_neg (by intro y; subst y; revert hi; decide)]
        · have hi2 := hi
          simp only [List.mem_cons, List.not_mem_nil, or_false] at hi2
          show up1 (up1 (w3 144) 41 _) 42 _ i = w1 144 i
          rw [up1_ap, if_neg (by omega), up1_ap, if_neg (by omega), h144 i (by omega) (by omega) (by omega) (by omega) (by omega) (by omega)]
          show up1 (w1 144) 0 0 i = w1 144 i
          rw [up1_ap, if_neg (by omega)]
        · show w3 140 1 = w1 146 4 ∧ 0 ≤ w1 146 4 ∧ w1 146 4 ≤ 6
          rw [e140, up1_ap, if_pos rfl, nn]
          omega
        · intro k' hk'
          have hk' : (k' : Int) < w1 146 4 := hk'
          show w3 141 k' = iand (ishr ((hbL b : Nat) : Int) (3 * (k' : Int))) 7
          have hkn : k' < (TmS (w1 146)).n := by omega
          have hbl := hbL_lt b r88
          have p8 := Nat.pow_le_pow_right (n := 8) (by omega) (show b.length ≤ 6 by omega)
          rw [show (8 : Nat) ^ 6 = 262144 from rfl] at p8
          rw [e141, hg k' hkn, show 3 * (k' : Int) = ((3 * k' : Nat) : Int) by omega, hand_dig (by omega) (by omega), hb_dig b k' r88 (by omega), pth_dig b ((TmS (w1 146)).n - 1 - k') r88 (by omega)]
          have e2 : ∀ (x y : Nat) (hx : x < b.length) (hy : y < b.length), x = y → b[x] = b[y] := fun x y hx hy e => by subst e; rfl
          rw [e2 ((TmS (w1 146)).n - 1 - k') (b.length - 1 - k') (by omega) (by omega) (by omega)]
        · rw [frB 401 (by decide), fr 401 (by decide)]
        · rw [frB 400 (by decide), fr 400 (by decide)]
      obtain ⟨i1, i2, i3⟩ := fin
      refine ⟨by omega, fun q => by exfalso; omega, fun _ => ⟨by omega, ?_⟩⟩
      (repeat' (apply spl <;> intro))
      · rename_i a1 a2
        exact ⟨by omega, Post.k (x2 (by omega)).symm i1 i2 i3⟩
      · rename_i a1 a2
        exact ⟨by omega, Post.k (x1 (by omega)).symm i1 i2 i3⟩
      · rename_i a1
        exact ⟨by omega, Post.k (x0 (by omega)).symm i1 i2 i3⟩
    show (¬ t = 0 → ((¬ t = 1 → Cw (d + 28 + 1) 84 [mR 93, mL (keyL (TmS (w1 146)) b)] (ubf (ub w1 140 1 (TmS (w1 146)).n) 141 g) _) ∧ (¬ (¬ t = 1) → Mid (d + 30) 207 _ w (mI (iand (w32 (lushr (keyL (TmS (w1 146)) b) 18)) 63)) _))) ∧ (¬ (¬ t = 0) → Mid (d + 30) 207 _ w (mI (w32 (lushr (keyL (TmS (w1 146)) b) 24))) _)
    rw [key_c c1 c2 c3, key_h c1 c2 c3]
    (repeat' (apply spl <;> intro))
    · rename_i a1 a2
      have e94 : (ubf (ub w1 140 1 (TmS (w1 146)).n) 141 g) 94 = w1 94 := rfl
      have e96 : (ubf (ub w1 140 1 (TmS (w1 146)).n) 141 g) 96 = w1 96 := rfl
      refine S_pains_93 (d := d + 27) hb.n2 hb.n6 hb.P8 hb.pn9 (by rw [e94]; exact tp.1) (by rw [e96]; exact tp.2) b rl r8 rc c1 c2 c3 ?_
      refine ⟨_, rfl, ?_⟩
      (apply Mid.k)
      exact ref _ (fun q => absurd q a1) (fun q => absurd q a2) (fun _ => rfl)
    · rename_i a1 a2
      (apply Mid.k)
      exact ref _ (fun q => absurd q a1) (fun _ => rfl) (fun q => by exfalso; omega)
    · rename_i a1
      (apply Mid.k)
      exact ref _ (fun _ => rfl) (fun q => by exfalso; omega) (fun q => by exfalso; omega)

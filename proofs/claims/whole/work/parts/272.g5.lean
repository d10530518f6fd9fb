theorem pth_dig : ∀ (r : List Nat) (j : Nat), (∀ x, x ∈ r → x < 8) → (hj : j < r.length) → pthL r / 8 ^ j % 8 = r[j]
  | [], j, _, h => by simp at h
  | q :: t, 0, h8, _ => by
    have := h8 q (List.mem_cons_self ..)
    show (pthL t * 8 + q) / 8 ^ 0 % 8 = q
    rw [Nat.pow_zero, Nat.div_one]; omega
  | q :: t, j + 1, h8, hj => by
    have := h8 q (List.mem_cons_self ..)
    have ih := pth_dig t j (fun x hx => h8 x (List.mem_cons_of_mem _ hx)) (by simp at hj; omega)
    have e : pthL (q :: t) = pthL t * 8 + q := rfl
    rw [e, Nat.pow_succ, Nat.mul_comm (8 ^ j) 8, ← Nat.div_div_eq_div_mul, show (pthL t * 8 + q) / 8 = pthL t by omega]
    exact ih
theorem hand_dig {x j : Nat} (hx : x < 2147483648) (hj : j ≤ 9) : iand (ishr (x : Int) ((3 * j : Nat) : Int)) 7 = ((x / 8 ^ j % 8 : Nat) : Int) := by
  have e := iand_low (x := x >>> (3 * j)) (b := 3) (by omega)
  have l := shr_le x (3 * j)
  rw [w32n (n := x >>> (3 * j)) (by omega)] at e
  rw [ishr_nat hx (by omega)]
  rw [show ((2 ^ 3 - 1 : Nat) : Int) = 7 from rfl] at e
  rw [e, Nat.shiftRight_eq_div_pow, Nat.pow_mul]
/-- a key's path -/
theorem key_path {T : Tm} {b : List Nat} (h1 : coL T b ≤ 5000) (h2 : hoL T b < 64) (h3 : pthL b < 262144) : iand (w32 (keyL T b)) 262143 = (pthL b : Nat) := by
  have e := iand_low (x := coL T b * 16777216 + hoL T b * 262144 + pthL b) (b := 18) (by omega)
  rw [show ((2 ^ 18 - 1 : Nat) : Int) = 262143 from rfl] at e
  rw [keyL_nat, e, show (2 : Nat) ^ 18 = 262144 from rfl]
  omega
theorem ch_at {T : Tm} : ∀ {r : List Nat}, chN T r → ∀ j, (h : j + 1 < r.length) → T.gv (r[j + 1]) (r[j]) = true
  | [], _, j, h => by simp at h
  | [q], _, j, h => by simp at h
  | q :: p :: t, hc, 0, _ => hc.1
  | q :: p :: t, hc, j + 1, h => ch_at (r := p :: t) hc.2 j (by simp at h ⊢; omega)
theorem S_pains_93 {d : Nat} {Q : MV → Wd → Prop} {w : Wd} {T : Tm} (n2 : 2 ≤ T.n) (n6 : T.n ≤ 6) (P8 : T.P ≤ 8) (pn9 : ∀ p q, T.pn p q ≤ 99) (hn : w 94 1 = T.n) (hp : ∀ p q, p < T.P → q < T.P → T.gv p q = true → w 96 (8 * p + q) = T.pn p q) (r : List Nat) (hl : r.length = T.n) (h8 : ∀ x, x ∈ r → x < T.P) (hc : chN T r) (h1 : coL T r ≤ 5000) (h2 : hoL T r < 64) (h3 : pthL r < 262144) (k : Q (mI (paL T r : Nat)) w) : Cw (d + 2) 84 [mR 93, mL (keyL T r)] w Q := by
  apply Ways_pains_93_en
  intro n1
  rw [key_path h1 h2 h3]
  have h88 : ∀ x, x ∈ r → x < 8 := fun x hx => by have := h8 x hx; omega
  have lp : ∀ (m i : Nat), i + m = T.n → 1 ≤ i → Wp (Cw (d + 1)) cd_Ways_pains (1, 0, n1) Q 7 [mR 93, none, none, mI (pthL r : Nat), mI (paL T (r.drop (T.n - i)) : Nat), mI i] [] w := by
    intro m
    induction m with
    | zero =>
      intro i hi h1i
      have : i = T.n := by omega
      subst this
      apply Ways_pains_93_c7
      rw [hn, Nat.sub_self, List.drop_zero]
      (repeat' (apply spl <;> intro))
      · exact k
      · exfalso; omega
    | succ m ih =>
      intro i hi h1i
      have ih := ih (i + 1) (by omega) (by omega)
      have hlt : T.n - i - 1 < r.length := by omega
      have hlt2 : T.n - i < r.length := by omega
      have ed : r.drop (T.n - (i + 1)) = r[T.n - i - 1] :: r.drop (T.n - i) := by
        have := List.drop_eq_getElem_cons hlt
        rw [show T.n - (i + 1) = T.n - i - 1 by omega, this, show T.n - i - 1 + 1 = T.n - i by omega]
      have ed2 : r.drop (T.n - i) = r[T.n - i] :: r.drop (T.n - i + 1) := List.drop_eq_getElem_cons hlt2
      have hg := ch_at hc (T.n - i - 1) (by omega)
      have hg : T.gv (r[T.n - i]) (r[T.n - i - 1]) = true := by
        have e : ∀ (x y : Nat) (hx : x < r.length) (hy : y < r.length), x = y → r[x] = r[y] := fun x y hx hy e => by subst e; rfl
        rw [← e (T.n - i - 1 + 1) (T.n - i) (by omega) (by omega) (by omega)]
        exact hg
      have m1 := h8 _ (List.getElem_mem hlt)
      have m2 := h8 _ (List.getElem_mem hlt2)
      have hpp := hp _ _ m2 m1 hg
      have d1 := pth_dig r (T.n - i - 1) h88 hlt
      have d2 := pth_dig r (T.n - i) h88 hlt2
      have bp := paL_bd pn9 (r.drop (T.n - i))
      have lb : (r.drop (T.n - i)).length ≤ 6 := by rw [List.length_drop]; omega
      have p99 := pn9 (r[T.n - i]) (r[T.n - i - 1])
      have es : paL T (r.drop (T.n - (i + 1))) = paL T (r.drop (T.n - i)) + T.pn (r[T.n - i]) (r[T.n - i - 1]) := by
        rw [ed, ed2]; rfl
      rw [es] at ih
      apply Ways_pains_93_c7
      rw [hn, w32_id (x := (T.n : Int) - 1) (by unfold in32; omega), w32_id (x := (i : Int) - 1) (by unfold in32; omega), w32_id (x := (T.n : Int) - 1 - ((i : Int) - 1)) (by unfold in32; omega), w32_id (x := (T.n : Int) - 1 - (i : Int)) (by unfold in32; omega), show (T.n : Int) - 1 - ((i : Int) - 1) = ((T.n - i : Nat) : Int) by omega, show (T.n : Int) - 1 - (i : Int) = ((T.n - i - 1 : Nat) : Int) by omega, w32_id (x := 3 * ((T.n - i : Nat) : Int)) (by unfold in32; omega), w32_id (x := 3 * ((T.n - i - 1 : Nat) : Int)) (by unfold in32; omega), show 3 * ((T.n - i : Nat) : Int) = ((3 * (T.n - i) : Nat) : Int) by omega, show 3 * ((T.n - i - 1 : Nat) : Int) = ((3 * (T.n - i - 1) : Nat) : Int) by omega, hand_dig (by omega) (by omega), hand_dig (by omega) (by omega), d1, d2, ix8a (by omega) (by omega), Int.toNat_natCast, hpp, ixs (k := i) (by omega), w32_id (x := (paL T (r.drop (T.n - i)) : Int) + (T.pn (r[T.n - i]) (r[T.n - i - 1]) : Int)) (by unfold in32; omega)]
      (repeat' (apply spl <;> intro))
      · exfalso; omega
      · (refine And.intro (by omega) ?_)
        exact ih
  have e := lp (T.n - 1) 1 (by omega) (Nat.le_refl _)
  have e0 : paL T (r.drop (T.n - 1)) = 0 := by
    have hlt : T.n - 1 < r.length := by omega
    rw [List.drop_eq_getElem_cons hlt, show T.n - 1 + 1 = r.length by omega, List.drop_length]
    rfl
  rw [e0] at e
  exact e
/-- the digit of a want in the greatest value -/
theorem udig {top : Int} (h0 : 0 ≤ top) (hb : top < 9223372036854775808) {v x : Nat} (hv : v < 8) (hx : top / (32 ^ (7 - v)) % 32 = x) : iand (w32 (lshr top (w32 (5 * w32 (7 - (v : Int)))))) 31 = x := by
  obtain ⟨t, ht⟩ := Int.eq_ofNat_of_zero_le h0
  rw [ht] at hx ⊢
  rw [w32_id (x := 7 - (v : Int)) (by unfold in32; omega), show 7 - (v : Int) = ((7 - v : Nat) : Int) by omega, w32_id (x := 5 * ((7 - v : Nat) : Int)) (by unfold in32; omega), show 5 * ((7 - v : Nat) : Int) = ((5 * (7 - v) : Nat) : Int) by omega, lshr_nat (by omega) (by omega)]
  have e := iand_low (x := t / 2 ^ (5 * (7 - v))) (b := 5) (by omega)
  rw [show ((2 ^ 5 - 1 : Nat) : Int) = 31 from rfl] at e
  rw [e, p32]
  have : (t : Int) / 32 ^ (7 - v) % 32 = ((t / 32 ^ (7 - v) % 2 ^ 5 : Nat) : Int) := by
    rw [show (2 : Nat) ^ 5 = 32 from rfl, Int.natCast_emod, Int.natCast_ediv, Int.natCast_pow]
    rfl
  rw [← this]; exact hx
/-- the day in the greatest value -/
theorem top_day {T : Tm} {s : Nat → Int} (ws : WS s) {top : Int} (h : IsMax (s 3).toNat (adjP (woS s) (adjS T s) (coS T s)) (cL (netD (woS s) (coS T s))) (s 2).toNat top) :
    ∃ f : Nat → Nat, valid (s 3).toNat (adjP (woS s) (adjS T s) (coS T s)) (s 2).toNat f ∧ val (cL (netD (woS s) (coS T s))) f = top ∧ 0 ≤ top ∧ top < 9223372036854775808 ∧ 0 ≤ netS (netD (woS s) (coS T s)) f ∧ top / 17592186044416 = netS (netD (woS s) (coS T s)) f ∧ top / 1099511627776 % 16 = cntS f ∧ ∀ v, v < 8 → top / (32 ^ (7 - v)) % 32 = f v := by
  obtain ⟨f, a, b⟩ := h.2
  obtain ⟨r1, r2, r3, r4⟩ := top_read a
  have bd := val_adjP (A := adjP (woS s) (adjS T s) (coS T s)) (fun _ _ z => z) (fun v hv => by
    have := ws.worth v (by omega)
    unfold woS; omega) a
  rw [b] at r2 r3 r4 bd
  exact ⟨f, a, b, bd.1, by omega, r1, r2, r3, r4⟩
/-- the reference's day is the same -/
theorem day_same {T : Tm} {s : Nat → Int} (ws : WS s) {top : Int} (h : IsMax (s 3).toNat (adjP (woS s) (adjS T s) (coS T s)) (cL (netD (woS s) (coS T s))) (s 2).toNat top) {f g : Nat → Nat} (hf : ∀ v, v < 8 → top / (32 ^ (7 - v)) % 32 = f v) (hg : valid (s 3).toNat (adjS T s) (s 2).toNat g) (hb : ∀ f', valid (s 3).toNat (adjS T s) (s 2).toNat f' → lexR (netD (woS s) (coS T s)) f' g) : top / 17592186044416 = netS (netD (woS s) (coS T s)) g ∧ top / 1099511627776 % 16 = cntS g ∧ ∀ v, v < 8 → g v = f v := by
  have wa := ws.wa
  obtain ⟨v1, v2⟩ := best_day (by omega) hg hb
  have e : (fun u w => adjS T s u w && decide (0 ≤ netD (woS s) (coS T s) u w)) = adjP (woS s) (adjS T s) (coS T s) := rfl
  rw [e] at v1 v2
  have et := h.uniq v2
  obtain ⟨r1, r2, r3, r4⟩ := top_read (W := (s 3).toNat) (adj := adjS T s) (U := (s 2).toNat) (net := netD (woS s) (coS T s)) v1
  rw [← et] at r2 r3 r4
  refine ⟨r2, r3, fun v hv => ?_⟩
  have a := hf v hv
  have b := r4 v hv
  omega

theorem leadN {w12 : Nat → Int} {U : Nat} (h : ∀ u, u < U → 0 ≤ w12 u ∧ w12 u ≤ u) (u : Nat) (hu : u < U) : ∃ l : Nat, w12 u = l ∧ l ≤ u := by
  obtain ⟨l, hl⟩ := Int.eq_ofNat_of_zero_le (h u hu).1
  exact ⟨l, hl, by have := (h u hu).2; omega⟩
theorem S_walkAll_93 {d : Nat} {Q : MV → Wd → Prop} {w : Wd} {s nms : Nat → Int} {T : Tm} (rv : RV (w 4) (w 5) (w 6) (w 7) (w 8) (w 9) (w 10) (w 11) (w 12) (w 13) (w 14) (w 15) s nms) (hs : WS s) (ct : CtT (w 4) (w 7) (w 94) (w 95) (w 96) (w 97) (w 93 2) T) (U W : Nat) (h2 : s 2 = U) (h3 : s 3 = W)
    (k : ∀ w', Fr cC9 w w' → (∀ i, i ≠ 7 → i ≠ 8 → i ≠ 9 → i ≠ 10 → w' 93 i = w 93 i) → (∀ u, u < U → w 12 u = u → ∀ v k, v < W → k < 3 → LeastK (rowsO T s u) (fun r => hitS T s u v r && (min (tmW T.n (w 93 2) r) 2 == k)) (keyL T) (w' 98 ((8 * u + v) * 3 + k))) → Q none w') : Cw (d + 14) 58 [mR 93] w Q := by
  have hU : U ≤ 16 := by have := hs.un; omega
  have hW : W ≤ 8 := by have := hs.wa; omega
  apply Ways_walkAll_93_en
  intro n1
  have lp : ∀ (m u : Nat) (w1 : Wd), u + m = U → Fr cC9 w w1 → (∀ i, i ≠ 7 → i ≠ 8 → i ≠ 9 → i ≠ 10 → w1 93 i = w 93 i) → (∀ x, x < u → w 12 x = x → ∀ v k, v < W → k < 3 → LeastK (rowsO T s x) (fun r => hitS T s x v r && (min (tmW T.n (w 93 2) r) 2 == k)) (keyL T) (w1 98 ((8 * x + v) * 3 + k))) → Wp (Cw (d + 13)) cd_Ways_walkAll (0, 0, n1) Q 2 [mR 93, mI u] [] w1 := by
    intro m
    induction m with
    | zero =>
      intro u w1 hu hF h93 hk
      have : u = U := by omega
      subst this
      have e4 : w1 4 8 = u := by rw [hF 4 (by decide), rv.units]; exact h2
      apply Ways_walkAll_93_c2
      (repeat' (apply spl <;> intro))
      · exact k w1 hF h93 hk
      all_goals (exfalso; omega)
    | succ m ih =>
      intro u w1 hu hF h93 hk
      have e4 : w1 4 8 = U := by rw [hF 4 (by decide), rv.units]; exact h2
      have e12 : w1 12 u = w 12 u := by rw [hF 12 (by decide)]
      apply Ways_walkAll_93_c2
      rw [e4, Int.toNat_natCast, e12, ixs (k := u) (by omega)]
      (repeat' (apply spl <;> intro))
      · exfalso; omega
      · (refine And.intro (by omega) ?_)
        (repeat' (apply spl <;> intro))
        · rename_i z
          refine ih (u + 1) w1 (by omega) hF h93 (fun x hx hl => ?_)
          by_cases y : x = u
          · rw [y] at hl; exact absurd hl z
          · exact hk x (by omega) hl
        · rename_i z
          have f4 := hF 4 (by decide)
          have f5 := hF 5 (by decide)
          have f6 := hF 6 (by decide)
          have f7 := hF 7 (by decide)
          have f8 := hF 8 (by decide)
          have f9 := hF 9 (by decide)
          have f10 := hF 10 (by decide)
          have f11 := hF 11 (by decide)
          have f12 := hF 12 (by decide)
          have f13 := hF 13 (by decide)
          have f14 := hF 14 (by decide)
          have f15 := hF 15 (by decide)
          have f94 := hF 94 (by decide)
          have f95 := hF 95 (by decide)
          have f96 := hF 96 (by decide)
          have f97 := hF 97 (by decide)
          have f2 := h93 2 (by decide) (by decide) (by decide) (by decide)
          refine S_walkUnit_93 (w := w1) (s := s) (nms := nms) (T := T) (by rw [f4, f5, f6, f7, f8, f9, f10, f11, f12, f13, f14, f15]; exact rv) hs (by rw [f4, f7, f94, f95, f96, f97, f2]; exact ct) U W u h2 h3 (by omega) ?_
          intro w2 hF2 g93 g98 hw _
          rw [f2] at hw
          refine ih (u + 1) w2 (by omega) (Fr.tr hF hF2 (fun _ x => x)) (fun i i1 i2 i3 i4 => by rw [g93 i i1 i2 i3 i4, h93 i i1 i2 i3 i4]) (fun x hx hl v k' hv hk' => ?_)
          by_cases y : x = u
          · rw [y]; exact hw.1 v k' hv hk'
          · rw [g98 _ (by omega)]
            exact hk x (by omega) hl v k' hv hk'
  exact lp U 0 w (by omega) (Fr.rfl' _ _) (fun _ _ _ _ _ => rfl) (fun x hx => by omega)
/-- of a row in which neighbours are unlike, the one watched stands in the middle twice at most -/
def chN (T : Tm) : List Nat → Prop
  | [] => True
  | q :: t => (match t with | [] => True | p :: _ => T.gv p q = true) ∧ chN T t
theorem ch_ext {T : Tm} {fi : Nat → Bool} : ∀ {j : Nat} {pre r : List Nat}, r ∈ ext T fi j pre → chN T pre → chN T r
  | 0, pre, r, h, hc => by
    have h : r ∈ [pre] := h
    rw [List.mem_singleton] at h
    rw [h]; exact hc
  | j + 1, pre, r, h, hc => by
    rw [ext_succ, mem_sib] at h
    obtain ⟨q, _, h1, h2⟩ := h
    by_cases z : okB T fi pre q = true
    · rw [if_pos z] at h2
      refine ch_ext h2 ⟨?_, hc⟩
      cases pre with
      | nil => trivial
      | cons p t =>
        unfold okB at z
        rw [Bool.and_eq_true, Bool.and_eq_true] at z
        exact z.2.1
    · rw [if_neg z] at h2; cases h2
theorem tm_half {T : Tm} (hg : ∀ p, T.gv p p = false) (wt : Int) : ∀ (l : List Nat), chN T l → 1 ≤ l.length → l.length ≤ T.n - 1 → tmW T.n wt l ≤ l.length / 2 ∧ (∀ q t, l = q :: t → (q : Int) ≠ wt → tmW T.n wt l ≤ (l.length - 1) / 2)
  | [], _, h, _ => by simp at h
  | [q], _, _, _ => ⟨Nat.zero_le _, fun _ _ _ _ => Nat.zero_le _⟩
  | q :: p :: t, hc, _, hl => by
    have hl' : (p :: t).length + 1 ≤ T.n - 1 := hl
    obtain ⟨i1, i2⟩ := tm_half hg wt (p :: t) hc.2 (by simp) (by omega)
    have e : tmW T.n wt (q :: p :: t) = tmW T.n wt (p :: t) + (if (p :: t).length < T.n - 1 ∧ (q : Int) = wt then 1 else 0) := rfl
    have el : (q :: p :: t).length = (p :: t).length + 1 := rfl
    rw [e, el]
    by_cases z : (q : Int) = wt
    · have pq : (p : Int) ≠ wt := by
        intro y
        have : p = q := by omega
        have g := hc.1
        rw [this] at g
        have g : T.gv q q = true := g
        rw [hg q] at g; cases g
      have := i2 p t rfl pq
      rw [if_pos ⟨by omega, z⟩]
      refine ⟨by simp only [List.length_cons] at this ⊢; omega, fun q' t' he hne => ?_⟩
      injection he with h1 h2
      rw [← h1] at hne
      exact absurd z hne
    · rw [if_neg (fun y => z y.2)]
      refine ⟨by omega, fun _ _ _ _ => by omega⟩
theorem tm_two {T : Tm} (hg : ∀ p, T.gv p p = false) (hn : T.n ≤ 6) (hn2 : 2 ≤ T.n) (wt : Int) {r : List Nat} (hc : chN T r) (hl : r.length = T.n) : tmW T.n wt r ≤ 2 := by
  cases r with
  | nil => exact Nat.zero_le _
  | cons q t =>
    cases t with
    | nil => exact Nat.zero_le _
    | cons p t =>
      have hl' : (p :: t).length + 1 = T.n := hl
      have := (tm_half hg wt (p :: t) hc.2 (by simp) (by omega)).1
      show tmW T.n wt (p :: t) + (if (p :: t).length < T.n - 1 ∧ (q : Int) = wt then 1 else 0) ≤ 2
      rw [if_neg (by omega)]
      omega
def keyW (T : Tm) (wt : Int) (ask : Nat) (r : List Nat) : Int := keyL T r + ((ask * tmW T.n wt r : Nat) : Int) * 16777216
theorem ix3k {r k : Nat} (hr : r < 128) (hk : k < 3) : w32 (w32 ((r : Int) * 3) + (k : Int)) = ((r * 3 + k : Nat) : Int) := by
  rw [w32_id (x := (r : Int) * 3) (by unfold in32; omega), w32_id (by unfold in32; omega)]; omega
def addK (m : Int) (a : Nat) : Int := if m = NOW then NOW else m + (a : Int) * 16777216
theorem S_takenAsking_92 {d : Nat} {Q : MV → Wd → Prop} {w : Wd} (row ask : Nat) (hr : row < 128) (ha : ask ≤ 20) (hb : ∀ k, k < 3 → w 98 (row * 3 + k) = NOW ∨ (0 ≤ w 98 (row * 3 + k) ∧ w 98 (row * 3 + k) < 1152921504606846976))
    (k : Q (mL (min (min (addK (w 98 (row * 3)) 0) (addK (w 98 (row * 3 + 1)) ask)) (addK (w 98 (row * 3 + 2)) (ask * 2)))) w) : Cw (d + 2) 70 [mR 92, mI row, mI ask] w Q := by
  apply Meeting_takenAsking_92_en
  intro n1
  -- one round
  have rd1 : ∀ (x : Int) (t : Nat), t < 3 → x ≤ NOW → Wp (Cw (d + 1)) cd_Meeting_takenAsking (3, 0, n1) Q 4 [mR 92, mI row, mI ask, mL (min x (addK (w 98 (row * 3 + t)) (ask * t))), none, mI (t + 1 : Nat)] [] w → Wp (Cw (d + 1)) cd_Meeting_takenAsking (3, 0, n1) Q 4 [mR 92, mI row, mI ask, mL x, none, mI t] [] w := by
    intro x t ht hx h
    have hbt := hb t ht
    have hm : ask * t ≤ 20 * 2 := Nat.mul_le_mul ha (by omega)
    apply Meeting_takenAsking_92_c4
    rw [ix3k hr ht, Int.toNat_natCast, ixs (k := t) (by omega), show (ask : Int) * (t : Int) = ((ask * t : Nat) : Int) from (Int.natCast_mul ask t).symm, w32n (n := ask * t) (by omega)]
    unfold addK at h
    (repeat' (apply spl <;> intro))
    · exfalso; omega
    · (refine And.intro (by omega) ?_)
      have g1 : lshl ((ask * t : Nat) : Int) 24 = (ask * t * 16777216 : Nat) := by
        have := lshl_nat (a := ask * t) (n := 24) (by omega) (by rw [show 2 ^ 24 = 16777216 from rfl]; omega)
        rw [show 2 ^ 24 = 16777216 from rfl] at this
        exact this
      rw [g1]
      generalize ask * t = at' at *
      (repeat' (apply spl <;> intro))
      · rename_i z
        have z : ¬ w 98 (row * 3 + t) = NOW := fun y => z (cmp3_zero.mpr y)
        rw [if_neg z] at h
        rw [w64_id (by unfold in64; omega)]
        have e : ((at' * 16777216 : Nat) : Int) = (at' : Int) * 16777216 := by omega
        rw [e]; exact h
      · rename_i z
        have z : w 98 (row * 3 + t) = NOW := cmp3_zero.mp (Decidable.not_not.mp z)
        rw [if_pos z] at h
        exact h
  have adk : ∀ m a, (m = NOW ∨ (0 ≤ m ∧ m < 1152921504606846976)) → a ≤ 40 → addK m a ≤ NOW := by
    intro m a h1 h2
    unfold addK NOW
    split
    · omega
    · rename_i z
      unfold NOW at h1
      omega
  refine rd1 9223372036854775807 0 (by omega) (by unfold NOW; omega) ?_
  refine rd1 _ 1 (by omega) (by have := adk _ (ask * 0) (hb 0 (by omega)) (by omega); omega) ?_
  refine rd1 _ 2 (by omega) (by have := adk _ (ask * 0) (hb 0 (by omega)) (by omega); omega) ?_
  apply Meeting_takenAsking_92_c4
  have a0 := adk _ 0 (hb 0 (by omega)) (by omega)
  refine ⟨fun _ => ?_, fun z => by exfalso; omega⟩
  rw [Nat.mul_zero, Nat.mul_one, Nat.add_zero, Int.min_eq_right (show addK (w 98 (row * 3)) 0 ≤ 9223372036854775807 from a0)]
  exact k
/-- the least key, the one watched asking so much -/
theorem least_ask {L : List (List Nat)} {hit : List Nat → Bool} {T : Tm} {wt : Int} {ask : Nat} {m0 m1 m2 : Int} (hL : ∀ r, r ∈ L → tmW T.n wt r ≤ 2 ∧ keyL T r < 1152921504606846976) (ha : ask ≤ 20)
    (h0 : LeastK L (fun r => hit r && (min (tmW T.n wt r) 2 == 0)) (keyL T) m0) (h1 : LeastK L (fun r => hit r && (min (tmW T.n wt r) 2 == 1)) (keyL T) m1) (h2 : LeastK L (fun r => hit r && (min (tmW T.n wt r) 2 == 2)) (keyL T) m2) :
    LeastK L hit (keyW T wt ask) (min (min (addK m0 0) (addK m1 ask)) (addK m2 (ask * 2))) := by
  have part : ∀ (m : Int) (t : Nat), t ≤ 2 → LeastK L (fun r => hit r && (min (tmW T.n wt r) 2 == t)) (keyL T) m → (∀ r, r ∈ L → hit r = true → tmW T.n wt r = t → addK m (ask * t) ≤ keyW T wt ask r) ∧ ((addK m (ask * t) = NOW ∧ ∀ r, r ∈ L → hit r = true → tmW T.n wt r = t → False) ∨ ∃ r, r ∈ L ∧ hit r = true ∧ addK m (ask * t) = keyW T wt ask r) ∧ addK m (ask * t) ≤ NOW := by
    intro m t ht h
    have hm : ask * t ≤ 20 * 2 := Nat.mul_le_mul ha (by omega)
    rcases h.2 with ⟨a, b⟩ | ⟨r, a, b, c⟩
    · refine ⟨fun r hr hh ht => ?_, Or.inl ⟨by unfold addK; rw [if_pos a], fun r hr hh ht => ?_⟩, by unfold addK; rw [if_pos a]; exact Int.le_refl _⟩
      · have := b r hr
        dsimp only at this
        rw [hh, ht] at this
        simp at this
        omega
      · have := b r hr
        dsimp only at this
        rw [hh, ht] at this
        simp at this
        omega
    · dsimp only at b
      rw [Bool.and_eq_true, beq_iff_eq] at b
      obtain ⟨l1, l2⟩ := hL r a
      have mn : m ≠ NOW := by unfold NOW; omega
      have tr : tmW T.n wt r = t := by omega
      refine ⟨fun r' hr' hh ht' => ?_, Or.inr ⟨r, a, b.1, ?_⟩, ?_⟩
      · have := h.1 r' hr' (by dsimp only; rw [hh, ht']; simp; omega)
        unfold addK keyW
        rw [if_neg mn, ht']
        omega
      · unfold addK keyW
        rw [if_neg mn, tr, c]
      · unfold addK
        rw [if_neg mn]; unfold NOW; omega
  obtain ⟨a1, a2, a3⟩ := part m0 0 (by omega) h0
  obtain ⟨b1, b2, b3⟩ := part m1 1 (by omega) h1
  obtain ⟨c1, c2, c3⟩ := part m2 2 (by omega) h2
  rw [Nat.mul_zero] at a1 a2 a3
  rw [Nat.mul_one] at b1 b2 b3
  refine ⟨fun r hr hh => ?_, ?_⟩
  · have := (hL r hr).1
    rcases (show tmW T.n wt r = 0 ∨ tmW T.n wt r = 1 ∨ tmW T.n wt r = 2 by omega) with z | z | z
    · have := a1 r hr hh z; omega
    · have := b1 r hr hh z; omega
    · have := c1 r hr hh z; omega
  · by_cases y1 : addK m0 0 ≤ addK m1 ask ∧ addK m0 0 ≤ addK m2 (ask * 2)
    · have e : min (min (addK m0 0) (addK m1 ask)) (addK m2 (ask * 2)) = addK m0 0 := by omega
      rw [e]
      rcases a2 with ⟨x1, x2⟩ | x
      · left
        refine ⟨x1, fun r hr => ?_⟩
        cases hh : hit r
        · rfl
        · exfalso
          have := (hL r hr).1
          rcases (show tmW T.n wt r = 0 ∨ tmW T.n wt r = 1 ∨ tmW T.n wt r = 2 by omega) with z | z | z
          · exact x2 r hr hh z
          · rcases b2 with ⟨_, y⟩ | ⟨r', _, _, y⟩
            · exact y r hr hh z
            · have := b1 r hr hh z
              have kb := (hL r hr).2
              have hm : ask * tmW T.n wt r ≤ 20 * 2 := Nat.mul_le_mul ha (by omega)
              unfold keyW at this
              unfold NOW at x1
              omega
          · rcases c2 with ⟨_, y⟩ | ⟨r', _, _, y⟩
            · exact y r hr hh z
            · have := c1 r hr hh z
              have kb := (hL r hr).2
              have hm : ask * tmW T.n wt r ≤ 20 * 2 := Nat.mul_le_mul ha (by omega)
              unfold keyW at this
              unfold NOW at x1
              omega
      · exact Or.inr x
    · by_cases y2 : addK m1 ask ≤ addK m2 (ask * 2)
      · have e : min (min (addK m0 0) (addK m1 ask)) (addK m2 (ask * 2)) = addK m1 ask := by omega
        rw [e]
        rcases b2 with ⟨x1, x2⟩ | x
        · exfalso; omega
        · exact Or.inr x
      · have e : min (min (addK m0 0) (addK m1 ask)) (addK m2 (ask * 2)) = addK m2 (ask * 2) := by omega
        rw [e]
        rcases c2 with ⟨x1, x2⟩ | x
        · exfalso; omega
        · exact Or.inr x

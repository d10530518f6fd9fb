/-- the wants of some people -/
def wantM (s : Nat → Int) (S : Nat) : Nat → Nat
  | 0 => 0
  | v + 1 => if S.testBit (s (109 + 4 * v)).toNat = true then wantM s S v ||| 2 ^ v else wantM s S v
theorem wantM_lt (s : Nat → Int) (S : Nat) : ∀ n : Nat, wantM s S n < 2 ^ n
  | 0 => by show 0 < 2 ^ 0; omega
  | v + 1 => by
    have h := wantM_lt s S v
    have e : 2 ^ (v + 1) = 2 ^ v + 2 ^ v := by rw [Nat.pow_succ]; omega
    show (if S.testBit (s (109 + 4 * v)).toNat = true then wantM s S v ||| 2 ^ v else wantM s S v) < 2 ^ (v + 1)
    split
    · rw [or_pow h]; omega
    · omega
theorem wantM_bit (s : Nat → Int) (S : Nat) : ∀ n k : Nat, (wantM s S n).testBit k = (decide (k < n) && S.testBit (s (109 + 4 * k)).toNat)
  | 0, k => by
    show (0 : Nat).testBit k = _
    rw [Nat.zero_testBit, decide_eq_false (by omega)]; rfl
  | v + 1, k => by
    have h := wantM_bit s S v k
    show (if S.testBit (s (109 + 4 * v)).toNat = true then wantM s S v ||| 2 ^ v else wantM s S v).testBit k = _
    by_cases e : k = v
    · subst e
      have z : (wantM s S k).testBit k = false := by rw [h, decide_eq_false (by omega)]; rfl
      rw [decide_eq_true (by omega), Bool.true_and]
      by_cases q : S.testBit (s (109 + 4 * k)).toNat = true
      · rw [if_pos q, tbit_or_pow, z, q]; simp
      · rw [if_neg q, z]
        cases y : S.testBit (s (109 + 4 * k)).toNat
        · rfl
        · exact absurd y q
    · have d1 : decide (k < v + 1) = decide (k < v) := by
        by_cases y : k < v
        · rw [decide_eq_true y, decide_eq_true (by omega)]
        · rw [decide_eq_false y, decide_eq_false (by omega)]
      rw [d1, ← h]
      split
      · rw [tbit_or_pow, decide_eq_false (by omega), Bool.or_false]
      · rfl
theorem bit_eq1 {b : Bool} : ((if b = true then (1 : Int) else 0) = 1) ↔ b = true := by cases b <;> simp
theorem bit_eq0 {b : Bool} : ((if b = true then (1 : Int) else 0) = 0) ↔ ¬ b = true := by cases b <;> simp
theorem S_wantsOf {d : Nat} {Q : MV → Wd → Prop} {w : Wd} {s : Nat → Int} (ws : WS s) (W : Nat) (hW : W ≤ 8) (e11 : w 4 11 = W) (eW : s 3 = W) (hw : ∀ i : Nat, (i : Int) < 4 * s 3 → w 13 i = s (109 + i)) (S : Nat) (hS : S < 256)
    (k : Q (mI (wantM s S W)) w) : Cw (d + 2) 153 [mR 4, mI (S : Int)] w Q := by
  have pe := ws.pe
  apply Village_wantsOf_4_en
  intro n1
  have lp : ∀ (m v : Nat), v + m = W → Wp (Cw (d + 1)) cd_Village_wantsOf (1, 0, n1) Q 4 [mR 4, mI S, mI (wantM s S v), mI v] [] w := by
    intro m
    induction m with
    | zero =>
      intro v hv
      have : v = W := by omega
      subst this
      apply Village_wantsOf_4_c4
      exact ⟨fun _ => k, fun y => absurd (by rw [e11]; exact Int.le_refl _) y⟩
    | succ m ih =>
      intro v hv
      have nb : ¬ w 4 11 ≤ (v : Int) := by rw [e11]; omega
      have r1 : 0 ≤ ((4 * v : Nat) : Int) ∧ ((4 * v : Nat) : Int) < 32 := by omega
      have ww := ws.wwho v (by omega)
      have e13 : w 13 (4 * v) = ((s (109 + 4 * v)).toNat : Int) := by rw [hw _ (by omega)]; omega
      have t32 : (s (109 + 4 * v)).toNat < 32 := by omega
      have vm : v + 1 + m = W := by omega
      have lt := wantM_lt s S v
      have p8 := pw8 (v := v) (by omega)
      have i1 := ih (v + 1) vm
      have s1 : wantM s S (v + 1) = if S.testBit (s (109 + 4 * v)).toNat = true then wantM s S v ||| 2 ^ v else wantM s S v := rfl
      rw [s1] at i1
      apply Village_wantsOf_4_c4
      rw [ix4_0 (by omega), Int.toNat_natCast, e13, hasbit _ t32, tb_nat _ _ (by omega), w_s64 (i := v) (by omega), ishl1 (by omega), ior_nat (by omega) (by omega), show (0 : Int) = ((0 : Nat) : Int) from rfl, ior_nat (by omega) (by omega), Nat.or_zero]
      refine ⟨fun y => absurd y nb, fun _ => ⟨r1, fun y => ?_, fun y => ?_⟩⟩
      · rw [if_neg (bit_eq0.mp y)] at i1
        exact i1
      · by_cases q : S.testBit (s (109 + 4 * v)).toNat = true
        · rw [if_pos q] at i1
          exact i1
        · exact absurd (bit_eq0.mpr q) y
  exact lp W 0 (by omega)
/-- some people only lend hands -/
def TmL (s : Nat → Int) (S : Nat) : Tm := ⟨(TmS s).n, (TmS s).back, (TmS s).P, (TmS s).gv, (TmS s).pn, (TmS s).hr, (TmS s).ak, fun q => S.testBit q, (TmS s).tw⟩
theorem TmB_L {s : Nat → Int} (hb0 : TmB (TmS s)) (S : Nat) : TmB (TmL s S) := (TmB.mk (hb0.P8) (hb0.n2) (hb0.n6) (hb0.hr9) (hb0.pn9) (hb0.ak9) (hb0.gvi))
theorem CtT_L {vo mt tm ak pn hr s : Nat → Int} {wt : Int} {S : Nat} (hS : S < 256) (h : CtT vo mt (up1 tm 6 (-1)) ak pn hr wt (TmS s)) : CtT vo mt (up1 tm 6 (S : Int)) ak pn hr wt (TmL s S) := by
  refine (CtT.mk (h.P) (h.P8) ?_ (h.n2) (h.n6) ?_ (h.back3) (fun q hq => ?_) (fun p q hp hq => ?_) (h.pn) (h.ak) (h.mates) (h.pn9) (h.hr9) (h.ak9) (h.wt0))
  · have := h.n
    rw [up1_ap, if_neg (by decide)] at this ⊢
    exact this
  · have := h.back
    rw [up1_ap, if_neg (by decide)] at this ⊢
    exact this
  · rw [up1_ap, if_pos rfl, tb_nat _ _ (by omega)]
    rfl
  · have := h.gv p q hp hq
    rw [up1_ap, if_neg (by decide)] at this ⊢
    exact this
theorem RfT_L {o v gv pn hr ak s : Nat → Int} {S : Nat} (hS : S < 256) (h : RfT o v gv pn hr ak (TmS s)) : RfT (up1 o 27 (S : Int)) v gv pn hr ak (TmL s S) := by
  refine (RfT.mk (h.P) (h.P8) (h.n2) (h.n6) ?_ (h.back3) (fun q hq => ?_) (h.gv) (h.pn) (h.hr) (h.ak) (h.tw) (h.pn9) (h.hr9) (h.ak9) (h.tw9))
  · rw [up1_ap, if_neg (by decide)]; exact h.back
  · rw [up1_ap, if_pos rfl, hasbit _ (by omega), tb_nat _ _ (by omega)]; rfl
theorem mat_adj {W : Nat} {adj : Nat → Nat → Bool} : ∀ (U : Nat) (X : Nat → Bool), mat W adj U X → ∀ w, X w = true → ∃ u, adj u w = true
  | 0, X, hm, w, hx => by
    have := hm w
    rw [hx] at this; cases this
  | k + 1, X, hm, w, hx => by
    rcases hm with hm | ⟨w', a, b, c, e⟩
    · exact mat_adj k X hm w hx
    · by_cases y : w = w'
      · subst y; exact ⟨k, c⟩
      · refine mat_adj k (remB X w') e w ?_
        unfold remB
        rw [hx]; simp [y]
theorem ha_ext {T : Tm} {fi : Nat → Bool} : ∀ {j : Nat} {pre r : List Nat}, r ∈ ext T fi j pre → (∀ x, x ∈ pre → T.ha x = true) → ∀ x, x ∈ r → T.ha x = true
  | 0, pre, r, h, hc => by
    have h : r ∈ [pre] := h
    rw [List.mem_singleton] at h
    rw [h]; exact hc
  | j + 1, pre, r, h, hc => by
    rw [ext_succ, mem_sib] at h
    obtain ⟨q, _, h1, h2⟩ := h
    by_cases z : okB T fi pre q = true
    · rw [if_pos z] at h2
      refine ha_ext h2 (fun x hx => ?_)
      rw [List.mem_cons] at hx
      rcases hx with hx | hx
      · unfold okB at z
        rw [Bool.and_eq_true] at z
        rw [hx]; exact z.1
      · exact hc x hx
    · rw [if_neg z] at h2; cases h2
theorem rows_ha {T : Tm} {s : Nat → Int} {u : Nat} {r : List Nat} (h : r ∈ rowsO T s u) : ∀ x, x ∈ r → T.ha x = true := by
  unfold rowsO at h
  split at h
  · exact ha_ext h (fun x hx => by cases hx)
  · cases h
/-- all that some want is met as told -/
def livP (s : Nat → Int) (S : Nat) : Prop := ¬ wantM s S (s 3).toNat = 0 ∧ mat (s 3).toNat (adjS (TmL s S) s) (s 2).toNat (wantM s S (s 3).toNat).testBit
theorem live_adj {s : Nat → Int} (ws : WS s) {S u v : Nat} (h : adjS (TmL s S) s u v = true) : S.testBit (s (109 + 4 * v)).toNat = true := by
  unfold adjS at h
  rw [Bool.and_eq_true, Bool.and_eq_true, decide_eq_true_eq, decide_eq_true_eq] at h
  cases o : wayO (TmL s S) s u v with
  | none => rw [o] at h; exact absurd h.2 (by simp)
  | some b =>
    have hb := TmB_L (TmB_told ws) S
    have wr := wayO_row hb.P8 hb.n6 hb.hr9 hb.pn9 hb.ak9 o
    have ht := wr.2.1
    cases b with
    | nil => unfold hitS at ht; simp at ht
    | cons q t =>
      have h1 : s (109 + 4 * v) = q := by
        unfold hitS at ht
        rw [Bool.and_eq_true, decide_eq_true_eq] at ht
        exact ht.1
      have h2 := rows_ha wr.1
      rw [h1]
      exact h2 q (List.mem_cons_self ..)
theorem liv_most {s : Nat → Int} (ws : WS s) {S v : Nat} (h : IsMost (s 3).toNat (adjS (TmL s S) s) (s 2).toNat v) : v = pop (wantM s S (s 3).toNat) ↔ mat (s 3).toNat (adjS (TmL s S) s) (s 2).toNat (wantM s S (s 3).toNat).testBit := by
  have wa := ws.wa
  have pc : pop (wantM s S (s 3).toNat) = cntB (s 3).toNat (wantM s S (s 3).toNat).testBit := pop_cnt (by omega) (wantM_lt s S _)
  have sub : ∀ X, mat (s 3).toNat (adjS (TmL s S) s) (s 2).toNat X → ∀ w, X w = true → (wantM s S (s 3).toNat).testBit w = true := fun X hX w hw => by
    obtain ⟨u, hu⟩ := mat_adj _ X hX w hw
    rw [wantM_bit, decide_eq_true (mat_sub hX w hw), Bool.true_and]
    exact live_adj ws hu
  constructor
  · intro e
    obtain ⟨X, a, b⟩ := h.2
    have eX : X = (wantM s S (s 3).toNat).testBit := by
      funext w
      cases y : X w
      · cases z : (wantM s S (s 3).toNat).testBit w
        · rfl
        · have lt : w < (s 3).toNat := by
            rw [wantM_bit, Bool.and_eq_true, decide_eq_true_eq] at z
            exact z.1
          have := cntB_back (p := X) (q := (wantM s S (s 3).toNat).testBit) (n := (s 3).toNat) (fun i _ hi => sub X a i hi) (by omega) w lt z
          rw [this] at y; cases y
      · rw [sub X a w y]
    rw [← eX]; exact a
  · intro hm
    have l1 := h.1 _ hm
    obtain ⟨X, a, b⟩ := h.2
    have l2 := cntB_mono (p := X) (q := (wantM s S (s 3).toNat).testBit) (n := (s 3).toNat) (fun i _ hi => sub X a i hi)
    omega

/-! the search for rows: its state, what remains -/
def tmN (T : Tm) : List Nat → Nat
  | [] => 0
  | q :: t => tmN T t ^^^ (if T.back = 3 then 2 ^ (T.tw q) else 0)
def okP (T : Tm) (fi : Nat → Bool) : List Nat → Prop
  | [] => True
  | q :: t => okP T fi t ∧ okB T fi t q = true ∧ q < T.P
def RowOk (T : Tm) (rw tr rh rp ra : Nat → Int) : List Nat → Prop
  | [] => True
  | q :: t => (rw t.length = q ∧ q < 8 ∧ tr t.length = q + 1 ∧ rh t.length = hoL T (q :: t) ∧ rp t.length = paL T (q :: t) ∧ ra t.length = asL T (q :: t)) ∧ RowOk T rw tr rh rp ra t
theorem RowOk_ext {T : Tm} {rw tr rh rp ra rw' tr' rh' rp' ra' : Nat → Int} : ∀ {pre : List Nat}, (∀ i, i < pre.length → rw' i = rw i ∧ tr' i = tr i ∧ rh' i = rh i ∧ rp' i = rp i ∧ ra' i = ra i) → RowOk T rw tr rh rp ra pre → RowOk T rw' tr' rh' rp' ra' pre
  | [], _, _ => trivial
  | q :: t, e, h => by
    obtain ⟨⟨h1, h2, h3, h4, h5, h6⟩, h7⟩ := h
    obtain ⟨e1, e2, e3, e4, e5⟩ := e t.length (by simp)
    refine ⟨⟨by rw [e1, h1], h2, by rw [e2, h3], by rw [e3, h4], by rw [e4, h5], by rw [e5, h6]⟩, RowOk_ext (fun i hi => e i (by simp; omega)) h7⟩
def StA (T : Tm) (w : Wd) (pre : List Nat) : Prop := RowOk T (w 155) (w 156) (w 157) (w 158) (w 159) pre ∧ (∀ q, q < 8 → w 160 q = (pre.count q : Nat)) ∧ w 144 34 = (tmN T pre : Nat)
theorem tmN_lt {T : Tm} (ht : ∀ q, T.tw q ≤ 9) : ∀ pre : List Nat, tmN T pre < 1024
  | [] => by show 0 < 1024; omega
  | q :: t => by
    refine Nat.xor_lt_two_pow (n := 10) (tmN_lt ht t) ?_
    have h := Nat.pow_le_pow_right (n := 2) (by omega) (ht q)
    rw [show (2 : Nat) ^ 9 = 512 from rfl] at h
    rw [show (2 : Nat) ^ 10 = 1024 from rfl]
    split <;> omega
theorem tmN_bit {T : Tm} (hb : T.back = 3) {fi : Nat → Bool} (k : Nat) : ∀ {pre : List Nat}, okP T fi pre → (tmN T pre).testBit k = pre.any (fun x => T.tw x == k)
  | [], _ => by show (0 : Nat).testBit k = false; simp
  | q :: t, h => by
    obtain ⟨h1, h2, _⟩ := h
    show (tmN T t ^^^ (if T.back = 3 then 2 ^ (T.tw q) else 0)).testBit k = (T.tw q == k || t.any (fun x => T.tw x == k))
    rw [if_pos hb, Nat.testBit_xor, tmN_bit hb k h1, Nat.testBit_two_pow]
    by_cases e : T.tw q = k
    · have z : t.any (fun x => T.tw x == k) = false := by
        cases t with
        | nil => rfl
        | cons p t' =>
          unfold okB at h2
          rw [hb] at h2
          simp only [if_neg (show ¬ (3 : Nat) = 1 by decide), if_neg (show ¬ (3 : Nat) = 2 by decide), if_true] at h2
          rw [Bool.and_eq_true, Bool.and_eq_true] at h2
          rw [← e]
          simpa using h2.2.2
      rw [z]; simp [e]
    · have : (T.tw q == k) = false := by simp; exact e
      rw [this]; simp [e]
def sibsL (T : Tm) (fi : Nat → Bool) (pre : List Nat) (q0 : Nat) : List (List Nat) := sib (fun q => if okB T fi pre q then ext T fi (T.n - pre.length - 1) (q :: pre) else []) (T.P - q0) q0
def upL (T : Tm) (fi : Nat → Bool) : List Nat → List (List Nat)
  | [] => []
  | p :: t => sibsL T fi t (p + 1) ++ upL T fi t
def remL (T : Tm) (fi : Nat → Bool) (pre : List Nat) (q0 : Nat) : List (List Nat) := sibsL T fi pre q0 ++ upL T fi pre
theorem sibsL_end {T : Tm} {fi : Nat → Bool} {pre : List Nat} {q0 : Nat} (h : T.P ≤ q0) : sibsL T fi pre q0 = [] := by
  unfold sibsL
  rw [show T.P - q0 = 0 by omega]; rfl
theorem sibsL_go {T : Tm} {fi : Nat → Bool} {pre : List Nat} {q0 : Nat} (h : q0 < T.P) : sibsL T fi pre q0 = (if okB T fi pre q0 then ext T fi (T.n - pre.length - 1) (q0 :: pre) else []) ++ sibsL T fi pre (q0 + 1) := by
  unfold sibsL
  rw [show T.P - q0 = (T.P - (q0 + 1)) + 1 by omega]; rfl
theorem ext_sibs {T : Tm} {fi : Nat → Bool} {pre : List Nat} (h : pre.length < T.n) : ext T fi (T.n - pre.length) pre = sibsL T fi pre 0 := by
  rw [show T.n - pre.length = (T.n - pre.length - 1) + 1 by omega, ext_succ]
  unfold sibsL
  rw [Nat.sub_zero]
theorem rows_rem {T : Tm} {fi : Nat → Bool} (h : 0 < T.n) : rowsL T fi = remL T fi [] 0 := by
  have := ext_sibs (T := T) (fi := fi) (pre := []) h
  unfold rowsL remL
  rw [show upL T fi [] = [] from rfl, List.append_nil, ← this]; rfl
/-- a measure of what the search has still to do -/
def muL (T : Tm) : List Nat → Nat
  | [] => 0
  | p :: t => (T.P - p) * 10 ^ (T.n - t.length) + muL T t
def muS (T : Tm) (pre : List Nat) (q0 : Nat) : Nat := (T.P + 1 - q0) * 10 ^ (T.n - pre.length) + muL T pre
theorem mu_skip {T : Tm} {pre : List Nat} {q0 : Nat} (h : q0 ≤ T.P) : muS T pre (q0 + 1) < muS T pre q0 := by
  unfold muS
  have p : 0 < 10 ^ (T.n - pre.length) := Nat.pow_pos (by omega)
  rw [show T.P + 1 - q0 = (T.P + 1 - (q0 + 1)) + 1 by omega, Nat.succ_mul]
  omega
theorem mu_pop {T : Tm} {p : Nat} {t : List Nat} {q0 : Nat} (h : q0 ≤ T.P) : muS T t (p + 1) < muS T (p :: t) q0 := by
  unfold muS
  show (T.P + 1 - (p + 1)) * 10 ^ (T.n - t.length) + muL T t < (T.P + 1 - q0) * 10 ^ (T.n - (p :: t).length) + ((T.P - p) * 10 ^ (T.n - t.length) + muL T t)
  have pp : 0 < 10 ^ (T.n - (p :: t).length) := Nat.pow_pos (by omega)
  have : 1 * 10 ^ (T.n - (p :: t).length) ≤ (T.P + 1 - q0) * 10 ^ (T.n - (p :: t).length) := Nat.mul_le_mul_right _ (by omega)
  rw [show T.P + 1 - (p + 1) = T.P - p by omega]
  omega
theorem mu_down {T : Tm} {pre : List Nat} {q0 : Nat} (h : q0 < T.P) (hP : T.P ≤ 8) (hn : pre.length < T.n) : muS T (q0 :: pre) 0 < muS T pre q0 := by
  unfold muS
  show (T.P + 1) * 10 ^ (T.n - (q0 :: pre).length) + ((T.P - q0) * 10 ^ (T.n - pre.length) + muL T pre) < (T.P + 1 - q0) * 10 ^ (T.n - pre.length) + muL T pre
  have e : T.n - pre.length = (T.n - (q0 :: pre).length) + 1 := by simp; omega
  rw [e, Nat.pow_succ]
  have p : 0 < 10 ^ (T.n - (q0 :: pre).length) := Nat.pow_pos (by omega)
  generalize 10 ^ (T.n - (q0 :: pre).length) = X at *
  have : (T.P + 1) * X ≤ 9 * X := Nat.mul_le_mul_right _ (by omega)
  rw [show T.P + 1 - q0 = (T.P - q0) + 1 by omega, Nat.add_mul (T.P - q0) 1 (X * 10), Nat.one_mul]
  generalize (T.P - q0) * (X * 10) = Z at *
  omega
def RfT (o v146 gv pn hr ak : Nat → Int) (T : Tm) : Prop := (v146 0 = T.P) ∧ (T.P ≤ 8) ∧ (2 ≤ T.n) ∧ (T.n ≤ 6) ∧ (o 26 = T.back) ∧ (T.back ≤ 3) ∧ (∀ q, q < 8 → iand (ishr (o 27) (q : Nat)) 1 = if T.ha q then 1 else 0) ∧ (∀ p q, p < 8 → q < 8 → (¬ gv (8 * p + q) = 0 ↔ T.gv p q = true)) ∧ (∀ p q, p < 8 → q < 8 → pn (8 * p + q) = T.pn p q) ∧ (∀ p q, p < 8 → q < 8 → hr (8 * p + q) = T.hr p q) ∧ (∀ q, q < 8 → ak q = T.ak q) ∧ (∀ q, q < 8 → v146 (7 + q) = T.tw q) ∧ (∀ p q, T.pn p q ≤ 99) ∧ (∀ p q, T.hr p q ≤ 9) ∧ (∀ q, T.ak q ≤ 99) ∧ (∀ q, T.tw q ≤ 9)
theorem RfT.mk {o v146 gv pn hr ak : Nat → Int} {T : Tm} (P_ : v146 0 = T.P) (P8_ : T.P ≤ 8) (n2_ : 2 ≤ T.n) (n6_ : T.n ≤ 6) (back_ : o 26 = T.back) (back3_ : T.back ≤ 3) (hands_ : ∀ q, q < 8 → iand (ishr (o 27) (q : Nat)) 1 = if T.ha q then 1 else 0) (gv_ : ∀ p q, p < 8 → q < 8 → (¬ gv (8 * p + q) = 0 ↔ T.gv p q = true)) (pn_ : ∀ p q, p < 8 → q < 8 → pn (8 * p + q) = T.pn p q) (hr_ : ∀ p q, p < 8 → q < 8 → hr (8 * p + q) = T.hr p q) (ak_ : ∀ q, q < 8 → ak q = T.ak q) (tw_ : ∀ q, q < 8 → v146 (7 + q) = T.tw q) (pn9_ : ∀ p q, T.pn p q ≤ 99) (hr9_ : ∀ p q, T.hr p q ≤ 9) (ak9_ : ∀ q, T.ak q ≤ 99) (tw9_ : ∀ q, T.tw q ≤ 9) : RfT o v146 gv pn hr ak T := And.intro P_ (And.intro P8_ (And.intro n2_ (And.intro n6_ (And.intro back_ (And.intro back3_ (And.intro hands_ (And.intro gv_ (And.intro pn_ (And.intro hr_ (And.intro ak_ (And.intro tw_ (And.intro pn9_ (And.intro hr9_ (And.intro ak9_ (tw9_)))))))))))))))
theorem RfT.P {o v146 gv pn hr ak : Nat → Int} {T : Tm} (h_ : RfT o v146 gv pn hr ak T) : v146 0 = T.P := h_.1
theorem RfT.P8 {o v146 gv pn hr ak : Nat → Int} {T : Tm} (h_ : RfT o v146 gv pn hr ak T) : T.P ≤ 8 := h_.2.1
theorem RfT.n2 {o v146 gv pn hr ak : Nat → Int} {T : Tm} (h_ : RfT o v146 gv pn hr ak T) : 2 ≤ T.n := h_.2.2.1
theorem RfT.n6 {o v146 gv pn hr ak : Nat → Int} {T : Tm} (h_ : RfT o v146 gv pn hr ak T) : T.n ≤ 6 := h_.2.2.2.1
theorem RfT.back {o v146 gv pn hr ak : Nat → Int} {T : Tm} (h_ : RfT o v146 gv pn hr ak T) : o 26 = T.back := h_.2.2.2.2.1
theorem RfT.back3 {o v146 gv pn hr ak : Nat → Int} {T : Tm} (h_ : RfT o v146 gv pn hr ak T) : T.back ≤ 3 := h_.2.2.2.2.2.1
theorem RfT.hands {o v146 gv pn hr ak : Nat → Int} {T : Tm} (h_ : RfT o v146 gv pn hr ak T) : ∀ q, q < 8 → iand (ishr (o 27) (q : Nat)) 1 = if T.ha q then 1 else 0 := h_.2.2.2.2.2.2.1
theorem RfT.gv {o v146 gv pn hr ak : Nat → Int} {T : Tm} (h_ : RfT o v146 gv pn hr ak T) : ∀ p q, p < 8 → q < 8 → (¬ gv (8 * p + q) = 0 ↔ T.gv p q = true) := h_.2.2.2.2.2.2.2.1
theorem RfT.pn {o v146 gv pn hr ak : Nat → Int} {T : Tm} (h_ : RfT o v146 gv pn hr ak T) : ∀ p q, p < 8 → q < 8 → pn (8 * p + q) = T.pn p q := h_.2.2.2.2.2.2.2.2.1
theorem RfT.hr {o v146 gv pn hr ak : Nat → Int} {T : Tm} (h_ : RfT o v146 gv pn hr ak T) : ∀ p q, p < 8 → q < 8 → hr (8 * p + q) = T.hr p q := h_.2.2.2.2.2.2.2.2.2.1
theorem RfT.ak {o v146 gv pn hr ak : Nat → Int} {T : Tm} (h_ : RfT o v146 gv pn hr ak T) : ∀ q, q < 8 → ak q = T.ak q := h_.2.2.2.2.2.2.2.2.2.2.1
theorem RfT.tw {o v146 gv pn hr ak : Nat → Int} {T : Tm} (h_ : RfT o v146 gv pn hr ak T) : ∀ q, q < 8 → v146 (7 + q) = T.tw q := h_.2.2.2.2.2.2.2.2.2.2.2.1
theorem RfT.pn9 {o v146 gv pn hr ak : Nat → Int} {T : Tm} (h_ : RfT o v146 gv pn hr ak T) : ∀ p q, T.pn p q ≤ 99 := h_.2.2.2.2.2.2.2.2.2.2.2.2.1
theorem RfT.hr9 {o v146 gv pn hr ak : Nat → Int} {T : Tm} (h_ : RfT o v146 gv pn hr ak T) : ∀ p q, T.hr p q ≤ 9 := h_.2.2.2.2.2.2.2.2.2.2.2.2.2.1
theorem RfT.ak9 {o v146 gv pn hr ak : Nat → Int} {T : Tm} (h_ : RfT o v146 gv pn hr ak T) : ∀ q, T.ak q ≤ 99 := h_.2.2.2.2.2.2.2.2.2.2.2.2.2.2.1
theorem RfT.tw9 {o v146 gv pn hr ak : Nat → Int} {T : Tm} (h_ : RfT o v146 gv pn hr ak T) : ∀ q, T.tw q ≤ 9 := h_.2.2.2.2.2.2.2.2.2.2.2.2.2.2.2
theorem S_mayCome {d : Nat} {Q : MV → Wd → Prop} {w : Wd} {T : Tm} (h : RfT (w 144) (w 146) (w 151) (w 152) (w 153) (w 154) T) {pre : List Nat} (hs : StA T w pre) (u : Nat) (hu : u < 16) (ho : okP T (fiR (w 146) u) pre) (hl : pre.length < T.n) (q : Nat) (hq : q < 8) (k : Q (mI (if okB T (fiR (w 146) u) pre q then 1 else 0)) w) : Cw (d + 2) 216 [mR 144, mI u, mI q, mI pre.length] w Q := by
  obtain ⟨hr, hc, ht⟩ := hs
  have hn6 := h.n6
  have hha := h.hands q hq
  have hfi : fiR (w 146) u q = (decide (w 146 (31 + 5 * u) = q) || decide (w 146 (32 + 5 * u) = q)) := rfl
  apply M_mayCome_144_en
  rw [hha, ixu_2 (by omega), ixu_3 (by omega), Int.toNat_natCast, Int.toNat_natCast, Int.toNat_natCast, ixa_7 (by omega), Int.toNat_natCast]
  cases zh : T.ha q
  · have e : okB T (fiR (w 146) u) pre q = false := by unfold okB; rw [zh]; rfl
    rw [e] at k
    simp only [Bool.false_eq_true, if_false] at k ⊢
    (repeat' (apply spl <;> intro))
    · exact k
    all_goals (exfalso; omega)
  · rw [if_pos (rfl : true = true)]
    cases pre with
    | nil =>
      have e : okB T (fiR (w 146) u) [] q = fiR (w 146) u q := by unfold okB; rw [zh]; simp
      rw [e, hfi] at k
      have l0 : (([] : List Nat).length : Int) = 0 := rfl
      (repeat' (apply spl <;> intro))
      all_goals try (exfalso; omega)
      · (refine And.intro (by omega) ?_)
        (repeat' (apply spl <;> intro))
        · rename_i z
          rw [z] at k
          simpa using k
        · rename_i z
          (refine And.intro (by omega) ?_)
          (repeat' (apply spl <;> intro))
          · rename_i z2
            simp only [z, z2, decide_false, Bool.or_self, Bool.false_eq_true, if_false] at k
            exact k
          · rename_i z2
            have z2 := Decidable.not_not.mp z2
            simp only [z2, decide_true, Bool.or_true, if_true] at k
            exact k
    | cons p t =>
      obtain ⟨⟨r1, r2, _⟩, _⟩ := hr
      have hgv := h.gv p q r2 hq
      have ll : ((p :: t).length : Int) - 1 = (t.length : Int) := by simp
      have lt : t.length < 6 := by simp at hl; omega
      have l0 : ((p :: t).length : Int) = (t.length : Int) + 1 := by simp
      have hcq := hc q hq
      have htw := h.tw q hq
      have htl := tmN_lt h.tw9 (p :: t)
      have twl := h.tw9 q
      have hbk := h.back
      have hb3 := h.back3
      rw [ll, w32n (n := t.length) (by omega), Int.toNat_natCast, r1, ix8b (by omega) (by omega), Int.toNat_natCast, hcq, htw, ht, bit_nat (by omega) (by omega), hbk]
      have e0 : okB T (fiR (w 146) u) (p :: t) q = (T.gv p q && (if T.back = 1 then (!((p :: t).contains q) || fiR (w 146) u q) else if T.back = 2 then (!((p :: t).contains q) && !(fiR (w 146) u q)) else if T.back = 3 then !((p :: t).any (fun x => T.tw x == T.tw q)) else true)) := by
        unfold okB; rw [zh]; simp
      have ec : (p :: t).contains q = decide ((p :: t).count q ≠ 0) := by
        have := List.count_pos_iff (a := q) (l := p :: t)
        by_cases z : q ∈ (p :: t)
        · have y := this.mpr z
          rw [List.contains_iff_mem.mpr z]; simp only [ne_eq]; symm; rw [decide_eq_true_eq]; omega
        · have y : ¬ 0 < (p :: t).count q := fun y => z (this.mp y)
          have : (p :: t).contains q = false := by
            cases c : (p :: t).contains q
            · rfl
            · exact absurd (List.contains_iff_mem.mp c) z
          rw [this]; symm; simp only [ne_eq, decide_eq_false_iff_not]; omega
      have e3 : T.back = 3 → (tmN T (p :: t)).testBit (T.tw q) = (p :: t).any (fun x => T.tw x == T.tw q) := fun z => tmN_bit z _ ho
      rw [e0, ec, hfi] at k
      clear e0 ec hfi
      have hd1 : ∀ x : Int, decide (x = x) = true := fun _ => by simp
      have go : Q (mI (if (T.gv p q && (if T.back = 1 then (!(decide ((p :: t).count q ≠ 0)) || (decide (w 146 (31 + 5 * u) = q) || decide (w 146 (32 + 5 * u) = q))) else if T.back = 2 then (!(decide ((p :: t).count q ≠ 0)) && !(decide (w 146 (31 + 5 * u) = q) || decide (w 146 (32 + 5 * u) = q))) else if T.back = 3 then !((p :: t).any (fun x => T.tw x == T.tw q)) else true)) = true then 1 else 0)) w := k
      have dn : ∀ {x : Prop} [Decidable x], x → decide x = true := fun h => by simp [h]
      have df : ∀ {x : Prop} [Decidable x], ¬ x → decide x = false := fun h => by simp [h]
      cases zg : T.gv p q
      · have g0 : w 151 (8 * p + q) = 0 := Decidable.not_not.mp (fun y => by rw [hgv.mp y] at zg; cases zg)
        rw [zg] at go
        simp only [Bool.false_and, Bool.false_eq_true, if_false] at go
        (repeat' (apply spl <;> intro))
        all_goals try (exfalso; omega)
        (refine And.intro (by omega) ?_); (refine And.intro (by omega) ?_)
        (repeat' (apply spl <;> intro))
        all_goals try (exfalso; omega)
        exact go
      · have g1 := hgv.mpr zg
        rw [zg, Bool.true_and] at go
        (repeat' (apply spl <;> intro))
        all_goals try (exfalso; omega)
        · (refine And.intro (by omega) ?_); (refine And.intro (by omega) ?_)
          (repeat' (apply spl <;> intro))
          all_goals try (exfalso; omega)
          · -- no law
            rename_i _ b1 b2 b3
            rw [if_neg (show ¬ T.back = 1 by omega), if_neg (show ¬ T.back = 2 by omega), if_neg (show ¬ T.back = 3 by omega)] at go
            exact go
          · rename_i _ b1 b2 b3
            have b3 : T.back = 3 := by omega
            rw [if_neg (show ¬ T.back = 1 by omega), if_neg (show ¬ T.back = 2 by omega), if_pos b3, ← e3 b3] at go
            (refine And.intro (by omega) ?_)
            cases zt : (tmN T (p :: t)).testBit (T.tw q)
            · rw [zt] at go
              simp only [Bool.false_eq_true, if_false]
              (repeat' (apply spl <;> intro))
              · exact go
              · exfalso; omega
            · rw [zt] at go
              rw [if_pos (rfl : true = true)]
              (repeat' (apply spl <;> intro))
              · exfalso; omega
              · exact go
          · rename_i _ b1 b2
            have b2 : T.back = 2 := by omega
            rw [if_neg (show ¬ T.back = 1 by omega), if_pos b2] at go
            (refine And.intro (by omega) ?_)
            (repeat' (apply spl <;> intro))
            · rename_i y
              rw [dn (show (p :: t).count q ≠ 0 by omega)] at go
              exact go
            · rename_i y
              rw [df (show ¬ (p :: t).count q ≠ 0 by omega)] at go
              (refine And.intro (by omega) ?_)
              (repeat' (apply spl <;> intro))
              · rename_i y2
                rw [dn y2] at go
                exact go
              · rename_i y2
                rw [df y2] at go
                (refine And.intro (by omega) ?_)
                (repeat' (apply spl <;> intro))
                · rename_i y3
                  rw [df y3] at go
                  exact go
                · rename_i y3
                  rw [dn (Decidable.not_not.mp y3)] at go
                  exact go
          · rename_i _ b1
            have b1 : T.back = 1 := by omega
            rw [if_pos b1] at go
            (refine And.intro (by omega) ?_)
            (repeat' (apply spl <;> intro))
            · rename_i y
              rw [df (show ¬ (p :: t).count q ≠ 0 by omega)] at go
              exact go
            · rename_i y
              rw [dn (show (p :: t).count q ≠ 0 by omega)] at go
              (refine And.intro (by omega) ?_)
              (repeat' (apply spl <;> intro))
              · rename_i y2
                rw [dn y2] at go
                exact go
              · rename_i y2
                rw [df y2] at go
                (refine And.intro (by omega) ?_)
                (repeat' (apply spl <;> intro))
                · rename_i y3
                  rw [df y3] at go
                  exact go
                · rename_i y3
                  rw [dn (Decidable.not_not.mp y3)] at go
                  exact go

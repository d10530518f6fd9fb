def SrS (T : Tm) (fi : Nat → Bool) (w : Wd) (L : List (List Nat)) : Prop :=
  (∃ pre q0, StA T w pre ∧ okP T fi pre ∧ pre.length < T.n ∧ w 144 36 = (pre.length : Nat) ∧ w 156 pre.length = (q0 : Nat) ∧ q0 ≤ T.P ∧ L = remL T fi pre q0) ∨ (∃ r, StA T w r ∧ okP T fi r ∧ r.length = T.n ∧ w 144 36 = T.n ∧ L = upL T fi r)
theorem SrS_ext {T : Tm} {fi : Nat → Bool} {w w' : Wd} {L : List (List Nat)} (e : ∀ c, c ∈ [155, 156, 157, 158, 159, 160] → w' c = w c) (e34 : w' 144 34 = w 144 34) (e36 : w' 144 36 = w 144 36) (h : SrS T fi w L) : SrS T fi w' L := by
  have a1 := e 155 (by decide)
  have a2 := e 156 (by decide)
  have a3 := e 157 (by decide)
  have a4 := e 158 (by decide)
  have a5 := e 159 (by decide)
  have a6 := e 160 (by decide)
  unfold SrS StA at h ⊢
  rw [a1, a2, a3, a4, a5, a6, e34, e36]
  exact h
theorem S_nextRow {d : Nat} {Q : MV → Wd → Prop} {w0 : Wd} {T : Tm} (g0 : RfT (w0 144) (w0 146) (w0 151) (w0 152) (w0 153) (w0 154) T) (hn : w0 144 35 = T.n) (u : Nat) (hu : u < 16) (most : Int) (L : List (List Nat)) (hS : SrS T (fiR (w0 146) u) w0 L)
    (k0 : ∀ w', AtS w0 w' → (∀ x, x ∈ L → most < hoL T x) → Q (mI 0) w')
    (k1 : ∀ w' L1 r L2, AtS w0 w' → L = L1 ++ r :: L2 → (∀ x, x ∈ L1 → most < hoL T x) → (hoL T r : Int) ≤ most → StA T w' r → okP T (fiR (w0 146) u) r → r.length = T.n → SrS T (fiR (w0 146) u) w' L2 → Q (mI 1) w') : Cw (d + 3) 214 [mR 144, mI u, mI most] w0 Q := by
  have hn2 := g0.n2
  have hn6 := g0.n6
  apply M_nextRow_144_en
  intro n1
  have go : ∀ (pre : List Nat) (q0 : Nat) (w : Wd), AtS w0 w → StA T w pre → okP T (fiR (w0 146) u) pre → pre.length < T.n → w 144 36 = (pre.length : Nat) → w 156 pre.length = (q0 : Nat) → q0 ≤ T.P → L = remL T (fiR (w0 146) u) pre q0 → Wp (Cw (d + 2)) cd_M_nextRow (2, 0, n1) Q 15 [mR 144, mI u, mI most, none] [] w := by
    intro pre q0 w hA hs ho hl hd hq hqP hL
    refine L_next g0 hn u hu most L k0 ?_ (muS T pre q0) pre q0 w [] (Nat.le_refl _) hA hs ho hl hd hq hqP (by rw [hL]; rfl) (fun x hx => by cases hx)
    intro w' L1 r L2 b1 b2 b3 b4 b5 b6 b7 b8 b9
    exact k1 w' L1 r L2 b1 b2 b3 b4 b5 b6 b7 (Or.inr ⟨r, b5, b6, b7, b8, b9.symm⟩)
  rw [hn]
  rcases hS with ⟨pre, q0, hs, ho, hl, hd, hq, hqP, hL⟩ | ⟨r, hs, ho, hl, hd, hL⟩
  · rw [hd]
    refine ⟨fun _ => go pre q0 w0 (AtS.rfl' _) hs ho hl hd hq hqP hL, fun z => ?_⟩
    exfalso; omega
  · rw [hd]
    cases r with
    | nil => simp at hl; omega
    | cons p t =>
      have sk := hs
      obtain ⟨⟨⟨r1, r2, r3, r4, r5, r6⟩, r7⟩, rc, rt⟩ := hs
      obtain ⟨o1, o2, o3⟩ := ho
      have lt : t.length + 1 = T.n := by simpa using hl
      have tma := tm_away g0.tw9 p t
      have cq : w0 160 p = (List.count p (p :: t) : Nat) := rc p r2
      have cb := cnt_bd (pre := p :: t) (q := p)
      simp only [List.length_cons] at cb
      have htw : w0 146 (7 + p) = T.tw p := g0.tw p r2
      have hbk := g0.back
      have en : (T.n : Int) - 1 = (t.length : Int) := by omega
      refine ⟨fun z => absurd rfl z, fun _ => ?_⟩
      have back : ∀ tt : Int, tt = (tmN T t : Nat) → Wp (Cw (d + 2)) cd_M_nextRow (2, 0, n1) Q 15 [mR 144, mI u, mI most, none] [] (ub (ub (ub w0 144 36 (t.length : Int)) 160 p (w32 (w0 160 p - 1))) 144 34 tt) := by
        intro tt htt
        have s3 := away_fin (w := ub w0 144 36 (t.length : Int)) (T := T) (q := p) (pre := t) (StA_144 sk _) (w32 (w0 160 p - 1)) tt (by
          show w32 (w0 160 p - 1) = w0 160 p - 1
          rw [cq]
          exact w32_id (x := ((List.count p (p :: t) : Nat) : Int) - 1) (by unfold in32; omega)) htt
        refine go t (p + 1) _ ((((AtS.rfl' w0).up 144 36 _ (by decide) (fun _ => Or.inr rfl)).up 160 _ _ (by decide) (by intro z; exact absurd z (by decide))).up 144 34 _ (by decide) (fun _ => Or.inl rfl)) s3 o1 (by omega) rfl ?_ (by omega) (by rw [hL]; rfl)
        show w0 156 t.length = ((p + 1 : Nat) : Int)
        rw [r3]; rfl
      rw [en, w32n (n := t.length) (by omega), Int.toNat_natCast, r1, Int.toNat_natCast, ixa_7 (by omega), Int.toNat_natCast, rt, htw, hbk]
      (refine And.intro (by omega) ?_); (refine And.intro (by omega) ?_); (refine And.intro (by omega) ?_)
      (repeat' (apply spl <;> intro))
      · rename_i z2
        exact back _ (tma.2 (by omega))
      · rename_i z2
        refine ⟨by omega, by omega, ?_⟩
        exact back _ (tma.1 (by omega))
theorem S_begin {d : Nat} {Q : MV → Wd → Prop} {w : Wd} (n : Nat) (k : ∀ w', Fr cR7 w w' → (∀ i, i ≠ 34 → i ≠ 35 → i ≠ 36 → w' 144 i = w 144 i) → w' 144 35 = n → w' 144 34 = 0 → w' 144 36 = 0 → w' 156 0 = 0 → (∀ q, q < 8 → w' 160 q = 0) → Q none w') : Cw (d + 1) 213 [mR 144, mI n] w Q := by
  apply M_begin_144_en
  intro n1
  have lp : ∀ (r i : Nat) (g : Nat → Int), i + r = 8 → (∀ q, q < i → g q = 0) → Wp (Cw (d + 0)) cd_M_begin (0, 0, n1) Q 16 [mR 144, none, mI i] [] (ubf (ub (ub (ub (ub w 144 35 n) 144 36 0) 156 0 0) 144 34 0) 160 g) := by
    intro r
    induction r with
    | zero =>
      intro i g hi hg
      apply M_begin_144_c16
      (repeat' (apply spl <;> intro))
      · refine k _ ?_ ?_ rfl rfl rfl rfl ?_
        · refine Fr.ubf (Fr.ub (Fr.ub (Fr.ub (Fr.ub (Fr.rfl' _ _) ?_) ?_) ?_) ?_) ?_ <;> decide
        · intro i i1 i2 i3
          show up1 (up1 (up1 (w 144) 35 n) 36 0) 34 0 i = w 144 i
          simp only [up1_ap]
          rw [if_neg i1, if_neg i3, if_neg i2]
        · intro q hq; exact hg q (by omega)
      · exfalso; omega
    | succ r ih =>
      intro i g hi hg
      apply M_begin_144_c16
      rw [ixs (by omega), Int.toNat_natCast, ub_on]
      (repeat' (apply spl <;> intro))
      · exfalso; omega
      · (refine And.intro (by omega) ?_)
        refine ih (i + 1) _ (by omega) (fun q hq => ?_)
        rw [up1_ap]
        by_cases z : q = i
        · rw [if_pos z]
        · rw [if_neg z]; exact hg q (by omega)
  have e := lp 8 0 (w 160) (by omega) (fun q hq => by omega)
  have ew : ubf (ub (ub (ub (ub w 144 35 n) 144 36 0) 156 0 0) 144 34 0) 160 (w 160) = ub (ub (ub (ub w 144 35 n) 144 36 0) 156 0 0) 144 34 0 := ubf_sf0 (ub (ub (ub (ub w 144 35 n) 144 36 0) 156 0 0) 144 34 0) 160
  rw [ew] at e
  exact e
theorem SrS_begin {T : Tm} (hn : 2 ≤ T.n) {fi : Nat → Bool} {w : Wd} (h34 : w 144 34 = 0) (h36 : w 144 36 = 0) (h156 : w 156 0 = 0) (h160 : ∀ q, q < 8 → w 160 q = 0) : SrS T fi w (rowsL T fi) := by
  left
  refine ⟨[], 0, ⟨trivial, fun q hq => by rw [h160 q hq]; rfl, h34⟩, trivial, by simp; omega, h36, h156, Nat.zero_le _, rows_rem (by omega)⟩
/-- the hands of a row, as bits, the first the lowest -/
def hbL : List Nat → Nat
  | [] => 0
  | q :: t => hbL t + q * 8 ^ t.length
theorem hbL_lt : ∀ r : List Nat, (∀ x, x ∈ r → x < 8) → hbL r < 8 ^ r.length
  | [], _ => by show 0 < 1; omega
  | q :: t, h => by
    have h1 := hbL_lt t (fun x hx => h x (List.mem_cons_of_mem _ hx))
    have h2 := h q (List.mem_cons_self ..)
    show hbL t + q * 8 ^ t.length < 8 ^ (t.length + 1)
    have : q * 8 ^ t.length ≤ 7 * 8 ^ t.length := Nat.mul_le_mul_right _ (by omega)
    rw [Nat.pow_succ]; omega
theorem okP_lt {T : Tm} {fi : Nat → Bool} : ∀ {r : List Nat}, okP T fi r → ∀ x, x ∈ r → x < T.P
  | [], _, x, hx => by cases hx
  | q :: t, h, x, hx => by
    rw [List.mem_cons] at hx
    rcases hx with hx | hx
    · rw [hx]; exact h.2.2
    · exact okP_lt h.1 x hx
/-- a cell's hands along the row -/
theorem RowOk_suf {T : Tm} {rw tr rh rp ra : Nat → Int} : ∀ {t r : List Nat}, RowOk T rw tr rh rp ra (t ++ r) → RowOk T rw tr rh rp ra r
  | [], _, h => h
  | _ :: t, _, h => RowOk_suf (t := t) h.2
theorem bestF_app (T : Tm) (hit : List Nat → Bool) : ∀ (A B : List (List Nat)) (c : Option (List Nat)), bestF T hit (A ++ B) c = bestF T hit B (bestF T hit A c)
  | [], _, _ => rfl
  | r :: A, B, c => bestF_app T hit A B _
theorem bestF_none (T : Tm) (hit : List Nat → Bool) : ∀ (A : List (List Nat)) (c : Option (List Nat)), (∀ x, x ∈ A → hit x = false) → bestF T hit A c = c
  | [], _, _ => rfl
  | r :: A, c, h => by
    show bestF T hit A (if hit r && betterB T r c then some r else c) = c
    rw [h r (List.mem_cons_self ..)]
    exact bestF_none T hit A c (fun x hx => h x (List.mem_cons_of_mem _ hx))
def WayR (T : Tm) (f1 f2 f3 f4 : Nat → Int) (i : Nat) : Option (List Nat) → Prop
  | none => f1 i = 1000000000
  | some b => f1 i = (coL T b : Nat) ∧ f2 i = (hoL T b : Nat) ∧ f3 i = (paL T b : Nat) ∧ f4 i = (hbL b : Nat)

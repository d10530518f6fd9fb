theorem sumZ_trim {g : Nat → Int} {W : Nat} (h : ∀ i, W ≤ i → g i = 0) : ∀ d, sumZ (W + d) g = sumZ W g
  | 0 => rfl
  | d + 1 => by
    show sumZ (W + d) g + g (W + d) = _
    rw [sumZ_trim h d, h (W + d) (by omega)]; omega
theorem S_painsMet_92 {d : Nat} {Q : MV → Wd → Prop} {w : Wd} {T : Tm} (hb : TmB T) {s : Nat → Int} (ws : WS s) (h4 : w 4 11 = s 3) (hk : ∀ u v : Nat, (u : Int) < s 2 → (v : Int) < s 3 → w 107 (8 * u + v) = keyO T (wayO T s u v)) (hn : w 94 1 = T.n) (hp : ∀ p q, p < T.P → q < T.P → T.gv p q = true → w 96 (8 * p + q) = T.pn p q) {top : Int} (ht : w 92 7 = top) (h0 : 0 ≤ top) (hb8 : top < 9223372036854775808) {f : Nat → Nat} (hf : ∀ v, v < 8 → top / (32 ^ (7 - v)) % 32 = f v) (hv : valid (s 3).toNat (adjS T s) (s 2).toNat f)
    (k : Q (mI (sumZ 8 (painS (paS T s) f))) w) : Cw (d + 3) 94 [mR 92] w Q := by
  have wa := ws.wa
  have un := ws.un
  apply Meeting_painsMet_92_en
  intro n1
  have pb : ∀ v, 0 ≤ painS (paS T s) f v ∧ painS (paS T s) f v ≤ 500 := by
    intro v
    unfold painS
    by_cases z : f v = 0
    · rw [if_pos z]; omega
    · rw [if_neg z]
      obtain ⟨a, b, c, e⟩ := hv.1 v z
      obtain ⟨_, _, e⟩ := adjS_in e
      obtain ⟨r, hr⟩ := Option.isSome_iff_exists.mp e
      have ep : paS T s (16 - f v) v = paL T r := by unfold paS; rw [hr]; rfl
      obtain ⟨_, _, _, rl, _⟩ := wayO_bd hb hr
      have := paL_bd hb.pn9 r
      have := hb.n6
      omega
  have lp : ∀ (m v : Nat), v + m = (s 3).toNat → Wp (Cw (d + 2)) cd_Meeting_painsMet (1, 0, n1) Q 4 [mR 92, mI (sumZ v (painS (paS T s) f)), mI v, none] [] w := by
    intro m
    induction m with
    | zero =>
      intro v hv'
      have hv' : v = (s 3).toNat := by omega
      apply Meeting_painsMet_92_c4
      rw [h4]
      (repeat' (apply spl <;> intro))
      · have e := sumZ_trim (g := painS (paS T s) f) (W := v) (fun i hi => by
          unfold painS
          by_cases z : f i = 0
          · rw [if_pos z]
          · have := (hv.1 i z).1
            omega) (8 - v)
        rw [show v + (8 - v) = 8 by omega] at e
        rw [← e]; exact k
      all_goals (exfalso; omega)
    | succ m ih =>
      intro v hv'
      have ih := ih (v + 1) (by omega)
      have es : sumZ (v + 1) (painS (paS T s) f) = sumZ v (painS (paS T s) f) + painS (paS T s) f v := rfl
      have b1 : 0 ≤ sumZ v (painS (paS T s) f) := sumZ_nonneg (fun i _ => (pb i).1)
      have b2 := sumZ_le (g := painS (paS T s) f) 500 (n := v) (fun i _ => (pb i).2)
      have b3 := pb v
      have fv := valid_le hv v
      have ud := udig h0 hb8 (v := v) (x := f v) (by omega) (hf v (by omega))
      rw [es] at ih
      apply Meeting_painsMet_92_c4
      rw [h4, ht, ud, ixs (k := v) (by omega), w32_id (x := 16 - (f v : Int)) (by unfold in32; omega), w32_id (x := sumZ v (painS (paS T s) f) + 0) (by unfold in32; omega)]
      by_cases z : f v = 0
      · have p0 : painS (paS T s) f v = 0 := by unfold painS; rw [if_pos z]
        rw [p0] at ih
        (repeat' (apply spl <;> intro))
        · exfalso; omega
        · exfalso; omega
        · exfalso; omega
        · exact ih
      · obtain ⟨a, b, c, e⟩ := hv.1 v z
        obtain ⟨e1, e2, e⟩ := adjS_in e
        obtain ⟨r, hr⟩ := Option.isSome_iff_exists.mp e
        have ep : paS T s (16 - f v) v = paL T r := by unfold paS; rw [hr]; rfl
        have p0 : painS (paS T s) f v = (paL T r : Nat) := by unfold painS; rw [if_neg z, ep]
        obtain ⟨c1, c2, c3, rl, r8, rc, _⟩ := wayO_bd hb hr
        have kk := hk (16 - f v) v e1 e2
        rw [hr] at kk
        have kk : w 107 (8 * (16 - f v) + v) = keyL T r := kk
        rw [show (16 : Int) - (f v : Int) = ((16 - f v : Nat) : Int) by omega, ix8a (by omega) (by omega), Int.toNat_natCast, kk]
        (repeat' (apply spl <;> intro))
        · exfalso; omega
        · (refine And.intro (by omega) ?_)
          refine S_pains_93 (d := d) hb.n2 hb.n6 hb.P8 hb.pn9 hn hp r rl r8 rc c1 c2 c3 ?_
          refine ⟨_, rfl, ?_⟩
          rw [p0] at ih b3
          rw [w32_id (x := sumZ v (painS (paS T s) f) + (paL T r : Int)) (by unfold in32; omega)]
          exact ih
        · exfalso; omega
        · exfalso; omega
  have := lp (s 3).toNat 0 (by omega)
  exact this
/-- the terms of the told meeting, for its pains -/
theorem told_pains {s mt wy tm ps ch dr : Nat → Int} (ws : WS s) (h : Told mt wy tm ps ch dr s) : tm 1 = (TmS s).n ∧ ∀ p q, p < (TmS s).P → q < (TmS s).P → (TmS s).gv p q = true → ps (8 * p + q) = (TmS s).pn p q := by
  obtain ⟨b1, _⟩ := TmS_bd ws
  obtain ⟨_, _, _, t4, t5⟩ := h
  refine ⟨by rw [t4, TmS_n ws], fun p q hp hq hg => ?_⟩
  have hg : (decide (p < 8 ∧ q < 8) && decide (s (269 + (8 * p + q)) = 1)) = true := hg
  rw [Bool.and_eq_true, decide_eq_true_eq, decide_eq_true_eq] at hg
  rw [t5 _ (by omega) hg.2]
  have t := ws.pai (8 * p + q) (by omega)
  show _ = ((n8 p q (s (141 + (8 * p + q))).toNat : Nat) : Int)
  rw [n8_in hg.1.1 hg.1.2]; omega
theorem P_best {d : Nat} {w : Wd} (h : Inv w) (x : Int) : Pair (d + 30) 91 227 [mI x] w := by
  unfold Pair
  apply X_best_0_en
  refine S_asTold_0 (d := d + 13) h ?_
  intro w1 h1 z fr f0
  refine ⟨rfl, ?_⟩
  have un := h1.ws.un
  have wa := h1.ws.wa
  have td := h1.told z
  have tp := told_pains h1.ws td
  obtain ⟨t1, ⟨D, d1, d2, d3⟩, t3, t4, t5⟩ := td
  obtain ⟨f, v1, v2, v3, v4, v5, v6, v7, v8⟩ := top_day h1.ws t3
  have vS : valid (w1 146 3).toNat (adjS (TmS (w1 146)) (w1 146)) (w1 146 2).toNat f := by
    refine ⟨fun v hv => ?_, v1.2⟩
    obtain ⟨a, b, c, e⟩ := v1.1 v hv
    unfold adjP at e
    rw [Bool.and_eq_true] at e
    exact ⟨a, b, c, e.1⟩
  obtain ⟨tn, htn⟩ := Int.eq_ofNat_of_zero_le v3
  have cb := cntS_bd f
  -- the reference, whatever is asked
  have ref : ∀ v : Int, (x = 0 → v = w1 92 7 / 17592186044416) → (x = 1 → v = w1 92 7 / 1099511627776 % 16) → (x = 2 → v = sumZ 8 (painS (paS (TmS (w1 146)) (w1 146)) f)) → (x ≠ 0 → x ≠ 1 → x ≠ 2 → v = -1) → Cw (d + 30) 227 [mR 144, mI x] w1 (Post w v) := by
    intro v x0 x1 x2 x3
    apply M_best_144_en
    refine S_told2 (d := d + 24) (w := ub w1 144 0 0) h1.ws ?_
    intro w3 hF h144 h25 hway
    have e146 : w3 146 = w1 146 := hF 146 (by decide)
    have rf := RfD_of (TmB_told h1.ws) h1.ws hway
    refine S_bestDay (d := d + 27) (w := w3) (by rw [e146]; exact rf) ?_
    intro g a c b o g1 g2 g3 g4 g5 g6 g7
    obtain ⟨q1, q2, q3⟩ := day_same h1.ws t3 v8 g1 g2
    have frA : Fr scrR w1 (ubf (ubf (ubf (ubf w3 166 a) 168 c) 144 o) 167 b) := by
      refine Fr.ubf (Fr.ubf (Fr.ubf (Fr.ubf (Fr.tr (Fr.ub (Fr.rfl' _ w1) (by decide)) hF (by decide)) (by decide)) (by decide)) (by decide)) (by decide)
    have e401 : (ubf (ubf (ubf (ubf w3 166 a) 168 c) 144 o) 167 b) 401 = w 401 := by rw [frA 401 (by decide), fr 401 (by decide)]
    have e400 : (ubf (ubf (ubf (ubf w3 166 a) 168 c) 144 o) 167 b) 400 = w 400 := by rw [frA 400 (by decide), fr 400 (by decide)]
    have hI : Inv (ubf (ubf (ubf (ubf w3 166 a) 168 c) 144 o) 167 b) := by
      refine Inv.scr h1 frA (fun i hi => ?_)
      show o i = w1 144 i
      have hi2 := hi
      simp only [List.mem_cons, List.not_mem_nil, or_false] at hi2
      rw [g3 i (by omega) (by omega) (by omega), f144_at h144 i hi]
      show up1 (w1 144) 0 0 i = w1 144 i
      rw [up1_ap, if_neg (by omega)]
    have ps : sumZ 8 (painS (paS (TmS (w1 146)) (w1 146)) g) = sumZ 8 (painS (paS (TmS (w1 146)) (w1 146)) f) := sumZ_ext (fun i hi => by unfold painS; rw [q3 i hi])
    (repeat' (apply spl <;> intro))
    · rename_i z1 z2 z3
      exact Post.k (x3 z1 z2 z3).symm hI e401 e400
    · rename_i z1 z2 z3
      refine Post.k ?_ hI e401 e400
      show o 49 = v
      rw [g6, x2 (by omega), ps]
    · rename_i z1 z2
      refine Post.k ?_ hI e401 e400
      show o 48 = v
      rw [g5, x1 (by omega), q2]
    · rename_i z1
      refine Post.k ?_ hI e401 e400
      show o 47 = v
      rw [g4, x0 (by omega), q1]
  have esum : w32 (lshr (w1 92 7) 44) = w1 92 7 / 17592186044416 := by
    have nb : netS (netD (woS (w1 146)) (coS (TmS (w1 146)) (w1 146))) f ≤ 7992 := by
      have e : ∀ v, v < 8 → (if f v = 0 then (0 : Int) else netD (woS (w1 146)) (coS (TmS (w1 146)) (w1 146)) (16 - f v) v) ≤ 999 := by
        intro v _
        by_cases q : f v = 0
        · rw [if_pos q]; omega
        · rw [if_neg q]
          have a := (vS.1 v q).1
          have := h1.ws.worth v (by omega)
          unfold netD woS
          omega
      have := sumZ_le (g := fun w => if f w = 0 then (0 : Int) else netD (woS (w1 146)) (coS (TmS (w1 146)) (w1 146)) (16 - f w) w) 999 (n := 8) e
      unfold netS val
      omega
    rw [htn] at v4 v6 ⊢
    have e := lshr_nat (a := tn) (n := 44) (by omega) (by omega)
    rw [show (2 : Nat) ^ 44 = 17592186044416 from rfl] at e
    rw [show (44 : Int) = ((44 : Nat) : Int) from rfl, e, w32_id (by unfold in32; omega)]
    omega
  have ecnt : iand (w32 (lshr (w1 92 7) 40)) 15 = w1 92 7 / 1099511627776 % 16 := by
    clear esum
    rw [htn] at v4 ⊢
    have e := lshr_nat (a := tn) (n := 40) (by omega) (by omega)
    rw [show (2 : Nat) ^ 40 = 1099511627776 from rfl] at e
    have e2 := iand_low (x := tn / 1099511627776) (b := 4) (by omega)
    rw [show ((2 ^ 4 - 1 : Nat) : Int) = 15 from rfl] at e2
    rw [show (40 : Int) = ((40 : Nat) : Int) from rfl, e, e2]
    clear e e2
    omega
  rw [esum, ecnt]
  (repeat' (apply spl <;> intro))
  · rename_i z1
    (apply Mid.k)
    exact ref _ (fun _ => rfl) (fun _ => by exfalso; omega) (fun _ => by exfalso; omega) (fun q => absurd z1 q)
  · rename_i z1 z2
    (apply Mid.k)
    exact ref _ (fun q => absurd q z1) (fun _ => rfl) (fun _ => by exfalso; omega) (fun _ q => absurd z2 q)
  · rename_i z1 z2 z3
    refine S_painsMet_92 (d := d + 26) (w := w1) (TmB_told h1.ws) h1.ws (by rw [h1.rv.wants]) t1 tp.1 tp.2 rfl v3 v4 v8 vS ?_
    refine ⟨_, rfl, ?_⟩
    (apply Mid.k)
    exact ref _ (fun q => absurd q z1) (fun q => absurd q z2) (fun _ => rfl) (fun _ _ q => absurd z3 q)
  · rename_i z1 z2 z3
    (apply Mid.k)
    exact ref _ (fun q => absurd q z1) (fun q => absurd q z2) (fun q => absurd q z3) (fun _ _ _ => rfl)

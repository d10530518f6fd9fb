def cC8 : List Nat := [98, 100, 101, 102, 103, 104, 105, 106]
theorem sib_nil {f : Nat → List (List Nat)} : ∀ {m q : Nat}, (∀ x, q ≤ x → x < q + m → f x = []) → sib f m q = []
  | 0, _, _ => rfl
  | m + 1, q, h => by
    show f q ++ sib f m (q + 1) = []
    rw [h q (Nat.le_refl _) (by omega), sib_nil (fun x a b => h x (by omega) (by omega))]; rfl
theorem ext_len (T : Tm) (hP : T.P ≤ 8) (fi : Nat → Bool) : ∀ (j : Nat) (pre : List Nat), (ext T fi j pre).length ≤ 8 ^ j
  | 0, pre => by show 1 ≤ 1; omega
  | j + 1, pre => by
    rw [ext_succ]
    have h : ∀ (m q : Nat), (sib (fun q => if okB T fi pre q then ext T fi j (q :: pre) else []) m q).length ≤ m * 8 ^ j := by
      intro m
      induction m with
      | zero => intro q; show 0 ≤ _; omega
      | succ m ih =>
        intro q
        show ((if okB T fi pre q then ext T fi j (q :: pre) else []) ++ sib (fun q => if okB T fi pre q then ext T fi j (q :: pre) else []) m (q + 1)).length ≤ _
        rw [List.length_append, Nat.add_mul, Nat.one_mul]
        have := ih (q + 1)
        have h2 := ext_len T hP fi j (q :: pre)
        split
        · omega
        · simp only [List.length_nil]; omega
    have h1 := h T.P 0
    have h2 : T.P * 8 ^ j ≤ 8 * 8 ^ j := Nat.mul_le_mul_right _ hP
    rw [Nat.pow_succ]; omega
def WkB (v4 v7 v13 v93 v94 v95 v96 v97 v99 : Nat → Int) (u W : Nat) (fi : Nat → Bool) (wt : Int) (T : Tm) : Prop := (CtT v4 v7 v94 v95 v96 v97 wt T) ∧ (u < 16) ∧ (W ≤ 8) ∧ (v93 2 = wt) ∧ (v93 7 = u) ∧ (v4 11 = W) ∧ (∀ x, x < 8 → tb (v93 8) x = fi x) ∧ (∀ v, v < W → v99 v ≤ v93 10) ∧ (∀ v, v < W → 0 ≤ v13 (4 * v) ∧ v13 (4 * v) < 8) ∧ (∀ v, v < W → 0 ≤ v99 v → tb (v93 9) (v13 (4 * v)).toNat = true)
theorem WkB.mk {v4 v7 v13 v93 v94 v95 v96 v97 v99 : Nat → Int} {u W : Nat} {fi : Nat → Bool} {wt : Int} {T : Tm} (ct_ : CtT v4 v7 v94 v95 v96 v97 wt T) (hu_ : u < 16) (hW_ : W ≤ 8) (wat_ : v93 2 = wt) (eu_ : v93 7 = u) (wa_ : v4 11 = W) (fb_ : ∀ x, x < 8 → tb (v93 8) x = fi x) (room_ : ∀ v, v < W → v99 v ≤ v93 10) (who_ : ∀ v, v < W → 0 ≤ v13 (4 * v) ∧ v13 (4 * v) < 8) (wan_ : ∀ v, v < W → 0 ≤ v99 v → tb (v93 9) (v13 (4 * v)).toNat = true) : WkB v4 v7 v13 v93 v94 v95 v96 v97 v99 u W fi wt T := And.intro ct_ (And.intro hu_ (And.intro hW_ (And.intro wat_ (And.intro eu_ (And.intro wa_ (And.intro fb_ (And.intro room_ (And.intro who_ (wan_)))))))))
theorem WkB.ct {v4 v7 v13 v93 v94 v95 v96 v97 v99 : Nat → Int} {u W : Nat} {fi : Nat → Bool} {wt : Int} {T : Tm} (h_ : WkB v4 v7 v13 v93 v94 v95 v96 v97 v99 u W fi wt T) : CtT v4 v7 v94 v95 v96 v97 wt T := h_.1
theorem WkB.hu {v4 v7 v13 v93 v94 v95 v96 v97 v99 : Nat → Int} {u W : Nat} {fi : Nat → Bool} {wt : Int} {T : Tm} (h_ : WkB v4 v7 v13 v93 v94 v95 v96 v97 v99 u W fi wt T) : u < 16 := h_.2.1
theorem WkB.hW {v4 v7 v13 v93 v94 v95 v96 v97 v99 : Nat → Int} {u W : Nat} {fi : Nat → Bool} {wt : Int} {T : Tm} (h_ : WkB v4 v7 v13 v93 v94 v95 v96 v97 v99 u W fi wt T) : W ≤ 8 := h_.2.2.1
theorem WkB.wat {v4 v7 v13 v93 v94 v95 v96 v97 v99 : Nat → Int} {u W : Nat} {fi : Nat → Bool} {wt : Int} {T : Tm} (h_ : WkB v4 v7 v13 v93 v94 v95 v96 v97 v99 u W fi wt T) : v93 2 = wt := h_.2.2.2.1
theorem WkB.eu {v4 v7 v13 v93 v94 v95 v96 v97 v99 : Nat → Int} {u W : Nat} {fi : Nat → Bool} {wt : Int} {T : Tm} (h_ : WkB v4 v7 v13 v93 v94 v95 v96 v97 v99 u W fi wt T) : v93 7 = u := h_.2.2.2.2.1
theorem WkB.wa {v4 v7 v13 v93 v94 v95 v96 v97 v99 : Nat → Int} {u W : Nat} {fi : Nat → Bool} {wt : Int} {T : Tm} (h_ : WkB v4 v7 v13 v93 v94 v95 v96 v97 v99 u W fi wt T) : v4 11 = W := h_.2.2.2.2.2.1
theorem WkB.fb {v4 v7 v13 v93 v94 v95 v96 v97 v99 : Nat → Int} {u W : Nat} {fi : Nat → Bool} {wt : Int} {T : Tm} (h_ : WkB v4 v7 v13 v93 v94 v95 v96 v97 v99 u W fi wt T) : ∀ x, x < 8 → tb (v93 8) x = fi x := h_.2.2.2.2.2.2.1
theorem WkB.room {v4 v7 v13 v93 v94 v95 v96 v97 v99 : Nat → Int} {u W : Nat} {fi : Nat → Bool} {wt : Int} {T : Tm} (h_ : WkB v4 v7 v13 v93 v94 v95 v96 v97 v99 u W fi wt T) : ∀ v, v < W → v99 v ≤ v93 10 := h_.2.2.2.2.2.2.2.1
theorem WkB.who {v4 v7 v13 v93 v94 v95 v96 v97 v99 : Nat → Int} {u W : Nat} {fi : Nat → Bool} {wt : Int} {T : Tm} (h_ : WkB v4 v7 v13 v93 v94 v95 v96 v97 v99 u W fi wt T) : ∀ v, v < W → 0 ≤ v13 (4 * v) ∧ v13 (4 * v) < 8 := h_.2.2.2.2.2.2.2.2.1
theorem WkB.wan {v4 v7 v13 v93 v94 v95 v96 v97 v99 : Nat → Int} {u W : Nat} {fi : Nat → Bool} {wt : Int} {T : Tm} (h_ : WkB v4 v7 v13 v93 v94 v95 v96 v97 v99 u W fi wt T) : ∀ v, v < W → 0 ≤ v99 v → tb (v93 9) (v13 (4 * v)).toNat = true := h_.2.2.2.2.2.2.2.2.2
theorem st5 (w : Wd) (i : Nat) (a b c e f : Int) : Fr cC8 w (ub (ub (ub (ub (ub w 102 i a) 103 i b) 104 i c) 105 i e) 106 i f) := by
  refine Fr.ub (Fr.ub (Fr.ub (Fr.ub (Fr.ub (Fr.rfl' _ _) ?_) ?_) ?_) ?_) ?_ <;> decide
theorem L_onward_93 {w0 : Wd} {u W : Nat} {fi : Nat → Bool} {wt : Int} {T : Tm} (b : WkB (w0 4) (w0 7) (w0 13) (w0 93) (w0 94) (w0 95) (w0 96) (w0 97) (w0 99) u W fi wt T) :
    ∀ (j : Nat) (pre : List Nat) (w : Wd) (d : Nat) (Q : MV → Wd → Prop), Fr cC8 w0 w → RowC T wt (w 102) (w 103) (w 104) (w 105) (w 106) pre → pre.length + j = T.n → 1 ≤ pre.length → (∀ x, x ∈ pre → x < T.P) → (∀ v, v < W → 0 ≤ w 100 v ∧ w 100 v + ((8 ^ j : Nat) : Int) ≤ 1000000) →
      (∀ w', Fr cC8 w0 w' → (∀ i, i < pre.length → w' 102 i = w 102 i ∧ w' 103 i = w 103 i ∧ w' 104 i = w 104 i ∧ w' 105 i = w 105 i ∧ w' 106 i = w 106 i) → AccW u W (hitC (w0 99) (fun v => w0 13 (4 * v)) T) T wt (ext T fi j pre) (w 98) (w 100) (w 101) (w' 98) (w' 100) (w' 101) → Q none w') →
      Cw (d + 2 * j + 2) 64 [mR 93, mI (pre.length - 1 : Nat)] w Q := by
  intro j
  have P8 := b.ct.P8
  have n6 := b.ct.n6
  have n2 := b.ct.n2
  induction j with
  | zero =>
    intro pre w d Q hF hr hl h1 hP hc kk
    have e93 : w 93 = w0 93 := hF 93 (by decide)
    have e94 : w 94 = w0 94 := hF 94 (by decide)
    have e4 : w 4 = w0 4 := hF 4 (by decide)
    have e13 : w 13 = w0 13 := hF 13 (by decide)
    have e99 : w 99 = w0 99 := hF 99 (by decide)
    have hn := b.ct.n
    have b1 := hoL_bd b.ct.hr9 pre
    have b2 := paL_bd b.ct.pn9 pre
    have b3 := asL_bd b.ct.ak9 pre
    apply Ways_onward_93_en
    intro n1
    rw [e94, hn, w32_id (x := (T.n : Int) - 1) (by unfold in32; omega)]
    refine ⟨fun _ => ?_, fun z => ?_⟩
    · refine S_arrive_93 (T := T) (wt := wt) u W (pre.length - 1) b.hu b.hW (by rw [e93]; exact b.eu) (by rw [e4]; exact b.wa) (by omega) pre hr (by omega) (fun x hx => by have := hP x hx; omega) (by omega) (by unfold coL; omega) (fun v hv => by have := hc v hv; rw [Nat.pow_zero] at this; omega) ?_
      intro g98 g100 g101 hA
      refine kk _ (fun c hc => ?_) (fun i hi => ⟨rfl, rfl, rfl, rfl, rfl⟩) ?_
      · rw [ubf_ne _ (fun z => hc (by subst z; decide)), ubf_ne _ (fun z => hc (by subst z; decide)), ubf_ne _ (fun z => hc (by subst z; decide))]
        exact hF c hc
      · rw [e99, e13] at hA
        exact hA
    · exfalso; omega
  | succ j ih =>
    intro pre w d Q hF hr hl h1 hP hc kk
    rw [show d + 2 * (j + 1) + 2 = (d + 2 * j + 2) + 2 by omega]
    have e93 : w 93 = w0 93 := hF 93 (by decide)
    have e94 : w 94 = w0 94 := hF 94 (by decide)
    have e4 : w 4 = w0 4 := hF 4 (by decide)
    have hn := b.ct.n
    obtain ⟨p, t, er⟩ : ∃ p t, pre = p :: t := by
      cases pre with
      | nil => simp at h1
      | cons p t => exact ⟨p, t, rfl⟩
    have lt : pre.length - 1 = t.length := by rw [er]; simp
    have lp : pre.length = t.length + 1 := by rw [er]; simp
    have hr2 := hr
    rw [er] at hr2
    obtain ⟨⟨c1, c2, c3, c4, c5, c6, c7⟩, _⟩ := hr2
    rw [← er] at c5 c6 c7
    have pP : p < T.P := hP p (by rw [er]; exact List.mem_cons_self ..)
    have ext0 : tb (w0 94 7) p = false → ext T fi (j + 1) pre = [] := by
      intro z
      rw [ext_succ]
      refine sib_nil (fun q _ hq => ?_)
      have : okB T fi pre q = false := by
        have g0 : T.gv p q = false := by
          cases g : T.gv p q
          · rfl
          · have := ((b.ct.gv p q pP (by omega)).mpr g).2
            rw [z] at this; cases this
        rw [er]
        unfold okB
        simp only [g0, Bool.false_and, Bool.and_false]
      rw [this]; rfl
    -- one after the other
    have l44 : ∀ (NX : Int), (∀ q, q < 8 → tb NX q = true → T.ha q = true) → (∀ q, q < 8 → tb NX q = false → T.ha q = false ∨ (j = 0 ∧ tb (w0 93 9) q = false)) → tb (w0 94 7) p = true → ∀ (m q : Nat) (w1 : Wd), q + m = T.P → Fr cC8 w0 w1 → (∀ i, i < pre.length → w1 102 i = w 102 i ∧ w1 103 i = w 103 i ∧ w1 104 i = w 104 i ∧ w1 105 i = w 105 i ∧ w1 106 i = w 106 i) → (∀ v, v < W → 0 ≤ w1 100 v ∧ w1 100 v + ((m * 8 ^ j : Nat) : Int) ≤ 1000000) →
        (∀ w', Fr cC8 w0 w' → (∀ i, i < pre.length → w' 102 i = w 102 i ∧ w' 103 i = w 103 i ∧ w' 104 i = w 104 i ∧ w' 105 i = w 105 i ∧ w' 106 i = w 106 i) → AccW u W (hitC (w0 99) (fun v => w0 13 (4 * v)) T) T wt (sib (fun q => if okB T fi pre q then ext T fi j (q :: pre) else []) m q) (w1 98) (w1 100) (w1 101) (w' 98) (w' 100) (w' 101) → Q none w') →
        ∀ n1, Wp (Cw (d + 2 * j + 2 + 1)) cd_Ways_onward (0, 0, n1) Q 44 [mR 93, mI t.length, mI NX, mI q, none] [] w1 := by
      intro NX nx1 nx0 hg m
      induction m with
      | zero =>
        intro q w1 hq hF1 hi1 hc1 k1 n1
        have e4' : w1 4 0 = T.P := by rw [hF1 4 (by decide)]; exact b.ct.P
        apply Ways_onward_93_c44
        rw [e4']
        (repeat' (apply spl <;> intro))
        · exact k1 w1 hF1 hi1 AccW.nil
        · exfalso; omega
      | succ m ihm =>
        intro q w1 hq hF1 hi1 hc1 k1 n1
        have hq8 : q < 8 := by omega
        have e4' : w1 4 0 = T.P := by rw [hF1 4 (by decide)]; exact b.ct.P
        have f94 : w1 94 = w0 94 := hF1 94 (by decide)
        have f93 : w1 93 = w0 93 := hF1 93 (by decide)
        have f95 : w1 95 = w0 95 := hF1 95 (by decide)
        have f96 : w1 96 = w0 96 := hF1 96 (by decide)
        have f97 : w1 97 = w0 97 := hF1 97 (by decide)
        obtain ⟨i1, i2, i3, i4, i5⟩ := hi1 t.length (by omega)
        rw [c1] at i1
        rw [c5] at i3
        rw [c6] at i4
        rw [c7] at i5
        have bh := hoL_bd b.ct.hr9 pre
        have bp := paL_bd b.ct.pn9 pre
        have ba := asL_bd b.ct.ak9 pre
        have hgv := b.ct.gv p q pP (by omega)
        have hpn := b.ct.pn p q pP (by omega)
        have es : ∀ x, sib (fun q => if okB T fi pre q then ext T fi j (q :: pre) else []) (m + 1) q = x ↔ (if okB T fi pre q then ext T fi j (q :: pre) else []) ++ sib (fun q => if okB T fi pre q then ext T fi j (q :: pre) else []) m (q + 1) = x := fun x => Iff.rfl
        have hm1 : (m + 1) * 8 ^ j = m * 8 ^ j + 8 ^ j := Nat.succ_mul m (8 ^ j)
        have skip : (∀ v x, v < W → x ∈ (if okB T fi pre q then ext T fi j (q :: pre) else []) → hitC (w0 99) (fun v => w0 13 (4 * v)) T v x = false) → Wp (Cw (d + 2 * j + 2 + 1)) cd_Ways_onward (0, 0, n1) Q 44 [mR 93, mI t.length, mI NX, mI (q + 1 : Nat), none] [] w1 := by
          intro z
          refine ihm (q + 1) w1 (by omega) hF1 hi1 (fun v hv => ?_) (fun w' a1 a2 a3 => k1 w' a1 a2 ?_) n1
          · have := hc1 v hv
            rw [hm1] at this
            generalize 8 ^ j = X at *
            generalize m * X = Y at *
            omega
          · exact (AccW.no z).app a3
        have dead : okB T fi pre q = false → Wp (Cw (d + 2 * j + 2 + 1)) cd_Ways_onward (0, 0, n1) Q 44 [mR 93, mI t.length, mI NX, mI (q + 1 : Nat), none] [] w1 := by
          intro z
          refine skip (fun v x _ hx => ?_)
          rw [z] at hx
          cases hx
        have eok : okB T fi pre q = (T.ha q && (T.gv p q && (if T.back = 1 then (!(pre.contains q) || fi q) else if T.back = 2 then (!(pre.contains q) && !(fi q)) else if T.back = 3 then !(pre.any (fun x => T.tw x == T.tw q)) else true))) := by
          rw [er]; rfl
        apply Ways_onward_93_c44
        rw [e4', Int.toNat_natCast, i1, i3, f96, f97, f93, f94, hasbit _ (n := q) (by omega), ix8a (by omega) hq8, Int.toNat_natCast, ixs (k := q) (by omega)]
        (repeat' (apply spl <;> intro))
        · exfalso; omega
        · (refine And.intro (by omega) ?_)
          cases zn : tb NX q
          · simp only [Bool.false_eq_true, if_false]
            refine ⟨fun _ => ?_, fun z => absurd trivial z⟩
            rcases nx0 q hq8 zn with z | ⟨z1, z2⟩
            · exact dead (by rw [eok, z]; rfl)
            · refine skip (fun v x hv hx => ?_)
              subst z1
              by_cases zo : okB T fi pre q = true
              · rw [if_pos zo] at hx
                have hx : x ∈ [q :: pre] := hx
                rw [List.mem_singleton] at hx
                rw [hx]
                cases zh : hitC (w0 99) (fun v => w0 13 (4 * v)) T v (q :: pre)
                · rfl
                · exfalso
                  unfold hitC at zh
                  simp only [Bool.and_eq_true, decide_eq_true_eq] at zh
                  have := b.wan v hv (by omega)
                  rw [zh.1, Int.toNat_natCast, z2] at this
                  cases this
              · rw [if_neg zo] at hx; cases hx
          · rw [if_pos (rfl : true = true)]
            refine ⟨fun z => by exfalso; omega, fun _ => ?_⟩
            (refine And.intro (by omega) ?_)
            (repeat' (apply spl <;> intro))
            · rename_i z
              refine dead ?_
              rw [eok]
              have : T.gv p q = false := by
                cases g : T.gv p q
                · rfl
                · exact absurd z (hgv.mpr g).1
              rw [this]; simp
            · rename_i z
              have gq : T.gv p q = true := hgv.mp ⟨z, hg⟩
              obtain ⟨p1, p2⟩ := hpn gq
              have h9 := b.ct.hr9 p q
              have p9 := b.ct.pn9 p q
              have ehq : hoL T (q :: pre) = hoL T pre + T.hr p q := by rw [er]; rfl
              (refine And.intro (by omega) ?_); (refine And.intro (by omega) ?_)
              rw [p2, w32_id (x := (hoL T pre : Int) + (T.hr p q : Int)) (by unfold in32; omega)]
              (repeat' (apply spl <;> intro))
              · rename_i z2
                refine skip (fun v x hv hx => ?_)
                by_cases zo : okB T fi pre q = true
                · rw [if_pos zo] at hx
                  obtain ⟨t', e, _, _⟩ := mem_ext hx
                  have h3 := hoL_app T (q :: pre) t'
                  have h4 := b.room v hv
                  cases zh : hitC (w0 99) (fun v => w0 13 (4 * v)) T v x
                  · rfl
                  · exfalso
                    unfold hitC at zh
                    rw [Bool.and_eq_true, decide_eq_true_eq] at zh
                    have := zh.2
                    rw [e] at this
                    omega
                · rw [if_neg zo] at hx; cases hx
              · rename_i z2
                (refine And.intro (by omega) ?_)
                have e2b : w0 94 2 = T.back := b.ct.back
                rw [e2b]
                have fC4 : w1 4 = w0 4 := hF1 4 (by decide)
                have fC7 : w1 7 = w0 7 := hF1 7 (by decide)
                refine S_lets (w := w1) (T := T) (wt := wt) (by rw [fC4, fC7]; exact b.ct) fi (w0 93 8) (w1 103 t.length) b.fb pre hP (by rw [i2]; exact c3) (by rw [i2, er]; exact c4) q (by omega) ?_
                refine ⟨_, rfl, ?_⟩
                cases zl : (if T.back = 1 then (!(pre.contains q) || fi q) else if T.back = 2 then (!(pre.contains q) && !(fi q)) else if T.back = 3 then !(pre.any (fun x => T.tw x == T.tw q)) else true)
                · rw [zl, Bool.and_false, Bool.and_false] at eok
                  simp only [Bool.false_eq_true, if_false]
                  refine ⟨fun _ => dead eok, fun z => absurd trivial z⟩
                · rw [zl, nx1 q hq8 zn, gq] at eok
                  rw [if_pos (rfl : true = true)]
                  refine ⟨fun z => by exfalso; omega, fun _ => ?_⟩
                  -- a step on
                  have epq : paL T (q :: pre) = paL T pre + T.pn p q := by rw [er]; rfl
                  have eaq : asL T (q :: pre) = asL T pre + (if pre.length < T.n - 1 then T.ak q else 0) := by rw [er]; rfl
                  have etq : tmW T.n wt (q :: pre) = tmW T.n wt pre + (if pre.length < T.n - 1 ∧ (q : Int) = wt then 1 else 0) := by rw [er]; rfl
                  have aq := b.ct.ak q (by omega)
                  have aq9 := b.ct.ak9 q
                  have eco : coL T pre = paL T pre + asL T pre := rfl
                  have ecq : coL T (q :: pre) = paL T (q :: pre) + asL T (q :: pre) := rfl
                  have tb9 : tmW T.n wt pre ≤ pre.length := by
                    have : ∀ l : List Nat, tmW T.n wt l ≤ l.length := by
                      intro l
                      induction l with
                      | nil => exact Nat.le_refl _
                      | cons x l ihl =>
                        cases l with
                        | nil => exact Nat.zero_le _
                        | cons y l =>
                          show tmW T.n wt (y :: l) + (if (y :: l).length < T.n - 1 ∧ (x : Int) = wt then 1 else 0) ≤ (y :: l).length + 1
                          split <;> omega
                    exact this pre
                  have go : ∀ (co ti hd : Int), hd = ior (w1 103 t.length) (ishl 1 (q : Int)) → co = (coL T (q :: pre) : Nat) → ti = (tmW T.n wt (q :: pre) : Nat) → Cw (d + 2 * j + 2) 64 [mR 93, mI (t.length + 1 : Nat)] (ub (ub (ub (ub (ub w1 102 (t.length + 1) q) 103 (t.length + 1) hd) 104 (t.length + 1) ((hoL T pre : Int) + (T.hr p q : Int))) 105 (t.length + 1) co) 106 (t.length + 1) ti) (fun _ v9 => Wp (Cw (d + 2 * j + 2 + 1)) cd_Ways_onward (0, 0, n1) Q 44 [mR 93, mI t.length, mI NX, mI (q + 1 : Nat), none] [] v9) := by
                    intro co ti hd hhd hco hti
                    have hF2 : Fr cC8 w0 (ub (ub (ub (ub (ub w1 102 (t.length + 1) q) 103 (t.length + 1) hd) 104 (t.length + 1) ((hoL T pre : Int) + (T.hr p q : Int))) 105 (t.length + 1) co) 106 (t.length + 1) ti) := Fr.tr hF1 (st5 w1 _ _ _ _ _ _) (fun _ x => x)
                    have ix2 : ∀ i, i < pre.length → (ub (ub (ub (ub (ub w1 102 (t.length + 1) q) 103 (t.length + 1) hd) 104 (t.length + 1) ((hoL T pre : Int) + (T.hr p q : Int))) 105 (t.length + 1) co) 106 (t.length + 1) ti) 102 i = w 102 i ∧ (ub (ub (ub (ub (ub w1 102 (t.length + 1) q) 103 (t.length + 1) hd) 104 (t.length + 1) ((hoL T pre : Int) + (T.hr p q : Int))) 105 (t.length + 1) co) 106 (t.length + 1) ti) 103 i = w 103 i ∧ (ub (ub (ub (ub (ub w1 102 (t.length + 1) q) 103 (t.length + 1) hd) 104 (t.length + 1) ((hoL T pre : Int) + (T.hr p q : Int))) 105 (t.length + 1) co) 106 (t.length + 1) ti) 104 i = w 104 i ∧ (ub (ub (ub (ub (ub w1 102 (t.length + 1) q) 103 (t.length + 1) hd) 104 (t.length + 1) ((hoL T pre : Int) + (T.hr p q : Int))) 105 (t.length + 1) co) 106 (t.length + 1) ti) 105 i = w 105 i ∧ (ub (ub (ub (ub (ub w1 102 (t.length + 1) q) 103 (t.length + 1) hd) 104 (t.length + 1) ((hoL T pre : Int) + (T.hr p q : Int))) 105 (t.length + 1) co) 106 (t.length + 1) ti) 106 i = w 106 i := by
                      intro i hi
                      obtain ⟨a1, a2, a3, a4, a5⟩ := hi1 i hi
                      refine ⟨?_, ?_, ?_, ?_, ?_⟩
                      · show up1 (w1 102) (t.length + 1) _ i = _; rw [up1_ap, if_neg (by omega), a1]
                      · show up1 (w1 103) (t.length + 1) _ i = _; rw [up1_ap, if_neg (by omega), a2]
                      · show up1 (w1 104) (t.length + 1) _ i = _; rw [up1_ap, if_neg (by omega), a3]
                      · show up1 (w1 105) (t.length + 1) _ i = _; rw [up1_ap, if_neg (by omega), a4]
                      · show up1 (w1 106) (t.length + 1) _ i = _; rw [up1_ap, if_neg (by omega), a5]
                    have r102 : ∀ z, (ub (ub (ub (ub (ub w1 102 (t.length + 1) q) 103 (t.length + 1) hd) 104 (t.length + 1) ((hoL T pre : Int) + (T.hr p q : Int))) 105 (t.length + 1) co) 106 (t.length + 1) ti) 102 z = up1 (w1 102) (t.length + 1) q z := fun _ => rfl
                    have r103 : ∀ z, (ub (ub (ub (ub (ub w1 102 (t.length + 1) q) 103 (t.length + 1) hd) 104 (t.length + 1) ((hoL T pre : Int) + (T.hr p q : Int))) 105 (t.length + 1) co) 106 (t.length + 1) ti) 103 z = up1 (w1 103) (t.length + 1) hd z := fun _ => rfl
                    have r104 : ∀ z, (ub (ub (ub (ub (ub w1 102 (t.length + 1) q) 103 (t.length + 1) hd) 104 (t.length + 1) ((hoL T pre : Int) + (T.hr p q : Int))) 105 (t.length + 1) co) 106 (t.length + 1) ti) 104 z = up1 (w1 104) (t.length + 1) ((hoL T pre : Int) + (T.hr p q : Int)) z := fun _ => rfl
                    have r105 : ∀ z, (ub (ub (ub (ub (ub w1 102 (t.length + 1) q) 103 (t.length + 1) hd) 104 (t.length + 1) ((hoL T pre : Int) + (T.hr p q : Int))) 105 (t.length + 1) co) 106 (t.length + 1) ti) 105 z = up1 (w1 105) (t.length + 1) co z := fun _ => rfl
                    have r106 : ∀ z, (ub (ub (ub (ub (ub w1 102 (t.length + 1) q) 103 (t.length + 1) hd) 104 (t.length + 1) ((hoL T pre : Int) + (T.hr p q : Int))) 105 (t.length + 1) co) 106 (t.length + 1) ti) 106 z = up1 (w1 106) (t.length + 1) ti z := fun _ => rfl
                    have s98 : (ub (ub (ub (ub (ub w1 102 (t.length + 1) q) 103 (t.length + 1) hd) 104 (t.length + 1) ((hoL T pre : Int) + (T.hr p q : Int))) 105 (t.length + 1) co) 106 (t.length + 1) ti) 98 = w1 98 := rfl
                    have s100 : (ub (ub (ub (ub (ub w1 102 (t.length + 1) q) 103 (t.length + 1) hd) 104 (t.length + 1) ((hoL T pre : Int) + (T.hr p q : Int))) 105 (t.length + 1) co) 106 (t.length + 1) ti) 100 = w1 100 := rfl
                    have s101 : (ub (ub (ub (ub (ub w1 102 (t.length + 1) q) 103 (t.length + 1) hd) 104 (t.length + 1) ((hoL T pre : Int) + (T.hr p q : Int))) 105 (t.length + 1) co) 106 (t.length + 1) ti) 101 = w1 101 := rfl
                    generalize (ub (ub (ub (ub (ub w1 102 (t.length + 1) q) 103 (t.length + 1) hd) 104 (t.length + 1) ((hoL T pre : Int) + (T.hr p q : Int))) 105 (t.length + 1) co) 106 (t.length + 1) ti) = w2 at *
                    have hd0 : 0 ≤ hd ∧ hd < 256 ∧ ∀ x, x < 8 → tb hd x = (q :: pre).contains x := by
                      obtain ⟨hn', hn2⟩ := Int.eq_ofNat_of_zero_le c3.1
                      have p7 : 2 ^ q ≤ 128 := Nat.pow_le_pow_right (n := 2) (by omega) (show q ≤ 7 by omega)
                      have o8 : hn' ||| 2 ^ q < 256 := Nat.or_lt_two_pow (n := 8) (by omega) (by omega)
                      rw [hhd, i2, hn2, ishl1 (by omega), ior_nat (by omega) (by omega)]
                      refine ⟨by omega, by omega, fun x hx => ?_⟩
                      rw [tb_nat _ _ (by omega), tbit_or_pow]
                      have c4x := c4 x hx
                      rw [hn2, tb_nat _ _ (by omega), ← er] at c4x
                      rw [c4x, List.contains_cons]
                      rw [Bool.or_comm]
                      congr 1
                      by_cases y : q = x
                      · subst y; simp
                      · have : (x == q) = false := by simp; omega
                        rw [this]; simp [y]
                    have hro2 : RowC T wt (w2 102) (w2 103) (w2 104) (w2 105) (w2 106) (q :: pre) := by
                      refine ⟨⟨?_, hq8, ?_, ?_, ?_, ?_, ?_⟩, RowC_ext ix2 hr⟩
                      · rw [lp, r102, up1_ap, if_pos rfl]
                      · rw [lp, r103, up1_ap, if_pos rfl]; exact ⟨hd0.1, hd0.2.1⟩
                      · rw [lp, r103, up1_ap, if_pos rfl]; exact hd0.2.2
                      · rw [lp, r104, up1_ap, if_pos rfl, ehq]; omega
                      · rw [lp, r105, up1_ap, if_pos rfl, hco]
                      · rw [lp, r106, up1_ap, if_pos rfl, hti]
                    have := ih (q :: pre) w2 d (fun _ v9 => Wp (Cw (d + 2 * j + 2 + 1)) cd_Ways_onward (0, 0, n1) Q 44 [mR 93, mI t.length, mI NX, mI (q + 1 : Nat), none] [] v9) hF2 hro2 (by simp; omega) (by simp) (fun x hx => by
                      rw [List.mem_cons] at hx
                      rcases hx with hx | hx
                      · omega
                      · exact hP x hx) (fun v hv => by
                      have := hc1 v hv
                      rw [s100]
                      rw [hm1] at this
                      generalize 8 ^ j = X at *
                      generalize m * X = Y at *
                      omega) ?_
                    · rw [show (q :: pre).length - 1 = t.length + 1 by simp; omega] at this
                      exact this
                    · intro w3 a1 a2 a3
                      rw [s98, s100, s101] at a3
                      refine ihm (q + 1) w3 (by omega) a1 (fun i hi => ?_) (fun v hv => ?_) (fun w' b1 b2 b3 => k1 w' b1 b2 ?_) n1
                      · obtain ⟨x1, x2, x3, x4, x5⟩ := a2 i (by simp; omega)
                        obtain ⟨y1, y2, y3, y4, y5⟩ := ix2 i hi
                        exact ⟨by rw [x1, y1], by rw [x2, y2], by rw [x3, y3], by rw [x4, y4], by rw [x5, y5]⟩
                      · have h1 := hc1 v hv
                        have h2 := a3.2.2.1 v hv
                        have h3 := accC_le (hitC (w0 99) (fun v => w0 13 (4 * v)) T v) (ext T fi j (q :: pre))
                        have h4 := ext_len T P8 fi j (q :: pre)
                        rw [h2]
                        rw [hm1] at h1
                        generalize 8 ^ j = X at *
                        generalize m * X = Y at *
                        omega
                      · refine AccW.app (A := if okB T fi pre q then ext T fi j (q :: pre) else []) ?_ b3
                        rw [eok]
                        exact a3
                  apply Ways_step_93_en
                  rw [f93, f94, f95, f96, f97, hn, b.wat, w32_id (x := (T.n : Int) - 1) (by unfold in32; omega), ixs (k := t.length) (by omega), Int.toNat_natCast, Int.toNat_natCast, Int.toNat_natCast, Int.toNat_natCast, i3, i4, i5, p1, p2, w32_id (x := (hoL T pre : Int) + (T.hr p q : Int)) (by unfold in32; omega), w32_id (x := (coL T pre : Int) + (T.pn p q : Int)) (by unfold in32; omega), w32_id (x := (coL T pre : Int) + (T.pn p q : Int) + 0) (by unfold in32; omega), w32_id (x := (tmW T.n wt pre : Int) + 0) (by unfold in32; omega), w32_id (x := (tmW T.n wt pre : Int) + 1) (by unfold in32; omega)]
                  have fin : ∀ (co ti : Int), co = (coL T (q :: pre) : Nat) → ti = (tmW T.n wt (q :: pre) : Nat) → Cw (d + 2 * j + 2 + 0) 64 [mR 93, mI (t.length + 1 : Nat)] (ub (ub (ub (ub (ub w1 102 (t.length + 1) q) 103 (t.length + 1) (ior (w1 103 t.length) (ishl 1 (q : Int)))) 104 (t.length + 1) ((hoL T pre : Int) + (T.hr p q : Int))) 105 (t.length + 1) co) 106 (t.length + 1) ti) (fun _ v2 => Wp (Cw (d + 2 * j + 2 + 1)) cd_Ways_onward (0, 0, n1) Q 44 [mR 93, mI t.length, mI NX, mI (q + 1 : Nat), none] [] v2) := fun co ti h1 h2 => go co ti _ rfl h1 h2
                  (repeat' (apply spl <;> intro))
                  · rename_i zb
                    (refine And.intro (by omega) ?_); (refine And.intro (by omega) ?_); (refine And.intro (by omega) ?_); (refine And.intro (by omega) ?_); (refine And.intro (by omega) ?_); (refine And.intro (by omega) ?_); (refine And.intro (by omega) ?_); (refine And.intro (by omega) ?_); (refine And.intro (by omega) ?_); (refine And.intro (by omega) ?_); (refine And.intro (by omega) ?_)
                    refine fin _ _ ?_ ?_
                    · rw [ecq, epq, eaq, if_neg (by omega)]; omega
                    · rw [etq, if_neg (by omega)]; omega
                  · rename_i zb
                    (refine And.intro (by omega) ?_); (refine And.intro (by omega) ?_); (refine And.intro (by omega) ?_); (refine And.intro (by omega) ?_); (refine And.intro (by omega) ?_); (refine And.intro (by omega) ?_); (refine And.intro (by omega) ?_); (refine And.intro (by omega) ?_)
                    (repeat' (apply spl <;> intro))
                    · rename_i zw
                      rw [if_pos zw] at aq
                      (refine And.intro (by omega) ?_); (refine And.intro (by omega) ?_)
                      (repeat' (apply spl <;> intro))
                      · rename_i zw2; exact absurd zw zw2
                      · (refine And.intro (by omega) ?_)
                        refine fin _ _ ?_ ?_
                        · rw [ecq, epq, eaq, if_pos (by omega)]; omega
                        · rw [etq, if_pos ⟨by omega, zw⟩]; omega
                    · rename_i zw
                      rw [if_neg zw] at aq
                      (refine And.intro (by omega) ?_); (refine And.intro (by omega) ?_); (refine And.intro (by omega) ?_)
                      rw [aq, w32_id (x := (coL T pre : Int) + (T.pn p q : Int) + (T.ak q : Int)) (by unfold in32; omega)]
                      (repeat' (apply spl <;> intro))
                      · (refine And.intro (by omega) ?_)
                        refine fin _ _ ?_ ?_
                        · rw [ecq, epq, eaq, if_pos (by omega)]; omega
                        · rw [etq, if_neg (by omega)]; omega
                      · rename_i zw2; exact absurd zw zw2
    apply Ways_onward_93_en
    intro n1
    rw [e94, e93, hn, w32_id (x := (T.n : Int) - 1) (by unfold in32; omega), lt, ixs (k := t.length) (by omega), Int.toNat_natCast, c1, hasbit _ (n := p) (by omega)]
    have start : ∀ NX, (∀ q, q < 8 → tb NX q = true → T.ha q = true) → (∀ q, q < 8 → tb NX q = false → T.ha q = false ∨ (j = 0 ∧ tb (w0 93 9) q = false)) → tb (w0 94 7) p = true → Wp (Cw (d + 2 * j + 2 + 1)) cd_Ways_onward (0, 0, n1) Q 44 [mR 93, mI t.length, mI NX, mI 0, none] [] w := by
      intro NX x1 x2 x3
      refine l44 NX x1 x2 x3 T.P 0 w (by omega) hF (fun i _ => ⟨rfl, rfl, rfl, rfl, rfl⟩) (fun v hv => ?_) (fun w' a1 a2 a3 => kk w' a1 a2 (by rw [ext_succ]; exact a3)) n1
      have h1 := hc v hv
      have h2 : T.P * 8 ^ j ≤ 8 * 8 ^ j := Nat.mul_le_mul_right _ P8
      rw [Nat.pow_succ] at h1
      generalize 8 ^ j = X at *
      generalize T.P * X = Y at *
      omega
    (repeat' (apply spl <;> intro))
    · exfalso; omega
    · (refine And.intro (by omega) ?_)
      cases zg : tb (w0 94 7) p
      · simp only [Bool.false_eq_true, if_false]
        refine ⟨fun _ => ?_, fun z => absurd trivial z⟩
        refine kk w hF (fun i _ => ⟨rfl, rfl, rfl, rfl, rfl⟩) ?_
        rw [ext0 zg]
        exact AccW.nil
      · rw [if_pos (rfl : true = true)]
        refine ⟨fun z => by exfalso; omega, fun _ => ?_⟩
        (repeat' (apply spl <;> intro))
        · refine start _ (fun q hq z => ?_) (fun q hq z => Or.inl ?_) zg
          · rw [tb_and, b.ct.hands q hq, Bool.and_eq_true] at z; exact z.1
          · rw [tb_and, b.ct.hands q hq, tb_neg1] at z
            simpa [show q < 32 by omega] using z
        · rename_i zl
          refine start _ (fun q hq z => ?_) (fun q hq z => ?_) zg
          · rw [tb_and, b.ct.hands q hq, Bool.and_eq_true] at z; exact z.1
          · rw [tb_and, b.ct.hands q hq, Bool.and_eq_false_iff] at z
            rcases z with z | z
            · exact Or.inl z
            · exact Or.inr ⟨by omega, z⟩
    · exfalso; omega

def cR7 : List Nat := [144, 155, 156, 157, 158, 159, 160]
def AtS (w0 w : Wd) : Prop := Fr cR7 w0 w ∧ ∀ i, i ≠ 34 → i ≠ 36 → w 144 i = w0 144 i
theorem AtS.rfl' (w : Wd) : AtS w w := ⟨Fr.rfl' _ _, fun _ _ _ => rfl⟩
theorem AtS.tr {a b c : Wd} (h : AtS a b) (h2 : AtS b c) : AtS a c := ⟨Fr.tr h.1 h2.1 (fun _ q => q), fun i i1 i2 => by rw [h2.2 i i1 i2, h.2 i i1 i2]⟩
theorem AtS.up {w0 w : Wd} (h : AtS w0 w) (c i : Nat) (x : Int) (hc : c ∈ cR7) (hi : c = 144 → i = 34 ∨ i = 36) : AtS w0 (ub w c i x) := by
  refine ⟨Fr.ub h.1 hc, fun j j1 j2 => ?_⟩
  rw [ub_ap]
  by_cases z : (144 : Nat) = c
  · have := hi z.symm
    rw [if_pos z, if_neg (by omega), ← z]; exact h.2 j j1 j2
  · rw [if_neg z]; exact h.2 j j1 j2
theorem AtS.rft {w0 w : Wd} (h : AtS w0 w) {T : Tm} (g : RfT (w0 144) (w0 146) (w0 151) (w0 152) (w0 153) (w0 154) T) : RfT (w 144) (w 146) (w 151) (w 152) (w 153) (w 154) T := by
  have e1 := h.1 146 (by decide)
  have e2 := h.1 151 (by decide)
  have e3 := h.1 152 (by decide)
  have e4 := h.1 153 (by decide)
  have e5 := h.1 154 (by decide)
  rw [e1, e2, e3, e4, e5]
  exact (RfT.mk (g.P) (g.P8) (g.n2) (g.n6) (by rw [h.2 26 (by decide) (by decide)]; exact g.back) (g.back3) (by rw [h.2 27 (by decide) (by decide)]; exact g.hands) (g.gv) (g.pn) (g.hr) (g.ak) (g.tw) (g.pn9) (g.hr9) (g.ak9) (g.tw9))
theorem StA_144 {w : Wd} {T : Tm} {pre : List Nat} (h : StA T w pre) (x : Int) : StA T (ub w 144 36 x) pre := h
theorem StA_156 {w : Wd} {T : Tm} {pre : List Nat} (h : StA T w pre) (i : Nat) (hi : pre.length ≤ i) (x : Int) : StA T (ub w 156 i x) pre := by
  refine ⟨RowOk_ext (fun j hj => ⟨rfl, ?_, rfl, rfl, rfl⟩) h.1, h.2⟩
  show up1 (w 156) i x j = w 156 j
  rw [up1_ap, if_neg (by omega)]
theorem L_next {d : Nat} {n1 : Int} {Q : MV → Wd → Prop} {w0 : Wd} {T : Tm} (g0 : RfT (w0 144) (w0 146) (w0 151) (w0 152) (w0 153) (w0 154) T) (hn : w0 144 35 = T.n) (u : Nat) (hu : u < 16) (most : Int) (Lt : List (List Nat))
    (k0 : ∀ w', AtS w0 w' → (∀ x, x ∈ Lt → most < hoL T x) → Q (mI 0) w')
    (k1 : ∀ w' L1 r L2, AtS w0 w' → Lt = L1 ++ r :: L2 → (∀ x, x ∈ L1 → most < hoL T x) → (hoL T r : Int) ≤ most → StA T w' r → okP T (fiR (w0 146) u) r → r.length = T.n → w' 144 36 = T.n → upL T (fiR (w0 146) u) r = L2 → Q (mI 1) w') :
    ∀ (M : Nat) (pre : List Nat) (q0 : Nat) (w : Wd) (Ls : List (List Nat)), muS T pre q0 ≤ M → AtS w0 w → StA T w pre → okP T (fiR (w0 146) u) pre → pre.length < T.n → w 144 36 = pre.length → w 156 pre.length = q0 → q0 ≤ T.P → Lt = Ls ++ remL T (fiR (w0 146) u) pre q0 → (∀ x, x ∈ Ls → most < hoL T x) → Wp (Cw (d + 2)) cd_M_nextRow (2, 0, n1) Q 15 [mR 144, mI u, mI most, none] [] w := by
  intro M
  induction M with
  | zero =>
    intro pre q0 w Ls hM hA hs ho hl hd hq hqP hLt hLs
    exfalso
    have := mu_skip (T := T) (pre := pre) (q0 := q0) hqP
    omega
  | succ M ih =>
    intro pre q0 w Ls hM hA hs ho hl hd hq hqP hLt hLs
    have g := hA.rft g0
    have hP := g.P
    have hP8 := g.P8
    have hn6 := g.n6
    have h35 : w 144 35 = T.n := by rw [hA.2 35 (by decide) (by decide)]; exact hn
    have e146 : w 146 = w0 146 := hA.1 146 (by decide)
    have hbk := g.back
    have hms := mu_skip (T := T) (pre := pre) (q0 := q0) hqP
    apply M_nextRow_144_c15
    rw [hd, Int.toNat_natCast, hq, hP, ixs (by omega)]
    (repeat' (apply spl <;> intro))
    · exfalso; omega
    · (refine And.intro (by omega) ?_); (refine And.intro (by omega) ?_); (refine And.intro (by omega) ?_)
      refine ⟨fun zq => ?_, fun zq => ?_⟩
      · have hlt : q0 < T.P := by omega
        have hs1 : StA T (ub w 156 pre.length ((q0 + 1 : Nat) : Int)) pre := StA_156 hs pre.length (Nat.le_refl _) _
        have hA1 : AtS w0 (ub w 156 pre.length ((q0 + 1 : Nat) : Int)) := hA.up 156 _ _ (by decide) (by intro z; exact absurd z (by decide))
        have g1 := hA1.rft g0
        have eq1 : (ub w 156 pre.length ((q0 + 1 : Nat) : Int)) 156 pre.length = ((q0 + 1 : Nat) : Int) := by
          show up1 (w 156) pre.length _ pre.length = _
          rw [up1_ap, if_pos rfl]
        have e1 : (ub w 156 pre.length ((q0 + 1 : Nat) : Int)) 146 = w0 146 := e146
        have eg := sibsL_go (T := T) (fi := fiR (w0 146) u) (pre := pre) hlt
        have hd1 : (ub w 156 pre.length ((q0 + 1 : Nat) : Int)) 144 36 = pre.length := hd
        have h351 : (ub w 156 pre.length ((q0 + 1 : Nat) : Int)) 144 35 = T.n := h35
        generalize (ub w 156 pre.length ((q0 + 1 : Nat) : Int)) = w1 at *
        refine S_mayCome g1 hs1 u hu (by rw [e1]; exact ho) hl q0 (by omega) ?_
        refine ⟨_, rfl, ?_⟩
        rw [e1]
        cases zk : okB T (fiR (w0 146) u) pre q0
        · rw [if_neg (by simp)]
          rw [zk] at eg
          simp only [Bool.false_eq_true, if_false, List.nil_append] at eg
          (repeat' (apply spl <;> intro))
          · exfalso; omega
          · refine ih pre (q0 + 1) w1 Ls (by omega) hA1 hs1 ho hl hd1 eq1 (by omega) ?_ hLs
            rw [hLt]; unfold remL; rw [eg]
        · rw [if_pos (rfl : true = true)]
          rw [zk, if_pos (rfl : true = true)] at eg
          (repeat' (apply spl <;> intro))
          · rw [hd1, h351]
            refine S_put g1 hs1 hl q0 (by omega) (by rw [eq1]; omega) ?_
            intro w2 f2 o2 s2
            have hA2 : AtS w0 w2 := ⟨Fr.tr hA1.1 f2 (by decide), fun i i1 i2 => by rw [o2 i i1, hA1.2 i i1 i2]⟩
            have hd2 : w2 144 36 = pre.length := by rw [o2 36 (by decide)]; exact hd1
            have h352 : w2 144 35 = T.n := by rw [o2 35 (by decide)]; exact h351
            have hq2 : w2 156 pre.length = ((q0 + 1 : Nat) : Int) := by rw [f2 156 (by decide)]; exact eq1
            have s2k := s2
            obtain ⟨⟨⟨r1, r2, r3, r4, r5, r6⟩, r7⟩, rc, rt⟩ := s2
            have b1 := hoL_bd g.hr9 (q0 :: pre)
            have g2 := hA2.rft g0
            have o26 := g2.back
            rw [hd2, Int.toNat_natCast, r4, ixs (k := pre.length) (by omega)]
            refine ⟨by omega, ?_⟩
            (repeat' (apply spl <;> intro))
            · rename_i z1 z2
              (refine And.intro (by omega) ?_)
              rw [Int.toNat_natCast]
              -- one more hand
              have hA3 : AtS w0 (ub (ub w2 144 36 ((pre.length + 1 : Nat) : Int)) 156 (pre.length + 1) 0) := (hA2.up 144 36 _ (by decide) (fun _ => Or.inr rfl)).up 156 _ _ (by decide) (by intro z; exact absurd z (by decide))
              have s3 : StA T (ub (ub w2 144 36 ((pre.length + 1 : Nat) : Int)) 156 (pre.length + 1) 0) (q0 :: pre) := StA_156 (StA_144 s2k _) _ (by simp) _
              have hl2 : (q0 :: pre).length < T.n := by simp; omega
              have md := mu_down (T := T) (pre := pre) (q0 := q0) hlt hP8 hl
              refine ih (q0 :: pre) 0 _ Ls (by omega) hA3 s3 ⟨ho, zk, hlt⟩ hl2 ?_ ?_ (by omega) ?_ hLs
              · show ((pre.length + 1 : Nat) : Int) = ((q0 :: pre).length : Nat)
                simp
              · show up1 (w2 156) (pre.length + 1) 0 (q0 :: pre).length = ((0 : Nat) : Int)
                rw [up1_ap, if_pos (by simp)]; rfl
              · rw [hLt]
                unfold remL
                rw [eg, ← ext_sibs hl2]
                have ex : T.n - pre.length - 1 = T.n - (q0 :: pre).length := by simp; omega
                rw [ex, List.append_assoc]
                rfl
            · rename_i z1 z2
              -- a whole row
              have ef : (q0 :: pre).length = T.n := by simp; omega
              refine k1 _ Ls (q0 :: pre) (upL T (fiR (w0 146) u) (q0 :: pre)) (hA2.up 144 36 _ (by decide) (fun _ => Or.inr rfl)) ?_ hLs z1 (StA_144 s2k _) ⟨ho, zk, hlt⟩ ef ?_ rfl
              · rw [hLt]
                unfold remL
                rw [eg, show T.n - pre.length - 1 = 0 by omega]
                show Ls ++ (([q0 :: pre] ++ sibsL T (fiR (w0 146) u) pre (q0 + 1)) ++ upL T (fiR (w0 146) u) pre) = Ls ++ (q0 :: pre) :: (sibsL T (fiR (w0 146) u) pre (q0 + 1) ++ upL T (fiR (w0 146) u) pre)
                simp
              · show ((pre.length + 1 : Nat) : Int) = T.n
                simp at ef; omega
            · -- too many hours
              rename_i z1
              rw [r1, Int.toNat_natCast]
              have hskip : ∀ x, x ∈ Ls ++ ext T (fiR (w0 146) u) (T.n - pre.length - 1) (q0 :: pre) → most < hoL T x := by
                intro x hx
                rw [List.mem_append] at hx
                rcases hx with hx | hx
                · exact hLs x hx
                · obtain ⟨t, e, _, _⟩ := mem_ext hx
                  have := hoL_app T (q0 :: pre) t
                  rw [e]; omega
              have hLt2 : Lt = (Ls ++ ext T (fiR (w0 146) u) (T.n - pre.length - 1) (q0 :: pre)) ++ remL T (fiR (w0 146) u) pre (q0 + 1) := by
                rw [hLt]
                unfold remL
                rw [eg]
                simp
              have tma := tm_away g.tw9 q0 pre
              have cq := rc q0 r2
              have cb := cnt_bd (pre := q0 :: pre) (q := q0)
              simp only [List.length_cons] at cb
              have back : ∀ tt : Int, tt = (tmN T pre : Nat) → Wp (Cw (d + 2)) cd_M_nextRow (2, 0, n1) Q 15 [mR 144, mI u, mI most, none] [] (ub (ub w2 160 q0 (w32 (w2 160 q0 - 1))) 144 34 tt) := by
                intro tt htt
                have s3 := away_fin (w := w2) (T := T) (q := q0) (pre := pre) s2k (w32 (w2 160 q0 - 1)) tt (by rw [cq]; exact w32_id (by unfold in32; omega)) htt
                exact ih pre (q0 + 1) _ _ (by omega) ((hA2.up 160 _ _ (by decide) (by intro z; exact absurd z (by decide))).up 144 34 _ (by decide) (fun _ => Or.inl rfl)) s3 ho hl hd2 hq2 (by omega) hLt2 hskip
              (refine And.intro (by omega) ?_); (refine And.intro (by omega) ?_); (refine And.intro (by omega) ?_)
              rw [rt, o26]
              have htw := g2.tw q0 r2
              rw [ixa_7 (by omega), Int.toNat_natCast, htw]
              (repeat' (apply spl <;> intro))
              · rename_i z2
                exact back _ (tma.2 (by omega))
              · rename_i z2
                refine ⟨by omega, by omega, ?_⟩
                exact back _ (tma.1 (by omega))
          · exfalso; omega
      · have zq : q0 = T.P := by omega
        rw [w32_id (x := (pre.length : Int) - 1) (by unfold in32; omega)]
        have es : sibsL T (fiR (w0 146) u) pre q0 = [] := sibsL_end (by omega)
        have hLt2 : Lt = Ls ++ upL T (fiR (w0 146) u) pre := by
          rw [hLt]; unfold remL; rw [es]; simp
        have hs1 : StA T (ub w 156 pre.length ((q0 + 1 : Nat) : Int)) pre := StA_156 hs pre.length (Nat.le_refl _) _
        have hA1 : AtS w0 (ub w 156 pre.length ((q0 + 1 : Nat) : Int)) := hA.up 156 _ _ (by decide) (by intro z; exact absurd z (by decide))
        have e155 : ∀ i, (ub (ub w 156 pre.length ((q0 + 1 : Nat) : Int)) 144 36 ((pre.length : Int) - 1)) 155 i = w 155 i := fun _ => rfl
        cases pre with
        | nil =>
          have l0 : (([] : List Nat).length : Int) = 0 := rfl
          (repeat' (apply spl <;> intro))
          · rw [l0]
            apply M_nextRow_144_c15
            (repeat' (apply spl <;> intro))
            · refine k0 _ (hA1.up 144 36 _ (by decide) (fun _ => Or.inr rfl)) ?_
              rw [hLt2]
              intro x hx
              exact hLs x (by simpa [upL] using hx)
            · rename_i z
              exfalso
              apply z
              show (0 : Int) - 1 < 0
              omega
          · exfalso; omega
        | cons p t =>
          have s1k := hs1
          obtain ⟨⟨⟨r1, r2, r3, r4, r5, r6⟩, r7⟩, rc, rt⟩ := hs1
          have ll : ((p :: t).length : Int) - 1 = (t.length : Int) := by simp
          have lt : t.length < 6 := by simp at hl; omega
          have l0 : ((p :: t).length : Int) = (t.length : Int) + 1 := by simp
          obtain ⟨o1, o2, o3⟩ := ho
          have tma := tm_away g.tw9 p t
          have cq : w 160 p = (List.count p (p :: t) : Nat) := rc p r2
          have cb := cnt_bd (pre := p :: t) (q := p)
          simp only [List.length_cons] at cb
          have mp := mu_pop (T := T) (p := p) (t := t) (q0 := q0) hqP
          have htw : w 146 (7 + p) = T.tw p := g.tw p r2
          have rtt : w 144 34 = (tmN T (p :: t) : Nat) := rt
          have rr : w 155 t.length = p := r1
          have hl2 : t.length < T.n := by omega
          have back : ∀ tt : Int, tt = (tmN T t : Nat) → Wp (Cw (d + 2)) cd_M_nextRow (2, 0, n1) Q 15 [mR 144, mI u, mI most, none] [] (ub (ub (ub (ub w 156 (p :: t).length ((q0 + 1 : Nat) : Int)) 144 36 (t.length : Int)) 160 p (w32 (w 160 p - 1))) 144 34 tt) := by
            intro tt htt
            have s3 := away_fin (w := ub (ub w 156 (p :: t).length ((q0 + 1 : Nat) : Int)) 144 36 (t.length : Int)) (T := T) (q := p) (pre := t) (StA_144 s1k _) (w32 (w 160 p - 1)) tt (by
              show w32 (w 160 p - 1) = w 160 p - 1
              rw [cq]
              exact w32_id (x := ((List.count p (p :: t) : Nat) : Int) - 1) (by unfold in32; omega)) htt
            refine ih t (p + 1) _ Ls (by omega) (((hA1.up 144 36 _ (by decide) (fun _ => Or.inr rfl)).up 160 _ _ (by decide) (by intro z; exact absurd z (by decide))).up 144 34 _ (by decide) (fun _ => Or.inl rfl)) s3 o1 hl2 rfl ?_ (by omega) hLt2 hLs
            show (ub w 156 (p :: t).length ((q0 + 1 : Nat) : Int)) 156 t.length = ((p + 1 : Nat) : Int)
            rw [r3]; rfl
          rw [ll, Int.toNat_natCast, rr, Int.toNat_natCast, ixa_7 (by omega), Int.toNat_natCast, rtt, htw, hbk]
          (repeat' (apply spl <;> intro))
          · exfalso; omega
          · (refine And.intro (by omega) ?_); (refine And.intro (by omega) ?_); (refine And.intro (by omega) ?_)
            (repeat' (apply spl <;> intro))
            · rename_i z2
              exact back _ (tma.2 (by omega))
            · rename_i z2
              refine ⟨by omega, by omega, ?_⟩
              exact back _ (tma.1 (by omega))

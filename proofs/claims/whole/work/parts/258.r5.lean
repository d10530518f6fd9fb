theorem WayR_ext {T : Tm} {f1 f2 f3 f4 g1 g2 g3 g4 : Nat → Int} {i : Nat} {o : Option (List Nat)} (h1 : g1 i = f1 i) (h2 : g2 i = f2 i) (h3 : g3 i = f3 i) (h4 : g4 i = f4 i) (h : WayR T f1 f2 f3 f4 i o) : WayR T g1 g2 g3 g4 i o := by
  cases o with
  | none => show g1 i = _; rw [h1]; exact h
  | some b => obtain ⟨a, b', c, e⟩ := h; exact ⟨by rw [h1]; exact a, by rw [h2]; exact b', by rw [h3]; exact c, by rw [h4]; exact e⟩
/-- what the weighing of one unit leaves as it was -/
def WkU (u : Nat) (w w' : Wd) : Prop := Fr [144, 155, 156, 157, 158, 159, 160, 161, 162, 163, 164] w w' ∧ (∀ i, i ≠ 34 → i ≠ 35 → i ≠ 36 → w' 144 i = w 144 i) ∧ (∀ i, i < 8 * u ∨ 8 * u + 8 ≤ i → w' 161 i = w 161 i ∧ w' 162 i = w 162 i ∧ w' 163 i = w 163 i ∧ w' 164 i = w 164 i)
theorem WkU.tr {u : Nat} {a b c : Wd} (h : WkU u a b) (g : WkU u b c) : WkU u a c := ⟨Fr.tr h.1 g.1 (fun _ q => q), fun i i1 i2 i3 => by rw [g.2.1 i i1 i2 i3, h.2.1 i i1 i2 i3], fun i hi => by
  obtain ⟨a1, a2, a3, a4⟩ := h.2.2 i hi
  obtain ⟨b1, b2, b3, b4⟩ := g.2.2 i hi
  exact ⟨by rw [b1, a1], by rw [b2, a2], by rw [b3, a3], by rw [b4, a4]⟩⟩
theorem WkU.rfl' (u : Nat) (w : Wd) : WkU u w w := ⟨Fr.rfl' _ _, fun _ _ _ _ => rfl, fun _ _ => ⟨rfl, rfl, rfl, rfl⟩⟩
theorem cR7_sub : ∀ c, c ∈ cR7 → c ∈ [144, 155, 156, 157, 158, 159, 160, 161, 162, 163, 164] := by decide
theorem WkU.at {u : Nat} {a b : Wd} (h : AtS a b) : WkU u a b := by
  have e : ∀ c, c ∉ cR7 → b c = a c := fun c hc => h.1 c hc
  refine ⟨fun c hc => h.1 c (fun q => hc (cR7_sub c q)), fun i i1 _ i3 => h.2 i i1 i3, fun i _ => ?_⟩
  rw [e 161 (by decide), e 162 (by decide), e 163 (by decide), e 164 (by decide)]
  exact ⟨rfl, rfl, rfl, rfl⟩
theorem WkU.rft {u : Nat} {w0 w : Wd} (h : WkU u w0 w) {T : Tm} (g : RfT (w0 144) (w0 146) (w0 151) (w0 152) (w0 153) (w0 154) T) : RfT (w 144) (w 146) (w 151) (w 152) (w 153) (w 154) T := by
  have e1 := h.1 146 (by decide)
  have e2 := h.1 151 (by decide)
  have e3 := h.1 152 (by decide)
  have e4 := h.1 153 (by decide)
  have e5 := h.1 154 (by decide)
  rw [e1, e2, e3, e4, e5]
  exact (RfT.mk (g.P) (g.P8) (g.n2) (g.n6) (by rw [h.2.1 26 (by decide) (by decide) (by decide)]; exact g.back) (g.back3) (by rw [h.2.1 27 (by decide) (by decide) (by decide)]; exact g.hands) (g.gv) (g.pn) (g.hr) (g.ak) (g.tw) (g.pn9) (g.hr9) (g.ak9) (g.tw9))
theorem cw3_ {d : Nat} {cd : List Ent} {pr : Pr} {Q : MV → Wd → Prop} {i : Nat} {l s : List MV} {w1 w2 : Wd} (h : Wp (Cw d) cd pr Q i l s w1) (e : w2 = w1) : Wp (Cw d) cd pr Q i l s w2 := e ▸ h
theorem hb_step {q d x : Nat} (hd : d < 6) (hq : q < 8) (hx : x < 8 ^ d) : ior (x : Int) (ishl (q : Int) (w32 (3 * (d : Int)))) = ((x + q * 8 ^ d : Nat) : Int) := by
  have e8 : (8 : Nat) ^ d = 2 ^ (3 * d) := by rw [Nat.pow_mul]
  have p := Nat.pow_le_pow_right (n := 8) (by omega) (show d ≤ 5 by omega)
  rw [show (8 : Nat) ^ 5 = 32768 from rfl] at p
  have hm : q * 8 ^ d ≤ 7 * 8 ^ d := Nat.mul_le_mul_right _ (by omega)
  have es : q <<< (3 * d) = q * 8 ^ d := by rw [Nat.shiftLeft_eq, e8]
  have h1 : q <<< (3 * d) < 2147483648 := by rw [es]; omega
  rw [w32_id (x := 3 * (d : Int)) (by unfold in32; omega), show 3 * (d : Int) = ((3 * d : Nat) : Int) by omega, ishl_nat (by omega) (by omega) h1, ior_nat (by omega) h1]
  have h2 := Nat.shiftLeft_add_eq_or_of_lt (b := x) (i := 3 * d) (by rw [← e8]; exact hx) q
  rw [Nat.or_comm, ← h2, es, Nat.add_comm]
theorem S_weighUnit {d : Nat} {Q : MV → Wd → Prop} {w : Wd} {T : Tm} (g : RfT (w 144) (w 146) (w 151) (w 152) (w 153) (w 154) T) (law : w 144 25 = T.n) (hs : WS (w 146)) (U W : Nat) (h2 : w 146 2 = U) (h3 : w 146 3 = W) (u : Nat) (hu : u < U)
    (k : ∀ w', WkU u w w' → (∀ v, v < W → WayR T (w' 161) (w' 162) (w' 163) (w' 164) (8 * u + v) (bestR T (fiR (w 146) u) (hitS T (w 146) u v))) → Q none w') : Cw (d + 4) 212 [mR 144, mI u] w Q := by
  have hU : U ≤ 16 := by have := hs.un; omega
  have hW : W ≤ 8 := by have := hs.wa; omega
  have hn2 := g.n2
  have hn6 := g.n6
  have us := hs.usort u (by omega)
  have uh := hs.uhour u (by omega)
  have so6 := hs.so
  obtain ⟨ks, hks⟩ := Int.eq_ofNat_of_zero_le us.1
  have li := hs.life ks (by omega)
  obtain ⟨lf, hlf⟩ := Int.eq_ofNat_of_zero_le (show 0 ≤ w 146 (23 + ks) by omega)
  obtain ⟨md, hmd⟩ := Int.eq_ofNat_of_zero_le uh.1
  have elast : ∀ v, lastH (w 146) u v = min (w 146 (112 + 4 * v)) ((md : Int) + lf - 1) := fun v => by
    unfold lastH
    rw [hks, Int.toNat_natCast, hlf, hmd]
  apply M_weighUnit_144_en
  intro n1
  -- the rows, one after the other
  have l31 : ∀ (N : Nat) (L L0 : List (List Nat)) (w1 : Wd), L.length ≤ N → WkU u w w1 → w1 144 35 = T.n → SrS T (fiR (w 146) u) w1 L → rowsL T (fiR (w 146) u) = L0 ++ L → (∀ v, v < W → WayR T (w1 161) (w1 162) (w1 163) (w1 164) (8 * u + v) (bestF T (hitS T (w 146) u v) L0 none)) → Wp (Cw (d + 3)) cd_M_weighUnit (0, 0, n1) Q 31 [mR 144, mI u, mI md, none, none, none, none, none] [] w1 := by
    intro N
    induction N with
    | zero =>
      intro L L0 w1 hN hK h35 hS hL hw
      have : L = [] := List.eq_nil_of_length_eq_zero (by omega)
      subst this
      have g1 := hK.rft g
      have e146 : w1 146 = w 146 := hK.1 146 (by decide)
      have e30 : w1 146 (30 + 5 * u) = ks := by rw [e146]; exact hks
      have e23 : w1 146 (23 + ks) = lf := by rw [e146]; exact hlf
      apply M_weighUnit_144_c31
      rw [ixu_1 (by omega), Int.toNat_natCast, e30, ixa_23 (by omega), Int.toNat_natCast, e23]
      (refine And.intro (by omega) ?_); (refine And.intro (by omega) ?_)
      refine S_nextRow g1 h35 u (by omega) _ [] (by rw [e146]; exact hS) ?_ ?_
      · intro w2 hA _
        refine ⟨_, rfl, ?_⟩
        (repeat' (apply spl <;> intro))
        · refine k w2 (hK.tr (WkU.at hA)) (fun v hv => ?_)
          have := hw v hv
          unfold bestR
          rw [hL, List.append_nil]
          refine WayR_ext ?_ ?_ ?_ ?_ this <;> rw [hA.1 _ (by decide)]
        · exfalso; omega
      · intro w2 L1 r L2 _ hE
        exfalso
        simp at hE
    | succ N ih =>
      intro L L0 w1 hN hK h35 hS hL hw
      have g1 := hK.rft g
      have e146 : w1 146 = w 146 := hK.1 146 (by decide)
      have e30 : w1 146 (30 + 5 * u) = ks := by rw [e146]; exact hks
      have e23 : w1 146 (23 + ks) = lf := by rw [e146]; exact hlf
      apply M_weighUnit_144_c31
      rw [ixu_1 (by omega), Int.toNat_natCast, e30, ixa_23 (by omega), Int.toNat_natCast, e23, w32_id (x := (lf : Int) - 1) (by unfold in32; omega)]
      (refine And.intro (by omega) ?_); (refine And.intro (by omega) ?_)
      have off : ∀ (v : Nat) (x : List Nat), (lf : Int) - 1 < hoL T x → hitS T (w 146) u v x = false := by
        intro v x hx
        have : ¬ (w 146 (33 + 5 * u) + (hoL T x : Int) ≤ lastH (w 146) u v) := by
          rw [elast, hmd]; omega
        unfold hitS
        rw [decide_eq_false this]
        simp
      refine S_nextRow g1 h35 u (by omega) _ L (by rw [e146]; exact hS) ?_ ?_
      · intro w2 hA hno
        refine ⟨_, rfl, ?_⟩
        (repeat' (apply spl <;> intro))
        · refine k w2 (hK.tr (WkU.at hA)) (fun v hv => ?_)
          have hv1 := hw v hv
          have hb : bestR T (fiR (w 146) u) (hitS T (w 146) u v) = bestF T (hitS T (w 146) u v) L0 none := by
            unfold bestR
            rw [hL, bestF_app, bestF_none _ _ L _ (fun x hx => off v x (hno x hx))]
          rw [hb]
          refine WayR_ext ?_ ?_ ?_ ?_ hv1 <;> rw [hA.1 _ (by decide)]
        · exfalso; omega
      · intro w2 L1 r L2 hA hE hL1 hr hst hok hlen hS2
        refine ⟨_, rfl, ?_⟩
        have hK2 := hK.tr (WkU.at (u := u) hA)
        have h352 : w2 144 35 = T.n := by rw [hA.2 35 (by decide) (by decide)]; exact h35
        have h252 : w2 144 25 = T.n := by rw [hK2.2.1 25 (by decide) (by decide) (by decide)]; exact law
        have hw2 : ∀ v, v < W → WayR T (w2 161) (w2 162) (w2 163) (w2 164) (8 * u + v) (bestF T (hitS T (w 146) u v) (L0 ++ L1) none) := by
          intro v hv
          rw [bestF_app, bestF_none _ _ L1 _ (fun x hx => off v x (hL1 x hx))]
          refine WayR_ext ?_ ?_ ?_ ?_ (hw v hv) <;> rw [hA.1 _ (by decide)]
        have hL2 : rowsL T (fiR (w 146) u) = (L0 ++ L1 ++ [r]) ++ L2 := by rw [hL, hE]; simp
        have hN2 : L2.length ≤ N := by rw [hE] at hN; simp at hN; omega
        rw [e146] at hS2 hok
        clear hw hA hS hL hE hL1 g1 h35 hK e146 e30 e23 off
        have rlt := okP_lt hok
        have P8 := g.P8
        -- the wants
        have l52 : ∀ (m v : Nat) (w2 : Wd), v + m = W → WkU u w w2 → w2 144 35 = T.n → w2 144 25 = T.n → StA T w2 r → SrS T (fiR (w 146) u) w2 L2 → (∀ x, x < v → WayR T (w2 161) (w2 162) (w2 163) (w2 164) (8 * u + x) (bestF T (hitS T (w 146) u x) (L0 ++ L1 ++ [r]) none)) → (∀ x, v ≤ x → x < W → WayR T (w2 161) (w2 162) (w2 163) (w2 164) (8 * u + x) (bestF T (hitS T (w 146) u x) (L0 ++ L1) none)) → Wp (Cw (d + 3)) cd_M_weighUnit (0, 0, n1) Q 52 [mR 144, mI u, mI md, mI (T.n - 1 : Nat), mI v, none, none, none] [] w2 := by
          intro m
          induction m with
          | zero =>
            intro v w2 hv hK2 h352 h252 hst hS2 hdo hto
            have : v = W := by omega
            subst this
            have e3 : w2 146 3 = v := by rw [hK2.1 146 (by decide)]; exact h3
            apply M_weighUnit_144_c52
            (repeat' (apply spl <;> intro))
            · exact ih L2 (L0 ++ L1 ++ [r]) w2 hN2 hK2 h352 hS2 hL2 (fun x hx => hdo x hx)
            all_goals (exfalso; omega)
          | succ m ihm =>
            intro v w2 hv hK2 h352 h252 hst hS2 hdo hto
            have g2 := hK2.rft g
            have e146 : w2 146 = w 146 := hK2.1 146 (by decide)
            have e3 : w2 146 3 = W := by rw [e146]; exact h3
            have wv := hto v (Nat.le_refl _) (by omega)
            have esn : ∀ o, bestF T (hitS T (w 146) u v) (L0 ++ L1 ++ [r]) none = o ↔ (if hitS T (w 146) u v r && betterB T r (bestF T (hitS T (w 146) u v) (L0 ++ L1) none) then some r else bestF T (hitS T (w 146) u v) (L0 ++ L1) none) = o := fun o => by rw [bestF_app]; exact Iff.rfl
            -- on to the next want, with the cells as they are
            have next : ∀ o, bestF T (hitS T (w 146) u v) (L0 ++ L1 ++ [r]) none = o → WayR T (w2 161) (w2 162) (w2 163) (w2 164) (8 * u + v) o → Wp (Cw (d + 3)) cd_M_weighUnit (0, 0, n1) Q 52 [mR 144, mI u, mI md, mI (T.n - 1 : Nat), mI (v + 1 : Nat), none, none, none] [] w2 := by
              intro o ho hwo
              refine ihm (v + 1) w2 (by omega) hK2 h352 h252 hst hS2 (fun x hx => ?_) (fun x hx hx2 => hto x (by omega) hx2)
              by_cases z : x = v
              · rw [z, ho]; exact hwo
              · exact hdo x (by omega)
            have miss : hitS T (w 146) u v r = false → Wp (Cw (d + 3)) cd_M_weighUnit (0, 0, n1) Q 52 [mR 144, mI u, mI md, mI (T.n - 1 : Nat), mI (v + 1 : Nat), none, none, none] [] w2 := by
              intro z
              refine next _ ((esn _).mpr ?_) wv
              rw [z]; rfl
            have keepB : betterB T r (bestF T (hitS T (w 146) u v) (L0 ++ L1) none) = false → bestF T (hitS T (w 146) u v) (L0 ++ L1 ++ [r]) none = bestF T (hitS T (w 146) u v) (L0 ++ L1) none := by
              intro z
              refine (esn _).mpr ?_
              rw [z, Bool.and_false]; rfl
            have takeB : hitS T (w 146) u v r = true → betterB T r (bestF T (hitS T (w 146) u v) (L0 ++ L1) none) = true → bestF T (hitS T (w 146) u v) (L0 ++ L1 ++ [r]) none = some r := by
              intro z1 z2
              refine (esn _).mpr ?_
              rw [z1, z2]; rfl
            -- the row taken: its hands are written
            have hands : bestF T (hitS T (w 146) u v) (L0 ++ L1 ++ [r]) none = some r → Wp (Cw (d + 3)) cd_M_weighUnit (0, 0, n1) Q 163 [mR 144, mI u, mI md, mI (T.n - 1 : Nat), mI v, none, mI (8 * u + v : Nat), mI 0] [] (ub (ub (ub (ub w2 161 (8 * u + v) ((coL T r : Nat) : Int)) 162 (8 * u + v) ((hoL T r : Nat) : Int)) 163 (8 * u + v) ((paL T r : Nat) : Int)) 164 (8 * u + v) 0) := by
              intro tk
              have l163 : ∀ (m dd : Nat), dd + m = T.n → Wp (Cw (d + 3)) cd_M_weighUnit (0, 0, n1) Q 163 [mR 144, mI u, mI md, mI (T.n - 1 : Nat), mI v, none, mI (8 * u + v : Nat), mI dd] [] (ub (ub (ub (ub w2 161 (8 * u + v) ((coL T r : Nat) : Int)) 162 (8 * u + v) ((hoL T r : Nat) : Int)) 163 (8 * u + v) ((paL T r : Nat) : Int)) 164 (8 * u + v) ((hbL (r.drop (T.n - dd)) : Nat) : Int)) := by
                intro m
                induction m with
                | zero =>
                  intro dd hd
                  have : dd = T.n := by omega
                  subst this
                  have e25 : (ub (ub (ub (ub w2 161 (8 * u + v) ((coL T r : Nat) : Int)) 162 (8 * u + v) ((hoL T r : Nat) : Int)) 163 (8 * u + v) ((paL T r : Nat) : Int)) 164 (8 * u + v) ((hbL (r.drop (T.n - T.n)) : Nat) : Int)) 144 25 = T.n := h252
                  apply M_weighUnit_144_c163
                  rw [e25, ixs (k := v) (by omega)]
                  (repeat' (apply spl <;> intro))
                  · rw [Nat.sub_self, List.drop_zero]
                    refine ihm (v + 1) _ (by omega) ?_ h352 h252 hst (SrS_ext (fun c hc => ?_) rfl rfl hS2) (fun x hx => ?_) (fun x hx hx2 => ?_)
                    · refine hK2.tr ⟨?_, fun i i1 i2 i3 => rfl, fun i hi => ?_⟩
                      · refine Fr.ub (Fr.ub (Fr.ub (Fr.ub (Fr.rfl' _ _) ?_) ?_) ?_) ?_ <;> decide
                      · refine ⟨?_, ?_, ?_, ?_⟩
                        · show up1 (w2 161) (8 * u + v) _ i = _; rw [up1_ap, if_neg (by omega)]
                        · show up1 (w2 162) (8 * u + v) _ i = _; rw [up1_ap, if_neg (by omega)]
                        · show up1 (w2 163) (8 * u + v) _ i = _; rw [up1_ap, if_neg (by omega)]
                        · show up1 (w2 164) (8 * u + v) _ i = _; rw [up1_ap, if_neg (by omega)]
                    · simp only [List.mem_cons, List.not_mem_nil, or_false] at hc
                      rcases hc with z | z | z | z | z | z <;> subst z <;> rfl
                    · by_cases z : x = v
                      · rw [z, tk]
                        refine ⟨?_, ?_, ?_, ?_⟩
                        · show up1 (w2 161) (8 * u + v) _ (8 * u + v) = _; rw [up1_ap, if_pos rfl]
                        · show up1 (w2 162) (8 * u + v) _ (8 * u + v) = _; rw [up1_ap, if_pos rfl]
                        · show up1 (w2 163) (8 * u + v) _ (8 * u + v) = _; rw [up1_ap, if_pos rfl]
                        · show up1 (w2 164) (8 * u + v) _ (8 * u + v) = _; rw [up1_ap, if_pos rfl]
                      · refine WayR_ext ?_ ?_ ?_ ?_ (hdo x (by omega))
                        · show up1 (w2 161) (8 * u + v) _ (8 * u + x) = _; rw [up1_ap, if_neg (by omega)]
                        · show up1 (w2 162) (8 * u + v) _ (8 * u + x) = _; rw [up1_ap, if_neg (by omega)]
                        · show up1 (w2 163) (8 * u + v) _ (8 * u + x) = _; rw [up1_ap, if_neg (by omega)]
                        · show up1 (w2 164) (8 * u + v) _ (8 * u + x) = _; rw [up1_ap, if_neg (by omega)]
                    · refine WayR_ext ?_ ?_ ?_ ?_ (hto x (by omega) hx2)
                      · show up1 (w2 161) (8 * u + v) _ (8 * u + x) = _; rw [up1_ap, if_neg (by omega)]
                      · show up1 (w2 162) (8 * u + v) _ (8 * u + x) = _; rw [up1_ap, if_neg (by omega)]
                      · show up1 (w2 163) (8 * u + v) _ (8 * u + x) = _; rw [up1_ap, if_neg (by omega)]
                      · show up1 (w2 164) (8 * u + v) _ (8 * u + x) = _; rw [up1_ap, if_neg (by omega)]
                  · exfalso; omega
                | succ m ihd =>
                  intro dd hd
                  have hlt : T.n - dd - 1 < r.length := by omega
                  have ed : r.drop (T.n - (dd + 1)) = r[T.n - dd - 1] :: r.drop (T.n - dd) := by
                    have := List.drop_eq_getElem_cons hlt
                    rw [show T.n - (dd + 1) = T.n - dd - 1 by omega, this, show T.n - dd - 1 + 1 = T.n - dd by omega]
                  have ld : (r.drop (T.n - dd)).length = dd := by rw [List.length_drop]; omega
                  have hro : RowOk T (w2 155) (w2 156) (w2 157) (w2 158) (w2 159) (r[T.n - dd - 1] :: r.drop (T.n - dd)) := by
                    have hro0 := hst.1
                    have e := List.take_append_drop (T.n - (dd + 1)) r
                    rw [← e] at hro0
                    have := RowOk_suf hro0
                    rwa [ed] at this
                  obtain ⟨⟨ro1, ro2, _⟩, _⟩ := hro
                  rw [ld] at ro1
                  have hx8 : ∀ x, x ∈ r.drop (T.n - dd) → x < 8 := fun x hx => by
                    have := rlt x (List.mem_of_mem_drop hx); omega
                  have hb := hbL_lt _ hx8
                  rw [ld] at hb
                  have ihd := ihd (dd + 1) (by omega)
                  rw [ed, show hbL (r[T.n - dd - 1] :: r.drop (T.n - dd)) = hbL (r.drop (T.n - dd)) + r[T.n - dd - 1] * 8 ^ (r.drop (T.n - dd)).length from rfl, ld] at ihd
                  generalize r[T.n - dd - 1] = rq at *
                  generalize hbL (r.drop (T.n - dd)) = hbx at *
                  have e25 : (ub (ub (ub (ub w2 161 (8 * u + v) ((coL T r : Nat) : Int)) 162 (8 * u + v) ((hoL T r : Nat) : Int)) 163 (8 * u + v) ((paL T r : Nat) : Int)) 164 (8 * u + v) (hbx : Int)) 144 25 = T.n := h252
                  have e155 : (ub (ub (ub (ub w2 161 (8 * u + v) ((coL T r : Nat) : Int)) 162 (8 * u + v) ((hoL T r : Nat) : Int)) 163 (8 * u + v) ((paL T r : Nat) : Int)) 164 (8 * u + v) (hbx : Int)) 155 dd = rq := ro1
                  have e164 : (ub (ub (ub (ub w2 161 (8 * u + v) ((coL T r : Nat) : Int)) 162 (8 * u + v) ((hoL T r : Nat) : Int)) 163 (8 * u + v) ((paL T r : Nat) : Int)) 164 (8 * u + v) (hbx : Int)) 164 (8 * u + v) = hbx := by
                    show up1 (w2 164) (8 * u + v) _ (8 * u + v) = _; rw [up1_ap, if_pos rfl]
                  apply M_weighUnit_144_c163
                  rw [e25, ixs (k := dd) (by omega), Int.toNat_natCast, Int.toNat_natCast, e155, e164, hb_step (by omega) ro2 hb]
                  (repeat' (apply spl <;> intro))
                  · exfalso; omega
                  · (refine And.intro (by omega) ?_); (refine And.intro (by omega) ?_); (refine And.intro (by omega) ?_)
                    refine cw3_ ihd ?_
                    funext c i
                    simp only [ub_ap]
                    by_cases z : c = 164
                    · simp only [z, if_true]
                      by_cases z2 : i = 8 * u + v
                      · simp [z2]
                      · simp [z2]
                    · simp [z]
              have := l163 T.n 0 (by omega)
              rw [Nat.sub_zero, show r.drop T.n = [] from List.drop_eq_nil_of_le (by omega)] at this
              exact this
            have hst2 := hst
            obtain ⟨q, t, er⟩ : ∃ q t, r = q :: t := by
              cases r with
              | nil => simp at hlen; omega
              | cons q t => exact ⟨q, t, rfl⟩
            have lt : t.length = T.n - 1 := by rw [er] at hlen; simp at hlen; omega
            have hro := hst2.1
            rw [er] at hro
            obtain ⟨⟨ro1, ro2, ro3, ro4, ro5, ro6⟩, _⟩ := hro
            rw [← er] at ro4 ro5 ro6
            rw [lt] at ro1 ro4 ro5 ro6
            have b1 := hoL_bd g.hr9 r
            have b2 := paL_bd g.pn9 r
            have b3 := asL_bd g.ak9 r
            have hwh := hs.wwho v (by omega)
            have hwb := hs.wby v (by omega)
            have e112 : w2 146 (112 + 4 * v) = w 146 (112 + 4 * v) := by rw [e146]
            have e109 : w2 146 (109 + 4 * v) = w 146 (109 + 4 * v) := by rw [e146]
            have e110 : w2 146 (110 + 4 * v) = w 146 (110 + 4 * v) := by rw [e146]
            have e30 : w2 146 (30 + 5 * u) = ks := by rw [e146]; exact hks
            have e33 : w2 146 (33 + 5 * u) = md := by rw [e146]; exact hmd
            have e23 : w2 146 (23 + ks) = lf := by rw [e146]; exact hlf
            have ehit : hitS T (w 146) u v r = (decide (w 146 (109 + 4 * v) = q) && (decide (w 146 (110 + 4 * v) = ks) && decide ((md : Int) + hoL T r ≤ lastH (w 146) u v))) := by
              unfold hitS
              rw [hks, hmd, er]
            rw [elast] at ehit
            have coe : ((coL T r : Nat) : Int) = (paL T r : Int) + (asL T r : Int) := by unfold coL; omega
            apply M_weighUnit_144_c52
            rw [e3, ixw_1 (by omega), ixw_3 (by omega), ixw (by omega), ixu_1 (by omega), ixu_4 (by omega), ix8b (by omega) (by omega), Int.toNat_natCast, Int.toNat_natCast, Int.toNat_natCast, Int.toNat_natCast, Int.toNat_natCast, Int.toNat_natCast, Int.toNat_natCast, e30, ixa_23 (by omega), Int.toNat_natCast, e23, e33, e109, e110, e112, ro1, ro4, ro5, ro6, ixs (k := v) (by omega), w32_id (x := (paL T r : Int) + (asL T r : Int)) (by unfold in32; omega), w32_id (x := (md : Int) + (lf : Int)) (by unfold in32; omega), w32_id (x := (md : Int) + (lf : Int) - 1) (by unfold in32; omega), w32_id (x := (md : Int) + (hoL T r : Int)) (by unfold in32; omega), ← coe]
            (repeat' (apply spl <;> intro))
            · exfalso; omega
            · (refine And.intro (by omega) ?_); (refine And.intro (by omega) ?_)
              (repeat' (apply spl <;> intro))
              · rename_i z
                exact miss (by rw [ehit, decide_eq_false z]; rfl)
              · rename_i z1
                have z1 := Decidable.not_not.mp z1
                (refine And.intro (by omega) ?_); (refine And.intro (by omega) ?_)
                (repeat' (apply spl <;> intro))
                · rename_i z
                  exact miss (by rw [ehit, decide_eq_false z, Bool.false_and, Bool.and_false])
                · rename_i z2
                  have z2 := Decidable.not_not.mp z2
                  (refine And.intro (by omega) ?_); (refine And.intro (by omega) ?_); (refine And.intro (by omega) ?_); (refine And.intro (by omega) ?_); (refine And.intro (by omega) ?_)
                  have hyes : (md : Int) + hoL T r ≤ min (w 146 (112 + 4 * v)) ((md : Int) + lf - 1) → hitS T (w 146) u v r = true := fun z => by
                    rw [ehit, decide_eq_true z1, decide_eq_true z2, decide_eq_true z]; rfl
                  have hno : ¬ (md : Int) + hoL T r ≤ min (w 146 (112 + 4 * v)) ((md : Int) + lf - 1) → hitS T (w 146) u v r = false := fun z => by
                    rw [ehit, decide_eq_false z, Bool.and_false, Bool.and_false]
                  clear ehit
                  (repeat' (apply spl <;> intro))
                  · rename_i z3 z4
                    (refine And.intro (by omega) ?_); (refine And.intro (by omega) ?_); (refine And.intro (by omega) ?_)
                    (repeat' (apply spl <;> intro))
                    · rename_i zc
                      exact next (bestF T (hitS T (w 146) u v) (L0 ++ L1) none) (keepB (by
                        cases o : bestF T (hitS T (w 146) u v) (L0 ++ L1) none with
                        | none => exfalso; rw [o] at wv; have wv : w2 161 (8 * u + v) = 1000000000 := wv; omega
                        | some b => rw [o] at wv; obtain ⟨wv1, wv2, wv3, wv4⟩ := wv; unfold betterB; simp only [Bool.or_eq_false_iff, decide_eq_false_iff_not, Bool.and_eq_false_iff, beq_eq_false_iff_ne]; unfold coL at wv1 zc ⊢; omega)) wv
                    · rename_i zc
                      (refine And.intro (by omega) ?_)
                      (repeat' (apply spl <;> intro))
                      · rename_i zd
                        have tk := takeB (hyes (by omega)) (by
                          cases o : bestF T (hitS T (w 146) u v) (L0 ++ L1) none with
                          | none => rfl
                          | some b => rw [o] at wv; obtain ⟨wv1, wv2, wv3, wv4⟩ := wv; unfold betterB; simp only [Bool.or_eq_true, decide_eq_true_eq, Bool.and_eq_true, beq_iff_eq]; unfold coL at wv1 zc zd ⊢; omega)
                        (refine And.intro (by omega) ?_); (refine And.intro (by omega) ?_); (refine And.intro (by omega) ?_); (refine And.intro (by omega) ?_); (refine And.intro (by omega) ?_); (refine And.intro (by omega) ?_)
                        exact hands tk
                      · rename_i zd
                        (refine And.intro (by omega) ?_); (refine And.intro (by omega) ?_)
                        (repeat' (apply spl <;> intro))
                        · rename_i ze
                          have tk := takeB (hyes (by omega)) (by
                            cases o : bestF T (hitS T (w 146) u v) (L0 ++ L1) none with
                            | none => rfl
                            | some b => rw [o] at wv; obtain ⟨wv1, wv2, wv3, wv4⟩ := wv; unfold betterB; simp only [Bool.or_eq_true, decide_eq_true_eq, Bool.and_eq_true, beq_iff_eq]; unfold coL at wv1 zc zd ⊢; omega)
                          (refine And.intro (by omega) ?_); (refine And.intro (by omega) ?_); (refine And.intro (by omega) ?_); (refine And.intro (by omega) ?_); (refine And.intro (by omega) ?_); (refine And.intro (by omega) ?_)
                          exact hands tk
                        · rename_i ze
                          exact next (bestF T (hitS T (w 146) u v) (L0 ++ L1) none) (keepB (by
                            cases o : bestF T (hitS T (w 146) u v) (L0 ++ L1) none with
                            | none => exfalso; rw [o] at wv; have wv : w2 161 (8 * u + v) = 1000000000 := wv; omega
                            | some b => rw [o] at wv; obtain ⟨wv1, wv2, wv3, wv4⟩ := wv; unfold betterB; simp only [Bool.or_eq_false_iff, decide_eq_false_iff_not, Bool.and_eq_false_iff, beq_eq_false_iff_ne]; unfold coL at wv1 zc zd ⊢; omega)) wv
                  · rename_i z3 z4
                    exact miss (hno (by omega))
                  · rename_i z3 z4
                    (refine And.intro (by omega) ?_); (refine And.intro (by omega) ?_); (refine And.intro (by omega) ?_)
                    (repeat' (apply spl <;> intro))
                    · rename_i zc
                      exact next (bestF T (hitS T (w 146) u v) (L0 ++ L1) none) (keepB (by
                        cases o : bestF T (hitS T (w 146) u v) (L0 ++ L1) none with
                        | none => exfalso; rw [o] at wv; have wv : w2 161 (8 * u + v) = 1000000000 := wv; omega
                        | some b => rw [o] at wv; obtain ⟨wv1, wv2, wv3, wv4⟩ := wv; unfold betterB; simp only [Bool.or_eq_false_iff, decide_eq_false_iff_not, Bool.and_eq_false_iff, beq_eq_false_iff_ne]; unfold coL at wv1 zc ⊢; omega)) wv
                    · rename_i zc
                      (refine And.intro (by omega) ?_)
                      (repeat' (apply spl <;> intro))
                      · rename_i zd
                        have tk := takeB (hyes (by omega)) (by
                          cases o : bestF T (hitS T (w 146) u v) (L0 ++ L1) none with
                          | none => rfl
                          | some b => rw [o] at wv; obtain ⟨wv1, wv2, wv3, wv4⟩ := wv; unfold betterB; simp only [Bool.or_eq_true, decide_eq_true_eq, Bool.and_eq_true, beq_iff_eq]; unfold coL at wv1 zc zd ⊢; omega)
                        (refine And.intro (by omega) ?_); (refine And.intro (by omega) ?_); (refine And.intro (by omega) ?_); (refine And.intro (by omega) ?_); (refine And.intro (by omega) ?_); (refine And.intro (by omega) ?_)
                        exact hands tk
                      · rename_i zd
                        (refine And.intro (by omega) ?_); (refine And.intro (by omega) ?_)
                        (repeat' (apply spl <;> intro))
                        · rename_i ze
                          have tk := takeB (hyes (by omega)) (by
                            cases o : bestF T (hitS T (w 146) u v) (L0 ++ L1) none with
                            | none => rfl
                            | some b => rw [o] at wv; obtain ⟨wv1, wv2, wv3, wv4⟩ := wv; unfold betterB; simp only [Bool.or_eq_true, decide_eq_true_eq, Bool.and_eq_true, beq_iff_eq]; unfold coL at wv1 zc zd ⊢; omega)
                          (refine And.intro (by omega) ?_); (refine And.intro (by omega) ?_); (refine And.intro (by omega) ?_); (refine And.intro (by omega) ?_); (refine And.intro (by omega) ?_); (refine And.intro (by omega) ?_)
                          exact hands tk
                        · rename_i ze
                          exact next (bestF T (hitS T (w 146) u v) (L0 ++ L1) none) (keepB (by
                            cases o : bestF T (hitS T (w 146) u v) (L0 ++ L1) none with
                            | none => exfalso; rw [o] at wv; have wv : w2 161 (8 * u + v) = 1000000000 := wv; omega
                            | some b => rw [o] at wv; obtain ⟨wv1, wv2, wv3, wv4⟩ := wv; unfold betterB; simp only [Bool.or_eq_false_iff, decide_eq_false_iff_not, Bool.and_eq_false_iff, beq_eq_false_iff_ne]; unfold coL at wv1 zc zd ⊢; omega)) wv
                  · rename_i z3 z4
                    exact miss (hno (by omega))
        (repeat' (apply spl <;> intro))
        · exfalso; omega
        · have h25 := h252
          rw [h252, w32_id (x := (T.n : Int) - 1) (by unfold in32; omega), show (T.n : Int) - 1 = ((T.n - 1 : Nat) : Int) by omega]
          exact l52 W 0 w2 (by omega) hK2 h352 h252 hst hS2 (fun x hx => by omega) (fun x _ hx => hw2 x hx)
  -- the beginning
  have l2 : ∀ (m v : Nat) (f : Nat → Int), v + m = 8 → (∀ x, x < v → f (8 * u + x) = 1000000000) → (∀ i, i < 8 * u ∨ 8 * u + 8 ≤ i → f i = w 161 i) → Wp (Cw (d + 3)) cd_M_weighUnit (0, 0, n1) Q 2 [mR 144, mI u, mI v, none, none, none, none, none] [] (ubf w 161 f) := by
    intro m
    induction m with
    | zero =>
      intro v f hv hf hof
      have : v = 8 := by omega
      subst this
      have e25 : (ubf w 161 f) 144 25 = T.n := law
      have e33 : ∀ w', Fr cR7 (ubf w 161 f) w' → w' 146 (33 + 5 * u) = md := fun w' hw' => by
        rw [hw' 146 (by decide)]; exact hmd
      apply M_weighUnit_144_c2
      rw [e25, ixu_4 (by omega), Int.toNat_natCast]
      (repeat' (apply spl <;> intro))
      · (refine And.intro (by omega) ?_)
        refine S_begin T.n ?_
        intro w' f1 f2 f3 f4 f5 f6 f7
        rw [show (ubf w 161 f) 146 (33 + 5 * u) = md from hmd]
        have hK : WkU u w w' := by
          refine ⟨fun c hc => ?_, fun i i1 i2 i3 => f2 i i1 i2 i3, fun i hi => ?_⟩
          · rw [f1 c (fun z => hc (cR7_sub c z)), ubf_ne _ (fun z => hc (by subst z; decide))]
          · rw [f1 161 (by decide), f1 162 (by decide), f1 163 (by decide), f1 164 (by decide)]
            exact ⟨hof i hi, rfl, rfl, rfl⟩
        refine l31 (rowsL T (fiR (w 146) u)).length (rowsL T (fiR (w 146) u)) [] w' (Nat.le_refl _) hK f3 (SrS_begin hn2 f4 f5 f6 f7) (by rw [List.nil_append]) (fun v hv => ?_)
        show w' 161 (8 * u + v) = 1000000000
        rw [f1 161 (by decide)]
        exact hf v (by omega)
      · exfalso; omega
    | succ m ih =>
      intro v f hv hf hof
      apply M_weighUnit_144_c2
      rw [ixs (k := v) (by omega), ix8b (by omega) (by omega), Int.toNat_natCast, ub_on]
      (repeat' (apply spl <;> intro))
      · exfalso; omega
      · (refine And.intro (by omega) ?_)
        refine ih (v + 1) _ (by omega) (fun x hx => ?_) (fun i hi => ?_)
        · rw [up1_ap]
          by_cases z : x = v
          · rw [if_pos (by omega)]
          · rw [if_neg (by omega)]; exact hf x (by omega)
        · rw [up1_ap, if_neg (by omega)]; exact hof i hi
  have e := l2 8 0 (w 161) (by omega) (fun x hx => by omega) (fun i _ => rfl)
  rw [ubf_sf0] at e
  exact e

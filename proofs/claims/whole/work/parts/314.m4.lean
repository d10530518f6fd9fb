/-- the reference while it asks one anew -/
def AsK (w0 w : Wd) (a : Nat) : Prop := (Fr [144, 154, 155, 156, 157, 158, 159, 160, 161, 162, 163, 164, 166, 167, 168] w0 w) ∧ (∀ i, i ≠ a → w 154 i = w0 154 i) ∧ (∀ i, i ∈ [2, 15, 25, 26, 27, 41, 42, 62, 64, 66, 71, 72] → w 144 i = w0 144 i)
theorem AsK.mk {w0 w : Wd} {a : Nat} (fr_ : Fr [144, 154, 155, 156, 157, 158, 159, 160, 161, 162, 163, 164, 166, 167, 168] w0 w) (as_ : ∀ i, i ≠ a → w 154 i = w0 154 i) (oth_ : ∀ i, i ∈ [2, 15, 25, 26, 27, 41, 42, 62, 64, 66, 71, 72] → w 144 i = w0 144 i) : AsK w0 w a := And.intro fr_ (And.intro as_ (oth_))
theorem AsK.fr {w0 w : Wd} {a : Nat} (h_ : AsK w0 w a) : Fr [144, 154, 155, 156, 157, 158, 159, 160, 161, 162, 163, 164, 166, 167, 168] w0 w := h_.1
theorem AsK.as {w0 w : Wd} {a : Nat} (h_ : AsK w0 w a) : ∀ i, i ≠ a → w 154 i = w0 154 i := h_.2.1
theorem AsK.oth {w0 w : Wd} {a : Nat} (h_ : AsK w0 w a) : ∀ i, i ∈ [2, 15, 25, 26, 27, 41, 42, 62, 64, 66, 71, 72] → w 144 i = w0 144 i := h_.2.2
theorem RfT_K {o v146 gv pn hr ak : Nat → Int} {T : Tm} (h : RfT o v146 gv pn hr ak T) (a : Nat) {x : Nat} (hx : x ≤ 99) {ak' : Nat → Int} (h1 : ak' a = x) (h2 : ∀ i, i ≠ a → ak' i = ak i) : RfT o v146 gv pn hr ak' (TmK T a x) := by
  refine (RfT.mk (h.P) (h.P8) (h.n2) (h.n6) (h.back) (h.back3) (h.hands) (h.gv) (h.pn) (h.hr) (fun q hq => ?_) (h.tw) (h.pn9) (h.hr9) (fun q => ?_) (h.tw9))
  · show ak' q = ((upN T.ak a x q : Nat) : Int)
    rw [upN_ap]
    by_cases z : q = a
    · rw [if_pos z, z, h1]
    · rw [if_neg z, h2 q z]; exact h.ak q hq
  · show upN T.ak a x q ≤ 99
    rw [upN_ap]
    by_cases z : q = a
    · rw [if_pos z]; exact hx
    · rw [if_neg z]; exact h.ak9 q
theorem L_asks36 {d : Nat} {n1 : Int} {Q : MV → Wd → Prop} {w : Wd} {T : Tm} (hb : TmB T) {s : Nat → Int} (ws : WS s) (a x : Nat) (was best : Int) (es : w 146 = s) (law : w 144 25 = T.n) {f : Nat → Nat} (hf : ∀ v, v < 8 → w 167 v = unitI f v) (hv : valid (s 3).toNat (adjS T s) (s 2).toNat f)
    (hw : ∀ u v : Nat, (u : Int) < s 2 → (v : Int) < s 3 → ∀ b, wayO T s u v = some b → w 164 (8 * u + v) = (hbL b : Nat))
    (k : Wp (Cw d) cd_M_asksBest (1, 0, n1) Q 28 [mR 144, mI a, mI was, mI best, mI x, mI (sumZ 8 (painS (tmS T s a) f)), mI (s 3), none] [] w) :
    ∀ (m v : Nat), v + m = (s 3).toNat → Wp (Cw d) cd_M_asksBest (1, 0, n1) Q 28 [mR 144, mI a, mI was, mI best, mI x, mI (sumZ v (painS (tmS T s a) f)), mI v, none] [] w := by
  have wa := ws.wa
  have un := ws.un
  have n2 := hb.n2
  have n6 := hb.n6
  have pb : ∀ v, 0 ≤ painS (tmS T s a) f v ∧ painS (tmS T s a) f v ≤ 500 := by
    intro v
    unfold painS
    by_cases z : f v = 0
    · rw [if_pos z]; omega
    · rw [if_neg z]
      unfold tmS
      cases q : wayO T s (16 - f v) v with
      | none => show 0 ≤ ((0 : Nat) : Int) ∧ ((0 : Nat) : Int) ≤ 500; omega
      | some r =>
        obtain ⟨_, _, _, rl, _⟩ := wayO_bd hb q
        have := tmW_len T.n (a : Int) r
        show 0 ≤ ((tmW T.n (a : Int) r : Nat) : Int) ∧ ((tmW T.n (a : Int) r : Nat) : Int) ≤ 500
        omega
  intro m
  induction m with
  | zero =>
    intro v hv'
    have hv' : v = (s 3).toNat := by omega
    have e := sumZ_trim (g := painS (tmS T s a) f) (W := v) (fun i hi => by
      unfold painS
      by_cases z : f i = 0
      · rw [if_pos z]
      · have := (hv.1 i z).1
        omega) (8 - v)
    rw [show v + (8 - v) = 8 by omega] at e
    rw [← e, show ((v : Nat) : Int) = s 3 by omega]
    exact k
  | succ m ih =>
    intro v hv'
    have ih := ih (v + 1) (by omega)
    have es' : sumZ (v + 1) (painS (tmS T s a) f) = sumZ v (painS (tmS T s a) f) + painS (tmS T s a) f v := rfl
    have b1 : 0 ≤ sumZ v (painS (tmS T s a) f) := sumZ_nonneg (fun i _ => (pb i).1)
    have b2 := sumZ_le (g := painS (tmS T s a) f) 500 (n := v) (fun i _ => (pb i).2)
    have fv := valid_le hv v
    have e167 := hf v (by omega)
    rw [es'] at ih
    generalize sumZ v (painS (tmS T s a) f) = S at *
    have v8 : 0 ≤ (v : Int) ∧ (v : Int) < 8 := by omega
    apply M_asksBest_144_c28
    rw [es]
    refine ⟨fun z => by exfalso; omega, fun _ => ?_⟩
    by_cases z : f v = 0
    · have p0 : painS (tmS T s a) f v = 0 := by unfold painS; rw [if_pos z]
      have u0 : unitI f v = -1 := by unfold unitI; rw [if_pos z]
      rw [p0, Int.add_zero] at ih
      apply M_asksBest_144_c36
      rw [Int.toNat_natCast, e167, u0, law, w32_id (x := (T.n : Int) - 1) (by unfold in32; omega), ixs (k := v) (by omega)]
      exact ⟨fun _ => ih, fun _ => ⟨v8, fun _ => ih, fun y => absurd (by decide) y⟩⟩
    · obtain ⟨z1, z2, z3, e⟩ := hv.1 v z
      obtain ⟨e1, e2, e⟩ := adjS_in e
      obtain ⟨r, hr⟩ := Option.isSome_iff_exists.mp e
      have ep : tmS T s a (16 - f v) v = tmW T.n (a : Int) r := by unfold tmS; rw [hr]; rfl
      have p0 : painS (tmS T s a) f v = (tmW T.n (a : Int) r : Nat) := by unfold painS; rw [if_neg z, ep]
      have u0 : unitI f v = ((16 - f v : Nat) : Int) := by unfold unitI; rw [if_neg z]
      obtain ⟨c1, c2, c3, rl, r8, rc, _⟩ := wayO_bd hb hr
      have kk := hw (16 - f v) v e1 e2 r hr
      have P8 := hb.P8
      have h88 : ∀ x, x ∈ r → x < 8 := fun x hx => by have := r8 x hx; omega
      have hl := hbL_lt r h88
      have p := Nat.pow_le_pow_right (n := 8) (by omega) (show r.length ≤ 6 by omega)
      rw [show (8 : Nat) ^ 6 = 262144 from rfl] at p
      rw [p0] at ih
      have lp : ∀ (m i : Nat), i + m = T.n - 1 → 1 ≤ i → Wp (Cw d) cd_M_asksBest (1, 0, n1) Q 36 [mR 144, mI a, mI was, mI best, mI x, mI (S + (tmW T.n a (r.drop (T.n - i)) : Nat)), mI v, mI i] [] w := by
        intro m
        induction m with
        | zero =>
          intro i hi h1i
          have e : T.n - i = 1 := by omega
          apply M_asksBest_144_c36
          rw [law, e, tmW_tail n2 rl, w32_id (x := (T.n : Int) - 1) (by unfold in32; omega), ixs (k := v) (by omega)]
          exact ⟨fun _ => ih, fun y => by exfalso; omega⟩
        | succ m ihm =>
          intro i hi h1i
          have ihm := ihm (i + 1) (by omega) (by omega)
          have es2 := tmW_drop (n := T.n) (wt := (a : Int)) (r := r) (i := i) h1i (by omega) rl
          have d1 := hb_dig r i h88 (by omega)
          have ex : ∀ (x y : Nat) (hx : x < r.length) (hy : y < r.length), x = y → r[x] = r[y] := fun x y hx hy e => by subst e; rfl
          rw [ex (r.length - 1 - i) (T.n - 1 - i) (by omega) (by omega) (by omega)] at d1
          have b := tmW_len T.n (a : Int) (r.drop (T.n - i))
          rw [List.length_drop] at b
          rw [es2] at ihm
          generalize tmW T.n (a : Int) (r.drop (T.n - i)) = t at *
          apply M_asksBest_144_c36
          rw [Int.toNat_natCast, e167, u0, law, w32_id (x := (T.n : Int) - 1) (by unfold in32; omega), ix8b (by omega) (by omega), Int.toNat_natCast, kk, w32_id (x := 3 * (i : Int)) (by unfold in32; omega), show 3 * (i : Int) = ((3 * i : Nat) : Int) by omega, hand_dig (by omega) (by omega), d1, ixs (k := i) (by omega)]
          refine ⟨fun y => by exfalso; omega, fun _ => ⟨v8, fun y => by exfalso; omega, fun _ => ⟨v8, by omega, fun y => ?_, fun y => ?_⟩⟩⟩
          · rw [if_neg y, Nat.add_zero] at ihm
            rw [w32_id (x := S + (t : Int) + 0) (by unfold in32; omega), Int.add_zero]
            exact ihm
          · rw [if_pos (Classical.not_not.mp y)] at ihm
            rw [w32_id (x := S + (t : Int) + 1) (by unfold in32; omega), show S + (t : Int) + 1 = S + ((t + 1 : Nat) : Int) by omega]
            exact ihm
      have e := lp (T.n - 2) 1 (by omega) (Nat.le_refl _)
      rw [tmW_one n2 rl] at e
      rw [show S + ((0 : Nat) : Int) = S by omega] at e
      exact e
/-- the reference asks one anew -/
theorem S_asksBest {d : Nat} {Q : MV → Wd → Prop} {w : Wd} {T : Tm} (ws : WS (w 146)) (hb : TmB T) (a : Nat) (a8 : a < 8) (law : w 144 25 = T.n) (rt : RfT (w 144) (w 146) (w 151) (w 152) (w 153) (w 154) T)
    (k : ∀ w', AsK w w' a → w' 154 a = w 154 a → w' 144 63 = (midG (nA (w 146) T a) 20 : Nat) → Q (mI (midB (nA (w 146) T a) 20 : Nat)) w') : Cw (d + 6) 250 [mR 144, mI a] w Q := by
  have wa := ws.wa
  have un := ws.un
  generalize hs : w 146 = s at *
  have r8 : 0 ≤ (a : Int) ∧ (a : Int) < 8 := by omega
  apply M_asksBest_144_en
  intro n1
  rw [Int.toNat_natCast]
  refine ⟨r8, ?_⟩
  have lp : ∀ (m x : Nat) (w1 : Wd), x + m = 20 → AsK w w1 a → w1 144 63 = (midG (nA s T a) x : Nat) → Wp (Cw (d + 5)) cd_M_asksBest (1, 0, n1) Q 12 [mR 144, mI a, mI (w 154 a), mI (midB (nA s T a) x : Nat), mI (x + 1 : Nat), none, none, none] [] w1 := by
    intro m
    induction m with
    | zero =>
      intro x w1 hx hA hg
      have : x = 20 := by omega
      subst this
      apply M_asksBest_144_c12
      rw [Int.toNat_natCast]
      refine ⟨fun _ => ⟨r8, k _ ⟨Fr.ub hA.fr (by decide), fun i hi => ?_, hA.oth⟩ ?_ hg⟩, fun z => by exfalso; omega⟩
      · show up1 (w1 154) a (w 154 a) i = _
        rw [up1_ap, if_neg hi]; exact hA.as i hi
      · rw [ub_ap, if_pos rfl, if_pos rfl]
    | succ m ih =>
      intro x w1 hx hA hg
      have hbx := TmB_K hb a (x := x + 1) (by omega)
      have nb := nA_bd ws hb a (x := x + 1) (by omega)
      have gb := midG_nA ws hb a (m := x) (by omega)
      have e146 : w1 146 = s := by rw [hA.fr 146 (by decide)]; exact hs
      apply M_asksBest_144_c12
      rw [Int.toNat_natCast]
      refine ⟨fun z => by exfalso; omega, fun _ => ⟨r8, ?_⟩⟩
      have rt1 : RfT ((ub w1 154 a (x + 1 : Nat)) 144) ((ub w1 154 a (x + 1 : Nat)) 146) ((ub w1 154 a (x + 1 : Nat)) 151) ((ub w1 154 a (x + 1 : Nat)) 152) ((ub w1 154 a (x + 1 : Nat)) 153) ((ub w1 154 a (x + 1 : Nat)) 154) (TmK T a (x + 1)) := by
        have g1 : RfT (w1 144) s (w1 151) (w1 152) (w1 153) (w 154) T := by
          rw [hA.fr 151 (by decide), hA.fr 152 (by decide), hA.fr 153 (by decide)]
          exact (RfT.mk (rt.P) (rt.P8) (rt.n2) (rt.n6) (by rw [hA.oth 26 (by decide)]; exact rt.back) (rt.back3) (by rw [hA.oth 27 (by decide)]; exact rt.hands) (rt.gv) (rt.pn) (rt.hr) (rt.ak) (rt.tw) (rt.pn9) (rt.hr9) (rt.ak9) (rt.tw9))
        have g2 := RfT_K g1 a (x := x + 1) (by omega) (ak' := (ub w1 154 a (x + 1 : Nat)) 154) (by rw [ub_ap, if_pos rfl, if_pos rfl]) (fun i hi => by rw [ub_ap, if_pos rfl, if_neg hi]; exact hA.as i hi)
        show RfT (w1 144) (w1 146) (w1 151) (w1 152) (w1 153) ((ub w1 154 a (x + 1 : Nat)) 154) (TmK T a (x + 1))
        rw [e146]
        exact g2
      refine S_weigh (d := d) (w := ub w1 154 a (x + 1 : Nat)) (T := TmK T a (x + 1)) rt1 (by show w1 144 25 = _; rw [hA.oth 25 (by decide)]; exact law) (by show WS (w1 146); rw [e146]; exact ws) (s 2).toNat (s 3).toNat (by show w1 146 2 = _; rw [e146]; omega) (by show w1 146 3 = _; rw [e146]; omega) ?_
      intro w5 hK hway
      have hway : ∀ u v, u < (s 2).toNat → v < (s 3).toNat → WayR (TmK T a (x + 1)) (w5 161) (w5 162) (w5 163) (w5 164) (8 * u + v) (wayO (TmK T a (x + 1)) (w1 146) u v) := hway
      rw [e146] at hway
      have e5 : w5 146 = s := by rw [hK.1 146 (by decide)]; exact e146
      have rf := RfD_of hbx ws (fun u v hu hv => hway u v (by omega) (by omega))
      refine S_bestDay (d := d + 3) (w := w5) (by rw [e5]; exact rf) ?_
      intro g a' c b2 o g1 g2 g3 g4 g5 g6 g7
      have hA2 : AsK w (ubf (ubf (ubf (ubf w5 166 a') 168 c) 144 o) 167 b2) a := by
        refine ⟨?_, fun i hi => ?_, fun i hi => ?_⟩
        · exact Fr.ubf (Fr.ubf (Fr.ubf (Fr.ubf (Fr.tr (Fr.ub hA.fr (by decide)) hK.1 (by decide)) (by decide)) (by decide)) (by decide)) (by decide)
        · show w5 154 i = _
          rw [hK.1 154 (by decide), ub_ap, if_pos rfl, if_neg hi]; exact hA.as i hi
        · have hi2 := hi
          simp only [List.mem_cons, List.not_mem_nil, or_false] at hi2
          show o i = _
          rw [g3 i (by omega) (by omega) (by omega), hK.2 i (by omega) (by omega) (by omega)]
          exact hA.oth i hi
      have h63 : (ubf (ubf (ubf (ubf w5 166 a') 168 c) 144 o) 167 b2) 144 63 = (midG (nA s T a) x : Nat) := by
        show o 63 = _
        rw [g3 63 (by decide) (by decide) (by decide), hK.2 63 (by decide) (by decide) (by decide)]
        exact hg
      have en : sumZ 8 (painS (tmS (TmK T a (x + 1)) s a) g) = ((nA s T a (x + 1) : Nat) : Int) := by
        obtain ⟨top, ht⟩ := isMax_ex (T := TmK T a (x + 1)) ws
        obtain ⟨fd, _, _, _, _, _, _, _, v8⟩ := top_day ws ht
        obtain ⟨_, _, q3⟩ := day_same ws ht v8 g1 g2
        obtain ⟨m', hm'⟩ := Int.eq_ofNat_of_zero_le (show 0 ≤ sumZ 8 (painS (tmS (TmK T a (x + 1)) s a) g) from sumZ_nonneg (fun i _ => by unfold painS; split <;> omega))
        have e2 : TmsR s (TmK T a (x + 1)) a m' := ⟨top, g, ht, fun v hv => by rw [v8 v hv, q3 v hv], hm'.symm⟩
        have e3 : TmsR s (TmK T a (x + 1)) a (nA s T a (x + 1)) := tmsV_spec ws _ a
        rw [hm', e3.uniq e2]
      refine L_asks36 (d := d + 5) (w := ubf (ubf (ubf (ubf w5 166 a') 168 c) 144 o) 167 b2) hbx ws a (x + 1) (w 154 a) _ e5 (by show o 25 = _; rw [g3 25 (by decide) (by decide) (by decide), hK.2 25 (by decide) (by decide) (by decide)]; exact (hA.oth 25 (by decide)).trans law) (fun v hv => g7 v hv) g1 (fun u v hu hv b hb' => ?_) ?_ (s 3).toNat 0 (by omega)
      · have := hway u v (by omega) (by omega)
        rw [hb'] at this
        exact this.2.2.2
      · rw [en]
        have ep : ((x + 1 : Nat) : Int) * ((nA s T a (x + 1) : Nat) : Int) = (((x + 1) * nA s T a (x + 1) : Nat) : Int) := (Int.natCast_mul _ _).symm
        have pb : (x + 1) * nA s T a (x + 1) ≤ 20 * 48 := Nat.mul_le_mul (by omega) nb
        have e6 : (ubf (ubf (ubf (ubf w5 166 a') 168 c) 144 o) 167 b2) 146 = s := e5
        generalize ubf (ubf (ubf (ubf w5 166 a') 168 c) 144 o) 167 b2 = w6 at *
        apply M_asksBest_144_c28
        rw [e6, ep, w32n (by omega), ixs (k := x + 1) (by omega), h63]
        refine ⟨fun _ => ⟨fun z => ?_, fun z => ?_⟩, fun z => absurd (Int.le_refl _) z⟩
        · have n1' : midG (nA s T a) x < (x + 1) * nA s T a (x + 1) := by omega
          have i1 := ih (x + 1) (ub w6 144 63 (((x + 1) * nA s T a (x + 1) : Nat) : Int)) (by omega) ⟨Fr.ub hA2.fr (by decide), hA2.as, fun i hi => by
            have hi2 := hi
            simp only [List.mem_cons, List.not_mem_nil, or_false] at hi2
            rw [ub_ap, if_pos rfl, if_neg (by omega)]; exact hA2.oth i hi⟩ (by
            rw [ub_ap, if_pos rfl, if_pos rfl]
            show _ = ((if midG (nA s T a) x < (x + 1) * nA s T a (x + 1) then (x + 1) * nA s T a (x + 1) else midG (nA s T a) x : Nat) : Int)
            rw [if_pos n1'])
          have eb : midB (nA s T a) (x + 1) = x + 1 := by
            show (if midG (nA s T a) x < (x + 1) * nA s T a (x + 1) then x + 1 else midB (nA s T a) x) = _
            rw [if_pos n1']
          rw [eb] at i1
          exact i1
        · have n1' : ¬ midG (nA s T a) x < (x + 1) * nA s T a (x + 1) := by omega
          have i1 := ih (x + 1) w6 (by omega) hA2 (by
            rw [h63]
            show _ = ((if midG (nA s T a) x < (x + 1) * nA s T a (x + 1) then (x + 1) * nA s T a (x + 1) else midG (nA s T a) x : Nat) : Int)
            rw [if_neg n1'])
          have eb : midB (nA s T a) (x + 1) = midB (nA s T a) x := by
            show (if midG (nA s T a) x < (x + 1) * nA s T a (x + 1) then x + 1 else midB (nA s T a) x) = _
            rw [if_neg n1']
          rw [eb] at i1
          exact i1
  refine lp 20 0 (ub w 144 63 0) (by omega) ⟨Fr.ub (Fr.rfl' _ _) (by decide), fun _ _ => rfl, fun i hi => ?_⟩ ?_
  · simp only [List.mem_cons, List.not_mem_nil, or_false] at hi
    rw [ub_ap, if_pos rfl, if_neg (by omega)]
  · rw [ub_ap, if_pos rfl, if_pos rfl]; rfl
theorem P_middle {d : Nat} {w : Wd} (h : Inv w) (x : Int) : Pair (d + 30) 126 249 [mI x] w := by
  unfold Pair
  have pe := h.ws.pe
  have e0 : w 4 0 = w 146 0 := h.rv.people
  have k0 : Inv (ub w 144 0 0) := (Inv.mk h.tape h.fault h.ws h.wp h.wb h.rv h.rp h.rb h.im0 h.im1 h.stale h.told h.wat h.hands h.hand h.askers h.asked h.gainers h.gained h.mid h.star h.done h.day h.shown h.words h.reserved)
  have out : (x < 0 ∨ w 146 0 ≤ x) → Mid (d + 30) 249 [mI x] w (mI (-1)) w := by
    intro hx
    (apply Mid.k)
    apply M_middle_144_en
    rw [w32_id (x := w 146 0 - 1) (by unfold in32; omega)]
    refine ⟨fun _ => Post.k rfl k0 rfl rfl, fun _ => ⟨fun _ => Post.k rfl k0 rfl rfl, fun _ => ?_⟩⟩
    exfalso; omega
  apply X_middle_0_en
  rw [e0]
  refine ⟨fun z => out (Or.inl z), fun z1 => ⟨fun z => out (Or.inr z), fun z2 => ?_⟩⟩
  obtain ⟨a, ha⟩ := Int.eq_ofNat_of_zero_le (show 0 ≤ x by omega)
  subst ha
  have hb := TmB_told h.ws
  refine S_try (d := d + 26) h ?_
  intro w1 tc
  refine S_middleAsk (d := d + 14) tc.rv h.ws hb a tc.ct ?_
  intro w2 hF2 h113 h112
  have fr2 : Fr ([113, 140] ++ scrR) w w2 := Fr.tr (Fr.tr (Fr.rfl' _ w) tc.fr (by decide)) hF2 (by decide)
  have fr3 : Fr ([113, 140] ++ scrR) w (ub w2 140 6 (w2 112 8)) := Fr.ub fr2 (by decide)
  have e146 : (ub w2 140 6 (w2 112 8)) 146 = w 146 := fr3 146 (by decide)
  have e144 : w2 144 = w 144 := by rw [hF2 144 (by decide), tc.fr 144 (by decide)]
  refine ⟨_, rfl, ?_⟩
  (apply Mid.k)
  apply M_middle_144_en
  rw [e146, w32_id (x := w 146 0 - 1) (by unfold in32; omega)]
  refine ⟨fun z => absurd z z1, fun _ => ⟨fun z => by exfalso; omega, fun _ => ?_⟩⟩
  refine S_refT (d := d + 28) (w := w) (w3 := ub (ub w2 140 6 (w2 112 8)) 144 0 0) h.ws e146 ?_
  intro w4 hF4 i4 law rt
  have fr4 : Fr ([113, 140] ++ scrR) w w4 := Fr.tr (Fr.ub fr3 (by decide)) hF4 (by decide)
  have e4 : w4 146 = w 146 := fr4 146 (by decide)
  refine S_asksBest (d := d + 23) (w := w4) (T := TmS (w 146)) (by rw [e4]; exact h.ws) hb a (by omega) law (by rw [e4]; exact rt) ?_
  intro w5 hA _ h63
  rw [e4] at h63 ⊢
  have fr5 : Fr ([113, 140] ++ scrR) w w5 := Fr.tr fr4 hA.fr (by decide)
  have e140 : w5 140 = up1 (w2 140) 6 (w2 112 8) := by
    rw [hA.fr 140 (by decide), hF4 140 (by decide), ub_ne _ _ (by decide), ub_self]
  have e2140 : w2 140 = w 140 := by rw [hF2 140 (by decide), tc.fr 140 (by decide)]
  refine ⟨_, rfl, Post.k rfl (Inv.g_mid h (Fr.ub fr5 (by decide)) (fun i hi => ?_) (fun i hi => ?_) (fun i hi => ?_) ?_) ?_ ?_⟩
  · simp only [List.mem_cons, List.not_mem_nil, or_false] at hi
    show w5 113 i = _
    rw [hi, hA.fr 113 (by decide), hF4 113 (by decide), ub_ne _ _ (by decide), ub_ne _ _ (by decide), h113, h.wat.2]
  · simp only [List.mem_cons, List.not_mem_nil, or_false] at hi
    show w5 140 i = _
    rw [e140, up1_ap, if_neg (by omega), e2140]
  · have hi2 := hi
    simp only [List.mem_cons, List.not_mem_nil, or_false] at hi2
    show up1 (w5 144) 64 (w5 144 63) i = _
    rw [up1_ap, if_neg (by omega), hA.oth i (by simp only [List.mem_cons, List.not_mem_nil, or_false]; omega), i4 i (by simp only [List.mem_cons, List.not_mem_nil, or_false]; omega)]
    show up1 (w2 144) 0 0 i = _
    rw [up1_ap, if_neg (by omega), e144]
  · show w5 140 6 = up1 (w5 144) 64 (w5 144 63) 64
    rw [up1_ap, if_pos rfl, h63, e140, up1_ap, if_pos rfl, h112]
  · exact fr5 401 (by decide)
  · exact fr5 400 (by decide)

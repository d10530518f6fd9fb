theorem TmB_O {s : Nat → Int} (hb0 : TmB (TmS s)) {n b : Nat} (n2 : 2 ≤ n) (n6 : n ≤ 6) : TmB (TmO s n b) := (TmB.mk (hb0.P8) (n2) (n6) (hb0.hr9) (hb0.pn9) (hb0.ak9) (hb0.gvi))
/-- a trial of the reference: where it stands when the ways are weighed -/
def TrR (w : Wd) (T : Tm) (w5 : Wd) : Prop := (Fr ([113] ++ scrR) w w5) ∧ (w5 113 2 = -1) ∧ (∀ i, i ∈ [2, 15, 41, 42, 62, 64, 66, 71, 72] → w5 144 i = w 144 i) ∧ (RfD (w 146) (w5 161) (w5 163) (w 146 2).toNat (w 146 3).toNat (woS (w 146)) (adjS T (w 146)) (coS T (w 146)) (paS T (w 146)))
theorem TrR.mk {w : Wd} {T : Tm} {w5 : Wd} (fr_ : Fr ([113] ++ scrR) w w5) (at1_ : w5 113 2 = -1) (i5_ : ∀ i, i ∈ [2, 15, 41, 42, 62, 64, 66, 71, 72] → w5 144 i = w 144 i) (rf_ : RfD (w 146) (w5 161) (w5 163) (w 146 2).toNat (w 146 3).toNat (woS (w 146)) (adjS T (w 146)) (coS T (w 146)) (paS T (w 146))) : TrR w T w5 := And.intro fr_ (And.intro at1_ (And.intro i5_ (rf_)))
theorem TrR.fr {w : Wd} {T : Tm} {w5 : Wd} (h_ : TrR w T w5) : Fr ([113] ++ scrR) w w5 := h_.1
theorem TrR.at1 {w : Wd} {T : Tm} {w5 : Wd} (h_ : TrR w T w5) : w5 113 2 = -1 := h_.2.1
theorem TrR.i5 {w : Wd} {T : Tm} {w5 : Wd} (h_ : TrR w T w5) : ∀ i, i ∈ [2, 15, 41, 42, 62, 64, 66, 71, 72] → w5 144 i = w 144 i := h_.2.2.1
theorem TrR.rf {w : Wd} {T : Tm} {w5 : Wd} (h_ : TrR w T w5) : RfD (w 146) (w5 161) (w5 163) (w 146 2).toNat (w 146 3).toNat (woS (w 146)) (adjS T (w 146)) (coS T (w 146)) (paS T (w 146)) := h_.2.2.2
theorem TrR.inv {w w5 : Wd} {T : Tm} (t : TrR w T w5) (h : Inv w) {w6 : Wd} (fr6 : Fr ([113] ++ scrR) w w6) (j1 : w6 113 = w5 113) (j2 : ∀ i, i ∈ [2, 15, 41, 42, 62, 64, 66, 71, 72] → w6 144 i = w5 144 i) : Inv w6 := by
  refine Inv.g_trial h fr6 (fun i hi => ?_) (fun i hi => by rw [j2 i hi, t.i5 i hi])
  simp only [List.mem_cons, List.not_mem_nil, or_false] at hi
  rw [hi, j1, t.at1, h.wat.2]
theorem TrR.day {d : Nat} {Q : MV → Wd → Prop} {w w5 : Wd} {T : Tm} (t : TrR w T w5) (h : Inv w) {top : Int} (ht : IsMax (w 146 3).toNat (adjP (woS (w 146)) (adjS T (w 146)) (coS T (w 146))) (cL (netD (woS (w 146)) (coS T (w 146)))) (w 146 2).toNat top) {fd : Nat → Nat} (v8 : ∀ v, v < 8 → top / (32 ^ (7 - v)) % 32 = fd v)
    (k : ∀ w6, Inv w6 → w6 401 = w 401 → w6 400 = w 400 → w6 144 47 = top / 17592186044416 → w6 144 48 = top / 1099511627776 % 16 → w6 144 49 = sumZ 8 (painS (paS T (w 146)) fd) → Q none w6) : Cw (d + 2) 228 [mR 144] w5 Q := by
  have e5 : w5 146 = w 146 := t.fr 146 (by decide)
  refine S_bestDay (d := d) (w := w5) (by rw [e5]; exact t.rf) ?_
  intro g a c b2 o g1 g2 g3 g4 g5 g6 g7
  obtain ⟨q1, q2, q3⟩ := day_same h.ws ht v8 g1 g2
  have fr6 : Fr ([113] ++ scrR) w (ubf (ubf (ubf (ubf w5 166 a) 168 c) 144 o) 167 b2) := by
    refine Fr.ubf (Fr.ubf (Fr.ubf (Fr.ubf t.fr (by decide)) (by decide)) (by decide)) (by decide)
  have hI := t.inv h fr6 rfl (fun i hi => by
    have hi2 := hi
    simp only [List.mem_cons, List.not_mem_nil, or_false] at hi2
    show o i = _
    rw [g3 i (by omega) (by omega) (by omega)])
  have ps : sumZ 8 (painS (paS T (w 146)) g) = sumZ 8 (painS (paS T (w 146)) fd) := sumZ_ext (fun i hi => by unfold painS; rw [q3 i hi])
  refine k _ hI (fr6 401 (by decide)) (fr6 400 (by decide)) ?_ ?_ ?_
  · show o 47 = _
    rw [g4, q1]
  · show o 48 = _
    rw [g5, q2]
  · show o 49 = _
    rw [g6, ps]
theorem TrR.most {d : Nat} {Q : MV → Wd → Prop} {w w5 : Wd} {T : Tm} (t : TrR w T w5) (h : Inv w) {vn : Nat} (hm : IsMost (w 146 3).toNat (adjS T (w 146)) (w 146 2).toNat vn)
    (k : ∀ g : Nat → Int, Inv (ubf w5 165 g) → Q (mI vn) (ubf w5 165 g)) : Cw (d + 3) 223 [mR 144] w5 Q := by
  have un := h.ws.un
  have wa := h.ws.wa
  have e5 : w5 146 = w 146 := t.fr 146 (by decide)
  refine S_mostMet (d := d) (w := w5) (w 146 2).toNat (w 146 3).toNat (by omega) (by omega) (by rw [e5]; omega) (by rw [e5]; omega) (adjS T (w 146)) (fun u v hu hv => RfD.ha t.rf u v hu hv) ?_
  intro v' g' hm'
  have e := hm.uniq hm'
  rw [← e]
  exact k g' (t.inv h (Fr.ubf t.fr (by decide)) rfl (fun i hi => rfl))
theorem S_otherRef0 {d : Nat} {Q : MV → Wd → Prop} {w w3 : Wd} (h : Inv w) (n b : Nat) (n2 : 2 ≤ n) (n6 : n ≤ 6) (b3 : b ≤ 3) (fr3 : Fr ([113] ++ scrR) w w3) (i113 : w3 113 2 = -1) (i144 : w3 144 = w 144)
    (k : ∀ w5, TrR w (TmO (w 146) n b) w5 → Q none w5) : Cw (d + 29) 208 [mR 144] (ub w3 144 0 0) (fun _ v7 => Cw (d + 29) 209 [mR 144] (ub (ub v7 144 25 n) 144 26 b) Q) := by
  have un := h.ws.un
  have wa := h.ws.wa
  have e3 : w3 146 = w 146 := fr3 146 (by decide)
  have hb : TmB (TmO (w 146) n b) := TmB_O (TmB_told h.ws) n2 n6
  refine S_asTold_144 (d := d + 28) ?_
  intro w4 hF4 h144 h25 h26 h27 h64 h8
  have e4' : w4 146 = w 146 := by rw [hF4 146 (by decide)]; exact e3
  have h64' : ∀ k, k < 64 → w4 151 k = w 146 (269 + k) ∧ w4 152 k = w 146 (141 + k) ∧ w4 153 k = w 146 (205 + k) := fun k hk => by
    have := h64 k hk
    rw [show (ub w3 144 0 0) 146 = w 146 from e3] at this
    exact this
  have h8' : ∀ k, k < 8 → w4 154 k = w 146 (15 + k) := fun k hk => by
    have := h8 k hk
    rw [show (ub w3 144 0 0) 146 = w 146 from e3] at this
    exact this
  have h26' : w4 144 26 = w 146 5 := by rw [h26]; show w3 146 5 = _; rw [e3]
  have rt0 := RfT_told (o := w4 144) h.ws h26' h27 (fun k hk => (h64' k hk).1) (fun k hk => (h64' k hk).2.1) (fun k hk => (h64' k hk).2.2) h8'
  have rt : RfT (up1 (up1 (w4 144) 25 n) 26 b) (w 146) (w4 151) (w4 152) (w4 153) (w4 154) (TmO (w 146) n b) := by
    refine (RfT.mk (rt0.P) (rt0.P8) (hb.n2) (hb.n6) ?_ (b3) (fun q hq => ?_) (rt0.gv) (rt0.pn) (rt0.hr) (rt0.ak) (rt0.tw) (rt0.pn9) (rt0.hr9) (rt0.ak9) (rt0.tw9))
    · rw [up1_ap, if_pos rfl]; rfl
    · rw [up1_ap, if_neg (by decide), up1_ap, if_neg (by decide)]; exact rt0.hands q hq
  refine S_weigh (d := d + 24) (w := ub (ub w4 144 25 (n : Int)) 144 26 (b : Int)) (T := TmO (w 146) n b) (by show RfT _ (w4 146) _ _ _ _ _; rw [e4']; exact rt) rfl (by show WS (w4 146); rw [e4']; exact h.ws) (w 146 2).toNat (w 146 3).toNat (by show w4 146 2 = _; rw [e4']; omega) (by show w4 146 3 = _; rw [e4']; omega) ?_
  intro w5 hK hway
  have hway : ∀ u v, u < (w 146 2).toNat → v < (w 146 3).toNat → WayR (TmO (w 146) n b) (w5 161) (w5 162) (w5 163) (w5 164) (8 * u + v) (wayO (TmO (w 146) n b) (w4 146) u v) := hway
  rw [e4'] at hway
  refine k w5 ⟨?_, ?_, ?_, RfD_of hb h.ws (fun u v hu hv => hway u v (by omega) (by omega))⟩
  · exact Fr.tr (Fr.ub (Fr.ub (Fr.tr (Fr.ub fr3 (by decide)) hF4 (by decide)) (by decide)) (by decide)) hK.1 (by decide)
  · rw [hK.1 113 (by decide)]
    show w4 113 2 = -1
    rw [hF4 113 (by decide)]; exact i113
  · intro i hi
    have hi2 := hi
    simp only [List.mem_cons, List.not_mem_nil, or_false] at hi2
    rw [hK.2 i (by omega) (by omega) (by omega)]
    show up1 (up1 (w4 144) 25 _) 26 _ i = _
    rw [up1_ap, if_neg (by omega), up1_ap, if_neg (by omega), h144 i (by omega) (by omega) (by omega)]
    show up1 (w3 144) 0 0 i = _
    rw [up1_ap, if_neg (by omega), i144]

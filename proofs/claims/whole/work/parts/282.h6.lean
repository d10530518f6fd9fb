def TmQ (s : Nat → Int) (a b : Nat) : Tm := ⟨(TmS s).n, (TmS s).back, (TmS s).P, fun p q => (TmS s).gv p q && !(decide (p = a ∧ q = b) || decide (p = b ∧ q = a)), (TmS s).pn, (TmS s).hr, (TmS s).ak, (TmS s).ha, (TmS s).tw⟩
theorem TmQ_gv {s : Nat → Int} {a b p q : Nat} : (TmQ s a b).gv p q = true ↔ (TmS s).gv p q = true ∧ ¬ (p = a ∧ q = b) ∧ ¬ (p = b ∧ q = a) := by
  show ((TmS s).gv p q && !(decide (p = a ∧ q = b) || decide (p = b ∧ q = a))) = true ↔ _
  rw [Bool.and_eq_true]
  by_cases x : p = a ∧ q = b <;> by_cases y : p = b ∧ q = a <;> simp [x, y]
theorem TmB_Q {s : Nat → Int} (hb0 : TmB (TmS s)) (a b : Nat) : TmB (TmQ s a b) := (TmB.mk (hb0.P8) (hb0.n2) (hb0.n6) (hb0.hr9) (hb0.pn9) (hb0.ak9) (fun p => by
  show ((TmS s).gv p p && _) = false
  rw [hb0.gvi p]; rfl))
theorem RfT_Q {o v gv pn hr ak s : Nat → Int} {a b : Nat} (ha : a < 8) (hb : b < 8) (h : RfT o v gv pn hr ak (TmS s)) : RfT o v (up1 (up1 gv (8 * a + b) 0) (8 * b + a) 0) pn hr ak (TmQ s a b) := by
  refine (RfT.mk (h.P) (h.P8) (h.n2) (h.n6) (h.back) (h.back3) (h.hands) (fun p q p8 q8 => ?_) (h.pn) (h.hr) (h.ak) (h.tw) (h.pn9) (h.hr9) (h.ak9) (h.tw9))
  have g := h.gv p q p8 q8
  rw [TmQ_gv, up1_ap, up1_ap, ← g]
  clear g
  by_cases x : p = b ∧ q = a
  · rw [if_pos (by omega)]; simp [x]
  · rw [if_neg (by omega)]
    by_cases y : p = a ∧ q = b
    · rw [if_pos (by omega)]; simp [y]
    · rw [if_neg (by omega)]; exact ⟨fun z => ⟨z, y, x⟩, fun z => z.1⟩
theorem CtT_Q {vo mt tm ak pn hr s : Nat → Int} {wt : Int} {a b : Nat} (ha : a < 8) (hb : b < 8) (h : CtT vo mt tm ak pn hr wt (TmS s)) : CtT vo mt tm ak (up1 (up1 pn (8 * a + b) (-1)) (8 * b + a) (-1)) hr wt (TmQ s a b) := by
  have P8 := h.P8
  refine (CtT.mk (h.P) (h.P8) (h.n) (h.n2) (h.n6) (h.back) (h.back3) (h.hands) (fun p q hp hq => ?_) (fun p q hp hq hg => ?_) (h.ak) (h.mates) (h.pn9) (h.hr9) (h.ak9) (h.wt0))
  · have hp : p < (TmS s).P := hp
    have hq : q < (TmS s).P := hq
    have g := h.gv p q hp hq
    rw [TmQ_gv, up1_ap, up1_ap, ← g]
    clear g
    by_cases x : p = b ∧ q = a
    · rw [if_pos (by omega)]; simp [x]
    · rw [if_neg (by omega)]
      by_cases y : p = a ∧ q = b
      · rw [if_pos (by omega)]; simp [y]
      · rw [if_neg (by omega)]; exact ⟨fun z => ⟨z, y, x⟩, fun z => z.1⟩
  · have hp : p < (TmS s).P := hp
    have hq : q < (TmS s).P := hq
    obtain ⟨g, y, x⟩ := TmQ_gv.mp hg
    have e := h.pn p q hp hq g
    rw [up1_ap, if_neg (by omega), up1_ap, if_neg (by omega)]
    exact e
theorem S_quarrelRef {d : Nat} {w w3 : Wd} (h : Inv w) (a b : Nat) (ab : a ≠ b) (ha : (a : Int) < w 146 0) (hb : (b : Int) < w 146 0) (fr3 : Fr ([113, 140] ++ scrR) w w3) (i113 : w3 113 2 = -1) (i144 : w3 144 = w 144) (i140 : ∀ i, i ∈ [1, 3, 5, 6] → w3 140 i = w 140 i) {top : Int} (ht : IsMax (w 146 3).toNat (adjP (woS (w 146)) (adjS (TmQ (w 146) a b) (w 146)) (coS (TmQ (w 146) a b) (w 146))) (cL (netD (woS (w 146)) (coS (TmQ (w 146) a b) (w 146)))) (w 146 2).toNat top) {fd : Nat → Nat} (v8 : ∀ v, v < 8 → top / (32 ^ (7 - v)) % 32 = fd v)
    {m : Int} (hm : ∀ k, k < 32 → tb m k = decide (k < (w 146 3).toNat ∧ ¬ fd k = 0)) (st : w3 140 7 = iand (w32 (ishl 1 ((w 146 3).toNat : Int) - 1)) (ixor m (-1))) (vn : Nat) (hM : IsMost (w 146 3).toNat (adjS (TmQ (w 146) a b) (w 146)) (w 146 2).toNat vn) : Cw (d + 30) 263 [mR 144, mI (a : Int), mI (b : Int)] w3 (Post w vn) := by
  have pe := h.ws.pe
  have un := h.ws.un
  have wa := h.ws.wa
  have e3 : w3 146 = w 146 := fr3 146 (by decide)
  have hbq : TmB (TmQ (w 146) a b) := TmB_Q (TmB_told h.ws) a b
  have a8 : a < 8 := by clear v8 hm st ht hM; omega
  have b8 : b < 8 := by clear v8 hm st ht hM; omega
  have W8 : (w 146 3).toNat ≤ 8 := by clear v8 hm st ht hM; omega
  have m0 : ¬ (a : Int) = b := by clear v8 hm st ht hM; omega
  have m1 : ¬ (a : Int) < 0 := by clear v8 hm st ht hM; omega
  have m2 : ¬ w 146 0 - 1 < (a : Int) := by clear v8 hm st ht hM; omega
  have m3 : ¬ (b : Int) < 0 := by clear v8 hm st ht hM; omega
  have m4 : ¬ w 146 0 - 1 < (b : Int) := by clear v8 hm st ht hM; omega
  have ew : w32 (w 146 0 - 1) = w 146 0 - 1 := w32_id (by clear v8 hm st ht hM; unfold in32; omega)
  have r1 : 0 ≤ ((8 * a + b : Nat) : Int) ∧ ((8 * a + b : Nat) : Int) < 64 := by clear v8 hm st ht hM; omega
  have r2 : 0 ≤ ((8 * b + a : Nat) : Int) ∧ ((8 * b + a : Nat) : Int) < 64 := by clear v8 hm st ht hM; omega
  have wu : w 146 2 = ((w 146 2).toNat : Int) := by clear v8 hm st ht hM; omega
  have ww : w 146 3 = ((w 146 3).toNat : Int) := by clear v8 hm st ht hM; omega
  have u16 : (w 146 2).toNat ≤ 16 := by clear v8 hm st ht hM; omega
  apply M_quarrel_144_en
  intro n1
  rw [e3, ew, ix8b (by omega) (by omega), ix8b (by omega) (by omega), Int.toNat_natCast, Int.toNat_natCast]
  refine ⟨fun z => absurd z m0, fun _ => ⟨fun z => absurd z m1, fun _ => ⟨fun z => absurd z m2, fun _ => ⟨fun z => absurd z m3, fun _ => ⟨fun z => absurd z m4, fun _ => ?_⟩⟩⟩⟩⟩
  refine S_refT (d := d + 28) (w := w) (w3 := ub w3 144 0 0) h.ws e3 ?_
  intro w4 hF4 i4 law rt
  refine ⟨r1, r2, ?_⟩
  have fr4 : Fr ([113, 140] ++ scrR) w w4 := Fr.tr (Fr.ub fr3 (by decide)) hF4 (by decide)
  refine S_refW (d := d + 24) (w := w) (w4 := ub (ub w4 151 (8 * a + b) 0) 151 (8 * b + a) 0) h.ws hbq (fr4 146 (by decide)) law (RfT_Q a8 b8 rt) ?_
  intro w5 hF5 i5 rf
  have fr5 : Fr ([113, 140] ++ scrR) w w5 := Fr.tr (Fr.ub (Fr.ub fr4 (by decide)) (by decide)) hF5 (by decide)
  have e5 : w5 146 = w 146 := fr5 146 (by decide)
  refine S_bestDay (d := d + 27) (w := w5) (by rw [e5]; exact rf) ?_
  intro g a' c b2 o g1 g2 g3 g4 g5 g6 g7
  obtain ⟨q1, q2, q3⟩ := day_same h.ws ht v8 g1 g2
  have fr6 : Fr ([113, 140] ++ scrR) w (ubf (ubf (ubf (ubf w5 166 a') 168 c) 144 o) 167 b2) := by
    refine Fr.ubf (Fr.ubf (Fr.ubf (Fr.ubf fr5 (by decide)) (by decide)) (by decide)) (by decide)
  refine L_star (d := d + 27) (w := ubf (ubf (ubf (ubf w5 166 a') 168 c) 144 o) 167 b2) (w 146 3).toNat W8 (by show w5 146 3 = _; rw [e5]; exact ww) (f := g) (fun v hv => g7 v hv) ?_
  intro o2 ho2 io2 bo2
  have fr7 : Fr ([113, 140] ++ scrR) w (ubf (ubf (ubf (ubf (ubf w5 166 a') 168 c) 144 o) 167 b2) 144 o2) := Fr.ubf fr6 (by decide)
  refine S_mostMet (d := d + 26) (w := ubf (ubf (ubf (ubf (ubf w5 166 a') 168 c) 144 o) 167 b2) 144 o2) (w 146 2).toNat (w 146 3).toNat u16 W8 (by show w5 146 2 = _; rw [e5]; exact wu) (by show w5 146 3 = _; rw [e5]; exact ww) (adjS (TmQ (w 146) a b) (w 146)) (fun u v hu hv => RfD.ha rf u v hu hv) ?_
  intro v' g' hm'
  have eM := hM.uniq hm'
  have fr8 : Fr ([113, 140] ++ scrR) w (ubf (ubf (ubf (ubf (ubf (ubf w5 166 a') 168 c) 144 o) 167 b2) 144 o2) 165 g') := Fr.ubf fr7 (by decide)
  have k113 : w5 113 = w3 113 := by
    rw [hF5 113 (by decide)]
    show w4 113 = _
    rw [hF4 113 (by decide)]
    rfl
  have k140 : w5 140 = w3 140 := by
    rw [hF5 140 (by decide)]
    show w4 140 = _
    rw [hF4 140 (by decide)]
    rfl
  refine ⟨_, rfl, Post.k (by rw [eM]) (Inv.g_star h fr8 (fun i hi => ?_) (fun i hi => ?_) (fun i hi => ?_) ?_) (fr8 401 (by decide)) (fr8 400 (by decide))⟩
  · show w5 113 i = _
    simp only [List.mem_cons, List.not_mem_nil, or_false] at hi
    rw [hi, k113, i113, h.wat.2]
  · show w5 140 i = _
    rw [k140]; exact i140 i hi
  · show o2 i = _
    have hi2 := hi
    simp only [List.mem_cons, List.not_mem_nil, or_false] at hi2
    have hi3 : i ∈ [2, 15, 41, 42, 62, 64, 66, 71, 72] := by
      simp only [List.mem_cons, List.not_mem_nil, or_false]
      clear v8 hm st ht hM bo2 g4 g5 g6
      omega
    have z1 : i ≠ 72 := by clear v8 hm st ht hM bo2 g4 g5 g6; omega
    have z2 : i ≠ 47 := by clear v8 hm st ht hM bo2 g4 g5 g6; omega
    have z3 : i ≠ 48 := by clear v8 hm st ht hM bo2 g4 g5 g6; omega
    have z4 : i ≠ 49 := by clear v8 hm st ht hM bo2 g4 g5 g6; omega
    have z5 : i ≠ 0 := by clear v8 hm st ht hM bo2 g4 g5 g6; omega
    rw [ho2 i z1]
    show o i = _
    rw [g3 i z2 z3 z4, i5 i hi3]
    show w4 144 i = _
    rw [i4 i hi3]
    show up1 (w3 144) 0 0 i = _
    rw [up1_ap, if_neg z5, i144]
  · show w5 140 7 = o2 72
    rw [k140, st]
    refine star_eq W8 (f := g) (fun k hk => ?_) io2 bo2
    rw [hm k hk, decide_eq_decide]
    refine ⟨fun q => ⟨q.1, ?_⟩, fun q => ⟨q.1, ?_⟩⟩
    · rw [q3 k (Nat.lt_of_lt_of_le q.1 W8)]; exact q.2
    · rw [← q3 k (Nat.lt_of_lt_of_le q.1 W8)]; exact q.2

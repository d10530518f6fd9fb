/-! the construction, run -/
def run0 : Option ST := (Cx 30 0 [mR 0] (sNw (0, []))).bind fun a => (Cx 30 172 [mR 144] (sNw a.2)).bind fun b => if b.2.1 = 185 ∧ a.2.1 = 144 then some (sNw b.2) else none
def zeroC (D : DL) (h : Nat) : Bool := D.all (fun e => !(e.1 == h) || e.2.isNone)
theorem zeroC_ok : ∀ {D : DL} {h : Nat}, zeroC D h = true → ∀ i, lk D h i = 0
  | [], _, _, _ => rfl
  | (h', o) :: t, h, q, i => by
    have q : (!(h' == h) || o.isNone) = true ∧ zeroC t h = true := by
      unfold zeroC at q
      rw [List.all_cons, Bool.and_eq_true] at q
      exact q
    by_cases e : h' = h
    · have q1 := q.1
      rw [e, beq_self_eq_true] at q1
      cases o with
      | none => unfold lk; exact (if_pos e).trans rfl
      | some p => exact absurd q1 (by simp)
    · unfold lk; exact (if_neg e).trans (zeroC_ok q.2 i)
def vals : List (Nat × Nat × Int) := [(0, 1, 0), (0, 2, 0), (0, 12, 1), (144, 2, 0), (144, 15, 0), (4, 0, 0), (4, 5, 0), (4, 8, 0), (4, 11, 0), (4, 15, 3), (4, 16, 1), (28, 0, 0), (36, 0, 0), (44, 0, 0), (68, 0, 0), (184, 0, 0), (184, 1, 0), (93, 2, -1), (113, 2, -1), (140, 1, 0), (144, 42, 0), (140, 3, 0), (144, 66, 0), (140, 5, 0), (144, 71, 0), (140, 6, -1), (144, 64, -1), (140, 7, -1), (144, 72, -1), (132, 0, 0), (144, 62, -1)]
def okS (S : ST) : Bool :=
  decide (S.1 = 186) && (zeroC S.2 1 && (zeroC S.2 145 && (vals.all (fun p => decide (lk S.2 p.1 p.2.1 = p.2.2)) && ((List.range 645).all (fun i => decide (lk S.2 146 i = if i = 4 then 3 else if i = 5 then 1 else 0)) && ((List.range 64).all (fun i => decide (lk S.2 14 i = -1)) && ((List.range 17).all (fun j => decide (lk S.2 3 j = nthA 0 tokK j) && decide (lk S.2 150 j = nthA 0 resK j)) && refL.all (fun q => decide (¬ lk S.2 q.1 q.2 = 0))))))))
set_option maxRecDepth 100000 in
theorem run0_ok : (match run0 with | some S => okS S | none => false) = true := by decide +kernel
theorem run0_some : ∃ S, run0 = some S ∧ okS S = true := by
  have h := run0_ok
  cases e : run0 with
  | none => rw [e] at h; cases h
  | some S => rw [e] at h; exact ⟨S, rfl, h⟩
theorem init_inv {W : Wd} {S : ST} (hS : okS S = true) (r : RelW S W) : Inv W ∧ W 401 0 = 186 ∧ ∀ q ∈ refL, ¬ W q.1 q.2 = 0 := by
  unfold okS at hS
  simp only [Bool.and_eq_true] at hS
  obtain ⟨c0, c1, c145, cv, c146, c14, ct, cr⟩ := hS
  have V : ∀ h i v, (h, i, v) ∈ vals → h ≠ 400 → h ≠ 401 → W h i = v := fun h i v hm a b => by
    rw [r.1 h a b]
    exact of_decide_eq_true (List.all_eq_true.mp cv (h, i, v) hm)
  have z1 : ∀ i, W 1 i = 0 := fun i => by rw [r.1 1 (by decide) (by decide)]; exact zeroC_ok c1 i
  have z145 : ∀ i, W 145 i = 0 := fun i => by rw [r.1 145 (by decide) (by decide)]; exact zeroC_ok c145 i
  have s146 : ∀ i, i < 645 → W 146 i = if i = 4 then 3 else if i = 5 then 1 else 0 := fun i hi => by
    rw [r.1 146 (by decide) (by decide)]
    exact of_decide_eq_true (List.all_eq_true.mp c146 i (List.mem_range.mpr hi))
  have p14 : ∀ i, i < 64 → W 14 i = -1 := fun i hi => by
    rw [r.1 14 (by decide) (by decide)]
    exact of_decide_eq_true (List.all_eq_true.mp c14 i (List.mem_range.mpr hi))
  have tt : ∀ j, j < 17 → W 3 j = nthA 0 tokK j ∧ W 150 j = nthA 0 resK j := fun j hj => by
    have := List.all_eq_true.mp ct j (List.mem_range.mpr hj)
    rw [Bool.and_eq_true] at this
    rw [r.1 3 (by decide) (by decide), r.1 150 (by decide) (by decide)]
    exact ⟨of_decide_eq_true this.1, of_decide_eq_true this.2⟩
  have e4 : W 146 4 = 3 := s146 4 (by decide)
  have e5 : W 146 5 = 1 := s146 5 (by decide)
  have z : ∀ i, i < 645 → i ≠ 4 → i ≠ 5 → W 146 i = 0 := fun i hi a b => by rw [s146 i hi, if_neg a, if_neg b]
  have ws : WS (W 146) := WS_zero e4 e5 (fun i hi => z i (by omega))
  have y0 := z 0 (by omega) (by omega) (by omega)
  have y1 := z 1 (by omega) (by omega) (by omega)
  have y2 := z 2 (by omega) (by omega) (by omega)
  have y3 := z 3 (by omega) (by omega) (by omega)
  have y333 := z 333 (by omega) (by omega) (by omega)
  have y484 := z 484 (by omega) (by omega) (by omega)
  have wp : WP (W 146) := WP.mk (by omega) (fun i hi => by omega) (fun i hi => by omega) (fun i hi => by omega) (fun i hi => by omega)
  have wb : WB (W 146) := WB.mk (by omega) (fun i hi => by omega) (fun i hi => by omega) (fun i hi => by omega) (fun i hi => by omega) (fun u => by rw [y484]; exact Nat.zero_le _)
  have v := fun h i v hm a b => V h i v hm a b
  have rv : RV (W 4) (W 5) (W 6) (W 7) (W 8) (W 9) (W 10) (W 11) (W 12) (W 13) (W 14) (W 15) (W 146) (W 149) := RV.mk (by rw [V 4 0 0 (by decide) (by decide) (by decide), y0]) (by rw [V 4 5 0 (by decide) (by decide) (by decide), y1]) (by rw [V 4 8 0 (by decide) (by decide) (by decide), y2]) (by rw [V 4 11 0 (by decide) (by decide) (by decide), y3]) (by rw [V 4 15 3 (by decide) (by decide) (by decide), e4]) (by rw [V 4 16 1 (by decide) (by decide) (by decide), e5]) (fun p hp => by omega) (fun p q hp => by omega) (fun p hp => by omega) (fun k hk => by omega) (fun u hu => by omega) (fun u hu => by omega) (fun u hu => by omega) (fun u hu => by omega) (fun u hu => by omega) (fun u hu => by omega) (fun i hi => by omega) (fun k hk ht => by rw [z (269 + k) (by omega) (by omega) (by omega)] at ht; omega) (fun k hk _ => p14 k hk) (fun p hp => by omega) (fun k hk => by omega)
  have i0 := V 44 0 0 (by decide) (by decide) (by decide)
  have i1 := V 68 0 0 (by decide) (by decide) (by decide)
  have j0 := V 184 0 0 (by decide) (by decide) (by decide)
  have j1 := V 184 1 0 (by decide) (by decide) (by decide)
  have d0 := V 132 0 0 (by decide) (by decide) (by decide)
  have m42 := V 144 42 0 (by decide) (by decide) (by decide)
  have m66 := V 144 66 0 (by decide) (by decide) (by decide)
  have m71 := V 144 71 0 (by decide) (by decide) (by decide)
  refine ⟨?_, by rw [r.2, of_decide_eq_true c0]; rfl, fun q hq => ?_⟩
  · refine Inv.mk (RT.mk (by rw [V 0 1 0 (by decide) (by decide) (by decide), V 144 2 0 (by decide) (by decide) (by decide)]) (by rw [V 144 2 0 (by decide) (by decide) (by decide)]; decide) (by rw [V 144 2 0 (by decide) (by decide) (by decide)]; decide) (fun i _ => by rw [z1, z145]; decide)) (by rw [V 0 2 0 (by decide) (by decide) (by decide), V 144 15 0 (by decide) (by decide) (by decide)]) ws wp wb rv ?_ ?_ ?_ ?_ ?_ ?_ ?_ ?_ ?_ ?_ ?_ ?_ ?_ ?_ ?_ ?_ ?_ ?_ (fun j hj => (tt j hj).1) (fun j hj => (tt j hj).2)
    · exact RP.mk (by rw [V 28 0 0 (by decide) (by decide) (by decide), y333]) (fun i hi => by omega) (fun i hi => by omega) (fun i hi => by omega)
    · exact RB.mk (by rw [V 36 0 0 (by decide) (by decide) (by decide), y484]) (fun i hi => by omega) (fun i hi => by omega) (fun i hi => by omega) (fun i hi => by omega)
    · exact IM.mk (by rw [i0, j0]) (Or.inl j0) (fun q => by omega) (fun q => by omega) (fun q => by omega) (fun q => by omega) (fun q => by omega) (fun q => by omega)
    · exact IM.mk (by rw [i1, j1]) (Or.inl j1) (fun q => by omega) (fun q => by omega) (fun q => by omega) (fun q => by omega) (fun q => by omega) (fun q => by omega)
    · exact Or.inr (V 0 12 1 (by decide) (by decide) (by decide))
    · intro q; rw [V 0 12 1 (by decide) (by decide) (by decide)] at q; omega
    · exact ⟨V 93 2 (-1) (by decide) (by decide) (by decide), V 113 2 (-1) (by decide) (by decide) (by decide)⟩
    · exact ⟨by rw [V 140 1 0 (by decide) (by decide) (by decide), m42], by omega, by omega⟩
    · intro k hk; omega
    · exact ⟨by rw [V 140 3 0 (by decide) (by decide) (by decide), m66], by omega, by omega⟩
    · intro k hk; omega
    · exact ⟨by rw [V 140 5 0 (by decide) (by decide) (by decide), m71], by omega, by omega⟩
    · intro k hk; omega
    · rw [V 140 6 (-1) (by decide) (by decide) (by decide), V 144 64 (-1) (by decide) (by decide) (by decide)]
    · rw [V 140 7 (-1) (by decide) (by decide) (by decide), V 144 72 (-1) (by decide) (by decide) (by decide)]
    · exact Or.inl ⟨d0, V 144 62 (-1) (by decide) (by decide) (by decide)⟩
    · intro q; omega
    · intro q; omega
  · have := List.all_eq_true.mp cr q hq
    have q4 : ∀ q ∈ refL, q.1 ≠ 400 ∧ q.1 ≠ 401 := by decide +kernel
    rw [r.1 q.1 (q4 q hq).1 (q4 q hq).2]
    exact of_decide_eq_true this
set_option maxRecDepth 8192 in
/-- the law from its entry -/
theorem lw_start {Q : MV → Wd → Prop} {W : Wd} {N : Nat} (hN : N ≤ 3072) (hQ : ∀ w, Q (mI 1) w) (hr : RelW (0, []) W) (h1 : W 401 1 = 0) (h2 : W 401 2 = N) : Wp (Cw 30) cd_law (2, 2, 186) Q 0 (mkLoc 7 [mR 400]) [] W := by
  obtain ⟨S, hS, ok⟩ := run0_some
  have h0 : W 401 0 = 0 := hr.2
  unfold run0 at hS
  obtain ⟨⟨ra, Sa⟩, ha, hS⟩ := bO hS
  obtain ⟨⟨rb, Sb⟩, hb, hS⟩ := bO hS
  obtain ⟨⟨cb, ca⟩, hS⟩ := iO hS
  injection hS with hS
  have ha : Cx 30 0 [mR 0] (sNw (0, [])) = some (ra, Sa) := ha
  have hb : Cx 30 172 [mR 144] (sNw Sa) = some (rb, Sb) := hb
  have cb : Sb.1 = 185 := cb
  have ca : Sa.1 = 144 := ca
  have hS : sNw Sb = S := hS
  refine Wp.s ⟨by rw [h0]; rfl, by decide, ⟨by decide, by rw [h0]; decide⟩, ?_⟩
  rw [h0]
  refine Wp.s (Wp.s ⟨⟨by decide, ?_⟩, ?_⟩)
  · rw [mkNew_cc, h0]; decide
  refine Cx_ok 30 0 [mR 0] (sNw (0, [])) ra Sa ha (mkNew W) _ hr.nw (fun W1 r1 k1 => ?_)
  have kW : KF W (mkNew W) := KF.nw (by rw [h0]; decide)
  have K1 := kW.t k1
  have c1 : W1 401 0 = 144 := by rw [r1.2, ca]; rfl
  refine Wp.s (Wp.s ⟨by rw [c1]; rfl, by decide, ⟨by decide, by rw [c1]; decide⟩, ?_⟩)
  rw [c1]
  refine Wp.s (Wp.s ⟨⟨by decide, ?_⟩, ?_⟩)
  · rw [mkNew_cc, c1]; decide
  refine Cx_ok 30 172 [mR 144] (sNw Sa) rb Sb hb (mkNew W1) _ r1.nw (fun W2 r2 k2 => ?_)
  have K2 := (K1.t (KF.nw (by rw [c1]; decide))).t k2
  have c2 : W2 401 0 = 185 := by rw [r2.2, cb]; rfl
  have r3 := r2.nw
  rw [hS] at r3
  have I := init_inv ok r3
  have e185 : ∀ h, h ≠ 401 → h ≠ 185 → mkNew W2 h = W2 h := fun h a b => by rw [mkNew_ap W2 h a, c2]; exact if_neg b
  refine Wp.s (Wp.s (Wp.s ⟨by rw [c2]; rfl, by rw [c2]; rfl, ⟨by decide, by rw [c2]; decide⟩, fun _ q hq => ?_, ?_⟩))
  · have q4 : ∀ q ∈ refL, q.1 ≠ 401 ∧ q.1 ≠ 185 := by decide +kernel
    rw [← e185 q.1 (q4 q hq).1 (q4 q hq).2]
    exact I.2.2 q hq
  rw [c2]
  have K3 := K2.t (KF.nw (by rw [c2]; decide))
  refine Wp.s (Wp.s (Wp.s ?_))
  exact lw_loop (d := 0) hN hQ 520 0 (mkNew W2) (by omega) I.1 I.2.1 (by rw [K3.2 2 (by decide)]; exact h2) (by rw [K3.2 1 (by decide), h1]; decide)

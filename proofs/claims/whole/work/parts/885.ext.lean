
/-! the class's methods that throw, in the small machine -/
def exQ (ok : Prop) (val : Int) (w : Wd) : MV → Wd → Prop := fun r w' => r = mI val ∧ ok ∧ w' = w
def cdE0 : List Ent := [(0, .aload_n 0, 1, [0], 0), (1, .getfield 25, 3, [11, 4, 3096], 0), (4, .iload_n 1, 1, [1], 0), (5, .invokevirtual 136, 3, [0, 53, 1, 9, 4071, 4072, 4073, 1007], 0), (8, .ifCond .eq 12, 3, [10], 0), (11, .iload_n 2, 1, [2], 0), (12, .ifCond .lt 8, 3, [10], 0), (15, .iload_n 2, 1, [2], 0), (16, .iconst 5, 1, [], 5), (17, .if_icmp .lt 11, 3, [14], 0), (20, .nop, 3, [], 0), (23, .nop, 1, [], 0), (24, .nop, 3, [], 0), (27, .nop, 1, [], 0), (28, .aload_n 0, 1, [0], 0), (29, .getfield 25, 3, [11, 4, 3096], 0), (32, .getfield 143, 3, [9, 9, 1156], 0), (35, .iload_n 1, 1, [1], 0), (36, .iconst 5, 1, [], 5), (37, .imul, 1, [], 0), (38, .iload_n 2, 1, [2], 0), (39, .iadd, 1, [], 0), (40, .iaload, 1, [], 0), (41, .ireturn, 1, [], 0)]
def spE0 : List Nat := [10, 11, 12, 13]
def cdE1 : List Ent := [(0, .aload_n 0, 1, [0], 0), (1, .getfield 25, 3, [11, 4, 3096], 0), (4, .iload_n 1, 1, [1], 0), (5, .invokevirtual 146, 3, [0, 54, 1, 9, 4075, 4076, 4077, 1007], 0), (8, .ifCond .eq 12, 3, [10], 0), (11, .iload_n 2, 1, [2], 0), (12, .ifCond .lt 8, 3, [10], 0), (15, .iload_n 2, 1, [2], 0), (16, .iconst 4, 1, [], 4), (17, .if_icmp .lt 11, 3, [14], 0), (20, .nop, 3, [], 0), (23, .nop, 1, [], 0), (24, .nop, 3, [], 0), (27, .nop, 1, [], 0), (28, .aload_n 0, 1, [0], 0), (29, .getfield 25, 3, [11, 4, 3096], 0), (32, .getfield 149, 3, [9, 12, 1167], 0), (35, .iload_n 1, 1, [1], 0), (36, .iconst 4, 1, [], 4), (37, .imul, 1, [], 0), (38, .iload_n 2, 1, [2], 0), (39, .iadd, 1, [], 0), (40, .iaload, 1, [], 0), (41, .ireturn, 1, [], 0)]
def spE1 : List Nat := [10, 11, 12, 13]
def cdE2 : List Ent := [(0, .iload_n 1, 1, [1], 0), (1, .ifCond .lt 23, 3, [12], 0), (4, .iload_n 1, 1, [1], 0), (5, .aload_n 0, 1, [0], 0), (6, .getfield 35, 3, [11, 6, 3098], 0), (9, .getfield 130, 3, [4, 0, 1234], 0), (12, .if_icmp .ge 12, 3, [12], 0), (15, .iload_n 2, 1, [2], 0), (16, .ifCond .lt 8, 3, [12], 0), (19, .iload_n 2, 1, [2], 0), (20, .iconst 2, 1, [], 2), (21, .if_icmp .le 11, 3, [16], 0), (24, .nop, 3, [], 0), (27, .nop, 1, [], 0), (28, .nop, 3, [], 0), (31, .nop, 1, [], 0), (32, .iload_n 2, 1, [2], 0), (33, .ifCond .ne 13, 3, [24], 0), (36, .aload_n 0, 1, [0], 0), (37, .getfield 35, 3, [11, 6, 3098], 0), (40, .getfield 240, 3, [4, 1, 1237], 0), (43, .iload_n 1, 1, [1], 0), (44, .iaload, 1, [], 0), (45, .ireturn, 1, [], 0), (46, .iload_n 2, 1, [2], 0), (47, .iconst 1, 1, [], 1), (48, .if_icmp .ne 15, 3, [33], 0), (51, .aload_n 0, 1, [0], 0), (52, .getfield 35, 3, [11, 6, 3098], 0), (55, .getfield 243, 3, [4, 2, 2000], 0), (58, .iload_n 1, 1, [1], 0), (59, .iaload, 1, [], 0), (60, .goto 12, 3, [38], 0), (63, .aload_n 0, 1, [0], 0), (64, .getfield 35, 3, [11, 6, 3098], 0), (67, .getfield 244, 3, [4, 3, 2003], 0), (70, .iload_n 1, 1, [1], 0), (71, .iaload, 1, [], 0), (72, .ireturn, 1, [], 0)]
def spE2 : List Nat := [12, 13, 14, 15]
def cdE3 : List Ent := [(0, .iload_n 1, 1, [1], 0), (1, .ifCond .lt 14, 3, [7], 0), (4, .iload_n 1, 1, [1], 0), (5, .aload_n 0, 1, [0], 0), (6, .getfield 99, 3, [11, 15, 3107], 0), (9, .getfield 349, 3, [8, 5, 3070], 0), (12, .if_icmp .lt 11, 3, [11], 0), (15, .nop, 3, [], 0), (18, .nop, 1, [], 0), (19, .nop, 3, [], 0), (22, .nop, 1, [], 0), (23, .aload_n 0, 1, [0], 0), (24, .getfield 99, 3, [11, 15, 3107], 0), (27, .getfield 352, 3, [8, 4, 3068], 0), (30, .iload_n 1, 1, [1], 0), (31, .iaload, 1, [], 0), (32, .ireturn, 1, [], 0)]
def spE3 : List Nat := [7, 8, 9, 10]
set_option maxRecDepth 8192 in
theorem ex_unit {P : Pt4} {w : Wd} {u what : Int} (hc : 0 ≤ w 4 8 ∧ w 4 8 ≤ 16)
    (hstep : ∀ i, ¬ i ∈ spE0 → ∀ l s w', F (Cw 10) cdE0 (1, 0, 186) (exQ (((0 ≤ u ∧ u < w 4 8) ∧ 0 ≤ what) ∧ what < 5) (w 11 (u * 5 + what).toNat) w) P i l s w' → P i l s w')
    (hthrow : ¬ (((0 ≤ u ∧ u < w 4 8) ∧ 0 ≤ what) ∧ what < 5) → ∀ l, P 10 l [] w) : P 0 [mR 0, mI u, mI what] [] w := by
  refine (hstep 0 (by decide) _ _ _ (hstep 1 (by decide) _ _ _ (hstep 2 (by decide) _ _ _ (hstep 3 (by decide) _ _ _ ?_))))
  refine Village_hasUnit_4_en (d := 9) ⟨fun q1 => ?_, fun q1 => ⟨fun q2 => ?_, fun q2 => ?_⟩⟩
  · refine hstep 4 (by decide) _ _ _ ⟨fun _ => hthrow (fun z => absurd z.1.1.1 (by omega)) _, fun q => absurd (show (0 : Int) = 0 from rfl) q⟩
  · refine hstep 4 (by decide) _ _ _ ⟨fun _ => hthrow (fun z => absurd z.1.1.2 (by omega)) _, fun q => absurd (show (0 : Int) = 0 from rfl) q⟩
  · refine hstep 4 (by decide) _ _ _ ⟨fun q => absurd (show (1 : Int) = 0 from q) (by decide), fun _ => ?_⟩
    refine hstep 5 (by decide) _ _ _ ?_
    refine hstep 6 (by decide) _ _ _ ⟨fun q => hthrow (fun z => absurd z.1.2 (Int.not_le.mpr (show what < 0 from q))) _, fun q3 => ?_⟩
    have q3 : ¬ what < 0 := q3
    refine hstep 7 (by decide) _ _ _ (hstep 8 (by decide) _ _ _ ?_)
    refine hstep 9 (by decide) _ _ _ ⟨fun q4 => ?_, fun q => hthrow (fun z => q (show what < 5 from z.2)) _⟩
    have q4 : what < 5 := q4
    have e1 : w32 (u * 5) = u * 5 := w32_id (by unfold in32; omega)
    have e2 : w32 (u * 5 + what) = u * 5 + what := w32_id (by unfold in32; omega)
    have i0 : 0 ≤ w32 (w32 (u * 5) + what) := by rw [e1, e2]; omega
    have i1 : w32 (w32 (u * 5) + what) < alen w 11 := by rw [e1, e2, show alen w 11 = 80 from rfl]; omega
    refine (hstep 14 (by decide) _ _ _ (hstep 15 (by decide) _ _ _ (hstep 16 (by decide) _ _ _ (hstep 17 (by decide) _ _ _ (hstep 18 (by decide) _ _ _ (hstep 19 (by decide) _ _ _ (hstep 20 (by decide) _ _ _ (hstep 21 (by decide) _ _ _ ?_))))))))
    refine hstep 22 (by decide) _ _ _ ⟨⟨i0, i1⟩, ?_⟩
    refine hstep 23 (by decide) _ _ _ ?_
    refine ⟨?_, ⟨⟨⟨by omega, by omega⟩, by omega⟩, q4⟩, rfl⟩
    show mI (w 11 (w32 (w32 (u * 5) + what)).toNat) = _
    rw [e1, e2]
set_option maxRecDepth 8192 in
theorem ex_want {P : Pt4} {w : Wd} {u what : Int} (hc : 0 ≤ w 4 11 ∧ w 4 11 ≤ 8)
    (hstep : ∀ i, ¬ i ∈ spE1 → ∀ l s w', F (Cw 10) cdE1 (1, 0, 186) (exQ (((0 ≤ u ∧ u < w 4 11) ∧ 0 ≤ what) ∧ what < 4) (w 13 (u * 4 + what).toNat) w) P i l s w' → P i l s w')
    (hthrow : ¬ (((0 ≤ u ∧ u < w 4 11) ∧ 0 ≤ what) ∧ what < 4) → ∀ l, P 10 l [] w) : P 0 [mR 0, mI u, mI what] [] w := by
  refine (hstep 0 (by decide) _ _ _ (hstep 1 (by decide) _ _ _ (hstep 2 (by decide) _ _ _ (hstep 3 (by decide) _ _ _ ?_))))
  refine Village_hasWant_4_en (d := 9) ⟨fun q1 => ?_, fun q1 => ⟨fun q2 => ?_, fun q2 => ?_⟩⟩
  · refine hstep 4 (by decide) _ _ _ ⟨fun _ => hthrow (fun z => absurd z.1.1.1 (by omega)) _, fun q => absurd (show (0 : Int) = 0 from rfl) q⟩
  · refine hstep 4 (by decide) _ _ _ ⟨fun _ => hthrow (fun z => absurd z.1.1.2 (by omega)) _, fun q => absurd (show (0 : Int) = 0 from rfl) q⟩
  · refine hstep 4 (by decide) _ _ _ ⟨fun q => absurd (show (1 : Int) = 0 from q) (by decide), fun _ => ?_⟩
    refine hstep 5 (by decide) _ _ _ ?_
    refine hstep 6 (by decide) _ _ _ ⟨fun q => hthrow (fun z => absurd z.1.2 (Int.not_le.mpr (show what < 0 from q))) _, fun q3 => ?_⟩
    have q3 : ¬ what < 0 := q3
    refine hstep 7 (by decide) _ _ _ (hstep 8 (by decide) _ _ _ ?_)
    refine hstep 9 (by decide) _ _ _ ⟨fun q4 => ?_, fun q => hthrow (fun z => q (show what < 4 from z.2)) _⟩
    have q4 : what < 4 := q4
    have e1 : w32 (u * 4) = u * 4 := w32_id (by unfold in32; omega)
    have e2 : w32 (u * 4 + what) = u * 4 + what := w32_id (by unfold in32; omega)
    have i0 : 0 ≤ w32 (w32 (u * 4) + what) := by rw [e1, e2]; omega
    have i1 : w32 (w32 (u * 4) + what) < alen w 13 := by rw [e1, e2, show alen w 13 = 32 from rfl]; omega
    refine (hstep 14 (by decide) _ _ _ (hstep 15 (by decide) _ _ _ (hstep 16 (by decide) _ _ _ (hstep 17 (by decide) _ _ _ (hstep 18 (by decide) _ _ _ (hstep 19 (by decide) _ _ _ (hstep 20 (by decide) _ _ _ (hstep 21 (by decide) _ _ _ ?_))))))))
    refine hstep 22 (by decide) _ _ _ ⟨⟨i0, i1⟩, ?_⟩
    refine hstep 23 (by decide) _ _ _ ?_
    refine ⟨?_, ⟨⟨⟨by omega, by omega⟩, by omega⟩, q4⟩, rfl⟩
    show mI (w 13 (w32 (w32 (u * 4) + what)).toNat) = _
    rw [e1, e2]
set_option maxRecDepth 8192 in
theorem ex_act {P : Pt4} {w : Wd} {i what : Int} (hc : 0 ≤ w 28 0 ∧ w 28 0 ≤ 50)
    (hstep : ∀ i', ¬ i' ∈ spE2 → ∀ l s w', F (Cw 10) cdE2 (1, 0, 186) (exQ (((0 ≤ i ∧ i < w 28 0) ∧ 0 ≤ what) ∧ what < 3) (if what = 0 then w 29 i.toNat else if what = 1 then w 30 i.toNat else w 31 i.toNat) w) P i' l s w' → P i' l s w')
    (hthrow : ¬ (((0 ≤ i ∧ i < w 28 0) ∧ 0 ≤ what) ∧ what < 3) → ∀ l, P 12 l [] w) : P 0 [mR 0, mI i, mI what] [] w := by
  refine hstep 0 (by decide) _ _ _ ?_
  refine hstep 1 (by decide) _ _ _ ⟨fun q => hthrow (fun z => absurd z.1.1.1 (Int.not_le.mpr (show i < 0 from q))) _, fun q1 => ?_⟩
  have q1 : ¬ i < 0 := q1
  refine (hstep 2 (by decide) _ _ _ (hstep 3 (by decide) _ _ _ (hstep 4 (by decide) _ _ _ (hstep 5 (by decide) _ _ _ ?_))))
  refine hstep 6 (by decide) _ _ _ ⟨fun q => hthrow (fun z => absurd z.1.1.2 (Int.not_lt.mpr (show w 28 0 ≤ i from q))) _, fun q2 => ?_⟩
  have q2 : ¬ w 28 0 ≤ i := q2
  refine hstep 7 (by decide) _ _ _ ?_
  refine hstep 8 (by decide) _ _ _ ⟨fun q => hthrow (fun z => absurd z.1.2 (Int.not_le.mpr (show what < 0 from q))) _, fun q3 => ?_⟩
  have q3 : ¬ what < 0 := q3
  refine hstep 9 (by decide) _ _ _ (hstep 10 (by decide) _ _ _ ?_)
  refine hstep 11 (by decide) _ _ _ ⟨fun q4 => ?_, fun q => hthrow (fun z => q (show what ≤ 2 by have := z.2; omega)) _⟩
  have q4 : what ≤ 2 := q4
  have hok : ((0 ≤ i ∧ i < w 28 0) ∧ 0 ≤ what) ∧ what < 3 := ⟨⟨⟨by omega, by omega⟩, by omega⟩, by omega⟩
  have i0 : 0 ≤ i := by omega
  have i1 : i < alen w 29 := by rw [show alen w 29 = 50 from rfl]; omega
  have i2 : i < alen w 30 := by rw [show alen w 30 = 50 from rfl]; omega
  have i3 : i < alen w 31 := by rw [show alen w 31 = 50 from rfl]; omega
  refine hstep 16 (by decide) _ _ _ ?_
  refine hstep 17 (by decide) _ _ _ ⟨fun q => ?_, fun q => ?_⟩
  · have q : ¬ what = 0 := q
    refine hstep 24 (by decide) _ _ _ (hstep 25 (by decide) _ _ _ ?_)
    refine hstep 26 (by decide) _ _ _ ⟨fun r => ?_, fun r => ?_⟩
    · have r : ¬ what = 1 := r
      refine (hstep 33 (by decide) _ _ _ (hstep 34 (by decide) _ _ _ (hstep 35 (by decide) _ _ _ (hstep 36 (by decide) _ _ _ ?_))))
      refine hstep 37 (by decide) _ _ _ ⟨⟨i0, i3⟩, ?_⟩
      refine hstep 38 (by decide) _ _ _ ?_
      exact ⟨by rw [if_neg q, if_neg r]; rfl, hok, rfl⟩
    · have r : what = 1 := Classical.byContradiction (show ¬ ¬ what = 1 from r)
      refine (hstep 27 (by decide) _ _ _ (hstep 28 (by decide) _ _ _ (hstep 29 (by decide) _ _ _ (hstep 30 (by decide) _ _ _ ?_))))
      refine hstep 31 (by decide) _ _ _ ⟨⟨i0, i2⟩, ?_⟩
      refine hstep 32 (by decide) _ _ _ (hstep 38 (by decide) _ _ _ ?_)
      exact ⟨by rw [if_neg q, if_pos r]; rfl, hok, rfl⟩
  · have q : what = 0 := Classical.byContradiction (show ¬ ¬ what = 0 from q)
    refine (hstep 18 (by decide) _ _ _ (hstep 19 (by decide) _ _ _ (hstep 20 (by decide) _ _ _ (hstep 21 (by decide) _ _ _ ?_))))
    refine hstep 22 (by decide) _ _ _ ⟨⟨i0, i1⟩, ?_⟩
    refine hstep 23 (by decide) _ _ _ ?_
    exact ⟨by rw [if_pos q]; rfl, hok, rfl⟩
set_option maxRecDepth 8192 in
theorem ex_gain {P : Pt4} {w : Wd} {i : Int} (hc : 0 ≤ w 140 5 ∧ w 140 5 ≤ 8)
    (hstep : ∀ i', ¬ i' ∈ spE3 → ∀ l s w', F (Cw 10) cdE3 (1, 0, 186) (exQ (0 ≤ i ∧ i < w 140 5) (w 143 i.toNat) w) P i' l s w' → P i' l s w')
    (hthrow : ¬ (0 ≤ i ∧ i < w 140 5) → ∀ l, P 7 l [] w) : P 0 [mR 0, mI i] [] w := by
  refine hstep 0 (by decide) _ _ _ ?_
  refine hstep 1 (by decide) _ _ _ ⟨fun q => hthrow (fun z => absurd z.1 (Int.not_le.mpr (show i < 0 from q))) _, fun q1 => ?_⟩
  have q1 : ¬ i < 0 := q1
  refine (hstep 2 (by decide) _ _ _ (hstep 3 (by decide) _ _ _ (hstep 4 (by decide) _ _ _ (hstep 5 (by decide) _ _ _ ?_))))
  refine hstep 6 (by decide) _ _ _ ⟨fun q2 => ?_, fun q => hthrow (fun z => q (show i < w 140 5 from z.2)) _⟩
  have q2 : i < w 140 5 := q2
  have i0 : 0 ≤ i := by omega
  have i1 : i < alen w 143 := by rw [show alen w 143 = 8 from rfl]; omega
  refine (hstep 11 (by decide) _ _ _ (hstep 12 (by decide) _ _ _ (hstep 13 (by decide) _ _ _ (hstep 14 (by decide) _ _ _ ?_))))
  refine hstep 15 (by decide) _ _ _ ⟨⟨i0, i1⟩, ?_⟩
  refine hstep 16 (by decide) _ _ _ ?_
  exact ⟨rfl, ⟨i0, q2⟩, rfl⟩
/-! their contracts -/
def exN : String := "java/util/NoSuchElementException"
def exL : List String := ["java/lang/RuntimeException", "java/lang/Exception"]
def exR : Room := { frames := 50, cells := 1, slots := 6, locals := 5000 }
def exQc (D : va_G) (κ : Nat → ClassId) (ρ : Nat → Nat) (w : Wd) (sz : Nat) (ok : Prop) (val : Int) : Array Value → State → Outcome → State → Prop := fun _ st o t =>
  o = .returned (some (.int (Int32.ofInt val))) ∧ ok ∧ va_P D vwCl (wsO κ ρ w 186) t.heap ∧ va_F (AAf ρ 186 sz) st t
def exXC (D : va_G) (κ : Nat → ClassId) (ρ : Nat → Nat) (w : Wd) (sz : Nat) (ok : Prop) : String → State → State → Prop := fun E st t =>
  E = exN ∧ ¬ ok ∧ va_P D vwCl (wsO κ ρ w 186) t.heap ∧ va_F (AAf ρ 186 sz) st t
def exAts : List Jvm.Cond := Jvm.Cond.classLink "ThirdHands" 140 exN :: Jvm.Cond.initialized exN :: vx_at0 "ThirdHands" 142 exN exL
def exPl : List Nat := [6125, 1024, 1021, 6147, 6156, 6158, 6161, 6163, 6148, 6149, 1032, 1033, 6150, 6155, 6159, 6175, 6137, 6176, 6139, 6177, 6141, 6151, 6153, 6143, 6165, 6166, 6167, 6168, 6128, 6168, 6169, 6170, 6171, 6130, 6171, 6172, 6173, 6148, 6132, 6164, 6126, 6127, 6134, 6135, 6136, 6138, 6140, 6142, 6146, 6145, 6144]
def exBd : List Jvm.Cond := [Jvm.Cond.castable exN exN, Jvm.Cond.declares ⟨"java/lang/RuntimeException", "<init>", "()V"⟩, Jvm.Cond.declares ⟨"java/lang/Exception", "<init>", "()V"⟩, Jvm.Cond.declares ⟨"java/lang/Throwable", "<init>", "()V"⟩]
def exZ (b : Nat) (U : State) : Prop := vx_Zq Bundle.tN "UNASSIGNED_STACK" Bundle.steD (fun q => b ≤ q) U U.heap ∧ vx_Zq Bundle.tN "SUPPRESSED_SENTINEL" Bundle.listD (fun q => b ≤ q) U U.heap ∧ ∀ w ∈ exBd, va_Nw w U
theorem exZ_ok {b : Nat} : EvOK (exZ b) b := fun s U h hq hW =>
  ⟨vx_Zq.moved hW.alike (h.1.kept (fun a _ hn => hq a (by omega))), vx_Zq.moved hW.alike (h.2.1.kept (fun a _ hn => hq a (by omega))), fun w hw => by
    have h1 := h.2.2 w hw
    rcases List.mem_cons.mp hw with rfl | hw
    · exact va_Nw.warmC hW h1
    rcases List.mem_cons.mp hw with rfl | hw
    · exact va_Nw.warmD hW h1
    rcases List.mem_cons.mp hw with rfl | hw
    · exact va_Nw.warmD hW h1
    rcases List.mem_cons.mp hw with rfl | hw
    · exact va_Nw.warmD hW h1
    · cases hw⟩
set_option maxRecDepth 100000 in
theorem exAts_good : exAts.all (fun w => goodWord w || (exBd.contains w && w.onTables)) = true := by decide +kernel
set_option maxRecDepth 100000 in
theorem exAts_in : exAts.map some = exPl.map (fun q => (segW (q / 1000))[q % 1000]?) := by decide +kernel
theorem exAts_ws : ∀ w ∈ exAts, goodWord w = true → w ∈ wsB := by
  intro w hw hg
  obtain ⟨j, hj⟩ := List.getElem?_of_mem hw
  have h1 : (exAts.map some)[j]? = some (some w) := by rw [List.getElem?_map, hj]; rfl
  rw [exAts_in, List.getElem?_map] at h1
  cases e : exPl[j]? with
  | none => rw [e] at h1; cases h1
  | some q =>
    rw [e] at h1
    have h2 : (segW (q / 1000))[q % 1000]? = some w := Option.some.inj h1
    exact List.mem_filter.mpr ⟨seg_in _ _ (List.mem_of_getElem? h2), hg⟩
theorem exAts_b {b : Nat} {s : State} {args : Array Value} (hts : ∀ w ∈ wsB, w.before args s = true) (hZ : exZ b s) : ∀ w ∈ exAts, w.before args s = true := by
  intro w hw
  have h1 := List.all_eq_true.mp exAts_good w hw
  rw [Bool.or_eq_true] at h1
  rcases h1 with h1 | h1
  · exact hts w (exAts_ws w hw h1)
  · rw [Bool.and_eq_true] at h1
    exact va_Nw.use h1.2 (hZ.2.2 w (List.contains_iff_mem.mp h1.1))
theorem exAts_ot : ∀ w ∈ exAts, vx_ot w = true := fun w hw => by
  have h1 := List.all_eq_true.mp exAts_good w hw
  unfold vx_ot
  cases hg : goodWord w with
  | true => exact Bool.or_true _
  | false =>
    rw [hg, Bool.false_or, Bool.and_eq_true] at h1
    rw [h1.2]; rfl
set_option maxRecDepth 100000 in
set_option maxHeartbeats 4000000 in
theorem ex_cls {l : Launch} (hlt : l.stackTraces = false) {EV : State → Prop} {b : Nat} (hEV : EvOK EV b) (hX : ∀ U, EV U → exZ b U) {D : va_G} {κ : Nat → ClassId} (htok : TokMet l EV b D κ)
    {y : MethodName} {cc : ByteArray} {mx : Nat} {cd : List Ent} {sp : List Nat} {iT : Nat} (hy : plainName y.cls = true) (hcls : y.cls = "ThirdHands") (hni : ¬ y.name = "<init>")
    (hck : ∀ i, i < cd.length → ¬ i ∈ sp → chkE "ThirdHands" y.name cc mx cd (nthA nE cd i) (pcOf cd (i + 1)) = true) (h0 : pcOf cd 0 = 0)
    (d0 : decode cc (pcOf cd iT) = .ok (.new 140, 3)) (d3 : decode cc (pcOf cd iT + 3) = .ok (.dup, 1)) (d4 : decode cc (pcOf cd iT + 4) = .ok (.invokespecial 142, 3)) (d7 : decode cc (pcOf cd iT + 7) = .ok (.athrow, 1))
    {av : List MV} {ρ0 : Nat → Nat} {w : Wd} {sz : Nat} {ok : Prop} {val : Int} (hlen : (fArgs av).length ≤ mx) (hav : ∀ v ∈ av, okV 186 v) (hok : okW 186 w) (hc0 : w 401 0 = 186) (hall : allSet w)
    (run : ∀ P : Pt4, (∀ i, ¬ i ∈ sp → ∀ l s w', F (Cw 10) cd (1, 0, 186) (exQ ok val w) P i l s w' → P i l s w') → (¬ ok → ∀ l, P iT l [] w) → P 0 (mkLoc mx av) [] w) :
    vx_Met l y (tkW y cc mx (some .int)) exR (va_Pc (av.map (toV ρ0)) (PreU EV b D κ ρ0 186 w sz)) (exQc D κ ρ0 w sz ok val) (exXC D κ ρ0 w sz ok) 1 6 (AAf ρ0 186 sz) := by
  refine vx_ofW (cc := cc) (maxL := mx) (ret := some .int) hy rfl ?_
  intro p e s m args below meth c s₁ B hml hnx hv
  obtain ⟨rfl, ⟨hEs, hbsz, hbρ⟩, hsz, hP, hK, hD0, hnest, hAO⟩ := hv
  subst hsz
  have hx := B.exec
  have hts0 := atoms_spec (ws := tkW y cc mx (some .int)) B.pre
  have hts : ∀ w ∈ wsB, w.before ((av.map (toV ρ0)).toArray) s = true := fun w hw => hts0 w (List.mem_cons_of_mem _ hw)
  have hown : s.vm.findClass "ThirdHands" = some m.cls := by rw [← hcls]; exact findClass_of_methodNamed B.named
  have hFr : FrJ p s m ((av.map (toV ρ0)).toArray) meth c cc "ThirdHands" y.name mx := ⟨hx, B.bytes, hml, hown, hts, fun q => absurd q hni, hnest, hAO⟩
  have hD : va_D (AAf ρ0 186 s.heap.size) (wsO κ ρ0 w 186) := ⟨hD0.1, fun k q hq => by
    have hk : k < 186 := by
      have := (List.getElem?_eq_some_iff.mp hq).1
      simpa [wsO] using this
    rw [wsO_at hk] at hq
    cases hq
    exact Or.inl ⟨k, hk, rfl⟩⟩
  have hAb : ∀ q, AAf ρ0 186 s.heap.size q → b ≤ q := fun q h => by
    rcases h with ⟨g, hg, rfl⟩ | h
    · exact hbρ g hg
    · exact Nat.le_trans hbsz h
  have hnle : ∀ ρ n w', Ex (1, 0, 186) 186 w ρ0 ρ n w' → n = 186 ∧ (∀ h, h < 186 → ρ h = ρ0 h) ∧ w' 401 1 = w 401 1 := by
    intro ρ n w' hE
    obtain ⟨e1, e2, e3, e4, e5, e6, e7, e8, e9, e10⟩ := hE
    exact ⟨(e8 rfl).1, e2, e7 (by decide)⟩
  have hc00 : ∀ ρ n w', Ex (1, 0, 186) 186 w ρ0 ρ n w' → cN 186 w n w' = 0 ∧ sN 186 w n w' = 0 := by
    intro ρ n w' hE
    obtain ⟨q1, q2, q3⟩ := hnle ρ n w' hE
    subst q1
    refine ⟨?_, ?_⟩
    · unfold cN; rw [q3]; omega
    · unfold sN; rw [q3]; omega
  have hws : ∀ ρ w', (∀ h, h < 186 → ρ h = ρ0 h) → okW 186 w' → wsO κ ρ w' 186 = wsO κ ρ0 w' 186 := fun ρ w' h1 h2 => wsO_agree h1 h2
  have hstep : ∀ i, ¬ i ∈ sp → ∀ l9 s9 w', F (Cw 10) cd (1, 0, 186) (exQ ok val w) (PP p l e (headSpec (tkW y cc mx (some .int)) exR).room s m ((av.map (toV ρ0)).toArray) below meth c (vx_MQ below (exQc D κ ρ0 w s.heap.size ok val) (exXC D κ ρ0 w s.heap.size ok) ((av.map (toV ρ0)).toArray) s 1 6 (AAf ρ0 186 s.heap.size)) D κ (AAf ρ0 186 s.heap.size) cd (1, 0, 186) mx 186 w ρ0) i l9 s9 w' →
      PP p l e (headSpec (tkW y cc mx (some .int)) exR).room s m ((av.map (toV ρ0)).toArray) below meth c (vx_MQ below (exQc D κ ρ0 w s.heap.size ok val) (exXC D κ ρ0 w s.heap.size ok) ((av.map (toV ρ0)).toArray) s 1 6 (AAf ρ0 186 s.heap.size)) D κ (AAf ρ0 186 s.heap.size) cd (1, 0, 186) mx 186 w ρ0 i l9 s9 w' := by
    intro i hi
    refine sim_at (EV := EV) (b0 := b) hFr hK (fun q h => Or.inr h) i (fun hlt => hck i hlt hi) ?_ ⟨by show 300 ≤ 5000; omega, by show 1 ≤ 50; omega⟩ ?_ ?_ ?_ hEV hEs hbsz hAb ?_ ?_ ?_
    · intro ρ n w' hE _
      obtain ⟨q1, q2⟩ := hc00 ρ n w' hE
      rw [q1, q2]
      exact ⟨Nat.zero_le _, Nat.zero_le _⟩
    · intro z; exact absurd z (by decide)
    · intro z; exact absurd z (by decide)
    · intro ρ n w' j' hE hz; exact absurd hz (by decide)
    · exact met_all hEV ckAll htok 10 _ (by show 10 + 30 ≤ 50; omega) (by show 100 * (10 + 30) ≤ 5000; omega)
    · intro j' na idx na2 s9 l9 w' i ρ n H locs ls pc z
      exact absurd z (by decide)
    · intro ρ n w' H locs v pc ls ins hR hE hov hQ hdec hro hls
      obtain ⟨q1, q2, q3⟩ := hnle ρ n w' hE
      obtain ⟨z1, z2⟩ := hc00 ρ n w' hE
      subst q1
      obtain ⟨rP, rD, rS, rok, rn, rc, rall⟩ := id hR
      obtain ⟨rfl, hokk, rfl⟩ := hQ
      have hb := B.bytes
      have hlk := B.notSynchronized
      rw [hws ρ _ q2 rok] at rP
      refine W.widen (k := 1) (n := 6) (by rw [z1]; omega) (by rw [z2]; omega) ?_
      have hr := B.returns
      rcases hro with ⟨hv0, -, -⟩ | ⟨x, hvx, rfl, -⟩ | ⟨x, hvx, -, -⟩ | ⟨g, hvx, -, -⟩
      · cases hv0
      · cases hvx
        exact vx_ret (W.iret hx hb hr (fun t ht hW => ⟨rfl, hokk, by rw [ht]; exact rP, rS.F ht⟩) rS.2.2 hdec)
      · cases hvx
      · cases hvx
  have hthrow : ¬ ok → ∀ l9, PP p l e (headSpec (tkW y cc mx (some .int)) exR).room s m ((av.map (toV ρ0)).toArray) below meth c (vx_MQ below (exQc D κ ρ0 w s.heap.size ok val) (exXC D κ ρ0 w s.heap.size ok) ((av.map (toV ρ0)).toArray) s 1 6 (AAf ρ0 186 s.heap.size)) D κ (AAf ρ0 186 s.heap.size) cd (1, 0, 186) mx 186 w ρ0 iT l9 [] w := by
    intro hno l9 ρ n H locs ls hR hE hl hs hL
    obtain ⟨q1, q2, q3⟩ := hnle ρ n w hE
    obtain ⟨z1, z2⟩ := hc00 ρ n w hE
    subst q1
    obtain ⟨rP, rD, rS, rok, rn, rc, rall⟩ := id hR
    rw [z1, z2]
    rw [hws ρ _ q2 rok] at rP
    obtain ⟨zU, zN, -⟩ := id (hX s hEs)
    have hat := exAts_b hts (hX s hEs)
    refine vx_throw0 (names := exL) (own := "ThirdHands") (cls := exN) (ik := 140) (ic := 142) (A := AAf ρ0 186 s.heap.size) hx B.bytes hlt hown (by decide +kernel) (by decide +kernel) (hat _ List.mem_cons_self) (hat _ (List.mem_cons_of_mem _ List.mem_cons_self)) (fun w hw => hat w (List.mem_cons_of_mem _ (List.mem_cons_of_mem _ hw))) exAts_ot
      (zU.narrow hAb) (zN.narrow hAb) rS (hL.size.trans hml.symm) d0 d3 d4 d7 (fun x hx => (hnx x hx).elim) (by show 2 + 3 < 50; omega) (by show 0 + (13 * (2 + 1) + 42) ≤ 5000; omega) (by show 0 + 1 ≤ 1; omega) (by show 0 + 6 ≤ 6; omega) B.notSynchronized ?_ rS.2.2 (by omega) (by omega)
    intro t hvm hsz hq
    refine ⟨rfl, hno, fun k q hk => (rP k q hk).kept (hq _ (rP k q hk).lt), Nat.le_trans rS.1 hsz, fun q h1 h2 => ?_⟩
    rw [hq q (Nat.lt_of_lt_of_le h1 rS.1)]
    exact rS.2.1 q h1 h2
  have hl := lv_entry (av.map (toV ρ0)) (n := mx) (by rw [fArgs_len]; exact hlen)
  rw [lg_entry_eq]
  have hW := run _ hstep hthrow ρ0 186 s.heap [] _ ⟨hP, hD, va_S.rf, hok, by decide, hc0, fun _ => hall⟩ ⟨Nat.le_refl _, fun _ _ => rfl, rfl, rfl, rfl, Int.le_refl _, fun _ => rfl, fun _ => ⟨rfl, rfl⟩, fun z => absurd z (by decide), fun z => absurd z (by decide)⟩ (mkLoc_ok hav) (fun v hv => by cases hv) ⟨_, hl, fun i v hiv => by
    have := args_at ρ0 av 0 i v (mx - (fArgs av).length) hiv
    rwa [Nat.zero_add] at this⟩
  obtain ⟨z1, z2⟩ := hc00 ρ0 186 w ⟨Nat.le_refl _, fun _ _ => rfl, rfl, rfl, rfl, Int.le_refl _, fun _ => rfl, fun _ => ⟨rfl, rfl⟩, fun z => absurd z (by decide), fun z => absurd z (by decide)⟩
  rw [z1, z2, h0] at hW
  exact hW


/-! the constructor of Tokens in the small machine: the words' text letter by letter -/
def cdT : List Ent := [(0, .aload_n 0, 1, [0], 0), (1, .invokespecial 3, 3, [20, 0, 0, 1039, 1032, 1033], 0), (4, .aload_n 0, 1, [0], 0), (5, .bipush 17, 2, [], 17), (7, .newarray .int, 2, [20, 1121], 0), (9, .putfield 11, 3, [7, 1, 1090], 0), (12, .aload_n 0, 1, [0], 0), (13, .aload_n 1, 1, [1], 0), (14, .putfield 15, 3, [7, 0, 1089], 0), (17, .iconst 0, 1, [], 0), (18, .istore_n 2, 1, [2], 0), (19, .iconst 0, 1, [], 0), (20, .istore_n 3, 1, [3], 0), (21, .iconst 0, 1, [], 0), (22, .istore 4, 2, [4], 0), (24, .iload 4, 2, [4], 0), (26, .nop, 2, [], 0), (28, .nop, 3, [], 0), (31, .if_icmp .ge 60, 3, [50], 0), (34, .iload_n 3, 1, [3], 0), (35, .bipush 17, 2, [], 17), (37, .if_icmp .ge 54, 3, [50], 0), (40, .nop, 2, [], 0), (42, .iload 4, 2, [4], 0), (44, .nop, 3, [], 0), (47, .bipush 32, 2, [], 32), (49, .if_icmp .ne 18, 3, [36], 0), (52, .aload_n 0, 1, [0], 0), (53, .getfield 11, 3, [7, 1, 1090], 0), (56, .iload_n 3, 1, [3], 0), (57, .iload_n 2, 1, [2], 0), (58, .iastore, 1, [], 0), (59, .iinc 3 1, 3, [3], 1), (62, .iconst 0, 1, [], 0), (63, .istore_n 2, 1, [2], 0), (64, .goto 21, 3, [48], 0), (67, .iload_n 2, 1, [2], 0), (68, .bipush 27, 2, [], 27), (70, .imul, 1, [], 0), (71, .nop, 2, [], 0), (73, .iload 4, 2, [4], 0), (75, .nop, 3, [], 0), (78, .iadd, 1, [], 0), (79, .bipush 97, 2, [], 97), (81, .isub, 1, [], 0), (82, .iconst 1, 1, [], 1), (83, .iadd, 1, [], 0), (84, .istore_n 2, 1, [2], 0), (85, .iinc 4 1, 3, [4], 1), (88, .goto (-64), 3, [15], 0), (91, .return_, 1, [], 0)]
def tkSp : List Nat := [16, 17, 22, 24, 39, 41]
def tkCL : List Int := [0, 23, 629, 16998, 0, 15, 411, 0, 1, 46, 1253, 33850, 0, 19, 528, 14274, 385418, 0, 13, 352, 9515, 256910, 6936589, 0, 23, 630, 17030, 459818, 0, 23, 622, 16808, 453836, 12253591, 0, 2, 79, 0, 7, 198, 5368, 144941, 3913426, 0, 12, 325, 8798, 0, 1, 41, 1132, 0, 6, 171, 4635, 125164, 3379448, 0, 15, 419, 11316, 305537, 0, 20, 555, 15008, 405230, 10941229, 0, 7, 198, 5368, 144941, 0, 21, 586, 15827, 0, 23, 622, 16803, 453701, 0]
def tkWL : List Int := [0, 0, 0, 0, 1, 1, 1, 2, 2, 2, 2, 2, 3, 3, 3, 3, 3, 4, 4, 4, 4, 4, 4, 5, 5, 5, 5, 5, 6, 6, 6, 6, 6, 6, 7, 7, 7, 8, 8, 8, 8, 8, 8, 9, 9, 9, 9, 10, 10, 10, 10, 11, 11, 11, 11, 11, 11, 12, 12, 12, 12, 12, 13, 13, 13, 13, 13, 13, 14, 14, 14, 14, 14, 15, 15, 15, 15, 16, 16, 16, 16, 16, 17]
def tkFi (i : Nat) : Nat → Int := fun j => if j < (nthA 0 tkWL i).toNat then nthA 0 tokL j else 0
theorem tk_fact : ∀ i : Nat, i < 82 → (0 ≤ nthA 0 tkWL i ∧ nthA 0 tkWL i < 17) ∧ ((i + 1 : Nat) : Int) = w32 ((i : Int) + 1) ∧
    (tkC i = 32 → nthA 0 tkCL (i + 1) = 0 ∧ nthA 0 tkWL (i + 1) = w32 (nthA 0 tkWL i + 1) ∧ nthA 0 tkCL i = nthA 0 tokL (nthA 0 tkWL i).toNat ∧ (nthA 0 tkWL (i + 1)).toNat = (nthA 0 tkWL i).toNat + 1) ∧
    (¬ tkC i = 32 → nthA 0 tkCL (i + 1) = w32 (w32 (w32 (w32 (nthA 0 tkCL i * 27) + tkC i) - 97) + 1) ∧ nthA 0 tkWL (i + 1) = nthA 0 tkWL i) := by decide +kernel
theorem tk_end : nthA 0 tkWL 82 = 17 := by decide +kernel
theorem tkFi_same {i : Nat} (h : nthA 0 tkWL (i + 1) = nthA 0 tkWL i) : tkFi (i + 1) = tkFi i := by
  funext j; unfold tkFi; rw [h]
theorem tkFi_next {i : Nat} (h : (nthA 0 tkWL (i + 1)).toNat = (nthA 0 tkWL i).toNat + 1) : up1 (tkFi i) (nthA 0 tkWL i).toNat (nthA 0 tokL (nthA 0 tkWL i).toNat) = tkFi (i + 1) := by
  funext j
  unfold tkFi up1
  rw [h]
  by_cases q : j = (nthA 0 tkWL i).toNat
  · rw [if_pos q, if_pos (by omega), q]
  · rw [if_neg q]
    dsimp only
    by_cases q2 : j < (nthA 0 tkWL i).toNat
    · rw [if_pos q2, if_pos (by omega)]
    · rw [if_neg q2, if_neg (by omega)]
def tkW0 (w : Wd) : Wd := ub (ub (mkNew w) 2 1 1) 2 0 1
theorem tkW0_3 {w : Wd} (hw : w 401 0 = 3) : tkW0 w 3 = fun _ => 0 := by
  show ub (zr w (w 401 0).toNat) 401 0 (w 401 0 + 1) 3 = _
  rw [hw]; rfl
theorem tk_w0 {w : Wd} (hw : w 401 0 = 3) : ubf (tkW0 w) 3 (tkFi 0) = tkW0 w := by
  funext h
  by_cases q : h = 3
  · subst q
    rw [tkW0_3 hw]
    funext j
    show (if (3 : Nat) = 3 then tkFi 0 else _) j = 0
    rw [if_pos rfl]
    show (if j < (nthA 0 tkWL 0).toNat then nthA 0 tokL j else 0) = 0
    rw [if_neg (by show ¬ j < 0; omega)]
  · show (if h = 3 then tkFi 0 else tkW0 w h) = _
    rw [if_neg q]
theorem tk_wn {w : Wd} : ubf (tkW0 w) 3 (tkFi 82) = tokW w := by
  have e : tkFi 82 = tokF := by
    funext j; unfold tkFi tokF; rw [tk_end]; rfl
  rw [e]
  funext h
  by_cases q3 : h = 3
  · subst q3; rfl
  · by_cases q2 : h = 2
    · subst q2; rfl
    · show (if h = 3 then tokF else (if h = 2 then _ else (if h = 2 then _ else mkNew w h))) = (if h = 2 then _ else (if h = 2 then _ else (if h = 3 then tokF else mkNew w h)))
      rw [if_neg q3, if_neg q2, if_neg q2, if_neg q2, if_neg q2, if_neg q3]
set_option maxRecDepth 8192 in
theorem tk_run {cw : CWt} {Q : MV → Wd → Prop} {P : Pt4} {w : Wd} (hw : w 401 0 = 3)
    (hstep : ∀ i, ¬ i ∈ tkSp → ∀ l s w, F cw cdT (0, 1, 4) Q P i l s w → P i l s w)
    (hlen : ∀ l s w, catS s ≤ 8 → P 18 l (mI 82 :: s) w → P 16 l s w)
    (hc1 : ∀ l s w (j : Nat), j < 82 → catS s ≤ 8 → nthA none l 4 = mI (j : Int) → P 25 l (mI (tkC j) :: s) w → P 22 l s w)
    (hc2 : ∀ l s w (j : Nat), j < 82 → catS s ≤ 8 → nthA none l 4 = mI (j : Int) → P 42 l (mI (tkC j) :: s) w → P 39 l s w)
    (hQ : Q none (tokW w)) : P 0 [mR 2, mR 1, none, none, none] [] w := by
  have loop : ∀ k i : Nat, k + i = 82 → P 15 [mR 2, mR 1, mI (nthA 0 tkCL i), mI (nthA 0 tkWL i), mI (i : Int)] [] (ubf (tkW0 w) 3 (tkFi i)) := by
    intro k
    induction k with
    | zero =>
      intro i hi
      have hi : i = 82 := by omega
      subst hi
      refine hstep 15 (by decide) _ _ _ ?_
      refine hlen _ _ _ (by decide) ?_
      refine hstep 18 (by decide) _ _ _ ⟨fun _ => ?_, fun q => absurd (show (82 : Int) ≤ ((82 : Nat) : Int) by decide) q⟩
      refine hstep 50 (by decide) _ _ _ ?_
      show Q none _
      rw [tk_wn]; exact hQ
    | succ k ih =>
      intro i hi
      have hi2 : i < 82 := by omega
      obtain ⟨⟨f1, f2⟩, f3, f4, f5⟩ := tk_fact i hi2
      have IH := ih (i + 1) (by omega)
      rw [f3] at IH
      refine hstep 15 (by decide) _ _ _ ?_
      refine hlen _ _ _ (by show 1 ≤ 8; decide) ?_
      refine hstep 18 (by decide) _ _ _ ⟨fun q => absurd (show (82 : Int) ≤ (i : Int) from q) (by omega), fun _ => ?_⟩
      refine hstep 19 (by decide) _ _ _ (hstep 20 (by decide) _ _ _ ?_)
      refine hstep 21 (by decide) _ _ _ ⟨fun q => absurd (show (17 : Int) ≤ nthA 0 tkWL i from q) (by omega), fun _ => ?_⟩
      refine hc1 _ _ _ i hi2 (by show 0 ≤ 8; decide) rfl ?_
      refine hstep 25 (by decide) _ _ _ ?_
      refine hstep 26 (by decide) _ _ _ ⟨fun q => ?_, fun q => ?_⟩
      · have q : ¬ tkC i = 32 := q
        obtain ⟨g1, g2⟩ := f5 q
        rw [g1, g2, tkFi_same g2] at IH
        refine hstep 36 (by decide) _ _ _ (hstep 37 (by decide) _ _ _ (hstep 38 (by decide) _ _ _ ?_))
        refine hc2 _ _ _ i hi2 (by show 1 ≤ 8; decide) rfl ?_
        refine hstep 42 (by decide) _ _ _ (hstep 43 (by decide) _ _ _ (hstep 44 (by decide) _ _ _ (hstep 45 (by decide) _ _ _ (hstep 46 (by decide) _ _ _ (hstep 47 (by decide) _ _ _ ?_)))))
        refine hstep 48 (by decide) _ _ _ (hstep 49 (by decide) _ _ _ ?_)
        exact IH
      · have q : tkC i = 32 := Classical.byContradiction (show ¬ ¬ tkC i = 32 from q)
        obtain ⟨g1, g2, g3, g4⟩ := f4 q
        rw [g1, g2, ← tkFi_next g4, ← g3] at IH
        refine hstep 27 (by decide) _ _ _ (hstep 28 (by decide) _ _ _ ⟨?_, ?_⟩)
        · show ¬ (1 : Int) = 0
          decide
        refine hstep 29 (by decide) _ _ _ (hstep 30 (by decide) _ _ _ ?_)
        refine hstep 31 (by decide) _ _ _ ⟨⟨f1, f2⟩, ?_⟩
        refine hstep 32 (by decide) _ _ _ (hstep 33 (by decide) _ _ _ (hstep 34 (by decide) _ _ _ (hstep 35 (by decide) _ _ _ ?_)))
        refine hstep 48 (by decide) _ _ _ (hstep 49 (by decide) _ _ _ ?_)
        have e : ub (ubf (tkW0 w) 3 (tkFi i)) 3 (nthA 0 tkWL i).toNat (nthA 0 tkCL i) = ubf (tkW0 w) 3 (up1 (tkFi i) (nthA 0 tkWL i).toNat (nthA 0 tkCL i)) := by
          funext h
          by_cases q3 : h = 3
          · subst q3; rfl
          · show (if h = 3 then _ else (if h = 3 then _ else tkW0 w h)) = (if h = 3 then _ else tkW0 w h)
            rw [if_neg q3, if_neg q3, if_neg q3]
        have e2 : P 15 [mR 2, mR 1, mI 0, mI (w32 (nthA 0 tkWL i + 1)), mI (w32 ((i : Int) + 1))] [] (ub (ubf (tkW0 w) 3 (tkFi i)) 3 (nthA 0 tkWL i).toNat (nthA 0 tkCL i)) := by
          rw [e]; exact IH
        exact e2
  have L0 := loop 82 0 rfl
  rw [tk_w0 hw] at L0
  refine hstep 0 (by decide) _ _ _ (hstep 1 (by decide) _ _ _ ?_)
  refine hstep 2 (by decide) _ _ _ (hstep 3 (by decide) _ _ _ ?_)
  refine hstep 4 (by decide) _ _ _ ⟨by rw [hw]; rfl, by rw [hw]; rfl, ⟨by decide, by rw [hw]; decide⟩, fun q => absurd (hw.symm.trans q) (by decide), ?_⟩
  rw [hw]
  refine hstep 5 (by decide) _ _ _ ⟨rfl, ?_⟩
  refine hstep 6 (by decide) _ _ _ (hstep 7 (by decide) _ _ _ ?_)
  refine hstep 8 (by decide) _ _ _ ⟨rfl, ?_⟩
  refine hstep 9 (by decide) _ _ _ (hstep 10 (by decide) _ _ _ (hstep 11 (by decide) _ _ _ (hstep 12 (by decide) _ _ _ (hstep 13 (by decide) _ _ _ (hstep 14 (by decide) _ _ _ ?_)))))
  exact L0

theorem S_copyV_4_16 {d : Nat} {Q : MV → Wd → Prop} {w : Wd} (k : ∀ g1 g2 g3 g4 g5 g6 g7 g8 g9 g10 g11 : Nat → Int, (∀ i : Nat, i < 8 → g1 i = w 17 i) → (∀ i : Nat, i < 8 → g2 i = w 18 i) → (∀ i : Nat, i < 8 → g3 i = w 19 i) → (∀ i : Nat, i < 8 → g4 i = w 20 i) → (∀ i : Nat, i < 6 → g5 i = w 21 i) → (∀ i : Nat, i < 6 → g6 i = w 22 i) → (∀ i : Nat, i < 80 → g7 i = w 23 i) → (∀ i : Nat, i < 16 → g8 i = w 24 i) → (∀ i : Nat, i < 32 → g9 i = w 25 i) → (∀ i : Nat, i < 64 → g10 i = w 26 i) → (∀ i : Nat, i < 64 → g11 i = w 27 i) → Q none (ub (ub (ubf (ubf (ubf (ub (ubf (ubf (ub (ubf (ubf (ub (ubf (ubf (ubf (ubf (ub w 4 0 (w 16 0)) 5 g1) 6 g2) 7 g3) 8 g4) 4 5 (w 16 5)) 9 g5) 10 g6) 4 8 (w 16 8)) 11 g7) 12 g8) 4 11 (w 16 11)) 13 g9) 14 g10) 15 g11) 4 15 (w 16 15)) 4 16 (w 16 16))) : Cw (d + 2) 47 [mR 4, mR 16] w Q := by
  apply Village_copy_4_16_en
  refine S_copyAll 17 5 8 rfl rfl rfl rfl (by decide) (by decide) ?_
  intro g1 a1 _
  refine S_copyAll 18 6 8 rfl rfl rfl rfl (by decide) (by decide) ?_
  intro g2 a2 _
  refine S_copyAll 19 7 8 rfl rfl rfl rfl (by decide) (by decide) ?_
  intro g3 a3 _
  refine S_copyAll 20 8 8 rfl rfl rfl rfl (by decide) (by decide) ?_
  intro g4 a4 _
  refine S_copyAll 21 9 6 rfl rfl rfl rfl (by decide) (by decide) ?_
  intro g5 a5 _
  refine S_copyAll 22 10 6 rfl rfl rfl rfl (by decide) (by decide) ?_
  intro g6 a6 _
  refine S_copyAll 23 11 80 rfl rfl rfl rfl (by decide) (by decide) ?_
  intro g7 a7 _
  refine S_copyAll 24 12 16 rfl rfl rfl rfl (by decide) (by decide) ?_
  intro g8 a8 _
  refine S_copyAll 25 13 32 rfl rfl rfl rfl (by decide) (by decide) ?_
  intro g9 a9 _
  refine S_copyAll 26 14 64 rfl rfl rfl rfl (by decide) (by decide) ?_
  intro g10 a10 _
  refine S_copyAll 27 15 64 rfl rfl rfl rfl (by decide) (by decide) ?_
  intro g11 a11 _
  exact k g1 g2 g3 g4 g5 g6 g7 g8 g9 g10 g11 a1 a2 a3 a4 a5 a6 a7 a8 a9 a10 a11

theorem S_copyV_4_45 {d : Nat} {Q : MV → Wd → Prop} {w : Wd} (k : ∀ g1 g2 g3 g4 g5 g6 g7 g8 g9 g10 g11 : Nat → Int, (∀ i : Nat, i < 8 → g1 i = w 46 i) → (∀ i : Nat, i < 8 → g2 i = w 47 i) → (∀ i : Nat, i < 8 → g3 i = w 48 i) → (∀ i : Nat, i < 8 → g4 i = w 49 i) → (∀ i : Nat, i < 6 → g5 i = w 50 i) → (∀ i : Nat, i < 6 → g6 i = w 51 i) → (∀ i : Nat, i < 80 → g7 i = w 52 i) → (∀ i : Nat, i < 16 → g8 i = w 53 i) → (∀ i : Nat, i < 32 → g9 i = w 54 i) → (∀ i : Nat, i < 64 → g10 i = w 55 i) → (∀ i : Nat, i < 64 → g11 i = w 56 i) → Q none (ub (ub (ubf (ubf (ubf (ub (ubf (ubf (ub (ubf (ubf (ub (ubf (ubf (ubf (ubf (ub w 4 0 (w 45 0)) 5 g1) 6 g2) 7 g3) 8 g4) 4 5 (w 45 5)) 9 g5) 10 g6) 4 8 (w 45 8)) 11 g7) 12 g8) 4 11 (w 45 11)) 13 g9) 14 g10) 15 g11) 4 15 (w 45 15)) 4 16 (w 45 16))) : Cw (d + 2) 47 [mR 4, mR 45] w Q := by
  apply Village_copy_4_45_en
  refine S_copyAll 46 5 8 rfl rfl rfl rfl (by decide) (by decide) ?_
  intro g1 a1 _
  refine S_copyAll 47 6 8 rfl rfl rfl rfl (by decide) (by decide) ?_
  intro g2 a2 _
  refine S_copyAll 48 7 8 rfl rfl rfl rfl (by decide) (by decide) ?_
  intro g3 a3 _
  refine S_copyAll 49 8 8 rfl rfl rfl rfl (by decide) (by decide) ?_
  intro g4 a4 _
  refine S_copyAll 50 9 6 rfl rfl rfl rfl (by decide) (by decide) ?_
  intro g5 a5 _
  refine S_copyAll 51 10 6 rfl rfl rfl rfl (by decide) (by decide) ?_
  intro g6 a6 _
  refine S_copyAll 52 11 80 rfl rfl rfl rfl (by decide) (by decide) ?_
  intro g7 a7 _
  refine S_copyAll 53 12 16 rfl rfl rfl rfl (by decide) (by decide) ?_
  intro g8 a8 _
  refine S_copyAll 54 13 32 rfl rfl rfl rfl (by decide) (by decide) ?_
  intro g9 a9 _
  refine S_copyAll 55 14 64 rfl rfl rfl rfl (by decide) (by decide) ?_
  intro g10 a10 _
  refine S_copyAll 56 15 64 rfl rfl rfl rfl (by decide) (by decide) ?_
  intro g11 a11 _
  exact k g1 g2 g3 g4 g5 g6 g7 g8 g9 g10 g11 a1 a2 a3 a4 a5 a6 a7 a8 a9 a10 a11

theorem S_copyV_4_69 {d : Nat} {Q : MV → Wd → Prop} {w : Wd} (k : ∀ g1 g2 g3 g4 g5 g6 g7 g8 g9 g10 g11 : Nat → Int, (∀ i : Nat, i < 8 → g1 i = w 70 i) → (∀ i : Nat, i < 8 → g2 i = w 71 i) → (∀ i : Nat, i < 8 → g3 i = w 72 i) → (∀ i : Nat, i < 8 → g4 i = w 73 i) → (∀ i : Nat, i < 6 → g5 i = w 74 i) → (∀ i : Nat, i < 6 → g6 i = w 75 i) → (∀ i : Nat, i < 80 → g7 i = w 76 i) → (∀ i : Nat, i < 16 → g8 i = w 77 i) → (∀ i : Nat, i < 32 → g9 i = w 78 i) → (∀ i : Nat, i < 64 → g10 i = w 79 i) → (∀ i : Nat, i < 64 → g11 i = w 80 i) → Q none (ub (ub (ubf (ubf (ubf (ub (ubf (ubf (ub (ubf (ubf (ub (ubf (ubf (ubf (ubf (ub w 4 0 (w 69 0)) 5 g1) 6 g2) 7 g3) 8 g4) 4 5 (w 69 5)) 9 g5) 10 g6) 4 8 (w 69 8)) 11 g7) 12 g8) 4 11 (w 69 11)) 13 g9) 14 g10) 15 g11) 4 15 (w 69 15)) 4 16 (w 69 16))) : Cw (d + 2) 47 [mR 4, mR 69] w Q := by
  apply Village_copy_4_69_en
  refine S_copyAll 70 5 8 rfl rfl rfl rfl (by decide) (by decide) ?_
  intro g1 a1 _
  refine S_copyAll 71 6 8 rfl rfl rfl rfl (by decide) (by decide) ?_
  intro g2 a2 _
  refine S_copyAll 72 7 8 rfl rfl rfl rfl (by decide) (by decide) ?_
  intro g3 a3 _
  refine S_copyAll 73 8 8 rfl rfl rfl rfl (by decide) (by decide) ?_
  intro g4 a4 _
  refine S_copyAll 74 9 6 rfl rfl rfl rfl (by decide) (by decide) ?_
  intro g5 a5 _
  refine S_copyAll 75 10 6 rfl rfl rfl rfl (by decide) (by decide) ?_
  intro g6 a6 _
  refine S_copyAll 76 11 80 rfl rfl rfl rfl (by decide) (by decide) ?_
  intro g7 a7 _
  refine S_copyAll 77 12 16 rfl rfl rfl rfl (by decide) (by decide) ?_
  intro g8 a8 _
  refine S_copyAll 78 13 32 rfl rfl rfl rfl (by decide) (by decide) ?_
  intro g9 a9 _
  refine S_copyAll 79 14 64 rfl rfl rfl rfl (by decide) (by decide) ?_
  intro g10 a10 _
  refine S_copyAll 80 15 64 rfl rfl rfl rfl (by decide) (by decide) ?_
  intro g11 a11 _
  exact k g1 g2 g3 g4 g5 g6 g7 g8 g9 g10 g11 a1 a2 a3 a4 a5 a6 a7 a8 a9 a10 a11

theorem S_copyV_45_4 {d : Nat} {Q : MV → Wd → Prop} {w : Wd} (k : ∀ g1 g2 g3 g4 g5 g6 g7 g8 g9 g10 g11 : Nat → Int, (∀ i : Nat, i < 8 → g1 i = w 5 i) → (∀ i : Nat, i < 8 → g2 i = w 6 i) → (∀ i : Nat, i < 8 → g3 i = w 7 i) → (∀ i : Nat, i < 8 → g4 i = w 8 i) → (∀ i : Nat, i < 6 → g5 i = w 9 i) → (∀ i : Nat, i < 6 → g6 i = w 10 i) → (∀ i : Nat, i < 80 → g7 i = w 11 i) → (∀ i : Nat, i < 16 → g8 i = w 12 i) → (∀ i : Nat, i < 32 → g9 i = w 13 i) → (∀ i : Nat, i < 64 → g10 i = w 14 i) → (∀ i : Nat, i < 64 → g11 i = w 15 i) → Q none (ub (ub (ubf (ubf (ubf (ub (ubf (ubf (ub (ubf (ubf (ub (ubf (ubf (ubf (ubf (ub w 45 0 (w 4 0)) 46 g1) 47 g2) 48 g3) 49 g4) 45 5 (w 4 5)) 50 g5) 51 g6) 45 8 (w 4 8)) 52 g7) 53 g8) 45 11 (w 4 11)) 54 g9) 55 g10) 56 g11) 45 15 (w 4 15)) 45 16 (w 4 16))) : Cw (d + 2) 47 [mR 45, mR 4] w Q := by
  apply Village_copy_45_4_en
  refine S_copyAll 5 46 8 rfl rfl rfl rfl (by decide) (by decide) ?_
  intro g1 a1 _
  refine S_copyAll 6 47 8 rfl rfl rfl rfl (by decide) (by decide) ?_
  intro g2 a2 _
  refine S_copyAll 7 48 8 rfl rfl rfl rfl (by decide) (by decide) ?_
  intro g3 a3 _
  refine S_copyAll 8 49 8 rfl rfl rfl rfl (by decide) (by decide) ?_
  intro g4 a4 _
  refine S_copyAll 9 50 6 rfl rfl rfl rfl (by decide) (by decide) ?_
  intro g5 a5 _
  refine S_copyAll 10 51 6 rfl rfl rfl rfl (by decide) (by decide) ?_
  intro g6 a6 _
  refine S_copyAll 11 52 80 rfl rfl rfl rfl (by decide) (by decide) ?_
  intro g7 a7 _
  refine S_copyAll 12 53 16 rfl rfl rfl rfl (by decide) (by decide) ?_
  intro g8 a8 _
  refine S_copyAll 13 54 32 rfl rfl rfl rfl (by decide) (by decide) ?_
  intro g9 a9 _
  refine S_copyAll 14 55 64 rfl rfl rfl rfl (by decide) (by decide) ?_
  intro g10 a10 _
  refine S_copyAll 15 56 64 rfl rfl rfl rfl (by decide) (by decide) ?_
  intro g11 a11 _
  exact k g1 g2 g3 g4 g5 g6 g7 g8 g9 g10 g11 a1 a2 a3 a4 a5 a6 a7 a8 a9 a10 a11

theorem S_copyV_69_4 {d : Nat} {Q : MV → Wd → Prop} {w : Wd} (k : ∀ g1 g2 g3 g4 g5 g6 g7 g8 g9 g10 g11 : Nat → Int, (∀ i : Nat, i < 8 → g1 i = w 5 i) → (∀ i : Nat, i < 8 → g2 i = w 6 i) → (∀ i : Nat, i < 8 → g3 i = w 7 i) → (∀ i : Nat, i < 8 → g4 i = w 8 i) → (∀ i : Nat, i < 6 → g5 i = w 9 i) → (∀ i : Nat, i < 6 → g6 i = w 10 i) → (∀ i : Nat, i < 80 → g7 i = w 11 i) → (∀ i : Nat, i < 16 → g8 i = w 12 i) → (∀ i : Nat, i < 32 → g9 i = w 13 i) → (∀ i : Nat, i < 64 → g10 i = w 14 i) → (∀ i : Nat, i < 64 → g11 i = w 15 i) → Q none (ub (ub (ubf (ubf (ubf (ub (ubf (ubf (ub (ubf (ubf (ub (ubf (ubf (ubf (ubf (ub w 69 0 (w 4 0)) 70 g1) 71 g2) 72 g3) 73 g4) 69 5 (w 4 5)) 74 g5) 75 g6) 69 8 (w 4 8)) 76 g7) 77 g8) 69 11 (w 4 11)) 78 g9) 79 g10) 80 g11) 69 15 (w 4 15)) 69 16 (w 4 16))) : Cw (d + 2) 47 [mR 69, mR 4] w Q := by
  apply Village_copy_69_4_en
  refine S_copyAll 5 70 8 rfl rfl rfl rfl (by decide) (by decide) ?_
  intro g1 a1 _
  refine S_copyAll 6 71 8 rfl rfl rfl rfl (by decide) (by decide) ?_
  intro g2 a2 _
  refine S_copyAll 7 72 8 rfl rfl rfl rfl (by decide) (by decide) ?_
  intro g3 a3 _
  refine S_copyAll 8 73 8 rfl rfl rfl rfl (by decide) (by decide) ?_
  intro g4 a4 _
  refine S_copyAll 9 74 6 rfl rfl rfl rfl (by decide) (by decide) ?_
  intro g5 a5 _
  refine S_copyAll 10 75 6 rfl rfl rfl rfl (by decide) (by decide) ?_
  intro g6 a6 _
  refine S_copyAll 11 76 80 rfl rfl rfl rfl (by decide) (by decide) ?_
  intro g7 a7 _
  refine S_copyAll 12 77 16 rfl rfl rfl rfl (by decide) (by decide) ?_
  intro g8 a8 _
  refine S_copyAll 13 78 32 rfl rfl rfl rfl (by decide) (by decide) ?_
  intro g9 a9 _
  refine S_copyAll 14 79 64 rfl rfl rfl rfl (by decide) (by decide) ?_
  intro g10 a10 _
  refine S_copyAll 15 80 64 rfl rfl rfl rfl (by decide) (by decide) ?_
  intro g11 a11 _
  exact k g1 g2 g3 g4 g5 g6 g7 g8 g9 g10 g11 a1 a2 a3 a4 a5 a6 a7 a8 a9 a10 a11

theorem S_copyP_28_32 {d : Nat} {Q : MV → Wd → Prop} {w : Wd} (k : ∀ g1 g2 g3 : Nat → Int, (∀ i : Nat, i < 50 → g1 i = w 33 i) → (∀ i : Nat, i < 50 → g2 i = w 34 i) → (∀ i : Nat, i < 50 → g3 i = w 35 i) → Q none (ubf (ubf (ubf (ub w 28 0 (w 32 0)) 29 g1) 30 g2) 31 g3)) : Cw (d + 2) 101 [mR 28, mR 32] w Q := by
  apply Plan_copy_28_32_en
  refine S_copyAll 33 29 50 rfl rfl rfl rfl (by decide) (by decide) ?_
  intro g1 a1 _
  refine S_copyAll 34 30 50 rfl rfl rfl rfl (by decide) (by decide) ?_
  intro g2 a2 _
  refine S_copyAll 35 31 50 rfl rfl rfl rfl (by decide) (by decide) ?_
  intro g3 a3 _
  exact k g1 g2 g3 a1 a2 a3

theorem S_copyP_28_57 {d : Nat} {Q : MV → Wd → Prop} {w : Wd} (k : ∀ g1 g2 g3 : Nat → Int, (∀ i : Nat, i < 50 → g1 i = w 58 i) → (∀ i : Nat, i < 50 → g2 i = w 59 i) → (∀ i : Nat, i < 50 → g3 i = w 60 i) → Q none (ubf (ubf (ubf (ub w 28 0 (w 57 0)) 29 g1) 30 g2) 31 g3)) : Cw (d + 2) 101 [mR 28, mR 57] w Q := by
  apply Plan_copy_28_57_en
  refine S_copyAll 58 29 50 rfl rfl rfl rfl (by decide) (by decide) ?_
  intro g1 a1 _
  refine S_copyAll 59 30 50 rfl rfl rfl rfl (by decide) (by decide) ?_
  intro g2 a2 _
  refine S_copyAll 60 31 50 rfl rfl rfl rfl (by decide) (by decide) ?_
  intro g3 a3 _
  exact k g1 g2 g3 a1 a2 a3

theorem S_copyP_28_81 {d : Nat} {Q : MV → Wd → Prop} {w : Wd} (k : ∀ g1 g2 g3 : Nat → Int, (∀ i : Nat, i < 50 → g1 i = w 82 i) → (∀ i : Nat, i < 50 → g2 i = w 83 i) → (∀ i : Nat, i < 50 → g3 i = w 84 i) → Q none (ubf (ubf (ubf (ub w 28 0 (w 81 0)) 29 g1) 30 g2) 31 g3)) : Cw (d + 2) 101 [mR 28, mR 81] w Q := by
  apply Plan_copy_28_81_en
  refine S_copyAll 82 29 50 rfl rfl rfl rfl (by decide) (by decide) ?_
  intro g1 a1 _
  refine S_copyAll 83 30 50 rfl rfl rfl rfl (by decide) (by decide) ?_
  intro g2 a2 _
  refine S_copyAll 84 31 50 rfl rfl rfl rfl (by decide) (by decide) ?_
  intro g3 a3 _
  exact k g1 g2 g3 a1 a2 a3

theorem S_copyP_57_28 {d : Nat} {Q : MV → Wd → Prop} {w : Wd} (k : ∀ g1 g2 g3 : Nat → Int, (∀ i : Nat, i < 50 → g1 i = w 29 i) → (∀ i : Nat, i < 50 → g2 i = w 30 i) → (∀ i : Nat, i < 50 → g3 i = w 31 i) → Q none (ubf (ubf (ubf (ub w 57 0 (w 28 0)) 58 g1) 59 g2) 60 g3)) : Cw (d + 2) 101 [mR 57, mR 28] w Q := by
  apply Plan_copy_57_28_en
  refine S_copyAll 29 58 50 rfl rfl rfl rfl (by decide) (by decide) ?_
  intro g1 a1 _
  refine S_copyAll 30 59 50 rfl rfl rfl rfl (by decide) (by decide) ?_
  intro g2 a2 _
  refine S_copyAll 31 60 50 rfl rfl rfl rfl (by decide) (by decide) ?_
  intro g3 a3 _
  exact k g1 g2 g3 a1 a2 a3

theorem S_copyP_81_28 {d : Nat} {Q : MV → Wd → Prop} {w : Wd} (k : ∀ g1 g2 g3 : Nat → Int, (∀ i : Nat, i < 50 → g1 i = w 29 i) → (∀ i : Nat, i < 50 → g2 i = w 30 i) → (∀ i : Nat, i < 50 → g3 i = w 31 i) → Q none (ubf (ubf (ubf (ub w 81 0 (w 28 0)) 82 g1) 83 g2) 84 g3)) : Cw (d + 2) 101 [mR 81, mR 28] w Q := by
  apply Plan_copy_81_28_en
  refine S_copyAll 29 82 50 rfl rfl rfl rfl (by decide) (by decide) ?_
  intro g1 a1 _
  refine S_copyAll 30 83 50 rfl rfl rfl rfl (by decide) (by decide) ?_
  intro g2 a2 _
  refine S_copyAll 31 84 50 rfl rfl rfl rfl (by decide) (by decide) ?_
  intro g3 a3 _
  exact k g1 g2 g3 a1 a2 a3

theorem S_copyB_36_61 {d : Nat} {Q : MV → Wd → Prop} {w : Wd} (k : ∀ g1 g2 g3 g4 : Nat → Int, (∀ i : Nat, i < 40 → g1 i = w 62 i) → (∀ i : Nat, i < 40 → g2 i = w 63 i) → (∀ i : Nat, i < 40 → g3 i = w 64 i) → (∀ i : Nat, i < 40 → g4 i = w 65 i) → Q none (ubf (ubf (ubf (ubf (ub w 36 0 (w 61 0)) 37 g1) 38 g2) 39 g3) 40 g4)) : Cw (d + 2) 165 [mR 36, mR 61] w Q := by
  apply Book_copy_36_61_en
  refine S_copyAll 62 37 40 rfl rfl rfl rfl (by decide) (by decide) ?_
  intro g1 a1 _
  refine S_copyAll 63 38 40 rfl rfl rfl rfl (by decide) (by decide) ?_
  intro g2 a2 _
  refine S_copyAll 64 39 40 rfl rfl rfl rfl (by decide) (by decide) ?_
  intro g3 a3 _
  refine S_copyAll 65 40 40 rfl rfl rfl rfl (by decide) (by decide) ?_
  intro g4 a4 _
  exact k g1 g2 g3 g4 a1 a2 a3 a4

theorem S_copyB_36_85 {d : Nat} {Q : MV → Wd → Prop} {w : Wd} (k : ∀ g1 g2 g3 g4 : Nat → Int, (∀ i : Nat, i < 40 → g1 i = w 86 i) → (∀ i : Nat, i < 40 → g2 i = w 87 i) → (∀ i : Nat, i < 40 → g3 i = w 88 i) → (∀ i : Nat, i < 40 → g4 i = w 89 i) → Q none (ubf (ubf (ubf (ubf (ub w 36 0 (w 85 0)) 37 g1) 38 g2) 39 g3) 40 g4)) : Cw (d + 2) 165 [mR 36, mR 85] w Q := by
  apply Book_copy_36_85_en
  refine S_copyAll 86 37 40 rfl rfl rfl rfl (by decide) (by decide) ?_
  intro g1 a1 _
  refine S_copyAll 87 38 40 rfl rfl rfl rfl (by decide) (by decide) ?_
  intro g2 a2 _
  refine S_copyAll 88 39 40 rfl rfl rfl rfl (by decide) (by decide) ?_
  intro g3 a3 _
  refine S_copyAll 89 40 40 rfl rfl rfl rfl (by decide) (by decide) ?_
  intro g4 a4 _
  exact k g1 g2 g3 g4 a1 a2 a3 a4

theorem S_copyB_61_36 {d : Nat} {Q : MV → Wd → Prop} {w : Wd} (k : ∀ g1 g2 g3 g4 : Nat → Int, (∀ i : Nat, i < 40 → g1 i = w 37 i) → (∀ i : Nat, i < 40 → g2 i = w 38 i) → (∀ i : Nat, i < 40 → g3 i = w 39 i) → (∀ i : Nat, i < 40 → g4 i = w 40 i) → Q none (ubf (ubf (ubf (ubf (ub w 61 0 (w 36 0)) 62 g1) 63 g2) 64 g3) 65 g4)) : Cw (d + 2) 165 [mR 61, mR 36] w Q := by
  apply Book_copy_61_36_en
  refine S_copyAll 37 62 40 rfl rfl rfl rfl (by decide) (by decide) ?_
  intro g1 a1 _
  refine S_copyAll 38 63 40 rfl rfl rfl rfl (by decide) (by decide) ?_
  intro g2 a2 _
  refine S_copyAll 39 64 40 rfl rfl rfl rfl (by decide) (by decide) ?_
  intro g3 a3 _
  refine S_copyAll 40 65 40 rfl rfl rfl rfl (by decide) (by decide) ?_
  intro g4 a4 _
  exact k g1 g2 g3 g4 a1 a2 a3 a4

theorem S_copyB_85_36 {d : Nat} {Q : MV → Wd → Prop} {w : Wd} (k : ∀ g1 g2 g3 g4 : Nat → Int, (∀ i : Nat, i < 40 → g1 i = w 37 i) → (∀ i : Nat, i < 40 → g2 i = w 38 i) → (∀ i : Nat, i < 40 → g3 i = w 39 i) → (∀ i : Nat, i < 40 → g4 i = w 40 i) → Q none (ubf (ubf (ubf (ubf (ub w 85 0 (w 36 0)) 86 g1) 87 g2) 88 g3) 89 g4)) : Cw (d + 2) 165 [mR 85, mR 36] w Q := by
  apply Book_copy_85_36_en
  refine S_copyAll 37 86 40 rfl rfl rfl rfl (by decide) (by decide) ?_
  intro g1 a1 _
  refine S_copyAll 38 87 40 rfl rfl rfl rfl (by decide) (by decide) ?_
  intro g2 a2 _
  refine S_copyAll 39 88 40 rfl rfl rfl rfl (by decide) (by decide) ?_
  intro g3 a3 _
  refine S_copyAll 40 89 40 rfl rfl rfl rfl (by decide) (by decide) ?_
  intro g4 a4 _
  exact k g1 g2 g3 g4 a1 a2 a3 a4

theorem RV.copy {ob nm tw mt ak sn lv un ld wn pn hr ob' nm' tw' mt' ak' sn' lv' un' ld' wn' pn' hr' s names : Nat → Int} (ws : WS s) (h : RV ob nm tw mt ak sn lv un ld wn pn hr s names)
    (e0 : ob' 0 = ob 0) (e5 : ob' 5 = ob 5) (e8 : ob' 8 = ob 8) (e11 : ob' 11 = ob 11) (e15 : ob' 15 = ob 15) (e16 : ob' 16 = ob 16)
    (a1 : ∀ i : Nat, i < 8 → nm' i = nm i) (a2 : ∀ i : Nat, i < 8 → tw' i = tw i) (a3 : ∀ i : Nat, i < 8 → mt' i = mt i) (a4 : ∀ i : Nat, i < 8 → ak' i = ak i) (a5 : ∀ i : Nat, i < 6 → sn' i = sn i) (a6 : ∀ i : Nat, i < 6 → lv' i = lv i) (a7 : ∀ i : Nat, i < 80 → un' i = un i) (a8 : ∀ i : Nat, i < 16 → ld' i = ld i) (a9 : ∀ i : Nat, i < 32 → wn' i = wn i) (a10 : ∀ i : Nat, i < 64 → pn' i = pn i) (a11 : ∀ i : Nat, i < 64 → hr' i = hr i) : RV ob' nm' tw' mt' ak' sn' lv' un' ld' wn' pn' hr' s names := by
  have h1 := ws.pe
  have h2 := ws.so
  have h3 := ws.un
  have h4 := ws.wa
  exact (RV.mk (by rw [e0, h.people]) (by rw [e5, h.sorts]) (by rw [e8, h.units]) (by rw [e11, h.wants]) (by rw [e15, h.n]) (by rw [e16, h.back]) (fun p hp => by rw [a2 p (by omega), h.towns p hp]) (fun p q hp => by rw [a3 p (by omega), h.mates p q hp]) (fun p hp => by rw [a4 p (by omega), h.asks p hp]) (fun p hp => by rw [a6 p (by omega), h.lives p hp]) (fun u hu => by rw [a7 _ (by omega), h.usort u hu]) (fun u hu => by rw [a7 _ (by omega), h.mak u hu]) (fun u hu => by rw [a7 _ (by omega), h.par u hu]) (fun u hu => by rw [a7 _ (by omega), h.uhour u hu]) (fun u hu => by rw [a7 _ (by omega), h.spo u hu]) (fun u hu => by rw [a8 _ (by omega)]; exact h.lead u hu) (fun i hi => by rw [a9 _ (by omega), h.want i hi]) (fun k hk ht => by rw [a10 k hk, a11 k hk]; exact h.told k hk ht) (fun k hk ht => by rw [a10 k hk]; exact h.untold k hk ht) (fun p hp => by rw [a1 p (by omega)]; exact h.pnames p hp) (fun p hp => by rw [a5 p (by omega)]; exact h.snames p hp))
theorem RP.copy {ob wt ut wm ob' wt' ut' wm' s : Nat → Int} (ws : WP s) (h : RP ob wt ut wm s) (e0 : ob' 0 = ob 0) (a1 : ∀ i : Nat, i < 50 → wt' i = wt i) (a2 : ∀ i : Nat, i < 50 → ut' i = ut i) (a3 : ∀ i : Nat, i < 50 → wm' i = wm i) : RP ob' wt' ut' wm' s := by
  have h1 := ws.acts
  exact (RP.mk (by rw [e0, h.acts]) (fun i hi => by rw [a1 i (by omega), h.what i hi]) (fun i hi => by rw [a2 i (by omega), h.unit i hi]) (fun i hi => by rw [a3 i (by omega), h.whom i hi]))
theorem RB.copy {ob ut fr to hr ob' ut' fr' to' hr' s : Nat → Int} (ws : WB s) (h : RB ob ut fr to hr s) (e0 : ob' 0 = ob 0) (a1 : ∀ i : Nat, i < 40 → ut' i = ut i) (a2 : ∀ i : Nat, i < 40 → fr' i = fr i) (a3 : ∀ i : Nat, i < 40 → to' i = to i) (a4 : ∀ i : Nat, i < 40 → hr' i = hr i) : RB ob' ut' fr' to' hr' s := by
  have h1 := ws.notes
  exact (RB.mk (by rw [e0, h.notes]) (fun i hi => by rw [a1 i (by omega), h.unit i hi]) (fun i hi => by rw [a2 i (by omega), h.from' i hi]) (fun i hi => by rw [a3 i (by omega), h.to i hi]) (fun i hi => by rw [a4 i (by omega), h.hour i hi]))

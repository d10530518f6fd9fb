theorem Tokens_takeRun_2_b20 {d : Nat} {n1 : Int} {Q : MV → Wd → Prop} {x1 x4 : Int} {w : Wd} (g1 : (0 : Int) ≤ x4 ∧ x4 < 1040) (h : Wp (Cw d) cd_Tokens_takeRun (0, 0, n1) Q 17 [mR 2, mI x1, none, none, mI (w32 (x4 + 1))] [] (ub w 2 6 (w32 ((w32 ((w32 ((w 2 6) * 10)) + (w 1 x4.toNat))) - 48)))) : Wp (Cw d) cd_Tokens_takeRun (0, 0, n1) Q 20 [mR 2, mI x1, none, none, mI x4] [] w :=
  Wp.s (Wp.s (Wp.s (Wp.s (Wp.s (Wp.s (Wp.s (Wp.s (Wp.s ⟨g1, Wp.s (Wp.s (Wp.s (Wp.s (Wp.s (Wp.s h)))))⟩))))))))
theorem Tokens_takeRun_2_b35 {d : Nat} {n1 : Int} {Q : MV → Wd → Prop} {w : Wd} (h : Wp (Cw d) cd_Tokens_takeRun (0, 0, n1) Q 48 [none, none, none, none, none] [] w) : Wp (Cw d) cd_Tokens_takeRun (0, 0, n1) Q 35 [none, none, none, none, none] [] w :=
  Wp.s h
theorem Tokens_takeRun_2_b36 {d : Nat} {n1 : Int} {Q : MV → Wd → Prop} {x1 x2 x3 : Int} {w : Wd} (h1 : ¬ x2 = 0 → Wp (Cw d) cd_Tokens_takeRun (0, 0, n1) Q 45 [mR 2, none, none, none, none] [] w) (h2 : ¬ (¬ x2 = 0) → Wp (Cw d) cd_Tokens_takeRun (0, 0, n1) Q 38 [mR 2, mI x1, none, mI x3, none] [] w) : Wp (Cw d) cd_Tokens_takeRun (0, 0, n1) Q 36 [mR 2, mI x1, mI x2, mI x3, none] [] w :=
  Wp.s (Wp.s ⟨fun q => Wp.fgd (leA.k (leA.f (leA.f (leA.f (leA.f leA.e))))) (h1 q), fun q => Wp.fgd (leA.k (leA.k (leA.f (leA.k (leA.f leA.e))))) (h2 q)⟩)
theorem Tokens_takeRun_2_b38 {d : Nat} {n1 : Int} {Q : MV → Wd → Prop} {x1 x3 : Int} {w : Wd} (h1 : 6 < x3 → Wp (Cw d) cd_Tokens_takeRun (0, 0, n1) Q 45 [mR 2, none, none, none, none] [] w) (h2 : ¬ (6 < x3) → Wp (Cw d) cd_Tokens_takeRun (0, 0, n1) Q 41 [mR 2, mI x1, none, none, none] [] w) : Wp (Cw d) cd_Tokens_takeRun (0, 0, n1) Q 38 [mR 2, mI x1, none, mI x3, none] [] w :=
  Wp.s (Wp.s (Wp.s ⟨fun q => Wp.fgd (leA.k (leA.f (leA.f (leA.f (leA.f leA.e))))) (h1 q), fun q => Wp.fgd (leA.k (leA.k (leA.f (leA.f (leA.f leA.e))))) (h2 q)⟩))
theorem Tokens_takeRun_2_b41 {d : Nat} {n1 : Int} {Q : MV → Wd → Prop} {x1 : Int} {w : Wd} (h : Cw d 22 [mR 2, mI x1] w (fun _ w' => Wp (Cw d) cd_Tokens_takeRun (0, 0, n1) Q 44 [none, none, none, none, none] [] w')) : Wp (Cw d) cd_Tokens_takeRun (0, 0, n1) Q 41 [mR 2, mI x1, none, none, none] [] w :=
  Wp.s (Wp.s (Wp.s (Cw_mono _ _ _ _ _ _ (fun r w' q => Wp.fgd (leA.f (leA.f (leA.f (leA.f (leA.f leA.e))))) q) h)))
theorem Tokens_takeRun_2_b44 {d : Nat} {n1 : Int} {Q : MV → Wd → Prop} {w : Wd} (h : Wp (Cw d) cd_Tokens_takeRun (0, 0, n1) Q 48 [none, none, none, none, none] [] w) : Wp (Cw d) cd_Tokens_takeRun (0, 0, n1) Q 44 [none, none, none, none, none] [] w :=
  Wp.s h
theorem Tokens_takeRun_2_b45 {d : Nat} {n1 : Int} {Q : MV → Wd → Prop} {w : Wd} (h : Wp (Cw d) cd_Tokens_takeRun (0, 0, n1) Q 48 [none, none, none, none, none] [] (ub w 2 5 2)) : Wp (Cw d) cd_Tokens_takeRun (0, 0, n1) Q 45 [mR 2, none, none, none, none] [] w :=
  Wp.s (Wp.s (Wp.s (Wp.fgd (leA.f (leA.f (leA.f (leA.f (leA.f leA.e))))) h)))
theorem Tokens_takeRun_2_b48 {d : Nat} {n1 : Int} {Q : MV → Wd → Prop} {w : Wd} (h : Q none w) : Wp (Cw d) cd_Tokens_takeRun (0, 0, n1) Q 48 [none, none, none, none, none] [] w :=
  Wp.s h
theorem Tokens_word_2_b0 {d : Nat} {n1 : Int} {Q : MV → Wd → Prop} {w : Wd} (h1 : ¬ w 2 5 = 5 → Wp (Cw d) cd_Tokens_word (1, 0, n1) Q 7 [none] [] w) (h2 : ¬ (¬ w 2 5 = 5) → Wp (Cw d) cd_Tokens_word (1, 0, n1) Q 4 [mR 2] [] w) : Wp (Cw d) cd_Tokens_word (1, 0, n1) Q 0 [mR 2] [] w :=
  Wp.s (Wp.s (Wp.s (Wp.s ⟨fun q => Wp.fgd (leA.f leA.e) (h1 q), fun q => h2 q⟩)))
theorem Tokens_word_2_b4 {d : Nat} {n1 : Int} {Q : MV → Wd → Prop} {w : Wd} (h : Wp (Cw d) cd_Tokens_word (1, 0, n1) Q 8 [none] [mI (w 2 6)] w) : Wp (Cw d) cd_Tokens_word (1, 0, n1) Q 4 [mR 2] [] w :=
  Wp.s (Wp.s (Wp.s (Wp.fgd (leA.f leA.e) h)))
theorem Tokens_word_2_b7 {d : Nat} {n1 : Int} {Q : MV → Wd → Prop} {w : Wd} (h : Wp (Cw d) cd_Tokens_word (1, 0, n1) Q 8 [none] [mI ((-1))] w) : Wp (Cw d) cd_Tokens_word (1, 0, n1) Q 7 [none] [] w :=
  Wp.s h
theorem Tokens_word_2_b8 {d : Nat} {n1 : Int} {Q : MV → Wd → Prop} {s0 : Int} {w : Wd} (h : Q (mI s0) w) : Wp (Cw d) cd_Tokens_word (1, 0, n1) Q 8 [none] [mI s0] w :=
  Wp.s h
theorem Village_lawLine_16_2_b0 {d : Nat} {n1 : Int} {Q : MV → Wd → Prop} {w : Wd} (h1 : w 16 17 = 0 → Wp (Cw d) cd_Village_lawLine (2, 0, n1) Q 7 [mR 16, mR 2, none] [] w) (h2 : ¬ (w 16 17 = 0) → Wp (Cw d) cd_Village_lawLine (2, 0, n1) Q 3 [none, mR 2, none] [] w) : Wp (Cw d) cd_Village_lawLine (2, 0, n1) Q 0 [mR 16, mR 2, none] [] w :=
  Wp.s (Wp.s (Wp.s ⟨fun q => h1 q, fun q => Wp.fgd (leA.f (leA.k (leA.f leA.e))) (h2 q)⟩))
theorem Village_lawLine_16_2_b3 {d : Nat} {n1 : Int} {Q : MV → Wd → Prop} {w : Wd} (h : Cw d 28 [mR 2, mI 3] w (fun r w' => Wp (Cw d) cd_Village_lawLine (2, 0, n1) Q 6 [none, none, none] [r] w')) : Wp (Cw d) cd_Village_lawLine (2, 0, n1) Q 3 [none, mR 2, none] [] w :=
  Wp.s (Wp.s (Wp.s (Cw_mono _ _ _ _ _ _ (fun r w' q => Wp.fgd (leA.f (leA.f (leA.f leA.e))) q) h)))
theorem Village_lawLine_16_2_b6 {d : Nat} {n1 : Int} {Q : MV → Wd → Prop} {s0 : Int} {w : Wd} (g1 : s0 = 0 ∨ s0 = 1) (h : Q (mI s0) w) : Wp (Cw d) cd_Village_lawLine (2, 0, n1) Q 6 [none, none, none] [mI s0] w :=
  Wp.s ⟨g1, h⟩
theorem Village_lawLine_16_2_b7 {d : Nat} {n1 : Int} {Q : MV → Wd → Prop} {w : Wd} (h : Cw d 18 [mR 2] (ub w 16 17 1) (fun _ w' => Wp (Cw d) cd_Village_lawLine (2, 0, n1) Q 12 [mR 16, mR 2, none] [] w')) : Wp (Cw d) cd_Village_lawLine (2, 0, n1) Q 7 [mR 16, mR 2, none] [] w :=
  Wp.s (Wp.s (Wp.s ⟨(Or.inr rfl), Wp.s (Wp.s h)⟩))
theorem Village_lawLine_16_2_b12 {d : Nat} {n1 : Int} {Q : MV → Wd → Prop} {w : Wd} (h : Cw d 34 [mR 2, mI 2, mI 6] w (fun r w' => Wp (Cw d) cd_Village_lawLine (2, 0, n1) Q 16 [mR 16, mR 2, none] [r] w')) : Wp (Cw d) cd_Village_lawLine (2, 0, n1) Q 12 [mR 16, mR 2, none] [] w :=
  Wp.s (Wp.s (Wp.s (Wp.s h)))
theorem Village_lawLine_16_2_b16 {d : Nat} {n1 : Int} {Q : MV → Wd → Prop} {s0 : Int} {w : Wd} (h1 : ¬ s0 = 0 → Wp (Cw d) cd_Village_lawLine (2, 0, n1) Q 19 [mR 16, mR 2, none] [] w) (h2 : ¬ (¬ s0 = 0) → Wp (Cw d) cd_Village_lawLine (2, 0, n1) Q 17 [none, none, none] [] w) : Wp (Cw d) cd_Village_lawLine (2, 0, n1) Q 16 [mR 16, mR 2, none] [mI s0] w :=
  Wp.s ⟨fun q => h1 q, fun q => Wp.fgd (leA.f (leA.f (leA.f leA.e))) (h2 q)⟩
theorem Village_lawLine_16_2_b17 {d : Nat} {n1 : Int} {Q : MV → Wd → Prop} {w : Wd} (h : Q (mI 0) w) : Wp (Cw d) cd_Village_lawLine (2, 0, n1) Q 17 [none, none, none] [] w :=
  Wp.s (Wp.s ⟨(Or.inl rfl), h⟩)
theorem Village_lawLine_16_2_b19 {d : Nat} {n1 : Int} {Q : MV → Wd → Prop} {w : Wd} (h : Cw d 32 [mR 2] w (fun r w' => Wp (Cw d) cd_Village_lawLine (2, 0, n1) Q 22 [mR 16, mR 2, none] [r, mR 16] w')) : Wp (Cw d) cd_Village_lawLine (2, 0, n1) Q 19 [mR 16, mR 2, none] [] w :=
  Wp.s (Wp.s (Wp.s h))
theorem Village_lawLine_16_2_b22 {d : Nat} {n1 : Int} {Q : MV → Wd → Prop} {s0 : Int} {w : Wd} (h : Cw d 26 [mR 2] (ub w 16 15 s0) (fun r w' => Wp (Cw d) cd_Village_lawLine (2, 0, n1) Q 25 [mR 16, mR 2, none] [r] w')) : Wp (Cw d) cd_Village_lawLine (2, 0, n1) Q 22 [mR 16, mR 2, none] [mI s0, mR 16] w :=
  Wp.s (Wp.s (Wp.s h))
theorem Village_lawLine_16_2_b25 {d : Nat} {n1 : Int} {Q : MV → Wd → Prop} {s0 : Int} {w : Wd} (h1 : s0 < 10 → Wp (Cw d) cd_Village_lawLine (2, 0, n1) Q 32 [none, mR 2, none] [] w) (h2 : ¬ (s0 < 10) → Wp (Cw d) cd_Village_lawLine (2, 0, n1) Q 29 [mR 16, mR 2, mI s0] [] w) : Wp (Cw d) cd_Village_lawLine (2, 0, n1) Q 25 [mR 16, mR 2, none] [mI s0] w :=
  Wp.s (Wp.s (Wp.s (Wp.s ⟨fun q => Wp.fgd (leA.f (leA.k (leA.f leA.e))) (h1 q), fun q => h2 q⟩)))
theorem Village_lawLine_16_2_b29 {d : Nat} {n1 : Int} {Q : MV → Wd → Prop} {x2 : Int} {w : Wd} (h1 : x2 ≤ 13 → Wp (Cw d) cd_Village_lawLine (2, 0, n1) Q 36 [mR 16, mR 2, mI x2] [] w) (h2 : ¬ (x2 ≤ 13) → Wp (Cw d) cd_Village_lawLine (2, 0, n1) Q 32 [none, mR 2, none] [] w) : Wp (Cw d) cd_Village_lawLine (2, 0, n1) Q 29 [mR 16, mR 2, mI x2] [] w :=
  Wp.s (Wp.s (Wp.s ⟨fun q => h1 q, fun q => Wp.fgd (leA.f (leA.k (leA.f leA.e))) (h2 q)⟩))
theorem Village_lawLine_16_2_b32 {d : Nat} {n1 : Int} {Q : MV → Wd → Prop} {w : Wd} (h : Cw d 28 [mR 2, mI 1] w (fun r w' => Wp (Cw d) cd_Village_lawLine (2, 0, n1) Q 35 [none, none, none] [r] w')) : Wp (Cw d) cd_Village_lawLine (2, 0, n1) Q 32 [none, mR 2, none] [] w :=
  Wp.s (Wp.s (Wp.s (Cw_mono _ _ _ _ _ _ (fun r w' q => Wp.fgd (leA.f (leA.f (leA.f leA.e))) q) h)))
theorem Village_lawLine_16_2_b35 {d : Nat} {n1 : Int} {Q : MV → Wd → Prop} {s0 : Int} {w : Wd} (g1 : s0 = 0 ∨ s0 = 1) (h : Q (mI s0) w) : Wp (Cw d) cd_Village_lawLine (2, 0, n1) Q 35 [none, none, none] [mI s0] w :=
  Wp.s ⟨g1, h⟩
theorem Village_lawLine_16_2_b36 {d : Nat} {n1 : Int} {Q : MV → Wd → Prop} {x2 : Int} {w : Wd} (h : Cw d 18 [mR 2] (ub w 16 16 (w32 (x2 - 10))) (fun _ w' => Wp (Cw d) cd_Village_lawLine (2, 0, n1) Q 43 [none, none, none] [] w')) : Wp (Cw d) cd_Village_lawLine (2, 0, n1) Q 36 [mR 16, mR 2, mI x2] [] w :=
  Wp.s (Wp.s (Wp.s (Wp.s (Wp.s (Wp.s (Wp.s (Cw_mono _ _ _ _ _ _ (fun r w' q => Wp.fgd (leA.f (leA.f (leA.f leA.e))) q) h)))))))
theorem Village_lawLine_16_2_b43 {d : Nat} {n1 : Int} {Q : MV → Wd → Prop} {w : Wd} (h : Q (mI 1) w) : Wp (Cw d) cd_Village_lawLine (2, 0, n1) Q 43 [none, none, none] [] w :=
  Wp.s (Wp.s ⟨(Or.inr rfl), h⟩)
theorem Village_givesLine_16_2_b0 {d : Nat} {n1 : Int} {Q : MV → Wd → Prop} {w : Wd} (h : Cw d 18 [mR 2] w (fun _ w' => Wp (Cw d) cd_Village_givesLine (2, 0, n1) Q 2 [mR 16, mR 2, none, none, none] [] w')) : Wp (Cw d) cd_Village_givesLine (2, 0, n1) Q 0 [mR 16, mR 2, none, none, none] [] w :=
  Wp.s (Wp.s h)
theorem Village_givesLine_16_2_b2 {d : Nat} {n1 : Int} {Q : MV → Wd → Prop} {w : Wd} (h : Cw d 38 [mR 16, mR 2, mI ((-1))] w (fun r w' => Wp (Cw d) cd_Village_givesLine (2, 0, n1) Q 6 [mR 16, mR 2, none, none, none] [r] w')) : Wp (Cw d) cd_Village_givesLine (2, 0, n1) Q 2 [mR 16, mR 2, none, none, none] [] w :=
  Wp.s (Wp.s (Wp.s (Wp.s h)))
theorem Village_givesLine_16_2_b6 {d : Nat} {n1 : Int} {Q : MV → Wd → Prop} {s0 : Int} {w : Wd} (h1 : ¬ s0 = (-1) → Wp (Cw d) cd_Village_givesLine (2, 0, n1) Q 12 [mR 16, mR 2, mI s0, none, none] [] w) (h2 : ¬ (¬ s0 = (-1)) → Wp (Cw d) cd_Village_givesLine (2, 0, n1) Q 10 [none, none, none, none, none] [] w) : Wp (Cw d) cd_Village_givesLine (2, 0, n1) Q 6 [mR 16, mR 2, none, none, none] [mI s0] w :=
  Wp.s (Wp.s (Wp.s (Wp.s ⟨fun q => h1 q, fun q => Wp.fgd (leA.f (leA.f (leA.f (leA.f (leA.f leA.e))))) (h2 q)⟩)))
theorem Village_givesLine_16_2_b10 {d : Nat} {n1 : Int} {Q : MV → Wd → Prop} {w : Wd} (h : Q (mI 0) w) : Wp (Cw d) cd_Village_givesLine (2, 0, n1) Q 10 [none, none, none, none, none] [] w :=
  Wp.s (Wp.s ⟨(Or.inl rfl), h⟩)
theorem Village_givesLine_16_2_b12 {d : Nat} {n1 : Int} {Q : MV → Wd → Prop} {x2 : Int} {w : Wd} (h : Cw d 39 [mR 16, mR 2, mI x2] w (fun r w' => Wp (Cw d) cd_Village_givesLine (2, 0, n1) Q 16 [mR 16, mR 2, mI x2, none, none] [r] w')) : Wp (Cw d) cd_Village_givesLine (2, 0, n1) Q 12 [mR 16, mR 2, mI x2, none, none] [] w :=
  Wp.s (Wp.s (Wp.s (Wp.s h)))
theorem Village_givesLine_16_2_b16 {d : Nat} {n1 : Int} {Q : MV → Wd → Prop} {x2 s0 : Int} {w : Wd} (h1 : ¬ s0 = (-1) → Wp (Cw d) cd_Village_givesLine (2, 0, n1) Q 22 [mR 16, mR 2, mI x2, mI s0, none] [] w) (h2 : ¬ (¬ s0 = (-1)) → Wp (Cw d) cd_Village_givesLine (2, 0, n1) Q 20 [none, none, none, none, none] [] w) : Wp (Cw d) cd_Village_givesLine (2, 0, n1) Q 16 [mR 16, mR 2, mI x2, none, none] [mI s0] w :=
  Wp.s (Wp.s (Wp.s (Wp.s ⟨fun q => h1 q, fun q => Wp.fgd (leA.f (leA.f (leA.f (leA.f (leA.f leA.e))))) (h2 q)⟩)))
theorem Village_givesLine_16_2_b20 {d : Nat} {n1 : Int} {Q : MV → Wd → Prop} {w : Wd} (h : Q (mI 0) w) : Wp (Cw d) cd_Village_givesLine (2, 0, n1) Q 20 [none, none, none, none, none] [] w :=
  Wp.s (Wp.s ⟨(Or.inl rfl), h⟩)
theorem Village_givesLine_16_2_b22 {d : Nat} {n1 : Int} {Q : MV → Wd → Prop} {x2 x3 : Int} {w : Wd} (g1 : (0 : Int) ≤ w32 ((w32 (x2 * 8)) + x3) ∧ w32 ((w32 (x2 * 8)) + x3) < 64) (h1 : w 26 (w32 ((w32 (x2 * 8)) + x3)).toNat = (-1) → Wp (Cw d) cd_Village_givesLine (2, 0, n1) Q 38 [mR 16, mR 2, none, none, mI (w32 ((w32 (x2 * 8)) + x3))] [] w) (h2 : ¬ (w 26 (w32 ((w32 (x2 * 8)) + x3)).toNat = (-1)) → Wp (Cw d) cd_Village_givesLine (2, 0, n1) Q 34 [none, mR 2, none, none, none] [] w) : Wp (Cw d) cd_Village_givesLine (2, 0, n1) Q 22 [mR 16, mR 2, mI x2, mI x3, none] [] w :=
  Wp.s (Wp.s (Wp.s (Wp.s (Wp.s (Wp.s (Wp.s (Wp.s (Wp.s (Wp.s ⟨g1, Wp.s (Wp.s ⟨fun q => Wp.fgd (leA.k (leA.k (leA.f (leA.f (leA.k leA.e))))) (h1 q), fun q => Wp.fgd (leA.f (leA.k (leA.f (leA.f (leA.f leA.e))))) (h2 q)⟩)⟩)))))))))
theorem Village_givesLine_16_2_b34 {d : Nat} {n1 : Int} {Q : MV → Wd → Prop} {w : Wd} (h : Cw d 28 [mR 2, mI 3] w (fun r w' => Wp (Cw d) cd_Village_givesLine (2, 0, n1) Q 37 [none, none, none, none, none] [r] w')) : Wp (Cw d) cd_Village_givesLine (2, 0, n1) Q 34 [none, mR 2, none, none, none] [] w :=
  Wp.s (Wp.s (Wp.s (Cw_mono _ _ _ _ _ _ (fun r w' q => Wp.fgd (leA.f (leA.f (leA.f (leA.f (leA.f leA.e))))) q) h)))
theorem Village_givesLine_16_2_b37 {d : Nat} {n1 : Int} {Q : MV → Wd → Prop} {s0 : Int} {w : Wd} (g1 : s0 = 0 ∨ s0 = 1) (h : Q (mI s0) w) : Wp (Cw d) cd_Village_givesLine (2, 0, n1) Q 37 [none, none, none, none, none] [mI s0] w :=
  Wp.s ⟨g1, h⟩
theorem Village_givesLine_16_2_b38 {d : Nat} {n1 : Int} {Q : MV → Wd → Prop} {x4 : Int} {w : Wd} (h : Cw d 18 [mR 2] w (fun _ w' => Wp (Cw d) cd_Village_givesLine (2, 0, n1) Q 40 [mR 16, mR 2, none, none, mI x4] [] w')) : Wp (Cw d) cd_Village_givesLine (2, 0, n1) Q 38 [mR 16, mR 2, none, none, mI x4] [] w :=
  Wp.s (Wp.s h)
theorem Village_givesLine_16_2_b40 {d : Nat} {n1 : Int} {Q : MV → Wd → Prop} {x4 : Int} {w : Wd} (h : Cw d 34 [mR 2, mI 0, mI 99] w (fun r w' => Wp (Cw d) cd_Village_givesLine (2, 0, n1) Q 44 [mR 16, mR 2, none, none, mI x4] [r] w')) : Wp (Cw d) cd_Village_givesLine (2, 0, n1) Q 40 [mR 16, mR 2, none, none, mI x4] [] w :=
  Wp.s (Wp.s (Wp.s (Wp.s h)))
theorem Village_givesLine_16_2_b44 {d : Nat} {n1 : Int} {Q : MV → Wd → Prop} {x4 s0 : Int} {w : Wd} (h1 : ¬ s0 = 0 → Wp (Cw d) cd_Village_givesLine (2, 0, n1) Q 47 [mR 16, mR 2, none, none, mI x4] [] w) (h2 : ¬ (¬ s0 = 0) → Wp (Cw d) cd_Village_givesLine (2, 0, n1) Q 45 [none, none, none, none, none] [] w) : Wp (Cw d) cd_Village_givesLine (2, 0, n1) Q 44 [mR 16, mR 2, none, none, mI x4] [mI s0] w :=
  Wp.s ⟨fun q => h1 q, fun q => Wp.fgd (leA.f (leA.f (leA.f (leA.f (leA.f leA.e))))) (h2 q)⟩
theorem Village_givesLine_16_2_b45 {d : Nat} {n1 : Int} {Q : MV → Wd → Prop} {w : Wd} (h : Q (mI 0) w) : Wp (Cw d) cd_Village_givesLine (2, 0, n1) Q 45 [none, none, none, none, none] [] w :=
  Wp.s (Wp.s ⟨(Or.inl rfl), h⟩)
theorem Village_givesLine_16_2_b47 {d : Nat} {n1 : Int} {Q : MV → Wd → Prop} {x4 : Int} {w : Wd} (h : Cw d 32 [mR 2] w (fun r w' => Wp (Cw d) cd_Village_givesLine (2, 0, n1) Q 52 [mR 16, mR 2, none, none, mI x4] [r, mI x4, mR 26] w')) : Wp (Cw d) cd_Village_givesLine (2, 0, n1) Q 47 [mR 16, mR 2, none, none, mI x4] [] w :=
  Wp.s (Wp.s (Wp.s (Wp.s (Wp.s h))))
theorem Village_givesLine_16_2_b52 {d : Nat} {n1 : Int} {Q : MV → Wd → Prop} {x4 s0 s1 : Int} {w : Wd} (g1 : (0 : Int) ≤ s1 ∧ s1 < 64) (h : Cw d 34 [mR 2, mI 0, mI 9] (ub w 26 s1.toNat s0) (fun r w' => Wp (Cw d) cd_Village_givesLine (2, 0, n1) Q 57 [mR 16, mR 2, none, none, mI x4] [r] w')) : Wp (Cw d) cd_Village_givesLine (2, 0, n1) Q 52 [mR 16, mR 2, none, none, mI x4] [mI s0, mI s1, mR 26] w :=
  Wp.s ⟨g1, Wp.s (Wp.s (Wp.s (Wp.s h)))⟩
theorem Village_givesLine_16_2_b57 {d : Nat} {n1 : Int} {Q : MV → Wd → Prop} {x4 s0 : Int} {w : Wd} (h1 : ¬ s0 = 0 → Wp (Cw d) cd_Village_givesLine (2, 0, n1) Q 60 [mR 16, mR 2, none, none, mI x4] [] w) (h2 : ¬ (¬ s0 = 0) → Wp (Cw d) cd_Village_givesLine (2, 0, n1) Q 58 [none, none, none, none, none] [] w) : Wp (Cw d) cd_Village_givesLine (2, 0, n1) Q 57 [mR 16, mR 2, none, none, mI x4] [mI s0] w :=
  Wp.s ⟨fun q => h1 q, fun q => Wp.fgd (leA.f (leA.f (leA.f (leA.f (leA.f leA.e))))) (h2 q)⟩
theorem Village_givesLine_16_2_b58 {d : Nat} {n1 : Int} {Q : MV → Wd → Prop} {w : Wd} (h : Q (mI 0) w) : Wp (Cw d) cd_Village_givesLine (2, 0, n1) Q 58 [none, none, none, none, none] [] w :=
  Wp.s (Wp.s ⟨(Or.inl rfl), h⟩)
theorem Village_givesLine_16_2_b60 {d : Nat} {n1 : Int} {Q : MV → Wd → Prop} {x4 : Int} {w : Wd} (h : Cw d 32 [mR 2] w (fun r w' => Wp (Cw d) cd_Village_givesLine (2, 0, n1) Q 65 [none, none, none, none, none] [r, mI x4, mR 27] w')) : Wp (Cw d) cd_Village_givesLine (2, 0, n1) Q 60 [mR 16, mR 2, none, none, mI x4] [] w :=
  Wp.s (Wp.s (Wp.s (Wp.s (Wp.s (Cw_mono _ _ _ _ _ _ (fun r w' q => Wp.fgd (leA.f (leA.f (leA.f (leA.f (leA.f leA.e))))) q) h)))))
theorem Village_givesLine_16_2_b65 {d : Nat} {n1 : Int} {Q : MV → Wd → Prop} {s0 s1 : Int} {w : Wd} (g1 : (0 : Int) ≤ s1 ∧ s1 < 64) (h : Q (mI 1) (ub w 27 s1.toNat s0)) : Wp (Cw d) cd_Village_givesLine (2, 0, n1) Q 65 [none, none, none, none, none] [mI s0, mI s1, mR 27] w :=
  Wp.s ⟨g1, Wp.s (Wp.s ⟨(Or.inr rfl), h⟩)⟩
theorem Village_wantsLine_16_2_b0 {d : Nat} {n1 : Int} {Q : MV → Wd → Prop} {w : Wd} (h1 : w 16 11 < 8 → Wp (Cw d) cd_Village_wantsLine (2, 0, n1) Q 8 [mR 16, mR 2, none, none, none, none, none] [] w) (h2 : ¬ (w 16 11 < 8) → Wp (Cw d) cd_Village_wantsLine (2, 0, n1) Q 4 [none, mR 2, none, none, none, none, none] [] w) : Wp (Cw d) cd_Village_wantsLine (2, 0, n1) Q 0 [mR 16, mR 2, none, none, none, none, none] [] w :=
  Wp.s (Wp.s (Wp.s (Wp.s ⟨fun q => h1 q, fun q => Wp.fgd (leA.f (leA.k (leA.f (leA.f (leA.f (leA.f (leA.f leA.e))))))) (h2 q)⟩)))
theorem Village_wantsLine_16_2_b4 {d : Nat} {n1 : Int} {Q : MV → Wd → Prop} {w : Wd} (h : Cw d 28 [mR 2, mI 4] w (fun r w' => Wp (Cw d) cd_Village_wantsLine (2, 0, n1) Q 7 [none, none, none, none, none, none, none] [r] w')) : Wp (Cw d) cd_Village_wantsLine (2, 0, n1) Q 4 [none, mR 2, none, none, none, none, none] [] w :=
  Wp.s (Wp.s (Wp.s (Cw_mono _ _ _ _ _ _ (fun r w' q => Wp.fgd (leA.f (leA.f (leA.f (leA.f (leA.f (leA.f (leA.f leA.e))))))) q) h)))
theorem Village_wantsLine_16_2_b7 {d : Nat} {n1 : Int} {Q : MV → Wd → Prop} {s0 : Int} {w : Wd} (g1 : s0 = 0 ∨ s0 = 1) (h : Q (mI s0) w) : Wp (Cw d) cd_Village_wantsLine (2, 0, n1) Q 7 [none, none, none, none, none, none, none] [mI s0] w :=
  Wp.s ⟨g1, h⟩
theorem Village_wantsLine_16_2_b8 {d : Nat} {n1 : Int} {Q : MV → Wd → Prop} {w : Wd} (h : Cw d 18 [mR 2] w (fun _ w' => Wp (Cw d) cd_Village_wantsLine (2, 0, n1) Q 10 [mR 16, mR 2, none, none, none, none, none] [] w')) : Wp (Cw d) cd_Village_wantsLine (2, 0, n1) Q 8 [mR 16, mR 2, none, none, none, none, none] [] w :=
  Wp.s (Wp.s h)
theorem Village_wantsLine_16_2_b10 {d : Nat} {n1 : Int} {Q : MV → Wd → Prop} {w : Wd} (h : Cw d 38 [mR 16, mR 2, mI ((-1))] w (fun r w' => Wp (Cw d) cd_Village_wantsLine (2, 0, n1) Q 14 [mR 16, mR 2, none, none, none, none, none] [r] w')) : Wp (Cw d) cd_Village_wantsLine (2, 0, n1) Q 10 [mR 16, mR 2, none, none, none, none, none] [] w :=
  Wp.s (Wp.s (Wp.s (Wp.s h)))
theorem Village_wantsLine_16_2_b14 {d : Nat} {n1 : Int} {Q : MV → Wd → Prop} {s0 : Int} {w : Wd} (h1 : ¬ s0 = (-1) → Wp (Cw d) cd_Village_wantsLine (2, 0, n1) Q 20 [mR 16, mR 2, mI s0, none, none, none, none] [] w) (h2 : ¬ (¬ s0 = (-1)) → Wp (Cw d) cd_Village_wantsLine (2, 0, n1) Q 18 [none, none, none, none, none, none, none] [] w) : Wp (Cw d) cd_Village_wantsLine (2, 0, n1) Q 14 [mR 16, mR 2, none, none, none, none, none] [mI s0] w :=
  Wp.s (Wp.s (Wp.s (Wp.s ⟨fun q => h1 q, fun q => Wp.fgd (leA.f (leA.f (leA.f (leA.f (leA.f (leA.f (leA.f leA.e))))))) (h2 q)⟩)))
theorem Village_wantsLine_16_2_b18 {d : Nat} {n1 : Int} {Q : MV → Wd → Prop} {w : Wd} (h : Q (mI 0) w) : Wp (Cw d) cd_Village_wantsLine (2, 0, n1) Q 18 [none, none, none, none, none, none, none] [] w :=
  Wp.s (Wp.s ⟨(Or.inl rfl), h⟩)
theorem Village_wantsLine_16_2_b20 {d : Nat} {n1 : Int} {Q : MV → Wd → Prop} {x2 : Int} {w : Wd} (h : Cw d 40 [mR 16, mR 2] w (fun r w' => Wp (Cw d) cd_Village_wantsLine (2, 0, n1) Q 23 [mR 16, mR 2, mI x2, none, none, none, none] [r] w')) : Wp (Cw d) cd_Village_wantsLine (2, 0, n1) Q 20 [mR 16, mR 2, mI x2, none, none, none, none] [] w :=
  Wp.s (Wp.s (Wp.s h))
theorem Village_wantsLine_16_2_b23 {d : Nat} {n1 : Int} {Q : MV → Wd → Prop} {x2 s0 : Int} {w : Wd} (h1 : s0 = (-1) → Wp (Cw d) cd_Village_wantsLine (2, 0, n1) Q 32 [none, none, none, none, none, none, none] [] w) (h2 : ¬ (s0 = (-1)) → Wp (Cw d) cd_Village_wantsLine (2, 0, n1) Q 27 [mR 16, mR 2, mI x2, mI s0, none, none, none] [] w) : Wp (Cw d) cd_Village_wantsLine (2, 0, n1) Q 23 [mR 16, mR 2, mI x2, none, none, none, none] [mI s0] w :=
  Wp.s (Wp.s (Wp.s (Wp.s ⟨fun q => Wp.fgd (leA.f (leA.f (leA.f (leA.f (leA.f (leA.f (leA.f leA.e))))))) (h1 q), fun q => h2 q⟩)))
theorem Village_wantsLine_16_2_b27 {d : Nat} {n1 : Int} {Q : MV → Wd → Prop} {x2 x3 : Int} {w : Wd} (h : Cw d 34 [mR 2, mI 0, mI 999] w (fun r w' => Wp (Cw d) cd_Village_wantsLine (2, 0, n1) Q 31 [mR 16, mR 2, mI x2, mI x3, none, none, none] [r] w')) : Wp (Cw d) cd_Village_wantsLine (2, 0, n1) Q 27 [mR 16, mR 2, mI x2, mI x3, none, none, none] [] w :=
  Wp.s (Wp.s (Wp.s (Wp.s h)))
theorem Village_wantsLine_16_2_b31 {d : Nat} {n1 : Int} {Q : MV → Wd → Prop} {x2 x3 s0 : Int} {w : Wd} (h1 : ¬ s0 = 0 → Wp (Cw d) cd_Village_wantsLine (2, 0, n1) Q 34 [mR 16, mR 2, mI x2, mI x3, none, none, none] [] w) (h2 : ¬ (¬ s0 = 0) → Wp (Cw d) cd_Village_wantsLine (2, 0, n1) Q 32 [none, none, none, none, none, none, none] [] w) : Wp (Cw d) cd_Village_wantsLine (2, 0, n1) Q 31 [mR 16, mR 2, mI x2, mI x3, none, none, none] [mI s0] w :=
  Wp.s ⟨fun q => h1 q, fun q => Wp.fgd (leA.f (leA.f (leA.f (leA.f (leA.f (leA.f (leA.f leA.e))))))) (h2 q)⟩
theorem Village_wantsLine_16_2_b32 {d : Nat} {n1 : Int} {Q : MV → Wd → Prop} {w : Wd} (h : Q (mI 0) w) : Wp (Cw d) cd_Village_wantsLine (2, 0, n1) Q 32 [none, none, none, none, none, none, none] [] w :=
  Wp.s (Wp.s ⟨(Or.inl rfl), h⟩)
theorem Village_wantsLine_16_2_b34 {d : Nat} {n1 : Int} {Q : MV → Wd → Prop} {x2 x3 : Int} {w : Wd} (h : Cw d 32 [mR 2] w (fun r w' => Wp (Cw d) cd_Village_wantsLine (2, 0, n1) Q 36 [mR 16, mR 2, mI x2, mI x3, none, none, none] [r] w')) : Wp (Cw d) cd_Village_wantsLine (2, 0, n1) Q 34 [mR 16, mR 2, mI x2, mI x3, none, none, none] [] w :=
  Wp.s (Wp.s h)
theorem Village_wantsLine_16_2_b36 {d : Nat} {n1 : Int} {Q : MV → Wd → Prop} {x2 x3 s0 : Int} {w : Wd} (h : Cw d 33 [mR 2, mI 7] w (fun r w' => Wp (Cw d) cd_Village_wantsLine (2, 0, n1) Q 42 [mR 16, mR 2, mI x2, mI x3, mI s0, mI 47, none] [r] w')) : Wp (Cw d) cd_Village_wantsLine (2, 0, n1) Q 36 [mR 16, mR 2, mI x2, mI x3, none, none, none] [mI s0] w :=
  Wp.s (Wp.s (Wp.s (Wp.s (Wp.s (Wp.s h)))))
theorem Village_wantsLine_16_2_b42 {d : Nat} {n1 : Int} {Q : MV → Wd → Prop} {x2 x3 x4 x5 s0 : Int} {w : Wd} (h1 : s0 = 0 → Wp (Cw d) cd_Village_wantsLine (2, 0, n1) Q 53 [mR 16, none, mI x2, mI x3, mI x4, mI x5, none] [] w) (h2 : ¬ (s0 = 0) → Wp (Cw d) cd_Village_wantsLine (2, 0, n1) Q 43 [mR 16, mR 2, mI x2, mI x3, mI x4, none, none] [] w) : Wp (Cw d) cd_Village_wantsLine (2, 0, n1) Q 42 [mR 16, mR 2, mI x2, mI x3, mI x4, mI x5, none] [mI s0] w :=
  Wp.s ⟨fun q => Wp.fgd (leA.k (leA.f (leA.k (leA.k (leA.k (leA.k (leA.f leA.e))))))) (h1 q), fun q => Wp.fgd (leA.k (leA.k (leA.k (leA.k (leA.k (leA.f (leA.f leA.e))))))) (h2 q)⟩
theorem Village_wantsLine_16_2_b43 {d : Nat} {n1 : Int} {Q : MV → Wd → Prop} {x2 x3 x4 : Int} {w : Wd} (h : Cw d 34 [mR 2, mI 0, mI 47] w (fun r w' => Wp (Cw d) cd_Village_wantsLine (2, 0, n1) Q 47 [mR 16, mR 2, mI x2, mI x3, mI x4, none, none] [r] w')) : Wp (Cw d) cd_Village_wantsLine (2, 0, n1) Q 43 [mR 16, mR 2, mI x2, mI x3, mI x4, none, none] [] w :=
  Wp.s (Wp.s (Wp.s (Wp.s h)))
theorem Village_wantsLine_16_2_b47 {d : Nat} {n1 : Int} {Q : MV → Wd → Prop} {x2 x3 x4 s0 : Int} {w : Wd} (h1 : ¬ s0 = 0 → Wp (Cw d) cd_Village_wantsLine (2, 0, n1) Q 50 [mR 16, mR 2, mI x2, mI x3, mI x4, none, none] [] w) (h2 : ¬ (¬ s0 = 0) → Wp (Cw d) cd_Village_wantsLine (2, 0, n1) Q 48 [none, none, none, none, none, none, none] [] w) : Wp (Cw d) cd_Village_wantsLine (2, 0, n1) Q 47 [mR 16, mR 2, mI x2, mI x3, mI x4, none, none] [mI s0] w :=
  Wp.s ⟨fun q => h1 q, fun q => Wp.fgd (leA.f (leA.f (leA.f (leA.f (leA.f (leA.f (leA.f leA.e))))))) (h2 q)⟩
theorem Village_wantsLine_16_2_b48 {d : Nat} {n1 : Int} {Q : MV → Wd → Prop} {w : Wd} (h : Q (mI 0) w) : Wp (Cw d) cd_Village_wantsLine (2, 0, n1) Q 48 [none, none, none, none, none, none, none] [] w :=
  Wp.s (Wp.s ⟨(Or.inl rfl), h⟩)
theorem Village_wantsLine_16_2_b50 {d : Nat} {n1 : Int} {Q : MV → Wd → Prop} {x2 x3 x4 : Int} {w : Wd} (h : Cw d 32 [mR 2] w (fun r w' => Wp (Cw d) cd_Village_wantsLine (2, 0, n1) Q 52 [mR 16, none, mI x2, mI x3, mI x4, none, none] [r] w')) : Wp (Cw d) cd_Village_wantsLine (2, 0, n1) Q 50 [mR 16, mR 2, mI x2, mI x3, mI x4, none, none] [] w :=
  Wp.s (Wp.s (Cw_mono _ _ _ _ _ _ (fun r w' q => Wp.fgd (leA.k (leA.f (leA.k (leA.k (leA.k (leA.f (leA.f leA.e))))))) q) h))
theorem Village_wantsLine_16_2_b52 {d : Nat} {n1 : Int} {Q : MV → Wd → Prop} {x2 x3 x4 s0 : Int} {w : Wd} (h : Wp (Cw d) cd_Village_wantsLine (2, 0, n1) Q 53 [mR 16, none, mI x2, mI x3, mI x4, mI s0, none] [] w) : Wp (Cw d) cd_Village_wantsLine (2, 0, n1) Q 52 [mR 16, none, mI x2, mI x3, mI x4, none, none] [mI s0] w :=
  Wp.s h
theorem Village_wantsLine_16_2_b53 {d : Nat} {n1 : Int} {Q : MV → Wd → Prop} {x2 x3 x4 x5 : Int} {w : Wd} (g1 : (0 : Int) ≤ w32 ((w32 ((w 16 11) * 4)) + 0) ∧ w32 ((w32 ((w 16 11) * 4)) + 0) < 32) (g2 : (0 : Int) ≤ w32 ((w32 ((w 16 11) * 4)) + 1) ∧ w32 ((w32 ((w 16 11) * 4)) + 1) < 32) (g3 : (0 : Int) ≤ w32 ((w32 ((w 16 11) * 4)) + 2) ∧ w32 ((w32 ((w 16 11) * 4)) + 2) < 32) (g4 : (0 : Int) ≤ w32 ((w32 ((w 16 11) * 4)) + 3) ∧ w32 ((w32 ((w 16 11) * 4)) + 3) < 32) (h : Q (mI 1) (ub (ub (ub (ub (ub w 25 (w32 ((w32 ((w 16 11) * 4)) + 0)).toNat x2) 25 (w32 ((w32 ((w 16 11) * 4)) + 1)).toNat x3) 25 (w32 ((w32 ((w 16 11) * 4)) + 2)).toNat x4) 25 (w32 ((w32 ((w 16 11) * 4)) + 3)).toNat x5) 16 11 (w32 ((w 16 11) + 1)))) : Wp (Cw d) cd_Village_wantsLine (2, 0, n1) Q 53 [mR 16, none, mI x2, mI x3, mI x4, mI x5, none] [] w :=
  Wp.s (Wp.s (Wp.s (Wp.s (Wp.s (Wp.s (Wp.s (Wp.s (Wp.s (Wp.s (Wp.s (Wp.s ⟨g1, Wp.s (Wp.s (Wp.s (Wp.s (Wp.s (Wp.s (Wp.s ⟨g2, Wp.s (Wp.s (Wp.s (Wp.s (Wp.s (Wp.s (Wp.s ⟨g3, Wp.s (Wp.s (Wp.s (Wp.s (Wp.s (Wp.s (Wp.s ⟨g4, Wp.s (Wp.s (Wp.s (Wp.s (Wp.s (Wp.s (Wp.s (Wp.s ⟨(Or.inr rfl), h⟩)))))))⟩))))))⟩))))))⟩))))))⟩)))))))))))
theorem Village_makesLine_16_2_b0 {d : Nat} {n1 : Int} {Q : MV → Wd → Prop} {w : Wd} (h : Cw d 18 [mR 2] w (fun _ w' => Wp (Cw d) cd_Village_makesLine (2, 0, n1) Q 2 [mR 16, mR 2, none, none, none, none, none, none, none] [] w')) : Wp (Cw d) cd_Village_makesLine (2, 0, n1) Q 0 [mR 16, mR 2, none, none, none, none, none, none, none] [] w :=
  Wp.s (Wp.s h)
theorem Village_makesLine_16_2_b2 {d : Nat} {n1 : Int} {Q : MV → Wd → Prop} {w : Wd} (h : Cw d 38 [mR 16, mR 2, mI ((-1))] w (fun r w' => Wp (Cw d) cd_Village_makesLine (2, 0, n1) Q 6 [mR 16, mR 2, none, none, none, none, none, none, none] [r] w')) : Wp (Cw d) cd_Village_makesLine (2, 0, n1) Q 2 [mR 16, mR 2, none, none, none, none, none, none, none] [] w :=
  Wp.s (Wp.s (Wp.s (Wp.s h)))
theorem Village_makesLine_16_2_b6 {d : Nat} {n1 : Int} {Q : MV → Wd → Prop} {s0 : Int} {w : Wd} (h1 : ¬ s0 = (-1) → Wp (Cw d) cd_Village_makesLine (2, 0, n1) Q 12 [mR 16, mR 2, mI s0, none, none, none, none, none, none] [] w) (h2 : ¬ (¬ s0 = (-1)) → Wp (Cw d) cd_Village_makesLine (2, 0, n1) Q 10 [none, none, none, none, none, none, none, none, none] [] w) : Wp (Cw d) cd_Village_makesLine (2, 0, n1) Q 6 [mR 16, mR 2, none, none, none, none, none, none, none] [mI s0] w :=
  Wp.s (Wp.s (Wp.s (Wp.s ⟨fun q => h1 q, fun q => Wp.fgd (leA.f (leA.f (leA.f (leA.f (leA.f (leA.f (leA.f (leA.f (leA.f leA.e))))))))) (h2 q)⟩)))
theorem Village_makesLine_16_2_b10 {d : Nat} {n1 : Int} {Q : MV → Wd → Prop} {w : Wd} (h : Q (mI 0) w) : Wp (Cw d) cd_Village_makesLine (2, 0, n1) Q 10 [none, none, none, none, none, none, none, none, none] [] w :=
  Wp.s (Wp.s ⟨(Or.inl rfl), h⟩)
theorem Village_makesLine_16_2_b12 {d : Nat} {n1 : Int} {Q : MV → Wd → Prop} {x2 : Int} {w : Wd} (h : Cw d 33 [mR 2, mI 5] w (fun r w' => Wp (Cw d) cd_Village_makesLine (2, 0, n1) Q 17 [mR 16, mR 2, mI x2, mI ((-1)), none, none, none, none, none] [r] w')) : Wp (Cw d) cd_Village_makesLine (2, 0, n1) Q 12 [mR 16, mR 2, mI x2, none, none, none, none, none, none] [] w :=
  Wp.s (Wp.s (Wp.s (Wp.s (Wp.s h))))
theorem Village_makesLine_16_2_b17 {d : Nat} {n1 : Int} {Q : MV → Wd → Prop} {x2 x3 s0 : Int} {w : Wd} (h1 : s0 = 0 → Wp (Cw d) cd_Village_makesLine (2, 0, n1) Q 28 [mR 16, mR 2, mI x2, mI x3, none, none, none, none, none] [] w) (h2 : ¬ (s0 = 0) → Wp (Cw d) cd_Village_makesLine (2, 0, n1) Q 18 [mR 16, mR 2, mI x2, none, none, none, none, none, none] [] w) : Wp (Cw d) cd_Village_makesLine (2, 0, n1) Q 17 [mR 16, mR 2, mI x2, mI x3, none, none, none, none, none] [mI s0] w :=
  Wp.s ⟨fun q => h1 q, fun q => Wp.fgd (leA.k (leA.k (leA.k (leA.f (leA.f (leA.f (leA.f (leA.f (leA.f leA.e))))))))) (h2 q)⟩
theorem Village_makesLine_16_2_b18 {d : Nat} {n1 : Int} {Q : MV → Wd → Prop} {x2 : Int} {w : Wd} (h : Cw d 38 [mR 16, mR 2, mI x2] w (fun r w' => Wp (Cw d) cd_Village_makesLine (2, 0, n1) Q 22 [mR 16, mR 2, mI x2, none, none, none, none, none, none] [r] w')) : Wp (Cw d) cd_Village_makesLine (2, 0, n1) Q 18 [mR 16, mR 2, mI x2, none, none, none, none, none, none] [] w :=
  Wp.s (Wp.s (Wp.s (Wp.s h)))
theorem Village_makesLine_16_2_b22 {d : Nat} {n1 : Int} {Q : MV → Wd → Prop} {x2 s0 : Int} {w : Wd} (h1 : ¬ s0 = (-1) → Wp (Cw d) cd_Village_makesLine (2, 0, n1) Q 28 [mR 16, mR 2, mI x2, mI s0, none, none, none, none, none] [] w) (h2 : ¬ (¬ s0 = (-1)) → Wp (Cw d) cd_Village_makesLine (2, 0, n1) Q 26 [none, none, none, none, none, none, none, none, none] [] w) : Wp (Cw d) cd_Village_makesLine (2, 0, n1) Q 22 [mR 16, mR 2, mI x2, none, none, none, none, none, none] [mI s0] w :=
  Wp.s (Wp.s (Wp.s (Wp.s ⟨fun q => h1 q, fun q => Wp.fgd (leA.f (leA.f (leA.f (leA.f (leA.f (leA.f (leA.f (leA.f (leA.f leA.e))))))))) (h2 q)⟩)))
theorem Village_makesLine_16_2_b26 {d : Nat} {n1 : Int} {Q : MV → Wd → Prop} {w : Wd} (h : Q (mI 0) w) : Wp (Cw d) cd_Village_makesLine (2, 0, n1) Q 26 [none, none, none, none, none, none, none, none, none] [] w :=
  Wp.s (Wp.s ⟨(Or.inl rfl), h⟩)
theorem Village_makesLine_16_2_b28 {d : Nat} {n1 : Int} {Q : MV → Wd → Prop} {x2 x3 : Int} {w : Wd} (h : Cw d 40 [mR 16, mR 2] w (fun r w' => Wp (Cw d) cd_Village_makesLine (2, 0, n1) Q 31 [mR 16, mR 2, mI x2, mI x3, none, none, none, none, none] [r] w')) : Wp (Cw d) cd_Village_makesLine (2, 0, n1) Q 28 [mR 16, mR 2, mI x2, mI x3, none, none, none, none, none] [] w :=
  Wp.s (Wp.s (Wp.s h))
theorem Village_makesLine_16_2_b31 {d : Nat} {n1 : Int} {Q : MV → Wd → Prop} {x2 x3 s0 : Int} {w : Wd} (h1 : s0 = (-1) → Wp (Cw d) cd_Village_makesLine (2, 0, n1) Q 40 [none, none, none, none, none, none, none, none, none] [] w) (h2 : ¬ (s0 = (-1)) → Wp (Cw d) cd_Village_makesLine (2, 0, n1) Q 35 [mR 16, mR 2, mI x2, mI x3, mI s0, none, none, none, none] [] w) : Wp (Cw d) cd_Village_makesLine (2, 0, n1) Q 31 [mR 16, mR 2, mI x2, mI x3, none, none, none, none, none] [mI s0] w :=
  Wp.s (Wp.s (Wp.s (Wp.s ⟨fun q => Wp.fgd (leA.f (leA.f (leA.f (leA.f (leA.f (leA.f (leA.f (leA.f (leA.f leA.e))))))))) (h1 q), fun q => h2 q⟩)))
theorem Village_makesLine_16_2_b35 {d : Nat} {n1 : Int} {Q : MV → Wd → Prop} {x2 x3 x4 : Int} {w : Wd} (h : Cw d 34 [mR 2, mI 1, mI 9] w (fun r w' => Wp (Cw d) cd_Village_makesLine (2, 0, n1) Q 39 [mR 16, mR 2, mI x2, mI x3, mI x4, none, none, none, none] [r] w')) : Wp (Cw d) cd_Village_makesLine (2, 0, n1) Q 35 [mR 16, mR 2, mI x2, mI x3, mI x4, none, none, none, none] [] w :=
  Wp.s (Wp.s (Wp.s (Wp.s h)))
theorem Village_makesLine_16_2_b39 {d : Nat} {n1 : Int} {Q : MV → Wd → Prop} {x2 x3 x4 s0 : Int} {w : Wd} (h1 : ¬ s0 = 0 → Wp (Cw d) cd_Village_makesLine (2, 0, n1) Q 42 [mR 16, mR 2, mI x2, mI x3, mI x4, none, none, none, none] [] w) (h2 : ¬ (¬ s0 = 0) → Wp (Cw d) cd_Village_makesLine (2, 0, n1) Q 40 [none, none, none, none, none, none, none, none, none] [] w) : Wp (Cw d) cd_Village_makesLine (2, 0, n1) Q 39 [mR 16, mR 2, mI x2, mI x3, mI x4, none, none, none, none] [mI s0] w :=
  Wp.s ⟨fun q => h1 q, fun q => Wp.fgd (leA.f (leA.f (leA.f (leA.f (leA.f (leA.f (leA.f (leA.f (leA.f leA.e))))))))) (h2 q)⟩
theorem Village_makesLine_16_2_b40 {d : Nat} {n1 : Int} {Q : MV → Wd → Prop} {w : Wd} (h : Q (mI 0) w) : Wp (Cw d) cd_Village_makesLine (2, 0, n1) Q 40 [none, none, none, none, none, none, none, none, none] [] w :=
  Wp.s (Wp.s ⟨(Or.inl rfl), h⟩)
theorem Village_makesLine_16_2_b42 {d : Nat} {n1 : Int} {Q : MV → Wd → Prop} {x2 x3 x4 : Int} {w : Wd} (h1 : w32 ((w 16 8) + (w 2 6)) ≤ 16 → Wp (Cw d) cd_Village_makesLine (2, 0, n1) Q 53 [mR 16, mR 2, mI x2, mI x3, mI x4, none, none, none, none] [] w) (h2 : ¬ (w32 ((w 16 8) + (w 2 6)) ≤ 16) → Wp (Cw d) cd_Village_makesLine (2, 0, n1) Q 49 [none, mR 2, none, none, none, none, none, none, none] [] w) : Wp (Cw d) cd_Village_makesLine (2, 0, n1) Q 42 [mR 16, mR 2, mI x2, mI x3, mI x4, none, none, none, none] [] w :=
  Wp.s (Wp.s (Wp.s (Wp.s (Wp.s (Wp.s (Wp.s ⟨fun q => h1 q, fun q => Wp.fgd (leA.f (leA.k (leA.f (leA.f (leA.f (leA.f (leA.f (leA.f (leA.f leA.e))))))))) (h2 q)⟩))))))
theorem Village_makesLine_16_2_b49 {d : Nat} {n1 : Int} {Q : MV → Wd → Prop} {w : Wd} (h : Cw d 28 [mR 2, mI 4] w (fun r w' => Wp (Cw d) cd_Village_makesLine (2, 0, n1) Q 52 [none, none, none, none, none, none, none, none, none] [r] w')) : Wp (Cw d) cd_Village_makesLine (2, 0, n1) Q 49 [none, mR 2, none, none, none, none, none, none, none] [] w :=
  Wp.s (Wp.s (Wp.s (Cw_mono _ _ _ _ _ _ (fun r w' q => Wp.fgd (leA.f (leA.f (leA.f (leA.f (leA.f (leA.f (leA.f (leA.f (leA.f leA.e))))))))) q) h)))
theorem Village_makesLine_16_2_b52 {d : Nat} {n1 : Int} {Q : MV → Wd → Prop} {s0 : Int} {w : Wd} (g1 : s0 = 0 ∨ s0 = 1) (h : Q (mI s0) w) : Wp (Cw d) cd_Village_makesLine (2, 0, n1) Q 52 [none, none, none, none, none, none, none, none, none] [mI s0] w :=
  Wp.s ⟨g1, h⟩
theorem Village_makesLine_16_2_b53 {d : Nat} {n1 : Int} {Q : MV → Wd → Prop} {x2 x3 x4 : Int} {w : Wd} (h : Cw d 32 [mR 2] w (fun r w' => Wp (Cw d) cd_Village_makesLine (2, 0, n1) Q 55 [mR 16, mR 2, mI x2, mI x3, mI x4, none, none, none, none] [r] w')) : Wp (Cw d) cd_Village_makesLine (2, 0, n1) Q 53 [mR 16, mR 2, mI x2, mI x3, mI x4, none, none, none, none] [] w :=
  Wp.s (Wp.s h)
theorem Village_makesLine_16_2_b55 {d : Nat} {n1 : Int} {Q : MV → Wd → Prop} {x2 x3 x4 s0 : Int} {w : Wd} (h : Cw d 34 [mR 2, mI 0, mI 47] w (fun r w' => Wp (Cw d) cd_Village_makesLine (2, 0, n1) Q 60 [mR 16, mR 2, mI x2, mI x3, mI x4, mI s0, none, none, none] [r] w')) : Wp (Cw d) cd_Village_makesLine (2, 0, n1) Q 55 [mR 16, mR 2, mI x2, mI x3, mI x4, none, none, none, none] [mI s0] w :=
  Wp.s (Wp.s (Wp.s (Wp.s (Wp.s h))))
theorem Village_makesLine_16_2_b60 {d : Nat} {n1 : Int} {Q : MV → Wd → Prop} {x2 x3 x4 x5 s0 : Int} {w : Wd} (h1 : ¬ s0 = 0 → Wp (Cw d) cd_Village_makesLine (2, 0, n1) Q 63 [mR 16, mR 2, mI x2, mI x3, mI x4, mI x5, none, none, none] [] w) (h2 : ¬ (¬ s0 = 0) → Wp (Cw d) cd_Village_makesLine (2, 0, n1) Q 61 [none, none, none, none, none, none, none, none, none] [] w) : Wp (Cw d) cd_Village_makesLine (2, 0, n1) Q 60 [mR 16, mR 2, mI x2, mI x3, mI x4, mI x5, none, none, none] [mI s0] w :=
  Wp.s ⟨fun q => h1 q, fun q => Wp.fgd (leA.f (leA.f (leA.f (leA.f (leA.f (leA.f (leA.f (leA.f (leA.f leA.e))))))))) (h2 q)⟩
theorem Village_makesLine_16_2_b61 {d : Nat} {n1 : Int} {Q : MV → Wd → Prop} {w : Wd} (h : Q (mI 0) w) : Wp (Cw d) cd_Village_makesLine (2, 0, n1) Q 61 [none, none, none, none, none, none, none, none, none] [] w :=
  Wp.s (Wp.s ⟨(Or.inl rfl), h⟩)
theorem Village_makesLine_16_2_b63 {d : Nat} {n1 : Int} {Q : MV → Wd → Prop} {x2 x3 x4 x5 : Int} {w : Wd} (h : Cw d 32 [mR 2] w (fun r w' => Wp (Cw d) cd_Village_makesLine (2, 0, n1) Q 65 [mR 16, none, mI x2, mI x3, mI x4, mI x5, none, none, none] [r] w')) : Wp (Cw d) cd_Village_makesLine (2, 0, n1) Q 63 [mR 16, mR 2, mI x2, mI x3, mI x4, mI x5, none, none, none] [] w :=
  Wp.s (Wp.s (Cw_mono _ _ _ _ _ _ (fun r w' q => Wp.fgd (leA.k (leA.f (leA.k (leA.k (leA.k (leA.k (leA.f (leA.f (leA.f leA.e))))))))) q) h))
theorem Village_makesLine_16_2_b65 {d : Nat} {n1 : Int} {Q : MV → Wd → Prop} {x2 x3 x4 x5 s0 : Int} {w : Wd} (h : Wp (Cw d) cd_Village_makesLine (2, 0, n1) Q 71 [mR 16, none, mI x2, mI x3, mI x4, mI x5, mI s0, mI (w 16 8), mI 0] [] w) : Wp (Cw d) cd_Village_makesLine (2, 0, n1) Q 65 [mR 16, none, mI x2, mI x3, mI x4, mI x5, none, none, none] [mI s0] w :=
  Wp.s (Wp.s (Wp.s (Wp.s (Wp.s (Wp.s h)))))
theorem Village_makesLine_16_2_b71 {d : Nat} {n1 : Int} {Q : MV → Wd → Prop} {x2 x3 x4 x5 x6 x7 x8 : Int} {w : Wd} (h1 : x5 ≤ x8 → Wp (Cw d) cd_Village_makesLine (2, 0, n1) Q 83 [none, none, none, none, none, none, none, none, none] [] w) (h2 : ¬ (x5 ≤ x8) → Wp (Cw d) cd_Village_makesLine (2, 0, n1) Q 74 [mR 16, none, mI x2, mI x3, mI x4, mI x5, mI x6, mI x7, mI x8] [] w) : Wp (Cw d) cd_Village_makesLine (2, 0, n1) Q 71 [mR 16, none, mI x2, mI x3, mI x4, mI x5, mI x6, mI x7, mI x8] [] w :=
  Wp.s (Wp.s (Wp.s ⟨fun q => Wp.fgd (leA.f (leA.f (leA.f (leA.f (leA.f (leA.f (leA.f (leA.f (leA.f leA.e))))))))) (h1 q), fun q => h2 q⟩))
theorem Village_makesLine_16_2_b74 {d : Nat} {n1 : Int} {Q : MV → Wd → Prop} {x2 x3 x4 x5 x6 x7 x8 : Int} {w : Wd} (h : Cw d 41 [mR 16, mI x7, mI x4, mI x2, mI x3, mI x6] w (fun _ w' => Wp (Cw d) cd_Village_makesLine (2, 0, n1) Q 81 [mR 16, none, mI x2, mI x3, mI x4, mI x5, mI x6, mI x7, mI x8] [] w')) : Wp (Cw d) cd_Village_makesLine (2, 0, n1) Q 74 [mR 16, none, mI x2, mI x3, mI x4, mI x5, mI x6, mI x7, mI x8] [] w :=
  Wp.s (Wp.s (Wp.s (Wp.s (Wp.s (Wp.s (Wp.s h))))))
theorem Village_makesLine_16_2_b81 {d : Nat} {n1 : Int} {Q : MV → Wd → Prop} {x2 x3 x4 x5 x6 x7 x8 : Int} {w : Wd} (h : Wp (Cw d) cd_Village_makesLine (2, 0, n1) Q 71 [mR 16, none, mI x2, mI x3, mI x4, mI x5, mI x6, mI x7, mI (w32 (x8 + 1))] [] w) : Wp (Cw d) cd_Village_makesLine (2, 0, n1) Q 81 [mR 16, none, mI x2, mI x3, mI x4, mI x5, mI x6, mI x7, mI x8] [] w :=
  Wp.s (Wp.s h)
theorem Village_makesLine_16_2_b83 {d : Nat} {n1 : Int} {Q : MV → Wd → Prop} {w : Wd} (h : Q (mI 1) w) : Wp (Cw d) cd_Village_makesLine (2, 0, n1) Q 83 [none, none, none, none, none, none, none, none, none] [] w :=
  Wp.s (Wp.s ⟨(Or.inr rfl), h⟩)
theorem Village_sortLine_16_2_b0 {d : Nat} {n1 : Int} {Q : MV → Wd → Prop} {w : Wd} (h1 : w 16 5 < 6 → Wp (Cw d) cd_Village_sortLine (2, 0, n1) Q 8 [mR 16, mR 2, none] [] w) (h2 : ¬ (w 16 5 < 6) → Wp (Cw d) cd_Village_sortLine (2, 0, n1) Q 4 [none, mR 2, none] [] w) : Wp (Cw d) cd_Village_sortLine (2, 0, n1) Q 0 [mR 16, mR 2, none] [] w :=
  Wp.s (Wp.s (Wp.s (Wp.s ⟨fun q => h1 q, fun q => Wp.fgd (leA.f (leA.k (leA.f leA.e))) (h2 q)⟩)))
theorem Village_sortLine_16_2_b4 {d : Nat} {n1 : Int} {Q : MV → Wd → Prop} {w : Wd} (h : Cw d 28 [mR 2, mI 4] w (fun r w' => Wp (Cw d) cd_Village_sortLine (2, 0, n1) Q 7 [none, none, none] [r] w')) : Wp (Cw d) cd_Village_sortLine (2, 0, n1) Q 4 [none, mR 2, none] [] w :=
  Wp.s (Wp.s (Wp.s (Cw_mono _ _ _ _ _ _ (fun r w' q => Wp.fgd (leA.f (leA.f (leA.f leA.e))) q) h)))
theorem Village_sortLine_16_2_b7 {d : Nat} {n1 : Int} {Q : MV → Wd → Prop} {s0 : Int} {w : Wd} (g1 : s0 = 0 ∨ s0 = 1) (h : Q (mI s0) w) : Wp (Cw d) cd_Village_sortLine (2, 0, n1) Q 7 [none, none, none] [mI s0] w :=
  Wp.s ⟨g1, h⟩
theorem Village_sortLine_16_2_b8 {d : Nat} {n1 : Int} {Q : MV → Wd → Prop} {w : Wd} (h : Cw d 18 [mR 2] w (fun _ w' => Wp (Cw d) cd_Village_sortLine (2, 0, n1) Q 10 [mR 16, mR 2, none] [] w')) : Wp (Cw d) cd_Village_sortLine (2, 0, n1) Q 8 [mR 16, mR 2, none] [] w :=
  Wp.s (Wp.s h)
theorem Village_sortLine_16_2_b10 {d : Nat} {n1 : Int} {Q : MV → Wd → Prop} {w : Wd} (h : Cw d 29 [mR 16, mR 2] w (fun r w' => Wp (Cw d) cd_Village_sortLine (2, 0, n1) Q 13 [mR 16, mR 2, none] [r] w')) : Wp (Cw d) cd_Village_sortLine (2, 0, n1) Q 10 [mR 16, mR 2, none] [] w :=
  Wp.s (Wp.s (Wp.s h))
theorem Village_sortLine_16_2_b13 {d : Nat} {n1 : Int} {Q : MV → Wd → Prop} {s0 : Int} {w : Wd} (h1 : ¬ s0 = 0 → Wp (Cw d) cd_Village_sortLine (2, 0, n1) Q 16 [mR 16, mR 2, none] [] w) (h2 : ¬ (¬ s0 = 0) → Wp (Cw d) cd_Village_sortLine (2, 0, n1) Q 14 [none, none, none] [] w) : Wp (Cw d) cd_Village_sortLine (2, 0, n1) Q 13 [mR 16, mR 2, none] [mI s0] w :=
  Wp.s ⟨fun q => h1 q, fun q => Wp.fgd (leA.f (leA.f (leA.f leA.e))) (h2 q)⟩
theorem Village_sortLine_16_2_b14 {d : Nat} {n1 : Int} {Q : MV → Wd → Prop} {w : Wd} (h : Q (mI 0) w) : Wp (Cw d) cd_Village_sortLine (2, 0, n1) Q 14 [none, none, none] [] w :=
  Wp.s (Wp.s ⟨(Or.inl rfl), h⟩)
theorem Village_sortLine_16_2_b16 {d : Nat} {n1 : Int} {Q : MV → Wd → Prop} {w : Wd} (h : Cw d 32 [mR 2] w (fun r w' => Wp (Cw d) cd_Village_sortLine (2, 0, n1) Q 18 [mR 16, mR 2, none] [r] w')) : Wp (Cw d) cd_Village_sortLine (2, 0, n1) Q 16 [mR 16, mR 2, none] [] w :=
  Wp.s (Wp.s h)
theorem Village_sortLine_16_2_b18 {d : Nat} {n1 : Int} {Q : MV → Wd → Prop} {s0 : Int} {w : Wd} (h : Cw d 34 [mR 2, mI 1, mI 48] w (fun r w' => Wp (Cw d) cd_Village_sortLine (2, 0, n1) Q 23 [mR 16, mR 2, mI s0] [r] w')) : Wp (Cw d) cd_Village_sortLine (2, 0, n1) Q 18 [mR 16, mR 2, none] [mI s0] w :=
  Wp.s (Wp.s (Wp.s (Wp.s (Wp.s h))))
theorem Village_sortLine_16_2_b23 {d : Nat} {n1 : Int} {Q : MV → Wd → Prop} {x2 s0 : Int} {w : Wd} (h1 : ¬ s0 = 0 → Wp (Cw d) cd_Village_sortLine (2, 0, n1) Q 26 [mR 16, mR 2, mI x2] [] w) (h2 : ¬ (¬ s0 = 0) → Wp (Cw d) cd_Village_sortLine (2, 0, n1) Q 24 [none, none, none] [] w) : Wp (Cw d) cd_Village_sortLine (2, 0, n1) Q 23 [mR 16, mR 2, mI x2] [mI s0] w :=
  Wp.s ⟨fun q => h1 q, fun q => Wp.fgd (leA.f (leA.f (leA.f leA.e))) (h2 q)⟩
theorem Village_sortLine_16_2_b24 {d : Nat} {n1 : Int} {Q : MV → Wd → Prop} {w : Wd} (h : Q (mI 0) w) : Wp (Cw d) cd_Village_sortLine (2, 0, n1) Q 24 [none, none, none] [] w :=
  Wp.s (Wp.s ⟨(Or.inl rfl), h⟩)
theorem Village_sortLine_16_2_b26 {d : Nat} {n1 : Int} {Q : MV → Wd → Prop} {x2 : Int} {w : Wd} (g1 : (0 : Int) ≤ w 16 5 ∧ w 16 5 < 6) (h : Cw d 32 [mR 2] (ub w 21 (w 16 5).toNat x2) (fun r w' => Wp (Cw d) cd_Village_sortLine (2, 0, n1) Q 38 [mR 16, none, none] [r, mI (w 16 5), mR 22] w')) : Wp (Cw d) cd_Village_sortLine (2, 0, n1) Q 26 [mR 16, mR 2, mI x2] [] w :=
  Wp.s (Wp.s (Wp.s (Wp.s (Wp.s (Wp.s ⟨g1, Wp.s (Wp.s (Wp.s (Wp.s (Wp.s (Wp.s (Cw_mono _ _ _ _ _ _ (fun r w' q => Wp.fgd (leA.k (leA.f (leA.f leA.e))) q) h))))))⟩)))))
theorem Village_sortLine_16_2_b38 {d : Nat} {n1 : Int} {Q : MV → Wd → Prop} {s0 s1 : Int} {w : Wd} (g1 : (0 : Int) ≤ s1 ∧ s1 < 6) (h : Q (mI 1) (ub (ub w 22 s1.toNat s0) 16 5 (w32 ((w 16 5) + 1)))) : Wp (Cw d) cd_Village_sortLine (2, 0, n1) Q 38 [mR 16, none, none] [mI s0, mI s1, mR 22] w :=
  Wp.s ⟨g1, Wp.s (Wp.s (Wp.s (Wp.s (Wp.s (Wp.s (Wp.s (Wp.s ⟨(Or.inr rfl), h⟩)))))))⟩
theorem Village_whoLine_16_2_b0 {d : Nat} {n1 : Int} {Q : MV → Wd → Prop} {w : Wd} (h1 : w 16 0 < 8 → Wp (Cw d) cd_Village_whoLine (2, 0, n1) Q 8 [mR 16, mR 2, none] [] w) (h2 : ¬ (w 16 0 < 8) → Wp (Cw d) cd_Village_whoLine (2, 0, n1) Q 4 [none, mR 2, none] [] w) : Wp (Cw d) cd_Village_whoLine (2, 0, n1) Q 0 [mR 16, mR 2, none] [] w :=
  Wp.s (Wp.s (Wp.s (Wp.s ⟨fun q => h1 q, fun q => Wp.fgd (leA.f (leA.k (leA.f leA.e))) (h2 q)⟩)))
theorem Village_whoLine_16_2_b4 {d : Nat} {n1 : Int} {Q : MV → Wd → Prop} {w : Wd} (h : Cw d 28 [mR 2, mI 4] w (fun r w' => Wp (Cw d) cd_Village_whoLine (2, 0, n1) Q 7 [none, none, none] [r] w')) : Wp (Cw d) cd_Village_whoLine (2, 0, n1) Q 4 [none, mR 2, none] [] w :=
  Wp.s (Wp.s (Wp.s (Cw_mono _ _ _ _ _ _ (fun r w' q => Wp.fgd (leA.f (leA.f (leA.f leA.e))) q) h)))
theorem Village_whoLine_16_2_b7 {d : Nat} {n1 : Int} {Q : MV → Wd → Prop} {s0 : Int} {w : Wd} (g1 : s0 = 0 ∨ s0 = 1) (h : Q (mI s0) w) : Wp (Cw d) cd_Village_whoLine (2, 0, n1) Q 7 [none, none, none] [mI s0] w :=
  Wp.s ⟨g1, h⟩
theorem Village_whoLine_16_2_b8 {d : Nat} {n1 : Int} {Q : MV → Wd → Prop} {w : Wd} (h : Cw d 18 [mR 2] w (fun _ w' => Wp (Cw d) cd_Village_whoLine (2, 0, n1) Q 10 [mR 16, mR 2, none] [] w')) : Wp (Cw d) cd_Village_whoLine (2, 0, n1) Q 8 [mR 16, mR 2, none] [] w :=
  Wp.s (Wp.s h)
theorem Village_whoLine_16_2_b10 {d : Nat} {n1 : Int} {Q : MV → Wd → Prop} {w : Wd} (h : Cw d 29 [mR 16, mR 2] w (fun r w' => Wp (Cw d) cd_Village_whoLine (2, 0, n1) Q 13 [mR 16, mR 2, none] [r] w')) : Wp (Cw d) cd_Village_whoLine (2, 0, n1) Q 10 [mR 16, mR 2, none] [] w :=
  Wp.s (Wp.s (Wp.s h))
theorem Village_whoLine_16_2_b13 {d : Nat} {n1 : Int} {Q : MV → Wd → Prop} {s0 : Int} {w : Wd} (h1 : ¬ s0 = 0 → Wp (Cw d) cd_Village_whoLine (2, 0, n1) Q 16 [mR 16, mR 2, none] [] w) (h2 : ¬ (¬ s0 = 0) → Wp (Cw d) cd_Village_whoLine (2, 0, n1) Q 14 [none, none, none] [] w) : Wp (Cw d) cd_Village_whoLine (2, 0, n1) Q 13 [mR 16, mR 2, none] [mI s0] w :=
  Wp.s ⟨fun q => h1 q, fun q => Wp.fgd (leA.f (leA.f (leA.f leA.e))) (h2 q)⟩
theorem Village_whoLine_16_2_b14 {d : Nat} {n1 : Int} {Q : MV → Wd → Prop} {w : Wd} (h : Q (mI 0) w) : Wp (Cw d) cd_Village_whoLine (2, 0, n1) Q 14 [none, none, none] [] w :=
  Wp.s (Wp.s ⟨(Or.inl rfl), h⟩)
theorem Village_whoLine_16_2_b16 {d : Nat} {n1 : Int} {Q : MV → Wd → Prop} {w : Wd} (h : Cw d 32 [mR 2] w (fun r w' => Wp (Cw d) cd_Village_whoLine (2, 0, n1) Q 24 [mR 16, mR 2, mI (w 16 0)] [r, mI (w 16 0), mR 17] w')) : Wp (Cw d) cd_Village_whoLine (2, 0, n1) Q 16 [mR 16, mR 2, none] [] w :=
  Wp.s (Wp.s (Wp.s (Wp.s (Wp.s (Wp.s (Wp.s (Wp.s h)))))))
theorem Village_whoLine_16_2_b24 {d : Nat} {n1 : Int} {Q : MV → Wd → Prop} {x2 s0 s1 : Int} {w : Wd} (g1 : (0 : Int) ≤ s1 ∧ s1 < 8) (g2 : (0 : Int) ≤ x2 ∧ x2 < 8) (g3 : (0 : Int) ≤ x2 ∧ x2 < 8) (h : Cw d 33 [mR 2, mI 1] (ub (ub (ub (ub w 17 s1.toNat s0) 18 x2.toNat 0) 20 x2.toNat 0) 16 0 (w32 ((w 16 0) + 1))) (fun r w' => Wp (Cw d) cd_Village_whoLine (2, 0, n1) Q 44 [mR 16, mR 2, mI x2] [r] w')) : Wp (Cw d) cd_Village_whoLine (2, 0, n1) Q 24 [mR 16, mR 2, mI x2] [mI s0, mI s1, mR 17] w :=
  Wp.s ⟨g1, Wp.s (Wp.s (Wp.s (Wp.s (Wp.s ⟨g2, Wp.s (Wp.s (Wp.s (Wp.s (Wp.s ⟨g3, Wp.s (Wp.s (Wp.s (Wp.s (Wp.s (Wp.s (Wp.s (Wp.s (Wp.s h))))))))⟩))))⟩))))⟩
theorem Village_whoLine_16_2_b44 {d : Nat} {n1 : Int} {Q : MV → Wd → Prop} {x2 s0 : Int} {w : Wd} (h1 : s0 = 0 → Wp (Cw d) cd_Village_whoLine (2, 0, n1) Q 58 [mR 16, mR 2, mI x2] [] w) (h2 : ¬ (s0 = 0) → Wp (Cw d) cd_Village_whoLine (2, 0, n1) Q 45 [mR 16, mR 2, mI x2] [] w) : Wp (Cw d) cd_Village_whoLine (2, 0, n1) Q 44 [mR 16, mR 2, mI x2] [mI s0] w :=
  Wp.s ⟨fun q => h1 q, fun q => h2 q⟩
theorem Village_whoLine_16_2_b45 {d : Nat} {n1 : Int} {Q : MV → Wd → Prop} {x2 : Int} {w : Wd} (h : Cw d 34 [mR 2, mI 0, mI 9] w (fun r w' => Wp (Cw d) cd_Village_whoLine (2, 0, n1) Q 49 [mR 16, mR 2, mI x2] [r] w')) : Wp (Cw d) cd_Village_whoLine (2, 0, n1) Q 45 [mR 16, mR 2, mI x2] [] w :=
  Wp.s (Wp.s (Wp.s (Wp.s h)))
theorem Village_whoLine_16_2_b49 {d : Nat} {n1 : Int} {Q : MV → Wd → Prop} {x2 s0 : Int} {w : Wd} (h1 : ¬ s0 = 0 → Wp (Cw d) cd_Village_whoLine (2, 0, n1) Q 52 [mR 16, mR 2, mI x2] [] w) (h2 : ¬ (¬ s0 = 0) → Wp (Cw d) cd_Village_whoLine (2, 0, n1) Q 50 [none, none, none] [] w) : Wp (Cw d) cd_Village_whoLine (2, 0, n1) Q 49 [mR 16, mR 2, mI x2] [mI s0] w :=
  Wp.s ⟨fun q => h1 q, fun q => Wp.fgd (leA.f (leA.f (leA.f leA.e))) (h2 q)⟩
theorem Village_whoLine_16_2_b50 {d : Nat} {n1 : Int} {Q : MV → Wd → Prop} {w : Wd} (h : Q (mI 0) w) : Wp (Cw d) cd_Village_whoLine (2, 0, n1) Q 50 [none, none, none] [] w :=
  Wp.s (Wp.s ⟨(Or.inl rfl), h⟩)
theorem Village_whoLine_16_2_b52 {d : Nat} {n1 : Int} {Q : MV → Wd → Prop} {x2 : Int} {w : Wd} (h : Cw d 32 [mR 2] w (fun r w' => Wp (Cw d) cd_Village_whoLine (2, 0, n1) Q 57 [mR 16, mR 2, mI x2] [r, mI x2, mR 18] w')) : Wp (Cw d) cd_Village_whoLine (2, 0, n1) Q 52 [mR 16, mR 2, mI x2] [] w :=
  Wp.s (Wp.s (Wp.s (Wp.s (Wp.s h))))
theorem Village_whoLine_16_2_b57 {d : Nat} {n1 : Int} {Q : MV → Wd → Prop} {x2 s0 s1 : Int} {w : Wd} (g1 : (0 : Int) ≤ s1 ∧ s1 < 8) (h : Wp (Cw d) cd_Village_whoLine (2, 0, n1) Q 58 [mR 16, mR 2, mI x2] [] (ub w 18 s1.toNat s0)) : Wp (Cw d) cd_Village_whoLine (2, 0, n1) Q 57 [mR 16, mR 2, mI x2] [mI s0, mI s1, mR 18] w :=
  Wp.s ⟨g1, h⟩
theorem Village_whoLine_16_2_b58 {d : Nat} {n1 : Int} {Q : MV → Wd → Prop} {x2 : Int} {w : Wd} (h : Cw d 33 [mR 2, mI 2] w (fun r w' => Wp (Cw d) cd_Village_whoLine (2, 0, n1) Q 61 [mR 16, mR 2, mI x2] [r] w')) : Wp (Cw d) cd_Village_whoLine (2, 0, n1) Q 58 [mR 16, mR 2, mI x2] [] w :=
  Wp.s (Wp.s (Wp.s h))
theorem Village_whoLine_16_2_b61 {d : Nat} {n1 : Int} {Q : MV → Wd → Prop} {x2 s0 : Int} {w : Wd} (h1 : s0 = 0 → Wp (Cw d) cd_Village_whoLine (2, 0, n1) Q 75 [mR 16, none, mI x2] [] w) (h2 : ¬ (s0 = 0) → Wp (Cw d) cd_Village_whoLine (2, 0, n1) Q 62 [mR 16, mR 2, mI x2] [] w) : Wp (Cw d) cd_Village_whoLine (2, 0, n1) Q 61 [mR 16, mR 2, mI x2] [mI s0] w :=
  Wp.s ⟨fun q => Wp.fgd (leA.k (leA.f (leA.k leA.e))) (h1 q), fun q => h2 q⟩
theorem Village_whoLine_16_2_b62 {d : Nat} {n1 : Int} {Q : MV → Wd → Prop} {x2 : Int} {w : Wd} (h : Cw d 34 [mR 2, mI 0, mI 99] w (fun r w' => Wp (Cw d) cd_Village_whoLine (2, 0, n1) Q 66 [mR 16, mR 2, mI x2] [r] w')) : Wp (Cw d) cd_Village_whoLine (2, 0, n1) Q 62 [mR 16, mR 2, mI x2] [] w :=
  Wp.s (Wp.s (Wp.s (Wp.s h)))
theorem Village_whoLine_16_2_b66 {d : Nat} {n1 : Int} {Q : MV → Wd → Prop} {x2 s0 : Int} {w : Wd} (h1 : ¬ s0 = 0 → Wp (Cw d) cd_Village_whoLine (2, 0, n1) Q 69 [mR 16, mR 2, mI x2] [] w) (h2 : ¬ (¬ s0 = 0) → Wp (Cw d) cd_Village_whoLine (2, 0, n1) Q 67 [none, none, none] [] w) : Wp (Cw d) cd_Village_whoLine (2, 0, n1) Q 66 [mR 16, mR 2, mI x2] [mI s0] w :=
  Wp.s ⟨fun q => h1 q, fun q => Wp.fgd (leA.f (leA.f (leA.f leA.e))) (h2 q)⟩
theorem Village_whoLine_16_2_b67 {d : Nat} {n1 : Int} {Q : MV → Wd → Prop} {w : Wd} (h : Q (mI 0) w) : Wp (Cw d) cd_Village_whoLine (2, 0, n1) Q 67 [none, none, none] [] w :=
  Wp.s (Wp.s ⟨(Or.inl rfl), h⟩)
theorem Village_whoLine_16_2_b69 {d : Nat} {n1 : Int} {Q : MV → Wd → Prop} {x2 : Int} {w : Wd} (h : Cw d 32 [mR 2] w (fun r w' => Wp (Cw d) cd_Village_whoLine (2, 0, n1) Q 74 [mR 16, none, mI x2] [r, mI x2, mR 20] w')) : Wp (Cw d) cd_Village_whoLine (2, 0, n1) Q 69 [mR 16, mR 2, mI x2] [] w :=
  Wp.s (Wp.s (Wp.s (Wp.s (Wp.s (Cw_mono _ _ _ _ _ _ (fun r w' q => Wp.fgd (leA.k (leA.f (leA.k leA.e))) q) h)))))
theorem Village_whoLine_16_2_b74 {d : Nat} {n1 : Int} {Q : MV → Wd → Prop} {x2 s0 s1 : Int} {w : Wd} (g1 : (0 : Int) ≤ s1 ∧ s1 < 8) (h : Wp (Cw d) cd_Village_whoLine (2, 0, n1) Q 75 [mR 16, none, mI x2] [] (ub w 20 s1.toNat s0)) : Wp (Cw d) cd_Village_whoLine (2, 0, n1) Q 74 [mR 16, none, mI x2] [mI s0, mI s1, mR 20] w :=
  Wp.s ⟨g1, h⟩
theorem Village_whoLine_16_2_b75 {d : Nat} {n1 : Int} {Q : MV → Wd → Prop} {x2 : Int} {w : Wd} (h : Cw d 35 [mR 16, mI x2] w (fun _ w' => Wp (Cw d) cd_Village_whoLine (2, 0, n1) Q 78 [none, none, none] [] w')) : Wp (Cw d) cd_Village_whoLine (2, 0, n1) Q 75 [mR 16, none, mI x2] [] w :=
  Wp.s (Wp.s (Wp.s (Cw_mono _ _ _ _ _ _ (fun r w' q => Wp.fgd (leA.f (leA.f (leA.f leA.e))) q) h)))
theorem Village_whoLine_16_2_b78 {d : Nat} {n1 : Int} {Q : MV → Wd → Prop} {w : Wd} (h : Q (mI 1) w) : Wp (Cw d) cd_Village_whoLine (2, 0, n1) Q 78 [none, none, none] [] w :=
  Wp.s (Wp.s ⟨(Or.inr rfl), h⟩)
theorem Tokens_fail_2_b0 {d : Nat} {n1 : Int} {Q : MV → Wd → Prop} {x1 : Int} {w : Wd} (h : Q (mI 0) (ub w 2 8 x1)) : Wp (Cw d) cd_Tokens_fail (2, 0, n1) Q 0 [mR 2, mI x1] [] w :=
  Wp.s (Wp.s (Wp.s (Wp.s (Wp.s ⟨(Or.inl rfl), h⟩))))
theorem M_fresh_144_b0 {d : Nat} {n1 : Int} {Q : MV → Wd → Prop} {w : Wd} (h : Cw d 184 [mR 144] w (fun r w' => Wp (Cw d) cd_M_fresh (2, 0, n1) Q 2 [mR 144] [r] w')) : Wp (Cw d) cd_M_fresh (2, 0, n1) Q 0 [mR 144] [] w :=
  Wp.s (Wp.s h)
theorem M_fresh_144_b2 {d : Nat} {n1 : Int} {Q : MV → Wd → Prop} {s0 : Int} {w : Wd} (h1 : ¬ s0 = 0 → Wp (Cw d) cd_M_fresh (2, 0, n1) Q 7 [mR 144] [] w) (h2 : ¬ (¬ s0 = 0) → Wp (Cw d) cd_M_fresh (2, 0, n1) Q 3 [mR 144] [] w) : Wp (Cw d) cd_M_fresh (2, 0, n1) Q 2 [mR 144] [mI s0] w :=
  Wp.s ⟨fun q => h1 q, fun q => h2 q⟩
theorem M_fresh_144_b3 {d : Nat} {n1 : Int} {Q : MV → Wd → Prop} {w : Wd} (h : Cw d 182 [mR 144, mI 1] w (fun r w' => Wp (Cw d) cd_M_fresh (2, 0, n1) Q 6 [none] [r] w')) : Wp (Cw d) cd_M_fresh (2, 0, n1) Q 3 [mR 144] [] w :=
  Wp.s (Wp.s (Wp.s (Cw_mono _ _ _ _ _ _ (fun r w' q => Wp.fgd (leA.f leA.e) q) h)))
theorem M_fresh_144_b6 {d : Nat} {n1 : Int} {Q : MV → Wd → Prop} {s0 : Int} {w : Wd} (g1 : s0 = 0 ∨ s0 = 1) (h : Q (mI s0) w) : Wp (Cw d) cd_M_fresh (2, 0, n1) Q 6 [none] [mI s0] w :=
  Wp.s ⟨g1, h⟩
theorem M_fresh_144_b7 {d : Nat} {n1 : Int} {Q : MV → Wd → Prop} {w : Wd} (h : Cw d 185 [mR 144, mI 14, mI (w 147 0.toNat)] w (fun r w' => Wp (Cw d) cd_M_fresh (2, 0, n1) Q 14 [mR 144] [r] w')) : Wp (Cw d) cd_M_fresh (2, 0, n1) Q 7 [mR 144] [] w :=
  Wp.s (Wp.s (Wp.s (Wp.s (Wp.s (Wp.s ⟨(by decide), Wp.s h⟩)))))
theorem M_fresh_144_b14 {d : Nat} {n1 : Int} {Q : MV → Wd → Prop} {s0 : Int} {w : Wd} (h1 : 0 ≤ s0 → Wp (Cw d) cd_M_fresh (2, 0, n1) Q 23 [mR 144] [] w) (h2 : ¬ (0 ≤ s0) → Wp (Cw d) cd_M_fresh (2, 0, n1) Q 15 [mR 144] [] w) : Wp (Cw d) cd_M_fresh (2, 0, n1) Q 14 [mR 144] [mI s0] w :=
  Wp.s ⟨fun q => h1 q, fun q => h2 q⟩
theorem M_fresh_144_b15 {d : Nat} {n1 : Int} {Q : MV → Wd → Prop} {w : Wd} (h : Cw d 185 [mR 144, mI 22, mI (w 147 1.toNat)] w (fun r w' => Wp (Cw d) cd_M_fresh (2, 0, n1) Q 22 [mR 144] [r] w')) : Wp (Cw d) cd_M_fresh (2, 0, n1) Q 15 [mR 144] [] w :=
  Wp.s (Wp.s (Wp.s (Wp.s (Wp.s (Wp.s ⟨(by decide), Wp.s h⟩)))))
theorem M_fresh_144_b22 {d : Nat} {n1 : Int} {Q : MV → Wd → Prop} {s0 : Int} {w : Wd} (h1 : s0 < 0 → Wp (Cw d) cd_M_fresh (2, 0, n1) Q 27 [none] [] w) (h2 : ¬ (s0 < 0) → Wp (Cw d) cd_M_fresh (2, 0, n1) Q 23 [mR 144] [] w) : Wp (Cw d) cd_M_fresh (2, 0, n1) Q 22 [mR 144] [mI s0] w :=
  Wp.s ⟨fun q => Wp.fgd (leA.f leA.e) (h1 q), fun q => h2 q⟩
theorem M_fresh_144_b23 {d : Nat} {n1 : Int} {Q : MV → Wd → Prop} {w : Wd} (h : Cw d 182 [mR 144, mI 3] w (fun r w' => Wp (Cw d) cd_M_fresh (2, 0, n1) Q 26 [none] [r] w')) : Wp (Cw d) cd_M_fresh (2, 0, n1) Q 23 [mR 144] [] w :=
  Wp.s (Wp.s (Wp.s (Cw_mono _ _ _ _ _ _ (fun r w' q => Wp.fgd (leA.f leA.e) q) h)))
theorem M_fresh_144_b26 {d : Nat} {n1 : Int} {Q : MV → Wd → Prop} {s0 : Int} {w : Wd} (h1 : s0 = 0 → Wp (Cw d) cd_M_fresh (2, 0, n1) Q 29 [none] [] w) (h2 : ¬ (s0 = 0) → Wp (Cw d) cd_M_fresh (2, 0, n1) Q 27 [none] [] w) : Wp (Cw d) cd_M_fresh (2, 0, n1) Q 26 [none] [mI s0] w :=
  Wp.s ⟨fun q => h1 q, fun q => h2 q⟩
theorem M_fresh_144_b27 {d : Nat} {n1 : Int} {Q : MV → Wd → Prop} {w : Wd} (h : Wp (Cw d) cd_M_fresh (2, 0, n1) Q 30 [none] [mI 1] w) : Wp (Cw d) cd_M_fresh (2, 0, n1) Q 27 [none] [] w :=
  Wp.s (Wp.s h)
theorem M_fresh_144_b29 {d : Nat} {n1 : Int} {Q : MV → Wd → Prop} {w : Wd} (h : Wp (Cw d) cd_M_fresh (2, 0, n1) Q 30 [none] [mI 0] w) : Wp (Cw d) cd_M_fresh (2, 0, n1) Q 29 [none] [] w :=
  Wp.s h
theorem M_fresh_144_b30 {d : Nat} {n1 : Int} {Q : MV → Wd → Prop} {s0 : Int} {w : Wd} (g1 : s0 = 0 ∨ s0 = 1) (h : Q (mI s0) w) : Wp (Cw d) cd_M_fresh (2, 0, n1) Q 30 [none] [mI s0] w :=
  Wp.s ⟨g1, h⟩
theorem M_takesWho_144_b0 {d : Nat} {n1 : Int} {Q : MV → Wd → Prop} {x1 : Int} {w : Wd} (h : Cw d 184 [mR 144] w (fun r w' => Wp (Cw d) cd_M_takesWho (2, 0, n1) Q 2 [mR 144, mI x1] [r] w')) : Wp (Cw d) cd_M_takesWho (2, 0, n1) Q 0 [mR 144, mI x1] [] w :=
  Wp.s (Wp.s h)
theorem M_takesWho_144_b2 {d : Nat} {n1 : Int} {Q : MV → Wd → Prop} {x1 s0 : Int} {w : Wd} (h1 : ¬ s0 = 0 → Wp (Cw d) cd_M_takesWho (2, 0, n1) Q 7 [mR 144, mI x1] [] w) (h2 : ¬ (¬ s0 = 0) → Wp (Cw d) cd_M_takesWho (2, 0, n1) Q 3 [mR 144, none] [] w) : Wp (Cw d) cd_M_takesWho (2, 0, n1) Q 2 [mR 144, mI x1] [mI s0] w :=
  Wp.s ⟨fun q => h1 q, fun q => Wp.fgd (leA.k (leA.f leA.e)) (h2 q)⟩
theorem M_takesWho_144_b3 {d : Nat} {n1 : Int} {Q : MV → Wd → Prop} {w : Wd} (h : Cw d 182 [mR 144, mI 1] w (fun r w' => Wp (Cw d) cd_M_takesWho (2, 0, n1) Q 6 [none, none] [r] w')) : Wp (Cw d) cd_M_takesWho (2, 0, n1) Q 3 [mR 144, none] [] w :=
  Wp.s (Wp.s (Wp.s (Cw_mono _ _ _ _ _ _ (fun r w' q => Wp.fgd (leA.f (leA.f leA.e)) q) h)))
theorem M_takesWho_144_b6 {d : Nat} {n1 : Int} {Q : MV → Wd → Prop} {s0 : Int} {w : Wd} (g1 : s0 = 0 ∨ s0 = 1) (h : Q (mI s0) w) : Wp (Cw d) cd_M_takesWho (2, 0, n1) Q 6 [none, none] [mI s0] w :=
  Wp.s ⟨g1, h⟩
theorem M_takesWho_144_b7 {d : Nat} {n1 : Int} {Q : MV → Wd → Prop} {x1 : Int} {w : Wd} (h : Cw d 185 [mR 144, mI 14, mI (w 147 0.toNat)] w (fun r w' => Wp (Cw d) cd_M_takesWho (2, 0, n1) Q 15 [mR 144, mI x1] [r, mR 144] w')) : Wp (Cw d) cd_M_takesWho (2, 0, n1) Q 7 [mR 144, mI x1] [] w :=
  Wp.s (Wp.s (Wp.s (Wp.s (Wp.s (Wp.s (Wp.s ⟨(by decide), Wp.s h⟩))))))
theorem M_takesWho_144_b15 {d : Nat} {n1 : Int} {Q : MV → Wd → Prop} {x1 s0 : Int} {w : Wd} (h1 : (up1 (w 144) 18 s0) 18 < 0 → Wp (Cw d) cd_M_takesWho (2, 0, n1) Q 23 [mR 144, none] [] (ub w 144 18 s0)) (h2 : ¬ ((up1 (w 144) 18 s0) 18 < 0) → Wp (Cw d) cd_M_takesWho (2, 0, n1) Q 19 [mR 144, mI x1] [] (ub w 144 18 s0)) : Wp (Cw d) cd_M_takesWho (2, 0, n1) Q 15 [mR 144, mI x1] [mI s0, mR 144] w :=
  Wp.s (Wp.s (Wp.s (Wp.s ⟨fun q => Wp.fgd (leA.k (leA.f leA.e)) (h1 q), fun q => h2 q⟩)))
theorem M_takesWho_144_b19 {d : Nat} {n1 : Int} {Q : MV → Wd → Prop} {x1 : Int} {w : Wd} (h1 : ¬ w 144 18 = x1 → Wp (Cw d) cd_M_takesWho (2, 0, n1) Q 27 [mR 144, none] [] w) (h2 : ¬ (¬ w 144 18 = x1) → Wp (Cw d) cd_M_takesWho (2, 0, n1) Q 23 [mR 144, none] [] w) : Wp (Cw d) cd_M_takesWho (2, 0, n1) Q 19 [mR 144, mI x1] [] w :=
  Wp.s (Wp.s (Wp.s (Wp.s ⟨fun q => Wp.fgd (leA.k (leA.f leA.e)) (h1 q), fun q => Wp.fgd (leA.k (leA.f leA.e)) (h2 q)⟩)))
theorem M_takesWho_144_b23 {d : Nat} {n1 : Int} {Q : MV → Wd → Prop} {w : Wd} (h : Cw d 182 [mR 144, mI 3] w (fun r w' => Wp (Cw d) cd_M_takesWho (2, 0, n1) Q 26 [none, none] [r] w')) : Wp (Cw d) cd_M_takesWho (2, 0, n1) Q 23 [mR 144, none] [] w :=
  Wp.s (Wp.s (Wp.s (Cw_mono _ _ _ _ _ _ (fun r w' q => Wp.fgd (leA.f (leA.f leA.e)) q) h)))
theorem M_takesWho_144_b26 {d : Nat} {n1 : Int} {Q : MV → Wd → Prop} {s0 : Int} {w : Wd} (g1 : s0 = 0 ∨ s0 = 1) (h : Q (mI s0) w) : Wp (Cw d) cd_M_takesWho (2, 0, n1) Q 26 [none, none] [mI s0] w :=
  Wp.s ⟨g1, h⟩
theorem M_takesWho_144_b27 {d : Nat} {n1 : Int} {Q : MV → Wd → Prop} {w : Wd} (h : Cw d 175 [mR 144] w (fun _ w' => Wp (Cw d) cd_M_takesWho (2, 0, n1) Q 29 [none, none] [] w')) : Wp (Cw d) cd_M_takesWho (2, 0, n1) Q 27 [mR 144, none] [] w :=
  Wp.s (Wp.s (Cw_mono _ _ _ _ _ _ (fun r w' q => Wp.fgd (leA.f (leA.f leA.e)) q) h))
theorem M_takesWho_144_b29 {d : Nat} {n1 : Int} {Q : MV → Wd → Prop} {w : Wd} (h : Q (mI 1) w) : Wp (Cw d) cd_M_takesWho (2, 0, n1) Q 29 [none, none] [] w :=
  Wp.s (Wp.s ⟨(Or.inr rfl), h⟩)
theorem M_takesSort_144_b0 {d : Nat} {n1 : Int} {Q : MV → Wd → Prop} {w : Wd} (h : Cw d 184 [mR 144] w (fun r w' => Wp (Cw d) cd_M_takesSort (2, 0, n1) Q 2 [mR 144] [r] w')) : Wp (Cw d) cd_M_takesSort (2, 0, n1) Q 0 [mR 144] [] w :=
  Wp.s (Wp.s h)
theorem M_takesSort_144_b2 {d : Nat} {n1 : Int} {Q : MV → Wd → Prop} {s0 : Int} {w : Wd} (h1 : ¬ s0 = 0 → Wp (Cw d) cd_M_takesSort (2, 0, n1) Q 7 [mR 144] [] w) (h2 : ¬ (¬ s0 = 0) → Wp (Cw d) cd_M_takesSort (2, 0, n1) Q 3 [mR 144] [] w) : Wp (Cw d) cd_M_takesSort (2, 0, n1) Q 2 [mR 144] [mI s0] w :=
  Wp.s ⟨fun q => h1 q, fun q => h2 q⟩
theorem M_takesSort_144_b3 {d : Nat} {n1 : Int} {Q : MV → Wd → Prop} {w : Wd} (h : Cw d 182 [mR 144, mI 1] w (fun r w' => Wp (Cw d) cd_M_takesSort (2, 0, n1) Q 6 [none] [r] w')) : Wp (Cw d) cd_M_takesSort (2, 0, n1) Q 3 [mR 144] [] w :=
  Wp.s (Wp.s (Wp.s (Cw_mono _ _ _ _ _ _ (fun r w' q => Wp.fgd (leA.f leA.e) q) h)))
theorem M_takesSort_144_b6 {d : Nat} {n1 : Int} {Q : MV → Wd → Prop} {s0 : Int} {w : Wd} (g1 : s0 = 0 ∨ s0 = 1) (h : Q (mI s0) w) : Wp (Cw d) cd_M_takesSort (2, 0, n1) Q 6 [none] [mI s0] w :=
  Wp.s ⟨g1, h⟩
theorem M_takesSort_144_b7 {d : Nat} {n1 : Int} {Q : MV → Wd → Prop} {w : Wd} (h : Cw d 185 [mR 144, mI 22, mI (w 147 1.toNat)] w (fun r w' => Wp (Cw d) cd_M_takesSort (2, 0, n1) Q 15 [mR 144] [r, mR 144] w')) : Wp (Cw d) cd_M_takesSort (2, 0, n1) Q 7 [mR 144] [] w :=
  Wp.s (Wp.s (Wp.s (Wp.s (Wp.s (Wp.s (Wp.s ⟨(by decide), Wp.s h⟩))))))
theorem M_takesSort_144_b15 {d : Nat} {n1 : Int} {Q : MV → Wd → Prop} {s0 : Int} {w : Wd} (h1 : 0 ≤ (up1 (w 144) 18 s0) 18 → Wp (Cw d) cd_M_takesSort (2, 0, n1) Q 23 [mR 144] [] (ub w 144 18 s0)) (h2 : ¬ (0 ≤ (up1 (w 144) 18 s0) 18) → Wp (Cw d) cd_M_takesSort (2, 0, n1) Q 19 [mR 144] [] (ub w 144 18 s0)) : Wp (Cw d) cd_M_takesSort (2, 0, n1) Q 15 [mR 144] [mI s0, mR 144] w :=
  Wp.s (Wp.s (Wp.s (Wp.s ⟨fun q => h1 q, fun q => h2 q⟩)))
theorem M_takesSort_144_b19 {d : Nat} {n1 : Int} {Q : MV → Wd → Prop} {w : Wd} (h : Cw d 182 [mR 144, mI 3] w (fun r w' => Wp (Cw d) cd_M_takesSort (2, 0, n1) Q 22 [none] [r] w')) : Wp (Cw d) cd_M_takesSort (2, 0, n1) Q 19 [mR 144] [] w :=
  Wp.s (Wp.s (Wp.s (Cw_mono _ _ _ _ _ _ (fun r w' q => Wp.fgd (leA.f leA.e) q) h)))
theorem M_takesSort_144_b22 {d : Nat} {n1 : Int} {Q : MV → Wd → Prop} {s0 : Int} {w : Wd} (g1 : s0 = 0 ∨ s0 = 1) (h : Q (mI s0) w) : Wp (Cw d) cd_M_takesSort (2, 0, n1) Q 22 [none] [mI s0] w :=
  Wp.s ⟨g1, h⟩
theorem M_takesSort_144_b23 {d : Nat} {n1 : Int} {Q : MV → Wd → Prop} {w : Wd} (h : Cw d 175 [mR 144] w (fun _ w' => Wp (Cw d) cd_M_takesSort (2, 0, n1) Q 25 [none] [] w')) : Wp (Cw d) cd_M_takesSort (2, 0, n1) Q 23 [mR 144] [] w :=
  Wp.s (Wp.s (Cw_mono _ _ _ _ _ _ (fun r w' q => Wp.fgd (leA.f leA.e) q) h))
theorem M_takesSort_144_b25 {d : Nat} {n1 : Int} {Q : MV → Wd → Prop} {w : Wd} (h : Q (mI 1) w) : Wp (Cw d) cd_M_takesSort (2, 0, n1) Q 25 [none] [] w :=
  Wp.s (Wp.s ⟨(Or.inr rfl), h⟩)
theorem Ways_walkAll_93_b0 {d : Nat} {n1 : Int} {Q : MV → Wd → Prop} {w : Wd} (h : Wp (Cw d) cd_Ways_walkAll (0, 0, n1) Q 2 [mR 93, mI 0] [] w) : Wp (Cw d) cd_Ways_walkAll (0, 0, n1) Q 0 [mR 93, none] [] w :=
  Wp.s (Wp.s h)
theorem Ways_walkAll_93_b2 {d : Nat} {n1 : Int} {Q : MV → Wd → Prop} {x1 : Int} {w : Wd} (h1 : w 4 8 ≤ x1 → Wp (Cw d) cd_Ways_walkAll (0, 0, n1) Q 19 [none, none] [] w) (h2 : ¬ (w 4 8 ≤ x1) → Wp (Cw d) cd_Ways_walkAll (0, 0, n1) Q 7 [mR 93, mI x1] [] w) : Wp (Cw d) cd_Ways_walkAll (0, 0, n1) Q 2 [mR 93, mI x1] [] w :=
  Wp.s (Wp.s (Wp.s (Wp.s (Wp.s ⟨fun q => Wp.fgd (leA.f (leA.f leA.e)) (h1 q), fun q => h2 q⟩))))
theorem Ways_walkAll_93_b7 {d : Nat} {n1 : Int} {Q : MV → Wd → Prop} {x1 : Int} {w : Wd} (g1 : (0 : Int) ≤ x1 ∧ x1 < 16) (h1 : ¬ w 12 x1.toNat = x1 → Wp (Cw d) cd_Ways_walkAll (0, 0, n1) Q 17 [mR 93, mI x1] [] w) (h2 : ¬ (¬ w 12 x1.toNat = x1) → Wp (Cw d) cd_Ways_walkAll (0, 0, n1) Q 14 [mR 93, mI x1] [] w) : Wp (Cw d) cd_Ways_walkAll (0, 0, n1) Q 7 [mR 93, mI x1] [] w :=
  Wp.s (Wp.s (Wp.s (Wp.s (Wp.s ⟨g1, Wp.s (Wp.s ⟨fun q => h1 q, fun q => h2 q⟩)⟩))))
theorem Ways_walkAll_93_b14 {d : Nat} {n1 : Int} {Q : MV → Wd → Prop} {x1 : Int} {w : Wd} (h : Cw d 59 [mR 93, mI x1] w (fun _ w' => Wp (Cw d) cd_Ways_walkAll (0, 0, n1) Q 17 [mR 93, mI x1] [] w')) : Wp (Cw d) cd_Ways_walkAll (0, 0, n1) Q 14 [mR 93, mI x1] [] w :=
  Wp.s (Wp.s (Wp.s h))
theorem Ways_walkAll_93_b17 {d : Nat} {n1 : Int} {Q : MV → Wd → Prop} {x1 : Int} {w : Wd} (h : Wp (Cw d) cd_Ways_walkAll (0, 0, n1) Q 2 [mR 93, mI (w32 (x1 + 1))] [] w) : Wp (Cw d) cd_Ways_walkAll (0, 0, n1) Q 17 [mR 93, mI x1] [] w :=
  Wp.s (Wp.s h)
theorem Ways_walkAll_93_b19 {d : Nat} {n1 : Int} {Q : MV → Wd → Prop} {w : Wd} (h : Q none w) : Wp (Cw d) cd_Ways_walkAll (0, 0, n1) Q 19 [none, none] [] w :=
  Wp.s h
theorem Meeting_choose_92_b0 {d : Nat} {n1 : Int} {Q : MV → Wd → Prop} {x1 : Int} {w : Wd} (h : Cw d 276 [mR 108, mI 0] w (fun _ w' => Wp (Cw d) cd_Meeting_choose (0, 0, n1) Q 4 [mR 92, mI x1, none, none, none, none] [] w')) : Wp (Cw d) cd_Meeting_choose (0, 0, n1) Q 0 [mR 92, mI x1, none, none, none, none] [] w :=
  Wp.s (Wp.s (Wp.s (Wp.s h)))
theorem Meeting_choose_92_b4 {d : Nat} {n1 : Int} {Q : MV → Wd → Prop} {x1 : Int} {w : Wd} (h : Wp (Cw d) cd_Meeting_choose (0, 0, n1) Q 6 [mR 92, mI x1, mI 0, none, none, none] [] w) : Wp (Cw d) cd_Meeting_choose (0, 0, n1) Q 4 [mR 92, mI x1, none, none, none, none] [] w :=
  Wp.s (Wp.s h)
theorem Meeting_choose_92_b6 {d : Nat} {n1 : Int} {Q : MV → Wd → Prop} {x1 x2 : Int} {w : Wd} (h1 : w 4 8 ≤ x2 → Wp (Cw d) cd_Meeting_choose (0, 0, n1) Q 60 [none, none, none, none, none, none] [] w) (h2 : ¬ (w 4 8 ≤ x2) → Wp (Cw d) cd_Meeting_choose (0, 0, n1) Q 11 [mR 92, mI x1, mI x2, none, none, none] [] w) : Wp (Cw d) cd_Meeting_choose (0, 0, n1) Q 6 [mR 92, mI x1, mI x2, none, none, none] [] w :=
  Wp.s (Wp.s (Wp.s (Wp.s (Wp.s ⟨fun q => Wp.fgd (leA.f (leA.f (leA.f (leA.f (leA.f (leA.f leA.e)))))) (h1 q), fun q => h2 q⟩))))
theorem Meeting_choose_92_b11 {d : Nat} {n1 : Int} {Q : MV → Wd → Prop} {x1 x2 : Int} {w : Wd} (h : Wp (Cw d) cd_Meeting_choose (0, 0, n1) Q 13 [mR 92, mI x1, mI x2, mI 0, none, none] [] w) : Wp (Cw d) cd_Meeting_choose (0, 0, n1) Q 11 [mR 92, mI x1, mI x2, none, none, none] [] w :=
  Wp.s (Wp.s h)
theorem Meeting_choose_92_b13 {d : Nat} {n1 : Int} {Q : MV → Wd → Prop} {x1 x2 x3 : Int} {w : Wd} (h1 : w 4 11 ≤ x3 → Wp (Cw d) cd_Meeting_choose (0, 0, n1) Q 58 [mR 92, mI x1, mI x2, none, none, none] [] w) (h2 : ¬ (w 4 11 ≤ x3) → Wp (Cw d) cd_Meeting_choose (0, 0, n1) Q 18 [mR 92, mI x1, mI x2, mI x3, none, none] [] w) : Wp (Cw d) cd_Meeting_choose (0, 0, n1) Q 13 [mR 92, mI x1, mI x2, mI x3, none, none] [] w :=
  Wp.s (Wp.s (Wp.s (Wp.s (Wp.s ⟨fun q => Wp.fgd (leA.k (leA.k (leA.k (leA.f (leA.f (leA.f leA.e)))))) (h1 q), fun q => h2 q⟩))))
theorem Meeting_choose_92_b18 {d : Nat} {n1 : Int} {Q : MV → Wd → Prop} {x1 x2 x3 : Int} {w : Wd} (g1 : (0 : Int) ≤ x2 ∧ x2 < 16) (h : Cw d 70 [mR 92, mI (w32 ((w32 ((w 12 x2.toNat) * 8)) + x3)), mI x1] w (fun r w' => Wp (Cw d) cd_Meeting_choose (0, 0, n1) Q 30 [mR 92, mI x1, mI x2, mI x3, none, none] [r] w')) : Wp (Cw d) cd_Meeting_choose (0, 0, n1) Q 18 [mR 92, mI x1, mI x2, mI x3, none, none] [] w :=
  Wp.s (Wp.s (Wp.s (Wp.s (Wp.s (Wp.s ⟨g1, Wp.s (Wp.s (Wp.s (Wp.s (Wp.s (Wp.s h)))))⟩)))))
theorem Meeting_choose_92_b30 {d : Nat} {n1 : Int} {Q : MV → Wd → Prop} {x1 x2 x3 s0 : Int} {w : Wd} (g1 : (0 : Int) ≤ w32 ((w32 (x2 * 8)) + x3) ∧ w32 ((w32 (x2 * 8)) + x3) < 128) (g2 : (0 : Int) ≤ x3 ∧ x3 < 8) (h1 : ¬ cmp3 s0 9223372036854775807 = 0 → Wp (Cw d) cd_Meeting_choose (0, 0, n1) Q 51 [mR 92, mI x1, mI x2, mI x3, none, none] [mI (w 108 x3.toNat), mI x3, mR 108] (ub w 107 (w32 ((w32 (x2 * 8)) + x3)).toNat s0)) (h2 : ¬ (¬ cmp3 s0 9223372036854775807 = 0) → Wp (Cw d) cd_Meeting_choose (0, 0, n1) Q 49 [mR 92, mI x1, mI x2, mI x3, none, none] [mI (w 108 x3.toNat), mI x3, mR 108] (ub w 107 (w32 ((w32 (x2 * 8)) + x3)).toNat s0)) : Wp (Cw d) cd_Meeting_choose (0, 0, n1) Q 30 [mR 92, mI x1, mI x2, mI x3, none, none] [mL s0] w :=
  Wp.s (Wp.s (Wp.s (Wp.s (Wp.s (Wp.s (Wp.s (Wp.s (Wp.s (Wp.s ⟨g1, Wp.s (Wp.s (Wp.s (Wp.s (Wp.s ⟨g2, Wp.s (Wp.s (Wp.s (Wp.s ⟨fun q => Wp.fgd (leA.k (leA.k (leA.k (leA.k (leA.f (leA.f leA.e)))))) (h1 q), fun q => Wp.fgd (leA.k (leA.k (leA.k (leA.k (leA.f (leA.f leA.e)))))) (h2 q)⟩)))⟩))))⟩)))))))))
theorem Meeting_choose_92_b49 {d : Nat} {n1 : Int} {Q : MV → Wd → Prop} {x1 x2 x3 s0 s1 : Int} {w : Wd} (h : Wp (Cw d) cd_Meeting_choose (0, 0, n1) Q 54 [mR 92, mI x1, mI x2, mI x3, none, none] [mI 0, mI s0, mI s1, mR 108] w) : Wp (Cw d) cd_Meeting_choose (0, 0, n1) Q 49 [mR 92, mI x1, mI x2, mI x3, none, none] [mI s0, mI s1, mR 108] w :=
  Wp.s (Wp.s h)
theorem Meeting_choose_92_b51 {d : Nat} {n1 : Int} {Q : MV → Wd → Prop} {x1 x2 x3 s0 s1 : Int} {w : Wd} (h : Wp (Cw d) cd_Meeting_choose (0, 0, n1) Q 54 [mR 92, mI x1, mI x2, mI x3, none, none] [mI (ishl 1 x2), mI s0, mI s1, mR 108] w) : Wp (Cw d) cd_Meeting_choose (0, 0, n1) Q 51 [mR 92, mI x1, mI x2, mI x3, none, none] [mI s0, mI s1, mR 108] w :=
  Wp.s (Wp.s (Wp.s h))
theorem Meeting_choose_92_b54 {d : Nat} {n1 : Int} {Q : MV → Wd → Prop} {x1 x2 x3 s0 s1 s2 : Int} {w : Wd} (g1 : (0 : Int) ≤ s2 ∧ s2 < 8) (h : Wp (Cw d) cd_Meeting_choose (0, 0, n1) Q 13 [mR 92, mI x1, mI x2, mI (w32 (x3 + 1)), none, none] [] (ub w 108 s2.toNat (ior s1 s0))) : Wp (Cw d) cd_Meeting_choose (0, 0, n1) Q 54 [mR 92, mI x1, mI x2, mI x3, none, none] [mI s0, mI s1, mI s2, mR 108] w :=
  Wp.s (Wp.s ⟨g1, Wp.s (Wp.s h)⟩)
theorem Meeting_choose_92_b58 {d : Nat} {n1 : Int} {Q : MV → Wd → Prop} {x1 x2 : Int} {w : Wd} (h : Wp (Cw d) cd_Meeting_choose (0, 0, n1) Q 6 [mR 92, mI x1, mI (w32 (x2 + 1)), none, none, none] [] w) : Wp (Cw d) cd_Meeting_choose (0, 0, n1) Q 58 [mR 92, mI x1, mI x2, none, none, none] [] w :=
  Wp.s (Wp.s h)
theorem Meeting_choose_92_b60 {d : Nat} {n1 : Int} {Q : MV → Wd → Prop} {w : Wd} (h : Q none w) : Wp (Cw d) cd_Meeting_choose (0, 0, n1) Q 60 [none, none, none, none, none, none] [] w :=
  Wp.s h
theorem Meeting_solve_92_b0 {d : Nat} {n1 : Int} {Q : MV → Wd → Prop} {w : Wd} (h : Wp (Cw d) cd_Meeting_solve (0, 0, n1) Q 5 [mR 92, mI 0] [] (ub w 92 7 0)) : Wp (Cw d) cd_Meeting_solve (0, 0, n1) Q 0 [mR 92, none] [] w :=
  Wp.s (Wp.s (Wp.s (Wp.s (Wp.s h))))
theorem Meeting_solve_92_b5 {d : Nat} {n1 : Int} {Q : MV → Wd → Prop} {x1 : Int} {w : Wd} (h1 : w 4 5 ≤ x1 → Wp (Cw d) cd_Meeting_solve (0, 0, n1) Q 20 [none, none] [] w) (h2 : ¬ (w 4 5 ≤ x1) → Wp (Cw d) cd_Meeting_solve (0, 0, n1) Q 10 [mR 92, mI x1] [] w) : Wp (Cw d) cd_Meeting_solve (0, 0, n1) Q 5 [mR 92, mI x1] [] w :=
  Wp.s (Wp.s (Wp.s (Wp.s (Wp.s ⟨fun q => Wp.fgd (leA.f (leA.f leA.e)) (h1 q), fun q => h2 q⟩))))
theorem Meeting_solve_92_b10 {d : Nat} {n1 : Int} {Q : MV → Wd → Prop} {x1 : Int} {w : Wd} (h : Cw d 73 [mR 92, mI x1] w (fun r w' => Wp (Cw d) cd_Meeting_solve (0, 0, n1) Q 16 [mR 92, mI x1] [r, mL (w 92 7), mR 92] w')) : Wp (Cw d) cd_Meeting_solve (0, 0, n1) Q 10 [mR 92, mI x1] [] w :=
  Wp.s (Wp.s (Wp.s (Wp.s (Wp.s (Wp.s h)))))
theorem Meeting_solve_92_b16 {d : Nat} {n1 : Int} {Q : MV → Wd → Prop} {x1 s0 s1 : Int} {w : Wd} (h : Wp (Cw d) cd_Meeting_solve (0, 0, n1) Q 5 [mR 92, mI (w32 (x1 + 1))] [] (ub w 92 7 (w64 (s1 + s0)))) : Wp (Cw d) cd_Meeting_solve (0, 0, n1) Q 16 [mR 92, mI x1] [mL s0, mL s1, mR 92] w :=
  Wp.s (Wp.s (Wp.s (Wp.s h)))
theorem Meeting_solve_92_b20 {d : Nat} {n1 : Int} {Q : MV → Wd → Prop} {w : Wd} (h : Q none w) : Wp (Cw d) cd_Meeting_solve (0, 0, n1) Q 20 [none, none] [] w :=
  Wp.s h
theorem Tokens_isNumber_2_b0 {d : Nat} {n1 : Int} {Q : MV → Wd → Prop} {x1 x2 : Int} {w : Wd} (h1 : w 2 5 = 4 → Wp (Cw d) cd_Tokens_isNumber (2, 0, n1) Q 8 [mR 2, mI x1, mI x2] [] w) (h2 : ¬ (w 2 5 = 4) → Wp (Cw d) cd_Tokens_isNumber (2, 0, n1) Q 4 [mR 2, none, none] [] w) : Wp (Cw d) cd_Tokens_isNumber (2, 0, n1) Q 0 [mR 2, mI x1, mI x2] [] w :=
  Wp.s (Wp.s (Wp.s (Wp.s ⟨fun q => h1 q, fun q => Wp.fgd (leA.k (leA.f (leA.f leA.e))) (h2 q)⟩)))
theorem Tokens_isNumber_2_b4 {d : Nat} {n1 : Int} {Q : MV → Wd → Prop} {w : Wd} (h : Cw d 28 [mR 2, mI 1] w (fun r w' => Wp (Cw d) cd_Tokens_isNumber (2, 0, n1) Q 7 [none, none, none] [r] w')) : Wp (Cw d) cd_Tokens_isNumber (2, 0, n1) Q 4 [mR 2, none, none] [] w :=
  Wp.s (Wp.s (Wp.s (Cw_mono _ _ _ _ _ _ (fun r w' q => Wp.fgd (leA.f (leA.f (leA.f leA.e))) q) h)))
theorem Tokens_isNumber_2_b7 {d : Nat} {n1 : Int} {Q : MV → Wd → Prop} {s0 : Int} {w : Wd} (g1 : s0 = 0 ∨ s0 = 1) (h : Q (mI s0) w) : Wp (Cw d) cd_Tokens_isNumber (2, 0, n1) Q 7 [none, none, none] [mI s0] w :=
  Wp.s ⟨g1, h⟩
theorem Tokens_isNumber_2_b8 {d : Nat} {n1 : Int} {Q : MV → Wd → Prop} {x1 x2 : Int} {w : Wd} (h1 : w 2 6 < x1 → Wp (Cw d) cd_Tokens_isNumber (2, 0, n1) Q 16 [mR 2, none, none] [] w) (h2 : ¬ (w 2 6 < x1) → Wp (Cw d) cd_Tokens_isNumber (2, 0, n1) Q 12 [mR 2, none, mI x2] [] w) : Wp (Cw d) cd_Tokens_isNumber (2, 0, n1) Q 8 [mR 2, mI x1, mI x2] [] w :=
  Wp.s (Wp.s (Wp.s (Wp.s ⟨fun q => Wp.fgd (leA.k (leA.f (leA.f leA.e))) (h1 q), fun q => Wp.fgd (leA.k (leA.f (leA.k leA.e))) (h2 q)⟩)))
theorem Tokens_isNumber_2_b12 {d : Nat} {n1 : Int} {Q : MV → Wd → Prop} {x2 : Int} {w : Wd} (h1 : w 2 6 ≤ x2 → Wp (Cw d) cd_Tokens_isNumber (2, 0, n1) Q 20 [none, none, none] [] w) (h2 : ¬ (w 2 6 ≤ x2) → Wp (Cw d) cd_Tokens_isNumber (2, 0, n1) Q 16 [mR 2, none, none] [] w) : Wp (Cw d) cd_Tokens_isNumber (2, 0, n1) Q 12 [mR 2, none, mI x2] [] w :=
  Wp.s (Wp.s (Wp.s (Wp.s ⟨fun q => Wp.fgd (leA.f (leA.f (leA.f leA.e))) (h1 q), fun q => Wp.fgd (leA.k (leA.f (leA.f leA.e))) (h2 q)⟩)))
theorem Tokens_isNumber_2_b16 {d : Nat} {n1 : Int} {Q : MV → Wd → Prop} {w : Wd} (h : Cw d 28 [mR 2, mI 2] w (fun r w' => Wp (Cw d) cd_Tokens_isNumber (2, 0, n1) Q 19 [none, none, none] [r] w')) : Wp (Cw d) cd_Tokens_isNumber (2, 0, n1) Q 16 [mR 2, none, none] [] w :=
  Wp.s (Wp.s (Wp.s (Cw_mono _ _ _ _ _ _ (fun r w' q => Wp.fgd (leA.f (leA.f (leA.f leA.e))) q) h)))
theorem Tokens_isNumber_2_b19 {d : Nat} {n1 : Int} {Q : MV → Wd → Prop} {s0 : Int} {w : Wd} (h1 : s0 = 0 → Wp (Cw d) cd_Tokens_isNumber (2, 0, n1) Q 22 [none, none, none] [] w) (h2 : ¬ (s0 = 0) → Wp (Cw d) cd_Tokens_isNumber (2, 0, n1) Q 20 [none, none, none] [] w) : Wp (Cw d) cd_Tokens_isNumber (2, 0, n1) Q 19 [none, none, none] [mI s0] w :=
  Wp.s ⟨fun q => h1 q, fun q => h2 q⟩
theorem Tokens_isNumber_2_b20 {d : Nat} {n1 : Int} {Q : MV → Wd → Prop} {w : Wd} (h : Wp (Cw d) cd_Tokens_isNumber (2, 0, n1) Q 23 [none, none, none] [mI 1] w) : Wp (Cw d) cd_Tokens_isNumber (2, 0, n1) Q 20 [none, none, none] [] w :=
  Wp.s (Wp.s h)
theorem Tokens_isNumber_2_b22 {d : Nat} {n1 : Int} {Q : MV → Wd → Prop} {w : Wd} (h : Wp (Cw d) cd_Tokens_isNumber (2, 0, n1) Q 23 [none, none, none] [mI 0] w) : Wp (Cw d) cd_Tokens_isNumber (2, 0, n1) Q 22 [none, none, none] [] w :=
  Wp.s h
theorem Tokens_isNumber_2_b23 {d : Nat} {n1 : Int} {Q : MV → Wd → Prop} {s0 : Int} {w : Wd} (g1 : s0 = 0 ∨ s0 = 1) (h : Q (mI s0) w) : Wp (Cw d) cd_Tokens_isNumber (2, 0, n1) Q 23 [none, none, none] [mI s0] w :=
  Wp.s ⟨g1, h⟩
theorem Tokens_takeValue_2_b0 {d : Nat} {n1 : Int} {Q : MV → Wd → Prop} {w : Wd} (h : Cw d 18 [mR 2] w (fun _ w' => Wp (Cw d) cd_Tokens_takeValue (1, 0, n1) Q 5 [none, mI (w 2 6)] [] w')) : Wp (Cw d) cd_Tokens_takeValue (1, 0, n1) Q 0 [mR 2, none] [] w :=
  Wp.s (Wp.s (Wp.s (Wp.s (Wp.s (Cw_mono _ _ _ _ _ _ (fun r w' q => Wp.fgd (leA.f (leA.k leA.e)) q) h)))))
theorem Tokens_takeValue_2_b5 {d : Nat} {n1 : Int} {Q : MV → Wd → Prop} {x1 : Int} {w : Wd} (h : Q (mI x1) w) : Wp (Cw d) cd_Tokens_takeValue (1, 0, n1) Q 5 [none, mI x1] [] w :=
  Wp.s (Wp.s h)
theorem Plan_add_32_b0 {d : Nat} {n1 : Int} {Q : MV → Wd → Prop} {x1 x2 x3 : Int} {w : Wd} (h1 : 50 ≤ w 32 0 → Wp (Cw d) cd_Plan_add (0, 0, n1) Q 28 [none, none, none, none] [] w) (h2 : ¬ (50 ≤ w 32 0) → Wp (Cw d) cd_Plan_add (0, 0, n1) Q 4 [mR 32, mI x1, mI x2, mI x3] [] w) : Wp (Cw d) cd_Plan_add (0, 0, n1) Q 0 [mR 32, mI x1, mI x2, mI x3] [] w :=
  Wp.s (Wp.s (Wp.s (Wp.s ⟨fun q => Wp.fgd (leA.f (leA.f (leA.f (leA.f leA.e)))) (h1 q), fun q => h2 q⟩)))
theorem Plan_add_32_b4 {d : Nat} {n1 : Int} {Q : MV → Wd → Prop} {x1 x2 x3 : Int} {w : Wd} (g1 : (0 : Int) ≤ w 32 0 ∧ w 32 0 < 50) (g2 : (0 : Int) ≤ w 32 0 ∧ w 32 0 < 50) (g3 : (0 : Int) ≤ w 32 0 ∧ w 32 0 < 50) (h : Wp (Cw d) cd_Plan_add (0, 0, n1) Q 28 [none, none, none, none] [] (ub (ub (ub (ub w 33 (w 32 0).toNat x1) 34 (w 32 0).toNat x2) 35 (w 32 0).toNat x3) 32 0 (w32 ((w 32 0) + 1)))) : Wp (Cw d) cd_Plan_add (0, 0, n1) Q 4 [mR 32, mI x1, mI x2, mI x3] [] w :=
  Wp.s (Wp.s (Wp.s (Wp.s (Wp.s (Wp.s ⟨g1, Wp.s (Wp.s (Wp.s (Wp.s (Wp.s (Wp.s ⟨g2, Wp.s (Wp.s (Wp.s (Wp.s (Wp.s (Wp.s ⟨g3, Wp.s (Wp.s (Wp.s (Wp.s (Wp.s (Wp.s (Wp.fgd (leA.f (leA.f (leA.f (leA.f leA.e)))) h))))))⟩)))))⟩)))))⟩)))))
theorem Plan_add_32_b28 {d : Nat} {n1 : Int} {Q : MV → Wd → Prop} {w : Wd} (h : Q none w) : Wp (Cw d) cd_Plan_add (0, 0, n1) Q 28 [none, none, none, none] [] w :=
  Wp.s h
theorem Village_person_4_2_b0 {d : Nat} {n1 : Int} {Q : MV → Wd → Prop} {x2 : Int} {w : Wd} (h : Cw d 30 [mR 2] w (fun r w' => Wp (Cw d) cd_Village_person (1, 0, n1) Q 2 [mR 4, mR 2, mI x2, none] [r] w')) : Wp (Cw d) cd_Village_person (1, 0, n1) Q 0 [mR 4, mR 2, mI x2, none] [] w :=
  Wp.s (Wp.s h)
theorem Village_person_4_2_b2 {d : Nat} {n1 : Int} {Q : MV → Wd → Prop} {x2 s0 : Int} {w : Wd} (h1 : ¬ s0 = 0 → Wp (Cw d) cd_Village_person (1, 0, n1) Q 5 [mR 4, mR 2, mI x2, none] [] w) (h2 : ¬ (¬ s0 = 0) → Wp (Cw d) cd_Village_person (1, 0, n1) Q 3 [none, none, none, none] [] w) : Wp (Cw d) cd_Village_person (1, 0, n1) Q 2 [mR 4, mR 2, mI x2, none] [mI s0] w :=
  Wp.s ⟨fun q => h1 q, fun q => Wp.fgd (leA.f (leA.f (leA.f (leA.f leA.e)))) (h2 q)⟩
theorem Village_person_4_2_b3 {d : Nat} {n1 : Int} {Q : MV → Wd → Prop} {w : Wd} (h : Q (mI ((-1))) w) : Wp (Cw d) cd_Village_person (1, 0, n1) Q 3 [none, none, none, none] [] w :=
  Wp.s (Wp.s h)
theorem Village_person_4_2_b5 {d : Nat} {n1 : Int} {Q : MV → Wd → Prop} {x2 : Int} {w : Wd} (h : Cw d 31 [mR 5, mI (w 4 0), mI (w 2 6)] w (fun r w' => Wp (Cw d) cd_Village_person (1, 0, n1) Q 12 [none, mR 2, mI x2, none] [r] w')) : Wp (Cw d) cd_Village_person (1, 0, n1) Q 5 [mR 4, mR 2, mI x2, none] [] w :=
  Wp.s (Wp.s (Wp.s (Wp.s (Wp.s (Wp.s (Wp.s (Cw_mono _ _ _ _ _ _ (fun r w' q => Wp.fgd (leA.f (leA.k (leA.k (leA.f leA.e)))) q) h)))))))
theorem Village_person_4_2_b12 {d : Nat} {n1 : Int} {Q : MV → Wd → Prop} {x2 s0 : Int} {w : Wd} (h1 : s0 = (-1) → Wp (Cw d) cd_Village_person (1, 0, n1) Q 19 [none, mR 2, none, none] [] w) (h2 : ¬ (s0 = (-1)) → Wp (Cw d) cd_Village_person (1, 0, n1) Q 16 [none, mR 2, mI x2, mI s0] [] w) : Wp (Cw d) cd_Village_person (1, 0, n1) Q 12 [none, mR 2, mI x2, none] [mI s0] w :=
  Wp.s (Wp.s (Wp.s (Wp.s ⟨fun q => Wp.fgd (leA.f (leA.k (leA.f (leA.f leA.e)))) (h1 q), fun q => h2 q⟩)))
theorem Village_person_4_2_b16 {d : Nat} {n1 : Int} {Q : MV → Wd → Prop} {x2 x3 : Int} {w : Wd} (h1 : ¬ x3 = x2 → Wp (Cw d) cd_Village_person (1, 0, n1) Q 25 [none, none, none, mI x3] [] w) (h2 : ¬ (¬ x3 = x2) → Wp (Cw d) cd_Village_person (1, 0, n1) Q 19 [none, mR 2, none, none] [] w) : Wp (Cw d) cd_Village_person (1, 0, n1) Q 16 [none, mR 2, mI x2, mI x3] [] w :=
  Wp.s (Wp.s (Wp.s ⟨fun q => Wp.fgd (leA.f (leA.f (leA.f (leA.k leA.e)))) (h1 q), fun q => Wp.fgd (leA.f (leA.k (leA.f (leA.f leA.e)))) (h2 q)⟩))
theorem Village_person_4_2_b19 {d : Nat} {n1 : Int} {Q : MV → Wd → Prop} {w : Wd} (h : Cw d 28 [mR 2, mI 3] w (fun r w' => Wp (Cw d) cd_Village_person (1, 0, n1) Q 22 [none, none, none, none] [r] w')) : Wp (Cw d) cd_Village_person (1, 0, n1) Q 19 [none, mR 2, none, none] [] w :=
  Wp.s (Wp.s (Wp.s (Cw_mono _ _ _ _ _ _ (fun r w' q => Wp.fgd (leA.f (leA.f (leA.f (leA.f leA.e)))) q) h)))
theorem Village_person_4_2_b22 {d : Nat} {n1 : Int} {Q : MV → Wd → Prop} {s0 : Int} {w : Wd} (h : Q (mI ((-1))) w) : Wp (Cw d) cd_Village_person (1, 0, n1) Q 22 [none, none, none, none] [mI s0] w :=
  Wp.s (Wp.s (Wp.s h))
theorem Village_person_4_2_b25 {d : Nat} {n1 : Int} {Q : MV → Wd → Prop} {x3 : Int} {w : Wd} (h : Q (mI x3) w) : Wp (Cw d) cd_Village_person (1, 0, n1) Q 25 [none, none, none, mI x3] [] w :=
  Wp.s (Wp.s h)
theorem Day_give_132_4_b0 {d : Nat} {n1 : Int} {Q : MV → Wd → Prop} {x2 x3 : Int} {w : Wd} (h : Cw d 110 [mR 132, mR 4, mI x2, mI x3] w (fun r w' => Wp (Cw d) cd_Day_give (1, 0, n1) Q 5 [mR 132, mR 4, mI x2, mI x3, none, none] [r] w')) : Wp (Cw d) cd_Day_give (1, 0, n1) Q 0 [mR 132, mR 4, mI x2, mI x3, none, none] [] w :=
  Wp.s (Wp.s (Wp.s (Wp.s (Wp.s h))))
theorem Day_give_132_4_b5 {d : Nat} {n1 : Int} {Q : MV → Wd → Prop} {x2 x3 s0 : Int} {w : Wd} (h1 : ¬ s0 = (-1) → Wp (Cw d) cd_Day_give (1, 0, n1) Q 11 [mR 132, mR 4, mI x2, mI x3, mI s0, none] [] w) (h2 : ¬ (¬ s0 = (-1)) → Wp (Cw d) cd_Day_give (1, 0, n1) Q 9 [none, none, none, none, none, none] [] w) : Wp (Cw d) cd_Day_give (1, 0, n1) Q 5 [mR 132, mR 4, mI x2, mI x3, none, none] [mI s0] w :=
  Wp.s (Wp.s (Wp.s (Wp.s ⟨fun q => h1 q, fun q => Wp.fgd (leA.f (leA.f (leA.f (leA.f (leA.f (leA.f leA.e)))))) (h2 q)⟩)))
theorem Day_give_132_4_b9 {d : Nat} {n1 : Int} {Q : MV → Wd → Prop} {w : Wd} (h : Q (mI 4) w) : Wp (Cw d) cd_Day_give (1, 0, n1) Q 9 [none, none, none, none, none, none] [] w :=
  Wp.s (Wp.s h)
theorem Day_give_132_4_b11 {d : Nat} {n1 : Int} {Q : MV → Wd → Prop} {x2 x3 x4 : Int} {w : Wd} (g1 : (0 : Int) ≤ x2 ∧ x2 < 16) (h1 : ¬ w 134 x2.toNat = 1 → Wp (Cw d) cd_Day_give (1, 0, n1) Q 21 [mR 132, mR 4, mI x2, mI x3, mI x4, none] [] w) (h2 : ¬ (¬ w 134 x2.toNat = 1) → Wp (Cw d) cd_Day_give (1, 0, n1) Q 17 [mR 132, mR 4, mI x2, mI x3, mI x4, none] [] w) : Wp (Cw d) cd_Day_give (1, 0, n1) Q 11 [mR 132, mR 4, mI x2, mI x3, mI x4, none] [] w :=
  Wp.s (Wp.s (Wp.s (Wp.s ⟨g1, Wp.s (Wp.s ⟨fun q => h1 q, fun q => h2 q⟩)⟩)))
theorem Day_give_132_4_b17 {d : Nat} {n1 : Int} {Q : MV → Wd → Prop} {x2 x3 x4 : Int} {w : Wd} (h : Wp (Cw d) cd_Day_give (1, 0, n1) Q 25 [mR 132, mR 4, mI x2, mI x3, mI x4, none] [mI (ishl 1 x4)] w) : Wp (Cw d) cd_Day_give (1, 0, n1) Q 17 [mR 132, mR 4, mI x2, mI x3, mI x4, none] [] w :=
  Wp.s (Wp.s (Wp.s (Wp.s h)))
theorem Day_give_132_4_b21 {d : Nat} {n1 : Int} {Q : MV → Wd → Prop} {x2 x3 x4 : Int} {w : Wd} (g1 : (0 : Int) ≤ x2 ∧ x2 < 16) (h : Wp (Cw d) cd_Day_give (1, 0, n1) Q 25 [mR 132, mR 4, mI x2, mI x3, mI x4, none] [mI (w 135 x2.toNat)] w) : Wp (Cw d) cd_Day_give (1, 0, n1) Q 21 [mR 132, mR 4, mI x2, mI x3, mI x4, none] [] w :=
  Wp.s (Wp.s (Wp.s (Wp.s ⟨g1, h⟩)))
theorem Day_give_132_4_b25 {d : Nat} {n1 : Int} {Q : MV → Wd → Prop} {x2 x3 x4 s0 : Int} {w : Wd} (h : Cw d 60 [mR 4, mI x2] w (fun r w' => Wp (Cw d) cd_Day_give (1, 0, n1) Q 32 [mR 132, mR 4, mI x2, mI x3, mI x4, mI s0] [r, mI (w 4 16), mR 4] w')) : Wp (Cw d) cd_Day_give (1, 0, n1) Q 25 [mR 132, mR 4, mI x2, mI x3, mI x4, none] [mI s0] w :=
  Wp.s (Wp.s (Wp.s (Wp.s (Wp.s (Wp.s (Wp.s h))))))
theorem Day_give_132_4_b32 {d : Nat} {n1 : Int} {Q : MV → Wd → Prop} {x2 x3 x4 x5 s0 s1 : Int} {w : Wd} (h : Cw d 67 [mR 4, mI s1, mI s0, mI x5, mI x3] w (fun r w' => Wp (Cw d) cd_Day_give (1, 0, n1) Q 35 [mR 132, mR 4, mI x2, mI x3, mI x4, mI x5] [r] w')) : Wp (Cw d) cd_Day_give (1, 0, n1) Q 32 [mR 132, mR 4, mI x2, mI x3, mI x4, mI x5] [mI s0, mI s1, mR 4] w :=
  Wp.s (Wp.s (Wp.s h))
theorem Day_give_132_4_b35 {d : Nat} {n1 : Int} {Q : MV → Wd → Prop} {x2 x3 x4 x5 s0 : Int} {w : Wd} (h1 : ¬ s0 = 0 → Wp (Cw d) cd_Day_give (1, 0, n1) Q 38 [mR 132, mR 4, mI x2, mI x3, mI x4, mI x5] [] w) (h2 : ¬ (¬ s0 = 0) → Wp (Cw d) cd_Day_give (1, 0, n1) Q 36 [none, none, none, none, none, none] [] w) : Wp (Cw d) cd_Day_give (1, 0, n1) Q 35 [mR 132, mR 4, mI x2, mI x3, mI x4, mI x5] [mI s0] w :=
  Wp.s ⟨fun q => h1 q, fun q => Wp.fgd (leA.f (leA.f (leA.f (leA.f (leA.f (leA.f leA.e)))))) (h2 q)⟩
theorem Day_give_132_4_b36 {d : Nat} {n1 : Int} {Q : MV → Wd → Prop} {w : Wd} (h : Q (mI 5) w) : Wp (Cw d) cd_Day_give (1, 0, n1) Q 36 [none, none, none, none, none, none] [] w :=
  Wp.s (Wp.s h)
theorem Day_give_132_4_b38 {d : Nat} {n1 : Int} {Q : MV → Wd → Prop} {x2 x3 x4 x5 : Int} {w : Wd} (g1 : (0 : Int) ≤ x2 ∧ x2 < 16) (g2 : (0 : Int) ≤ x2 ∧ x2 < 16) (g3 : (0 : Int) ≤ x2 ∧ x2 < 16) (g4 : (0 : Int) ≤ x2 ∧ x2 < 16) (g5 : (0 : Int) ≤ w32 ((w32 (x4 * 8)) + x3) ∧ w32 ((w32 (x4 * 8)) + x3) < 64) (g6 : (0 : Int) ≤ x2 ∧ x2 < 16) (g7 : (0 : Int) ≤ w32 ((w32 (x4 * 8)) + x3) ∧ w32 ((w32 (x4 * 8)) + x3) < 64) (h : Q (mI 0) (ub (ub (ub (ub (ub w 135 x2.toNat (ior x5 (ishl 1 x3))) 133 x2.toNat x3) 134 x2.toNat (w32 ((w 134 x2.toNat) + 1))) 136 x2.toNat (w32 ((w 132 2) + (w 15 (w32 ((w32 (x4 * 8)) + x3)).toNat)))) 132 4 (w32 ((w 132 4) + (w 14 (w32 ((w32 (x4 * 8)) + x3)).toNat))))) : Wp (Cw d) cd_Day_give (1, 0, n1) Q 38 [mR 132, mR 4, mI x2, mI x3, mI x4, mI x5] [] w :=
  Wp.s (Wp.s (Wp.s (Wp.s (Wp.s (Wp.s (Wp.s (Wp.s (Wp.s ⟨g1, Wp.s (Wp.s (Wp.s (Wp.s (Wp.s ⟨g2, Wp.s (Wp.s (Wp.s (Wp.s (Wp.s ⟨g3, Wp.s (Wp.s (Wp.s ⟨g4, Wp.s (Wp.s (Wp.s (Wp.s (Wp.s (Wp.s (Wp.s (Wp.s (Wp.s (Wp.s (Wp.s (Wp.s (Wp.s ⟨g5, Wp.s (Wp.s ⟨g6, Wp.s (Wp.s (Wp.s (Wp.s (Wp.s (Wp.s (Wp.s (Wp.s (Wp.s (Wp.s (Wp.s ⟨g7, Wp.s (Wp.s (Wp.s (Wp.s h)))⟩))))))))))⟩)⟩))))))))))))⟩))⟩))))⟩))))⟩))))))))
theorem Day_use_132_4_b0 {d : Nat} {n1 : Int} {Q : MV → Wd → Prop} {x2 : Int} {w : Wd} (g1 : (0 : Int) ≤ x2 ∧ x2 < 16) (h1 : w 134 x2.toNat = w 4 15 → Wp (Cw d) cd_Day_use (1, 0, n1) Q 9 [mR 132, mR 4, mI x2, none] [] w) (h2 : ¬ (w 134 x2.toNat = w 4 15) → Wp (Cw d) cd_Day_use (1, 0, n1) Q 7 [none, none, none, none] [] w) : Wp (Cw d) cd_Day_use (1, 0, n1) Q 0 [mR 132, mR 4, mI x2, none] [] w :=
  Wp.s (Wp.s (Wp.s (Wp.s ⟨g1, Wp.s (Wp.s (Wp.s ⟨fun q => h1 q, fun q => Wp.fgd (leA.f (leA.f (leA.f (leA.f leA.e)))) (h2 q)⟩))⟩)))
theorem Day_use_132_4_b7 {d : Nat} {n1 : Int} {Q : MV → Wd → Prop} {w : Wd} (h : Q (mI 6) w) : Wp (Cw d) cd_Day_use (1, 0, n1) Q 7 [none, none, none, none] [] w :=
  Wp.s (Wp.s h)
theorem Day_use_132_4_b9 {d : Nat} {n1 : Int} {Q : MV → Wd → Prop} {x2 : Int} {w : Wd} (h : Cw d 112 [mR 132, mR 4, mI x2] w (fun r w' => Wp (Cw d) cd_Day_use (1, 0, n1) Q 13 [mR 132, none, mI x2, none] [r] w')) : Wp (Cw d) cd_Day_use (1, 0, n1) Q 9 [mR 132, mR 4, mI x2, none] [] w :=
  Wp.s (Wp.s (Wp.s (Wp.s (Cw_mono _ _ _ _ _ _ (fun r w' q => Wp.fgd (leA.k (leA.f (leA.k (leA.f leA.e)))) q) h))))
theorem Day_use_132_4_b13 {d : Nat} {n1 : Int} {Q : MV → Wd → Prop} {x2 s0 : Int} {w : Wd} (h1 : ¬ s0 = (-1) → Wp (Cw d) cd_Day_use (1, 0, n1) Q 19 [mR 132, none, mI x2, mI s0] [] w) (h2 : ¬ (¬ s0 = (-1)) → Wp (Cw d) cd_Day_use (1, 0, n1) Q 17 [none, none, none, none] [] w) : Wp (Cw d) cd_Day_use (1, 0, n1) Q 13 [mR 132, none, mI x2, none] [mI s0] w :=
  Wp.s (Wp.s (Wp.s (Wp.s ⟨fun q => h1 q, fun q => Wp.fgd (leA.f (leA.f (leA.f (leA.f leA.e)))) (h2 q)⟩)))
theorem Day_use_132_4_b17 {d : Nat} {n1 : Int} {Q : MV → Wd → Prop} {w : Wd} (h : Q (mI 7) w) : Wp (Cw d) cd_Day_use (1, 0, n1) Q 17 [none, none, none, none] [] w :=
  Wp.s (Wp.s h)
theorem Day_use_132_4_b19 {d : Nat} {n1 : Int} {Q : MV → Wd → Prop} {x2 x3 : Int} {w : Wd} (g1 : (0 : Int) ≤ x2 ∧ x2 < 16) (g2 : (0 : Int) ≤ x2 ∧ x2 < 16) (h : Q (mI 0) (ub (ub (ub w 132 3 (ior (w 132 3) (ishl 1 x3))) 134 x2.toNat 0) 133 x2.toNat ((-1)))) : Wp (Cw d) cd_Day_use (1, 0, n1) Q 19 [mR 132, none, mI x2, mI x3] [] w :=
  Wp.s (Wp.s (Wp.s (Wp.s (Wp.s (Wp.s (Wp.s (Wp.s (Wp.s (Wp.s (Wp.s (Wp.s (Wp.s ⟨g1, Wp.s (Wp.s (Wp.s (Wp.s (Wp.s ⟨g2, Wp.s (Wp.s h)⟩))))⟩))))))))))))
theorem Day_wantMet_132_4_b0 {d : Nat} {n1 : Int} {Q : MV → Wd → Prop} {x2 : Int} {w : Wd} (h : Wp (Cw d) cd_Day_wantMet (1, 0, n1) Q 2 [mR 132, mR 4, mI x2, mI 0] [] w) : Wp (Cw d) cd_Day_wantMet (1, 0, n1) Q 0 [mR 132, mR 4, mI x2, none] [] w :=
  Wp.s (Wp.s h)
theorem Day_wantMet_132_4_b2 {d : Nat} {n1 : Int} {Q : MV → Wd → Prop} {x2 x3 : Int} {w : Wd} (h1 : w 4 11 ≤ x3 → Wp (Cw d) cd_Day_wantMet (1, 0, n1) Q 40 [none, none, none, none] [] w) (h2 : ¬ (w 4 11 ≤ x3) → Wp (Cw d) cd_Day_wantMet (1, 0, n1) Q 6 [mR 132, mR 4, mI x2, mI x3] [] w) : Wp (Cw d) cd_Day_wantMet (1, 0, n1) Q 2 [mR 132, mR 4, mI x2, mI x3] [] w :=
  Wp.s (Wp.s (Wp.s (Wp.s ⟨fun q => Wp.fgd (leA.f (leA.f (leA.f (leA.f leA.e)))) (h1 q), fun q => h2 q⟩)))
theorem Day_wantMet_132_4_b6 {d : Nat} {n1 : Int} {Q : MV → Wd → Prop} {x2 x3 : Int} {w : Wd} (h : Cw d 63 [mR 4, mI x3, mI 0] w (fun r w' => Wp (Cw d) cd_Day_wantMet (1, 0, n1) Q 10 [mR 132, mR 4, mI x2, mI x3] [r] w')) : Wp (Cw d) cd_Day_wantMet (1, 0, n1) Q 6 [mR 132, mR 4, mI x2, mI x3] [] w :=
  Wp.s (Wp.s (Wp.s (Wp.s h)))
theorem Day_wantMet_132_4_b10 {d : Nat} {n1 : Int} {Q : MV → Wd → Prop} {x2 x3 s0 : Int} {w : Wd} (g1 : (0 : Int) ≤ x2 ∧ x2 < 16) (h1 : ¬ s0 = w 133 x2.toNat → Wp (Cw d) cd_Day_wantMet (1, 0, n1) Q 38 [mR 132, mR 4, mI x2, mI x3] [] w) (h2 : ¬ (¬ s0 = w 133 x2.toNat) → Wp (Cw d) cd_Day_wantMet (1, 0, n1) Q 15 [mR 132, mR 4, mI x2, mI x3] [] w) : Wp (Cw d) cd_Day_wantMet (1, 0, n1) Q 10 [mR 132, mR 4, mI x2, mI x3] [mI s0] w :=
  Wp.s (Wp.s (Wp.s (Wp.s ⟨g1, Wp.s ⟨fun q => h1 q, fun q => h2 q⟩⟩)))
theorem Day_wantMet_132_4_b15 {d : Nat} {n1 : Int} {Q : MV → Wd → Prop} {x2 x3 : Int} {w : Wd} (h : Cw d 66 [mI (w 132 3), mI x3] w (fun r w' => Wp (Cw d) cd_Day_wantMet (1, 0, n1) Q 19 [mR 132, mR 4, mI x2, mI x3] [r] w')) : Wp (Cw d) cd_Day_wantMet (1, 0, n1) Q 15 [mR 132, mR 4, mI x2, mI x3] [] w :=
  Wp.s (Wp.s (Wp.s (Wp.s h)))
theorem Day_wantMet_132_4_b19 {d : Nat} {n1 : Int} {Q : MV → Wd → Prop} {x2 x3 s0 : Int} {w : Wd} (h1 : ¬ s0 = 0 → Wp (Cw d) cd_Day_wantMet (1, 0, n1) Q 38 [mR 132, mR 4, mI x2, mI x3] [] w) (h2 : ¬ (¬ s0 = 0) → Wp (Cw d) cd_Day_wantMet (1, 0, n1) Q 20 [mR 132, mR 4, mI x2, mI x3] [] w) : Wp (Cw d) cd_Day_wantMet (1, 0, n1) Q 19 [mR 132, mR 4, mI x2, mI x3] [mI s0] w :=
  Wp.s ⟨fun q => h1 q, fun q => h2 q⟩
theorem Day_wantMet_132_4_b20 {d : Nat} {n1 : Int} {Q : MV → Wd → Prop} {x2 x3 : Int} {w : Wd} (h : Cw d 63 [mR 4, mI x3, mI 1] w (fun r w' => Wp (Cw d) cd_Day_wantMet (1, 0, n1) Q 24 [mR 132, mR 4, mI x2, mI x3] [r] w')) : Wp (Cw d) cd_Day_wantMet (1, 0, n1) Q 20 [mR 132, mR 4, mI x2, mI x3] [] w :=
  Wp.s (Wp.s (Wp.s (Wp.s h)))
theorem Day_wantMet_132_4_b24 {d : Nat} {n1 : Int} {Q : MV → Wd → Prop} {x2 x3 s0 : Int} {w : Wd} (h : Cw d 61 [mR 4, mI x2, mI 0] w (fun r w' => Wp (Cw d) cd_Day_wantMet (1, 0, n1) Q 28 [mR 132, mR 4, mI x2, mI x3] [r, mI s0] w')) : Wp (Cw d) cd_Day_wantMet (1, 0, n1) Q 24 [mR 132, mR 4, mI x2, mI x3] [mI s0] w :=
  Wp.s (Wp.s (Wp.s (Wp.s h)))
theorem Day_wantMet_132_4_b28 {d : Nat} {n1 : Int} {Q : MV → Wd → Prop} {x2 x3 s0 s1 : Int} {w : Wd} (h1 : ¬ s1 = s0 → Wp (Cw d) cd_Day_wantMet (1, 0, n1) Q 38 [mR 132, mR 4, mI x2, mI x3] [] w) (h2 : ¬ (¬ s1 = s0) → Wp (Cw d) cd_Day_wantMet (1, 0, n1) Q 29 [mR 132, mR 4, mI x2, mI x3] [] w) : Wp (Cw d) cd_Day_wantMet (1, 0, n1) Q 28 [mR 132, mR 4, mI x2, mI x3] [mI s0, mI s1] w :=
  Wp.s ⟨fun q => h1 q, fun q => h2 q⟩
theorem Day_wantMet_132_4_b29 {d : Nat} {n1 : Int} {Q : MV → Wd → Prop} {x2 x3 : Int} {w : Wd} (h : Cw d 63 [mR 4, mI x3, mI 3] w (fun r w' => Wp (Cw d) cd_Day_wantMet (1, 0, n1) Q 35 [mR 132, mR 4, mI x2, mI x3] [r, mI (w 132 2)] w')) : Wp (Cw d) cd_Day_wantMet (1, 0, n1) Q 29 [mR 132, mR 4, mI x2, mI x3] [] w :=
  Wp.s (Wp.s (Wp.s (Wp.s (Wp.s (Wp.s h)))))
theorem Day_wantMet_132_4_b35 {d : Nat} {n1 : Int} {Q : MV → Wd → Prop} {x2 x3 s0 s1 : Int} {w : Wd} (h1 : s0 < s1 → Wp (Cw d) cd_Day_wantMet (1, 0, n1) Q 38 [mR 132, mR 4, mI x2, mI x3] [] w) (h2 : ¬ (s0 < s1) → Wp (Cw d) cd_Day_wantMet (1, 0, n1) Q 36 [none, none, none, mI x3] [] w) : Wp (Cw d) cd_Day_wantMet (1, 0, n1) Q 35 [mR 132, mR 4, mI x2, mI x3] [mI s0, mI s1] w :=
  Wp.s ⟨fun q => h1 q, fun q => Wp.fgd (leA.f (leA.f (leA.f (leA.k leA.e)))) (h2 q)⟩
theorem Day_wantMet_132_4_b36 {d : Nat} {n1 : Int} {Q : MV → Wd → Prop} {x3 : Int} {w : Wd} (h : Q (mI x3) w) : Wp (Cw d) cd_Day_wantMet (1, 0, n1) Q 36 [none, none, none, mI x3] [] w :=
  Wp.s (Wp.s h)
theorem Day_wantMet_132_4_b38 {d : Nat} {n1 : Int} {Q : MV → Wd → Prop} {x2 x3 : Int} {w : Wd} (h : Wp (Cw d) cd_Day_wantMet (1, 0, n1) Q 2 [mR 132, mR 4, mI x2, mI (w32 (x3 + 1))] [] w) : Wp (Cw d) cd_Day_wantMet (1, 0, n1) Q 38 [mR 132, mR 4, mI x2, mI x3] [] w :=
  Wp.s (Wp.s h)
theorem Day_wantMet_132_4_b40 {d : Nat} {n1 : Int} {Q : MV → Wd → Prop} {w : Wd} (h : Q (mI ((-1))) w) : Wp (Cw d) cd_Day_wantMet (1, 0, n1) Q 40 [none, none, none, none] [] w :=
  Wp.s (Wp.s h)
theorem M_lesserFirst_144_b0 {d : Nat} {n1 : Int} {Q : MV → Wd → Prop} {x1 : Int} {w : Wd} (g1 : (0 : Int) ≤ w32 ((w32 (29 + (w32 (5 * x1)))) + 2) ∧ w32 ((w32 (29 + (w32 (5 * x1)))) + 2) < 645) (g2 : (0 : Int) ≤ w32 ((w32 (29 + (w32 (5 * x1)))) + 3) ∧ w32 ((w32 (29 + (w32 (5 * x1)))) + 3) < 645) (h1 : w 146 (w32 ((w32 (29 + (w32 (5 * x1)))) + 3)).toNat < 0 → Wp (Cw d) cd_M_lesserFirst (1, 0, n1) Q 27 [none, none, mI (w 146 (w32 ((w32 (29 + (w32 (5 * x1)))) + 2)).toNat), none] [] w) (h2 : ¬ (w 146 (w32 ((w32 (29 + (w32 (5 * x1)))) + 3)).toNat < 0) → Wp (Cw d) cd_M_lesserFirst (1, 0, n1) Q 24 [none, none, mI (w 146 (w32 ((w32 (29 + (w32 (5 * x1)))) + 2)).toNat), mI (w 146 (w32 ((w32 (29 + (w32 (5 * x1)))) + 3)).toNat)] [] w) : Wp (Cw d) cd_M_lesserFirst (1, 0, n1) Q 0 [mR 144, mI x1, none, none] [] w :=
  Wp.s (Wp.s (Wp.s (Wp.s (Wp.s (Wp.s (Wp.s (Wp.s (Wp.s (Wp.s ⟨g1, Wp.s (Wp.s (Wp.s (Wp.s (Wp.s (Wp.s (Wp.s (Wp.s (Wp.s (Wp.s (Wp.s ⟨g2, Wp.s (Wp.s (Wp.s ⟨fun q => Wp.fgd (leA.f (leA.f (leA.k (leA.f leA.e)))) (h1 q), fun q => Wp.fgd (leA.f (leA.f (leA.k (leA.k leA.e)))) (h2 q)⟩))⟩))))))))))⟩)))))))))
theorem M_lesserFirst_144_b24 {d : Nat} {n1 : Int} {Q : MV → Wd → Prop} {x2 x3 : Int} {w : Wd} (h1 : x3 ≤ x2 → Wp (Cw d) cd_M_lesserFirst (1, 0, n1) Q 29 [none, none, none, mI x3] [] w) (h2 : ¬ (x3 ≤ x2) → Wp (Cw d) cd_M_lesserFirst (1, 0, n1) Q 27 [none, none, mI x2, none] [] w) : Wp (Cw d) cd_M_lesserFirst (1, 0, n1) Q 24 [none, none, mI x2, mI x3] [] w :=
  Wp.s (Wp.s (Wp.s ⟨fun q => Wp.fgd (leA.f (leA.f (leA.f (leA.k leA.e)))) (h1 q), fun q => Wp.fgd (leA.f (leA.f (leA.k (leA.f leA.e)))) (h2 q)⟩))
theorem M_lesserFirst_144_b27 {d : Nat} {n1 : Int} {Q : MV → Wd → Prop} {x2 : Int} {w : Wd} (h : Wp (Cw d) cd_M_lesserFirst (1, 0, n1) Q 30 [none, none, none, none] [mI x2] w) : Wp (Cw d) cd_M_lesserFirst (1, 0, n1) Q 27 [none, none, mI x2, none] [] w :=
  Wp.s (Wp.s (Wp.fgd (leA.f (leA.f (leA.f (leA.f leA.e)))) h))
theorem M_lesserFirst_144_b29 {d : Nat} {n1 : Int} {Q : MV → Wd → Prop} {x3 : Int} {w : Wd} (h : Wp (Cw d) cd_M_lesserFirst (1, 0, n1) Q 30 [none, none, none, none] [mI x3] w) : Wp (Cw d) cd_M_lesserFirst (1, 0, n1) Q 29 [none, none, none, mI x3] [] w :=
  Wp.s (Wp.fgd (leA.f (leA.f (leA.f (leA.f leA.e)))) h)
theorem M_lesserFirst_144_b30 {d : Nat} {n1 : Int} {Q : MV → Wd → Prop} {s0 : Int} {w : Wd} (h : Q (mI s0) w) : Wp (Cw d) cd_M_lesserFirst (1, 0, n1) Q 30 [none, none, none, none] [mI s0] w :=
  Wp.s h
theorem Village_ofWant_4_b0 {d : Nat} {n1 : Int} {Q : MV → Wd → Prop} {x1 x2 : Int} {w : Wd} (g1 : (0 : Int) ≤ w32 ((w32 (x1 * 4)) + x2) ∧ w32 ((w32 (x1 * 4)) + x2) < 32) (h : Q (mI (w 13 (w32 ((w32 (x1 * 4)) + x2)).toNat)) w) : Wp (Cw d) cd_Village_ofWant (1, 0, n1) Q 0 [mR 4, mI x1, mI x2] [] w :=
  Wp.s (Wp.s (Wp.s (Wp.s (Wp.s (Wp.s (Wp.s (Wp.s ⟨g1, Wp.s h⟩)))))))
theorem Village_lets_4_b0 {d : Nat} {n1 : Int} {Q : MV → Wd → Prop} {x1 x2 x3 x4 : Int} {w : Wd} (h0 : x1 = 1 → Wp (Cw d) cd_Village_lets (2, 0, n1) Q 2 [none, none, mI x2, mI x3, mI x4] [] w) (h1 : x1 = 2 → Wp (Cw d) cd_Village_lets (2, 0, n1) Q 16 [none, none, mI x2, mI x3, mI x4] [] w) (h2 : x1 = 3 → Wp (Cw d) cd_Village_lets (2, 0, n1) Q 28 [mR 4, none, none, mI x3, mI x4] [] w) (hd : ¬ x1 = 1 → ¬ x1 = 2 → ¬ x1 = 3 → Wp (Cw d) cd_Village_lets (2, 0, n1) Q 39 [none, none, none, none, none] [] w) : Wp (Cw d) cd_Village_lets (2, 0, n1) Q 0 [mR 4, mI x1, mI x2, mI x3, mI x4] [] w :=
  Wp.s (Wp.s ⟨fun q => Wp.fgd (leA.f (leA.f (leA.k (leA.k (leA.k leA.e))))) (h0 q), fun q0 => ⟨fun q => Wp.fgd (leA.f (leA.f (leA.k (leA.k (leA.k leA.e))))) (h1 q), fun q1 => ⟨fun q => Wp.fgd (leA.k (leA.f (leA.f (leA.k (leA.k leA.e))))) (h2 q), fun q2 => Wp.fgd (leA.f (leA.f (leA.f (leA.f (leA.f leA.e))))) (hd q0 q1 q2)⟩⟩⟩)
theorem Village_lets_4_b2 {d : Nat} {n1 : Int} {Q : MV → Wd → Prop} {x2 x3 x4 : Int} {w : Wd} (h1 : ¬ iand (iand x3 (ixor x2 ((-1)))) (ishl 1 x4) = 0 → Wp (Cw d) cd_Village_lets (2, 0, n1) Q 14 [none, none, none, none, none] [] w) (h2 : ¬ (¬ iand (iand x3 (ixor x2 ((-1)))) (ishl 1 x4) = 0) → Wp (Cw d) cd_Village_lets (2, 0, n1) Q 12 [none, none, none, none, none] [] w) : Wp (Cw d) cd_Village_lets (2, 0, n1) Q 2 [none, none, mI x2, mI x3, mI x4] [] w :=
  Wp.s (Wp.s (Wp.s (Wp.s (Wp.s (Wp.s (Wp.s (Wp.s (Wp.s (Wp.s ⟨fun q => Wp.fgd (leA.f (leA.f (leA.f (leA.f (leA.f leA.e))))) (h1 q), fun q => Wp.fgd (leA.f (leA.f (leA.f (leA.f (leA.f leA.e))))) (h2 q)⟩)))))))))
theorem Village_lets_4_b12 {d : Nat} {n1 : Int} {Q : MV → Wd → Prop} {w : Wd} (h : Wp (Cw d) cd_Village_lets (2, 0, n1) Q 15 [none, none, none, none, none] [mI 1] w) : Wp (Cw d) cd_Village_lets (2, 0, n1) Q 12 [none, none, none, none, none] [] w :=
  Wp.s (Wp.s h)
theorem Village_lets_4_b14 {d : Nat} {n1 : Int} {Q : MV → Wd → Prop} {w : Wd} (h : Wp (Cw d) cd_Village_lets (2, 0, n1) Q 15 [none, none, none, none, none] [mI 0] w) : Wp (Cw d) cd_Village_lets (2, 0, n1) Q 14 [none, none, none, none, none] [] w :=
  Wp.s h
theorem Village_lets_4_b15 {d : Nat} {n1 : Int} {Q : MV → Wd → Prop} {s0 : Int} {w : Wd} (g1 : s0 = 0 ∨ s0 = 1) (h : Q (mI s0) w) : Wp (Cw d) cd_Village_lets (2, 0, n1) Q 15 [none, none, none, none, none] [mI s0] w :=
  Wp.s ⟨g1, h⟩
theorem Village_lets_4_b16 {d : Nat} {n1 : Int} {Q : MV → Wd → Prop} {x2 x3 x4 : Int} {w : Wd} (h1 : ¬ iand (ior x3 x2) (ishl 1 x4) = 0 → Wp (Cw d) cd_Village_lets (2, 0, n1) Q 26 [none, none, none, none, none] [] w) (h2 : ¬ (¬ iand (ior x3 x2) (ishl 1 x4) = 0) → Wp (Cw d) cd_Village_lets (2, 0, n1) Q 24 [none, none, none, none, none] [] w) : Wp (Cw d) cd_Village_lets (2, 0, n1) Q 16 [none, none, mI x2, mI x3, mI x4] [] w :=
  Wp.s (Wp.s (Wp.s (Wp.s (Wp.s (Wp.s (Wp.s (Wp.s ⟨fun q => Wp.fgd (leA.f (leA.f (leA.f (leA.f (leA.f leA.e))))) (h1 q), fun q => Wp.fgd (leA.f (leA.f (leA.f (leA.f (leA.f leA.e))))) (h2 q)⟩)))))))
theorem Village_lets_4_b24 {d : Nat} {n1 : Int} {Q : MV → Wd → Prop} {w : Wd} (h : Wp (Cw d) cd_Village_lets (2, 0, n1) Q 27 [none, none, none, none, none] [mI 1] w) : Wp (Cw d) cd_Village_lets (2, 0, n1) Q 24 [none, none, none, none, none] [] w :=
  Wp.s (Wp.s h)
theorem Village_lets_4_b26 {d : Nat} {n1 : Int} {Q : MV → Wd → Prop} {w : Wd} (h : Wp (Cw d) cd_Village_lets (2, 0, n1) Q 27 [none, none, none, none, none] [mI 0] w) : Wp (Cw d) cd_Village_lets (2, 0, n1) Q 26 [none, none, none, none, none] [] w :=
  Wp.s h
theorem Village_lets_4_b27 {d : Nat} {n1 : Int} {Q : MV → Wd → Prop} {s0 : Int} {w : Wd} (g1 : s0 = 0 ∨ s0 = 1) (h : Q (mI s0) w) : Wp (Cw d) cd_Village_lets (2, 0, n1) Q 27 [none, none, none, none, none] [mI s0] w :=
  Wp.s ⟨g1, h⟩
theorem Village_lets_4_b28 {d : Nat} {n1 : Int} {Q : MV → Wd → Prop} {x3 x4 : Int} {w : Wd} (g1 : (0 : Int) ≤ x4 ∧ x4 < 8) (h1 : ¬ iand x3 (w 7 x4.toNat) = 0 → Wp (Cw d) cd_Village_lets (2, 0, n1) Q 37 [none, none, none, none, none] [] w) (h2 : ¬ (¬ iand x3 (w 7 x4.toNat) = 0) → Wp (Cw d) cd_Village_lets (2, 0, n1) Q 35 [none, none, none, none, none] [] w) : Wp (Cw d) cd_Village_lets (2, 0, n1) Q 28 [mR 4, none, none, mI x3, mI x4] [] w :=
  Wp.s (Wp.s (Wp.s (Wp.s (Wp.s ⟨g1, Wp.s (Wp.s ⟨fun q => Wp.fgd (leA.f (leA.f (leA.f (leA.f (leA.f leA.e))))) (h1 q), fun q => Wp.fgd (leA.f (leA.f (leA.f (leA.f (leA.f leA.e))))) (h2 q)⟩)⟩))))
theorem Village_lets_4_b35 {d : Nat} {n1 : Int} {Q : MV → Wd → Prop} {w : Wd} (h : Wp (Cw d) cd_Village_lets (2, 0, n1) Q 38 [none, none, none, none, none] [mI 1] w) : Wp (Cw d) cd_Village_lets (2, 0, n1) Q 35 [none, none, none, none, none] [] w :=
  Wp.s (Wp.s h)
theorem Village_lets_4_b37 {d : Nat} {n1 : Int} {Q : MV → Wd → Prop} {w : Wd} (h : Wp (Cw d) cd_Village_lets (2, 0, n1) Q 38 [none, none, none, none, none] [mI 0] w) : Wp (Cw d) cd_Village_lets (2, 0, n1) Q 37 [none, none, none, none, none] [] w :=
  Wp.s h
theorem Village_lets_4_b38 {d : Nat} {n1 : Int} {Q : MV → Wd → Prop} {s0 : Int} {w : Wd} (g1 : s0 = 0 ∨ s0 = 1) (h : Q (mI s0) w) : Wp (Cw d) cd_Village_lets (2, 0, n1) Q 38 [none, none, none, none, none] [mI s0] w :=
  Wp.s ⟨g1, h⟩
theorem Village_lets_4_b39 {d : Nat} {n1 : Int} {Q : MV → Wd → Prop} {w : Wd} (h : Q (mI 1) w) : Wp (Cw d) cd_Village_lets (2, 0, n1) Q 39 [none, none, none, none, none] [] w :=
  Wp.s (Wp.s ⟨(Or.inr rfl), h⟩)
theorem Ways_step_113_b0 {d : Nat} {n1 : Int} {Q : MV → Wd → Prop} {x1 x2 x3 : Int} {w : Wd} (h1 : w32 ((w 114 1) - 1) ≤ w32 (x1 + 1) → Wp (Cw d) cd_Ways_step (0, 0, n1) Q 11 [mR 113, mI x1, mI x2, mI x3, none] [] w) (h2 : ¬ (w32 ((w 114 1) - 1) ≤ w32 (x1 + 1)) → Wp (Cw d) cd_Ways_step (0, 0, n1) Q 9 [mR 113, mI x1, mI x2, mI x3, none] [] w) : Wp (Cw d) cd_Ways_step (0, 0, n1) Q 0 [mR 113, mI x1, mI x2, mI x3, none] [] w :=
  Wp.s (Wp.s (Wp.s (Wp.s (Wp.s (Wp.s (Wp.s (Wp.s (Wp.s ⟨fun q => h1 q, fun q => h2 q⟩))))))))
theorem Ways_step_113_b9 {d : Nat} {n1 : Int} {Q : MV → Wd → Prop} {x1 x2 x3 : Int} {w : Wd} (h : Wp (Cw d) cd_Ways_step (0, 0, n1) Q 12 [mR 113, mI x1, mI x2, mI x3, none] [mI 1] w) : Wp (Cw d) cd_Ways_step (0, 0, n1) Q 9 [mR 113, mI x1, mI x2, mI x3, none] [] w :=
  Wp.s (Wp.s h)
theorem Ways_step_113_b11 {d : Nat} {n1 : Int} {Q : MV → Wd → Prop} {x1 x2 x3 : Int} {w : Wd} (h : Wp (Cw d) cd_Ways_step (0, 0, n1) Q 12 [mR 113, mI x1, mI x2, mI x3, none] [mI 0] w) : Wp (Cw d) cd_Ways_step (0, 0, n1) Q 11 [mR 113, mI x1, mI x2, mI x3, none] [] w :=
  Wp.s h
theorem Ways_step_113_b12 {d : Nat} {n1 : Int} {Q : MV → Wd → Prop} {x1 x2 x3 s0 : Int} {w : Wd} (g1 : (0 : Int) ≤ w32 (x1 + 1) ∧ w32 (x1 + 1) < 6) (g2 : (0 : Int) ≤ x1 ∧ x1 < 6) (g3 : (0 : Int) ≤ w32 (x1 + 1) ∧ w32 (x1 + 1) < 6) (g4 : (0 : Int) ≤ x1 ∧ x1 < 6) (g5 : (0 : Int) ≤ x3 ∧ x3 < 64) (g6 : (0 : Int) ≤ w32 (x1 + 1) ∧ w32 (x1 + 1) < 6) (g7 : (0 : Int) ≤ x1 ∧ x1 < 6) (g8 : (0 : Int) ≤ x3 ∧ x3 < 64) (h1 : s0 = 0 → Wp (Cw d) cd_Ways_step (0, 0, n1) Q 77 [mR 113, mI x1, mI x2, none, mI s0] [mI (w32 ((w 125 x1.toNat) + (w 116 x3.toNat))), mI (w32 (x1 + 1)), mR 125] (ub (ub (ub w 122 (w32 (x1 + 1)).toNat x2) 123 (w32 (x1 + 1)).toNat (ior (w 123 x1.toNat) (ishl 1 x2))) 124 (w32 (x1 + 1)).toNat (w32 ((w 124 x1.toNat) + (w 117 x3.toNat))))) (h2 : ¬ (s0 = 0) → Wp (Cw d) cd_Ways_step (0, 0, n1) Q 67 [mR 113, mI x1, mI x2, none, mI s0] [mI (w32 ((w 125 x1.toNat) + (w 116 x3.toNat))), mI (w32 (x1 + 1)), mR 125] (ub (ub (ub w 122 (w32 (x1 + 1)).toNat x2) 123 (w32 (x1 + 1)).toNat (ior (w 123 x1.toNat) (ishl 1 x2))) 124 (w32 (x1 + 1)).toNat (w32 ((w 124 x1.toNat) + (w 117 x3.toNat))))) : Wp (Cw d) cd_Ways_step (0, 0, n1) Q 12 [mR 113, mI x1, mI x2, mI x3, none] [mI s0] w :=
  Wp.s (Wp.s (Wp.s (Wp.s (Wp.s (Wp.s (Wp.s (Wp.s ⟨g1, Wp.s (Wp.s (Wp.s (Wp.s (Wp.s (Wp.s (Wp.s (Wp.s (Wp.s ⟨g2, Wp.s (Wp.s (Wp.s (Wp.s (Wp.s ⟨g3, Wp.s (Wp.s (Wp.s (Wp.s (Wp.s (Wp.s (Wp.s (Wp.s (Wp.s ⟨g4, Wp.s (Wp.s (Wp.s (Wp.s (Wp.s ⟨g5, Wp.s (Wp.s ⟨g6, Wp.s (Wp.s (Wp.s (Wp.s (Wp.s (Wp.s (Wp.s (Wp.s (Wp.s ⟨g7, Wp.s (Wp.s (Wp.s (Wp.s (Wp.s ⟨g8, Wp.s (Wp.s (Wp.s ⟨fun q => Wp.fgd (leA.k (leA.k (leA.k (leA.f (leA.k leA.e))))) (h1 q), fun q => Wp.fgd (leA.k (leA.k (leA.k (leA.f (leA.k leA.e))))) (h2 q)⟩))⟩))))⟩))))))))⟩)⟩))))⟩))))))))⟩))))⟩))))))))⟩)))))))
theorem Ways_step_113_b67 {d : Nat} {n1 : Int} {Q : MV → Wd → Prop} {x1 x2 x4 s0 s1 : Int} {w : Wd} (h1 : x2 = w 113 2 → Wp (Cw d) cd_Ways_step (0, 0, n1) Q 77 [mR 113, mI x1, mI x2, none, mI x4] [mI s0, mI s1, mR 125] w) (h2 : ¬ (x2 = w 113 2) → Wp (Cw d) cd_Ways_step (0, 0, n1) Q 71 [mR 113, mI x1, mI x2, none, mI x4] [mI s0, mI s1, mR 125] w) : Wp (Cw d) cd_Ways_step (0, 0, n1) Q 67 [mR 113, mI x1, mI x2, none, mI x4] [mI s0, mI s1, mR 125] w :=
  Wp.s (Wp.s (Wp.s (Wp.s ⟨fun q => h1 q, fun q => h2 q⟩)))
theorem Ways_step_113_b71 {d : Nat} {n1 : Int} {Q : MV → Wd → Prop} {x1 x2 x4 s0 s1 : Int} {w : Wd} (g1 : (0 : Int) ≤ x2 ∧ x2 < 8) (h : Wp (Cw d) cd_Ways_step (0, 0, n1) Q 78 [mR 113, mI x1, mI x2, none, mI x4] [mI (w 115 x2.toNat), mI s0, mI s1, mR 125] w) : Wp (Cw d) cd_Ways_step (0, 0, n1) Q 71 [mR 113, mI x1, mI x2, none, mI x4] [mI s0, mI s1, mR 125] w :=
  Wp.s (Wp.s (Wp.s (Wp.s (Wp.s ⟨g1, Wp.s h⟩))))
theorem Ways_step_113_b77 {d : Nat} {n1 : Int} {Q : MV → Wd → Prop} {x1 x2 x4 s0 s1 : Int} {w : Wd} (h : Wp (Cw d) cd_Ways_step (0, 0, n1) Q 78 [mR 113, mI x1, mI x2, none, mI x4] [mI 0, mI s0, mI s1, mR 125] w) : Wp (Cw d) cd_Ways_step (0, 0, n1) Q 77 [mR 113, mI x1, mI x2, none, mI x4] [mI s0, mI s1, mR 125] w :=
  Wp.s h
theorem Ways_step_113_b78 {d : Nat} {n1 : Int} {Q : MV → Wd → Prop} {x1 x2 x4 s0 s1 s2 : Int} {w : Wd} (g1 : (0 : Int) ≤ s2 ∧ s2 < 6) (g2 : (0 : Int) ≤ x1 ∧ x1 < 6) (h1 : x4 = 0 → Wp (Cw d) cd_Ways_step (0, 0, n1) Q 97 [mR 113, mI x1, none, none, none] [mI (w 126 x1.toNat), mI (w32 (x1 + 1)), mR 126] (ub w 125 s2.toNat (w32 (s1 + s0)))) (h2 : ¬ (x4 = 0) → Wp (Cw d) cd_Ways_step (0, 0, n1) Q 91 [mR 113, mI x1, mI x2, none, none] [mI (w 126 x1.toNat), mI (w32 (x1 + 1)), mR 126] (ub w 125 s2.toNat (w32 (s1 + s0)))) : Wp (Cw d) cd_Ways_step (0, 0, n1) Q 78 [mR 113, mI x1, mI x2, none, mI x4] [mI s0, mI s1, mI s2, mR 125] w :=
  Wp.s (Wp.s ⟨g1, Wp.s (Wp.s (Wp.s (Wp.s (Wp.s (Wp.s (Wp.s (Wp.s (Wp.s ⟨g2, Wp.s (Wp.s ⟨fun q => Wp.fgd (leA.k (leA.k (leA.f (leA.f (leA.f leA.e))))) (h1 q), fun q => Wp.fgd (leA.k (leA.k (leA.k (leA.f (leA.f leA.e))))) (h2 q)⟩)⟩))))))))⟩)
theorem Ways_step_113_b91 {d : Nat} {n1 : Int} {Q : MV → Wd → Prop} {x1 x2 s0 s1 : Int} {w : Wd} (h1 : ¬ x2 = w 113 2 → Wp (Cw d) cd_Ways_step (0, 0, n1) Q 97 [mR 113, mI x1, none, none, none] [mI s0, mI s1, mR 126] w) (h2 : ¬ (¬ x2 = w 113 2) → Wp (Cw d) cd_Ways_step (0, 0, n1) Q 95 [mR 113, mI x1, none, none, none] [mI s0, mI s1, mR 126] w) : Wp (Cw d) cd_Ways_step (0, 0, n1) Q 91 [mR 113, mI x1, mI x2, none, none] [mI s0, mI s1, mR 126] w :=
  Wp.s (Wp.s (Wp.s (Wp.s ⟨fun q => Wp.fgd (leA.k (leA.k (leA.f (leA.f (leA.f leA.e))))) (h1 q), fun q => Wp.fgd (leA.k (leA.k (leA.f (leA.f (leA.f leA.e))))) (h2 q)⟩)))
theorem Ways_step_113_b95 {d : Nat} {n1 : Int} {Q : MV → Wd → Prop} {x1 s0 s1 : Int} {w : Wd} (h : Wp (Cw d) cd_Ways_step (0, 0, n1) Q 98 [mR 113, mI x1, none, none, none] [mI 1, mI s0, mI s1, mR 126] w) : Wp (Cw d) cd_Ways_step (0, 0, n1) Q 95 [mR 113, mI x1, none, none, none] [mI s0, mI s1, mR 126] w :=
  Wp.s (Wp.s h)
theorem Ways_step_113_b97 {d : Nat} {n1 : Int} {Q : MV → Wd → Prop} {x1 s0 s1 : Int} {w : Wd} (h : Wp (Cw d) cd_Ways_step (0, 0, n1) Q 98 [mR 113, mI x1, none, none, none] [mI 0, mI s0, mI s1, mR 126] w) : Wp (Cw d) cd_Ways_step (0, 0, n1) Q 97 [mR 113, mI x1, none, none, none] [mI s0, mI s1, mR 126] w :=
  Wp.s h
theorem Ways_step_113_b98 {d : Nat} {n1 : Int} {Q : MV → Wd → Prop} {x1 s0 s1 s2 : Int} {w : Wd} (g1 : (0 : Int) ≤ s2 ∧ s2 < 6) (h : Cw d 64 [mR 113, mI (w32 (x1 + 1))] (ub w 126 s2.toNat (w32 (s1 + s0))) (fun _ w' => Wp (Cw d) cd_Ways_step (0, 0, n1) Q 105 [none, none, none, none, none] [] w')) : Wp (Cw d) cd_Ways_step (0, 0, n1) Q 98 [mR 113, mI x1, none, none, none] [mI s0, mI s1, mI s2, mR 126] w :=
  Wp.s (Wp.s ⟨g1, Wp.s (Wp.s (Wp.s (Wp.s (Wp.s (Cw_mono _ _ _ _ _ _ (fun r w' q => Wp.fgd (leA.f (leA.f (leA.f (leA.f (leA.f leA.e))))) q) h)))))⟩)
theorem Ways_step_113_b105 {d : Nat} {n1 : Int} {Q : MV → Wd → Prop} {w : Wd} (h : Q none w) : Wp (Cw d) cd_Ways_step (0, 0, n1) Q 105 [none, none, none, none, none] [] w :=
  Wp.s h
theorem Ways_arrive_113_b0 {d : Nat} {n1 : Int} {Q : MV → Wd → Prop} {x1 : Int} {w : Wd} (h : Wp (Cw d) cd_Ways_arrive (0, 0, n1) Q 4 [mR 113, mI x1, mI 0, mI 0, none, none, none, none, none] [] w) : Wp (Cw d) cd_Ways_arrive (0, 0, n1) Q 0 [mR 113, mI x1, none, none, none, none, none, none, none] [] w :=
  Wp.s (Wp.s (Wp.s (Wp.s h)))
theorem Ways_arrive_113_b4 {d : Nat} {n1 : Int} {Q : MV → Wd → Prop} {x1 x2 x3 : Int} {w : Wd} (h1 : x1 < x3 → Wp (Cw d) cd_Ways_arrive (0, 0, n1) Q 18 [mR 113, mI x1, mI x2, none, none, none, none, none, none] [] w) (h2 : ¬ (x1 < x3) → Wp (Cw d) cd_Ways_arrive (0, 0, n1) Q 7 [mR 113, mI x1, mI x2, mI x3, none, none, none, none, none] [] w) : Wp (Cw d) cd_Ways_arrive (0, 0, n1) Q 4 [mR 113, mI x1, mI x2, mI x3, none, none, none, none, none] [] w :=
  Wp.s (Wp.s (Wp.s ⟨fun q => Wp.fgd (leA.k (leA.k (leA.k (leA.f (leA.f (leA.f (leA.f (leA.f (leA.f leA.e))))))))) (h1 q), fun q => h2 q⟩))
theorem Ways_arrive_113_b7 {d : Nat} {n1 : Int} {Q : MV → Wd → Prop} {x1 x2 x3 : Int} {w : Wd} (g1 : (0 : Int) ≤ x3 ∧ x3 < 6) (h : Wp (Cw d) cd_Ways_arrive (0, 0, n1) Q 4 [mR 113, mI x1, mI (ior (ishl x2 3) (w 122 x3.toNat)), mI (w32 (x3 + 1)), none, none, none, none, none] [] w) : Wp (Cw d) cd_Ways_arrive (0, 0, n1) Q 7 [mR 113, mI x1, mI x2, mI x3, none, none, none, none, none] [] w :=
  Wp.s (Wp.s (Wp.s (Wp.s (Wp.s (Wp.s (Wp.s ⟨g1, Wp.s (Wp.s (Wp.s (Wp.s h)))⟩))))))
theorem Ways_arrive_113_b18 {d : Nat} {n1 : Int} {Q : MV → Wd → Prop} {x1 x2 : Int} {w : Wd} (g1 : (0 : Int) ≤ x1 ∧ x1 < 6) (g2 : (0 : Int) ≤ x1 ∧ x1 < 6) (g3 : (0 : Int) ≤ x1 ∧ x1 < 6) (h : Wp (Cw d) cd_Ways_arrive (0, 0, n1) Q 46 [mR 113, mI x1, none, mL (w64 ((w64 ((lshl (w 125 x1.toNat) 24) + (lshl (w 124 x1.toNat) 18))) + x2)), none, mI (min (w 126 x1.toNat) 2), mI 0, none, none] [] w) : Wp (Cw d) cd_Ways_arrive (0, 0, n1) Q 18 [mR 113, mI x1, mI x2, none, none, none, none, none, none] [] w :=
  Wp.s (Wp.s (Wp.s (Wp.s ⟨g1, Wp.s (Wp.s (Wp.s (Wp.s (Wp.s (Wp.s (Wp.s ⟨g2, Wp.s (Wp.s (Wp.s (Wp.s (Wp.s (Wp.s (Wp.s (Wp.s (Wp.s (Wp.s (Wp.s (Wp.s ⟨g3, Wp.s (Wp.s (Wp.s (Wp.s (Wp.s (Wp.fgd (leA.k (leA.k (leA.f (leA.k (leA.f (leA.k (leA.k (leA.f (leA.f leA.e))))))))) h)))))⟩)))))))))))⟩))))))⟩)))
theorem Ways_arrive_113_b46 {d : Nat} {n1 : Int} {Q : MV → Wd → Prop} {x1 x3 x5 x6 : Int} {w : Wd} (h1 : w 4 11 ≤ x6 → Wp (Cw d) cd_Ways_arrive (0, 0, n1) Q 130 [none, none, none, none, none, none, none, none, none] [] w) (h2 : ¬ (w 4 11 ≤ x6) → Wp (Cw d) cd_Ways_arrive (0, 0, n1) Q 51 [mR 113, mI x1, none, mL x3, none, mI x5, mI x6, none, none] [] w) : Wp (Cw d) cd_Ways_arrive (0, 0, n1) Q 46 [mR 113, mI x1, none, mL x3, none, mI x5, mI x6, none, none] [] w :=
  Wp.s (Wp.s (Wp.s (Wp.s (Wp.s ⟨fun q => Wp.fgd (leA.f (leA.f (leA.f (leA.f (leA.f (leA.f (leA.f (leA.f (leA.f leA.e))))))))) (h1 q), fun q => h2 q⟩))))
theorem Ways_arrive_113_b51 {d : Nat} {n1 : Int} {Q : MV → Wd → Prop} {x1 x3 x5 x6 : Int} {w : Wd} (g1 : (0 : Int) ≤ w32 ((w32 (x6 * 4)) + 0) ∧ w32 ((w32 (x6 * 4)) + 0) < 32) (g2 : (0 : Int) ≤ x1 ∧ x1 < 6) (g3 : (0 : Int) ≤ x6 ∧ x6 < 8) (h1 : w 119 x6.toNat < w 124 x1.toNat → Wp (Cw d) cd_Ways_arrive (0, 0, n1) Q 128 [mR 113, mI x1, none, mL x3, none, mI x5, mI x6, none, none] [] w) (h2 : ¬ (w 119 x6.toNat < w 124 x1.toNat) → Wp (Cw d) cd_Ways_arrive (0, 0, n1) Q 70 [mR 113, mI x1, none, mL x3, none, mI x5, mI x6, mI (w 13 (w32 ((w32 (x6 * 4)) + 0)).toNat), none] [] w) : Wp (Cw d) cd_Ways_arrive (0, 0, n1) Q 51 [mR 113, mI x1, none, mL x3, none, mI x5, mI x6, none, none] [] w :=
  Wp.s (Wp.s (Wp.s (Wp.s (Wp.s (Wp.s (Wp.s (Wp.s (Wp.s ⟨g1, Wp.s (Wp.s (Wp.s (Wp.s (Wp.s ⟨g2, Wp.s (Wp.s (Wp.s (Wp.s ⟨g3, Wp.s ⟨fun q => Wp.fgd (leA.k (leA.k (leA.f (leA.k (leA.f (leA.k (leA.k (leA.f (leA.f leA.e))))))))) (h1 q), fun q => h2 q⟩⟩)))⟩))))⟩))))))))
theorem Ways_arrive_113_b70 {d : Nat} {n1 : Int} {Q : MV → Wd → Prop} {x1 x3 x5 x6 x7 : Int} {w : Wd} (g1 : (0 : Int) ≤ x1 ∧ x1 < 6) (h1 : ¬ x7 = w 122 x1.toNat → Wp (Cw d) cd_Ways_arrive (0, 0, n1) Q 128 [mR 113, mI x1, none, mL x3, none, mI x5, mI x6, none, none] [] w) (h2 : ¬ (¬ x7 = w 122 x1.toNat) → Wp (Cw d) cd_Ways_arrive (0, 0, n1) Q 76 [mR 113, mI x1, none, mL x3, none, mI x5, mI x6, none, none] [] w) : Wp (Cw d) cd_Ways_arrive (0, 0, n1) Q 70 [mR 113, mI x1, none, mL x3, none, mI x5, mI x6, mI x7, none] [] w :=
  Wp.s (Wp.s (Wp.s (Wp.s (Wp.s ⟨g1, Wp.s ⟨fun q => Wp.fgd (leA.k (leA.k (leA.f (leA.k (leA.f (leA.k (leA.k (leA.f (leA.f leA.e))))))))) (h1 q), fun q => Wp.fgd (leA.k (leA.k (leA.f (leA.k (leA.f (leA.k (leA.k (leA.f (leA.f leA.e))))))))) (h2 q)⟩⟩))))
theorem Ways_arrive_113_b76 {d : Nat} {n1 : Int} {Q : MV → Wd → Prop} {x1 x3 x5 x6 : Int} {w : Wd} (g1 : (0 : Int) ≤ x6 ∧ x6 < 8) (h1 : ¬ w 120 x6.toNat = 0 → Wp (Cw d) cd_Ways_arrive (0, 0, n1) Q 89 [mR 113, mI x1, none, mL x3, none, mI x5, mI x6, none, none] [mI x6, mR 121] w) (h2 : ¬ (¬ w 120 x6.toNat = 0) → Wp (Cw d) cd_Ways_arrive (0, 0, n1) Q 84 [mR 113, mI x1, none, mL x3, none, mI x5, mI x6, none, none] [mI x6, mR 121] w) : Wp (Cw d) cd_Ways_arrive (0, 0, n1) Q 76 [mR 113, mI x1, none, mL x3, none, mI x5, mI x6, none, none] [] w :=
  Wp.s (Wp.s (Wp.s (Wp.s (Wp.s (Wp.s (Wp.s ⟨g1, Wp.s ⟨fun q => h1 q, fun q => h2 q⟩⟩))))))
theorem Ways_arrive_113_b84 {d : Nat} {n1 : Int} {Q : MV → Wd → Prop} {x1 x3 x5 x6 s0 : Int} {w : Wd} (g1 : (0 : Int) ≤ x1 ∧ x1 < 6) (h : Wp (Cw d) cd_Ways_arrive (0, 0, n1) Q 98 [mR 113, mI x1, none, mL x3, none, mI x5, mI x6, none, none] [mI (w 124 x1.toNat), mI s0, mR 121] w) : Wp (Cw d) cd_Ways_arrive (0, 0, n1) Q 84 [mR 113, mI x1, none, mL x3, none, mI x5, mI x6, none, none] [mI s0, mR 121] w :=
  Wp.s (Wp.s (Wp.s (Wp.s ⟨g1, Wp.s h⟩)))
theorem Ways_arrive_113_b89 {d : Nat} {n1 : Int} {Q : MV → Wd → Prop} {x1 x3 x5 x6 s0 : Int} {w : Wd} (g1 : (0 : Int) ≤ x6 ∧ x6 < 8) (g2 : (0 : Int) ≤ x1 ∧ x1 < 6) (h : Wp (Cw d) cd_Ways_arrive (0, 0, n1) Q 98 [mR 113, mI x1, none, mL x3, none, mI x5, mI x6, none, none] [mI (min (w 121 x6.toNat) (w 124 x1.toNat)), mI s0, mR 121] w) : Wp (Cw d) cd_Ways_arrive (0, 0, n1) Q 89 [mR 113, mI x1, none, mL x3, none, mI x5, mI x6, none, none] [mI s0, mR 121] w :=
  Wp.s (Wp.s (Wp.s (Wp.s ⟨g1, Wp.s (Wp.s (Wp.s (Wp.s ⟨g2, Wp.s h⟩)))⟩)))
theorem Ways_arrive_113_b98 {d : Nat} {n1 : Int} {Q : MV → Wd → Prop} {x1 x3 x5 x6 s0 s1 : Int} {w : Wd} (g1 : (0 : Int) ≤ s1 ∧ s1 < 8) (g2 : (0 : Int) ≤ x6 ∧ x6 < 8) (g3 : (0 : Int) ≤ x6 ∧ x6 < 8) (g4 : (0 : Int) ≤ w32 ((w32 ((w32 ((w32 ((w 113 7) * 8)) + x6)) * 3)) + x5) ∧ w32 ((w32 ((w32 ((w32 ((w 113 7) * 8)) + x6)) * 3)) + x5) < 384) (g5 : (0 : Int) ≤ w32 ((w32 ((w32 ((w32 ((w 113 7) * 8)) + x6)) * 3)) + x5) ∧ w32 ((w32 ((w32 ((w32 ((w 113 7) * 8)) + x6)) * 3)) + x5) < 384) (h : Wp (Cw d) cd_Ways_arrive (0, 0, n1) Q 128 [mR 113, mI x1, none, mL x3, none, mI x5, mI x6, none, none] [] (ub (ub (ub w 121 s1.toNat s0) 120 x6.toNat (w32 ((w 120 x6.toNat) + 1))) 118 (w32 ((w32 ((w32 ((w32 ((w 113 7) * 8)) + x6)) * 3)) + x5)).toNat (min (w 118 (w32 ((w32 ((w32 ((w32 ((w 113 7) * 8)) + x6)) * 3)) + x5)).toNat) x3))) : Wp (Cw d) cd_Ways_arrive (0, 0, n1) Q 98 [mR 113, mI x1, none, mL x3, none, mI x5, mI x6, none, none] [mI s0, mI s1, mR 121] w :=
  Wp.s ⟨g1, Wp.s (Wp.s (Wp.s (Wp.s (Wp.s ⟨g2, Wp.s (Wp.s (Wp.s ⟨g3, Wp.s (Wp.s (Wp.s (Wp.s (Wp.s (Wp.s (Wp.s (Wp.s (Wp.s (Wp.s (Wp.s (Wp.s (Wp.s (Wp.s (Wp.s (Wp.s (Wp.s (Wp.s ⟨g4, Wp.s (Wp.s (Wp.s ⟨g5, Wp.fgd (leA.k (leA.k (leA.f (leA.k (leA.f (leA.k (leA.k (leA.f (leA.f leA.e))))))))) h⟩))⟩)))))))))))))))))⟩))⟩))))⟩
theorem Ways_arrive_113_b128 {d : Nat} {n1 : Int} {Q : MV → Wd → Prop} {x1 x3 x5 x6 : Int} {w : Wd} (h : Wp (Cw d) cd_Ways_arrive (0, 0, n1) Q 46 [mR 113, mI x1, none, mL x3, none, mI x5, mI (w32 (x6 + 1)), none, none] [] w) : Wp (Cw d) cd_Ways_arrive (0, 0, n1) Q 128 [mR 113, mI x1, none, mL x3, none, mI x5, mI x6, none, none] [] w :=
  Wp.s (Wp.s h)
theorem Ways_arrive_113_b130 {d : Nat} {n1 : Int} {Q : MV → Wd → Prop} {w : Wd} (h : Q none w) : Wp (Cw d) cd_Ways_arrive (0, 0, n1) Q 130 [none, none, none, none, none, none, none, none, none] [] w :=
  Wp.s h
theorem Meeting_takenAsking_112_b0 {d : Nat} {n1 : Int} {Q : MV → Wd → Prop} {x1 x2 : Int} {w : Wd} (h : Wp (Cw d) cd_Meeting_takenAsking (3, 0, n1) Q 4 [mR 112, mI x1, mI x2, mL 9223372036854775807, none, mI 0] [] w) : Wp (Cw d) cd_Meeting_takenAsking (3, 0, n1) Q 0 [mR 112, mI x1, mI x2, none, none, none] [] w :=
  Wp.s (Wp.s (Wp.s (Wp.s h)))
theorem Meeting_takenAsking_112_b4 {d : Nat} {n1 : Int} {Q : MV → Wd → Prop} {x1 x2 x3 x5 : Int} {w : Wd} (h1 : 3 ≤ x5 → Wp (Cw d) cd_Meeting_takenAsking (3, 0, n1) Q 25 [none, none, none, mL x3, none, none] [] w) (h2 : ¬ (3 ≤ x5) → Wp (Cw d) cd_Meeting_takenAsking (3, 0, n1) Q 7 [mR 112, mI x1, mI x2, mL x3, none, mI x5] [] w) : Wp (Cw d) cd_Meeting_takenAsking (3, 0, n1) Q 4 [mR 112, mI x1, mI x2, mL x3, none, mI x5] [] w :=
  Wp.s (Wp.s (Wp.s ⟨fun q => Wp.fgd (leA.f (leA.f (leA.f (leA.k (leA.f (leA.f leA.e)))))) (h1 q), fun q => h2 q⟩))
theorem Meeting_takenAsking_112_b7 {d : Nat} {n1 : Int} {Q : MV → Wd → Prop} {x1 x2 x3 x5 : Int} {w : Wd} (g1 : (0 : Int) ≤ w32 ((w32 (x1 * 3)) + x5) ∧ w32 ((w32 (x1 * 3)) + x5) < 384) (h : Cw d 71 [mL (w 118 (w32 ((w32 (x1 * 3)) + x5)).toNat), mI (w32 (x2 * x5))] w (fun r w' => Wp (Cw d) cd_Meeting_takenAsking (3, 0, n1) Q 21 [mR 112, mI x1, mI x2, none, none, mI x5] [r, mL x3] w')) : Wp (Cw d) cd_Meeting_takenAsking (3, 0, n1) Q 7 [mR 112, mI x1, mI x2, mL x3, none, mI x5] [] w :=
  Wp.s (Wp.s (Wp.s (Wp.s (Wp.s (Wp.s (Wp.s (Wp.s (Wp.s (Wp.s ⟨g1, Wp.s (Wp.s (Wp.s (Wp.s (Cw_mono _ _ _ _ _ _ (fun r w' q => Wp.fgd (leA.k (leA.k (leA.k (leA.f (leA.f (leA.k leA.e)))))) q) h))))⟩)))))))))
theorem Meeting_takenAsking_112_b21 {d : Nat} {n1 : Int} {Q : MV → Wd → Prop} {x1 x2 x5 s0 s1 : Int} {w : Wd} (h : Wp (Cw d) cd_Meeting_takenAsking (3, 0, n1) Q 4 [mR 112, mI x1, mI x2, mL (min s1 s0), none, mI (w32 (x5 + 1))] [] w) : Wp (Cw d) cd_Meeting_takenAsking (3, 0, n1) Q 21 [mR 112, mI x1, mI x2, none, none, mI x5] [mL s0, mL s1] w :=
  Wp.s (Wp.s (Wp.s (Wp.s h)))
theorem Meeting_takenAsking_112_b25 {d : Nat} {n1 : Int} {Q : MV → Wd → Prop} {x3 : Int} {w : Wd} (h : Q (mL x3) w) : Wp (Cw d) cd_Meeting_takenAsking (3, 0, n1) Q 25 [none, none, none, mL x3, none, none] [] w :=
  Wp.s (Wp.s h)
theorem Meeting_bestOfSort_112_b0 {d : Nat} {n1 : Int} {Q : MV → Wd → Prop} {x1 : Int} {w : Wd} (h : Cw d 74 [mR 4, mI x1] w (fun r w' => Wp (Cw d) cd_Meeting_bestOfSort (3, 0, n1) Q 4 [mR 112, mI x1, none, none, none, none] [r] w')) : Wp (Cw d) cd_Meeting_bestOfSort (3, 0, n1) Q 0 [mR 112, mI x1, none, none, none, none] [] w :=
  Wp.s (Wp.s (Wp.s (Wp.s h)))
theorem Meeting_bestOfSort_112_b4 {d : Nat} {n1 : Int} {Q : MV → Wd → Prop} {x1 s0 : Int} {w : Wd} (h1 : ¬ s0 = 0 → Wp (Cw d) cd_Meeting_bestOfSort (3, 0, n1) Q 9 [mR 112, mI x1, mI s0, none, none, none] [] w) (h2 : ¬ (¬ s0 = 0) → Wp (Cw d) cd_Meeting_bestOfSort (3, 0, n1) Q 7 [none, none, none, none, none, none] [] w) : Wp (Cw d) cd_Meeting_bestOfSort (3, 0, n1) Q 4 [mR 112, mI x1, none, none, none, none] [mI s0] w :=
  Wp.s (Wp.s (Wp.s ⟨fun q => h1 q, fun q => Wp.fgd (leA.f (leA.f (leA.f (leA.f (leA.f (leA.f leA.e)))))) (h2 q)⟩))
theorem Meeting_bestOfSort_112_b7 {d : Nat} {n1 : Int} {Q : MV → Wd → Prop} {w : Wd} (h : Q (mL 0) w) : Wp (Cw d) cd_Meeting_bestOfSort (3, 0, n1) Q 7 [none, none, none, none, none, none] [] w :=
  Wp.s (Wp.s h)
theorem Meeting_bestOfSort_112_b9 {d : Nat} {n1 : Int} {Q : MV → Wd → Prop} {x1 x2 : Int} {w : Wd} (h : Cw d 277 [mR 130, mL ((-1))] w (fun _ w' => Wp (Cw d) cd_Meeting_bestOfSort (3, 0, n1) Q 13 [mR 112, mI x1, mI x2, none, none, none] [] w')) : Wp (Cw d) cd_Meeting_bestOfSort (3, 0, n1) Q 9 [mR 112, mI x1, mI x2, none, none, none] [] w :=
  Wp.s (Wp.s (Wp.s (Wp.s h)))
theorem Meeting_bestOfSort_112_b13 {d : Nat} {n1 : Int} {Q : MV → Wd → Prop} {x1 x2 : Int} {w : Wd} (h : Wp (Cw d) cd_Meeting_bestOfSort (3, 0, n1) Q 20 [mR 112, mI x1, mI x2, mI 0, none, none] [] (ub w 130 0.toNat 0)) : Wp (Cw d) cd_Meeting_bestOfSort (3, 0, n1) Q 13 [mR 112, mI x1, mI x2, none, none, none] [] w :=
  Wp.s (Wp.s (Wp.s (Wp.s (Wp.s ⟨(by decide), Wp.s (Wp.s h)⟩))))
theorem Meeting_bestOfSort_112_b20 {d : Nat} {n1 : Int} {Q : MV → Wd → Prop} {x1 x2 x3 : Int} {w : Wd} (h1 : w 4 8 ≤ x3 → Wp (Cw d) cd_Meeting_bestOfSort (3, 0, n1) Q 38 [mR 112, none, mI x2, none, none, none] [] w) (h2 : ¬ (w 4 8 ≤ x3) → Wp (Cw d) cd_Meeting_bestOfSort (3, 0, n1) Q 25 [mR 112, mI x1, mI x2, mI x3, none, none] [] w) : Wp (Cw d) cd_Meeting_bestOfSort (3, 0, n1) Q 20 [mR 112, mI x1, mI x2, mI x3, none, none] [] w :=
  Wp.s (Wp.s (Wp.s (Wp.s (Wp.s ⟨fun q => Wp.fgd (leA.k (leA.f (leA.k (leA.f (leA.f (leA.f leA.e)))))) (h1 q), fun q => h2 q⟩))))
theorem Meeting_bestOfSort_112_b25 {d : Nat} {n1 : Int} {Q : MV → Wd → Prop} {x1 x2 x3 : Int} {w : Wd} (h : Cw d 61 [mR 4, mI x3, mI 0] w (fun r w' => Wp (Cw d) cd_Meeting_bestOfSort (3, 0, n1) Q 30 [mR 112, mI x1, mI x2, mI x3, none, none] [r] w')) : Wp (Cw d) cd_Meeting_bestOfSort (3, 0, n1) Q 25 [mR 112, mI x1, mI x2, mI x3, none, none] [] w :=
  Wp.s (Wp.s (Wp.s (Wp.s (Wp.s h))))
theorem Meeting_bestOfSort_112_b30 {d : Nat} {n1 : Int} {Q : MV → Wd → Prop} {x1 x2 x3 s0 : Int} {w : Wd} (h1 : ¬ s0 = x1 → Wp (Cw d) cd_Meeting_bestOfSort (3, 0, n1) Q 36 [mR 112, mI x1, mI x2, mI x3, none, none] [] w) (h2 : ¬ (¬ s0 = x1) → Wp (Cw d) cd_Meeting_bestOfSort (3, 0, n1) Q 32 [mR 112, mI x1, mI x2, mI x3, none, none] [] w) : Wp (Cw d) cd_Meeting_bestOfSort (3, 0, n1) Q 30 [mR 112, mI x1, mI x2, mI x3, none, none] [mI s0] w :=
  Wp.s (Wp.s ⟨fun q => h1 q, fun q => h2 q⟩)
theorem Meeting_bestOfSort_112_b32 {d : Nat} {n1 : Int} {Q : MV → Wd → Prop} {x1 x2 x3 : Int} {w : Wd} (h : Cw d 75 [mR 112, mI x3, mI x2] w (fun _ w' => Wp (Cw d) cd_Meeting_bestOfSort (3, 0, n1) Q 36 [mR 112, mI x1, mI x2, mI x3, none, none] [] w')) : Wp (Cw d) cd_Meeting_bestOfSort (3, 0, n1) Q 32 [mR 112, mI x1, mI x2, mI x3, none, none] [] w :=
  Wp.s (Wp.s (Wp.s (Wp.s h)))
theorem Meeting_bestOfSort_112_b36 {d : Nat} {n1 : Int} {Q : MV → Wd → Prop} {x1 x2 x3 : Int} {w : Wd} (h : Wp (Cw d) cd_Meeting_bestOfSort (3, 0, n1) Q 20 [mR 112, mI x1, mI x2, mI (w32 (x3 + 1)), none, none] [] w) : Wp (Cw d) cd_Meeting_bestOfSort (3, 0, n1) Q 36 [mR 112, mI x1, mI x2, mI x3, none, none] [] w :=
  Wp.s (Wp.s h)
theorem Meeting_bestOfSort_112_b38 {d : Nat} {n1 : Int} {Q : MV → Wd → Prop} {x2 : Int} {w : Wd} (h : Wp (Cw d) cd_Meeting_bestOfSort (3, 0, n1) Q 42 [mR 112, none, mI x2, mL 0, none, mI x2] [] w) : Wp (Cw d) cd_Meeting_bestOfSort (3, 0, n1) Q 38 [mR 112, none, mI x2, none, none, none] [] w :=
  Wp.s (Wp.s (Wp.s (Wp.s h)))
theorem Meeting_bestOfSort_112_b42 {d : Nat} {n1 : Int} {Q : MV → Wd → Prop} {x2 x3 x5 : Int} {w : Wd} (h1 : x5 ≤ 0 → Wp (Cw d) cd_Meeting_bestOfSort (3, 0, n1) Q 58 [none, none, none, mL x3, none, none] [] w) (h2 : ¬ (x5 ≤ 0) → Wp (Cw d) cd_Meeting_bestOfSort (3, 0, n1) Q 44 [mR 112, none, mI x2, mL x3, none, mI x5] [] w) : Wp (Cw d) cd_Meeting_bestOfSort (3, 0, n1) Q 42 [mR 112, none, mI x2, mL x3, none, mI x5] [] w :=
  Wp.s (Wp.s ⟨fun q => Wp.fgd (leA.f (leA.f (leA.f (leA.k (leA.f (leA.f leA.e)))))) (h1 q), fun q => h2 q⟩)
theorem Meeting_bestOfSort_112_b44 {d : Nat} {n1 : Int} {Q : MV → Wd → Prop} {x2 x3 x5 : Int} {w : Wd} (g1 : (0 : Int) ≤ x5 ∧ x5 < 256) (h : Wp (Cw d) cd_Meeting_bestOfSort (3, 0, n1) Q 42 [mR 112, none, mI x2, mL (max x3 (w 130 x5.toNat)), none, mI (iand (w32 (x5 - 1)) x2)] [] w) : Wp (Cw d) cd_Meeting_bestOfSort (3, 0, n1) Q 44 [mR 112, none, mI x2, mL x3, none, mI x5] [] w :=
  Wp.s (Wp.s (Wp.s (Wp.s (Wp.s ⟨g1, Wp.s (Wp.s (Wp.s (Wp.s (Wp.s (Wp.s (Wp.s (Wp.s (Wp.s h))))))))⟩))))
theorem Meeting_bestOfSort_112_b58 {d : Nat} {n1 : Int} {Q : MV → Wd → Prop} {x3 : Int} {w : Wd} (h : Q (mL x3) w) : Wp (Cw d) cd_Meeting_bestOfSort (3, 0, n1) Q 58 [none, none, none, mL x3, none, none] [] w :=
  Wp.s (Wp.s h)
theorem Ways_timesBetween_113_b0 {d : Nat} {n1 : Int} {Q : MV → Wd → Prop} {x1 x3 : Int} {w : Wd} (h : Cw d 80 [mL x1] w (fun r w' => Wp (Cw d) cd_Ways_timesBetween (1, 0, n1) Q 2 [mR 113, none, none, mI x3, none, none, none] [r] w')) : Wp (Cw d) cd_Ways_timesBetween (1, 0, n1) Q 0 [mR 113, mL x1, none, mI x3, none, none, none] [] w :=
  Wp.s (Wp.s (Cw_mono _ _ _ _ _ _ (fun r w' q => Wp.fgd (leA.k (leA.f (leA.f (leA.k (leA.f (leA.f (leA.f leA.e))))))) q) h))
theorem Ways_timesBetween_113_b2 {d : Nat} {n1 : Int} {Q : MV → Wd → Prop} {x3 s0 : Int} {w : Wd} (h : Wp (Cw d) cd_Ways_timesBetween (1, 0, n1) Q 7 [mR 113, none, none, mI x3, mI s0, mI 0, mI 1] [] w) : Wp (Cw d) cd_Ways_timesBetween (1, 0, n1) Q 2 [mR 113, none, none, mI x3, none, none, none] [mI s0] w :=
  Wp.s (Wp.s (Wp.s (Wp.s (Wp.s h))))
theorem Ways_timesBetween_113_b7 {d : Nat} {n1 : Int} {Q : MV → Wd → Prop} {x3 x4 x5 x6 : Int} {w : Wd} (h1 : w32 ((w 114 1) - 1) ≤ x6 → Wp (Cw d) cd_Ways_timesBetween (1, 0, n1) Q 30 [none, none, none, none, none, mI x5, none] [] w) (h2 : ¬ (w32 ((w 114 1) - 1) ≤ x6) → Wp (Cw d) cd_Ways_timesBetween (1, 0, n1) Q 14 [mR 113, none, none, mI x3, mI x4, mI x5, mI x6] [] w) : Wp (Cw d) cd_Ways_timesBetween (1, 0, n1) Q 7 [mR 113, none, none, mI x3, mI x4, mI x5, mI x6] [] w :=
  Wp.s (Wp.s (Wp.s (Wp.s (Wp.s (Wp.s (Wp.s ⟨fun q => Wp.fgd (leA.f (leA.f (leA.f (leA.f (leA.f (leA.k (leA.f leA.e))))))) (h1 q), fun q => h2 q⟩))))))
theorem Ways_timesBetween_113_b14 {d : Nat} {n1 : Int} {Q : MV → Wd → Prop} {x3 x4 x5 x6 : Int} {w : Wd} (h : Cw d 82 [mI x4, mI x6, mI (w 114 1)] w (fun r w' => Wp (Cw d) cd_Ways_timesBetween (1, 0, n1) Q 21 [mR 113, none, none, mI x3, mI x4, none, mI x6] [r, mI x5] w')) : Wp (Cw d) cd_Ways_timesBetween (1, 0, n1) Q 14 [mR 113, none, none, mI x3, mI x4, mI x5, mI x6] [] w :=
  Wp.s (Wp.s (Wp.s (Wp.s (Wp.s (Wp.s (Wp.s (Cw_mono _ _ _ _ _ _ (fun r w' q => Wp.fgd (leA.k (leA.f (leA.f (leA.k (leA.k (leA.f (leA.k leA.e))))))) q) h)))))))
theorem Ways_timesBetween_113_b21 {d : Nat} {n1 : Int} {Q : MV → Wd → Prop} {x3 x4 x6 s0 s1 : Int} {w : Wd} (h1 : ¬ s0 = x3 → Wp (Cw d) cd_Ways_timesBetween (1, 0, n1) Q 25 [mR 113, none, none, mI x3, mI x4, none, mI x6] [mI s1] w) (h2 : ¬ (¬ s0 = x3) → Wp (Cw d) cd_Ways_timesBetween (1, 0, n1) Q 23 [mR 113, none, none, mI x3, mI x4, none, mI x6] [mI s1] w) : Wp (Cw d) cd_Ways_timesBetween (1, 0, n1) Q 21 [mR 113, none, none, mI x3, mI x4, none, mI x6] [mI s0, mI s1] w :=
  Wp.s (Wp.s ⟨fun q => h1 q, fun q => h2 q⟩)
theorem Ways_timesBetween_113_b23 {d : Nat} {n1 : Int} {Q : MV → Wd → Prop} {x3 x4 x6 s0 : Int} {w : Wd} (h : Wp (Cw d) cd_Ways_timesBetween (1, 0, n1) Q 26 [mR 113, none, none, mI x3, mI x4, none, mI x6] [mI 1, mI s0] w) : Wp (Cw d) cd_Ways_timesBetween (1, 0, n1) Q 23 [mR 113, none, none, mI x3, mI x4, none, mI x6] [mI s0] w :=
  Wp.s (Wp.s h)
theorem Ways_timesBetween_113_b25 {d : Nat} {n1 : Int} {Q : MV → Wd → Prop} {x3 x4 x6 s0 : Int} {w : Wd} (h : Wp (Cw d) cd_Ways_timesBetween (1, 0, n1) Q 26 [mR 113, none, none, mI x3, mI x4, none, mI x6] [mI 0, mI s0] w) : Wp (Cw d) cd_Ways_timesBetween (1, 0, n1) Q 25 [mR 113, none, none, mI x3, mI x4, none, mI x6] [mI s0] w :=
  Wp.s h
theorem Ways_timesBetween_113_b26 {d : Nat} {n1 : Int} {Q : MV → Wd → Prop} {x3 x4 x6 s0 s1 : Int} {w : Wd} (h : Wp (Cw d) cd_Ways_timesBetween (1, 0, n1) Q 7 [mR 113, none, none, mI x3, mI x4, mI (w32 (s1 + s0)), mI (w32 (x6 + 1))] [] w) : Wp (Cw d) cd_Ways_timesBetween (1, 0, n1) Q 26 [mR 113, none, none, mI x3, mI x4, none, mI x6] [mI s0, mI s1] w :=
  Wp.s (Wp.s (Wp.s (Wp.s h)))
theorem Ways_timesBetween_113_b30 {d : Nat} {n1 : Int} {Q : MV → Wd → Prop} {x5 : Int} {w : Wd} (h : Q (mI x5) w) : Wp (Cw d) cd_Ways_timesBetween (1, 0, n1) Q 30 [none, none, none, none, none, mI x5, none] [] w :=
  Wp.s (Wp.s h)
theorem Ring_at_137_b0 {d : Nat} {n1 : Int} {Q : MV → Wd → Prop} {x1 : Int} {w : Wd} (h : Cw d 133 [mR 137, mI x1] w (fun r w' => Wp (Cw d) cd_Ring_at (1, 0, n1) Q 5 [none, none] [r, mR 138] w')) : Wp (Cw d) cd_Ring_at (1, 0, n1) Q 0 [mR 137, mI x1] [] w :=
  Wp.s (Wp.s (Wp.s (Wp.s (Wp.s (Cw_mono _ _ _ _ _ _ (fun r w' q => Wp.fgd (leA.f (leA.f leA.e)) q) h)))))
theorem Ring_at_137_b5 {d : Nat} {n1 : Int} {Q : MV → Wd → Prop} {s0 : Int} {w : Wd} (g1 : (0 : Int) ≤ s0 ∧ s0 < 8) (h : Q (mI (w 138 s0.toNat)) w) : Wp (Cw d) cd_Ring_at (1, 0, n1) Q 5 [none, none] [mI s0, mR 138] w :=
  Wp.s ⟨g1, Wp.s h⟩
theorem Ring_spot_137_b0 {d : Nat} {n1 : Int} {Q : MV → Wd → Prop} {x1 : Int} {w : Wd} (h1 : w 137 2 ≤ 0 → Wp (Cw d) cd_Ring_spot (1, 0, n1) Q 8 [none, none] [] w) (h2 : ¬ (w 137 2 ≤ 0) → Wp (Cw d) cd_Ring_spot (1, 0, n1) Q 3 [mR 137, mI x1] [] w) : Wp (Cw d) cd_Ring_spot (1, 0, n1) Q 0 [mR 137, mI x1] [] w :=
  Wp.s (Wp.s (Wp.s ⟨fun q => Wp.fgd (leA.f (leA.f leA.e)) (h1 q), fun q => h2 q⟩))
theorem Ring_spot_137_b3 {d : Nat} {n1 : Int} {Q : MV → Wd → Prop} {x1 : Int} {w : Wd} (g1 : ¬ w 137 2 = 0) (h : Wp (Cw d) cd_Ring_spot (1, 0, n1) Q 9 [none, none] [mI (Int.tmod x1 (w 137 2))] w) : Wp (Cw d) cd_Ring_spot (1, 0, n1) Q 3 [mR 137, mI x1] [] w :=
  Wp.s (Wp.s (Wp.s (Wp.s ⟨g1, Wp.s (Wp.fgd (leA.f (leA.f leA.e)) h)⟩)))
theorem Ring_spot_137_b8 {d : Nat} {n1 : Int} {Q : MV → Wd → Prop} {w : Wd} (h : Wp (Cw d) cd_Ring_spot (1, 0, n1) Q 9 [none, none] [mI 0] w) : Wp (Cw d) cd_Ring_spot (1, 0, n1) Q 8 [none, none] [] w :=
  Wp.s h
theorem Ring_spot_137_b9 {d : Nat} {n1 : Int} {Q : MV → Wd → Prop} {s0 : Int} {w : Wd} (h : Q (mI s0) w) : Wp (Cw d) cd_Ring_spot (1, 0, n1) Q 9 [none, none] [mI s0] w :=
  Wp.s h
theorem Ring_worth_137_b0 {d : Nat} {n1 : Int} {Q : MV → Wd → Prop} {x1 x2 : Int} {w : Wd} (h : Wp (Cw d) cd_Ring_worth (1, 0, n1) Q 2 [mR 137, mI x1, mI x2, mI 0] [] w) : Wp (Cw d) cd_Ring_worth (1, 0, n1) Q 0 [mR 137, mI x1, mI x2, none] [] w :=
  Wp.s (Wp.s h)
theorem Ring_worth_137_b2 {d : Nat} {n1 : Int} {Q : MV → Wd → Prop} {x1 x2 x3 : Int} {w : Wd} (h1 : w 4 11 ≤ x3 → Wp (Cw d) cd_Ring_worth (1, 0, n1) Q 29 [none, none, none, none] [] w) (h2 : ¬ (w 4 11 ≤ x3) → Wp (Cw d) cd_Ring_worth (1, 0, n1) Q 7 [mR 137, mI x1, mI x2, mI x3] [] w) : Wp (Cw d) cd_Ring_worth (1, 0, n1) Q 2 [mR 137, mI x1, mI x2, mI x3] [] w :=
  Wp.s (Wp.s (Wp.s (Wp.s (Wp.s ⟨fun q => Wp.fgd (leA.f (leA.f (leA.f (leA.f leA.e)))) (h1 q), fun q => h2 q⟩))))
theorem Ring_worth_137_b7 {d : Nat} {n1 : Int} {Q : MV → Wd → Prop} {x1 x2 x3 : Int} {w : Wd} (h : Cw d 63 [mR 4, mI x3, mI 0] w (fun r w' => Wp (Cw d) cd_Ring_worth (1, 0, n1) Q 12 [mR 137, mI x1, mI x2, mI x3] [r] w')) : Wp (Cw d) cd_Ring_worth (1, 0, n1) Q 7 [mR 137, mI x1, mI x2, mI x3] [] w :=
  Wp.s (Wp.s (Wp.s (Wp.s (Wp.s h))))
theorem Ring_worth_137_b12 {d : Nat} {n1 : Int} {Q : MV → Wd → Prop} {x1 x2 x3 s0 : Int} {w : Wd} (h1 : ¬ s0 = x1 → Wp (Cw d) cd_Ring_worth (1, 0, n1) Q 27 [mR 137, mI x1, mI x2, mI x3] [] w) (h2 : ¬ (¬ s0 = x1) → Wp (Cw d) cd_Ring_worth (1, 0, n1) Q 14 [mR 137, mI x1, mI x2, mI x3] [] w) : Wp (Cw d) cd_Ring_worth (1, 0, n1) Q 12 [mR 137, mI x1, mI x2, mI x3] [mI s0] w :=
  Wp.s (Wp.s ⟨fun q => h1 q, fun q => h2 q⟩)
theorem Ring_worth_137_b14 {d : Nat} {n1 : Int} {Q : MV → Wd → Prop} {x1 x2 x3 : Int} {w : Wd} (h : Cw d 63 [mR 4, mI x3, mI 1] w (fun r w' => Wp (Cw d) cd_Ring_worth (1, 0, n1) Q 19 [mR 137, mI x1, mI x2, mI x3] [r] w')) : Wp (Cw d) cd_Ring_worth (1, 0, n1) Q 14 [mR 137, mI x1, mI x2, mI x3] [] w :=
  Wp.s (Wp.s (Wp.s (Wp.s (Wp.s h))))
theorem Ring_worth_137_b19 {d : Nat} {n1 : Int} {Q : MV → Wd → Prop} {x1 x2 x3 s0 : Int} {w : Wd} (h1 : ¬ s0 = x2 → Wp (Cw d) cd_Ring_worth (1, 0, n1) Q 27 [mR 137, mI x1, mI x2, mI x3] [] w) (h2 : ¬ (¬ s0 = x2) → Wp (Cw d) cd_Ring_worth (1, 0, n1) Q 21 [mR 137, none, none, mI x3] [] w) : Wp (Cw d) cd_Ring_worth (1, 0, n1) Q 19 [mR 137, mI x1, mI x2, mI x3] [mI s0] w :=
  Wp.s (Wp.s ⟨fun q => h1 q, fun q => Wp.fgd (leA.k (leA.f (leA.f (leA.k leA.e)))) (h2 q)⟩)
theorem Ring_worth_137_b21 {d : Nat} {n1 : Int} {Q : MV → Wd → Prop} {x3 : Int} {w : Wd} (h : Cw d 63 [mR 4, mI x3, mI 2] w (fun r w' => Wp (Cw d) cd_Ring_worth (1, 0, n1) Q 26 [none, none, none, none] [r] w')) : Wp (Cw d) cd_Ring_worth (1, 0, n1) Q 21 [mR 137, none, none, mI x3] [] w :=
  Wp.s (Wp.s (Wp.s (Wp.s (Wp.s (Cw_mono _ _ _ _ _ _ (fun r w' q => Wp.fgd (leA.f (leA.f (leA.f (leA.f leA.e)))) q) h)))))
theorem Ring_worth_137_b26 {d : Nat} {n1 : Int} {Q : MV → Wd → Prop} {s0 : Int} {w : Wd} (h : Q (mI s0) w) : Wp (Cw d) cd_Ring_worth (1, 0, n1) Q 26 [none, none, none, none] [mI s0] w :=
  Wp.s h
theorem Ring_worth_137_b27 {d : Nat} {n1 : Int} {Q : MV → Wd → Prop} {x1 x2 x3 : Int} {w : Wd} (h : Wp (Cw d) cd_Ring_worth (1, 0, n1) Q 2 [mR 137, mI x1, mI x2, mI (w32 (x3 + 1))] [] w) : Wp (Cw d) cd_Ring_worth (1, 0, n1) Q 27 [mR 137, mI x1, mI x2, mI x3] [] w :=
  Wp.s (Wp.s h)
theorem Ring_worth_137_b29 {d : Nat} {n1 : Int} {Q : MV → Wd → Prop} {w : Wd} (h : Q (mI 0) w) : Wp (Cw d) cd_Ring_worth (1, 0, n1) Q 29 [none, none, none, none] [] w :=
  Wp.s (Wp.s h)
theorem Tokens_takeWord_2_b0 {d : Nat} {n1 : Int} {Q : MV → Wd → Prop} {x1 : Int} {w : Wd} (h : Wp (Cw d) cd_Tokens_takeWord (0, 0, n1) Q 6 [mR 2, mI x1, mI ((up1 (w 2) 5 6) 7)] [] (ub w 2 5 6)) : Wp (Cw d) cd_Tokens_takeWord (0, 0, n1) Q 0 [mR 2, mI x1, none] [] w :=
  Wp.s (Wp.s (Wp.s (Wp.s (Wp.s (Wp.s h)))))
theorem Tokens_takeWord_2_b6 {d : Nat} {n1 : Int} {Q : MV → Wd → Prop} {x1 x2 : Int} {w : Wd} (h1 : x1 ≤ x2 → Wp (Cw d) cd_Tokens_takeWord (0, 0, n1) Q 26 [mR 2, none, none] [] w) (h2 : ¬ (x1 ≤ x2) → Wp (Cw d) cd_Tokens_takeWord (0, 0, n1) Q 9 [mR 2, mI x1, mI x2] [] w) : Wp (Cw d) cd_Tokens_takeWord (0, 0, n1) Q 6 [mR 2, mI x1, mI x2] [] w :=
  Wp.s (Wp.s (Wp.s ⟨fun q => Wp.fgd (leA.k (leA.f (leA.f leA.e))) (h1 q), fun q => h2 q⟩))
theorem Tokens_takeWord_2_b9 {d : Nat} {n1 : Int} {Q : MV → Wd → Prop} {x1 x2 : Int} {w : Wd} (g1 : (0 : Int) ≤ x2 ∧ x2 < 1040) (h : Wp (Cw d) cd_Tokens_takeWord (0, 0, n1) Q 6 [mR 2, mI x1, mI (w32 (x2 + 1))] [] (ub w 2 6 (w32 ((w32 ((w32 ((w32 ((w 2 6) * 27)) + (w 1 x2.toNat))) - 97)) + 1)))) : Wp (Cw d) cd_Tokens_takeWord (0, 0, n1) Q 9 [mR 2, mI x1, mI x2] [] w :=
  Wp.s (Wp.s (Wp.s (Wp.s (Wp.s (Wp.s (Wp.s (Wp.s (Wp.s ⟨g1, Wp.s (Wp.s (Wp.s (Wp.s (Wp.s (Wp.s (Wp.s (Wp.s h)))))))⟩))))))))
theorem Tokens_takeWord_2_b26 {d : Nat} {n1 : Int} {Q : MV → Wd → Prop} {w : Wd} (h : Wp (Cw d) cd_Tokens_takeWord (0, 0, n1) Q 28 [mR 2, none, mI 0] [] w) : Wp (Cw d) cd_Tokens_takeWord (0, 0, n1) Q 26 [mR 2, none, none] [] w :=
  Wp.s (Wp.s h)
theorem Tokens_takeWord_2_b28 {d : Nat} {n1 : Int} {Q : MV → Wd → Prop} {x2 : Int} {w : Wd} (h1 : 17 ≤ x2 → Wp (Cw d) cd_Tokens_takeWord (0, 0, n1) Q 50 [none, none, none] [] w) (h2 : ¬ (17 ≤ x2) → Wp (Cw d) cd_Tokens_takeWord (0, 0, n1) Q 31 [mR 2, none, mI x2] [] w) : Wp (Cw d) cd_Tokens_takeWord (0, 0, n1) Q 28 [mR 2, none, mI x2] [] w :=
  Wp.s (Wp.s (Wp.s ⟨fun q => Wp.fgd (leA.f (leA.f (leA.f leA.e))) (h1 q), fun q => h2 q⟩))
theorem Tokens_takeWord_2_b31 {d : Nat} {n1 : Int} {Q : MV → Wd → Prop} {x2 : Int} {w : Wd} (h1 : ¬ w 2 5 = 6 → Wp (Cw d) cd_Tokens_takeWord (0, 0, n1) Q 50 [none, none, none] [] w) (h2 : ¬ (¬ w 2 5 = 6) → Wp (Cw d) cd_Tokens_takeWord (0, 0, n1) Q 35 [mR 2, none, mI x2] [] w) : Wp (Cw d) cd_Tokens_takeWord (0, 0, n1) Q 31 [mR 2, none, mI x2] [] w :=
  Wp.s (Wp.s (Wp.s (Wp.s ⟨fun q => Wp.fgd (leA.f (leA.f (leA.f leA.e))) (h1 q), fun q => h2 q⟩)))
theorem Tokens_takeWord_2_b35 {d : Nat} {n1 : Int} {Q : MV → Wd → Prop} {x2 : Int} {w : Wd} (g1 : (0 : Int) ≤ x2 ∧ x2 < 17) (h1 : ¬ w 3 x2.toNat = w 2 6 → Wp (Cw d) cd_Tokens_takeWord (0, 0, n1) Q 48 [mR 2, none, mI x2] [] w) (h2 : ¬ (¬ w 3 x2.toNat = w 2 6) → Wp (Cw d) cd_Tokens_takeWord (0, 0, n1) Q 42 [mR 2, none, mI x2] [] w) : Wp (Cw d) cd_Tokens_takeWord (0, 0, n1) Q 35 [mR 2, none, mI x2] [] w :=
  Wp.s (Wp.s (Wp.s (Wp.s ⟨g1, Wp.s (Wp.s (Wp.s ⟨fun q => h1 q, fun q => h2 q⟩))⟩)))
theorem Tokens_takeWord_2_b42 {d : Nat} {n1 : Int} {Q : MV → Wd → Prop} {x2 : Int} {w : Wd} (h : Wp (Cw d) cd_Tokens_takeWord (0, 0, n1) Q 48 [mR 2, none, mI x2] [] (ub (ub w 2 5 5) 2 6 x2)) : Wp (Cw d) cd_Tokens_takeWord (0, 0, n1) Q 42 [mR 2, none, mI x2] [] w :=
  Wp.s (Wp.s (Wp.s (Wp.s (Wp.s (Wp.s h)))))
theorem Tokens_takeWord_2_b48 {d : Nat} {n1 : Int} {Q : MV → Wd → Prop} {x2 : Int} {w : Wd} (h : Wp (Cw d) cd_Tokens_takeWord (0, 0, n1) Q 28 [mR 2, none, mI (w32 (x2 + 1))] [] w) : Wp (Cw d) cd_Tokens_takeWord (0, 0, n1) Q 48 [mR 2, none, mI x2] [] w :=
  Wp.s (Wp.s h)
theorem Tokens_takeWord_2_b50 {d : Nat} {n1 : Int} {Q : MV → Wd → Prop} {w : Wd} (h : Q none w) : Wp (Cw d) cd_Tokens_takeWord (0, 0, n1) Q 50 [none, none, none] [] w :=
  Wp.s h
theorem Village_takePerson_16_2_b0 {d : Nat} {n1 : Int} {Q : MV → Wd → Prop} {x2 : Int} {w : Wd} (h : Cw d 39 [mR 16, mR 2, mI x2] w (fun r w' => Wp (Cw d) cd_Village_takePerson (1, 0, n1) Q 4 [none, mR 2, none, none] [r] w')) : Wp (Cw d) cd_Village_takePerson (1, 0, n1) Q 0 [mR 16, mR 2, mI x2, none] [] w :=
  Wp.s (Wp.s (Wp.s (Wp.s (Cw_mono _ _ _ _ _ _ (fun r w' q => Wp.fgd (leA.f (leA.k (leA.f (leA.f leA.e)))) q) h))))
theorem Village_takePerson_16_2_b4 {d : Nat} {n1 : Int} {Q : MV → Wd → Prop} {s0 : Int} {w : Wd} (h1 : s0 = (-1) → Wp (Cw d) cd_Village_takePerson (1, 0, n1) Q 10 [none, none, none, mI s0] [] w) (h2 : ¬ (s0 = (-1)) → Wp (Cw d) cd_Village_takePerson (1, 0, n1) Q 8 [none, mR 2, none, mI s0] [] w) : Wp (Cw d) cd_Village_takePerson (1, 0, n1) Q 4 [none, mR 2, none, none] [mI s0] w :=
  Wp.s (Wp.s (Wp.s (Wp.s ⟨fun q => Wp.fgd (leA.f (leA.f (leA.f (leA.k leA.e)))) (h1 q), fun q => h2 q⟩)))
theorem Village_takePerson_16_2_b8 {d : Nat} {n1 : Int} {Q : MV → Wd → Prop} {x3 : Int} {w : Wd} (h : Cw d 18 [mR 2] w (fun _ w' => Wp (Cw d) cd_Village_takePerson (1, 0, n1) Q 10 [none, none, none, mI x3] [] w')) : Wp (Cw d) cd_Village_takePerson (1, 0, n1) Q 8 [none, mR 2, none, mI x3] [] w :=
  Wp.s (Wp.s (Cw_mono _ _ _ _ _ _ (fun r w' q => Wp.fgd (leA.f (leA.f (leA.f (leA.k leA.e)))) q) h))
theorem Village_takePerson_16_2_b10 {d : Nat} {n1 : Int} {Q : MV → Wd → Prop} {x3 : Int} {w : Wd} (h : Q (mI x3) w) : Wp (Cw d) cd_Village_takePerson (1, 0, n1) Q 10 [none, none, none, mI x3] [] w :=
  Wp.s (Wp.s h)
theorem Village_person_16_2_b0 {d : Nat} {n1 : Int} {Q : MV → Wd → Prop} {x2 : Int} {w : Wd} (h : Cw d 30 [mR 2] w (fun r w' => Wp (Cw d) cd_Village_person (1, 0, n1) Q 2 [mR 16, mR 2, mI x2, none] [r] w')) : Wp (Cw d) cd_Village_person (1, 0, n1) Q 0 [mR 16, mR 2, mI x2, none] [] w :=
  Wp.s (Wp.s h)
theorem Village_person_16_2_b2 {d : Nat} {n1 : Int} {Q : MV → Wd → Prop} {x2 s0 : Int} {w : Wd} (h1 : ¬ s0 = 0 → Wp (Cw d) cd_Village_person (1, 0, n1) Q 5 [mR 16, mR 2, mI x2, none] [] w) (h2 : ¬ (¬ s0 = 0) → Wp (Cw d) cd_Village_person (1, 0, n1) Q 3 [none, none, none, none] [] w) : Wp (Cw d) cd_Village_person (1, 0, n1) Q 2 [mR 16, mR 2, mI x2, none] [mI s0] w :=
  Wp.s ⟨fun q => h1 q, fun q => Wp.fgd (leA.f (leA.f (leA.f (leA.f leA.e)))) (h2 q)⟩
theorem Village_person_16_2_b3 {d : Nat} {n1 : Int} {Q : MV → Wd → Prop} {w : Wd} (h : Q (mI ((-1))) w) : Wp (Cw d) cd_Village_person (1, 0, n1) Q 3 [none, none, none, none] [] w :=
  Wp.s (Wp.s h)
theorem Village_person_16_2_b5 {d : Nat} {n1 : Int} {Q : MV → Wd → Prop} {x2 : Int} {w : Wd} (h : Cw d 31 [mR 17, mI (w 16 0), mI (w 2 6)] w (fun r w' => Wp (Cw d) cd_Village_person (1, 0, n1) Q 12 [none, mR 2, mI x2, none] [r] w')) : Wp (Cw d) cd_Village_person (1, 0, n1) Q 5 [mR 16, mR 2, mI x2, none] [] w :=
  Wp.s (Wp.s (Wp.s (Wp.s (Wp.s (Wp.s (Wp.s (Cw_mono _ _ _ _ _ _ (fun r w' q => Wp.fgd (leA.f (leA.k (leA.k (leA.f leA.e)))) q) h)))))))
theorem Village_person_16_2_b12 {d : Nat} {n1 : Int} {Q : MV → Wd → Prop} {x2 s0 : Int} {w : Wd} (h1 : s0 = (-1) → Wp (Cw d) cd_Village_person (1, 0, n1) Q 19 [none, mR 2, none, none] [] w) (h2 : ¬ (s0 = (-1)) → Wp (Cw d) cd_Village_person (1, 0, n1) Q 16 [none, mR 2, mI x2, mI s0] [] w) : Wp (Cw d) cd_Village_person (1, 0, n1) Q 12 [none, mR 2, mI x2, none] [mI s0] w :=
  Wp.s (Wp.s (Wp.s (Wp.s ⟨fun q => Wp.fgd (leA.f (leA.k (leA.f (leA.f leA.e)))) (h1 q), fun q => h2 q⟩)))
theorem Village_person_16_2_b16 {d : Nat} {n1 : Int} {Q : MV → Wd → Prop} {x2 x3 : Int} {w : Wd} (h1 : ¬ x3 = x2 → Wp (Cw d) cd_Village_person (1, 0, n1) Q 25 [none, none, none, mI x3] [] w) (h2 : ¬ (¬ x3 = x2) → Wp (Cw d) cd_Village_person (1, 0, n1) Q 19 [none, mR 2, none, none] [] w) : Wp (Cw d) cd_Village_person (1, 0, n1) Q 16 [none, mR 2, mI x2, mI x3] [] w :=
  Wp.s (Wp.s (Wp.s ⟨fun q => Wp.fgd (leA.f (leA.f (leA.f (leA.k leA.e)))) (h1 q), fun q => Wp.fgd (leA.f (leA.k (leA.f (leA.f leA.e)))) (h2 q)⟩))
theorem Village_person_16_2_b19 {d : Nat} {n1 : Int} {Q : MV → Wd → Prop} {w : Wd} (h : Cw d 28 [mR 2, mI 3] w (fun r w' => Wp (Cw d) cd_Village_person (1, 0, n1) Q 22 [none, none, none, none] [r] w')) : Wp (Cw d) cd_Village_person (1, 0, n1) Q 19 [none, mR 2, none, none] [] w :=
  Wp.s (Wp.s (Wp.s (Cw_mono _ _ _ _ _ _ (fun r w' q => Wp.fgd (leA.f (leA.f (leA.f (leA.f leA.e)))) q) h)))
theorem Village_person_16_2_b22 {d : Nat} {n1 : Int} {Q : MV → Wd → Prop} {s0 : Int} {w : Wd} (h : Q (mI ((-1))) w) : Wp (Cw d) cd_Village_person (1, 0, n1) Q 22 [none, none, none, none] [mI s0] w :=
  Wp.s (Wp.s (Wp.s h))
theorem Village_person_16_2_b25 {d : Nat} {n1 : Int} {Q : MV → Wd → Prop} {x3 : Int} {w : Wd} (h : Q (mI x3) w) : Wp (Cw d) cd_Village_person (1, 0, n1) Q 25 [none, none, none, mI x3] [] w :=
  Wp.s (Wp.s h)
theorem Village_takeSort_16_2_b0 {d : Nat} {n1 : Int} {Q : MV → Wd → Prop} {w : Wd} (h : Cw d 30 [mR 2] w (fun r w' => Wp (Cw d) cd_Village_takeSort (1, 0, n1) Q 2 [mR 16, mR 2, none] [r] w')) : Wp (Cw d) cd_Village_takeSort (1, 0, n1) Q 0 [mR 16, mR 2, none] [] w :=
  Wp.s (Wp.s h)
theorem Village_takeSort_16_2_b2 {d : Nat} {n1 : Int} {Q : MV → Wd → Prop} {s0 : Int} {w : Wd} (h1 : ¬ s0 = 0 → Wp (Cw d) cd_Village_takeSort (1, 0, n1) Q 5 [mR 16, mR 2, none] [] w) (h2 : ¬ (¬ s0 = 0) → Wp (Cw d) cd_Village_takeSort (1, 0, n1) Q 3 [none, none, none] [] w) : Wp (Cw d) cd_Village_takeSort (1, 0, n1) Q 2 [mR 16, mR 2, none] [mI s0] w :=
  Wp.s ⟨fun q => h1 q, fun q => Wp.fgd (leA.f (leA.f (leA.f leA.e))) (h2 q)⟩
theorem Village_takeSort_16_2_b3 {d : Nat} {n1 : Int} {Q : MV → Wd → Prop} {w : Wd} (h : Q (mI ((-1))) w) : Wp (Cw d) cd_Village_takeSort (1, 0, n1) Q 3 [none, none, none] [] w :=
  Wp.s (Wp.s h)
theorem Village_takeSort_16_2_b5 {d : Nat} {n1 : Int} {Q : MV → Wd → Prop} {w : Wd} (h : Cw d 31 [mR 21, mI (w 16 5), mI (w 2 6)] w (fun r w' => Wp (Cw d) cd_Village_takeSort (1, 0, n1) Q 12 [none, mR 2, none] [r] w')) : Wp (Cw d) cd_Village_takeSort (1, 0, n1) Q 5 [mR 16, mR 2, none] [] w :=
  Wp.s (Wp.s (Wp.s (Wp.s (Wp.s (Wp.s (Wp.s (Cw_mono _ _ _ _ _ _ (fun r w' q => Wp.fgd (leA.f (leA.k (leA.f leA.e))) q) h)))))))
theorem Village_takeSort_16_2_b12 {d : Nat} {n1 : Int} {Q : MV → Wd → Prop} {s0 : Int} {w : Wd} (h1 : ¬ s0 = (-1) → Wp (Cw d) cd_Village_takeSort (1, 0, n1) Q 22 [none, mR 2, mI s0] [] w) (h2 : ¬ (¬ s0 = (-1)) → Wp (Cw d) cd_Village_takeSort (1, 0, n1) Q 16 [none, mR 2, none] [] w) : Wp (Cw d) cd_Village_takeSort (1, 0, n1) Q 12 [none, mR 2, none] [mI s0] w :=
  Wp.s (Wp.s (Wp.s (Wp.s ⟨fun q => h1 q, fun q => Wp.fgd (leA.f (leA.k (leA.f leA.e))) (h2 q)⟩)))
theorem Village_takeSort_16_2_b16 {d : Nat} {n1 : Int} {Q : MV → Wd → Prop} {w : Wd} (h : Cw d 28 [mR 2, mI 3] w (fun r w' => Wp (Cw d) cd_Village_takeSort (1, 0, n1) Q 19 [none, none, none] [r] w')) : Wp (Cw d) cd_Village_takeSort (1, 0, n1) Q 16 [none, mR 2, none] [] w :=
  Wp.s (Wp.s (Wp.s (Cw_mono _ _ _ _ _ _ (fun r w' q => Wp.fgd (leA.f (leA.f (leA.f leA.e))) q) h)))
theorem Village_takeSort_16_2_b19 {d : Nat} {n1 : Int} {Q : MV → Wd → Prop} {s0 : Int} {w : Wd} (h : Q (mI ((-1))) w) : Wp (Cw d) cd_Village_takeSort (1, 0, n1) Q 19 [none, none, none] [mI s0] w :=
  Wp.s (Wp.s (Wp.s h))
theorem Village_takeSort_16_2_b22 {d : Nat} {n1 : Int} {Q : MV → Wd → Prop} {x2 : Int} {w : Wd} (h : Cw d 18 [mR 2] w (fun _ w' => Wp (Cw d) cd_Village_takeSort (1, 0, n1) Q 24 [none, none, mI x2] [] w')) : Wp (Cw d) cd_Village_takeSort (1, 0, n1) Q 22 [none, mR 2, mI x2] [] w :=
  Wp.s (Wp.s (Cw_mono _ _ _ _ _ _ (fun r w' q => Wp.fgd (leA.f (leA.f (leA.k leA.e))) q) h))
theorem Village_takeSort_16_2_b24 {d : Nat} {n1 : Int} {Q : MV → Wd → Prop} {x2 : Int} {w : Wd} (h : Q (mI x2) w) : Wp (Cw d) cd_Village_takeSort (1, 0, n1) Q 24 [none, none, mI x2] [] w :=
  Wp.s (Wp.s h)
theorem Tokens_skipWord_2_b0 {d : Nat} {n1 : Int} {Q : MV → Wd → Prop} {x1 : Int} {w : Wd} (h : Cw d 26 [mR 2] w (fun r w' => Wp (Cw d) cd_Tokens_skipWord (2, 0, n1) Q 2 [mR 2, mI x1] [r] w')) : Wp (Cw d) cd_Tokens_skipWord (2, 0, n1) Q 0 [mR 2, mI x1] [] w :=
  Wp.s (Wp.s h)
theorem Tokens_skipWord_2_b2 {d : Nat} {n1 : Int} {Q : MV → Wd → Prop} {x1 s0 : Int} {w : Wd} (h1 : s0 = x1 → Wp (Cw d) cd_Tokens_skipWord (2, 0, n1) Q 6 [mR 2, none] [] w) (h2 : ¬ (s0 = x1) → Wp (Cw d) cd_Tokens_skipWord (2, 0, n1) Q 4 [none, none] [] w) : Wp (Cw d) cd_Tokens_skipWord (2, 0, n1) Q 2 [mR 2, mI x1] [mI s0] w :=
  Wp.s (Wp.s ⟨fun q => Wp.fgd (leA.k (leA.f leA.e)) (h1 q), fun q => Wp.fgd (leA.f (leA.f leA.e)) (h2 q)⟩)
theorem Tokens_skipWord_2_b4 {d : Nat} {n1 : Int} {Q : MV → Wd → Prop} {w : Wd} (h : Q (mI 0) w) : Wp (Cw d) cd_Tokens_skipWord (2, 0, n1) Q 4 [none, none] [] w :=
  Wp.s (Wp.s ⟨(Or.inl rfl), h⟩)
theorem Tokens_skipWord_2_b6 {d : Nat} {n1 : Int} {Q : MV → Wd → Prop} {w : Wd} (h : Cw d 18 [mR 2] w (fun _ w' => Wp (Cw d) cd_Tokens_skipWord (2, 0, n1) Q 8 [none, none] [] w')) : Wp (Cw d) cd_Tokens_skipWord (2, 0, n1) Q 6 [mR 2, none] [] w :=
  Wp.s (Wp.s (Cw_mono _ _ _ _ _ _ (fun r w' q => Wp.fgd (leA.f (leA.f leA.e)) q) h))
theorem Tokens_skipWord_2_b8 {d : Nat} {n1 : Int} {Q : MV → Wd → Prop} {w : Wd} (h : Q (mI 1) w) : Wp (Cw d) cd_Tokens_skipWord (2, 0, n1) Q 8 [none, none] [] w :=
  Wp.s (Wp.s ⟨(Or.inr rfl), h⟩)
theorem Village_addUnit_16_b0 {d : Nat} {n1 : Int} {Q : MV → Wd → Prop} {x1 x2 x3 x4 x5 : Int} {w : Wd} (g1 : (0 : Int) ≤ w32 ((w32 ((w 16 8) * 5)) + 0) ∧ w32 ((w32 ((w 16 8) * 5)) + 0) < 80) (g2 : (0 : Int) ≤ w32 ((w32 ((w 16 8) * 5)) + 1) ∧ w32 ((w32 ((w 16 8) * 5)) + 1) < 80) (g3 : (0 : Int) ≤ w32 ((w32 ((w 16 8) * 5)) + 2) ∧ w32 ((w32 ((w 16 8) * 5)) + 2) < 80) (g4 : (0 : Int) ≤ w32 ((w32 ((w 16 8) * 5)) + 3) ∧ w32 ((w32 ((w 16 8) * 5)) + 3) < 80) (g5 : (0 : Int) ≤ x2 ∧ x2 < 6) (g6 : (0 : Int) ≤ w32 ((w32 ((w 16 8) * 5)) + 4) ∧ w32 ((w32 ((w 16 8) * 5)) + 4) < 80) (g7 : (0 : Int) ≤ w 16 8 ∧ w 16 8 < 16) (h : Q none (ub (ub (ub (ub (ub (ub (ub w 23 (w32 ((w32 ((w 16 8) * 5)) + 0)).toNat x2) 23 (w32 ((w32 ((w 16 8) * 5)) + 1)).toNat x3) 23 (w32 ((w32 ((w 16 8) * 5)) + 2)).toNat x4) 23 (w32 ((w32 ((w 16 8) * 5)) + 3)).toNat x5) 23 (w32 ((w32 ((w 16 8) * 5)) + 4)).toNat (w32 (x5 + (w 22 x2.toNat)))) 24 (w 16 8).toNat x1) 16 8 (w32 ((w 16 8) + 1)))) : Wp (Cw d) cd_Village_addUnit (0, 0, n1) Q 0 [mR 16, mI x1, mI x2, mI x3, mI x4, mI x5, none] [] w :=
  Wp.s (Wp.s (Wp.s (Wp.s (Wp.s (Wp.s (Wp.s (Wp.s (Wp.s (Wp.s (Wp.s (Wp.s ⟨g1, Wp.s (Wp.s (Wp.s (Wp.s (Wp.s (Wp.s (Wp.s ⟨g2, Wp.s (Wp.s (Wp.s (Wp.s (Wp.s (Wp.s (Wp.s ⟨g3, Wp.s (Wp.s (Wp.s (Wp.s (Wp.s (Wp.s (Wp.s ⟨g4, Wp.s (Wp.s (Wp.s (Wp.s (Wp.s (Wp.s (Wp.s (Wp.s (Wp.s (Wp.s ⟨g5, Wp.s (Wp.s ⟨g6, Wp.s (Wp.s (Wp.s (Wp.s (Wp.s (Wp.s ⟨g7, Wp.s (Wp.s (Wp.s (Wp.s (Wp.s (Wp.s (Wp.s h))))))⟩)))))⟩)⟩)))))))))⟩))))))⟩))))))⟩))))))⟩)))))))))))
theorem Village_isNewName_16_2_b0 {d : Nat} {n1 : Int} {Q : MV → Wd → Prop} {w : Wd} (h : Cw d 30 [mR 2] w (fun r w' => Wp (Cw d) cd_Village_isNewName (2, 0, n1) Q 2 [mR 16, mR 2, none] [r] w')) : Wp (Cw d) cd_Village_isNewName (2, 0, n1) Q 0 [mR 16, mR 2, none] [] w :=
  Wp.s (Wp.s h)
theorem Village_isNewName_16_2_b2 {d : Nat} {n1 : Int} {Q : MV → Wd → Prop} {s0 : Int} {w : Wd} (h1 : ¬ s0 = 0 → Wp (Cw d) cd_Village_isNewName (2, 0, n1) Q 5 [mR 16, mR 2, none] [] w) (h2 : ¬ (¬ s0 = 0) → Wp (Cw d) cd_Village_isNewName (2, 0, n1) Q 3 [none, none, none] [] w) : Wp (Cw d) cd_Village_isNewName (2, 0, n1) Q 2 [mR 16, mR 2, none] [mI s0] w :=
  Wp.s ⟨fun q => h1 q, fun q => Wp.fgd (leA.f (leA.f (leA.f leA.e))) (h2 q)⟩
theorem Village_isNewName_16_2_b3 {d : Nat} {n1 : Int} {Q : MV → Wd → Prop} {w : Wd} (h : Q (mI 0) w) : Wp (Cw d) cd_Village_isNewName (2, 0, n1) Q 3 [none, none, none] [] w :=
  Wp.s (Wp.s ⟨(Or.inl rfl), h⟩)
theorem Village_isNewName_16_2_b5 {d : Nat} {n1 : Int} {Q : MV → Wd → Prop} {w : Wd} (h : Cw d 31 [mR 17, mI (w 16 0), mI (w 2 6)] w (fun r w' => Wp (Cw d) cd_Village_isNewName (2, 0, n1) Q 12 [mR 16, mR 2, none] [r] w')) : Wp (Cw d) cd_Village_isNewName (2, 0, n1) Q 5 [mR 16, mR 2, none] [] w :=
  Wp.s (Wp.s (Wp.s (Wp.s (Wp.s (Wp.s (Wp.s h))))))
theorem Village_isNewName_16_2_b12 {d : Nat} {n1 : Int} {Q : MV → Wd → Prop} {s0 : Int} {w : Wd} (h1 : ¬ s0 = (-1) → Wp (Cw d) cd_Village_isNewName (2, 0, n1) Q 23 [none, mR 2, none] [] w) (h2 : ¬ (¬ s0 = (-1)) → Wp (Cw d) cd_Village_isNewName (2, 0, n1) Q 14 [mR 16, mR 2, none] [] w) : Wp (Cw d) cd_Village_isNewName (2, 0, n1) Q 12 [mR 16, mR 2, none] [mI s0] w :=
  Wp.s (Wp.s ⟨fun q => Wp.fgd (leA.f (leA.k (leA.f leA.e))) (h1 q), fun q => h2 q⟩)
theorem Village_isNewName_16_2_b14 {d : Nat} {n1 : Int} {Q : MV → Wd → Prop} {w : Wd} (h : Cw d 31 [mR 21, mI (w 16 5), mI (w 2 6)] w (fun r w' => Wp (Cw d) cd_Village_isNewName (2, 0, n1) Q 21 [none, mR 2, none] [r] w')) : Wp (Cw d) cd_Village_isNewName (2, 0, n1) Q 14 [mR 16, mR 2, none] [] w :=
  Wp.s (Wp.s (Wp.s (Wp.s (Wp.s (Wp.s (Wp.s (Cw_mono _ _ _ _ _ _ (fun r w' q => Wp.fgd (leA.f (leA.k (leA.f leA.e))) q) h)))))))
theorem Village_isNewName_16_2_b21 {d : Nat} {n1 : Int} {Q : MV → Wd → Prop} {s0 : Int} {w : Wd} (h1 : s0 = (-1) → Wp (Cw d) cd_Village_isNewName (2, 0, n1) Q 25 [none, mR 2, none] [] w) (h2 : ¬ (s0 = (-1)) → Wp (Cw d) cd_Village_isNewName (2, 0, n1) Q 23 [none, mR 2, none] [] w) : Wp (Cw d) cd_Village_isNewName (2, 0, n1) Q 21 [none, mR 2, none] [mI s0] w :=
  Wp.s (Wp.s ⟨fun q => h1 q, fun q => h2 q⟩)
theorem Village_isNewName_16_2_b23 {d : Nat} {n1 : Int} {Q : MV → Wd → Prop} {w : Wd} (h : Wp (Cw d) cd_Village_isNewName (2, 0, n1) Q 26 [none, mR 2, none] [mI 1] w) : Wp (Cw d) cd_Village_isNewName (2, 0, n1) Q 23 [none, mR 2, none] [] w :=
  Wp.s (Wp.s h)
theorem Village_isNewName_16_2_b25 {d : Nat} {n1 : Int} {Q : MV → Wd → Prop} {w : Wd} (h : Wp (Cw d) cd_Village_isNewName (2, 0, n1) Q 26 [none, mR 2, none] [mI 0] w) : Wp (Cw d) cd_Village_isNewName (2, 0, n1) Q 25 [none, mR 2, none] [] w :=
  Wp.s h
theorem Village_isNewName_16_2_b26 {d : Nat} {n1 : Int} {Q : MV → Wd → Prop} {s0 : Int} {w : Wd} (h1 : s0 = 0 → Wp (Cw d) cd_Village_isNewName (2, 0, n1) Q 33 [none, none, none] [] w) (h2 : ¬ (s0 = 0) → Wp (Cw d) cd_Village_isNewName (2, 0, n1) Q 29 [none, mR 2, none] [] w) : Wp (Cw d) cd_Village_isNewName (2, 0, n1) Q 26 [none, mR 2, none] [mI s0] w :=
  Wp.s (Wp.s (Wp.s ⟨fun q => Wp.fgd (leA.f (leA.f (leA.f leA.e))) (h1 q), fun q => Wp.fgd (leA.f (leA.k (leA.f leA.e))) (h2 q)⟩))
theorem Village_isNewName_16_2_b29 {d : Nat} {n1 : Int} {Q : MV → Wd → Prop} {w : Wd} (h : Cw d 28 [mR 2, mI 3] w (fun r w' => Wp (Cw d) cd_Village_isNewName (2, 0, n1) Q 32 [none, none, none] [r] w')) : Wp (Cw d) cd_Village_isNewName (2, 0, n1) Q 29 [none, mR 2, none] [] w :=
  Wp.s (Wp.s (Wp.s (Cw_mono _ _ _ _ _ _ (fun r w' q => Wp.fgd (leA.f (leA.f (leA.f leA.e))) q) h)))
theorem Village_isNewName_16_2_b32 {d : Nat} {n1 : Int} {Q : MV → Wd → Prop} {s0 : Int} {w : Wd} (h1 : s0 = 0 → Wp (Cw d) cd_Village_isNewName (2, 0, n1) Q 35 [none, none, none] [] w) (h2 : ¬ (s0 = 0) → Wp (Cw d) cd_Village_isNewName (2, 0, n1) Q 33 [none, none, none] [] w) : Wp (Cw d) cd_Village_isNewName (2, 0, n1) Q 32 [none, none, none] [mI s0] w :=
  Wp.s ⟨fun q => h1 q, fun q => h2 q⟩
theorem Village_isNewName_16_2_b33 {d : Nat} {n1 : Int} {Q : MV → Wd → Prop} {w : Wd} (h : Wp (Cw d) cd_Village_isNewName (2, 0, n1) Q 36 [none, none, none] [mI 1] w) : Wp (Cw d) cd_Village_isNewName (2, 0, n1) Q 33 [none, none, none] [] w :=
  Wp.s (Wp.s h)
theorem Village_isNewName_16_2_b35 {d : Nat} {n1 : Int} {Q : MV → Wd → Prop} {w : Wd} (h : Wp (Cw d) cd_Village_isNewName (2, 0, n1) Q 36 [none, none, none] [mI 0] w) : Wp (Cw d) cd_Village_isNewName (2, 0, n1) Q 35 [none, none, none] [] w :=
  Wp.s h
theorem Village_isNewName_16_2_b36 {d : Nat} {n1 : Int} {Q : MV → Wd → Prop} {s0 : Int} {w : Wd} (g1 : s0 = 0 ∨ s0 = 1) (h : Q (mI s0) w) : Wp (Cw d) cd_Village_isNewName (2, 0, n1) Q 36 [none, none, none] [mI s0] w :=
  Wp.s ⟨g1, h⟩
theorem Village_join_16_b0 {d : Nat} {n1 : Int} {Q : MV → Wd → Prop} {x1 : Int} {w : Wd} (g1 : (0 : Int) ≤ x1 ∧ x1 < 8) (h : Wp (Cw d) cd_Village_join (0, 0, n1) Q 9 [mR 16, mI x1, mI 0] [] (ub w 19 x1.toNat (ishl 1 x1))) : Wp (Cw d) cd_Village_join (0, 0, n1) Q 0 [mR 16, mI x1, none] [] w :=
  Wp.s (Wp.s (Wp.s (Wp.s (Wp.s (Wp.s (Wp.s ⟨g1, Wp.s (Wp.s h)⟩))))))
theorem Village_join_16_b9 {d : Nat} {n1 : Int} {Q : MV → Wd → Prop} {x1 x2 : Int} {w : Wd} (h1 : x1 ≤ x2 → Wp (Cw d) cd_Village_join (0, 0, n1) Q 43 [none, none, none] [] w) (h2 : ¬ (x1 ≤ x2) → Wp (Cw d) cd_Village_join (0, 0, n1) Q 12 [mR 16, mI x1, mI x2] [] w) : Wp (Cw d) cd_Village_join (0, 0, n1) Q 9 [mR 16, mI x1, mI x2] [] w :=
  Wp.s (Wp.s (Wp.s ⟨fun q => Wp.fgd (leA.f (leA.f (leA.f leA.e))) (h1 q), fun q => h2 q⟩))
theorem Village_join_16_b12 {d : Nat} {n1 : Int} {Q : MV → Wd → Prop} {x1 x2 : Int} {w : Wd} (g1 : (0 : Int) ≤ x2 ∧ x2 < 8) (g2 : (0 : Int) ≤ x1 ∧ x1 < 8) (h1 : ¬ w 18 x2.toNat = w 18 x1.toNat → Wp (Cw d) cd_Village_join (0, 0, n1) Q 41 [mR 16, mI x1, mI x2] [] w) (h2 : ¬ (¬ w 18 x2.toNat = w 18 x1.toNat) → Wp (Cw d) cd_Village_join (0, 0, n1) Q 21 [mR 16, mI x1, mI x2] [] w) : Wp (Cw d) cd_Village_join (0, 0, n1) Q 12 [mR 16, mI x1, mI x2] [] w :=
  Wp.s (Wp.s (Wp.s (Wp.s ⟨g1, Wp.s (Wp.s (Wp.s (Wp.s ⟨g2, Wp.s ⟨fun q => h1 q, fun q => h2 q⟩⟩)))⟩)))
theorem Village_join_16_b21 {d : Nat} {n1 : Int} {Q : MV → Wd → Prop} {x1 x2 : Int} {w : Wd} (g1 : (0 : Int) ≤ x2 ∧ x2 < 8) (g2 : (0 : Int) ≤ x2 ∧ x2 < 8) (g3 : (0 : Int) ≤ x1 ∧ x1 < 8) (g4 : (0 : Int) ≤ x1 ∧ x1 < 8) (h : Wp (Cw d) cd_Village_join (0, 0, n1) Q 41 [mR 16, mI x1, mI x2] [] (ub (ub w 19 x2.toNat (ior (w 19 x2.toNat) (ishl 1 x1))) 19 x1.toNat (ior ((up1 (w 19) x2.toNat (ior (w 19 x2.toNat) (ishl 1 x1))) x1.toNat) (ishl 1 x2)))) : Wp (Cw d) cd_Village_join (0, 0, n1) Q 21 [mR 16, mI x1, mI x2] [] w :=
  Wp.s (Wp.s (Wp.s (Wp.s (Wp.s ⟨g1, Wp.s (Wp.s (Wp.s (Wp.s (Wp.s ⟨g2, Wp.s (Wp.s (Wp.s (Wp.s (Wp.s ⟨g3, Wp.s (Wp.s (Wp.s (Wp.s (Wp.s ⟨g4, h⟩))))⟩))))⟩))))⟩))))
theorem Village_join_16_b41 {d : Nat} {n1 : Int} {Q : MV → Wd → Prop} {x1 x2 : Int} {w : Wd} (h : Wp (Cw d) cd_Village_join (0, 0, n1) Q 9 [mR 16, mI x1, mI (w32 (x2 + 1))] [] w) : Wp (Cw d) cd_Village_join (0, 0, n1) Q 41 [mR 16, mI x1, mI x2] [] w :=
  Wp.s (Wp.s h)
theorem Village_join_16_b43 {d : Nat} {n1 : Int} {Q : MV → Wd → Prop} {w : Wd} (h : Q none w) : Wp (Cw d) cd_Village_join (0, 0, n1) Q 43 [none, none, none] [] w :=
  Wp.s h
theorem Ways_walkUnit_93_b0 {d : Nat} {n1 : Int} {Q : MV → Wd → Prop} {x1 : Int} {w : Wd} (h : Cw d 60 [mR 4, mI x1] (ub w 93 7 x1) (fun r w' => Wp (Cw d) cd_Ways_walkUnit (0, 0, n1) Q 8 [mR 93, mI x1, none, none] [r, mR 93] w')) : Wp (Cw d) cd_Ways_walkUnit (0, 0, n1) Q 0 [mR 93, mI x1, none, none] [] w :=
  Wp.s (Wp.s (Wp.s (Wp.s (Wp.s (Wp.s (Wp.s (Wp.s h)))))))
theorem Ways_walkUnit_93_b8 {d : Nat} {n1 : Int} {Q : MV → Wd → Prop} {x1 s0 : Int} {w : Wd} (h : Cw d 276 [mR 100, mI 0] (ub w 93 8 s0) (fun _ w' => Wp (Cw d) cd_Ways_walkUnit (0, 0, n1) Q 13 [mR 93, mI x1, none, none] [] w')) : Wp (Cw d) cd_Ways_walkUnit (0, 0, n1) Q 8 [mR 93, mI x1, none, none] [mI s0, mR 93] w :=
  Wp.s (Wp.s (Wp.s (Wp.s (Wp.s h))))
theorem Ways_walkUnit_93_b13 {d : Nat} {n1 : Int} {Q : MV → Wd → Prop} {x1 : Int} {w : Wd} (h : Wp (Cw d) cd_Ways_walkUnit (0, 0, n1) Q 19 [mR 93, mI x1, mI (w32 ((w32 (x1 * 8)) * 3)), none] [] w) : Wp (Cw d) cd_Ways_walkUnit (0, 0, n1) Q 13 [mR 93, mI x1, none, none] [] w :=
  Wp.s (Wp.s (Wp.s (Wp.s (Wp.s (Wp.s h)))))
theorem Ways_walkUnit_93_b19 {d : Nat} {n1 : Int} {Q : MV → Wd → Prop} {x1 x2 : Int} {w : Wd} (h1 : w32 ((w32 ((w32 (x1 + 1)) * 8)) * 3) ≤ x2 → Wp (Cw d) cd_Ways_walkUnit (0, 0, n1) Q 40 [mR 93, mI x1, none, none] [] w) (h2 : ¬ (w32 ((w32 ((w32 (x1 + 1)) * 8)) * 3) ≤ x2) → Wp (Cw d) cd_Ways_walkUnit (0, 0, n1) Q 28 [mR 93, mI x1, mI x2, none] [] w) : Wp (Cw d) cd_Ways_walkUnit (0, 0, n1) Q 19 [mR 93, mI x1, mI x2, none] [] w :=
  Wp.s (Wp.s (Wp.s (Wp.s (Wp.s (Wp.s (Wp.s (Wp.s (Wp.s ⟨fun q => Wp.fgd (leA.k (leA.k (leA.f (leA.f leA.e)))) (h1 q), fun q => h2 q⟩))))))))
theorem Ways_walkUnit_93_b28 {d : Nat} {n1 : Int} {Q : MV → Wd → Prop} {x1 x2 : Int} {w : Wd} (h1 : 384 ≤ x2 → Wp (Cw d) cd_Ways_walkUnit (0, 0, n1) Q 40 [mR 93, mI x1, none, none] [] w) (h2 : ¬ (384 ≤ x2) → Wp (Cw d) cd_Ways_walkUnit (0, 0, n1) Q 33 [mR 93, mI x1, mI x2, none] [] w) : Wp (Cw d) cd_Ways_walkUnit (0, 0, n1) Q 28 [mR 93, mI x1, mI x2, none] [] w :=
  Wp.s (Wp.s (Wp.s (Wp.s (Wp.s ⟨fun q => Wp.fgd (leA.k (leA.k (leA.f (leA.f leA.e)))) (h1 q), fun q => h2 q⟩))))
theorem Ways_walkUnit_93_b33 {d : Nat} {n1 : Int} {Q : MV → Wd → Prop} {x1 x2 : Int} {w : Wd} (g1 : (0 : Int) ≤ x2 ∧ x2 < 384) (h : Wp (Cw d) cd_Ways_walkUnit (0, 0, n1) Q 19 [mR 93, mI x1, mI (w32 (x2 + 1)), none] [] (ub w 98 x2.toNat 9223372036854775807)) : Wp (Cw d) cd_Ways_walkUnit (0, 0, n1) Q 33 [mR 93, mI x1, mI x2, none] [] w :=
  Wp.s (Wp.s (Wp.s (Wp.s (Wp.s ⟨g1, Wp.s (Wp.s h)⟩))))
theorem Ways_walkUnit_93_b40 {d : Nat} {n1 : Int} {Q : MV → Wd → Prop} {x1 : Int} {w : Wd} (h : Cw d 62 [mR 93] w (fun _ w' => Wp (Cw d) cd_Ways_walkUnit (0, 0, n1) Q 42 [mR 93, mI x1, none, none] [] w')) : Wp (Cw d) cd_Ways_walkUnit (0, 0, n1) Q 40 [mR 93, mI x1, none, none] [] w :=
  Wp.s (Wp.s h)
theorem Ways_walkUnit_93_b42 {d : Nat} {n1 : Int} {Q : MV → Wd → Prop} {x1 : Int} {w : Wd} (h1 : w 93 10 < 0 → Wp (Cw d) cd_Ways_walkUnit (0, 0, n1) Q 54 [none, none, none, none] [] w) (h2 : ¬ (w 93 10 < 0) → Wp (Cw d) cd_Ways_walkUnit (0, 0, n1) Q 45 [mR 93, mI x1, none, none] [] w) : Wp (Cw d) cd_Ways_walkUnit (0, 0, n1) Q 42 [mR 93, mI x1, none, none] [] w :=
  Wp.s (Wp.s (Wp.s ⟨fun q => Wp.fgd (leA.f (leA.f (leA.f (leA.f leA.e)))) (h1 q), fun q => h2 q⟩))
theorem Ways_walkUnit_93_b45 {d : Nat} {n1 : Int} {Q : MV → Wd → Prop} {x1 : Int} {w : Wd} (h1 : iand (w 93 8) (ixor (w 94 6) ((-1))) = 0 → Wp (Cw d) cd_Ways_walkUnit (0, 0, n1) Q 55 [mR 93, mI x1, none, none] [] w) (h2 : ¬ (iand (w 93 8) (ixor (w 94 6) ((-1))) = 0) → Wp (Cw d) cd_Ways_walkUnit (0, 0, n1) Q 54 [none, none, none, none] [] w) : Wp (Cw d) cd_Ways_walkUnit (0, 0, n1) Q 45 [mR 93, mI x1, none, none] [] w :=
  Wp.s (Wp.s (Wp.s (Wp.s (Wp.s (Wp.s (Wp.s (Wp.s (Wp.s ⟨fun q => h1 q, fun q => Wp.fgd (leA.f (leA.f (leA.f (leA.f leA.e)))) (h2 q)⟩))))))))
theorem Ways_walkUnit_93_b54 {d : Nat} {n1 : Int} {Q : MV → Wd → Prop} {w : Wd} (h : Q none w) : Wp (Cw d) cd_Ways_walkUnit (0, 0, n1) Q 54 [none, none, none, none] [] w :=
  Wp.s h
theorem Ways_walkUnit_93_b55 {d : Nat} {n1 : Int} {Q : MV → Wd → Prop} {x1 : Int} {w : Wd} (h : Wp (Cw d) cd_Ways_walkUnit (0, 0, n1) Q 57 [mR 93, mI x1, mI 1, none] [] w) : Wp (Cw d) cd_Ways_walkUnit (0, 0, n1) Q 55 [mR 93, mI x1, none, none] [] w :=
  Wp.s (Wp.s h)
theorem Ways_walkUnit_93_b57 {d : Nat} {n1 : Int} {Q : MV → Wd → Prop} {x1 x2 : Int} {w : Wd} (h1 : 2 < x2 → Wp (Cw d) cd_Ways_walkUnit (0, 0, n1) Q 101 [none, none, none, none] [] w) (h2 : ¬ (2 < x2) → Wp (Cw d) cd_Ways_walkUnit (0, 0, n1) Q 60 [mR 93, mI x1, mI x2, none] [] w) : Wp (Cw d) cd_Ways_walkUnit (0, 0, n1) Q 57 [mR 93, mI x1, mI x2, none] [] w :=
  Wp.s (Wp.s (Wp.s ⟨fun q => Wp.fgd (leA.f (leA.f (leA.f (leA.f leA.e)))) (h1 q), fun q => h2 q⟩))
theorem Ways_walkUnit_93_b60 {d : Nat} {n1 : Int} {Q : MV → Wd → Prop} {x1 x2 : Int} {w : Wd} (h : Cw d 61 [mR 4, mI x1, mI x2] w (fun r w' => Wp (Cw d) cd_Ways_walkUnit (0, 0, n1) Q 65 [mR 93, mI x1, mI x2, none] [r] w')) : Wp (Cw d) cd_Ways_walkUnit (0, 0, n1) Q 60 [mR 93, mI x1, mI x2, none] [] w :=
  Wp.s (Wp.s (Wp.s (Wp.s (Wp.s h))))
theorem Ways_walkUnit_93_b65 {d : Nat} {n1 : Int} {Q : MV → Wd → Prop} {x1 x2 s0 : Int} {w : Wd} (h1 : s0 = (-1) → Wp (Cw d) cd_Ways_walkUnit (0, 0, n1) Q 99 [mR 93, mI x1, mI x2, none] [] w) (h2 : ¬ (s0 = (-1)) → Wp (Cw d) cd_Ways_walkUnit (0, 0, n1) Q 69 [mR 93, mI x1, mI x2, mI s0] [] w) : Wp (Cw d) cd_Ways_walkUnit (0, 0, n1) Q 65 [mR 93, mI x1, mI x2, none] [mI s0] w :=
  Wp.s (Wp.s (Wp.s (Wp.s ⟨fun q => Wp.fgd (leA.k (leA.k (leA.k (leA.f leA.e)))) (h1 q), fun q => h2 q⟩)))
theorem Ways_walkUnit_93_b69 {d : Nat} {n1 : Int} {Q : MV → Wd → Prop} {x1 x2 x3 : Int} {w : Wd} (h : Cw d 64 [mR 93, mI 0] (ub (ub (ub (ub (ub w 102 0.toNat x3) 103 0.toNat (ishl 1 x3)) 104 0.toNat 0) 105 0.toNat 0) 106 0.toNat 0) (fun _ w' => Wp (Cw d) cd_Ways_walkUnit (0, 0, n1) Q 99 [mR 93, mI x1, mI x2, none] [] w')) : Wp (Cw d) cd_Ways_walkUnit (0, 0, n1) Q 69 [mR 93, mI x1, mI x2, mI x3] [] w :=
  Wp.s (Wp.s (Wp.s (Wp.s (Wp.s ⟨(by decide), Wp.s (Wp.s (Wp.s (Wp.s (Wp.s (Wp.s (Wp.s ⟨(by decide), Wp.s (Wp.s (Wp.s (Wp.s (Wp.s ⟨(by decide), Wp.s (Wp.s (Wp.s (Wp.s (Wp.s ⟨(by decide), Wp.s (Wp.s (Wp.s (Wp.s (Wp.s ⟨(by decide), Wp.s (Wp.s (Wp.s (Cw_mono _ _ _ _ _ _ (fun r w' q => Wp.fgd (leA.k (leA.k (leA.k (leA.f leA.e)))) q) h)))⟩))))⟩))))⟩))))⟩))))))⟩))))
theorem Ways_walkUnit_93_b99 {d : Nat} {n1 : Int} {Q : MV → Wd → Prop} {x1 x2 : Int} {w : Wd} (h : Wp (Cw d) cd_Ways_walkUnit (0, 0, n1) Q 57 [mR 93, mI x1, mI (w32 (x2 + 1)), none] [] w) : Wp (Cw d) cd_Ways_walkUnit (0, 0, n1) Q 99 [mR 93, mI x1, mI x2, none] [] w :=
  Wp.s (Wp.s h)
theorem Ways_walkUnit_93_b101 {d : Nat} {n1 : Int} {Q : MV → Wd → Prop} {w : Wd} (h : Q none w) : Wp (Cw d) cd_Ways_walkUnit (0, 0, n1) Q 101 [none, none, none, none] [] w :=
  Wp.s h
theorem Meeting_takenAsking_92_b0 {d : Nat} {n1 : Int} {Q : MV → Wd → Prop} {x1 x2 : Int} {w : Wd} (h : Wp (Cw d) cd_Meeting_takenAsking (3, 0, n1) Q 4 [mR 92, mI x1, mI x2, mL 9223372036854775807, none, mI 0] [] w) : Wp (Cw d) cd_Meeting_takenAsking (3, 0, n1) Q 0 [mR 92, mI x1, mI x2, none, none, none] [] w :=
  Wp.s (Wp.s (Wp.s (Wp.s h)))
theorem Meeting_takenAsking_92_b4 {d : Nat} {n1 : Int} {Q : MV → Wd → Prop} {x1 x2 x3 x5 : Int} {w : Wd} (h1 : 3 ≤ x5 → Wp (Cw d) cd_Meeting_takenAsking (3, 0, n1) Q 25 [none, none, none, mL x3, none, none] [] w) (h2 : ¬ (3 ≤ x5) → Wp (Cw d) cd_Meeting_takenAsking (3, 0, n1) Q 7 [mR 92, mI x1, mI x2, mL x3, none, mI x5] [] w) : Wp (Cw d) cd_Meeting_takenAsking (3, 0, n1) Q 4 [mR 92, mI x1, mI x2, mL x3, none, mI x5] [] w :=
  Wp.s (Wp.s (Wp.s ⟨fun q => Wp.fgd (leA.f (leA.f (leA.f (leA.k (leA.f (leA.f leA.e)))))) (h1 q), fun q => h2 q⟩))
theorem Meeting_takenAsking_92_b7 {d : Nat} {n1 : Int} {Q : MV → Wd → Prop} {x1 x2 x3 x5 : Int} {w : Wd} (g1 : (0 : Int) ≤ w32 ((w32 (x1 * 3)) + x5) ∧ w32 ((w32 (x1 * 3)) + x5) < 384) (h : Cw d 71 [mL (w 98 (w32 ((w32 (x1 * 3)) + x5)).toNat), mI (w32 (x2 * x5))] w (fun r w' => Wp (Cw d) cd_Meeting_takenAsking (3, 0, n1) Q 21 [mR 92, mI x1, mI x2, none, none, mI x5] [r, mL x3] w')) : Wp (Cw d) cd_Meeting_takenAsking (3, 0, n1) Q 7 [mR 92, mI x1, mI x2, mL x3, none, mI x5] [] w :=
  Wp.s (Wp.s (Wp.s (Wp.s (Wp.s (Wp.s (Wp.s (Wp.s (Wp.s (Wp.s ⟨g1, Wp.s (Wp.s (Wp.s (Wp.s (Cw_mono _ _ _ _ _ _ (fun r w' q => Wp.fgd (leA.k (leA.k (leA.k (leA.f (leA.f (leA.k leA.e)))))) q) h))))⟩)))))))))
theorem Meeting_takenAsking_92_b21 {d : Nat} {n1 : Int} {Q : MV → Wd → Prop} {x1 x2 x5 s0 s1 : Int} {w : Wd} (h : Wp (Cw d) cd_Meeting_takenAsking (3, 0, n1) Q 4 [mR 92, mI x1, mI x2, mL (min s1 s0), none, mI (w32 (x5 + 1))] [] w) : Wp (Cw d) cd_Meeting_takenAsking (3, 0, n1) Q 21 [mR 92, mI x1, mI x2, none, none, mI x5] [mL s0, mL s1] w :=
  Wp.s (Wp.s (Wp.s (Wp.s h)))
theorem Meeting_takenAsking_92_b25 {d : Nat} {n1 : Int} {Q : MV → Wd → Prop} {x3 : Int} {w : Wd} (h : Q (mL x3) w) : Wp (Cw d) cd_Meeting_takenAsking (3, 0, n1) Q 25 [none, none, none, mL x3, none, none] [] w :=
  Wp.s (Wp.s h)
theorem Meeting_bestOfSort_92_b0 {d : Nat} {n1 : Int} {Q : MV → Wd → Prop} {x1 : Int} {w : Wd} (h : Cw d 74 [mR 4, mI x1] w (fun r w' => Wp (Cw d) cd_Meeting_bestOfSort (3, 0, n1) Q 4 [mR 92, mI x1, none, none, none, none] [r] w')) : Wp (Cw d) cd_Meeting_bestOfSort (3, 0, n1) Q 0 [mR 92, mI x1, none, none, none, none] [] w :=
  Wp.s (Wp.s (Wp.s (Wp.s h)))
theorem Meeting_bestOfSort_92_b4 {d : Nat} {n1 : Int} {Q : MV → Wd → Prop} {x1 s0 : Int} {w : Wd} (h1 : ¬ s0 = 0 → Wp (Cw d) cd_Meeting_bestOfSort (3, 0, n1) Q 9 [mR 92, mI x1, mI s0, none, none, none] [] w) (h2 : ¬ (¬ s0 = 0) → Wp (Cw d) cd_Meeting_bestOfSort (3, 0, n1) Q 7 [none, none, none, none, none, none] [] w) : Wp (Cw d) cd_Meeting_bestOfSort (3, 0, n1) Q 4 [mR 92, mI x1, none, none, none, none] [mI s0] w :=
  Wp.s (Wp.s (Wp.s ⟨fun q => h1 q, fun q => Wp.fgd (leA.f (leA.f (leA.f (leA.f (leA.f (leA.f leA.e)))))) (h2 q)⟩))
theorem Meeting_bestOfSort_92_b7 {d : Nat} {n1 : Int} {Q : MV → Wd → Prop} {w : Wd} (h : Q (mL 0) w) : Wp (Cw d) cd_Meeting_bestOfSort (3, 0, n1) Q 7 [none, none, none, none, none, none] [] w :=
  Wp.s (Wp.s h)
theorem Meeting_bestOfSort_92_b9 {d : Nat} {n1 : Int} {Q : MV → Wd → Prop} {x1 x2 : Int} {w : Wd} (h : Cw d 277 [mR 110, mL ((-1))] w (fun _ w' => Wp (Cw d) cd_Meeting_bestOfSort (3, 0, n1) Q 13 [mR 92, mI x1, mI x2, none, none, none] [] w')) : Wp (Cw d) cd_Meeting_bestOfSort (3, 0, n1) Q 9 [mR 92, mI x1, mI x2, none, none, none] [] w :=
  Wp.s (Wp.s (Wp.s (Wp.s h)))
theorem Meeting_bestOfSort_92_b13 {d : Nat} {n1 : Int} {Q : MV → Wd → Prop} {x1 x2 : Int} {w : Wd} (h : Wp (Cw d) cd_Meeting_bestOfSort (3, 0, n1) Q 20 [mR 92, mI x1, mI x2, mI 0, none, none] [] (ub w 110 0.toNat 0)) : Wp (Cw d) cd_Meeting_bestOfSort (3, 0, n1) Q 13 [mR 92, mI x1, mI x2, none, none, none] [] w :=
  Wp.s (Wp.s (Wp.s (Wp.s (Wp.s ⟨(by decide), Wp.s (Wp.s h)⟩))))
theorem Meeting_bestOfSort_92_b20 {d : Nat} {n1 : Int} {Q : MV → Wd → Prop} {x1 x2 x3 : Int} {w : Wd} (h1 : w 4 8 ≤ x3 → Wp (Cw d) cd_Meeting_bestOfSort (3, 0, n1) Q 38 [mR 92, none, mI x2, none, none, none] [] w) (h2 : ¬ (w 4 8 ≤ x3) → Wp (Cw d) cd_Meeting_bestOfSort (3, 0, n1) Q 25 [mR 92, mI x1, mI x2, mI x3, none, none] [] w) : Wp (Cw d) cd_Meeting_bestOfSort (3, 0, n1) Q 20 [mR 92, mI x1, mI x2, mI x3, none, none] [] w :=
  Wp.s (Wp.s (Wp.s (Wp.s (Wp.s ⟨fun q => Wp.fgd (leA.k (leA.f (leA.k (leA.f (leA.f (leA.f leA.e)))))) (h1 q), fun q => h2 q⟩))))
theorem Meeting_bestOfSort_92_b25 {d : Nat} {n1 : Int} {Q : MV → Wd → Prop} {x1 x2 x3 : Int} {w : Wd} (h : Cw d 61 [mR 4, mI x3, mI 0] w (fun r w' => Wp (Cw d) cd_Meeting_bestOfSort (3, 0, n1) Q 30 [mR 92, mI x1, mI x2, mI x3, none, none] [r] w')) : Wp (Cw d) cd_Meeting_bestOfSort (3, 0, n1) Q 25 [mR 92, mI x1, mI x2, mI x3, none, none] [] w :=
  Wp.s (Wp.s (Wp.s (Wp.s (Wp.s h))))
theorem Meeting_bestOfSort_92_b30 {d : Nat} {n1 : Int} {Q : MV → Wd → Prop} {x1 x2 x3 s0 : Int} {w : Wd} (h1 : ¬ s0 = x1 → Wp (Cw d) cd_Meeting_bestOfSort (3, 0, n1) Q 36 [mR 92, mI x1, mI x2, mI x3, none, none] [] w) (h2 : ¬ (¬ s0 = x1) → Wp (Cw d) cd_Meeting_bestOfSort (3, 0, n1) Q 32 [mR 92, mI x1, mI x2, mI x3, none, none] [] w) : Wp (Cw d) cd_Meeting_bestOfSort (3, 0, n1) Q 30 [mR 92, mI x1, mI x2, mI x3, none, none] [mI s0] w :=
  Wp.s (Wp.s ⟨fun q => h1 q, fun q => h2 q⟩)
theorem Meeting_bestOfSort_92_b32 {d : Nat} {n1 : Int} {Q : MV → Wd → Prop} {x1 x2 x3 : Int} {w : Wd} (h : Cw d 75 [mR 92, mI x3, mI x2] w (fun _ w' => Wp (Cw d) cd_Meeting_bestOfSort (3, 0, n1) Q 36 [mR 92, mI x1, mI x2, mI x3, none, none] [] w')) : Wp (Cw d) cd_Meeting_bestOfSort (3, 0, n1) Q 32 [mR 92, mI x1, mI x2, mI x3, none, none] [] w :=
  Wp.s (Wp.s (Wp.s (Wp.s h)))
theorem Meeting_bestOfSort_92_b36 {d : Nat} {n1 : Int} {Q : MV → Wd → Prop} {x1 x2 x3 : Int} {w : Wd} (h : Wp (Cw d) cd_Meeting_bestOfSort (3, 0, n1) Q 20 [mR 92, mI x1, mI x2, mI (w32 (x3 + 1)), none, none] [] w) : Wp (Cw d) cd_Meeting_bestOfSort (3, 0, n1) Q 36 [mR 92, mI x1, mI x2, mI x3, none, none] [] w :=
  Wp.s (Wp.s h)
theorem Meeting_bestOfSort_92_b38 {d : Nat} {n1 : Int} {Q : MV → Wd → Prop} {x2 : Int} {w : Wd} (h : Wp (Cw d) cd_Meeting_bestOfSort (3, 0, n1) Q 42 [mR 92, none, mI x2, mL 0, none, mI x2] [] w) : Wp (Cw d) cd_Meeting_bestOfSort (3, 0, n1) Q 38 [mR 92, none, mI x2, none, none, none] [] w :=
  Wp.s (Wp.s (Wp.s (Wp.s h)))
theorem Meeting_bestOfSort_92_b42 {d : Nat} {n1 : Int} {Q : MV → Wd → Prop} {x2 x3 x5 : Int} {w : Wd} (h1 : x5 ≤ 0 → Wp (Cw d) cd_Meeting_bestOfSort (3, 0, n1) Q 58 [none, none, none, mL x3, none, none] [] w) (h2 : ¬ (x5 ≤ 0) → Wp (Cw d) cd_Meeting_bestOfSort (3, 0, n1) Q 44 [mR 92, none, mI x2, mL x3, none, mI x5] [] w) : Wp (Cw d) cd_Meeting_bestOfSort (3, 0, n1) Q 42 [mR 92, none, mI x2, mL x3, none, mI x5] [] w :=
  Wp.s (Wp.s ⟨fun q => Wp.fgd (leA.f (leA.f (leA.f (leA.k (leA.f (leA.f leA.e)))))) (h1 q), fun q => h2 q⟩)
theorem Meeting_bestOfSort_92_b44 {d : Nat} {n1 : Int} {Q : MV → Wd → Prop} {x2 x3 x5 : Int} {w : Wd} (g1 : (0 : Int) ≤ x5 ∧ x5 < 256) (h : Wp (Cw d) cd_Meeting_bestOfSort (3, 0, n1) Q 42 [mR 92, none, mI x2, mL (max x3 (w 110 x5.toNat)), none, mI (iand (w32 (x5 - 1)) x2)] [] w) : Wp (Cw d) cd_Meeting_bestOfSort (3, 0, n1) Q 44 [mR 92, none, mI x2, mL x3, none, mI x5] [] w :=
  Wp.s (Wp.s (Wp.s (Wp.s (Wp.s ⟨g1, Wp.s (Wp.s (Wp.s (Wp.s (Wp.s (Wp.s (Wp.s (Wp.s (Wp.s h))))))))⟩))))
theorem Meeting_bestOfSort_92_b58 {d : Nat} {n1 : Int} {Q : MV → Wd → Prop} {x3 : Int} {w : Wd} (h : Q (mL x3) w) : Wp (Cw d) cd_Meeting_bestOfSort (3, 0, n1) Q 58 [none, none, none, mL x3, none, none] [] w :=
  Wp.s (Wp.s h)
theorem Tokens_isName_2_b0 {d : Nat} {n1 : Int} {Q : MV → Wd → Prop} {w : Wd} (h1 : w 2 5 = 6 → Wp (Cw d) cd_Tokens_isName (2, 0, n1) Q 8 [none] [] w) (h2 : ¬ (w 2 5 = 6) → Wp (Cw d) cd_Tokens_isName (2, 0, n1) Q 4 [mR 2] [] w) : Wp (Cw d) cd_Tokens_isName (2, 0, n1) Q 0 [mR 2] [] w :=
  Wp.s (Wp.s (Wp.s (Wp.s ⟨fun q => Wp.fgd (leA.f leA.e) (h1 q), fun q => h2 q⟩)))
theorem Tokens_isName_2_b4 {d : Nat} {n1 : Int} {Q : MV → Wd → Prop} {w : Wd} (h : Cw d 28 [mR 2, mI 1] w (fun r w' => Wp (Cw d) cd_Tokens_isName (2, 0, n1) Q 7 [none] [r] w')) : Wp (Cw d) cd_Tokens_isName (2, 0, n1) Q 4 [mR 2] [] w :=
  Wp.s (Wp.s (Wp.s (Cw_mono _ _ _ _ _ _ (fun r w' q => Wp.fgd (leA.f leA.e) q) h)))
theorem Tokens_isName_2_b7 {d : Nat} {n1 : Int} {Q : MV → Wd → Prop} {s0 : Int} {w : Wd} (h1 : s0 = 0 → Wp (Cw d) cd_Tokens_isName (2, 0, n1) Q 10 [none] [] w) (h2 : ¬ (s0 = 0) → Wp (Cw d) cd_Tokens_isName (2, 0, n1) Q 8 [none] [] w) : Wp (Cw d) cd_Tokens_isName (2, 0, n1) Q 7 [none] [mI s0] w :=
  Wp.s ⟨fun q => h1 q, fun q => h2 q⟩
theorem Tokens_isName_2_b8 {d : Nat} {n1 : Int} {Q : MV → Wd → Prop} {w : Wd} (h : Wp (Cw d) cd_Tokens_isName (2, 0, n1) Q 11 [none] [mI 1] w) : Wp (Cw d) cd_Tokens_isName (2, 0, n1) Q 8 [none] [] w :=
  Wp.s (Wp.s h)
theorem Tokens_isName_2_b10 {d : Nat} {n1 : Int} {Q : MV → Wd → Prop} {w : Wd} (h : Wp (Cw d) cd_Tokens_isName (2, 0, n1) Q 11 [none] [mI 0] w) : Wp (Cw d) cd_Tokens_isName (2, 0, n1) Q 10 [none] [] w :=
  Wp.s h
theorem Tokens_isName_2_b11 {d : Nat} {n1 : Int} {Q : MV → Wd → Prop} {s0 : Int} {w : Wd} (g1 : s0 = 0 ∨ s0 = 1) (h : Q (mI s0) w) : Wp (Cw d) cd_Tokens_isName (2, 0, n1) Q 11 [none] [mI s0] w :=
  Wp.s ⟨g1, h⟩
theorem Village_indexOf_5_b0 {d : Nat} {n1 : Int} {Q : MV → Wd → Prop} {x1 x2 : Int} {w : Wd} (h : Wp (Cw d) cd_Village_indexOf (1, 0, n1) Q 2 [mR 5, mI x1, mI x2, mI 0] [] w) : Wp (Cw d) cd_Village_indexOf (1, 0, n1) Q 0 [mR 5, mI x1, mI x2, none] [] w :=
  Wp.s (Wp.s h)
theorem Village_indexOf_5_b2 {d : Nat} {n1 : Int} {Q : MV → Wd → Prop} {x1 x2 x3 : Int} {w : Wd} (h1 : x1 ≤ x3 → Wp (Cw d) cd_Village_indexOf (1, 0, n1) Q 14 [none, none, none, none] [] w) (h2 : ¬ (x1 ≤ x3) → Wp (Cw d) cd_Village_indexOf (1, 0, n1) Q 5 [mR 5, mI x1, mI x2, mI x3] [] w) : Wp (Cw d) cd_Village_indexOf (1, 0, n1) Q 2 [mR 5, mI x1, mI x2, mI x3] [] w :=
  Wp.s (Wp.s (Wp.s ⟨fun q => Wp.fgd (leA.f (leA.f (leA.f (leA.f leA.e)))) (h1 q), fun q => h2 q⟩))
theorem Village_indexOf_5_b5 {d : Nat} {n1 : Int} {Q : MV → Wd → Prop} {x1 x2 x3 : Int} {w : Wd} (g1 : (0 : Int) ≤ x3 ∧ x3 < 8) (h1 : ¬ w 5 x3.toNat = x2 → Wp (Cw d) cd_Village_indexOf (1, 0, n1) Q 12 [mR 5, mI x1, mI x2, mI x3] [] w) (h2 : ¬ (¬ w 5 x3.toNat = x2) → Wp (Cw d) cd_Village_indexOf (1, 0, n1) Q 10 [none, none, none, mI x3] [] w) : Wp (Cw d) cd_Village_indexOf (1, 0, n1) Q 5 [mR 5, mI x1, mI x2, mI x3] [] w :=
  Wp.s (Wp.s (Wp.s ⟨g1, Wp.s (Wp.s ⟨fun q => h1 q, fun q => Wp.fgd (leA.f (leA.f (leA.f (leA.k leA.e)))) (h2 q)⟩)⟩))
theorem Village_indexOf_5_b10 {d : Nat} {n1 : Int} {Q : MV → Wd → Prop} {x3 : Int} {w : Wd} (h : Q (mI x3) w) : Wp (Cw d) cd_Village_indexOf (1, 0, n1) Q 10 [none, none, none, mI x3] [] w :=
  Wp.s (Wp.s h)
theorem Village_indexOf_5_b12 {d : Nat} {n1 : Int} {Q : MV → Wd → Prop} {x1 x2 x3 : Int} {w : Wd} (h : Wp (Cw d) cd_Village_indexOf (1, 0, n1) Q 2 [mR 5, mI x1, mI x2, mI (w32 (x3 + 1))] [] w) : Wp (Cw d) cd_Village_indexOf (1, 0, n1) Q 12 [mR 5, mI x1, mI x2, mI x3] [] w :=
  Wp.s (Wp.s h)
theorem Village_indexOf_5_b14 {d : Nat} {n1 : Int} {Q : MV → Wd → Prop} {w : Wd} (h : Q (mI ((-1))) w) : Wp (Cw d) cd_Village_indexOf (1, 0, n1) Q 14 [none, none, none, none] [] w :=
  Wp.s (Wp.s h)
theorem Day_giver_132_4_b0 {d : Nat} {n1 : Int} {Q : MV → Wd → Prop} {x2 x3 : Int} {w : Wd} (g1 : (0 : Int) ≤ x2 ∧ x2 < 16) (h1 : ¬ w 134 x2.toNat = 1 → Wp (Cw d) cd_Day_giver (1, 0, n1) Q 10 [mR 132, mR 4, mI x2, mI x3, none, none] [] w) (h2 : ¬ (¬ w 134 x2.toNat = 1) → Wp (Cw d) cd_Day_giver (1, 0, n1) Q 6 [none, mR 4, mI x2, mI x3, none, none] [] w) : Wp (Cw d) cd_Day_giver (1, 0, n1) Q 0 [mR 132, mR 4, mI x2, mI x3, none, none] [] w :=
  Wp.s (Wp.s (Wp.s (Wp.s ⟨g1, Wp.s (Wp.s ⟨fun q => h1 q, fun q => Wp.fgd (leA.f (leA.k (leA.k (leA.k (leA.f (leA.f leA.e)))))) (h2 q)⟩)⟩)))
theorem Day_giver_132_4_b6 {d : Nat} {n1 : Int} {Q : MV → Wd → Prop} {x2 x3 : Int} {w : Wd} (h : Cw d 60 [mR 4, mI x2] w (fun r w' => Wp (Cw d) cd_Day_giver (1, 0, n1) Q 9 [none, mR 4, none, mI x3, none, none] [r] w')) : Wp (Cw d) cd_Day_giver (1, 0, n1) Q 6 [none, mR 4, mI x2, mI x3, none, none] [] w :=
  Wp.s (Wp.s (Wp.s (Cw_mono _ _ _ _ _ _ (fun r w' q => Wp.fgd (leA.f (leA.k (leA.f (leA.k (leA.f (leA.f leA.e)))))) q) h)))
theorem Day_giver_132_4_b9 {d : Nat} {n1 : Int} {Q : MV → Wd → Prop} {x3 s0 : Int} {w : Wd} (h : Wp (Cw d) cd_Day_giver (1, 0, n1) Q 16 [none, mR 4, none, mI x3, none, none] [mI s0] w) : Wp (Cw d) cd_Day_giver (1, 0, n1) Q 9 [none, mR 4, none, mI x3, none, none] [mI s0] w :=
  Wp.s h
theorem Day_giver_132_4_b10 {d : Nat} {n1 : Int} {Q : MV → Wd → Prop} {x2 x3 : Int} {w : Wd} (g1 : (0 : Int) ≤ x2 ∧ x2 < 16) (h : Wp (Cw d) cd_Day_giver (1, 0, n1) Q 16 [none, mR 4, none, mI x3, none, none] [mI (ishl 1 (w 133 x2.toNat))] w) : Wp (Cw d) cd_Day_giver (1, 0, n1) Q 10 [mR 132, mR 4, mI x2, mI x3, none, none] [] w :=
  Wp.s (Wp.s (Wp.s (Wp.s (Wp.s ⟨g1, Wp.s (Wp.fgd (leA.f (leA.k (leA.f (leA.k (leA.f (leA.f leA.e)))))) h)⟩))))
theorem Day_giver_132_4_b16 {d : Nat} {n1 : Int} {Q : MV → Wd → Prop} {x3 s0 : Int} {w : Wd} (h : Wp (Cw d) cd_Day_giver (1, 0, n1) Q 19 [none, mR 4, none, mI x3, mI s0, mI 0] [] w) : Wp (Cw d) cd_Day_giver (1, 0, n1) Q 16 [none, mR 4, none, mI x3, none, none] [mI s0] w :=
  Wp.s (Wp.s (Wp.s h))
theorem Day_giver_132_4_b19 {d : Nat} {n1 : Int} {Q : MV → Wd → Prop} {x3 x4 x5 : Int} {w : Wd} (h1 : w 4 0 ≤ x5 → Wp (Cw d) cd_Day_giver (1, 0, n1) Q 41 [none, none, none, none, none, none] [] w) (h2 : ¬ (w 4 0 ≤ x5) → Wp (Cw d) cd_Day_giver (1, 0, n1) Q 23 [none, mR 4, none, mI x3, mI x4, mI x5] [] w) : Wp (Cw d) cd_Day_giver (1, 0, n1) Q 19 [none, mR 4, none, mI x3, mI x4, mI x5] [] w :=
  Wp.s (Wp.s (Wp.s (Wp.s ⟨fun q => Wp.fgd (leA.f (leA.f (leA.f (leA.f (leA.f (leA.f leA.e)))))) (h1 q), fun q => h2 q⟩)))
theorem Day_giver_132_4_b23 {d : Nat} {n1 : Int} {Q : MV → Wd → Prop} {x3 x4 x5 : Int} {w : Wd} (h : Cw d 66 [mI x4, mI x5] w (fun r w' => Wp (Cw d) cd_Day_giver (1, 0, n1) Q 26 [none, mR 4, none, mI x3, mI x4, mI x5] [r] w')) : Wp (Cw d) cd_Day_giver (1, 0, n1) Q 23 [none, mR 4, none, mI x3, mI x4, mI x5] [] w :=
  Wp.s (Wp.s (Wp.s h))
theorem Day_giver_132_4_b26 {d : Nat} {n1 : Int} {Q : MV → Wd → Prop} {x3 x4 x5 s0 : Int} {w : Wd} (h1 : s0 = 0 → Wp (Cw d) cd_Day_giver (1, 0, n1) Q 39 [none, mR 4, none, mI x3, mI x4, mI x5] [] w) (h2 : ¬ (s0 = 0) → Wp (Cw d) cd_Day_giver (1, 0, n1) Q 27 [none, mR 4, none, mI x3, mI x4, mI x5] [] w) : Wp (Cw d) cd_Day_giver (1, 0, n1) Q 26 [none, mR 4, none, mI x3, mI x4, mI x5] [mI s0] w :=
  Wp.s ⟨fun q => h1 q, fun q => h2 q⟩
theorem Day_giver_132_4_b27 {d : Nat} {n1 : Int} {Q : MV → Wd → Prop} {x3 x4 x5 : Int} {w : Wd} (g1 : (0 : Int) ≤ w32 ((w32 (x5 * 8)) + x3) ∧ w32 ((w32 (x5 * 8)) + x3) < 64) (h1 : w 14 (w32 ((w32 (x5 * 8)) + x3)).toNat = (-1) → Wp (Cw d) cd_Day_giver (1, 0, n1) Q 39 [none, mR 4, none, mI x3, mI x4, mI x5] [] w) (h2 : ¬ (w 14 (w32 ((w32 (x5 * 8)) + x3)).toNat = (-1)) → Wp (Cw d) cd_Day_giver (1, 0, n1) Q 37 [none, none, none, none, none, mI x5] [] w) : Wp (Cw d) cd_Day_giver (1, 0, n1) Q 27 [none, mR 4, none, mI x3, mI x4, mI x5] [] w :=
  Wp.s (Wp.s (Wp.s (Wp.s (Wp.s (Wp.s (Wp.s (Wp.s ⟨g1, Wp.s (Wp.s ⟨fun q => h1 q, fun q => Wp.fgd (leA.f (leA.f (leA.f (leA.f (leA.f (leA.k leA.e)))))) (h2 q)⟩)⟩)))))))
theorem Day_giver_132_4_b37 {d : Nat} {n1 : Int} {Q : MV → Wd → Prop} {x5 : Int} {w : Wd} (h : Q (mI x5) w) : Wp (Cw d) cd_Day_giver (1, 0, n1) Q 37 [none, none, none, none, none, mI x5] [] w :=
  Wp.s (Wp.s h)
theorem Day_giver_132_4_b39 {d : Nat} {n1 : Int} {Q : MV → Wd → Prop} {x3 x4 x5 : Int} {w : Wd} (h : Wp (Cw d) cd_Day_giver (1, 0, n1) Q 19 [none, mR 4, none, mI x3, mI x4, mI (w32 (x5 + 1))] [] w) : Wp (Cw d) cd_Day_giver (1, 0, n1) Q 39 [none, mR 4, none, mI x3, mI x4, mI x5] [] w :=
  Wp.s (Wp.s h)
theorem Day_giver_132_4_b41 {d : Nat} {n1 : Int} {Q : MV → Wd → Prop} {w : Wd} (h : Q (mI ((-1))) w) : Wp (Cw d) cd_Day_giver (1, 0, n1) Q 41 [none, none, none, none, none, none] [] w :=
  Wp.s (Wp.s h)
theorem Ways_asking_b0 {d : Nat} {n1 : Int} {Q : MV → Wd → Prop} {x0 x2 : Int} {w : Wd} (h1 : ¬ cmp3 x0 9223372036854775807 = 0 → Wp (Cw d) cd_Ways_asking (3, 0, n1) Q 6 [mL x0, none, mI x2] [] w) (h2 : ¬ (¬ cmp3 x0 9223372036854775807 = 0) → Wp (Cw d) cd_Ways_asking (3, 0, n1) Q 4 [none, none, none] [] w) : Wp (Cw d) cd_Ways_asking (3, 0, n1) Q 0 [mL x0, none, mI x2] [] w :=
  Wp.s (Wp.s (Wp.s (Wp.s ⟨fun q => h1 q, fun q => Wp.fgd (leA.f (leA.f (leA.f leA.e))) (h2 q)⟩)))
theorem Ways_asking_b4 {d : Nat} {n1 : Int} {Q : MV → Wd → Prop} {w : Wd} (h : Wp (Cw d) cd_Ways_asking (3, 0, n1) Q 12 [none, none, none] [mL 9223372036854775807] w) : Wp (Cw d) cd_Ways_asking (3, 0, n1) Q 4 [none, none, none] [] w :=
  Wp.s (Wp.s h)
theorem Ways_asking_b6 {d : Nat} {n1 : Int} {Q : MV → Wd → Prop} {x0 x2 : Int} {w : Wd} (h : Wp (Cw d) cd_Ways_asking (3, 0, n1) Q 12 [none, none, none] [mL (w64 (x0 + (lshl x2 24)))] w) : Wp (Cw d) cd_Ways_asking (3, 0, n1) Q 6 [mL x0, none, mI x2] [] w :=
  Wp.s (Wp.s (Wp.s (Wp.s (Wp.s (Wp.s (Wp.fgd (leA.f (leA.f (leA.f leA.e))) h))))))
theorem Ways_asking_b12 {d : Nat} {n1 : Int} {Q : MV → Wd → Prop} {s0 : Int} {w : Wd} (h : Q (mL s0) w) : Wp (Cw d) cd_Ways_asking (3, 0, n1) Q 12 [none, none, none] [mL s0] w :=
  Wp.s h
theorem Village_wantsOfSort_4_b0 {d : Nat} {n1 : Int} {Q : MV → Wd → Prop} {x1 : Int} {w : Wd} (h : Wp (Cw d) cd_Village_wantsOfSort (1, 0, n1) Q 4 [mR 4, mI x1, mI 0, mI 0] [] w) : Wp (Cw d) cd_Village_wantsOfSort (1, 0, n1) Q 0 [mR 4, mI x1, none, none] [] w :=
  Wp.s (Wp.s (Wp.s (Wp.s h)))
theorem Village_wantsOfSort_4_b4 {d : Nat} {n1 : Int} {Q : MV → Wd → Prop} {x1 x2 x3 : Int} {w : Wd} (h1 : w 4 11 ≤ x3 → Wp (Cw d) cd_Village_wantsOfSort (1, 0, n1) Q 24 [none, none, mI x2, none] [] w) (h2 : ¬ (w 4 11 ≤ x3) → Wp (Cw d) cd_Village_wantsOfSort (1, 0, n1) Q 8 [mR 4, mI x1, mI x2, mI x3] [] w) : Wp (Cw d) cd_Village_wantsOfSort (1, 0, n1) Q 4 [mR 4, mI x1, mI x2, mI x3] [] w :=
  Wp.s (Wp.s (Wp.s (Wp.s ⟨fun q => Wp.fgd (leA.f (leA.f (leA.k (leA.f leA.e)))) (h1 q), fun q => h2 q⟩)))
theorem Village_wantsOfSort_4_b8 {d : Nat} {n1 : Int} {Q : MV → Wd → Prop} {x1 x2 x3 : Int} {w : Wd} (h : Cw d 63 [mR 4, mI x3, mI 1] w (fun r w' => Wp (Cw d) cd_Village_wantsOfSort (1, 0, n1) Q 13 [mR 4, mI x1, none, mI x3] [r, mI x2] w')) : Wp (Cw d) cd_Village_wantsOfSort (1, 0, n1) Q 8 [mR 4, mI x1, mI x2, mI x3] [] w :=
  Wp.s (Wp.s (Wp.s (Wp.s (Wp.s (Cw_mono _ _ _ _ _ _ (fun r w' q => Wp.fgd (leA.k (leA.k (leA.f (leA.k leA.e)))) q) h)))))
theorem Village_wantsOfSort_4_b13 {d : Nat} {n1 : Int} {Q : MV → Wd → Prop} {x1 x3 s0 s1 : Int} {w : Wd} (h1 : ¬ s0 = x1 → Wp (Cw d) cd_Village_wantsOfSort (1, 0, n1) Q 19 [mR 4, mI x1, none, mI x3] [mI s1] w) (h2 : ¬ (¬ s0 = x1) → Wp (Cw d) cd_Village_wantsOfSort (1, 0, n1) Q 15 [mR 4, mI x1, none, mI x3] [mI s1] w) : Wp (Cw d) cd_Village_wantsOfSort (1, 0, n1) Q 13 [mR 4, mI x1, none, mI x3] [mI s0, mI s1] w :=
  Wp.s (Wp.s ⟨fun q => h1 q, fun q => h2 q⟩)
theorem Village_wantsOfSort_4_b15 {d : Nat} {n1 : Int} {Q : MV → Wd → Prop} {x1 x3 s0 : Int} {w : Wd} (h : Wp (Cw d) cd_Village_wantsOfSort (1, 0, n1) Q 20 [mR 4, mI x1, none, mI x3] [mI (ishl 1 x3), mI s0] w) : Wp (Cw d) cd_Village_wantsOfSort (1, 0, n1) Q 15 [mR 4, mI x1, none, mI x3] [mI s0] w :=
  Wp.s (Wp.s (Wp.s (Wp.s h)))
theorem Village_wantsOfSort_4_b19 {d : Nat} {n1 : Int} {Q : MV → Wd → Prop} {x1 x3 s0 : Int} {w : Wd} (h : Wp (Cw d) cd_Village_wantsOfSort (1, 0, n1) Q 20 [mR 4, mI x1, none, mI x3] [mI 0, mI s0] w) : Wp (Cw d) cd_Village_wantsOfSort (1, 0, n1) Q 19 [mR 4, mI x1, none, mI x3] [mI s0] w :=
  Wp.s h
theorem Village_wantsOfSort_4_b20 {d : Nat} {n1 : Int} {Q : MV → Wd → Prop} {x1 x3 s0 s1 : Int} {w : Wd} (h : Wp (Cw d) cd_Village_wantsOfSort (1, 0, n1) Q 4 [mR 4, mI x1, mI (ior s1 s0), mI (w32 (x3 + 1))] [] w) : Wp (Cw d) cd_Village_wantsOfSort (1, 0, n1) Q 20 [mR 4, mI x1, none, mI x3] [mI s0, mI s1] w :=
  Wp.s (Wp.s (Wp.s (Wp.s h)))
theorem Village_wantsOfSort_4_b24 {d : Nat} {n1 : Int} {Q : MV → Wd → Prop} {x2 : Int} {w : Wd} (h : Q (mI x2) w) : Wp (Cw d) cd_Village_wantsOfSort (1, 0, n1) Q 24 [none, none, mI x2, none] [] w :=
  Wp.s (Wp.s h)
theorem Meeting_meetBy_112_b0 {d : Nat} {n1 : Int} {Q : MV → Wd → Prop} {x1 x2 : Int} {w : Wd} (h : Cw d 76 [mR 112, mI x1] w (fun r w' => Wp (Cw d) cd_Meeting_meetBy (0, 0, n1) Q 3 [mR 112, none, mI x2, none, none, none, none, none] [r] w')) : Wp (Cw d) cd_Meeting_meetBy (0, 0, n1) Q 0 [mR 112, mI x1, mI x2, none, none, none, none, none] [] w :=
  Wp.s (Wp.s (Wp.s (Cw_mono _ _ _ _ _ _ (fun r w' q => Wp.fgd (leA.k (leA.f (leA.k (leA.f (leA.f (leA.f (leA.f (leA.f leA.e)))))))) q) h)))
theorem Meeting_meetBy_112_b3 {d : Nat} {n1 : Int} {Q : MV → Wd → Prop} {x2 s0 : Int} {w : Wd} (h1 : ¬ s0 = 0 → Wp (Cw d) cd_Meeting_meetBy (0, 0, n1) Q 7 [mR 112, none, mI x2, mI s0, none, none, none, none] [] w) (h2 : ¬ (¬ s0 = 0) → Wp (Cw d) cd_Meeting_meetBy (0, 0, n1) Q 6 [none, none, none, none, none, none, none, none] [] w) : Wp (Cw d) cd_Meeting_meetBy (0, 0, n1) Q 3 [mR 112, none, mI x2, none, none, none, none, none] [mI s0] w :=
  Wp.s (Wp.s (Wp.s ⟨fun q => h1 q, fun q => Wp.fgd (leA.f (leA.f (leA.f (leA.f (leA.f (leA.f (leA.f (leA.f leA.e)))))))) (h2 q)⟩))
theorem Meeting_meetBy_112_b6 {d : Nat} {n1 : Int} {Q : MV → Wd → Prop} {w : Wd} (h : Q none w) : Wp (Cw d) cd_Meeting_meetBy (0, 0, n1) Q 6 [none, none, none, none, none, none, none, none] [] w :=
  Wp.s h
theorem Meeting_meetBy_112_b7 {d : Nat} {n1 : Int} {Q : MV → Wd → Prop} {x2 x3 : Int} {w : Wd} (h : Wp (Cw d) cd_Meeting_meetBy (0, 0, n1) Q 9 [mR 112, none, mI x2, mI x3, mI x2, none, none, none] [] w) : Wp (Cw d) cd_Meeting_meetBy (0, 0, n1) Q 7 [mR 112, none, mI x2, mI x3, none, none, none, none] [] w :=
  Wp.s (Wp.s h)
theorem Meeting_meetBy_112_b9 {d : Nat} {n1 : Int} {Q : MV → Wd → Prop} {x2 x3 x4 : Int} {w : Wd} (h1 : x4 ≤ 0 → Wp (Cw d) cd_Meeting_meetBy (0, 0, n1) Q 61 [none, none, none, none, none, none, none, none] [] w) (h2 : ¬ (x4 ≤ 0) → Wp (Cw d) cd_Meeting_meetBy (0, 0, n1) Q 11 [mR 112, none, mI x2, mI x3, mI x4, none, none, none] [] w) : Wp (Cw d) cd_Meeting_meetBy (0, 0, n1) Q 9 [mR 112, none, mI x2, mI x3, mI x4, none, none, none] [] w :=
  Wp.s (Wp.s ⟨fun q => Wp.fgd (leA.f (leA.f (leA.f (leA.f (leA.f (leA.f (leA.f (leA.f leA.e)))))))) (h1 q), fun q => h2 q⟩)
theorem Meeting_meetBy_112_b11 {d : Nat} {n1 : Int} {Q : MV → Wd → Prop} {x2 x3 x4 : Int} {w : Wd} (h : Wp (Cw d) cd_Meeting_meetBy (0, 0, n1) Q 13 [mR 112, none, mI x2, mI x3, mI x4, mI 0, none, none] [] w) : Wp (Cw d) cd_Meeting_meetBy (0, 0, n1) Q 11 [mR 112, none, mI x2, mI x3, mI x4, none, none, none] [] w :=
  Wp.s (Wp.s h)
theorem Meeting_meetBy_112_b13 {d : Nat} {n1 : Int} {Q : MV → Wd → Prop} {x2 x3 x4 x5 : Int} {w : Wd} (h1 : w 4 11 ≤ x5 → Wp (Cw d) cd_Meeting_meetBy (0, 0, n1) Q 54 [mR 112, none, mI x2, mI x3, mI x4, none, none, none] [] w) (h2 : ¬ (w 4 11 ≤ x5) → Wp (Cw d) cd_Meeting_meetBy (0, 0, n1) Q 18 [mR 112, none, mI x2, mI x3, mI x4, mI x5, none, none] [] w) : Wp (Cw d) cd_Meeting_meetBy (0, 0, n1) Q 13 [mR 112, none, mI x2, mI x3, mI x4, mI x5, none, none] [] w :=
  Wp.s (Wp.s (Wp.s (Wp.s (Wp.s ⟨fun q => Wp.fgd (leA.k (leA.f (leA.k (leA.k (leA.k (leA.f (leA.f (leA.f leA.e)))))))) (h1 q), fun q => h2 q⟩))))
theorem Meeting_meetBy_112_b18 {d : Nat} {n1 : Int} {Q : MV → Wd → Prop} {x2 x3 x4 x5 : Int} {w : Wd} (h : Cw d 66 [mI (iand x4 x3), mI x5] w (fun r w' => Wp (Cw d) cd_Meeting_meetBy (0, 0, n1) Q 23 [mR 112, none, mI x2, mI x3, mI x4, mI x5, none, none] [r] w')) : Wp (Cw d) cd_Meeting_meetBy (0, 0, n1) Q 18 [mR 112, none, mI x2, mI x3, mI x4, mI x5, none, none] [] w :=
  Wp.s (Wp.s (Wp.s (Wp.s (Wp.s h))))
theorem Meeting_meetBy_112_b23 {d : Nat} {n1 : Int} {Q : MV → Wd → Prop} {x2 x3 x4 x5 s0 : Int} {w : Wd} (h1 : s0 = 0 → Wp (Cw d) cd_Meeting_meetBy (0, 0, n1) Q 52 [mR 112, none, mI x2, mI x3, mI x4, mI x5, none, none] [] w) (h2 : ¬ (s0 = 0) → Wp (Cw d) cd_Meeting_meetBy (0, 0, n1) Q 24 [mR 112, none, mI x2, mI x3, mI x4, mI x5, none, none] [] w) : Wp (Cw d) cd_Meeting_meetBy (0, 0, n1) Q 23 [mR 112, none, mI x2, mI x3, mI x4, mI x5, none, none] [mI s0] w :=
  Wp.s ⟨fun q => h1 q, fun q => h2 q⟩
theorem Meeting_meetBy_112_b24 {d : Nat} {n1 : Int} {Q : MV → Wd → Prop} {x2 x3 x4 x5 : Int} {w : Wd} (g1 : (0 : Int) ≤ ixor x4 (ishl 1 x5) ∧ ixor x4 (ishl 1 x5) < 256) (h1 : cmp3 (w 130 (ixor x4 (ishl 1 x5)).toNat) ((-1)) = 0 → Wp (Cw d) cd_Meeting_meetBy (0, 0, n1) Q 52 [mR 112, none, mI x2, mI x3, mI x4, mI x5, none, none] [] w) (h2 : ¬ (cmp3 (w 130 (ixor x4 (ishl 1 x5)).toNat) ((-1)) = 0) → Wp (Cw d) cd_Meeting_meetBy (0, 0, n1) Q 37 [mR 112, none, mI x2, mI x3, mI x4, mI x5, mL (w 130 (ixor x4 (ishl 1 x5)).toNat), none] [] w) : Wp (Cw d) cd_Meeting_meetBy (0, 0, n1) Q 24 [mR 112, none, mI x2, mI x3, mI x4, mI x5, none, none] [] w :=
  Wp.s (Wp.s (Wp.s (Wp.s (Wp.s (Wp.s (Wp.s (Wp.s ⟨g1, Wp.s (Wp.s (Wp.s (Wp.s (Wp.s ⟨fun q => Wp.fgd (leA.k (leA.f (leA.k (leA.k (leA.k (leA.k (leA.f (leA.f leA.e)))))))) (h1 q), fun q => h2 q⟩))))⟩)))))))
theorem Meeting_meetBy_112_b37 {d : Nat} {n1 : Int} {Q : MV → Wd → Prop} {x2 x3 x4 x5 x6 : Int} {w : Wd} (g1 : (0 : Int) ≤ x4 ∧ x4 < 256) (g2 : (0 : Int) ≤ x5 ∧ x5 < 8) (g3 : (0 : Int) ≤ x4 ∧ x4 < 256) (h : Wp (Cw d) cd_Meeting_meetBy (0, 0, n1) Q 52 [mR 112, none, mI x2, mI x3, mI x4, mI x5, none, none] [] (ub w 130 x4.toNat (max (w 130 x4.toNat) (w64 (x6 + (w 131 x5.toNat)))))) : Wp (Cw d) cd_Meeting_meetBy (0, 0, n1) Q 37 [mR 112, none, mI x2, mI x3, mI x4, mI x5, mL x6, none] [] w :=
  Wp.s (Wp.s (Wp.s (Wp.s (Wp.s (Wp.s (Wp.s ⟨g1, Wp.s (Wp.s (Wp.s (Wp.s (Wp.s ⟨g2, Wp.s (Wp.s (Wp.s ⟨g3, Wp.fgd (leA.k (leA.f (leA.k (leA.k (leA.k (leA.k (leA.f (leA.f leA.e)))))))) h⟩))⟩))))⟩))))))
theorem Meeting_meetBy_112_b52 {d : Nat} {n1 : Int} {Q : MV → Wd → Prop} {x2 x3 x4 x5 : Int} {w : Wd} (h : Wp (Cw d) cd_Meeting_meetBy (0, 0, n1) Q 13 [mR 112, none, mI x2, mI x3, mI x4, mI (w32 (x5 + 1)), none, none] [] w) : Wp (Cw d) cd_Meeting_meetBy (0, 0, n1) Q 52 [mR 112, none, mI x2, mI x3, mI x4, mI x5, none, none] [] w :=
  Wp.s (Wp.s h)
theorem Meeting_meetBy_112_b54 {d : Nat} {n1 : Int} {Q : MV → Wd → Prop} {x2 x3 x4 : Int} {w : Wd} (h : Wp (Cw d) cd_Meeting_meetBy (0, 0, n1) Q 9 [mR 112, none, mI x2, mI x3, mI (iand (w32 (x4 - 1)) x2), none, none, none] [] w) : Wp (Cw d) cd_Meeting_meetBy (0, 0, n1) Q 54 [mR 112, none, mI x2, mI x3, mI x4, none, none, none] [] w :=
  Wp.s (Wp.s (Wp.s (Wp.s (Wp.s (Wp.s (Wp.s h))))))
theorem Meeting_meetBy_112_b61 {d : Nat} {n1 : Int} {Q : MV → Wd → Prop} {w : Wd} (h : Q none w) : Wp (Cw d) cd_Meeting_meetBy (0, 0, n1) Q 61 [none, none, none, none, none, none, none, none] [] w :=
  Wp.s h
theorem Village_indexOf_17_b0 {d : Nat} {n1 : Int} {Q : MV → Wd → Prop} {x1 x2 : Int} {w : Wd} (h : Wp (Cw d) cd_Village_indexOf (1, 0, n1) Q 2 [mR 17, mI x1, mI x2, mI 0] [] w) : Wp (Cw d) cd_Village_indexOf (1, 0, n1) Q 0 [mR 17, mI x1, mI x2, none] [] w :=
  Wp.s (Wp.s h)
theorem Village_indexOf_17_b2 {d : Nat} {n1 : Int} {Q : MV → Wd → Prop} {x1 x2 x3 : Int} {w : Wd} (h1 : x1 ≤ x3 → Wp (Cw d) cd_Village_indexOf (1, 0, n1) Q 14 [none, none, none, none] [] w) (h2 : ¬ (x1 ≤ x3) → Wp (Cw d) cd_Village_indexOf (1, 0, n1) Q 5 [mR 17, mI x1, mI x2, mI x3] [] w) : Wp (Cw d) cd_Village_indexOf (1, 0, n1) Q 2 [mR 17, mI x1, mI x2, mI x3] [] w :=
  Wp.s (Wp.s (Wp.s ⟨fun q => Wp.fgd (leA.f (leA.f (leA.f (leA.f leA.e)))) (h1 q), fun q => h2 q⟩))
theorem Village_indexOf_17_b5 {d : Nat} {n1 : Int} {Q : MV → Wd → Prop} {x1 x2 x3 : Int} {w : Wd} (g1 : (0 : Int) ≤ x3 ∧ x3 < 8) (h1 : ¬ w 17 x3.toNat = x2 → Wp (Cw d) cd_Village_indexOf (1, 0, n1) Q 12 [mR 17, mI x1, mI x2, mI x3] [] w) (h2 : ¬ (¬ w 17 x3.toNat = x2) → Wp (Cw d) cd_Village_indexOf (1, 0, n1) Q 10 [none, none, none, mI x3] [] w) : Wp (Cw d) cd_Village_indexOf (1, 0, n1) Q 5 [mR 17, mI x1, mI x2, mI x3] [] w :=
  Wp.s (Wp.s (Wp.s ⟨g1, Wp.s (Wp.s ⟨fun q => h1 q, fun q => Wp.fgd (leA.f (leA.f (leA.f (leA.k leA.e)))) (h2 q)⟩)⟩))
theorem Village_indexOf_17_b10 {d : Nat} {n1 : Int} {Q : MV → Wd → Prop} {x3 : Int} {w : Wd} (h : Q (mI x3) w) : Wp (Cw d) cd_Village_indexOf (1, 0, n1) Q 10 [none, none, none, mI x3] [] w :=
  Wp.s (Wp.s h)
theorem Village_indexOf_17_b12 {d : Nat} {n1 : Int} {Q : MV → Wd → Prop} {x1 x2 x3 : Int} {w : Wd} (h : Wp (Cw d) cd_Village_indexOf (1, 0, n1) Q 2 [mR 17, mI x1, mI x2, mI (w32 (x3 + 1))] [] w) : Wp (Cw d) cd_Village_indexOf (1, 0, n1) Q 12 [mR 17, mI x1, mI x2, mI x3] [] w :=
  Wp.s (Wp.s h)
theorem Village_indexOf_17_b14 {d : Nat} {n1 : Int} {Q : MV → Wd → Prop} {w : Wd} (h : Q (mI ((-1))) w) : Wp (Cw d) cd_Village_indexOf (1, 0, n1) Q 14 [none, none, none, none] [] w :=
  Wp.s (Wp.s h)
theorem Village_indexOf_21_b0 {d : Nat} {n1 : Int} {Q : MV → Wd → Prop} {x1 x2 : Int} {w : Wd} (h : Wp (Cw d) cd_Village_indexOf (1, 0, n1) Q 2 [mR 21, mI x1, mI x2, mI 0] [] w) : Wp (Cw d) cd_Village_indexOf (1, 0, n1) Q 0 [mR 21, mI x1, mI x2, none] [] w :=
  Wp.s (Wp.s h)
theorem Village_indexOf_21_b2 {d : Nat} {n1 : Int} {Q : MV → Wd → Prop} {x1 x2 x3 : Int} {w : Wd} (h1 : x1 ≤ x3 → Wp (Cw d) cd_Village_indexOf (1, 0, n1) Q 14 [none, none, none, none] [] w) (h2 : ¬ (x1 ≤ x3) → Wp (Cw d) cd_Village_indexOf (1, 0, n1) Q 5 [mR 21, mI x1, mI x2, mI x3] [] w) : Wp (Cw d) cd_Village_indexOf (1, 0, n1) Q 2 [mR 21, mI x1, mI x2, mI x3] [] w :=
  Wp.s (Wp.s (Wp.s ⟨fun q => Wp.fgd (leA.f (leA.f (leA.f (leA.f leA.e)))) (h1 q), fun q => h2 q⟩))
theorem Village_indexOf_21_b5 {d : Nat} {n1 : Int} {Q : MV → Wd → Prop} {x1 x2 x3 : Int} {w : Wd} (g1 : (0 : Int) ≤ x3 ∧ x3 < 6) (h1 : ¬ w 21 x3.toNat = x2 → Wp (Cw d) cd_Village_indexOf (1, 0, n1) Q 12 [mR 21, mI x1, mI x2, mI x3] [] w) (h2 : ¬ (¬ w 21 x3.toNat = x2) → Wp (Cw d) cd_Village_indexOf (1, 0, n1) Q 10 [none, none, none, mI x3] [] w) : Wp (Cw d) cd_Village_indexOf (1, 0, n1) Q 5 [mR 21, mI x1, mI x2, mI x3] [] w :=
  Wp.s (Wp.s (Wp.s ⟨g1, Wp.s (Wp.s ⟨fun q => h1 q, fun q => Wp.fgd (leA.f (leA.f (leA.f (leA.k leA.e)))) (h2 q)⟩)⟩))
theorem Village_indexOf_21_b10 {d : Nat} {n1 : Int} {Q : MV → Wd → Prop} {x3 : Int} {w : Wd} (h : Q (mI x3) w) : Wp (Cw d) cd_Village_indexOf (1, 0, n1) Q 10 [none, none, none, mI x3] [] w :=
  Wp.s (Wp.s h)
theorem Village_indexOf_21_b12 {d : Nat} {n1 : Int} {Q : MV → Wd → Prop} {x1 x2 x3 : Int} {w : Wd} (h : Wp (Cw d) cd_Village_indexOf (1, 0, n1) Q 2 [mR 21, mI x1, mI x2, mI (w32 (x3 + 1))] [] w) : Wp (Cw d) cd_Village_indexOf (1, 0, n1) Q 12 [mR 21, mI x1, mI x2, mI x3] [] w :=
  Wp.s (Wp.s h)
theorem Village_indexOf_21_b14 {d : Nat} {n1 : Int} {Q : MV → Wd → Prop} {w : Wd} (h : Q (mI ((-1))) w) : Wp (Cw d) cd_Village_indexOf (1, 0, n1) Q 14 [none, none, none, none] [] w :=
  Wp.s (Wp.s h)
theorem Ways_measureRooms_93_b0 {d : Nat} {n1 : Int} {Q : MV → Wd → Prop} {w : Wd} (h : Wp (Cw d) cd_Ways_measureRooms (0, 0, n1) Q 8 [mR 93, mI 0, none] [] (ub (ub w 93 9 0) 93 10 ((-1)))) : Wp (Cw d) cd_Ways_measureRooms (0, 0, n1) Q 0 [mR 93, none, none] [] w :=
  Wp.s (Wp.s (Wp.s (Wp.s (Wp.s (Wp.s (Wp.s (Wp.s h)))))))
theorem Ways_measureRooms_93_b8 {d : Nat} {n1 : Int} {Q : MV → Wd → Prop} {x1 : Int} {w : Wd} (h1 : w 4 11 ≤ x1 → Wp (Cw d) cd_Ways_measureRooms (0, 0, n1) Q 87 [none, none, none] [] w) (h2 : ¬ (w 4 11 ≤ x1) → Wp (Cw d) cd_Ways_measureRooms (0, 0, n1) Q 13 [mR 93, mI x1, none] [] w) : Wp (Cw d) cd_Ways_measureRooms (0, 0, n1) Q 8 [mR 93, mI x1, none] [] w :=
  Wp.s (Wp.s (Wp.s (Wp.s (Wp.s ⟨fun q => Wp.fgd (leA.f (leA.f (leA.f leA.e))) (h1 q), fun q => h2 q⟩))))
theorem Ways_measureRooms_93_b13 {d : Nat} {n1 : Int} {Q : MV → Wd → Prop} {x1 : Int} {w : Wd} (g1 : (0 : Int) ≤ x1 ∧ x1 < 8) (h : Cw d 63 [mR 4, mI x1, mI 1] (ub w 99 x1.toNat ((-1))) (fun r w' => Wp (Cw d) cd_Ways_measureRooms (0, 0, n1) Q 23 [mR 93, mI x1, none] [r] w')) : Wp (Cw d) cd_Ways_measureRooms (0, 0, n1) Q 13 [mR 93, mI x1, none] [] w :=
  Wp.s (Wp.s (Wp.s (Wp.s (Wp.s ⟨g1, Wp.s (Wp.s (Wp.s (Wp.s (Wp.s h))))⟩))))
theorem Ways_measureRooms_93_b23 {d : Nat} {n1 : Int} {Q : MV → Wd → Prop} {x1 s0 : Int} {w : Wd} (h : Cw d 61 [mR 4, mI (w 93 7), mI 0] w (fun r w' => Wp (Cw d) cd_Ways_measureRooms (0, 0, n1) Q 29 [mR 93, mI x1, none] [r, mI s0] w')) : Wp (Cw d) cd_Ways_measureRooms (0, 0, n1) Q 23 [mR 93, mI x1, none] [mI s0] w :=
  Wp.s (Wp.s (Wp.s (Wp.s (Wp.s (Wp.s h)))))
theorem Ways_measureRooms_93_b29 {d : Nat} {n1 : Int} {Q : MV → Wd → Prop} {x1 s0 s1 : Int} {w : Wd} (h1 : ¬ s1 = s0 → Wp (Cw d) cd_Ways_measureRooms (0, 0, n1) Q 85 [mR 93, mI x1, none] [] w) (h2 : ¬ (¬ s1 = s0) → Wp (Cw d) cd_Ways_measureRooms (0, 0, n1) Q 30 [mR 93, mI x1, none] [] w) : Wp (Cw d) cd_Ways_measureRooms (0, 0, n1) Q 29 [mR 93, mI x1, none] [mI s0, mI s1] w :=
  Wp.s ⟨fun q => h1 q, fun q => h2 q⟩
theorem Ways_measureRooms_93_b30 {d : Nat} {n1 : Int} {Q : MV → Wd → Prop} {x1 : Int} {w : Wd} (h : Cw d 63 [mR 4, mI x1, mI 3] w (fun r w' => Wp (Cw d) cd_Ways_measureRooms (0, 0, n1) Q 35 [mR 93, mI x1, none] [r] w')) : Wp (Cw d) cd_Ways_measureRooms (0, 0, n1) Q 30 [mR 93, mI x1, none] [] w :=
  Wp.s (Wp.s (Wp.s (Wp.s (Wp.s h))))
theorem Ways_measureRooms_93_b35 {d : Nat} {n1 : Int} {Q : MV → Wd → Prop} {x1 s0 : Int} {w : Wd} (h : Cw d 61 [mR 4, mI (w 93 7), mI 4] w (fun r w' => Wp (Cw d) cd_Ways_measureRooms (0, 0, n1) Q 41 [mR 93, mI x1, none] [r, mI s0] w')) : Wp (Cw d) cd_Ways_measureRooms (0, 0, n1) Q 35 [mR 93, mI x1, none] [mI s0] w :=
  Wp.s (Wp.s (Wp.s (Wp.s (Wp.s (Wp.s h)))))
theorem Ways_measureRooms_93_b41 {d : Nat} {n1 : Int} {Q : MV → Wd → Prop} {x1 s0 s1 : Int} {w : Wd} (h : Cw d 61 [mR 4, mI (w 93 7), mI 3] w (fun r w' => Wp (Cw d) cd_Ways_measureRooms (0, 0, n1) Q 55 [mR 93, mI x1, none] [r, mI (min s1 (w32 (s0 - 1))), mI x1, mR 99] w')) : Wp (Cw d) cd_Ways_measureRooms (0, 0, n1) Q 41 [mR 93, mI x1, none] [mI s0, mI s1] w :=
  Wp.s (Wp.s (Wp.s (Wp.s (Wp.s (Wp.s (Wp.s (Wp.s (Wp.s (Wp.s (Wp.s (Wp.s (Wp.s (Wp.s (Cw_mono _ _ _ _ _ _ (fun r w' q => Wp.fgd (leA.k (leA.k (leA.f leA.e))) q) h))))))))))))))
theorem Ways_measureRooms_93_b55 {d : Nat} {n1 : Int} {Q : MV → Wd → Prop} {x1 s0 s1 s2 : Int} {w : Wd} (g1 : (0 : Int) ≤ s2 ∧ s2 < 8) (g2 : (0 : Int) ≤ x1 ∧ x1 < 8) (g3 : (0 : Int) ≤ x1 ∧ x1 < 8) (h1 : 0 ≤ (up1 (w 99) s2.toNat (w32 (s1 - s0))) x1.toNat → Wp (Cw d) cd_Ways_measureRooms (0, 0, n1) Q 76 [mR 93, mI x1, none] [mI ((up1 (w 93) 10 (max (w 93 10) ((up1 (w 99) s2.toNat (w32 (s1 - s0))) x1.toNat))) 9), mR 93] (ub (ub w 99 s2.toNat (w32 (s1 - s0))) 93 10 (max (w 93 10) ((up1 (w 99) s2.toNat (w32 (s1 - s0))) x1.toNat)))) (h2 : ¬ (0 ≤ (up1 (w 99) s2.toNat (w32 (s1 - s0))) x1.toNat) → Wp (Cw d) cd_Ways_measureRooms (0, 0, n1) Q 74 [mR 93, mI x1, none] [mI ((up1 (w 93) 10 (max (w 93 10) ((up1 (w 99) s2.toNat (w32 (s1 - s0))) x1.toNat))) 9), mR 93] (ub (ub w 99 s2.toNat (w32 (s1 - s0))) 93 10 (max (w 93 10) ((up1 (w 99) s2.toNat (w32 (s1 - s0))) x1.toNat)))) : Wp (Cw d) cd_Ways_measureRooms (0, 0, n1) Q 55 [mR 93, mI x1, none] [mI s0, mI s1, mI s2, mR 99] w :=
  Wp.s (Wp.s ⟨g1, Wp.s (Wp.s (Wp.s (Wp.s (Wp.s (Wp.s (Wp.s ⟨g2, Wp.s (Wp.s (Wp.s (Wp.s (Wp.s (Wp.s (Wp.s (Wp.s (Wp.s ⟨g3, Wp.s ⟨fun q => h1 q, fun q => h2 q⟩⟩))))))))⟩))))))⟩)
theorem Ways_measureRooms_93_b74 {d : Nat} {n1 : Int} {Q : MV → Wd → Prop} {x1 s0 : Int} {w : Wd} (h : Wp (Cw d) cd_Ways_measureRooms (0, 0, n1) Q 83 [mR 93, mI x1, none] [mI 0, mI s0, mR 93] w) : Wp (Cw d) cd_Ways_measureRooms (0, 0, n1) Q 74 [mR 93, mI x1, none] [mI s0, mR 93] w :=
  Wp.s (Wp.s h)
theorem Ways_measureRooms_93_b76 {d : Nat} {n1 : Int} {Q : MV → Wd → Prop} {x1 s0 : Int} {w : Wd} (h : Cw d 63 [mR 4, mI x1, mI 0] w (fun r w' => Wp (Cw d) cd_Ways_measureRooms (0, 0, n1) Q 82 [mR 93, mI x1, none] [r, mI 1, mI s0, mR 93] w')) : Wp (Cw d) cd_Ways_measureRooms (0, 0, n1) Q 76 [mR 93, mI x1, none] [mI s0, mR 93] w :=
  Wp.s (Wp.s (Wp.s (Wp.s (Wp.s (Wp.s h)))))
theorem Ways_measureRooms_93_b82 {d : Nat} {n1 : Int} {Q : MV → Wd → Prop} {x1 s0 s1 s2 : Int} {w : Wd} (h : Wp (Cw d) cd_Ways_measureRooms (0, 0, n1) Q 83 [mR 93, mI x1, none] [mI (ishl s1 s0), mI s2, mR 93] w) : Wp (Cw d) cd_Ways_measureRooms (0, 0, n1) Q 82 [mR 93, mI x1, none] [mI s0, mI s1, mI s2, mR 93] w :=
  Wp.s h
theorem Ways_measureRooms_93_b83 {d : Nat} {n1 : Int} {Q : MV → Wd → Prop} {x1 s0 s1 : Int} {w : Wd} (h : Wp (Cw d) cd_Ways_measureRooms (0, 0, n1) Q 85 [mR 93, mI x1, none] [] (ub w 93 9 (ior s1 s0))) : Wp (Cw d) cd_Ways_measureRooms (0, 0, n1) Q 83 [mR 93, mI x1, none] [mI s0, mI s1, mR 93] w :=
  Wp.s (Wp.s h)
theorem Ways_measureRooms_93_b85 {d : Nat} {n1 : Int} {Q : MV → Wd → Prop} {x1 : Int} {w : Wd} (h : Wp (Cw d) cd_Ways_measureRooms (0, 0, n1) Q 8 [mR 93, mI (w32 (x1 + 1)), none] [] w) : Wp (Cw d) cd_Ways_measureRooms (0, 0, n1) Q 85 [mR 93, mI x1, none] [] w :=
  Wp.s (Wp.s h)
theorem Ways_measureRooms_93_b87 {d : Nat} {n1 : Int} {Q : MV → Wd → Prop} {w : Wd} (h : Q none w) : Wp (Cw d) cd_Ways_measureRooms (0, 0, n1) Q 87 [none, none, none] [] w :=
  Wp.s h
theorem Ways_onward_93_b0 {d : Nat} {n1 : Int} {Q : MV → Wd → Prop} {x1 : Int} {w : Wd} (h1 : w32 ((w 94 1) - 1) ≤ x1 → Wp (Cw d) cd_Ways_onward (0, 0, n1) Q 10 [mR 93, mI x1, none, none, none] [] w) (h2 : ¬ (w32 ((w 94 1) - 1) ≤ x1) → Wp (Cw d) cd_Ways_onward (0, 0, n1) Q 7 [mR 93, mI x1, none, none, none] [] w) : Wp (Cw d) cd_Ways_onward (0, 0, n1) Q 0 [mR 93, mI x1, none, none, none] [] w :=
  Wp.s (Wp.s (Wp.s (Wp.s (Wp.s (Wp.s (Wp.s ⟨fun q => h1 q, fun q => h2 q⟩))))))
theorem Ways_onward_93_b7 {d : Nat} {n1 : Int} {Q : MV → Wd → Prop} {x1 : Int} {w : Wd} (h1 : x1 < 5 → Wp (Cw d) cd_Ways_onward (0, 0, n1) Q 14 [mR 93, mI x1, none, none, none] [] w) (h2 : ¬ (x1 < 5) → Wp (Cw d) cd_Ways_onward (0, 0, n1) Q 10 [mR 93, mI x1, none, none, none] [] w) : Wp (Cw d) cd_Ways_onward (0, 0, n1) Q 7 [mR 93, mI x1, none, none, none] [] w :=
  Wp.s (Wp.s (Wp.s ⟨fun q => h1 q, fun q => h2 q⟩))
theorem Ways_onward_93_b10 {d : Nat} {n1 : Int} {Q : MV → Wd → Prop} {x1 : Int} {w : Wd} (h : Cw d 65 [mR 93, mI x1] w (fun _ w' => Wp (Cw d) cd_Ways_onward (0, 0, n1) Q 13 [none, none, none, none, none] [] w')) : Wp (Cw d) cd_Ways_onward (0, 0, n1) Q 10 [mR 93, mI x1, none, none, none] [] w :=
  Wp.s (Wp.s (Wp.s (Cw_mono _ _ _ _ _ _ (fun r w' q => Wp.fgd (leA.f (leA.f (leA.f (leA.f (leA.f leA.e))))) q) h)))
theorem Ways_onward_93_b13 {d : Nat} {n1 : Int} {Q : MV → Wd → Prop} {w : Wd} (h : Q none w) : Wp (Cw d) cd_Ways_onward (0, 0, n1) Q 13 [none, none, none, none, none] [] w :=
  Wp.s h
theorem Ways_onward_93_b14 {d : Nat} {n1 : Int} {Q : MV → Wd → Prop} {x1 : Int} {w : Wd} (g1 : (0 : Int) ≤ x1 ∧ x1 < 6) (h : Cw d 66 [mI (w 94 7), mI (w 102 x1.toNat)] w (fun r w' => Wp (Cw d) cd_Ways_onward (0, 0, n1) Q 22 [mR 93, mI x1, none, none, none] [r] w')) : Wp (Cw d) cd_Ways_onward (0, 0, n1) Q 14 [mR 93, mI x1, none, none, none] [] w :=
  Wp.s (Wp.s (Wp.s (Wp.s (Wp.s (Wp.s (Wp.s ⟨g1, Wp.s h⟩))))))
theorem Ways_onward_93_b22 {d : Nat} {n1 : Int} {Q : MV → Wd → Prop} {x1 s0 : Int} {w : Wd} (h1 : ¬ s0 = 0 → Wp (Cw d) cd_Ways_onward (0, 0, n1) Q 24 [mR 93, mI x1, none, none, none] [] w) (h2 : ¬ (¬ s0 = 0) → Wp (Cw d) cd_Ways_onward (0, 0, n1) Q 23 [none, none, none, none, none] [] w) : Wp (Cw d) cd_Ways_onward (0, 0, n1) Q 22 [mR 93, mI x1, none, none, none] [mI s0] w :=
  Wp.s ⟨fun q => h1 q, fun q => Wp.fgd (leA.f (leA.f (leA.f (leA.f (leA.f leA.e))))) (h2 q)⟩
theorem Ways_onward_93_b23 {d : Nat} {n1 : Int} {Q : MV → Wd → Prop} {w : Wd} (h : Q none w) : Wp (Cw d) cd_Ways_onward (0, 0, n1) Q 23 [none, none, none, none, none] [] w :=
  Wp.s h
theorem Ways_onward_93_b24 {d : Nat} {n1 : Int} {Q : MV → Wd → Prop} {x1 : Int} {w : Wd} (h1 : ¬ w32 (x1 + 1) = w32 ((w 94 1) - 1) → Wp (Cw d) cd_Ways_onward (0, 0, n1) Q 39 [mR 93, mI x1, none, none, none] [mI (w 94 6)] w) (h2 : ¬ (¬ w32 (x1 + 1) = w32 ((w 94 1) - 1)) → Wp (Cw d) cd_Ways_onward (0, 0, n1) Q 36 [mR 93, mI x1, none, none, none] [mI (w 94 6)] w) : Wp (Cw d) cd_Ways_onward (0, 0, n1) Q 24 [mR 93, mI x1, none, none, none] [] w :=
  Wp.s (Wp.s (Wp.s (Wp.s (Wp.s (Wp.s (Wp.s (Wp.s (Wp.s (Wp.s (Wp.s (Wp.s ⟨fun q => h1 q, fun q => h2 q⟩)))))))))))
theorem Ways_onward_93_b36 {d : Nat} {n1 : Int} {Q : MV → Wd → Prop} {x1 s0 : Int} {w : Wd} (h : Wp (Cw d) cd_Ways_onward (0, 0, n1) Q 40 [mR 93, mI x1, none, none, none] [mI (w 93 9), mI s0] w) : Wp (Cw d) cd_Ways_onward (0, 0, n1) Q 36 [mR 93, mI x1, none, none, none] [mI s0] w :=
  Wp.s (Wp.s (Wp.s h))
theorem Ways_onward_93_b39 {d : Nat} {n1 : Int} {Q : MV → Wd → Prop} {x1 s0 : Int} {w : Wd} (h : Wp (Cw d) cd_Ways_onward (0, 0, n1) Q 40 [mR 93, mI x1, none, none, none] [mI ((-1)), mI s0] w) : Wp (Cw d) cd_Ways_onward (0, 0, n1) Q 39 [mR 93, mI x1, none, none, none] [mI s0] w :=
  Wp.s h
theorem Ways_onward_93_b40 {d : Nat} {n1 : Int} {Q : MV → Wd → Prop} {x1 s0 s1 : Int} {w : Wd} (h : Wp (Cw d) cd_Ways_onward (0, 0, n1) Q 44 [mR 93, mI x1, mI (iand s1 s0), mI 0, none] [] w) : Wp (Cw d) cd_Ways_onward (0, 0, n1) Q 40 [mR 93, mI x1, none, none, none] [mI s0, mI s1] w :=
  Wp.s (Wp.s (Wp.s (Wp.s h)))
theorem Ways_onward_93_b44 {d : Nat} {n1 : Int} {Q : MV → Wd → Prop} {x1 x2 x3 : Int} {w : Wd} (h1 : w 4 0 ≤ x3 → Wp (Cw d) cd_Ways_onward (0, 0, n1) Q 103 [none, none, none, none, none] [] w) (h2 : ¬ (w 4 0 ≤ x3) → Wp (Cw d) cd_Ways_onward (0, 0, n1) Q 49 [mR 93, mI x1, mI x2, mI x3, none] [] w) : Wp (Cw d) cd_Ways_onward (0, 0, n1) Q 44 [mR 93, mI x1, mI x2, mI x3, none] [] w :=
  Wp.s (Wp.s (Wp.s (Wp.s (Wp.s ⟨fun q => Wp.fgd (leA.f (leA.f (leA.f (leA.f (leA.f leA.e))))) (h1 q), fun q => h2 q⟩))))
theorem Ways_onward_93_b49 {d : Nat} {n1 : Int} {Q : MV → Wd → Prop} {x1 x2 x3 : Int} {w : Wd} (g1 : (0 : Int) ≤ x1 ∧ x1 < 6) (h : Cw d 66 [mI x2, mI x3] w (fun r w' => Wp (Cw d) cd_Ways_onward (0, 0, n1) Q 61 [mR 93, mI x1, mI x2, mI x3, mI (w32 ((w32 ((w 102 x1.toNat) * 8)) + x3))] [r] w')) : Wp (Cw d) cd_Ways_onward (0, 0, n1) Q 49 [mR 93, mI x1, mI x2, mI x3, none] [] w :=
  Wp.s (Wp.s (Wp.s (Wp.s ⟨g1, Wp.s (Wp.s (Wp.s (Wp.s (Wp.s (Wp.s (Wp.s (Wp.s h)))))))⟩)))
theorem Ways_onward_93_b61 {d : Nat} {n1 : Int} {Q : MV → Wd → Prop} {x1 x2 x3 x4 s0 : Int} {w : Wd} (h1 : s0 = 0 → Wp (Cw d) cd_Ways_onward (0, 0, n1) Q 101 [mR 93, mI x1, mI x2, mI x3, none] [] w) (h2 : ¬ (s0 = 0) → Wp (Cw d) cd_Ways_onward (0, 0, n1) Q 62 [mR 93, mI x1, mI x2, mI x3, mI x4] [] w) : Wp (Cw d) cd_Ways_onward (0, 0, n1) Q 61 [mR 93, mI x1, mI x2, mI x3, mI x4] [mI s0] w :=
  Wp.s ⟨fun q => Wp.fgd (leA.k (leA.k (leA.k (leA.k (leA.f leA.e))))) (h1 q), fun q => h2 q⟩
theorem Ways_onward_93_b62 {d : Nat} {n1 : Int} {Q : MV → Wd → Prop} {x1 x2 x3 x4 : Int} {w : Wd} (g1 : (0 : Int) ≤ x4 ∧ x4 < 64) (h1 : w 96 x4.toNat = (-1) → Wp (Cw d) cd_Ways_onward (0, 0, n1) Q 101 [mR 93, mI x1, mI x2, mI x3, none] [] w) (h2 : ¬ (w 96 x4.toNat = (-1)) → Wp (Cw d) cd_Ways_onward (0, 0, n1) Q 69 [mR 93, mI x1, mI x2, mI x3, mI x4] [] w) : Wp (Cw d) cd_Ways_onward (0, 0, n1) Q 62 [mR 93, mI x1, mI x2, mI x3, mI x4] [] w :=
  Wp.s (Wp.s (Wp.s (Wp.s (Wp.s ⟨g1, Wp.s (Wp.s ⟨fun q => Wp.fgd (leA.k (leA.k (leA.k (leA.k (leA.f leA.e))))) (h1 q), fun q => h2 q⟩)⟩))))
theorem Ways_onward_93_b69 {d : Nat} {n1 : Int} {Q : MV → Wd → Prop} {x1 x2 x3 x4 : Int} {w : Wd} (g1 : (0 : Int) ≤ x1 ∧ x1 < 6) (g2 : (0 : Int) ≤ x4 ∧ x4 < 64) (h1 : w 93 10 < w32 ((w 104 x1.toNat) + (w 97 x4.toNat)) → Wp (Cw d) cd_Ways_onward (0, 0, n1) Q 101 [mR 93, mI x1, mI x2, mI x3, none] [] w) (h2 : ¬ (w 93 10 < w32 ((w 104 x1.toNat) + (w 97 x4.toNat))) → Wp (Cw d) cd_Ways_onward (0, 0, n1) Q 82 [mR 93, mI x1, mI x2, mI x3, mI x4] [] w) : Wp (Cw d) cd_Ways_onward (0, 0, n1) Q 69 [mR 93, mI x1, mI x2, mI x3, mI x4] [] w :=
  Wp.s (Wp.s (Wp.s (Wp.s ⟨g1, Wp.s (Wp.s (Wp.s (Wp.s (Wp.s ⟨g2, Wp.s (Wp.s (Wp.s (Wp.s ⟨fun q => Wp.fgd (leA.k (leA.k (leA.k (leA.k (leA.f leA.e))))) (h1 q), fun q => h2 q⟩)))⟩))))⟩)))
theorem Ways_onward_93_b82 {d : Nat} {n1 : Int} {Q : MV → Wd → Prop} {x1 x2 x3 x4 : Int} {w : Wd} (g1 : (0 : Int) ≤ x1 ∧ x1 < 6) (h : Cw d 67 [mR 4, mI (w 94 2), mI (w 93 8), mI (w 103 x1.toNat), mI x3] w (fun r w' => Wp (Cw d) cd_Ways_onward (0, 0, n1) Q 95 [mR 93, mI x1, mI x2, mI x3, mI x4] [r] w')) : Wp (Cw d) cd_Ways_onward (0, 0, n1) Q 82 [mR 93, mI x1, mI x2, mI x3, mI x4] [] w :=
  Wp.s (Wp.s (Wp.s (Wp.s (Wp.s (Wp.s (Wp.s (Wp.s (Wp.s (Wp.s (Wp.s ⟨g1, Wp.s (Wp.s h)⟩))))))))))
theorem Ways_onward_93_b95 {d : Nat} {n1 : Int} {Q : MV → Wd → Prop} {x1 x2 x3 x4 s0 : Int} {w : Wd} (h1 : s0 = 0 → Wp (Cw d) cd_Ways_onward (0, 0, n1) Q 101 [mR 93, mI x1, mI x2, mI x3, none] [] w) (h2 : ¬ (s0 = 0) → Wp (Cw d) cd_Ways_onward (0, 0, n1) Q 96 [mR 93, mI x1, mI x2, mI x3, mI x4] [] w) : Wp (Cw d) cd_Ways_onward (0, 0, n1) Q 95 [mR 93, mI x1, mI x2, mI x3, mI x4] [mI s0] w :=
  Wp.s ⟨fun q => Wp.fgd (leA.k (leA.k (leA.k (leA.k (leA.f leA.e))))) (h1 q), fun q => h2 q⟩
theorem Ways_onward_93_b96 {d : Nat} {n1 : Int} {Q : MV → Wd → Prop} {x1 x2 x3 x4 : Int} {w : Wd} (h : Cw d 68 [mR 93, mI x1, mI x3, mI x4] w (fun _ w' => Wp (Cw d) cd_Ways_onward (0, 0, n1) Q 101 [mR 93, mI x1, mI x2, mI x3, none] [] w')) : Wp (Cw d) cd_Ways_onward (0, 0, n1) Q 96 [mR 93, mI x1, mI x2, mI x3, mI x4] [] w :=
  Wp.s (Wp.s (Wp.s (Wp.s (Wp.s (Cw_mono _ _ _ _ _ _ (fun r w' q => Wp.fgd (leA.k (leA.k (leA.k (leA.k (leA.f leA.e))))) q) h)))))
theorem Ways_onward_93_b101 {d : Nat} {n1 : Int} {Q : MV → Wd → Prop} {x1 x2 x3 : Int} {w : Wd} (h : Wp (Cw d) cd_Ways_onward (0, 0, n1) Q 44 [mR 93, mI x1, mI x2, mI (w32 (x3 + 1)), none] [] w) : Wp (Cw d) cd_Ways_onward (0, 0, n1) Q 101 [mR 93, mI x1, mI x2, mI x3, none] [] w :=
  Wp.s (Wp.s h)
theorem Ways_onward_93_b103 {d : Nat} {n1 : Int} {Q : MV → Wd → Prop} {w : Wd} (h : Q none w) : Wp (Cw d) cd_Ways_onward (0, 0, n1) Q 103 [none, none, none, none, none] [] w :=
  Wp.s h
theorem Meeting_meetBy_92_b0 {d : Nat} {n1 : Int} {Q : MV → Wd → Prop} {x1 x2 : Int} {w : Wd} (h : Cw d 76 [mR 92, mI x1] w (fun r w' => Wp (Cw d) cd_Meeting_meetBy (0, 0, n1) Q 3 [mR 92, none, mI x2, none, none, none, none, none] [r] w')) : Wp (Cw d) cd_Meeting_meetBy (0, 0, n1) Q 0 [mR 92, mI x1, mI x2, none, none, none, none, none] [] w :=
  Wp.s (Wp.s (Wp.s (Cw_mono _ _ _ _ _ _ (fun r w' q => Wp.fgd (leA.k (leA.f (leA.k (leA.f (leA.f (leA.f (leA.f (leA.f leA.e)))))))) q) h)))
theorem Meeting_meetBy_92_b3 {d : Nat} {n1 : Int} {Q : MV → Wd → Prop} {x2 s0 : Int} {w : Wd} (h1 : ¬ s0 = 0 → Wp (Cw d) cd_Meeting_meetBy (0, 0, n1) Q 7 [mR 92, none, mI x2, mI s0, none, none, none, none] [] w) (h2 : ¬ (¬ s0 = 0) → Wp (Cw d) cd_Meeting_meetBy (0, 0, n1) Q 6 [none, none, none, none, none, none, none, none] [] w) : Wp (Cw d) cd_Meeting_meetBy (0, 0, n1) Q 3 [mR 92, none, mI x2, none, none, none, none, none] [mI s0] w :=
  Wp.s (Wp.s (Wp.s ⟨fun q => h1 q, fun q => Wp.fgd (leA.f (leA.f (leA.f (leA.f (leA.f (leA.f (leA.f (leA.f leA.e)))))))) (h2 q)⟩))
theorem Meeting_meetBy_92_b6 {d : Nat} {n1 : Int} {Q : MV → Wd → Prop} {w : Wd} (h : Q none w) : Wp (Cw d) cd_Meeting_meetBy (0, 0, n1) Q 6 [none, none, none, none, none, none, none, none] [] w :=
  Wp.s h
theorem Meeting_meetBy_92_b7 {d : Nat} {n1 : Int} {Q : MV → Wd → Prop} {x2 x3 : Int} {w : Wd} (h : Wp (Cw d) cd_Meeting_meetBy (0, 0, n1) Q 9 [mR 92, none, mI x2, mI x3, mI x2, none, none, none] [] w) : Wp (Cw d) cd_Meeting_meetBy (0, 0, n1) Q 7 [mR 92, none, mI x2, mI x3, none, none, none, none] [] w :=
  Wp.s (Wp.s h)
theorem Meeting_meetBy_92_b9 {d : Nat} {n1 : Int} {Q : MV → Wd → Prop} {x2 x3 x4 : Int} {w : Wd} (h1 : x4 ≤ 0 → Wp (Cw d) cd_Meeting_meetBy (0, 0, n1) Q 61 [none, none, none, none, none, none, none, none] [] w) (h2 : ¬ (x4 ≤ 0) → Wp (Cw d) cd_Meeting_meetBy (0, 0, n1) Q 11 [mR 92, none, mI x2, mI x3, mI x4, none, none, none] [] w) : Wp (Cw d) cd_Meeting_meetBy (0, 0, n1) Q 9 [mR 92, none, mI x2, mI x3, mI x4, none, none, none] [] w :=
  Wp.s (Wp.s ⟨fun q => Wp.fgd (leA.f (leA.f (leA.f (leA.f (leA.f (leA.f (leA.f (leA.f leA.e)))))))) (h1 q), fun q => h2 q⟩)
theorem Meeting_meetBy_92_b11 {d : Nat} {n1 : Int} {Q : MV → Wd → Prop} {x2 x3 x4 : Int} {w : Wd} (h : Wp (Cw d) cd_Meeting_meetBy (0, 0, n1) Q 13 [mR 92, none, mI x2, mI x3, mI x4, mI 0, none, none] [] w) : Wp (Cw d) cd_Meeting_meetBy (0, 0, n1) Q 11 [mR 92, none, mI x2, mI x3, mI x4, none, none, none] [] w :=
  Wp.s (Wp.s h)
theorem Meeting_meetBy_92_b13 {d : Nat} {n1 : Int} {Q : MV → Wd → Prop} {x2 x3 x4 x5 : Int} {w : Wd} (h1 : w 4 11 ≤ x5 → Wp (Cw d) cd_Meeting_meetBy (0, 0, n1) Q 54 [mR 92, none, mI x2, mI x3, mI x4, none, none, none] [] w) (h2 : ¬ (w 4 11 ≤ x5) → Wp (Cw d) cd_Meeting_meetBy (0, 0, n1) Q 18 [mR 92, none, mI x2, mI x3, mI x4, mI x5, none, none] [] w) : Wp (Cw d) cd_Meeting_meetBy (0, 0, n1) Q 13 [mR 92, none, mI x2, mI x3, mI x4, mI x5, none, none] [] w :=
  Wp.s (Wp.s (Wp.s (Wp.s (Wp.s ⟨fun q => Wp.fgd (leA.k (leA.f (leA.k (leA.k (leA.k (leA.f (leA.f (leA.f leA.e)))))))) (h1 q), fun q => h2 q⟩))))
theorem Meeting_meetBy_92_b18 {d : Nat} {n1 : Int} {Q : MV → Wd → Prop} {x2 x3 x4 x5 : Int} {w : Wd} (h : Cw d 66 [mI (iand x4 x3), mI x5] w (fun r w' => Wp (Cw d) cd_Meeting_meetBy (0, 0, n1) Q 23 [mR 92, none, mI x2, mI x3, mI x4, mI x5, none, none] [r] w')) : Wp (Cw d) cd_Meeting_meetBy (0, 0, n1) Q 18 [mR 92, none, mI x2, mI x3, mI x4, mI x5, none, none] [] w :=
  Wp.s (Wp.s (Wp.s (Wp.s (Wp.s h))))
theorem Meeting_meetBy_92_b23 {d : Nat} {n1 : Int} {Q : MV → Wd → Prop} {x2 x3 x4 x5 s0 : Int} {w : Wd} (h1 : s0 = 0 → Wp (Cw d) cd_Meeting_meetBy (0, 0, n1) Q 52 [mR 92, none, mI x2, mI x3, mI x4, mI x5, none, none] [] w) (h2 : ¬ (s0 = 0) → Wp (Cw d) cd_Meeting_meetBy (0, 0, n1) Q 24 [mR 92, none, mI x2, mI x3, mI x4, mI x5, none, none] [] w) : Wp (Cw d) cd_Meeting_meetBy (0, 0, n1) Q 23 [mR 92, none, mI x2, mI x3, mI x4, mI x5, none, none] [mI s0] w :=
  Wp.s ⟨fun q => h1 q, fun q => h2 q⟩
theorem Meeting_meetBy_92_b24 {d : Nat} {n1 : Int} {Q : MV → Wd → Prop} {x2 x3 x4 x5 : Int} {w : Wd} (g1 : (0 : Int) ≤ ixor x4 (ishl 1 x5) ∧ ixor x4 (ishl 1 x5) < 256) (h1 : cmp3 (w 110 (ixor x4 (ishl 1 x5)).toNat) ((-1)) = 0 → Wp (Cw d) cd_Meeting_meetBy (0, 0, n1) Q 52 [mR 92, none, mI x2, mI x3, mI x4, mI x5, none, none] [] w) (h2 : ¬ (cmp3 (w 110 (ixor x4 (ishl 1 x5)).toNat) ((-1)) = 0) → Wp (Cw d) cd_Meeting_meetBy (0, 0, n1) Q 37 [mR 92, none, mI x2, mI x3, mI x4, mI x5, mL (w 110 (ixor x4 (ishl 1 x5)).toNat), none] [] w) : Wp (Cw d) cd_Meeting_meetBy (0, 0, n1) Q 24 [mR 92, none, mI x2, mI x3, mI x4, mI x5, none, none] [] w :=
  Wp.s (Wp.s (Wp.s (Wp.s (Wp.s (Wp.s (Wp.s (Wp.s ⟨g1, Wp.s (Wp.s (Wp.s (Wp.s (Wp.s ⟨fun q => Wp.fgd (leA.k (leA.f (leA.k (leA.k (leA.k (leA.k (leA.f (leA.f leA.e)))))))) (h1 q), fun q => h2 q⟩))))⟩)))))))
theorem Meeting_meetBy_92_b37 {d : Nat} {n1 : Int} {Q : MV → Wd → Prop} {x2 x3 x4 x5 x6 : Int} {w : Wd} (g1 : (0 : Int) ≤ x4 ∧ x4 < 256) (g2 : (0 : Int) ≤ x5 ∧ x5 < 8) (g3 : (0 : Int) ≤ x4 ∧ x4 < 256) (h : Wp (Cw d) cd_Meeting_meetBy (0, 0, n1) Q 52 [mR 92, none, mI x2, mI x3, mI x4, mI x5, none, none] [] (ub w 110 x4.toNat (max (w 110 x4.toNat) (w64 (x6 + (w 111 x5.toNat)))))) : Wp (Cw d) cd_Meeting_meetBy (0, 0, n1) Q 37 [mR 92, none, mI x2, mI x3, mI x4, mI x5, mL x6, none] [] w :=
  Wp.s (Wp.s (Wp.s (Wp.s (Wp.s (Wp.s (Wp.s ⟨g1, Wp.s (Wp.s (Wp.s (Wp.s (Wp.s ⟨g2, Wp.s (Wp.s (Wp.s ⟨g3, Wp.fgd (leA.k (leA.f (leA.k (leA.k (leA.k (leA.k (leA.f (leA.f leA.e)))))))) h⟩))⟩))))⟩))))))
theorem Meeting_meetBy_92_b52 {d : Nat} {n1 : Int} {Q : MV → Wd → Prop} {x2 x3 x4 x5 : Int} {w : Wd} (h : Wp (Cw d) cd_Meeting_meetBy (0, 0, n1) Q 13 [mR 92, none, mI x2, mI x3, mI x4, mI (w32 (x5 + 1)), none, none] [] w) : Wp (Cw d) cd_Meeting_meetBy (0, 0, n1) Q 52 [mR 92, none, mI x2, mI x3, mI x4, mI x5, none, none] [] w :=
  Wp.s (Wp.s h)
theorem Meeting_meetBy_92_b54 {d : Nat} {n1 : Int} {Q : MV → Wd → Prop} {x2 x3 x4 : Int} {w : Wd} (h : Wp (Cw d) cd_Meeting_meetBy (0, 0, n1) Q 9 [mR 92, none, mI x2, mI x3, mI (iand (w32 (x4 - 1)) x2), none, none, none] [] w) : Wp (Cw d) cd_Meeting_meetBy (0, 0, n1) Q 54 [mR 92, none, mI x2, mI x3, mI x4, none, none, none] [] w :=
  Wp.s (Wp.s (Wp.s (Wp.s (Wp.s (Wp.s (Wp.s h))))))
theorem Meeting_meetBy_92_b61 {d : Nat} {n1 : Int} {Q : MV → Wd → Prop} {w : Wd} (h : Q none w) : Wp (Cw d) cd_Meeting_meetBy (0, 0, n1) Q 61 [none, none, none, none, none, none, none, none] [] w :=
  Wp.s h
theorem Meeting_appraise_112_b0 {d : Nat} {n1 : Int} {Q : MV → Wd → Prop} {x1 : Int} {w : Wd} (h : Wp (Cw d) cd_Meeting_appraise (1, 0, n1) Q 4 [mR 112, mI x1, mI 0, mI 0, none, none, none] [] w) : Wp (Cw d) cd_Meeting_appraise (1, 0, n1) Q 0 [mR 112, mI x1, none, none, none, none, none] [] w :=
  Wp.s (Wp.s (Wp.s (Wp.s h)))
theorem Meeting_appraise_112_b4 {d : Nat} {n1 : Int} {Q : MV → Wd → Prop} {x1 x2 x3 : Int} {w : Wd} (h1 : w 4 11 ≤ x3 → Wp (Cw d) cd_Meeting_appraise (1, 0, n1) Q 59 [none, none, mI x2, none, none, none, none] [] w) (h2 : ¬ (w 4 11 ≤ x3) → Wp (Cw d) cd_Meeting_appraise (1, 0, n1) Q 9 [mR 112, mI x1, mI x2, mI x3, none, none, none] [] w) : Wp (Cw d) cd_Meeting_appraise (1, 0, n1) Q 4 [mR 112, mI x1, mI x2, mI x3, none, none, none] [] w :=
  Wp.s (Wp.s (Wp.s (Wp.s (Wp.s ⟨fun q => Wp.fgd (leA.f (leA.f (leA.k (leA.f (leA.f (leA.f (leA.f leA.e))))))) (h1 q), fun q => h2 q⟩))))
theorem Meeting_appraise_112_b9 {d : Nat} {n1 : Int} {Q : MV → Wd → Prop} {x1 x2 x3 : Int} {w : Wd} (h : Cw d 77 [mR 112, mI x1, mI x3] w (fun r w' => Wp (Cw d) cd_Meeting_appraise (1, 0, n1) Q 13 [mR 112, mI x1, mI x2, mI x3, none, none, none] [r] w')) : Wp (Cw d) cd_Meeting_appraise (1, 0, n1) Q 9 [mR 112, mI x1, mI x2, mI x3, none, none, none] [] w :=
  Wp.s (Wp.s (Wp.s (Wp.s h)))
theorem Meeting_appraise_112_b13 {d : Nat} {n1 : Int} {Q : MV → Wd → Prop} {x1 x2 x3 s0 : Int} {w : Wd} (h1 : ¬ cmp3 s0 9223372036854775807 = 0 → Wp (Cw d) cd_Meeting_appraise (1, 0, n1) Q 20 [mR 112, mI x1, mI x2, mI x3, mL s0, none, none] [] w) (h2 : ¬ (¬ cmp3 s0 9223372036854775807 = 0) → Wp (Cw d) cd_Meeting_appraise (1, 0, n1) Q 18 [mR 112, mI x1, mI x2, mI x3, none, none, none] [] w) : Wp (Cw d) cd_Meeting_appraise (1, 0, n1) Q 13 [mR 112, mI x1, mI x2, mI x3, none, none, none] [mL s0] w :=
  Wp.s (Wp.s (Wp.s (Wp.s (Wp.s ⟨fun q => h1 q, fun q => Wp.fgd (leA.k (leA.k (leA.k (leA.k (leA.f (leA.f (leA.f leA.e))))))) (h2 q)⟩))))
theorem Meeting_appraise_112_b18 {d : Nat} {n1 : Int} {Q : MV → Wd → Prop} {x1 x2 x3 : Int} {w : Wd} (h : Wp (Cw d) cd_Meeting_appraise (1, 0, n1) Q 28 [mR 112, mI x1, mI x2, mI x3, none, none, none] [mI ((-1))] w) : Wp (Cw d) cd_Meeting_appraise (1, 0, n1) Q 18 [mR 112, mI x1, mI x2, mI x3, none, none, none] [] w :=
  Wp.s (Wp.s h)
theorem Meeting_appraise_112_b20 {d : Nat} {n1 : Int} {Q : MV → Wd → Prop} {x1 x2 x3 x4 : Int} {w : Wd} (h : Cw d 63 [mR 4, mI x3, mI 2] w (fun r w' => Wp (Cw d) cd_Meeting_appraise (1, 0, n1) Q 25 [mR 112, mI x1, mI x2, mI x3, mL x4, none, none] [r] w')) : Wp (Cw d) cd_Meeting_appraise (1, 0, n1) Q 20 [mR 112, mI x1, mI x2, mI x3, mL x4, none, none] [] w :=
  Wp.s (Wp.s (Wp.s (Wp.s (Wp.s h))))
theorem Meeting_appraise_112_b25 {d : Nat} {n1 : Int} {Q : MV → Wd → Prop} {x1 x2 x3 x4 s0 : Int} {w : Wd} (h : Cw d 78 [mL x4] w (fun r w' => Wp (Cw d) cd_Meeting_appraise (1, 0, n1) Q 27 [mR 112, mI x1, mI x2, mI x3, none, none, none] [r, mI s0] w')) : Wp (Cw d) cd_Meeting_appraise (1, 0, n1) Q 25 [mR 112, mI x1, mI x2, mI x3, mL x4, none, none] [mI s0] w :=
  Wp.s (Wp.s (Cw_mono _ _ _ _ _ _ (fun r w' q => Wp.fgd (leA.k (leA.k (leA.k (leA.k (leA.f (leA.f (leA.f leA.e))))))) q) h))
theorem Meeting_appraise_112_b27 {d : Nat} {n1 : Int} {Q : MV → Wd → Prop} {x1 x2 x3 s0 s1 : Int} {w : Wd} (h : Wp (Cw d) cd_Meeting_appraise (1, 0, n1) Q 28 [mR 112, mI x1, mI x2, mI x3, none, none, none] [mI (w32 (s1 - s0))] w) : Wp (Cw d) cd_Meeting_appraise (1, 0, n1) Q 27 [mR 112, mI x1, mI x2, mI x3, none, none, none] [mI s0, mI s1] w :=
  Wp.s h
theorem Meeting_appraise_112_b28 {d : Nat} {n1 : Int} {Q : MV → Wd → Prop} {x1 x2 x3 s0 : Int} {w : Wd} (h1 : s0 < 0 → Wp (Cw d) cd_Meeting_appraise (1, 0, n1) Q 57 [mR 112, mI x1, mI x2, mI x3, none, none, none] [] w) (h2 : ¬ (s0 < 0) → Wp (Cw d) cd_Meeting_appraise (1, 0, n1) Q 31 [mR 112, mI x1, mI x2, mI x3, none, none, mI s0] [] w) : Wp (Cw d) cd_Meeting_appraise (1, 0, n1) Q 28 [mR 112, mI x1, mI x2, mI x3, none, none, none] [mI s0] w :=
  Wp.s (Wp.s (Wp.s ⟨fun q => Wp.fgd (leA.k (leA.k (leA.k (leA.k (leA.f (leA.f (leA.f leA.e))))))) (h1 q), fun q => h2 q⟩))
theorem Meeting_appraise_112_b31 {d : Nat} {n1 : Int} {Q : MV → Wd → Prop} {x1 x2 x3 x6 : Int} {w : Wd} (h : Cw d 79 [mI x3] w (fun r w' => Wp (Cw d) cd_Meeting_appraise (1, 0, n1) Q 54 [mR 112, mI x1, mI (ior x2 (ishl 1 x3)), mI x3, none, none, none] [r, mL (w32 (16 - x1)), mL (lshl (w64 ((w64 (x6 * 16)) + 1)) 40), mI x3, mR 131] w')) : Wp (Cw d) cd_Meeting_appraise (1, 0, n1) Q 31 [mR 112, mI x1, mI x2, mI x3, none, none, mI x6] [] w :=
  Wp.s (Wp.s (Wp.s (Wp.s (Wp.s (Wp.s (Wp.s (Wp.s (Wp.s (Wp.s (Wp.s (Wp.s (Wp.s (Wp.s (Wp.s (Wp.s (Wp.s (Wp.s (Wp.s (Wp.s (Wp.s (Wp.s (Wp.s (Cw_mono _ _ _ _ _ _ (fun r w' q => Wp.fgd (leA.k (leA.k (leA.k (leA.k (leA.f (leA.f (leA.f leA.e))))))) q) h)))))))))))))))))))))))
theorem Meeting_appraise_112_b54 {d : Nat} {n1 : Int} {Q : MV → Wd → Prop} {x1 x2 x3 s0 s1 s2 s3 : Int} {w : Wd} (g1 : (0 : Int) ≤ s3 ∧ s3 < 8) (h : Wp (Cw d) cd_Meeting_appraise (1, 0, n1) Q 57 [mR 112, mI x1, mI x2, mI x3, none, none, none] [] (ub w 131 s3.toNat (w64 (s2 + (lshl s1 s0))))) : Wp (Cw d) cd_Meeting_appraise (1, 0, n1) Q 54 [mR 112, mI x1, mI x2, mI x3, none, none, none] [mI s0, mL s1, mL s2, mI s3, mR 131] w :=
  Wp.s (Wp.s (Wp.s ⟨g1, h⟩))
theorem Meeting_appraise_112_b57 {d : Nat} {n1 : Int} {Q : MV → Wd → Prop} {x1 x2 x3 : Int} {w : Wd} (h : Wp (Cw d) cd_Meeting_appraise (1, 0, n1) Q 4 [mR 112, mI x1, mI x2, mI (w32 (x3 + 1)), none, none, none] [] w) : Wp (Cw d) cd_Meeting_appraise (1, 0, n1) Q 57 [mR 112, mI x1, mI x2, mI x3, none, none, none] [] w :=
  Wp.s (Wp.s h)
theorem Meeting_appraise_112_b59 {d : Nat} {n1 : Int} {Q : MV → Wd → Prop} {x2 : Int} {w : Wd} (h : Q (mI x2) w) : Wp (Cw d) cd_Meeting_appraise (1, 0, n1) Q 59 [none, none, mI x2, none, none, none, none] [] w :=
  Wp.s (Wp.s h)
theorem Ways_step_93_b0 {d : Nat} {n1 : Int} {Q : MV → Wd → Prop} {x1 x2 x3 : Int} {w : Wd} (h1 : w32 ((w 94 1) - 1) ≤ w32 (x1 + 1) → Wp (Cw d) cd_Ways_step (0, 0, n1) Q 11 [mR 93, mI x1, mI x2, mI x3, none] [] w) (h2 : ¬ (w32 ((w 94 1) - 1) ≤ w32 (x1 + 1)) → Wp (Cw d) cd_Ways_step (0, 0, n1) Q 9 [mR 93, mI x1, mI x2, mI x3, none] [] w) : Wp (Cw d) cd_Ways_step (0, 0, n1) Q 0 [mR 93, mI x1, mI x2, mI x3, none] [] w :=
  Wp.s (Wp.s (Wp.s (Wp.s (Wp.s (Wp.s (Wp.s (Wp.s (Wp.s ⟨fun q => h1 q, fun q => h2 q⟩))))))))
theorem Ways_step_93_b9 {d : Nat} {n1 : Int} {Q : MV → Wd → Prop} {x1 x2 x3 : Int} {w : Wd} (h : Wp (Cw d) cd_Ways_step (0, 0, n1) Q 12 [mR 93, mI x1, mI x2, mI x3, none] [mI 1] w) : Wp (Cw d) cd_Ways_step (0, 0, n1) Q 9 [mR 93, mI x1, mI x2, mI x3, none] [] w :=
  Wp.s (Wp.s h)
theorem Ways_step_93_b11 {d : Nat} {n1 : Int} {Q : MV → Wd → Prop} {x1 x2 x3 : Int} {w : Wd} (h : Wp (Cw d) cd_Ways_step (0, 0, n1) Q 12 [mR 93, mI x1, mI x2, mI x3, none] [mI 0] w) : Wp (Cw d) cd_Ways_step (0, 0, n1) Q 11 [mR 93, mI x1, mI x2, mI x3, none] [] w :=
  Wp.s h
theorem Ways_step_93_b12 {d : Nat} {n1 : Int} {Q : MV → Wd → Prop} {x1 x2 x3 s0 : Int} {w : Wd} (g1 : (0 : Int) ≤ w32 (x1 + 1) ∧ w32 (x1 + 1) < 6) (g2 : (0 : Int) ≤ x1 ∧ x1 < 6) (g3 : (0 : Int) ≤ w32 (x1 + 1) ∧ w32 (x1 + 1) < 6) (g4 : (0 : Int) ≤ x1 ∧ x1 < 6) (g5 : (0 : Int) ≤ x3 ∧ x3 < 64) (g6 : (0 : Int) ≤ w32 (x1 + 1) ∧ w32 (x1 + 1) < 6) (g7 : (0 : Int) ≤ x1 ∧ x1 < 6) (g8 : (0 : Int) ≤ x3 ∧ x3 < 64) (h1 : s0 = 0 → Wp (Cw d) cd_Ways_step (0, 0, n1) Q 77 [mR 93, mI x1, mI x2, none, mI s0] [mI (w32 ((w 105 x1.toNat) + (w 96 x3.toNat))), mI (w32 (x1 + 1)), mR 105] (ub (ub (ub w 102 (w32 (x1 + 1)).toNat x2) 103 (w32 (x1 + 1)).toNat (ior (w 103 x1.toNat) (ishl 1 x2))) 104 (w32 (x1 + 1)).toNat (w32 ((w 104 x1.toNat) + (w 97 x3.toNat))))) (h2 : ¬ (s0 = 0) → Wp (Cw d) cd_Ways_step (0, 0, n1) Q 67 [mR 93, mI x1, mI x2, none, mI s0] [mI (w32 ((w 105 x1.toNat) + (w 96 x3.toNat))), mI (w32 (x1 + 1)), mR 105] (ub (ub (ub w 102 (w32 (x1 + 1)).toNat x2) 103 (w32 (x1 + 1)).toNat (ior (w 103 x1.toNat) (ishl 1 x2))) 104 (w32 (x1 + 1)).toNat (w32 ((w 104 x1.toNat) + (w 97 x3.toNat))))) : Wp (Cw d) cd_Ways_step (0, 0, n1) Q 12 [mR 93, mI x1, mI x2, mI x3, none] [mI s0] w :=
  Wp.s (Wp.s (Wp.s (Wp.s (Wp.s (Wp.s (Wp.s (Wp.s ⟨g1, Wp.s (Wp.s (Wp.s (Wp.s (Wp.s (Wp.s (Wp.s (Wp.s (Wp.s ⟨g2, Wp.s (Wp.s (Wp.s (Wp.s (Wp.s ⟨g3, Wp.s (Wp.s (Wp.s (Wp.s (Wp.s (Wp.s (Wp.s (Wp.s (Wp.s ⟨g4, Wp.s (Wp.s (Wp.s (Wp.s (Wp.s ⟨g5, Wp.s (Wp.s ⟨g6, Wp.s (Wp.s (Wp.s (Wp.s (Wp.s (Wp.s (Wp.s (Wp.s (Wp.s ⟨g7, Wp.s (Wp.s (Wp.s (Wp.s (Wp.s ⟨g8, Wp.s (Wp.s (Wp.s ⟨fun q => Wp.fgd (leA.k (leA.k (leA.k (leA.f (leA.k leA.e))))) (h1 q), fun q => Wp.fgd (leA.k (leA.k (leA.k (leA.f (leA.k leA.e))))) (h2 q)⟩))⟩))))⟩))))))))⟩)⟩))))⟩))))))))⟩))))⟩))))))))⟩)))))))
theorem Ways_step_93_b67 {d : Nat} {n1 : Int} {Q : MV → Wd → Prop} {x1 x2 x4 s0 s1 : Int} {w : Wd} (h1 : x2 = w 93 2 → Wp (Cw d) cd_Ways_step (0, 0, n1) Q 77 [mR 93, mI x1, mI x2, none, mI x4] [mI s0, mI s1, mR 105] w) (h2 : ¬ (x2 = w 93 2) → Wp (Cw d) cd_Ways_step (0, 0, n1) Q 71 [mR 93, mI x1, mI x2, none, mI x4] [mI s0, mI s1, mR 105] w) : Wp (Cw d) cd_Ways_step (0, 0, n1) Q 67 [mR 93, mI x1, mI x2, none, mI x4] [mI s0, mI s1, mR 105] w :=
  Wp.s (Wp.s (Wp.s (Wp.s ⟨fun q => h1 q, fun q => h2 q⟩)))
theorem Ways_step_93_b71 {d : Nat} {n1 : Int} {Q : MV → Wd → Prop} {x1 x2 x4 s0 s1 : Int} {w : Wd} (g1 : (0 : Int) ≤ x2 ∧ x2 < 8) (h : Wp (Cw d) cd_Ways_step (0, 0, n1) Q 78 [mR 93, mI x1, mI x2, none, mI x4] [mI (w 95 x2.toNat), mI s0, mI s1, mR 105] w) : Wp (Cw d) cd_Ways_step (0, 0, n1) Q 71 [mR 93, mI x1, mI x2, none, mI x4] [mI s0, mI s1, mR 105] w :=
  Wp.s (Wp.s (Wp.s (Wp.s (Wp.s ⟨g1, Wp.s h⟩))))
theorem Ways_step_93_b77 {d : Nat} {n1 : Int} {Q : MV → Wd → Prop} {x1 x2 x4 s0 s1 : Int} {w : Wd} (h : Wp (Cw d) cd_Ways_step (0, 0, n1) Q 78 [mR 93, mI x1, mI x2, none, mI x4] [mI 0, mI s0, mI s1, mR 105] w) : Wp (Cw d) cd_Ways_step (0, 0, n1) Q 77 [mR 93, mI x1, mI x2, none, mI x4] [mI s0, mI s1, mR 105] w :=
  Wp.s h
theorem Ways_step_93_b78 {d : Nat} {n1 : Int} {Q : MV → Wd → Prop} {x1 x2 x4 s0 s1 s2 : Int} {w : Wd} (g1 : (0 : Int) ≤ s2 ∧ s2 < 6) (g2 : (0 : Int) ≤ x1 ∧ x1 < 6) (h1 : x4 = 0 → Wp (Cw d) cd_Ways_step (0, 0, n1) Q 97 [mR 93, mI x1, none, none, none] [mI (w 106 x1.toNat), mI (w32 (x1 + 1)), mR 106] (ub w 105 s2.toNat (w32 (s1 + s0)))) (h2 : ¬ (x4 = 0) → Wp (Cw d) cd_Ways_step (0, 0, n1) Q 91 [mR 93, mI x1, mI x2, none, none] [mI (w 106 x1.toNat), mI (w32 (x1 + 1)), mR 106] (ub w 105 s2.toNat (w32 (s1 + s0)))) : Wp (Cw d) cd_Ways_step (0, 0, n1) Q 78 [mR 93, mI x1, mI x2, none, mI x4] [mI s0, mI s1, mI s2, mR 105] w :=
  Wp.s (Wp.s ⟨g1, Wp.s (Wp.s (Wp.s (Wp.s (Wp.s (Wp.s (Wp.s (Wp.s (Wp.s ⟨g2, Wp.s (Wp.s ⟨fun q => Wp.fgd (leA.k (leA.k (leA.f (leA.f (leA.f leA.e))))) (h1 q), fun q => Wp.fgd (leA.k (leA.k (leA.k (leA.f (leA.f leA.e))))) (h2 q)⟩)⟩))))))))⟩)
theorem Ways_step_93_b91 {d : Nat} {n1 : Int} {Q : MV → Wd → Prop} {x1 x2 s0 s1 : Int} {w : Wd} (h1 : ¬ x2 = w 93 2 → Wp (Cw d) cd_Ways_step (0, 0, n1) Q 97 [mR 93, mI x1, none, none, none] [mI s0, mI s1, mR 106] w) (h2 : ¬ (¬ x2 = w 93 2) → Wp (Cw d) cd_Ways_step (0, 0, n1) Q 95 [mR 93, mI x1, none, none, none] [mI s0, mI s1, mR 106] w) : Wp (Cw d) cd_Ways_step (0, 0, n1) Q 91 [mR 93, mI x1, mI x2, none, none] [mI s0, mI s1, mR 106] w :=
  Wp.s (Wp.s (Wp.s (Wp.s ⟨fun q => Wp.fgd (leA.k (leA.k (leA.f (leA.f (leA.f leA.e))))) (h1 q), fun q => Wp.fgd (leA.k (leA.k (leA.f (leA.f (leA.f leA.e))))) (h2 q)⟩)))
theorem Ways_step_93_b95 {d : Nat} {n1 : Int} {Q : MV → Wd → Prop} {x1 s0 s1 : Int} {w : Wd} (h : Wp (Cw d) cd_Ways_step (0, 0, n1) Q 98 [mR 93, mI x1, none, none, none] [mI 1, mI s0, mI s1, mR 106] w) : Wp (Cw d) cd_Ways_step (0, 0, n1) Q 95 [mR 93, mI x1, none, none, none] [mI s0, mI s1, mR 106] w :=
  Wp.s (Wp.s h)
theorem Ways_step_93_b97 {d : Nat} {n1 : Int} {Q : MV → Wd → Prop} {x1 s0 s1 : Int} {w : Wd} (h : Wp (Cw d) cd_Ways_step (0, 0, n1) Q 98 [mR 93, mI x1, none, none, none] [mI 0, mI s0, mI s1, mR 106] w) : Wp (Cw d) cd_Ways_step (0, 0, n1) Q 97 [mR 93, mI x1, none, none, none] [mI s0, mI s1, mR 106] w :=
  Wp.s h
theorem Ways_step_93_b98 {d : Nat} {n1 : Int} {Q : MV → Wd → Prop} {x1 s0 s1 s2 : Int} {w : Wd} (g1 : (0 : Int) ≤ s2 ∧ s2 < 6) (h : Cw d 64 [mR 93, mI (w32 (x1 + 1))] (ub w 106 s2.toNat (w32 (s1 + s0))) (fun _ w' => Wp (Cw d) cd_Ways_step (0, 0, n1) Q 105 [none, none, none, none, none] [] w')) : Wp (Cw d) cd_Ways_step (0, 0, n1) Q 98 [mR 93, mI x1, none, none, none] [mI s0, mI s1, mI s2, mR 106] w :=
  Wp.s (Wp.s ⟨g1, Wp.s (Wp.s (Wp.s (Wp.s (Wp.s (Cw_mono _ _ _ _ _ _ (fun r w' q => Wp.fgd (leA.f (leA.f (leA.f (leA.f (leA.f leA.e))))) q) h)))))⟩)
theorem Ways_step_93_b105 {d : Nat} {n1 : Int} {Q : MV → Wd → Prop} {w : Wd} (h : Q none w) : Wp (Cw d) cd_Ways_step (0, 0, n1) Q 105 [none, none, none, none, none] [] w :=
  Wp.s h
theorem Ways_arrive_93_b0 {d : Nat} {n1 : Int} {Q : MV → Wd → Prop} {x1 : Int} {w : Wd} (h : Wp (Cw d) cd_Ways_arrive (0, 0, n1) Q 4 [mR 93, mI x1, mI 0, mI 0, none, none, none, none, none] [] w) : Wp (Cw d) cd_Ways_arrive (0, 0, n1) Q 0 [mR 93, mI x1, none, none, none, none, none, none, none] [] w :=
  Wp.s (Wp.s (Wp.s (Wp.s h)))
theorem Ways_arrive_93_b4 {d : Nat} {n1 : Int} {Q : MV → Wd → Prop} {x1 x2 x3 : Int} {w : Wd} (h1 : x1 < x3 → Wp (Cw d) cd_Ways_arrive (0, 0, n1) Q 18 [mR 93, mI x1, mI x2, none, none, none, none, none, none] [] w) (h2 : ¬ (x1 < x3) → Wp (Cw d) cd_Ways_arrive (0, 0, n1) Q 7 [mR 93, mI x1, mI x2, mI x3, none, none, none, none, none] [] w) : Wp (Cw d) cd_Ways_arrive (0, 0, n1) Q 4 [mR 93, mI x1, mI x2, mI x3, none, none, none, none, none] [] w :=
  Wp.s (Wp.s (Wp.s ⟨fun q => Wp.fgd (leA.k (leA.k (leA.k (leA.f (leA.f (leA.f (leA.f (leA.f (leA.f leA.e))))))))) (h1 q), fun q => h2 q⟩))
theorem Ways_arrive_93_b7 {d : Nat} {n1 : Int} {Q : MV → Wd → Prop} {x1 x2 x3 : Int} {w : Wd} (g1 : (0 : Int) ≤ x3 ∧ x3 < 6) (h : Wp (Cw d) cd_Ways_arrive (0, 0, n1) Q 4 [mR 93, mI x1, mI (ior (ishl x2 3) (w 102 x3.toNat)), mI (w32 (x3 + 1)), none, none, none, none, none] [] w) : Wp (Cw d) cd_Ways_arrive (0, 0, n1) Q 7 [mR 93, mI x1, mI x2, mI x3, none, none, none, none, none] [] w :=
  Wp.s (Wp.s (Wp.s (Wp.s (Wp.s (Wp.s (Wp.s ⟨g1, Wp.s (Wp.s (Wp.s (Wp.s h)))⟩))))))
theorem Ways_arrive_93_b18 {d : Nat} {n1 : Int} {Q : MV → Wd → Prop} {x1 x2 : Int} {w : Wd} (g1 : (0 : Int) ≤ x1 ∧ x1 < 6) (g2 : (0 : Int) ≤ x1 ∧ x1 < 6) (g3 : (0 : Int) ≤ x1 ∧ x1 < 6) (h : Wp (Cw d) cd_Ways_arrive (0, 0, n1) Q 46 [mR 93, mI x1, none, mL (w64 ((w64 ((lshl (w 105 x1.toNat) 24) + (lshl (w 104 x1.toNat) 18))) + x2)), none, mI (min (w 106 x1.toNat) 2), mI 0, none, none] [] w) : Wp (Cw d) cd_Ways_arrive (0, 0, n1) Q 18 [mR 93, mI x1, mI x2, none, none, none, none, none, none] [] w :=
  Wp.s (Wp.s (Wp.s (Wp.s ⟨g1, Wp.s (Wp.s (Wp.s (Wp.s (Wp.s (Wp.s (Wp.s ⟨g2, Wp.s (Wp.s (Wp.s (Wp.s (Wp.s (Wp.s (Wp.s (Wp.s (Wp.s (Wp.s (Wp.s (Wp.s ⟨g3, Wp.s (Wp.s (Wp.s (Wp.s (Wp.s (Wp.fgd (leA.k (leA.k (leA.f (leA.k (leA.f (leA.k (leA.k (leA.f (leA.f leA.e))))))))) h)))))⟩)))))))))))⟩))))))⟩)))
theorem Ways_arrive_93_b46 {d : Nat} {n1 : Int} {Q : MV → Wd → Prop} {x1 x3 x5 x6 : Int} {w : Wd} (h1 : w 4 11 ≤ x6 → Wp (Cw d) cd_Ways_arrive (0, 0, n1) Q 130 [none, none, none, none, none, none, none, none, none] [] w) (h2 : ¬ (w 4 11 ≤ x6) → Wp (Cw d) cd_Ways_arrive (0, 0, n1) Q 51 [mR 93, mI x1, none, mL x3, none, mI x5, mI x6, none, none] [] w) : Wp (Cw d) cd_Ways_arrive (0, 0, n1) Q 46 [mR 93, mI x1, none, mL x3, none, mI x5, mI x6, none, none] [] w :=
  Wp.s (Wp.s (Wp.s (Wp.s (Wp.s ⟨fun q => Wp.fgd (leA.f (leA.f (leA.f (leA.f (leA.f (leA.f (leA.f (leA.f (leA.f leA.e))))))))) (h1 q), fun q => h2 q⟩))))
theorem Ways_arrive_93_b51 {d : Nat} {n1 : Int} {Q : MV → Wd → Prop} {x1 x3 x5 x6 : Int} {w : Wd} (g1 : (0 : Int) ≤ w32 ((w32 (x6 * 4)) + 0) ∧ w32 ((w32 (x6 * 4)) + 0) < 32) (g2 : (0 : Int) ≤ x1 ∧ x1 < 6) (g3 : (0 : Int) ≤ x6 ∧ x6 < 8) (h1 : w 99 x6.toNat < w 104 x1.toNat → Wp (Cw d) cd_Ways_arrive (0, 0, n1) Q 128 [mR 93, mI x1, none, mL x3, none, mI x5, mI x6, none, none] [] w) (h2 : ¬ (w 99 x6.toNat < w 104 x1.toNat) → Wp (Cw d) cd_Ways_arrive (0, 0, n1) Q 70 [mR 93, mI x1, none, mL x3, none, mI x5, mI x6, mI (w 13 (w32 ((w32 (x6 * 4)) + 0)).toNat), none] [] w) : Wp (Cw d) cd_Ways_arrive (0, 0, n1) Q 51 [mR 93, mI x1, none, mL x3, none, mI x5, mI x6, none, none] [] w :=
  Wp.s (Wp.s (Wp.s (Wp.s (Wp.s (Wp.s (Wp.s (Wp.s (Wp.s ⟨g1, Wp.s (Wp.s (Wp.s (Wp.s (Wp.s ⟨g2, Wp.s (Wp.s (Wp.s (Wp.s ⟨g3, Wp.s ⟨fun q => Wp.fgd (leA.k (leA.k (leA.f (leA.k (leA.f (leA.k (leA.k (leA.f (leA.f leA.e))))))))) (h1 q), fun q => h2 q⟩⟩)))⟩))))⟩))))))))
theorem Ways_arrive_93_b70 {d : Nat} {n1 : Int} {Q : MV → Wd → Prop} {x1 x3 x5 x6 x7 : Int} {w : Wd} (g1 : (0 : Int) ≤ x1 ∧ x1 < 6) (h1 : ¬ x7 = w 102 x1.toNat → Wp (Cw d) cd_Ways_arrive (0, 0, n1) Q 128 [mR 93, mI x1, none, mL x3, none, mI x5, mI x6, none, none] [] w) (h2 : ¬ (¬ x7 = w 102 x1.toNat) → Wp (Cw d) cd_Ways_arrive (0, 0, n1) Q 76 [mR 93, mI x1, none, mL x3, none, mI x5, mI x6, none, none] [] w) : Wp (Cw d) cd_Ways_arrive (0, 0, n1) Q 70 [mR 93, mI x1, none, mL x3, none, mI x5, mI x6, mI x7, none] [] w :=
  Wp.s (Wp.s (Wp.s (Wp.s (Wp.s ⟨g1, Wp.s ⟨fun q => Wp.fgd (leA.k (leA.k (leA.f (leA.k (leA.f (leA.k (leA.k (leA.f (leA.f leA.e))))))))) (h1 q), fun q => Wp.fgd (leA.k (leA.k (leA.f (leA.k (leA.f (leA.k (leA.k (leA.f (leA.f leA.e))))))))) (h2 q)⟩⟩))))
theorem Ways_arrive_93_b76 {d : Nat} {n1 : Int} {Q : MV → Wd → Prop} {x1 x3 x5 x6 : Int} {w : Wd} (g1 : (0 : Int) ≤ x6 ∧ x6 < 8) (h1 : ¬ w 100 x6.toNat = 0 → Wp (Cw d) cd_Ways_arrive (0, 0, n1) Q 89 [mR 93, mI x1, none, mL x3, none, mI x5, mI x6, none, none] [mI x6, mR 101] w) (h2 : ¬ (¬ w 100 x6.toNat = 0) → Wp (Cw d) cd_Ways_arrive (0, 0, n1) Q 84 [mR 93, mI x1, none, mL x3, none, mI x5, mI x6, none, none] [mI x6, mR 101] w) : Wp (Cw d) cd_Ways_arrive (0, 0, n1) Q 76 [mR 93, mI x1, none, mL x3, none, mI x5, mI x6, none, none] [] w :=
  Wp.s (Wp.s (Wp.s (Wp.s (Wp.s (Wp.s (Wp.s ⟨g1, Wp.s ⟨fun q => h1 q, fun q => h2 q⟩⟩))))))
theorem Ways_arrive_93_b84 {d : Nat} {n1 : Int} {Q : MV → Wd → Prop} {x1 x3 x5 x6 s0 : Int} {w : Wd} (g1 : (0 : Int) ≤ x1 ∧ x1 < 6) (h : Wp (Cw d) cd_Ways_arrive (0, 0, n1) Q 98 [mR 93, mI x1, none, mL x3, none, mI x5, mI x6, none, none] [mI (w 104 x1.toNat), mI s0, mR 101] w) : Wp (Cw d) cd_Ways_arrive (0, 0, n1) Q 84 [mR 93, mI x1, none, mL x3, none, mI x5, mI x6, none, none] [mI s0, mR 101] w :=
  Wp.s (Wp.s (Wp.s (Wp.s ⟨g1, Wp.s h⟩)))
theorem Ways_arrive_93_b89 {d : Nat} {n1 : Int} {Q : MV → Wd → Prop} {x1 x3 x5 x6 s0 : Int} {w : Wd} (g1 : (0 : Int) ≤ x6 ∧ x6 < 8) (g2 : (0 : Int) ≤ x1 ∧ x1 < 6) (h : Wp (Cw d) cd_Ways_arrive (0, 0, n1) Q 98 [mR 93, mI x1, none, mL x3, none, mI x5, mI x6, none, none] [mI (min (w 101 x6.toNat) (w 104 x1.toNat)), mI s0, mR 101] w) : Wp (Cw d) cd_Ways_arrive (0, 0, n1) Q 89 [mR 93, mI x1, none, mL x3, none, mI x5, mI x6, none, none] [mI s0, mR 101] w :=
  Wp.s (Wp.s (Wp.s (Wp.s ⟨g1, Wp.s (Wp.s (Wp.s (Wp.s ⟨g2, Wp.s h⟩)))⟩)))
theorem Ways_arrive_93_b98 {d : Nat} {n1 : Int} {Q : MV → Wd → Prop} {x1 x3 x5 x6 s0 s1 : Int} {w : Wd} (g1 : (0 : Int) ≤ s1 ∧ s1 < 8) (g2 : (0 : Int) ≤ x6 ∧ x6 < 8) (g3 : (0 : Int) ≤ x6 ∧ x6 < 8) (g4 : (0 : Int) ≤ w32 ((w32 ((w32 ((w32 ((w 93 7) * 8)) + x6)) * 3)) + x5) ∧ w32 ((w32 ((w32 ((w32 ((w 93 7) * 8)) + x6)) * 3)) + x5) < 384) (g5 : (0 : Int) ≤ w32 ((w32 ((w32 ((w32 ((w 93 7) * 8)) + x6)) * 3)) + x5) ∧ w32 ((w32 ((w32 ((w32 ((w 93 7) * 8)) + x6)) * 3)) + x5) < 384) (h : Wp (Cw d) cd_Ways_arrive (0, 0, n1) Q 128 [mR 93, mI x1, none, mL x3, none, mI x5, mI x6, none, none] [] (ub (ub (ub w 101 s1.toNat s0) 100 x6.toNat (w32 ((w 100 x6.toNat) + 1))) 98 (w32 ((w32 ((w32 ((w32 ((w 93 7) * 8)) + x6)) * 3)) + x5)).toNat (min (w 98 (w32 ((w32 ((w32 ((w32 ((w 93 7) * 8)) + x6)) * 3)) + x5)).toNat) x3))) : Wp (Cw d) cd_Ways_arrive (0, 0, n1) Q 98 [mR 93, mI x1, none, mL x3, none, mI x5, mI x6, none, none] [mI s0, mI s1, mR 101] w :=
  Wp.s ⟨g1, Wp.s (Wp.s (Wp.s (Wp.s (Wp.s ⟨g2, Wp.s (Wp.s (Wp.s ⟨g3, Wp.s (Wp.s (Wp.s (Wp.s (Wp.s (Wp.s (Wp.s (Wp.s (Wp.s (Wp.s (Wp.s (Wp.s (Wp.s (Wp.s (Wp.s (Wp.s (Wp.s (Wp.s ⟨g4, Wp.s (Wp.s (Wp.s ⟨g5, Wp.fgd (leA.k (leA.k (leA.f (leA.k (leA.f (leA.k (leA.k (leA.f (leA.f leA.e))))))))) h⟩))⟩)))))))))))))))))⟩))⟩))))⟩
theorem Ways_arrive_93_b128 {d : Nat} {n1 : Int} {Q : MV → Wd → Prop} {x1 x3 x5 x6 : Int} {w : Wd} (h : Wp (Cw d) cd_Ways_arrive (0, 0, n1) Q 46 [mR 93, mI x1, none, mL x3, none, mI x5, mI (w32 (x6 + 1)), none, none] [] w) : Wp (Cw d) cd_Ways_arrive (0, 0, n1) Q 128 [mR 93, mI x1, none, mL x3, none, mI x5, mI x6, none, none] [] w :=
  Wp.s (Wp.s h)
theorem Ways_arrive_93_b130 {d : Nat} {n1 : Int} {Q : MV → Wd → Prop} {w : Wd} (h : Q none w) : Wp (Cw d) cd_Ways_arrive (0, 0, n1) Q 130 [none, none, none, none, none, none, none, none, none] [] w :=
  Wp.s h
theorem Meeting_appraise_92_b0 {d : Nat} {n1 : Int} {Q : MV → Wd → Prop} {x1 : Int} {w : Wd} (h : Wp (Cw d) cd_Meeting_appraise (1, 0, n1) Q 4 [mR 92, mI x1, mI 0, mI 0, none, none, none] [] w) : Wp (Cw d) cd_Meeting_appraise (1, 0, n1) Q 0 [mR 92, mI x1, none, none, none, none, none] [] w :=
  Wp.s (Wp.s (Wp.s (Wp.s h)))
theorem Meeting_appraise_92_b4 {d : Nat} {n1 : Int} {Q : MV → Wd → Prop} {x1 x2 x3 : Int} {w : Wd} (h1 : w 4 11 ≤ x3 → Wp (Cw d) cd_Meeting_appraise (1, 0, n1) Q 59 [none, none, mI x2, none, none, none, none] [] w) (h2 : ¬ (w 4 11 ≤ x3) → Wp (Cw d) cd_Meeting_appraise (1, 0, n1) Q 9 [mR 92, mI x1, mI x2, mI x3, none, none, none] [] w) : Wp (Cw d) cd_Meeting_appraise (1, 0, n1) Q 4 [mR 92, mI x1, mI x2, mI x3, none, none, none] [] w :=
  Wp.s (Wp.s (Wp.s (Wp.s (Wp.s ⟨fun q => Wp.fgd (leA.f (leA.f (leA.k (leA.f (leA.f (leA.f (leA.f leA.e))))))) (h1 q), fun q => h2 q⟩))))
theorem Meeting_appraise_92_b9 {d : Nat} {n1 : Int} {Q : MV → Wd → Prop} {x1 x2 x3 : Int} {w : Wd} (h : Cw d 77 [mR 92, mI x1, mI x3] w (fun r w' => Wp (Cw d) cd_Meeting_appraise (1, 0, n1) Q 13 [mR 92, mI x1, mI x2, mI x3, none, none, none] [r] w')) : Wp (Cw d) cd_Meeting_appraise (1, 0, n1) Q 9 [mR 92, mI x1, mI x2, mI x3, none, none, none] [] w :=
  Wp.s (Wp.s (Wp.s (Wp.s h)))
theorem Meeting_appraise_92_b13 {d : Nat} {n1 : Int} {Q : MV → Wd → Prop} {x1 x2 x3 s0 : Int} {w : Wd} (h1 : ¬ cmp3 s0 9223372036854775807 = 0 → Wp (Cw d) cd_Meeting_appraise (1, 0, n1) Q 20 [mR 92, mI x1, mI x2, mI x3, mL s0, none, none] [] w) (h2 : ¬ (¬ cmp3 s0 9223372036854775807 = 0) → Wp (Cw d) cd_Meeting_appraise (1, 0, n1) Q 18 [mR 92, mI x1, mI x2, mI x3, none, none, none] [] w) : Wp (Cw d) cd_Meeting_appraise (1, 0, n1) Q 13 [mR 92, mI x1, mI x2, mI x3, none, none, none] [mL s0] w :=
  Wp.s (Wp.s (Wp.s (Wp.s (Wp.s ⟨fun q => h1 q, fun q => Wp.fgd (leA.k (leA.k (leA.k (leA.k (leA.f (leA.f (leA.f leA.e))))))) (h2 q)⟩))))
theorem Meeting_appraise_92_b18 {d : Nat} {n1 : Int} {Q : MV → Wd → Prop} {x1 x2 x3 : Int} {w : Wd} (h : Wp (Cw d) cd_Meeting_appraise (1, 0, n1) Q 28 [mR 92, mI x1, mI x2, mI x3, none, none, none] [mI ((-1))] w) : Wp (Cw d) cd_Meeting_appraise (1, 0, n1) Q 18 [mR 92, mI x1, mI x2, mI x3, none, none, none] [] w :=
  Wp.s (Wp.s h)
theorem Meeting_appraise_92_b20 {d : Nat} {n1 : Int} {Q : MV → Wd → Prop} {x1 x2 x3 x4 : Int} {w : Wd} (h : Cw d 63 [mR 4, mI x3, mI 2] w (fun r w' => Wp (Cw d) cd_Meeting_appraise (1, 0, n1) Q 25 [mR 92, mI x1, mI x2, mI x3, mL x4, none, none] [r] w')) : Wp (Cw d) cd_Meeting_appraise (1, 0, n1) Q 20 [mR 92, mI x1, mI x2, mI x3, mL x4, none, none] [] w :=
  Wp.s (Wp.s (Wp.s (Wp.s (Wp.s h))))
theorem Meeting_appraise_92_b25 {d : Nat} {n1 : Int} {Q : MV → Wd → Prop} {x1 x2 x3 x4 s0 : Int} {w : Wd} (h : Cw d 78 [mL x4] w (fun r w' => Wp (Cw d) cd_Meeting_appraise (1, 0, n1) Q 27 [mR 92, mI x1, mI x2, mI x3, none, none, none] [r, mI s0] w')) : Wp (Cw d) cd_Meeting_appraise (1, 0, n1) Q 25 [mR 92, mI x1, mI x2, mI x3, mL x4, none, none] [mI s0] w :=
  Wp.s (Wp.s (Cw_mono _ _ _ _ _ _ (fun r w' q => Wp.fgd (leA.k (leA.k (leA.k (leA.k (leA.f (leA.f (leA.f leA.e))))))) q) h))
theorem Meeting_appraise_92_b27 {d : Nat} {n1 : Int} {Q : MV → Wd → Prop} {x1 x2 x3 s0 s1 : Int} {w : Wd} (h : Wp (Cw d) cd_Meeting_appraise (1, 0, n1) Q 28 [mR 92, mI x1, mI x2, mI x3, none, none, none] [mI (w32 (s1 - s0))] w) : Wp (Cw d) cd_Meeting_appraise (1, 0, n1) Q 27 [mR 92, mI x1, mI x2, mI x3, none, none, none] [mI s0, mI s1] w :=
  Wp.s h
theorem Meeting_appraise_92_b28 {d : Nat} {n1 : Int} {Q : MV → Wd → Prop} {x1 x2 x3 s0 : Int} {w : Wd} (h1 : s0 < 0 → Wp (Cw d) cd_Meeting_appraise (1, 0, n1) Q 57 [mR 92, mI x1, mI x2, mI x3, none, none, none] [] w) (h2 : ¬ (s0 < 0) → Wp (Cw d) cd_Meeting_appraise (1, 0, n1) Q 31 [mR 92, mI x1, mI x2, mI x3, none, none, mI s0] [] w) : Wp (Cw d) cd_Meeting_appraise (1, 0, n1) Q 28 [mR 92, mI x1, mI x2, mI x3, none, none, none] [mI s0] w :=
  Wp.s (Wp.s (Wp.s ⟨fun q => Wp.fgd (leA.k (leA.k (leA.k (leA.k (leA.f (leA.f (leA.f leA.e))))))) (h1 q), fun q => h2 q⟩))
theorem Meeting_appraise_92_b31 {d : Nat} {n1 : Int} {Q : MV → Wd → Prop} {x1 x2 x3 x6 : Int} {w : Wd} (h : Cw d 79 [mI x3] w (fun r w' => Wp (Cw d) cd_Meeting_appraise (1, 0, n1) Q 54 [mR 92, mI x1, mI (ior x2 (ishl 1 x3)), mI x3, none, none, none] [r, mL (w32 (16 - x1)), mL (lshl (w64 ((w64 (x6 * 16)) + 1)) 40), mI x3, mR 111] w')) : Wp (Cw d) cd_Meeting_appraise (1, 0, n1) Q 31 [mR 92, mI x1, mI x2, mI x3, none, none, mI x6] [] w :=
  Wp.s (Wp.s (Wp.s (Wp.s (Wp.s (Wp.s (Wp.s (Wp.s (Wp.s (Wp.s (Wp.s (Wp.s (Wp.s (Wp.s (Wp.s (Wp.s (Wp.s (Wp.s (Wp.s (Wp.s (Wp.s (Wp.s (Wp.s (Cw_mono _ _ _ _ _ _ (fun r w' q => Wp.fgd (leA.k (leA.k (leA.k (leA.k (leA.f (leA.f (leA.f leA.e))))))) q) h)))))))))))))))))))))))
theorem Meeting_appraise_92_b54 {d : Nat} {n1 : Int} {Q : MV → Wd → Prop} {x1 x2 x3 s0 s1 s2 s3 : Int} {w : Wd} (g1 : (0 : Int) ≤ s3 ∧ s3 < 8) (h : Wp (Cw d) cd_Meeting_appraise (1, 0, n1) Q 57 [mR 92, mI x1, mI x2, mI x3, none, none, none] [] (ub w 111 s3.toNat (w64 (s2 + (lshl s1 s0))))) : Wp (Cw d) cd_Meeting_appraise (1, 0, n1) Q 54 [mR 92, mI x1, mI x2, mI x3, none, none, none] [mI s0, mL s1, mL s2, mI s3, mR 111] w :=
  Wp.s (Wp.s (Wp.s ⟨g1, h⟩))
theorem Meeting_appraise_92_b57 {d : Nat} {n1 : Int} {Q : MV → Wd → Prop} {x1 x2 x3 : Int} {w : Wd} (h : Wp (Cw d) cd_Meeting_appraise (1, 0, n1) Q 4 [mR 92, mI x1, mI x2, mI (w32 (x3 + 1)), none, none, none] [] w) : Wp (Cw d) cd_Meeting_appraise (1, 0, n1) Q 57 [mR 92, mI x1, mI x2, mI x3, none, none, none] [] w :=
  Wp.s (Wp.s h)
theorem Meeting_appraise_92_b59 {d : Nat} {n1 : Int} {Q : MV → Wd → Prop} {x2 : Int} {w : Wd} (h : Q (mI x2) w) : Wp (Cw d) cd_Meeting_appraise (1, 0, n1) Q 59 [none, none, mI x2, none, none, none, none] [] w :=
  Wp.s (Wp.s h)

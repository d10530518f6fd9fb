theorem M_act0_144_b22 {d : Nat} {n1 : Int} {Q : MV → Wd → Prop} {w : Wd} (h : Cw d 182 [mR 144, mI 1] w (fun r w' => Wp (Cw d) cd_M_act0 (2, 0, n1) Q 25 [none, none, none] [r] w')) : Wp (Cw d) cd_M_act0 (2, 0, n1) Q 22 [mR 144, none, none] [] w :=
  Wp.s (Wp.s (Wp.s (Cw_mono _ _ _ _ _ _ (fun r w' q => Wp.fgd (leA.f (leA.f (leA.f leA.e))) q) h)))
theorem M_act0_144_b25 {d : Nat} {n1 : Int} {Q : MV → Wd → Prop} {s0 : Int} {w : Wd} (g1 : s0 = 0 ∨ s0 = 1) (h : Q (mI s0) w) : Wp (Cw d) cd_M_act0 (2, 0, n1) Q 25 [none, none, none] [mI s0] w :=
  Wp.s ⟨g1, h⟩
theorem M_act0_144_b26 {d : Nat} {n1 : Int} {Q : MV → Wd → Prop} {x1 : Int} {w : Wd} (h1 : ¬ w 144 50 = 50 → Wp (Cw d) cd_M_act0 (2, 0, n1) Q 34 [mR 144, mI x1, none] [] w) (h2 : ¬ (¬ w 144 50 = 50) → Wp (Cw d) cd_M_act0 (2, 0, n1) Q 30 [mR 144, none, none] [] w) : Wp (Cw d) cd_M_act0 (2, 0, n1) Q 26 [mR 144, mI x1, none] [] w :=
  Wp.s (Wp.s (Wp.s (Wp.s ⟨fun q => h1 q, fun q => Wp.fgd (leA.k (leA.f (leA.f leA.e))) (h2 q)⟩)))
theorem M_act0_144_b30 {d : Nat} {n1 : Int} {Q : MV → Wd → Prop} {w : Wd} (h : Cw d 182 [mR 144, mI 4] w (fun r w' => Wp (Cw d) cd_M_act0 (2, 0, n1) Q 33 [none, none, none] [r] w')) : Wp (Cw d) cd_M_act0 (2, 0, n1) Q 30 [mR 144, none, none] [] w :=
  Wp.s (Wp.s (Wp.s (Cw_mono _ _ _ _ _ _ (fun r w' q => Wp.fgd (leA.f (leA.f (leA.f leA.e))) q) h)))
theorem M_act0_144_b33 {d : Nat} {n1 : Int} {Q : MV → Wd → Prop} {s0 : Int} {w : Wd} (g1 : s0 = 0 ∨ s0 = 1) (h : Q (mI s0) w) : Wp (Cw d) cd_M_act0 (2, 0, n1) Q 33 [none, none, none] [mI s0] w :=
  Wp.s ⟨g1, h⟩
theorem M_act0_144_b34 {d : Nat} {n1 : Int} {Q : MV → Wd → Prop} {x1 : Int} {w : Wd} (g1 : (0 : Int) ≤ w32 (3 * (w 144 50)) ∧ w32 (3 * (w 144 50)) < 150) (g2 : (0 : Int) ≤ w32 ((w32 (3 * (w 144 50))) + 2) ∧ w32 ((w32 (3 * (w 144 50))) + 2) < 150) (h : Cw d 175 [mR 144] (ub (ub w 148 (w32 (3 * (w 144 50))).toNat x1) 148 (w32 ((w32 (3 * (w 144 50))) + 2)).toNat ((-1))) (fun _ w' => Wp (Cw d) cd_M_act0 (2, 0, n1) Q 54 [mR 144, mI x1, none] [] w')) : Wp (Cw d) cd_M_act0 (2, 0, n1) Q 34 [mR 144, mI x1, none] [] w :=
  Wp.s (Wp.s (Wp.s (Wp.s (Wp.s (Wp.s (Wp.s (Wp.s ⟨g1, Wp.s (Wp.s (Wp.s (Wp.s (Wp.s (Wp.s (Wp.s (Wp.s (Wp.s (Wp.s ⟨g2, Wp.s (Wp.s h)⟩)))))))))⟩)))))))
theorem M_act0_144_b54 {d : Nat} {n1 : Int} {Q : MV → Wd → Prop} {x1 : Int} {w : Wd} (h1 : ¬ x1 = 2 → Wp (Cw d) cd_M_act0 (2, 0, n1) Q 60 [mR 144, mI x1, none] [mR 144] w) (h2 : ¬ (¬ x1 = 2) → Wp (Cw d) cd_M_act0 (2, 0, n1) Q 58 [mR 144, mI x1, none] [mR 144] w) : Wp (Cw d) cd_M_act0 (2, 0, n1) Q 54 [mR 144, mI x1, none] [] w :=
  Wp.s (Wp.s (Wp.s (Wp.s ⟨fun q => h1 q, fun q => h2 q⟩)))
theorem M_act0_144_b58 {d : Nat} {n1 : Int} {Q : MV → Wd → Prop} {x1 : Int} {w : Wd} (h : Wp (Cw d) cd_M_act0 (2, 0, n1) Q 61 [mR 144, mI x1, none] [mI 1, mR 144] w) : Wp (Cw d) cd_M_act0 (2, 0, n1) Q 58 [mR 144, mI x1, none] [mR 144] w :=
  Wp.s (Wp.s h)
theorem M_act0_144_b60 {d : Nat} {n1 : Int} {Q : MV → Wd → Prop} {x1 : Int} {w : Wd} (h : Wp (Cw d) cd_M_act0 (2, 0, n1) Q 61 [mR 144, mI x1, none] [mI 0, mR 144] w) : Wp (Cw d) cd_M_act0 (2, 0, n1) Q 60 [mR 144, mI x1, none] [mR 144] w :=
  Wp.s h
theorem M_act0_144_b61 {d : Nat} {n1 : Int} {Q : MV → Wd → Prop} {x1 s0 : Int} {w : Wd} (h1 : ¬ x1 = 2 → Wp (Cw d) cd_M_act0 (2, 0, n1) Q 66 [mR 144, mI x1, none] [mI s0, mR 144] w) (h2 : ¬ (¬ x1 = 2) → Wp (Cw d) cd_M_act0 (2, 0, n1) Q 64 [mR 144, mI x1, none] [mI s0, mR 144] w) : Wp (Cw d) cd_M_act0 (2, 0, n1) Q 61 [mR 144, mI x1, none] [mI s0, mR 144] w :=
  Wp.s (Wp.s (Wp.s ⟨fun q => h1 q, fun q => h2 q⟩))
theorem M_act0_144_b64 {d : Nat} {n1 : Int} {Q : MV → Wd → Prop} {x1 s0 : Int} {w : Wd} (h : Wp (Cw d) cd_M_act0 (2, 0, n1) Q 72 [mR 144, mI x1, none] [mI 47, mI s0, mR 144] w) : Wp (Cw d) cd_M_act0 (2, 0, n1) Q 64 [mR 144, mI x1, none] [mI s0, mR 144] w :=
  Wp.s (Wp.s h)
theorem M_act0_144_b66 {d : Nat} {n1 : Int} {Q : MV → Wd → Prop} {x1 s0 : Int} {w : Wd} (h : Wp (Cw d) cd_M_act0 (2, 0, n1) Q 72 [mR 144, mI x1, none] [mI (w32 ((w 146 2.toNat) - 1)), mI s0, mR 144] w) : Wp (Cw d) cd_M_act0 (2, 0, n1) Q 66 [mR 144, mI x1, none] [mI s0, mR 144] w :=
  Wp.s (Wp.s (Wp.s (Wp.s ⟨(by decide), Wp.s (Wp.s h)⟩)))
theorem M_act0_144_b72 {d : Nat} {n1 : Int} {Q : MV → Wd → Prop} {x1 s0 s1 : Int} {w : Wd} (h : Cw d 186 [mR 144, mI s1, mI s0] w (fun r w' => Wp (Cw d) cd_M_act0 (2, 0, n1) Q 73 [mR 144, mI x1, none] [r] w')) : Wp (Cw d) cd_M_act0 (2, 0, n1) Q 72 [mR 144, mI x1, none] [mI s0, mI s1, mR 144] w :=
  Wp.s h
theorem M_act0_144_b73 {d : Nat} {n1 : Int} {Q : MV → Wd → Prop} {x1 s0 : Int} {w : Wd} (h1 : ¬ s0 = 0 → Wp (Cw d) cd_M_act0 (2, 0, n1) Q 76 [mR 144, mI x1, none] [] w) (h2 : ¬ (¬ s0 = 0) → Wp (Cw d) cd_M_act0 (2, 0, n1) Q 74 [none, none, none] [] w) : Wp (Cw d) cd_M_act0 (2, 0, n1) Q 73 [mR 144, mI x1, none] [mI s0] w :=
  Wp.s ⟨fun q => h1 q, fun q => Wp.fgd (leA.f (leA.f (leA.f leA.e))) (h2 q)⟩
theorem M_act0_144_b74 {d : Nat} {n1 : Int} {Q : MV → Wd → Prop} {w : Wd} (h : Q (mI 0) w) : Wp (Cw d) cd_M_act0 (2, 0, n1) Q 74 [none, none, none] [] w :=
  Wp.s (Wp.s ⟨(Or.inl rfl), h⟩)
theorem M_act0_144_b76 {d : Nat} {n1 : Int} {Q : MV → Wd → Prop} {x1 : Int} {w : Wd} (g1 : (0 : Int) ≤ w32 ((w32 (3 * (w 144 50))) + 1) ∧ w32 ((w32 (3 * (w 144 50))) + 1) < 150) (h1 : x1 ≤ 0 → Wp (Cw d) cd_M_act0 (2, 0, n1) Q 91 [mR 144, none, none] [] (ub w 148 (w32 ((w32 (3 * (w 144 50))) + 1)).toNat (w 144 18))) (h2 : ¬ (x1 ≤ 0) → Wp (Cw d) cd_M_act0 (2, 0, n1) Q 89 [none, none, none] [] (ub w 148 (w32 ((w32 (3 * (w 144 50))) + 1)).toNat (w 144 18))) : Wp (Cw d) cd_M_act0 (2, 0, n1) Q 76 [mR 144, mI x1, none] [] w :=
  Wp.s (Wp.s (Wp.s (Wp.s (Wp.s (Wp.s (Wp.s (Wp.s (Wp.s (Wp.s (Wp.s ⟨g1, Wp.s (Wp.s ⟨fun q => Wp.fgd (leA.k (leA.f (leA.f leA.e))) (h1 q), fun q => Wp.fgd (leA.f (leA.f (leA.f leA.e))) (h2 q)⟩)⟩))))))))))
theorem M_act0_144_b89 {d : Nat} {n1 : Int} {Q : MV → Wd → Prop} {w : Wd} (h : Q (mI 1) w) : Wp (Cw d) cd_M_act0 (2, 0, n1) Q 89 [none, none, none] [] w :=
  Wp.s (Wp.s ⟨(Or.inr rfl), h⟩)
theorem M_act0_144_b91 {d : Nat} {n1 : Int} {Q : MV → Wd → Prop} {w : Wd} (h : Cw d 184 [mR 144] w (fun r w' => Wp (Cw d) cd_M_act0 (2, 0, n1) Q 93 [mR 144, none, none] [r] w')) : Wp (Cw d) cd_M_act0 (2, 0, n1) Q 91 [mR 144, none, none] [] w :=
  Wp.s (Wp.s h)
theorem M_act0_144_b93 {d : Nat} {n1 : Int} {Q : MV → Wd → Prop} {s0 : Int} {w : Wd} (h1 : ¬ s0 = 0 → Wp (Cw d) cd_M_act0 (2, 0, n1) Q 98 [mR 144, none, none] [] w) (h2 : ¬ (¬ s0 = 0) → Wp (Cw d) cd_M_act0 (2, 0, n1) Q 94 [mR 144, none, none] [] w) : Wp (Cw d) cd_M_act0 (2, 0, n1) Q 93 [mR 144, none, none] [mI s0] w :=
  Wp.s ⟨fun q => h1 q, fun q => h2 q⟩
theorem M_act0_144_b94 {d : Nat} {n1 : Int} {Q : MV → Wd → Prop} {w : Wd} (h : Cw d 182 [mR 144, mI 1] w (fun r w' => Wp (Cw d) cd_M_act0 (2, 0, n1) Q 97 [none, none, none] [r] w')) : Wp (Cw d) cd_M_act0 (2, 0, n1) Q 94 [mR 144, none, none] [] w :=
  Wp.s (Wp.s (Wp.s (Cw_mono _ _ _ _ _ _ (fun r w' q => Wp.fgd (leA.f (leA.f (leA.f leA.e))) q) h)))
theorem M_act0_144_b97 {d : Nat} {n1 : Int} {Q : MV → Wd → Prop} {s0 : Int} {w : Wd} (g1 : s0 = 0 ∨ s0 = 1) (h : Q (mI s0) w) : Wp (Cw d) cd_M_act0 (2, 0, n1) Q 97 [none, none, none] [mI s0] w :=
  Wp.s ⟨g1, h⟩
theorem M_act0_144_b98 {d : Nat} {n1 : Int} {Q : MV → Wd → Prop} {w : Wd} (h : Cw d 185 [mR 144, mI 0, mI (w 146 0.toNat)] w (fun r w' => Wp (Cw d) cd_M_act0 (2, 0, n1) Q 105 [mR 144, none, none] [r] w')) : Wp (Cw d) cd_M_act0 (2, 0, n1) Q 98 [mR 144, none, none] [] w :=
  Wp.s (Wp.s (Wp.s (Wp.s (Wp.s (Wp.s ⟨(by decide), Wp.s h⟩)))))
theorem M_act0_144_b105 {d : Nat} {n1 : Int} {Q : MV → Wd → Prop} {s0 : Int} {w : Wd} (h1 : 0 ≤ s0 → Wp (Cw d) cd_M_act0 (2, 0, n1) Q 112 [mR 144, none, mI s0] [] w) (h2 : ¬ (0 ≤ s0) → Wp (Cw d) cd_M_act0 (2, 0, n1) Q 108 [mR 144, none, none] [] w) : Wp (Cw d) cd_M_act0 (2, 0, n1) Q 105 [mR 144, none, none] [mI s0] w :=
  Wp.s (Wp.s (Wp.s ⟨fun q => h1 q, fun q => Wp.fgd (leA.k (leA.f (leA.f leA.e))) (h2 q)⟩))
theorem M_act0_144_b108 {d : Nat} {n1 : Int} {Q : MV → Wd → Prop} {w : Wd} (h : Cw d 182 [mR 144, mI 3] w (fun r w' => Wp (Cw d) cd_M_act0 (2, 0, n1) Q 111 [none, none, none] [r] w')) : Wp (Cw d) cd_M_act0 (2, 0, n1) Q 108 [mR 144, none, none] [] w :=
  Wp.s (Wp.s (Wp.s (Cw_mono _ _ _ _ _ _ (fun r w' q => Wp.fgd (leA.f (leA.f (leA.f leA.e))) q) h)))
theorem M_act0_144_b111 {d : Nat} {n1 : Int} {Q : MV → Wd → Prop} {s0 : Int} {w : Wd} (g1 : s0 = 0 ∨ s0 = 1) (h : Q (mI s0) w) : Wp (Cw d) cd_M_act0 (2, 0, n1) Q 111 [none, none, none] [mI s0] w :=
  Wp.s ⟨g1, h⟩
theorem M_act0_144_b112 {d : Nat} {n1 : Int} {Q : MV → Wd → Prop} {x2 : Int} {w : Wd} (g1 : (0 : Int) ≤ w32 ((w32 (3 * (w 144 50))) + 2) ∧ w32 ((w32 (3 * (w 144 50))) + 2) < 150) (h : Cw d 175 [mR 144] (ub w 148 (w32 ((w32 (3 * (w 144 50))) + 2)).toNat x2) (fun _ w' => Wp (Cw d) cd_M_act0 (2, 0, n1) Q 124 [none, none, none] [] w')) : Wp (Cw d) cd_M_act0 (2, 0, n1) Q 112 [mR 144, none, mI x2] [] w :=
  Wp.s (Wp.s (Wp.s (Wp.s (Wp.s (Wp.s (Wp.s (Wp.s (Wp.s (Wp.s ⟨g1, Wp.s (Wp.s (Cw_mono _ _ _ _ _ _ (fun r w' q => Wp.fgd (leA.f (leA.f (leA.f leA.e))) q) h))⟩)))))))))
theorem M_act0_144_b124 {d : Nat} {n1 : Int} {Q : MV → Wd → Prop} {w : Wd} (h : Q (mI 1) w) : Wp (Cw d) cd_M_act0 (2, 0, n1) Q 124 [none, none, none] [] w :=
  Wp.s (Wp.s ⟨(Or.inr rfl), h⟩)
theorem M_keepPlan_144_b0 {d : Nat} {n1 : Int} {Q : MV → Wd → Prop} {w : Wd} (h : Wp (Cw d) cd_M_keepPlan (0, 0, n1) Q 8 [mR 144, mI 0] [] (ub w 146 333.toNat (w 144 50))) : Wp (Cw d) cd_M_keepPlan (0, 0, n1) Q 0 [mR 144, none] [] w :=
  Wp.s (Wp.s (Wp.s (Wp.s (Wp.s (Wp.s ⟨(by decide), Wp.s (Wp.s h)⟩)))))
theorem M_keepPlan_144_b8 {d : Nat} {n1 : Int} {Q : MV → Wd → Prop} {x1 : Int} {w : Wd} (h1 : w32 (3 * (w 144 50)) ≤ x1 → Wp (Cw d) cd_M_keepPlan (0, 0, n1) Q 26 [none, none] [] w) (h2 : ¬ (w32 (3 * (w 144 50)) ≤ x1) → Wp (Cw d) cd_M_keepPlan (0, 0, n1) Q 14 [mR 144, mI x1] [] w) : Wp (Cw d) cd_M_keepPlan (0, 0, n1) Q 8 [mR 144, mI x1] [] w :=
  Wp.s (Wp.s (Wp.s (Wp.s (Wp.s (Wp.s ⟨fun q => Wp.fgd (leA.f (leA.f leA.e)) (h1 q), fun q => h2 q⟩)))))
theorem M_keepPlan_144_b14 {d : Nat} {n1 : Int} {Q : MV → Wd → Prop} {x1 : Int} {w : Wd} (g1 : (0 : Int) ≤ x1 ∧ x1 < 150) (g2 : (0 : Int) ≤ w32 (334 + x1) ∧ w32 (334 + x1) < 645) (h : Wp (Cw d) cd_M_keepPlan (0, 0, n1) Q 8 [mR 144, mI (w32 (x1 + 1))] [] (ub w 146 (w32 (334 + x1)).toNat (w 148 x1.toNat))) : Wp (Cw d) cd_M_keepPlan (0, 0, n1) Q 14 [mR 144, mI x1] [] w :=
  Wp.s (Wp.s (Wp.s (Wp.s (Wp.s (Wp.s (Wp.s (Wp.s (Wp.s ⟨g1, Wp.s ⟨g2, Wp.s (Wp.s h)⟩⟩))))))))
theorem M_keepPlan_144_b26 {d : Nat} {n1 : Int} {Q : MV → Wd → Prop} {w : Wd} (h : Q none w) : Wp (Cw d) cd_M_keepPlan (0, 0, n1) Q 26 [none, none] [] w :=
  Wp.s h
theorem Plan_draw_28_4_b0 {d : Nat} {n1 : Int} {Q : MV → Wd → Prop} {x1 x2 : Int} {w : Wd} (h : Wp (Cw d) cd_Plan_draw (0, 0, n1) Q 8 [mR 28, mI x1, none, mR 4, mI 0, none, none, none] [] (ub (ub w 28 0 0) 28 4 x2)) : Wp (Cw d) cd_Plan_draw (0, 0, n1) Q 0 [mR 28, mI x1, mI x2, mR 4, none, none, none, none] [] w :=
  Wp.s (Wp.s (Wp.s (Wp.s (Wp.s (Wp.s (Wp.s (Wp.s (Wp.fgd (leA.k (leA.k (leA.f (leA.k (leA.k (leA.f (leA.f (leA.f leA.e)))))))) h))))))))
theorem Plan_draw_28_4_b8 {d : Nat} {n1 : Int} {Q : MV → Wd → Prop} {x1 x4 : Int} {w : Wd} (h1 : x1 ≤ x4 → Wp (Cw d) cd_Plan_draw (0, 0, n1) Q 49 [none, none, none, none, none, none, none, none] [] w) (h2 : ¬ (x1 ≤ x4) → Wp (Cw d) cd_Plan_draw (0, 0, n1) Q 11 [mR 28, mI x1, none, mR 4, mI x4, none, none, none] [] w) : Wp (Cw d) cd_Plan_draw (0, 0, n1) Q 8 [mR 28, mI x1, none, mR 4, mI x4, none, none, none] [] w :=
  Wp.s (Wp.s (Wp.s ⟨fun q => Wp.fgd (leA.f (leA.f (leA.f (leA.f (leA.f (leA.f (leA.f (leA.f leA.e)))))))) (h1 q), fun q => h2 q⟩))
theorem Plan_draw_28_4_b11 {d : Nat} {n1 : Int} {Q : MV → Wd → Prop} {x1 x4 : Int} {w : Wd} (h : Cw d 104 [mR 28, mI 4] w (fun r w' => Wp (Cw d) cd_Plan_draw (0, 0, n1) Q 14 [mR 28, mI x1, none, mR 4, mI x4, none, none, none] [r] w')) : Wp (Cw d) cd_Plan_draw (0, 0, n1) Q 11 [mR 28, mI x1, none, mR 4, mI x4, none, none, none] [] w :=
  Wp.s (Wp.s (Wp.s h))
theorem Plan_draw_28_4_b14 {d : Nat} {n1 : Int} {Q : MV → Wd → Prop} {x1 x4 s0 : Int} {w : Wd} (h : Cw d 104 [mR 28, mI (w 4 8)] w (fun r w' => Wp (Cw d) cd_Plan_draw (0, 0, n1) Q 19 [mR 28, mI x1, none, mR 4, mI x4, mI s0, none, none] [r] w')) : Wp (Cw d) cd_Plan_draw (0, 0, n1) Q 14 [mR 28, mI x1, none, mR 4, mI x4, none, none, none] [mI s0] w :=
  Wp.s (Wp.s (Wp.s (Wp.s (Wp.s h))))
theorem Plan_draw_28_4_b19 {d : Nat} {n1 : Int} {Q : MV → Wd → Prop} {x1 x4 x5 s0 : Int} {w : Wd} (h : Cw d 104 [mR 28, mI (w 4 0)] w (fun r w' => Wp (Cw d) cd_Plan_draw (0, 0, n1) Q 24 [mR 28, mI x1, none, mR 4, mI x4, mI x5, mI s0, none] [r] w')) : Wp (Cw d) cd_Plan_draw (0, 0, n1) Q 19 [mR 28, mI x1, none, mR 4, mI x4, mI x5, none, none] [mI s0] w :=
  Wp.s (Wp.s (Wp.s (Wp.s (Wp.s h))))
theorem Plan_draw_28_4_b24 {d : Nat} {n1 : Int} {Q : MV → Wd → Prop} {x1 x4 x5 x6 s0 : Int} {w : Wd} (h1 : ¬ x5 = 0 → Wp (Cw d) cd_Plan_draw (0, 0, n1) Q 33 [mR 28, mI x1, none, mR 4, mI x4, mI x5, mI x6, mI s0] [] w) (h2 : ¬ (¬ x5 = 0) → Wp (Cw d) cd_Plan_draw (0, 0, n1) Q 27 [mR 28, mI x1, none, mR 4, mI x4, none, mI x6, none] [] w) : Wp (Cw d) cd_Plan_draw (0, 0, n1) Q 24 [mR 28, mI x1, none, mR 4, mI x4, mI x5, mI x6, none] [mI s0] w :=
  Wp.s (Wp.s (Wp.s ⟨fun q => h1 q, fun q => Wp.fgd (leA.k (leA.k (leA.f (leA.k (leA.k (leA.f (leA.k (leA.f leA.e)))))))) (h2 q)⟩))
theorem Plan_draw_28_4_b27 {d : Nat} {n1 : Int} {Q : MV → Wd → Prop} {x1 x4 x6 : Int} {w : Wd} (h : Cw d 100 [mR 28, mI 1, mI x6, mI ((-1))] w (fun _ w' => Wp (Cw d) cd_Plan_draw (0, 0, n1) Q 32 [mR 28, mI x1, none, mR 4, mI x4, none, none, none] [] w')) : Wp (Cw d) cd_Plan_draw (0, 0, n1) Q 27 [mR 28, mI x1, none, mR 4, mI x4, none, mI x6, none] [] w :=
  Wp.s (Wp.s (Wp.s (Wp.s (Wp.s (Cw_mono _ _ _ _ _ _ (fun r w' q => Wp.fgd (leA.k (leA.k (leA.f (leA.k (leA.k (leA.f (leA.f (leA.f leA.e)))))))) q) h)))))
theorem Plan_draw_28_4_b32 {d : Nat} {n1 : Int} {Q : MV → Wd → Prop} {x1 x4 : Int} {w : Wd} (h : Wp (Cw d) cd_Plan_draw (0, 0, n1) Q 47 [mR 28, mI x1, none, mR 4, mI x4, none, none, none] [] w) : Wp (Cw d) cd_Plan_draw (0, 0, n1) Q 32 [mR 28, mI x1, none, mR 4, mI x4, none, none, none] [] w :=
  Wp.s h
theorem Plan_draw_28_4_b33 {d : Nat} {n1 : Int} {Q : MV → Wd → Prop} {x1 x4 x5 x6 x7 : Int} {w : Wd} (h1 : ¬ x5 = 1 → Wp (Cw d) cd_Plan_draw (0, 0, n1) Q 42 [mR 28, mI x1, none, mR 4, mI x4, none, mI x6, mI x7] [] w) (h2 : ¬ (¬ x5 = 1) → Wp (Cw d) cd_Plan_draw (0, 0, n1) Q 36 [mR 28, mI x1, none, mR 4, mI x4, none, none, none] [] w) : Wp (Cw d) cd_Plan_draw (0, 0, n1) Q 33 [mR 28, mI x1, none, mR 4, mI x4, mI x5, mI x6, mI x7] [] w :=
  Wp.s (Wp.s (Wp.s ⟨fun q => Wp.fgd (leA.k (leA.k (leA.f (leA.k (leA.k (leA.f (leA.k (leA.k leA.e)))))))) (h1 q), fun q => Wp.fgd (leA.k (leA.k (leA.f (leA.k (leA.k (leA.f (leA.f (leA.f leA.e)))))))) (h2 q)⟩))
theorem Plan_draw_28_4_b36 {d : Nat} {n1 : Int} {Q : MV → Wd → Prop} {x1 x4 : Int} {w : Wd} (h : Cw d 100 [mR 28, mI 2, mI 1, mI ((-1))] w (fun _ w' => Wp (Cw d) cd_Plan_draw (0, 0, n1) Q 41 [mR 28, mI x1, none, mR 4, mI x4, none, none, none] [] w')) : Wp (Cw d) cd_Plan_draw (0, 0, n1) Q 36 [mR 28, mI x1, none, mR 4, mI x4, none, none, none] [] w :=
  Wp.s (Wp.s (Wp.s (Wp.s (Wp.s h))))
theorem Plan_draw_28_4_b41 {d : Nat} {n1 : Int} {Q : MV → Wd → Prop} {x1 x4 : Int} {w : Wd} (h : Wp (Cw d) cd_Plan_draw (0, 0, n1) Q 47 [mR 28, mI x1, none, mR 4, mI x4, none, none, none] [] w) : Wp (Cw d) cd_Plan_draw (0, 0, n1) Q 41 [mR 28, mI x1, none, mR 4, mI x4, none, none, none] [] w :=
  Wp.s h
theorem Plan_draw_28_4_b42 {d : Nat} {n1 : Int} {Q : MV → Wd → Prop} {x1 x4 x6 x7 : Int} {w : Wd} (h : Cw d 100 [mR 28, mI 0, mI x6, mI x7] w (fun _ w' => Wp (Cw d) cd_Plan_draw (0, 0, n1) Q 47 [mR 28, mI x1, none, mR 4, mI x4, none, none, none] [] w')) : Wp (Cw d) cd_Plan_draw (0, 0, n1) Q 42 [mR 28, mI x1, none, mR 4, mI x4, none, mI x6, mI x7] [] w :=
  Wp.s (Wp.s (Wp.s (Wp.s (Wp.s (Cw_mono _ _ _ _ _ _ (fun r w' q => Wp.fgd (leA.k (leA.k (leA.f (leA.k (leA.k (leA.f (leA.f (leA.f leA.e)))))))) q) h)))))
theorem Plan_draw_28_4_b47 {d : Nat} {n1 : Int} {Q : MV → Wd → Prop} {x1 x4 : Int} {w : Wd} (h : Wp (Cw d) cd_Plan_draw (0, 0, n1) Q 8 [mR 28, mI x1, none, mR 4, mI (w32 (x4 + 1)), none, none, none] [] w) : Wp (Cw d) cd_Plan_draw (0, 0, n1) Q 47 [mR 28, mI x1, none, mR 4, mI x4, none, none, none] [] w :=
  Wp.s (Wp.s h)
theorem Plan_draw_28_4_b49 {d : Nat} {n1 : Int} {Q : MV → Wd → Prop} {w : Wd} (h : Q none w) : Wp (Cw d) cd_Plan_draw (0, 0, n1) Q 49 [none, none, none, none, none, none, none, none] [] w :=
  Wp.s h
theorem M_draw_144_b0 {d : Nat} {n1 : Int} {Q : MV → Wd → Prop} {x1 : Int} {w : Wd} (g1 : ¬ x1 = 0) (h : Q (mI (Int.tmod (iushr ((up1 (w 144) 51 (w32 ((w32 ((w 144 51) * 1103515245)) + 12345))) 51) 8) x1)) (ub w 144 51 (w32 ((w32 ((w 144 51) * 1103515245)) + 12345)))) : Wp (Cw d) cd_M_draw (1, 0, n1) Q 0 [mR 144, mI x1] [] w :=
  Wp.s (Wp.s (Wp.s (Wp.s (Wp.s (Wp.s (Wp.s (Wp.s (Wp.s (Wp.s (Wp.s (Wp.s (Wp.s (Wp.s ⟨g1, Wp.s h⟩)))))))))))))
theorem Day_go_132_4_28_b0 {d : Nat} {n1 : Int} {Q : MV → Wd → Prop} {w : Wd} (h : Cw d 107 [mR 132, mR 4] w (fun _ w' => Wp (Cw d) cd_Day_go (1, 0, n1) Q 3 [mR 132, mR 4, mR 28, none] [] w')) : Wp (Cw d) cd_Day_go (1, 0, n1) Q 0 [mR 132, mR 4, mR 28, none] [] w :=
  Wp.s (Wp.s (Wp.s h))
theorem Day_go_132_4_28_b3 {d : Nat} {n1 : Int} {Q : MV → Wd → Prop} {w : Wd} (h : Wp (Cw d) cd_Day_go (1, 0, n1) Q 5 [mR 132, mR 4, mR 28, mI 0] [] w) : Wp (Cw d) cd_Day_go (1, 0, n1) Q 3 [mR 132, mR 4, mR 28, none] [] w :=
  Wp.s (Wp.s h)
theorem Day_go_132_4_28_b5 {d : Nat} {n1 : Int} {Q : MV → Wd → Prop} {x3 : Int} {w : Wd} (h1 : w 28 0 ≤ x3 → Wp (Cw d) cd_Day_go (1, 0, n1) Q 36 [mR 132, mR 4, none, none] [] w) (h2 : ¬ (w 28 0 ≤ x3) → Wp (Cw d) cd_Day_go (1, 0, n1) Q 9 [mR 132, mR 4, mR 28, mI x3] [] w) : Wp (Cw d) cd_Day_go (1, 0, n1) Q 5 [mR 132, mR 4, mR 28, mI x3] [] w :=
  Wp.s (Wp.s (Wp.s (Wp.s ⟨fun q => Wp.fgd (leA.k (leA.k (leA.f (leA.f leA.e)))) (h1 q), fun q => h2 q⟩)))
theorem Day_go_132_4_28_b9 {d : Nat} {n1 : Int} {Q : MV → Wd → Prop} {x3 : Int} {w : Wd} (g1 : (0 : Int) ≤ x3 ∧ x3 < 50) (g2 : (0 : Int) ≤ x3 ∧ x3 < 50) (g3 : (0 : Int) ≤ x3 ∧ x3 < 50) (h : Cw d 108 [mR 132, mR 4, mI (w 29 x3.toNat), mI (w 30 x3.toNat), mI (w 31 x3.toNat)] w (fun r w' => Wp (Cw d) cd_Day_go (1, 0, n1) Q 25 [mR 132, mR 4, mR 28, mI x3] [r, mR 132] w')) : Wp (Cw d) cd_Day_go (1, 0, n1) Q 9 [mR 132, mR 4, mR 28, mI x3] [] w :=
  Wp.s (Wp.s (Wp.s (Wp.s (Wp.s (Wp.s (Wp.s ⟨g1, Wp.s (Wp.s (Wp.s (Wp.s ⟨g2, Wp.s (Wp.s (Wp.s (Wp.s ⟨g3, Wp.s h⟩)))⟩)))⟩))))))
theorem Day_go_132_4_28_b25 {d : Nat} {n1 : Int} {Q : MV → Wd → Prop} {x3 s0 : Int} {w : Wd} (h1 : (up1 (w 132) 1 s0) 1 = 0 → Wp (Cw d) cd_Day_go (1, 0, n1) Q 34 [mR 132, mR 4, mR 28, mI x3] [] (ub w 132 1 s0)) (h2 : ¬ ((up1 (w 132) 1 s0) 1 = 0) → Wp (Cw d) cd_Day_go (1, 0, n1) Q 29 [mR 132, mR 4, none, mI x3] [] (ub w 132 1 s0)) : Wp (Cw d) cd_Day_go (1, 0, n1) Q 25 [mR 132, mR 4, mR 28, mI x3] [mI s0, mR 132] w :=
  Wp.s (Wp.s (Wp.s (Wp.s ⟨fun q => h1 q, fun q => Wp.fgd (leA.k (leA.k (leA.f (leA.k leA.e)))) (h2 q)⟩)))
theorem Day_go_132_4_28_b29 {d : Nat} {n1 : Int} {Q : MV → Wd → Prop} {x3 : Int} {w : Wd} (h : Cw d 113 [mR 132, mR 4] w (fun _ w' => Wp (Cw d) cd_Day_go (1, 0, n1) Q 32 [none, none, none, mI x3] [] w')) : Wp (Cw d) cd_Day_go (1, 0, n1) Q 29 [mR 132, mR 4, none, mI x3] [] w :=
  Wp.s (Wp.s (Wp.s (Cw_mono _ _ _ _ _ _ (fun r w' q => Wp.fgd (leA.f (leA.f (leA.f (leA.k leA.e)))) q) h)))
theorem Day_go_132_4_28_b32 {d : Nat} {n1 : Int} {Q : MV → Wd → Prop} {x3 : Int} {w : Wd} (h : Q (mI x3) w) : Wp (Cw d) cd_Day_go (1, 0, n1) Q 32 [none, none, none, mI x3] [] w :=
  Wp.s (Wp.s h)
theorem Day_go_132_4_28_b34 {d : Nat} {n1 : Int} {Q : MV → Wd → Prop} {x3 : Int} {w : Wd} (h : Wp (Cw d) cd_Day_go (1, 0, n1) Q 5 [mR 132, mR 4, mR 28, mI (w32 (x3 + 1))] [] w) : Wp (Cw d) cd_Day_go (1, 0, n1) Q 34 [mR 132, mR 4, mR 28, mI x3] [] w :=
  Wp.s (Wp.s h)
theorem Day_go_132_4_28_b36 {d : Nat} {n1 : Int} {Q : MV → Wd → Prop} {w : Wd} (h : Cw d 113 [mR 132, mR 4] w (fun _ w' => Wp (Cw d) cd_Day_go (1, 0, n1) Q 39 [none, none, none, none] [] w')) : Wp (Cw d) cd_Day_go (1, 0, n1) Q 36 [mR 132, mR 4, none, none] [] w :=
  Wp.s (Wp.s (Wp.s (Cw_mono _ _ _ _ _ _ (fun r w' q => Wp.fgd (leA.f (leA.f (leA.f (leA.f leA.e)))) q) h)))
theorem Day_go_132_4_28_b39 {d : Nat} {n1 : Int} {Q : MV → Wd → Prop} {w : Wd} (h : Q (mI ((-1))) w) : Wp (Cw d) cd_Day_go (1, 0, n1) Q 39 [none, none, none, none] [] w :=
  Wp.s (Wp.s h)
theorem M_does_144_b0 {d : Nat} {n1 : Int} {Q : MV → Wd → Prop} {x1 : Int} {w : Wd} (g1 : (0 : Int) ≤ w32 (334 + (w32 (3 * x1))) ∧ w32 (334 + (w32 (3 * x1))) < 645) (g2 : (0 : Int) ≤ w32 ((w32 (334 + (w32 (3 * x1)))) + 1) ∧ w32 ((w32 (334 + (w32 (3 * x1)))) + 1) < 645) (h1 : ¬ w 146 (w32 (334 + (w32 (3 * x1)))).toNat = 2 → Wp (Cw d) cd_M_does (1, 0, n1) Q 39 [mR 144, mI x1, mI (w 146 (w32 (334 + (w32 (3 * x1)))).toNat), mI (w 146 (w32 ((w32 (334 + (w32 (3 * x1)))) + 1)).toNat), none, none] [] w) (h2 : ¬ (¬ w 146 (w32 (334 + (w32 (3 * x1)))).toNat = 2) → Wp (Cw d) cd_M_does (1, 0, n1) Q 23 [mR 144, none, none, mI (w 146 (w32 ((w32 (334 + (w32 (3 * x1)))) + 1)).toNat), none, none] [] w) : Wp (Cw d) cd_M_does (1, 0, n1) Q 0 [mR 144, mI x1, none, none, none, none] [] w :=
  Wp.s (Wp.s (Wp.s (Wp.s (Wp.s (Wp.s (Wp.s (Wp.s ⟨g1, Wp.s (Wp.s (Wp.s (Wp.s (Wp.s (Wp.s (Wp.s (Wp.s (Wp.s (Wp.s (Wp.s ⟨g2, Wp.s (Wp.s (Wp.s (Wp.s ⟨fun q => h1 q, fun q => Wp.fgd (leA.k (leA.f (leA.f (leA.k (leA.f (leA.f leA.e)))))) (h2 q)⟩)))⟩))))))))))⟩)))))))
theorem M_does_144_b23 {d : Nat} {n1 : Int} {Q : MV → Wd → Prop} {x3 : Int} {w : Wd} (h1 : w32 ((w 144 59) + x3) ≤ 47 → Wp (Cw d) cd_M_does (1, 0, n1) Q 31 [mR 144, none, none, mI x3, none, none] [] w) (h2 : ¬ (w32 ((w 144 59) + x3) ≤ 47) → Wp (Cw d) cd_M_does (1, 0, n1) Q 29 [none, none, none, none, none, none] [] w) : Wp (Cw d) cd_M_does (1, 0, n1) Q 23 [mR 144, none, none, mI x3, none, none] [] w :=
  Wp.s (Wp.s (Wp.s (Wp.s (Wp.s (Wp.s ⟨fun q => h1 q, fun q => Wp.fgd (leA.f (leA.f (leA.f (leA.f (leA.f (leA.f leA.e)))))) (h2 q)⟩)))))
theorem M_does_144_b29 {d : Nat} {n1 : Int} {Q : MV → Wd → Prop} {w : Wd} (h : Q (mI 8) w) : Wp (Cw d) cd_M_does (1, 0, n1) Q 29 [none, none, none, none, none, none] [] w :=
  Wp.s (Wp.s h)
theorem M_does_144_b31 {d : Nat} {n1 : Int} {Q : MV → Wd → Prop} {x3 : Int} {w : Wd} (h : Q (mI 0) (ub w 144 59 (w32 ((w 144 59) + x3)))) : Wp (Cw d) cd_M_does (1, 0, n1) Q 31 [mR 144, none, none, mI x3, none, none] [] w :=
  Wp.s (Wp.s (Wp.s (Wp.s (Wp.s (Wp.s (Wp.s (Wp.s h)))))))
theorem M_does_144_b39 {d : Nat} {n1 : Int} {Q : MV → Wd → Prop} {x1 x2 x3 : Int} {w : Wd} (h1 : ¬ x2 = 1 → Wp (Cw d) cd_M_does (1, 0, n1) Q 76 [mR 144, mI x1, none, mI x3, none, none] [] w) (h2 : ¬ (¬ x2 = 1) → Wp (Cw d) cd_M_does (1, 0, n1) Q 42 [mR 144, none, none, mI x3, none, none] [] w) : Wp (Cw d) cd_M_does (1, 0, n1) Q 39 [mR 144, mI x1, mI x2, mI x3, none, none] [] w :=
  Wp.s (Wp.s (Wp.s ⟨fun q => Wp.fgd (leA.k (leA.k (leA.f (leA.k (leA.f (leA.f leA.e)))))) (h1 q), fun q => Wp.fgd (leA.k (leA.f (leA.f (leA.k (leA.f (leA.f leA.e)))))) (h2 q)⟩))
theorem M_does_144_b42 {d : Nat} {n1 : Int} {Q : MV → Wd → Prop} {x3 : Int} {w : Wd} (h : Cw d 239 [mR 144, mI x3] w (fun r w' => Wp (Cw d) cd_M_does (1, 0, n1) Q 45 [mR 144, none, none, mI x3, none, none] [r] w')) : Wp (Cw d) cd_M_does (1, 0, n1) Q 42 [mR 144, none, none, mI x3, none, none] [] w :=
  Wp.s (Wp.s (Wp.s h))
theorem M_does_144_b45 {d : Nat} {n1 : Int} {Q : MV → Wd → Prop} {x3 s0 : Int} {w : Wd} (h1 : s0 ≤ 0 → Wp (Cw d) cd_M_does (1, 0, n1) Q 50 [mR 144, none, none, mI x3, none, none] [] w) (h2 : ¬ (s0 ≤ 0) → Wp (Cw d) cd_M_does (1, 0, n1) Q 48 [none, none, none, none, mI s0, none] [] w) : Wp (Cw d) cd_M_does (1, 0, n1) Q 45 [mR 144, none, none, mI x3, none, none] [mI s0] w :=
  Wp.s (Wp.s (Wp.s ⟨fun q => Wp.fgd (leA.k (leA.f (leA.f (leA.k (leA.f (leA.f leA.e)))))) (h1 q), fun q => Wp.fgd (leA.f (leA.f (leA.f (leA.f (leA.k (leA.f leA.e)))))) (h2 q)⟩))
theorem M_does_144_b48 {d : Nat} {n1 : Int} {Q : MV → Wd → Prop} {x4 : Int} {w : Wd} (h : Q (mI x4) w) : Wp (Cw d) cd_M_does (1, 0, n1) Q 48 [none, none, none, none, mI x4, none] [] w :=
  Wp.s (Wp.s h)
theorem M_does_144_b50 {d : Nat} {n1 : Int} {Q : MV → Wd → Prop} {x3 : Int} {w : Wd} (g1 : (0 : Int) ≤ x3 ∧ x3 < 16) (h : Cw d 241 [mR 144, mI (w 169 x3.toNat), mI x3] w (fun r w' => Wp (Cw d) cd_M_does (1, 0, n1) Q 61 [mR 144, none, none, mI x3, none, none] [r, mI 1, mI (w 144 60), mR 144] w')) : Wp (Cw d) cd_M_does (1, 0, n1) Q 50 [mR 144, none, none, mI x3, none, none] [] w :=
  Wp.s (Wp.s (Wp.s (Wp.s (Wp.s (Wp.s (Wp.s (Wp.s (Wp.s ⟨g1, Wp.s (Wp.s h)⟩))))))))
theorem M_does_144_b61 {d : Nat} {n1 : Int} {Q : MV → Wd → Prop} {x3 s0 s1 s2 : Int} {w : Wd} (g1 : (0 : Int) ≤ x3 ∧ x3 < 16) (g2 : (0 : Int) ≤ x3 ∧ x3 < 16) (h : Q (mI 0) (ub (ub (ub w 144 60 (ior s2 (ishl s1 s0))) 169 x3.toNat ((-2))) 170 x3.toNat 0)) : Wp (Cw d) cd_M_does (1, 0, n1) Q 61 [mR 144, none, none, mI x3, none, none] [mI s0, mI s1, mI s2, mR 144] w :=
  Wp.s (Wp.s (Wp.s (Wp.s (Wp.s (Wp.s (Wp.s (Wp.s ⟨g1, Wp.s (Wp.s (Wp.s (Wp.s (Wp.s ⟨g2, Wp.s (Wp.s h)⟩))))⟩)))))))
theorem M_does_144_b76 {d : Nat} {n1 : Int} {Q : MV → Wd → Prop} {x1 x3 : Int} {w : Wd} (h : Cw d 240 [mR 144, mI x3] w (fun r w' => Wp (Cw d) cd_M_does (1, 0, n1) Q 79 [mR 144, mI x1, none, mI x3, none, none] [r] w')) : Wp (Cw d) cd_M_does (1, 0, n1) Q 76 [mR 144, mI x1, none, mI x3, none, none] [] w :=
  Wp.s (Wp.s (Wp.s h))
theorem M_does_144_b79 {d : Nat} {n1 : Int} {Q : MV → Wd → Prop} {x1 x3 s0 : Int} {w : Wd} (h1 : s0 ≤ 0 → Wp (Cw d) cd_M_does (1, 0, n1) Q 84 [mR 144, mI x1, none, mI x3, none, none] [] w) (h2 : ¬ (s0 ≤ 0) → Wp (Cw d) cd_M_does (1, 0, n1) Q 80 [mR 144, none, none, mI x3, none, none] [] w) : Wp (Cw d) cd_M_does (1, 0, n1) Q 79 [mR 144, mI x1, none, mI x3, none, none] [mI s0] w :=
  Wp.s ⟨fun q => h1 q, fun q => Wp.fgd (leA.k (leA.f (leA.f (leA.k (leA.f (leA.f leA.e)))))) (h2 q)⟩
theorem M_does_144_b80 {d : Nat} {n1 : Int} {Q : MV → Wd → Prop} {x3 : Int} {w : Wd} (h : Cw d 240 [mR 144, mI x3] w (fun r w' => Wp (Cw d) cd_M_does (1, 0, n1) Q 83 [none, none, none, none, none, none] [r] w')) : Wp (Cw d) cd_M_does (1, 0, n1) Q 80 [mR 144, none, none, mI x3, none, none] [] w :=
  Wp.s (Wp.s (Wp.s (Cw_mono _ _ _ _ _ _ (fun r w' q => Wp.fgd (leA.f (leA.f (leA.f (leA.f (leA.f (leA.f leA.e)))))) q) h)))
theorem M_does_144_b83 {d : Nat} {n1 : Int} {Q : MV → Wd → Prop} {s0 : Int} {w : Wd} (h : Q (mI s0) w) : Wp (Cw d) cd_M_does (1, 0, n1) Q 83 [none, none, none, none, none, none] [mI s0] w :=
  Wp.s h
theorem M_does_144_b84 {d : Nat} {n1 : Int} {Q : MV → Wd → Prop} {x1 x3 : Int} {w : Wd} (g1 : (0 : Int) ≤ w32 ((w32 (334 + (w32 (3 * x1)))) + 2) ∧ w32 ((w32 (334 + (w32 (3 * x1)))) + 2) < 645) (h : Cw d 242 [mR 144, mI x3, mI (w 146 (w32 ((w32 (334 + (w32 (3 * x1)))) + 2)).toNat)] w (fun r w' => Wp (Cw d) cd_M_does (1, 0, n1) Q 99 [mR 144, none, none, mI x3, mI (w 146 (w32 ((w32 (334 + (w32 (3 * x1)))) + 2)).toNat), none] [r] w')) : Wp (Cw d) cd_M_does (1, 0, n1) Q 84 [mR 144, mI x1, none, mI x3, none, none] [] w :=
  Wp.s (Wp.s (Wp.s (Wp.s (Wp.s (Wp.s (Wp.s (Wp.s (Wp.s (Wp.s ⟨g1, Wp.s (Wp.s (Wp.s (Wp.s (Wp.s (Cw_mono _ _ _ _ _ _ (fun r w' q => Wp.fgd (leA.k (leA.f (leA.f (leA.k (leA.k (leA.f leA.e)))))) q) h)))))⟩)))))))))
theorem M_does_144_b99 {d : Nat} {n1 : Int} {Q : MV → Wd → Prop} {x3 x4 s0 : Int} {w : Wd} (h1 : 0 ≤ s0 → Wp (Cw d) cd_M_does (1, 0, n1) Q 104 [mR 144, none, none, mI x3, mI x4, mI s0] [] w) (h2 : ¬ (0 ≤ s0) → Wp (Cw d) cd_M_does (1, 0, n1) Q 102 [none, none, none, none, none, none] [] w) : Wp (Cw d) cd_M_does (1, 0, n1) Q 99 [mR 144, none, none, mI x3, mI x4, none] [mI s0] w :=
  Wp.s (Wp.s (Wp.s ⟨fun q => h1 q, fun q => Wp.fgd (leA.f (leA.f (leA.f (leA.f (leA.f (leA.f leA.e)))))) (h2 q)⟩))
theorem M_does_144_b102 {d : Nat} {n1 : Int} {Q : MV → Wd → Prop} {w : Wd} (h : Q (mI 4) w) : Wp (Cw d) cd_M_does (1, 0, n1) Q 102 [none, none, none, none, none, none] [] w :=
  Wp.s (Wp.s h)
theorem M_does_144_b104 {d : Nat} {n1 : Int} {Q : MV → Wd → Prop} {x3 x4 x5 : Int} {w : Wd} (h : Cw d 244 [mR 144, mI x3, mI x5, mI x4] w (fun r w' => Wp (Cw d) cd_M_does (1, 0, n1) Q 109 [mR 144, none, none, mI x3, mI x4, mI x5] [r] w')) : Wp (Cw d) cd_M_does (1, 0, n1) Q 104 [mR 144, none, none, mI x3, mI x4, mI x5] [] w :=
  Wp.s (Wp.s (Wp.s (Wp.s (Wp.s h))))
theorem M_does_144_b109 {d : Nat} {n1 : Int} {Q : MV → Wd → Prop} {x3 x4 x5 s0 : Int} {w : Wd} (h1 : s0 = 0 → Wp (Cw d) cd_M_does (1, 0, n1) Q 112 [mR 144, none, none, mI x3, mI x4, mI x5] [] w) (h2 : ¬ (s0 = 0) → Wp (Cw d) cd_M_does (1, 0, n1) Q 110 [none, none, none, none, none, none] [] w) : Wp (Cw d) cd_M_does (1, 0, n1) Q 109 [mR 144, none, none, mI x3, mI x4, mI x5] [mI s0] w :=
  Wp.s ⟨fun q => h1 q, fun q => Wp.fgd (leA.f (leA.f (leA.f (leA.f (leA.f (leA.f leA.e)))))) (h2 q)⟩
theorem M_does_144_b110 {d : Nat} {n1 : Int} {Q : MV → Wd → Prop} {w : Wd} (h : Q (mI 5) w) : Wp (Cw d) cd_M_does (1, 0, n1) Q 110 [none, none, none, none, none, none] [] w :=
  Wp.s (Wp.s h)
theorem M_does_144_b112 {d : Nat} {n1 : Int} {Q : MV → Wd → Prop} {x3 x4 x5 : Int} {w : Wd} (g1 : (0 : Int) ≤ x3 ∧ x3 < 16) (g2 : (0 : Int) ≤ x3 ∧ x3 < 16) (g3 : (0 : Int) ≤ x3 ∧ x3 < 16) (g4 : (0 : Int) ≤ w32 (7 + x5) ∧ w32 (7 + x5) < 645) (g5 : (0 : Int) ≤ w32 (7 + x4) ∧ w32 (7 + x4) < 645) (g6 : (0 : Int) ≤ x3 ∧ x3 < 16) (g7 : (0 : Int) ≤ x3 ∧ x3 < 16) (g8 : (0 : Int) ≤ x3 ∧ x3 < 16) (g9 : (0 : Int) ≤ x3 ∧ x3 < 16) (g10 : (0 : Int) ≤ w32 ((w32 (205 + (w32 (8 * x5)))) + x4) ∧ w32 ((w32 (205 + (w32 (8 * x5)))) + x4) < 645) (g11 : (0 : Int) ≤ x3 ∧ x3 < 16) (g12 : (0 : Int) ≤ w32 ((w32 (141 + (w32 (8 * x5)))) + x4) ∧ w32 ((w32 (141 + (w32 (8 * x5)))) + x4) < 645) (h : Q (mI 0) (ub (ub (ub (ub (ub (ub w 172 x3.toNat (ior (w 172 x3.toNat) (ior (ishl 1 x5) (ishl 1 x4)))) 173 x3.toNat (ior (w 173 x3.toNat) (ior (ishl 1 (w 146 (w32 (7 + x5)).toNat)) (ishl 1 (w 146 (w32 (7 + x4)).toNat))))) 169 x3.toNat x4) 170 x3.toNat (w32 ((w 170 x3.toNat) + 1))) 171 x3.toNat (w32 ((w 144 59) + (w 146 (w32 ((w32 (205 + (w32 (8 * x5)))) + x4)).toNat)))) 144 61 (w32 ((w 144 61) + (w 146 (w32 ((w32 (141 + (w32 (8 * x5)))) + x4)).toNat))))) : Wp (Cw d) cd_M_does (1, 0, n1) Q 112 [mR 144, none, none, mI x3, mI x4, mI x5] [] w :=
  Wp.s (Wp.s (Wp.s (Wp.s (Wp.s ⟨g1, Wp.s (Wp.s (Wp.s (Wp.s (Wp.s (Wp.s (Wp.s (Wp.s (Wp.s ⟨g2, Wp.s (Wp.s (Wp.s (Wp.s (Wp.s ⟨g3, Wp.s (Wp.s (Wp.s (Wp.s (Wp.s (Wp.s (Wp.s ⟨g4, Wp.s (Wp.s (Wp.s (Wp.s (Wp.s (Wp.s (Wp.s (Wp.s ⟨g5, Wp.s (Wp.s (Wp.s (Wp.s ⟨g6, Wp.s (Wp.s (Wp.s (Wp.s (Wp.s ⟨g7, Wp.s (Wp.s (Wp.s (Wp.s (Wp.s ⟨g8, Wp.s (Wp.s (Wp.s ⟨g9, Wp.s (Wp.s (Wp.s (Wp.s (Wp.s (Wp.s (Wp.s (Wp.s (Wp.s (Wp.s (Wp.s (Wp.s (Wp.s (Wp.s (Wp.s ⟨g10, Wp.s (Wp.s ⟨g11, Wp.s (Wp.s (Wp.s (Wp.s (Wp.s (Wp.s (Wp.s (Wp.s (Wp.s (Wp.s (Wp.s (Wp.s (Wp.s ⟨g12, Wp.s (Wp.s (Wp.s (Wp.s h)))⟩))))))))))))⟩)⟩))))))))))))))⟩))⟩))))⟩))))⟩)))⟩)))))))⟩))))))⟩))))⟩))))))))⟩))))
theorem M_whyNoUse_144_b0 {d : Nat} {n1 : Int} {Q : MV → Wd → Prop} {x1 : Int} {w : Wd} (h : Cw d 240 [mR 144, mI x1] w (fun r w' => Wp (Cw d) cd_M_whyNoUse (1, 0, n1) Q 3 [mR 144, mI x1] [r] w')) : Wp (Cw d) cd_M_whyNoUse (1, 0, n1) Q 0 [mR 144, mI x1] [] w :=
  Wp.s (Wp.s (Wp.s h))
theorem M_whyNoUse_144_b3 {d : Nat} {n1 : Int} {Q : MV → Wd → Prop} {x1 s0 : Int} {w : Wd} (h1 : s0 ≤ 0 → Wp (Cw d) cd_M_whyNoUse (1, 0, n1) Q 8 [mR 144, mI x1] [] w) (h2 : ¬ (s0 ≤ 0) → Wp (Cw d) cd_M_whyNoUse (1, 0, n1) Q 4 [mR 144, mI x1] [] w) : Wp (Cw d) cd_M_whyNoUse (1, 0, n1) Q 3 [mR 144, mI x1] [mI s0] w :=
  Wp.s ⟨fun q => h1 q, fun q => h2 q⟩
theorem M_whyNoUse_144_b4 {d : Nat} {n1 : Int} {Q : MV → Wd → Prop} {x1 : Int} {w : Wd} (h : Cw d 240 [mR 144, mI x1] w (fun r w' => Wp (Cw d) cd_M_whyNoUse (1, 0, n1) Q 7 [none, none] [r] w')) : Wp (Cw d) cd_M_whyNoUse (1, 0, n1) Q 4 [mR 144, mI x1] [] w :=
  Wp.s (Wp.s (Wp.s (Cw_mono _ _ _ _ _ _ (fun r w' q => Wp.fgd (leA.f (leA.f leA.e)) q) h)))
theorem M_whyNoUse_144_b7 {d : Nat} {n1 : Int} {Q : MV → Wd → Prop} {s0 : Int} {w : Wd} (h : Q (mI s0) w) : Wp (Cw d) cd_M_whyNoUse (1, 0, n1) Q 7 [none, none] [mI s0] w :=
  Wp.s h
theorem M_whyNoUse_144_b8 {d : Nat} {n1 : Int} {Q : MV → Wd → Prop} {x1 : Int} {w : Wd} (g1 : (0 : Int) ≤ x1 ∧ x1 < 16) (h1 : w 170 x1.toNat = w 146 4.toNat → Wp (Cw d) cd_M_whyNoUse (1, 0, n1) Q 19 [mR 144, mI x1] [] w) (h2 : ¬ (w 170 x1.toNat = w 146 4.toNat) → Wp (Cw d) cd_M_whyNoUse (1, 0, n1) Q 17 [none, none] [] w) : Wp (Cw d) cd_M_whyNoUse (1, 0, n1) Q 8 [mR 144, mI x1] [] w :=
  Wp.s (Wp.s (Wp.s (Wp.s ⟨g1, Wp.s (Wp.s (Wp.s (Wp.s ⟨(by decide), Wp.s ⟨fun q => h1 q, fun q => Wp.fgd (leA.f (leA.f leA.e)) (h2 q)⟩⟩)))⟩)))
theorem M_whyNoUse_144_b17 {d : Nat} {n1 : Int} {Q : MV → Wd → Prop} {w : Wd} (h : Q (mI 6) w) : Wp (Cw d) cd_M_whyNoUse (1, 0, n1) Q 17 [none, none] [] w :=
  Wp.s (Wp.s h)
theorem M_whyNoUse_144_b19 {d : Nat} {n1 : Int} {Q : MV → Wd → Prop} {x1 : Int} {w : Wd} (g1 : (0 : Int) ≤ x1 ∧ x1 < 16) (h : Cw d 241 [mR 144, mI (w 169 x1.toNat), mI x1] w (fun r w' => Wp (Cw d) cd_M_whyNoUse (1, 0, n1) Q 26 [none, none] [r] w')) : Wp (Cw d) cd_M_whyNoUse (1, 0, n1) Q 19 [mR 144, mI x1] [] w :=
  Wp.s (Wp.s (Wp.s (Wp.s (Wp.s ⟨g1, Wp.s (Wp.s (Cw_mono _ _ _ _ _ _ (fun r w' q => Wp.fgd (leA.f (leA.f leA.e)) q) h))⟩))))
theorem M_whyNoUse_144_b26 {d : Nat} {n1 : Int} {Q : MV → Wd → Prop} {s0 : Int} {w : Wd} (h1 : 0 ≤ s0 → Wp (Cw d) cd_M_whyNoUse (1, 0, n1) Q 29 [none, none] [] w) (h2 : ¬ (0 ≤ s0) → Wp (Cw d) cd_M_whyNoUse (1, 0, n1) Q 27 [none, none] [] w) : Wp (Cw d) cd_M_whyNoUse (1, 0, n1) Q 26 [none, none] [mI s0] w :=
  Wp.s ⟨fun q => h1 q, fun q => h2 q⟩
theorem M_whyNoUse_144_b27 {d : Nat} {n1 : Int} {Q : MV → Wd → Prop} {w : Wd} (h : Wp (Cw d) cd_M_whyNoUse (1, 0, n1) Q 30 [none, none] [mI 7] w) : Wp (Cw d) cd_M_whyNoUse (1, 0, n1) Q 27 [none, none] [] w :=
  Wp.s (Wp.s h)
theorem M_whyNoUse_144_b29 {d : Nat} {n1 : Int} {Q : MV → Wd → Prop} {w : Wd} (h : Wp (Cw d) cd_M_whyNoUse (1, 0, n1) Q 30 [none, none] [mI 0] w) : Wp (Cw d) cd_M_whyNoUse (1, 0, n1) Q 29 [none, none] [] w :=
  Wp.s h
theorem M_whyNoUse_144_b30 {d : Nat} {n1 : Int} {Q : MV → Wd → Prop} {s0 : Int} {w : Wd} (h : Q (mI s0) w) : Wp (Cw d) cd_M_whyNoUse (1, 0, n1) Q 30 [none, none] [mI s0] w :=
  Wp.s h
theorem X_supposing_0_b0 {d : Nat} {n1 : Int} {Q : MV → Wd → Prop} {w : Wd} (h : Cw d 56 [mR 114] w (fun _ w' => Wp (Cw d) cd_X_supposing (4, 0, n1) Q 5 [mR 0] [] w')) : Wp (Cw d) cd_X_supposing (4, 0, n1) Q 0 [mR 0] [] w :=
  Wp.s (Wp.s (Wp.s (Wp.s (Wp.s h))))
theorem X_supposing_0_b5 {d : Nat} {n1 : Int} {Q : MV → Wd → Prop} {w : Wd} (h : Q (mR 112) w) : Wp (Cw d) cd_X_supposing (4, 0, n1) Q 5 [mR 0] [] w :=
  Wp.s (Wp.s (Wp.s h))
theorem Ways_walkUnit_113_b0 {d : Nat} {n1 : Int} {Q : MV → Wd → Prop} {x1 : Int} {w : Wd} (h : Cw d 60 [mR 4, mI x1] (ub w 113 7 x1) (fun r w' => Wp (Cw d) cd_Ways_walkUnit (0, 0, n1) Q 8 [mR 113, mI x1, none, none] [r, mR 113] w')) : Wp (Cw d) cd_Ways_walkUnit (0, 0, n1) Q 0 [mR 113, mI x1, none, none] [] w :=
  Wp.s (Wp.s (Wp.s (Wp.s (Wp.s (Wp.s (Wp.s (Wp.s h)))))))
theorem Ways_walkUnit_113_b8 {d : Nat} {n1 : Int} {Q : MV → Wd → Prop} {x1 s0 : Int} {w : Wd} (h : Cw d 276 [mR 120, mI 0] (ub w 113 8 s0) (fun _ w' => Wp (Cw d) cd_Ways_walkUnit (0, 0, n1) Q 13 [mR 113, mI x1, none, none] [] w')) : Wp (Cw d) cd_Ways_walkUnit (0, 0, n1) Q 8 [mR 113, mI x1, none, none] [mI s0, mR 113] w :=
  Wp.s (Wp.s (Wp.s (Wp.s (Wp.s h))))
theorem Ways_walkUnit_113_b13 {d : Nat} {n1 : Int} {Q : MV → Wd → Prop} {x1 : Int} {w : Wd} (h : Wp (Cw d) cd_Ways_walkUnit (0, 0, n1) Q 19 [mR 113, mI x1, mI (w32 ((w32 (x1 * 8)) * 3)), none] [] w) : Wp (Cw d) cd_Ways_walkUnit (0, 0, n1) Q 13 [mR 113, mI x1, none, none] [] w :=
  Wp.s (Wp.s (Wp.s (Wp.s (Wp.s (Wp.s h)))))
theorem Ways_walkUnit_113_b19 {d : Nat} {n1 : Int} {Q : MV → Wd → Prop} {x1 x2 : Int} {w : Wd} (h1 : w32 ((w32 ((w32 (x1 + 1)) * 8)) * 3) ≤ x2 → Wp (Cw d) cd_Ways_walkUnit (0, 0, n1) Q 40 [mR 113, mI x1, none, none] [] w) (h2 : ¬ (w32 ((w32 ((w32 (x1 + 1)) * 8)) * 3) ≤ x2) → Wp (Cw d) cd_Ways_walkUnit (0, 0, n1) Q 28 [mR 113, mI x1, mI x2, none] [] w) : Wp (Cw d) cd_Ways_walkUnit (0, 0, n1) Q 19 [mR 113, mI x1, mI x2, none] [] w :=
  Wp.s (Wp.s (Wp.s (Wp.s (Wp.s (Wp.s (Wp.s (Wp.s (Wp.s ⟨fun q => Wp.fgd (leA.k (leA.k (leA.f (leA.f leA.e)))) (h1 q), fun q => h2 q⟩))))))))
theorem Ways_walkUnit_113_b28 {d : Nat} {n1 : Int} {Q : MV → Wd → Prop} {x1 x2 : Int} {w : Wd} (h1 : 384 ≤ x2 → Wp (Cw d) cd_Ways_walkUnit (0, 0, n1) Q 40 [mR 113, mI x1, none, none] [] w) (h2 : ¬ (384 ≤ x2) → Wp (Cw d) cd_Ways_walkUnit (0, 0, n1) Q 33 [mR 113, mI x1, mI x2, none] [] w) : Wp (Cw d) cd_Ways_walkUnit (0, 0, n1) Q 28 [mR 113, mI x1, mI x2, none] [] w :=
  Wp.s (Wp.s (Wp.s (Wp.s (Wp.s ⟨fun q => Wp.fgd (leA.k (leA.k (leA.f (leA.f leA.e)))) (h1 q), fun q => h2 q⟩))))
theorem Ways_walkUnit_113_b33 {d : Nat} {n1 : Int} {Q : MV → Wd → Prop} {x1 x2 : Int} {w : Wd} (g1 : (0 : Int) ≤ x2 ∧ x2 < 384) (h : Wp (Cw d) cd_Ways_walkUnit (0, 0, n1) Q 19 [mR 113, mI x1, mI (w32 (x2 + 1)), none] [] (ub w 118 x2.toNat 9223372036854775807)) : Wp (Cw d) cd_Ways_walkUnit (0, 0, n1) Q 33 [mR 113, mI x1, mI x2, none] [] w :=
  Wp.s (Wp.s (Wp.s (Wp.s (Wp.s ⟨g1, Wp.s (Wp.s h)⟩))))
theorem Ways_walkUnit_113_b40 {d : Nat} {n1 : Int} {Q : MV → Wd → Prop} {x1 : Int} {w : Wd} (h : Cw d 62 [mR 113] w (fun _ w' => Wp (Cw d) cd_Ways_walkUnit (0, 0, n1) Q 42 [mR 113, mI x1, none, none] [] w')) : Wp (Cw d) cd_Ways_walkUnit (0, 0, n1) Q 40 [mR 113, mI x1, none, none] [] w :=
  Wp.s (Wp.s h)
theorem Ways_walkUnit_113_b42 {d : Nat} {n1 : Int} {Q : MV → Wd → Prop} {x1 : Int} {w : Wd} (h1 : w 113 10 < 0 → Wp (Cw d) cd_Ways_walkUnit (0, 0, n1) Q 54 [none, none, none, none] [] w) (h2 : ¬ (w 113 10 < 0) → Wp (Cw d) cd_Ways_walkUnit (0, 0, n1) Q 45 [mR 113, mI x1, none, none] [] w) : Wp (Cw d) cd_Ways_walkUnit (0, 0, n1) Q 42 [mR 113, mI x1, none, none] [] w :=
  Wp.s (Wp.s (Wp.s ⟨fun q => Wp.fgd (leA.f (leA.f (leA.f (leA.f leA.e)))) (h1 q), fun q => h2 q⟩))
theorem Ways_walkUnit_113_b45 {d : Nat} {n1 : Int} {Q : MV → Wd → Prop} {x1 : Int} {w : Wd} (h1 : iand (w 113 8) (ixor (w 114 6) ((-1))) = 0 → Wp (Cw d) cd_Ways_walkUnit (0, 0, n1) Q 55 [mR 113, mI x1, none, none] [] w) (h2 : ¬ (iand (w 113 8) (ixor (w 114 6) ((-1))) = 0) → Wp (Cw d) cd_Ways_walkUnit (0, 0, n1) Q 54 [none, none, none, none] [] w) : Wp (Cw d) cd_Ways_walkUnit (0, 0, n1) Q 45 [mR 113, mI x1, none, none] [] w :=
  Wp.s (Wp.s (Wp.s (Wp.s (Wp.s (Wp.s (Wp.s (Wp.s (Wp.s ⟨fun q => h1 q, fun q => Wp.fgd (leA.f (leA.f (leA.f (leA.f leA.e)))) (h2 q)⟩))))))))
theorem Ways_walkUnit_113_b54 {d : Nat} {n1 : Int} {Q : MV → Wd → Prop} {w : Wd} (h : Q none w) : Wp (Cw d) cd_Ways_walkUnit (0, 0, n1) Q 54 [none, none, none, none] [] w :=
  Wp.s h
theorem Ways_walkUnit_113_b55 {d : Nat} {n1 : Int} {Q : MV → Wd → Prop} {x1 : Int} {w : Wd} (h : Wp (Cw d) cd_Ways_walkUnit (0, 0, n1) Q 57 [mR 113, mI x1, mI 1, none] [] w) : Wp (Cw d) cd_Ways_walkUnit (0, 0, n1) Q 55 [mR 113, mI x1, none, none] [] w :=
  Wp.s (Wp.s h)
theorem Ways_walkUnit_113_b57 {d : Nat} {n1 : Int} {Q : MV → Wd → Prop} {x1 x2 : Int} {w : Wd} (h1 : 2 < x2 → Wp (Cw d) cd_Ways_walkUnit (0, 0, n1) Q 101 [none, none, none, none] [] w) (h2 : ¬ (2 < x2) → Wp (Cw d) cd_Ways_walkUnit (0, 0, n1) Q 60 [mR 113, mI x1, mI x2, none] [] w) : Wp (Cw d) cd_Ways_walkUnit (0, 0, n1) Q 57 [mR 113, mI x1, mI x2, none] [] w :=
  Wp.s (Wp.s (Wp.s ⟨fun q => Wp.fgd (leA.f (leA.f (leA.f (leA.f leA.e)))) (h1 q), fun q => h2 q⟩))
theorem Ways_walkUnit_113_b60 {d : Nat} {n1 : Int} {Q : MV → Wd → Prop} {x1 x2 : Int} {w : Wd} (h : Cw d 61 [mR 4, mI x1, mI x2] w (fun r w' => Wp (Cw d) cd_Ways_walkUnit (0, 0, n1) Q 65 [mR 113, mI x1, mI x2, none] [r] w')) : Wp (Cw d) cd_Ways_walkUnit (0, 0, n1) Q 60 [mR 113, mI x1, mI x2, none] [] w :=
  Wp.s (Wp.s (Wp.s (Wp.s (Wp.s h))))
theorem Ways_walkUnit_113_b65 {d : Nat} {n1 : Int} {Q : MV → Wd → Prop} {x1 x2 s0 : Int} {w : Wd} (h1 : s0 = (-1) → Wp (Cw d) cd_Ways_walkUnit (0, 0, n1) Q 99 [mR 113, mI x1, mI x2, none] [] w) (h2 : ¬ (s0 = (-1)) → Wp (Cw d) cd_Ways_walkUnit (0, 0, n1) Q 69 [mR 113, mI x1, mI x2, mI s0] [] w) : Wp (Cw d) cd_Ways_walkUnit (0, 0, n1) Q 65 [mR 113, mI x1, mI x2, none] [mI s0] w :=
  Wp.s (Wp.s (Wp.s (Wp.s ⟨fun q => Wp.fgd (leA.k (leA.k (leA.k (leA.f leA.e)))) (h1 q), fun q => h2 q⟩)))
theorem Ways_walkUnit_113_b69 {d : Nat} {n1 : Int} {Q : MV → Wd → Prop} {x1 x2 x3 : Int} {w : Wd} (h : Cw d 64 [mR 113, mI 0] (ub (ub (ub (ub (ub w 122 0.toNat x3) 123 0.toNat (ishl 1 x3)) 124 0.toNat 0) 125 0.toNat 0) 126 0.toNat 0) (fun _ w' => Wp (Cw d) cd_Ways_walkUnit (0, 0, n1) Q 99 [mR 113, mI x1, mI x2, none] [] w')) : Wp (Cw d) cd_Ways_walkUnit (0, 0, n1) Q 69 [mR 113, mI x1, mI x2, mI x3] [] w :=
  Wp.s (Wp.s (Wp.s (Wp.s (Wp.s ⟨(by decide), Wp.s (Wp.s (Wp.s (Wp.s (Wp.s (Wp.s (Wp.s ⟨(by decide), Wp.s (Wp.s (Wp.s (Wp.s (Wp.s ⟨(by decide), Wp.s (Wp.s (Wp.s (Wp.s (Wp.s ⟨(by decide), Wp.s (Wp.s (Wp.s (Wp.s (Wp.s ⟨(by decide), Wp.s (Wp.s (Wp.s (Cw_mono _ _ _ _ _ _ (fun r w' q => Wp.fgd (leA.k (leA.k (leA.k (leA.f leA.e)))) q) h)))⟩))))⟩))))⟩))))⟩))))))⟩))))
theorem Ways_walkUnit_113_b99 {d : Nat} {n1 : Int} {Q : MV → Wd → Prop} {x1 x2 : Int} {w : Wd} (h : Wp (Cw d) cd_Ways_walkUnit (0, 0, n1) Q 57 [mR 113, mI x1, mI (w32 (x2 + 1)), none] [] w) : Wp (Cw d) cd_Ways_walkUnit (0, 0, n1) Q 99 [mR 113, mI x1, mI x2, none] [] w :=
  Wp.s (Wp.s h)
theorem Ways_walkUnit_113_b101 {d : Nat} {n1 : Int} {Q : MV → Wd → Prop} {w : Wd} (h : Q none w) : Wp (Cw d) cd_Ways_walkUnit (0, 0, n1) Q 101 [none, none, none, none] [] w :=
  Wp.s h
theorem M_sortOf_144_b0 {d : Nat} {n1 : Int} {Q : MV → Wd → Prop} {x1 : Int} {w : Wd} (g1 : (0 : Int) ≤ w32 ((w32 (29 + (w32 (5 * x1)))) + 1) ∧ w32 ((w32 (29 + (w32 (5 * x1)))) + 1) < 645) (h : Q (mI (w 146 (w32 ((w32 (29 + (w32 (5 * x1)))) + 1)).toNat)) w) : Wp (Cw d) cd_M_sortOf (1, 0, n1) Q 0 [mR 144, mI x1] [] w :=
  Wp.s (Wp.s (Wp.s (Wp.s (Wp.s (Wp.s (Wp.s (Wp.s (Wp.s (Wp.s ⟨g1, Wp.s h⟩)))))))))
theorem M_lastHour_144_b0 {d : Nat} {n1 : Int} {Q : MV → Wd → Prop} {x1 x2 : Int} {w : Wd} (g1 : (0 : Int) ≤ w32 ((w32 (109 + (w32 (4 * x2)))) + 3) ∧ w32 ((w32 (109 + (w32 (4 * x2)))) + 3) < 645) (h : Cw d 201 [mR 144, mI x1] w (fun r w' => Wp (Cw d) cd_M_lastHour (1, 0, n1) Q 14 [none, none, none, mI (w 146 (w32 ((w32 (109 + (w32 (4 * x2)))) + 3)).toNat), none] [r] w')) : Wp (Cw d) cd_M_lastHour (1, 0, n1) Q 0 [mR 144, mI x1, mI x2, none, none] [] w :=
  Wp.s (Wp.s (Wp.s (Wp.s (Wp.s (Wp.s (Wp.s (Wp.s (Wp.s (Wp.s ⟨g1, Wp.s (Wp.s (Wp.s (Wp.s (Cw_mono _ _ _ _ _ _ (fun r w' q => Wp.fgd (leA.f (leA.f (leA.f (leA.k (leA.f leA.e))))) q) h))))⟩)))))))))
theorem M_lastHour_144_b14 {d : Nat} {n1 : Int} {Q : MV → Wd → Prop} {x3 s0 : Int} {w : Wd} (h1 : w32 (s0 - 1) ≤ x3 → Wp (Cw d) cd_M_lastHour (1, 0, n1) Q 22 [none, none, none, none, mI (w32 (s0 - 1))] [] w) (h2 : ¬ (w32 (s0 - 1) ≤ x3) → Wp (Cw d) cd_M_lastHour (1, 0, n1) Q 20 [none, none, none, mI x3, none] [] w) : Wp (Cw d) cd_M_lastHour (1, 0, n1) Q 14 [none, none, none, mI x3, none] [mI s0] w :=
  Wp.s (Wp.s (Wp.s (Wp.s (Wp.s (Wp.s ⟨fun q => Wp.fgd (leA.f (leA.f (leA.f (leA.f (leA.k leA.e))))) (h1 q), fun q => Wp.fgd (leA.f (leA.f (leA.f (leA.k (leA.f leA.e))))) (h2 q)⟩)))))
theorem M_lastHour_144_b20 {d : Nat} {n1 : Int} {Q : MV → Wd → Prop} {x3 : Int} {w : Wd} (h : Wp (Cw d) cd_M_lastHour (1, 0, n1) Q 23 [none, none, none, none, none] [mI x3] w) : Wp (Cw d) cd_M_lastHour (1, 0, n1) Q 20 [none, none, none, mI x3, none] [] w :=
  Wp.s (Wp.s (Wp.fgd (leA.f (leA.f (leA.f (leA.f (leA.f leA.e))))) h))
theorem M_lastHour_144_b22 {d : Nat} {n1 : Int} {Q : MV → Wd → Prop} {x4 : Int} {w : Wd} (h : Wp (Cw d) cd_M_lastHour (1, 0, n1) Q 23 [none, none, none, none, none] [mI x4] w) : Wp (Cw d) cd_M_lastHour (1, 0, n1) Q 22 [none, none, none, none, mI x4] [] w :=
  Wp.s (Wp.fgd (leA.f (leA.f (leA.f (leA.f (leA.f leA.e))))) h)
theorem M_lastHour_144_b23 {d : Nat} {n1 : Int} {Q : MV → Wd → Prop} {s0 : Int} {w : Wd} (h : Q (mI s0) w) : Wp (Cw d) cd_M_lastHour (1, 0, n1) Q 23 [none, none, none, none, none] [mI s0] w :=
  Wp.s h
theorem M_begin_144_b0 {d : Nat} {n1 : Int} {Q : MV → Wd → Prop} {x1 : Int} {w : Wd} (h : Wp (Cw d) cd_M_begin (0, 0, n1) Q 16 [mR 144, none, mI 0] [] (ub (ub (ub (ub w 144 35 x1) 144 36 0) 156 0.toNat 0) 144 34 0)) : Wp (Cw d) cd_M_begin (0, 0, n1) Q 0 [mR 144, mI x1, none] [] w :=
  Wp.s (Wp.s (Wp.s (Wp.s (Wp.s (Wp.s (Wp.s (Wp.s (Wp.s (Wp.s (Wp.s ⟨(by decide), Wp.s (Wp.s (Wp.s (Wp.s (Wp.s (Wp.fgd (leA.k (leA.f (leA.k leA.e))) h)))))⟩))))))))))
theorem M_begin_144_b16 {d : Nat} {n1 : Int} {Q : MV → Wd → Prop} {x2 : Int} {w : Wd} (h1 : 8 ≤ x2 → Wp (Cw d) cd_M_begin (0, 0, n1) Q 26 [none, none, none] [] w) (h2 : ¬ (8 ≤ x2) → Wp (Cw d) cd_M_begin (0, 0, n1) Q 19 [mR 144, none, mI x2] [] w) : Wp (Cw d) cd_M_begin (0, 0, n1) Q 16 [mR 144, none, mI x2] [] w :=
  Wp.s (Wp.s (Wp.s ⟨fun q => Wp.fgd (leA.f (leA.f (leA.f leA.e))) (h1 q), fun q => h2 q⟩))
theorem M_begin_144_b19 {d : Nat} {n1 : Int} {Q : MV → Wd → Prop} {x2 : Int} {w : Wd} (g1 : (0 : Int) ≤ x2 ∧ x2 < 8) (h : Wp (Cw d) cd_M_begin (0, 0, n1) Q 16 [mR 144, none, mI (w32 (x2 + 1))] [] (ub w 160 x2.toNat 0)) : Wp (Cw d) cd_M_begin (0, 0, n1) Q 19 [mR 144, none, mI x2] [] w :=
  Wp.s (Wp.s (Wp.s (Wp.s (Wp.s ⟨g1, Wp.s (Wp.s h)⟩))))
theorem M_begin_144_b26 {d : Nat} {n1 : Int} {Q : MV → Wd → Prop} {w : Wd} (h : Q none w) : Wp (Cw d) cd_M_begin (0, 0, n1) Q 26 [none, none, none] [] w :=
  Wp.s h
theorem M_nextRow_144_b0 {d : Nat} {n1 : Int} {Q : MV → Wd → Prop} {x1 x2 : Int} {w : Wd} (h1 : ¬ w 144 36 = w 144 35 → Wp (Cw d) cd_M_nextRow (2, 0, n1) Q 15 [mR 144, mI x1, mI x2, none] [] w) (h2 : ¬ (¬ w 144 36 = w 144 35) → Wp (Cw d) cd_M_nextRow (2, 0, n1) Q 5 [mR 144, mI x1, mI x2, none] [] w) : Wp (Cw d) cd_M_nextRow (2, 0, n1) Q 0 [mR 144, mI x1, mI x2, none] [] w :=
  Wp.s (Wp.s (Wp.s (Wp.s (Wp.s ⟨fun q => h1 q, fun q => h2 q⟩))))
theorem M_nextRow_144_b5 {d : Nat} {n1 : Int} {Q : MV → Wd → Prop} {x1 x2 : Int} {w : Wd} (h : Cw d 215 [mR 144, mI ((up1 (w 144) 36 (w32 ((w 144 36) - 1))) 36)] (ub w 144 36 (w32 ((w 144 36) - 1))) (fun _ w' => Wp (Cw d) cd_M_nextRow (2, 0, n1) Q 15 [mR 144, mI x1, mI x2, none] [] w')) : Wp (Cw d) cd_M_nextRow (2, 0, n1) Q 5 [mR 144, mI x1, mI x2, none] [] w :=
  Wp.s (Wp.s (Wp.s (Wp.s (Wp.s (Wp.s (Wp.s (Wp.s (Wp.s (Wp.s h)))))))))
theorem M_nextRow_144_b15 {d : Nat} {n1 : Int} {Q : MV → Wd → Prop} {x1 x2 : Int} {w : Wd} (h1 : w 144 36 < 0 → Wp (Cw d) cd_M_nextRow (2, 0, n1) Q 100 [none, none, none, none] [] w) (h2 : ¬ (w 144 36 < 0) → Wp (Cw d) cd_M_nextRow (2, 0, n1) Q 18 [mR 144, mI x1, mI x2, none] [] w) : Wp (Cw d) cd_M_nextRow (2, 0, n1) Q 15 [mR 144, mI x1, mI x2, none] [] w :=
  Wp.s (Wp.s (Wp.s ⟨fun q => Wp.fgd (leA.f (leA.f (leA.f (leA.f leA.e)))) (h1 q), fun q => h2 q⟩))
theorem M_nextRow_144_b18 {d : Nat} {n1 : Int} {Q : MV → Wd → Prop} {x1 x2 : Int} {w : Wd} (g1 : (0 : Int) ≤ w 144 36 ∧ w 144 36 < 6) (g2 : (0 : Int) ≤ w 144 36 ∧ w 144 36 < 6) (g3 : (0 : Int) ≤ w 144 36 ∧ w 144 36 < 6) (h1 : ¬ w 156 (w 144 36).toNat = w 146 0.toNat → Wp (Cw d) cd_M_nextRow (2, 0, n1) Q 53 [mR 144, mI x1, mI x2, mI (w 156 (w 144 36).toNat)] [] (ub w 156 (w 144 36).toNat (w32 ((w 156 (w 144 36).toNat) + 1)))) (h2 : ¬ (¬ w 156 (w 144 36).toNat = w 146 0.toNat) → Wp (Cw d) cd_M_nextRow (2, 0, n1) Q 39 [mR 144, mI x1, mI x2, none] [] (ub w 156 (w 144 36).toNat (w32 ((w 156 (w 144 36).toNat) + 1)))) : Wp (Cw d) cd_M_nextRow (2, 0, n1) Q 18 [mR 144, mI x1, mI x2, none] [] w :=
  Wp.s (Wp.s (Wp.s (Wp.s (Wp.s ⟨g1, Wp.s (Wp.s (Wp.s (Wp.s (Wp.s (Wp.s (Wp.s ⟨g2, Wp.s (Wp.s (Wp.s ⟨g3, Wp.s (Wp.s (Wp.s (Wp.s (Wp.s ⟨(by decide), Wp.s ⟨fun q => h1 q, fun q => Wp.fgd (leA.k (leA.k (leA.k (leA.f leA.e)))) (h2 q)⟩⟩))))⟩))⟩))))))⟩))))
theorem M_nextRow_144_b39 {d : Nat} {n1 : Int} {Q : MV → Wd → Prop} {x1 x2 : Int} {w : Wd} (h1 : (up1 (w 144) 36 (w32 ((w 144 36) - 1))) 36 < 0 → Wp (Cw d) cd_M_nextRow (2, 0, n1) Q 15 [mR 144, mI x1, mI x2, none] [] (ub w 144 36 (w32 ((w 144 36) - 1)))) (h2 : ¬ ((up1 (w 144) 36 (w32 ((w 144 36) - 1))) 36 < 0) → Wp (Cw d) cd_M_nextRow (2, 0, n1) Q 48 [mR 144, mI x1, mI x2, none] [] (ub w 144 36 (w32 ((w 144 36) - 1)))) : Wp (Cw d) cd_M_nextRow (2, 0, n1) Q 39 [mR 144, mI x1, mI x2, none] [] w :=
  Wp.s (Wp.s (Wp.s (Wp.s (Wp.s (Wp.s (Wp.s (Wp.s (Wp.s ⟨fun q => h1 q, fun q => h2 q⟩))))))))
theorem M_nextRow_144_b48 {d : Nat} {n1 : Int} {Q : MV → Wd → Prop} {x1 x2 : Int} {w : Wd} (h : Cw d 215 [mR 144, mI (w 144 36)] w (fun _ w' => Wp (Cw d) cd_M_nextRow (2, 0, n1) Q 52 [mR 144, mI x1, mI x2, none] [] w')) : Wp (Cw d) cd_M_nextRow (2, 0, n1) Q 48 [mR 144, mI x1, mI x2, none] [] w :=
  Wp.s (Wp.s (Wp.s (Wp.s h)))
theorem M_nextRow_144_b52 {d : Nat} {n1 : Int} {Q : MV → Wd → Prop} {x1 x2 : Int} {w : Wd} (h : Wp (Cw d) cd_M_nextRow (2, 0, n1) Q 15 [mR 144, mI x1, mI x2, none] [] w) : Wp (Cw d) cd_M_nextRow (2, 0, n1) Q 52 [mR 144, mI x1, mI x2, none] [] w :=
  Wp.s h
theorem M_nextRow_144_b53 {d : Nat} {n1 : Int} {Q : MV → Wd → Prop} {x1 x2 x3 : Int} {w : Wd} (h : Cw d 216 [mR 144, mI x1, mI x3, mI (w 144 36)] w (fun r w' => Wp (Cw d) cd_M_nextRow (2, 0, n1) Q 59 [mR 144, mI x1, mI x2, mI x3] [r] w')) : Wp (Cw d) cd_M_nextRow (2, 0, n1) Q 53 [mR 144, mI x1, mI x2, mI x3] [] w :=
  Wp.s (Wp.s (Wp.s (Wp.s (Wp.s (Wp.s h)))))
theorem M_nextRow_144_b59 {d : Nat} {n1 : Int} {Q : MV → Wd → Prop} {x1 x2 x3 s0 : Int} {w : Wd} (h1 : ¬ s0 = 0 → Wp (Cw d) cd_M_nextRow (2, 0, n1) Q 61 [mR 144, mI x1, mI x2, mI x3] [] w) (h2 : ¬ (¬ s0 = 0) → Wp (Cw d) cd_M_nextRow (2, 0, n1) Q 60 [mR 144, mI x1, mI x2, none] [] w) : Wp (Cw d) cd_M_nextRow (2, 0, n1) Q 59 [mR 144, mI x1, mI x2, mI x3] [mI s0] w :=
  Wp.s ⟨fun q => h1 q, fun q => Wp.fgd (leA.k (leA.k (leA.k (leA.f leA.e)))) (h2 q)⟩
theorem M_nextRow_144_b60 {d : Nat} {n1 : Int} {Q : MV → Wd → Prop} {x1 x2 : Int} {w : Wd} (h : Wp (Cw d) cd_M_nextRow (2, 0, n1) Q 15 [mR 144, mI x1, mI x2, none] [] w) : Wp (Cw d) cd_M_nextRow (2, 0, n1) Q 60 [mR 144, mI x1, mI x2, none] [] w :=
  Wp.s h
theorem M_nextRow_144_b61 {d : Nat} {n1 : Int} {Q : MV → Wd → Prop} {x1 x2 x3 : Int} {w : Wd} (h : Cw d 218 [mR 144, mI x3, mI (w 144 36), mI (w 144 35)] w (fun _ w' => Wp (Cw d) cd_M_nextRow (2, 0, n1) Q 68 [mR 144, mI x1, mI x2, none] [] w')) : Wp (Cw d) cd_M_nextRow (2, 0, n1) Q 61 [mR 144, mI x1, mI x2, mI x3] [] w :=
  Wp.s (Wp.s (Wp.s (Wp.s (Wp.s (Wp.s (Wp.s (Cw_mono _ _ _ _ _ _ (fun r w' q => Wp.fgd (leA.k (leA.k (leA.k (leA.f leA.e)))) q) h)))))))
theorem M_nextRow_144_b68 {d : Nat} {n1 : Int} {Q : MV → Wd → Prop} {x1 x2 : Int} {w : Wd} (g1 : (0 : Int) ≤ w 144 36 ∧ w 144 36 < 6) (h1 : w 157 (w 144 36).toNat ≤ x2 → Wp (Cw d) cd_M_nextRow (2, 0, n1) Q 80 [mR 144, mI x1, mI x2, none] [] w) (h2 : ¬ (w 157 (w 144 36).toNat ≤ x2) → Wp (Cw d) cd_M_nextRow (2, 0, n1) Q 75 [mR 144, mI x1, mI x2, none] [] w) : Wp (Cw d) cd_M_nextRow (2, 0, n1) Q 68 [mR 144, mI x1, mI x2, none] [] w :=
  Wp.s (Wp.s (Wp.s (Wp.s (Wp.s ⟨g1, Wp.s (Wp.s ⟨fun q => h1 q, fun q => h2 q⟩)⟩))))
theorem M_nextRow_144_b75 {d : Nat} {n1 : Int} {Q : MV → Wd → Prop} {x1 x2 : Int} {w : Wd} (h : Cw d 215 [mR 144, mI (w 144 36)] w (fun _ w' => Wp (Cw d) cd_M_nextRow (2, 0, n1) Q 79 [mR 144, mI x1, mI x2, none] [] w')) : Wp (Cw d) cd_M_nextRow (2, 0, n1) Q 75 [mR 144, mI x1, mI x2, none] [] w :=
  Wp.s (Wp.s (Wp.s (Wp.s h)))
theorem M_nextRow_144_b79 {d : Nat} {n1 : Int} {Q : MV → Wd → Prop} {x1 x2 : Int} {w : Wd} (h : Wp (Cw d) cd_M_nextRow (2, 0, n1) Q 15 [mR 144, mI x1, mI x2, none] [] w) : Wp (Cw d) cd_M_nextRow (2, 0, n1) Q 79 [mR 144, mI x1, mI x2, none] [] w :=
  Wp.s h
theorem M_nextRow_144_b80 {d : Nat} {n1 : Int} {Q : MV → Wd → Prop} {x1 x2 : Int} {w : Wd} (h1 : ¬ (up1 (w 144) 36 (w32 ((w 144 36) + 1))) 36 = (up1 (w 144) 36 (w32 ((w 144 36) + 1))) 35 → Wp (Cw d) cd_M_nextRow (2, 0, n1) Q 93 [mR 144, mI x1, mI x2, none] [] (ub w 144 36 (w32 ((w 144 36) + 1)))) (h2 : ¬ (¬ (up1 (w 144) 36 (w32 ((w 144 36) + 1))) 36 = (up1 (w 144) 36 (w32 ((w 144 36) + 1))) 35) → Wp (Cw d) cd_M_nextRow (2, 0, n1) Q 91 [none, none, none, none] [] (ub w 144 36 (w32 ((w 144 36) + 1)))) : Wp (Cw d) cd_M_nextRow (2, 0, n1) Q 80 [mR 144, mI x1, mI x2, none] [] w :=
  Wp.s (Wp.s (Wp.s (Wp.s (Wp.s (Wp.s (Wp.s (Wp.s (Wp.s (Wp.s (Wp.s ⟨fun q => h1 q, fun q => Wp.fgd (leA.f (leA.f (leA.f (leA.f leA.e)))) (h2 q)⟩))))))))))
theorem M_nextRow_144_b91 {d : Nat} {n1 : Int} {Q : MV → Wd → Prop} {w : Wd} (h : Q (mI 1) w) : Wp (Cw d) cd_M_nextRow (2, 0, n1) Q 91 [none, none, none, none] [] w :=
  Wp.s (Wp.s ⟨(Or.inr rfl), h⟩)
theorem M_nextRow_144_b93 {d : Nat} {n1 : Int} {Q : MV → Wd → Prop} {x1 x2 : Int} {w : Wd} (g1 : (0 : Int) ≤ w 144 36 ∧ w 144 36 < 6) (h : Wp (Cw d) cd_M_nextRow (2, 0, n1) Q 15 [mR 144, mI x1, mI x2, none] [] (ub w 156 (w 144 36).toNat 0)) : Wp (Cw d) cd_M_nextRow (2, 0, n1) Q 93 [mR 144, mI x1, mI x2, none] [] w :=
  Wp.s (Wp.s (Wp.s (Wp.s (Wp.s (Wp.s ⟨g1, Wp.s h⟩)))))
theorem M_nextRow_144_b100 {d : Nat} {n1 : Int} {Q : MV → Wd → Prop} {w : Wd} (h : Q (mI 0) w) : Wp (Cw d) cd_M_nextRow (2, 0, n1) Q 100 [none, none, none, none] [] w :=
  Wp.s (Wp.s ⟨(Or.inl rfl), h⟩)
theorem Village_ofUnit_4_b0 {d : Nat} {n1 : Int} {Q : MV → Wd → Prop} {x1 x2 : Int} {w : Wd} (g1 : (0 : Int) ≤ w32 ((w32 (x1 * 5)) + x2) ∧ w32 ((w32 (x1 * 5)) + x2) < 80) (h : Q (mI (w 11 (w32 ((w32 (x1 * 5)) + x2)).toNat)) w) : Wp (Cw d) cd_Village_ofUnit (1, 0, n1) Q 0 [mR 4, mI x1, mI x2] [] w :=
  Wp.s (Wp.s (Wp.s (Wp.s (Wp.s (Wp.s (Wp.s (Wp.s ⟨g1, Wp.s h⟩)))))))
theorem X_askAnew_0_112_b0 {d : Nat} {n1 : Int} {Q : MV → Wd → Prop} {w : Wd} (h : Wp (Cw d) cd_X_askAnew (2, 0, n1) Q 9 [mR 0, mR 112, mI 0, mR 115, mI 0, none] [] w) : Wp (Cw d) cd_X_askAnew (2, 0, n1) Q 0 [mR 0, mR 112, none, none, none, none] [] w :=
  Wp.s (Wp.s (Wp.s (Wp.s (Wp.s (Wp.s (Wp.s (Wp.s (Wp.s h))))))))
theorem X_askAnew_0_112_b9 {d : Nat} {n1 : Int} {Q : MV → Wd → Prop} {x2 x4 : Int} {w : Wd} (h1 : w 4 0 ≤ x4 → Wp (Cw d) cd_X_askAnew (2, 0, n1) Q 41 [none, none, mI x2, none, none, none] [] w) (h2 : ¬ (w 4 0 ≤ x4) → Wp (Cw d) cd_X_askAnew (2, 0, n1) Q 14 [mR 0, mR 112, mI x2, mR 115, mI x4, none] [] w) : Wp (Cw d) cd_X_askAnew (2, 0, n1) Q 9 [mR 0, mR 112, mI x2, mR 115, mI x4, none] [] w :=
  Wp.s (Wp.s (Wp.s (Wp.s (Wp.s ⟨fun q => Wp.fgd (leA.f (leA.f (leA.k (leA.f (leA.f (leA.f leA.e)))))) (h1 q), fun q => h2 q⟩))))
theorem X_askAnew_0_112_b14 {d : Nat} {n1 : Int} {Q : MV → Wd → Prop} {x2 x4 : Int} {w : Wd} (g1 : (0 : Int) ≤ x4 ∧ x4 < 8) (h1 : w 8 x4.toNat ≤ 0 → Wp (Cw d) cd_X_askAnew (2, 0, n1) Q 39 [mR 0, mR 112, mI x2, mR 115, mI x4, none] [] w) (h2 : ¬ (w 8 x4.toNat ≤ 0) → Wp (Cw d) cd_X_askAnew (2, 0, n1) Q 20 [mR 0, mR 112, mI x2, mR 115, mI x4, none] [] w) : Wp (Cw d) cd_X_askAnew (2, 0, n1) Q 14 [mR 0, mR 112, mI x2, mR 115, mI x4, none] [] w :=
  Wp.s (Wp.s (Wp.s (Wp.s (Wp.s ⟨g1, Wp.s ⟨fun q => h1 q, fun q => h2 q⟩⟩))))
theorem X_askAnew_0_112_b20 {d : Nat} {n1 : Int} {Q : MV → Wd → Prop} {x2 x4 : Int} {w : Wd} (h : Cw d 121 [mR 112, mI x4] w (fun r w' => Wp (Cw d) cd_X_askAnew (2, 0, n1) Q 23 [mR 0, mR 112, mI x2, mR 115, mI x4, none] [r] w')) : Wp (Cw d) cd_X_askAnew (2, 0, n1) Q 20 [mR 0, mR 112, mI x2, mR 115, mI x4, none] [] w :=
  Wp.s (Wp.s (Wp.s h))
theorem X_askAnew_0_112_b23 {d : Nat} {n1 : Int} {Q : MV → Wd → Prop} {x2 x4 s0 : Int} {w : Wd} (h1 : ¬ x2 = 0 → Wp (Cw d) cd_X_askAnew (2, 0, n1) Q 31 [mR 0, mR 112, none, mR 115, mI x4, mI s0] [] w) (h2 : ¬ (¬ x2 = 0) → Wp (Cw d) cd_X_askAnew (2, 0, n1) Q 26 [mR 0, mR 112, none, mR 115, mI x4, mI s0] [] w) : Wp (Cw d) cd_X_askAnew (2, 0, n1) Q 23 [mR 0, mR 112, mI x2, mR 115, mI x4, none] [mI s0] w :=
  Wp.s (Wp.s (Wp.s ⟨fun q => Wp.fgd (leA.k (leA.k (leA.f (leA.k (leA.k (leA.k leA.e)))))) (h1 q), fun q => Wp.fgd (leA.k (leA.k (leA.f (leA.k (leA.k (leA.k leA.e)))))) (h2 q)⟩))
theorem X_askAnew_0_112_b26 {d : Nat} {n1 : Int} {Q : MV → Wd → Prop} {x4 x5 : Int} {w : Wd} (g1 : (0 : Int) ≤ x4 ∧ x4 < 8) (h1 : x5 = w 115 x4.toNat → Wp (Cw d) cd_X_askAnew (2, 0, n1) Q 33 [mR 0, mR 112, none, mR 115, mI x4, mI x5] [] w) (h2 : ¬ (x5 = w 115 x4.toNat) → Wp (Cw d) cd_X_askAnew (2, 0, n1) Q 31 [mR 0, mR 112, none, mR 115, mI x4, mI x5] [] w) : Wp (Cw d) cd_X_askAnew (2, 0, n1) Q 26 [mR 0, mR 112, none, mR 115, mI x4, mI x5] [] w :=
  Wp.s (Wp.s (Wp.s (Wp.s ⟨g1, Wp.s ⟨fun q => h1 q, fun q => h2 q⟩⟩)))
theorem X_askAnew_0_112_b31 {d : Nat} {n1 : Int} {Q : MV → Wd → Prop} {x4 x5 : Int} {w : Wd} (h : Wp (Cw d) cd_X_askAnew (2, 0, n1) Q 34 [mR 0, mR 112, none, mR 115, mI x4, mI x5] [mI 1] w) : Wp (Cw d) cd_X_askAnew (2, 0, n1) Q 31 [mR 0, mR 112, none, mR 115, mI x4, mI x5] [] w :=
  Wp.s (Wp.s h)
theorem X_askAnew_0_112_b33 {d : Nat} {n1 : Int} {Q : MV → Wd → Prop} {x4 x5 : Int} {w : Wd} (h : Wp (Cw d) cd_X_askAnew (2, 0, n1) Q 34 [mR 0, mR 112, none, mR 115, mI x4, mI x5] [mI 0] w) : Wp (Cw d) cd_X_askAnew (2, 0, n1) Q 33 [mR 0, mR 112, none, mR 115, mI x4, mI x5] [] w :=
  Wp.s h
theorem X_askAnew_0_112_b34 {d : Nat} {n1 : Int} {Q : MV → Wd → Prop} {x4 x5 s0 : Int} {w : Wd} (g1 : (0 : Int) ≤ x4 ∧ x4 < 8) (h : Wp (Cw d) cd_X_askAnew (2, 0, n1) Q 39 [mR 0, mR 112, mI s0, mR 115, mI x4, none] [] (ub w 115 x4.toNat x5)) : Wp (Cw d) cd_X_askAnew (2, 0, n1) Q 34 [mR 0, mR 112, none, mR 115, mI x4, mI x5] [mI s0] w :=
  Wp.s (Wp.s (Wp.s (Wp.s (Wp.s ⟨g1, Wp.fgd (leA.k (leA.k (leA.k (leA.k (leA.k (leA.f leA.e)))))) h⟩))))
theorem X_askAnew_0_112_b39 {d : Nat} {n1 : Int} {Q : MV → Wd → Prop} {x2 x4 : Int} {w : Wd} (h : Wp (Cw d) cd_X_askAnew (2, 0, n1) Q 9 [mR 0, mR 112, mI x2, mR 115, mI (w32 (x4 + 1)), none] [] w) : Wp (Cw d) cd_X_askAnew (2, 0, n1) Q 39 [mR 0, mR 112, mI x2, mR 115, mI x4, none] [] w :=
  Wp.s (Wp.s h)
theorem X_askAnew_0_112_b41 {d : Nat} {n1 : Int} {Q : MV → Wd → Prop} {x2 : Int} {w : Wd} (g1 : x2 = 0 ∨ x2 = 1) (h : Q (mI x2) w) : Wp (Cw d) cd_X_askAnew (2, 0, n1) Q 41 [none, none, mI x2, none, none, none] [] w :=
  Wp.s (Wp.s ⟨g1, h⟩)
theorem Told_keepAsks_140_115_b0 {d : Nat} {n1 : Int} {Q : MV → Wd → Prop} {x2 : Int} {w : Wd} (h : Cw d 48 [mR 115, mR 142] w (fun _ w' => Wp (Cw d) cd_Told_keepAsks (0, 0, n1) Q 4 [mR 140, none, mI x2] [] w')) : Wp (Cw d) cd_Told_keepAsks (0, 0, n1) Q 0 [mR 140, mR 115, mI x2] [] w :=
  Wp.s (Wp.s (Wp.s (Wp.s (Cw_mono _ _ _ _ _ _ (fun r w' q => Wp.fgd (leA.k (leA.f (leA.k leA.e))) q) h))))
theorem Told_keepAsks_140_115_b4 {d : Nat} {n1 : Int} {Q : MV → Wd → Prop} {x2 : Int} {w : Wd} (h : Q none (ub w 140 3 x2)) : Wp (Cw d) cd_Told_keepAsks (0, 0, n1) Q 4 [mR 140, none, mI x2] [] w :=
  Wp.s (Wp.s (Wp.s (Wp.s h)))
theorem M_asksBest_144_b0 {d : Nat} {n1 : Int} {Q : MV → Wd → Prop} {x1 : Int} {w : Wd} (g1 : (0 : Int) ≤ x1 ∧ x1 < 8) (h : Wp (Cw d) cd_M_asksBest (1, 0, n1) Q 12 [mR 144, mI x1, mI (w 154 x1.toNat), mI 0, mI 1, none, none, none] [] (ub w 144 63 0)) : Wp (Cw d) cd_M_asksBest (1, 0, n1) Q 0 [mR 144, mI x1, none, none, none, none, none, none] [] w :=
  Wp.s (Wp.s (Wp.s (Wp.s ⟨g1, Wp.s (Wp.s (Wp.s (Wp.s (Wp.s (Wp.s (Wp.s (Wp.s h)))))))⟩)))
theorem M_asksBest_144_b12 {d : Nat} {n1 : Int} {Q : MV → Wd → Prop} {x1 x2 x3 x4 : Int} {w : Wd} (h1 : 20 < x4 → Wp (Cw d) cd_M_asksBest (1, 0, n1) Q 92 [mR 144, mI x1, mI x2, mI x3, none, none, none, none] [] w) (h2 : ¬ (20 < x4) → Wp (Cw d) cd_M_asksBest (1, 0, n1) Q 15 [mR 144, mI x1, mI x2, mI x3, mI x4, none, none, none] [] w) : Wp (Cw d) cd_M_asksBest (1, 0, n1) Q 12 [mR 144, mI x1, mI x2, mI x3, mI x4, none, none, none] [] w :=
  Wp.s (Wp.s (Wp.s ⟨fun q => Wp.fgd (leA.k (leA.k (leA.k (leA.k (leA.f (leA.f (leA.f (leA.f leA.e)))))))) (h1 q), fun q => h2 q⟩))
theorem M_asksBest_144_b15 {d : Nat} {n1 : Int} {Q : MV → Wd → Prop} {x1 x2 x3 x4 : Int} {w : Wd} (g1 : (0 : Int) ≤ x1 ∧ x1 < 8) (h : Cw d 209 [mR 144] (ub w 154 x1.toNat x4) (fun _ w' => Wp (Cw d) cd_M_asksBest (1, 0, n1) Q 22 [mR 144, mI x1, mI x2, mI x3, mI x4, none, none, none] [] w')) : Wp (Cw d) cd_M_asksBest (1, 0, n1) Q 15 [mR 144, mI x1, mI x2, mI x3, mI x4, none, none, none] [] w :=
  Wp.s (Wp.s (Wp.s (Wp.s (Wp.s ⟨g1, Wp.s (Wp.s h)⟩))))
theorem M_asksBest_144_b22 {d : Nat} {n1 : Int} {Q : MV → Wd → Prop} {x1 x2 x3 x4 : Int} {w : Wd} (h : Cw d 228 [mR 144] w (fun _ w' => Wp (Cw d) cd_M_asksBest (1, 0, n1) Q 24 [mR 144, mI x1, mI x2, mI x3, mI x4, none, none, none] [] w')) : Wp (Cw d) cd_M_asksBest (1, 0, n1) Q 22 [mR 144, mI x1, mI x2, mI x3, mI x4, none, none, none] [] w :=
  Wp.s (Wp.s h)
theorem M_asksBest_144_b24 {d : Nat} {n1 : Int} {Q : MV → Wd → Prop} {x1 x2 x3 x4 : Int} {w : Wd} (h : Wp (Cw d) cd_M_asksBest (1, 0, n1) Q 28 [mR 144, mI x1, mI x2, mI x3, mI x4, mI 0, mI 0, none] [] w) : Wp (Cw d) cd_M_asksBest (1, 0, n1) Q 24 [mR 144, mI x1, mI x2, mI x3, mI x4, none, none, none] [] w :=
  Wp.s (Wp.s (Wp.s (Wp.s h)))
theorem M_asksBest_144_b28 {d : Nat} {n1 : Int} {Q : MV → Wd → Prop} {x1 x2 x3 x4 x5 x6 : Int} {w : Wd} (h1 : w 146 3.toNat ≤ x6 → Wp (Cw d) cd_M_asksBest (1, 0, n1) Q 76 [mR 144, mI x1, mI x2, mI x3, mI x4, mI x5, none, none] [] w) (h2 : ¬ (w 146 3.toNat ≤ x6) → Wp (Cw d) cd_M_asksBest (1, 0, n1) Q 34 [mR 144, mI x1, mI x2, mI x3, mI x4, mI x5, mI x6, none] [] w) : Wp (Cw d) cd_M_asksBest (1, 0, n1) Q 28 [mR 144, mI x1, mI x2, mI x3, mI x4, mI x5, mI x6, none] [] w :=
  Wp.s (Wp.s (Wp.s (Wp.s (Wp.s ⟨(by decide), Wp.s ⟨fun q => Wp.fgd (leA.k (leA.k (leA.k (leA.k (leA.k (leA.k (leA.f (leA.f leA.e)))))))) (h1 q), fun q => h2 q⟩⟩))))
theorem M_asksBest_144_b34 {d : Nat} {n1 : Int} {Q : MV → Wd → Prop} {x1 x2 x3 x4 x5 x6 : Int} {w : Wd} (h : Wp (Cw d) cd_M_asksBest (1, 0, n1) Q 36 [mR 144, mI x1, mI x2, mI x3, mI x4, mI x5, mI x6, mI 1] [] w) : Wp (Cw d) cd_M_asksBest (1, 0, n1) Q 34 [mR 144, mI x1, mI x2, mI x3, mI x4, mI x5, mI x6, none] [] w :=
  Wp.s (Wp.s h)
theorem M_asksBest_144_b36 {d : Nat} {n1 : Int} {Q : MV → Wd → Prop} {x1 x2 x3 x4 x5 x6 x7 : Int} {w : Wd} (h1 : w32 ((w 144 25) - 1) ≤ x7 → Wp (Cw d) cd_M_asksBest (1, 0, n1) Q 74 [mR 144, mI x1, mI x2, mI x3, mI x4, mI x5, mI x6, none] [] w) (h2 : ¬ (w32 ((w 144 25) - 1) ≤ x7) → Wp (Cw d) cd_M_asksBest (1, 0, n1) Q 42 [mR 144, mI x1, mI x2, mI x3, mI x4, mI x5, mI x6, mI x7] [] w) : Wp (Cw d) cd_M_asksBest (1, 0, n1) Q 36 [mR 144, mI x1, mI x2, mI x3, mI x4, mI x5, mI x6, mI x7] [] w :=
  Wp.s (Wp.s (Wp.s (Wp.s (Wp.s (Wp.s ⟨fun q => Wp.fgd (leA.k (leA.k (leA.k (leA.k (leA.k (leA.k (leA.k (leA.f leA.e)))))))) (h1 q), fun q => h2 q⟩)))))
theorem M_asksBest_144_b42 {d : Nat} {n1 : Int} {Q : MV → Wd → Prop} {x1 x2 x3 x4 x5 x6 x7 : Int} {w : Wd} (g1 : (0 : Int) ≤ x6 ∧ x6 < 8) (h1 : w 167 x6.toNat < 0 → Wp (Cw d) cd_M_asksBest (1, 0, n1) Q 74 [mR 144, mI x1, mI x2, mI x3, mI x4, mI x5, mI x6, none] [] w) (h2 : ¬ (w 167 x6.toNat < 0) → Wp (Cw d) cd_M_asksBest (1, 0, n1) Q 47 [mR 144, mI x1, mI x2, mI x3, mI x4, mI x5, mI x6, mI x7] [] w) : Wp (Cw d) cd_M_asksBest (1, 0, n1) Q 42 [mR 144, mI x1, mI x2, mI x3, mI x4, mI x5, mI x6, mI x7] [] w :=
  Wp.s (Wp.s (Wp.s (Wp.s ⟨g1, Wp.s ⟨fun q => Wp.fgd (leA.k (leA.k (leA.k (leA.k (leA.k (leA.k (leA.k (leA.f leA.e)))))))) (h1 q), fun q => h2 q⟩⟩)))
theorem M_asksBest_144_b47 {d : Nat} {n1 : Int} {Q : MV → Wd → Prop} {x1 x2 x3 x4 x5 x6 x7 : Int} {w : Wd} (g1 : (0 : Int) ≤ x6 ∧ x6 < 8) (g2 : (0 : Int) ≤ w32 ((w32 (8 * (w 167 x6.toNat))) + x6) ∧ w32 ((w32 (8 * (w 167 x6.toNat))) + x6) < 128) (h1 : ¬ iand (ishr (w 164 (w32 ((w32 (8 * (w 167 x6.toNat))) + x6)).toNat) (w32 (3 * x7))) 7 = x1 → Wp (Cw d) cd_M_asksBest (1, 0, n1) Q 69 [mR 144, mI x1, mI x2, mI x3, mI x4, none, mI x6, mI x7] [mI x5] w) (h2 : ¬ (¬ iand (ishr (w 164 (w32 ((w32 (8 * (w 167 x6.toNat))) + x6)).toNat) (w32 (3 * x7))) 7 = x1) → Wp (Cw d) cd_M_asksBest (1, 0, n1) Q 67 [mR 144, mI x1, mI x2, mI x3, mI x4, none, mI x6, mI x7] [mI x5] w) : Wp (Cw d) cd_M_asksBest (1, 0, n1) Q 47 [mR 144, mI x1, mI x2, mI x3, mI x4, mI x5, mI x6, mI x7] [] w :=
  Wp.s (Wp.s (Wp.s (Wp.s (Wp.s (Wp.s (Wp.s (Wp.s ⟨g1, Wp.s (Wp.s (Wp.s (Wp.s ⟨g2, Wp.s (Wp.s (Wp.s (Wp.s (Wp.s (Wp.s (Wp.s (Wp.s ⟨fun q => Wp.fgd (leA.k (leA.k (leA.k (leA.k (leA.k (leA.f (leA.k (leA.k leA.e)))))))) (h1 q), fun q => Wp.fgd (leA.k (leA.k (leA.k (leA.k (leA.k (leA.f (leA.k (leA.k leA.e)))))))) (h2 q)⟩)))))))⟩)))⟩)))))))
theorem M_asksBest_144_b67 {d : Nat} {n1 : Int} {Q : MV → Wd → Prop} {x1 x2 x3 x4 x6 x7 s0 : Int} {w : Wd} (h : Wp (Cw d) cd_M_asksBest (1, 0, n1) Q 70 [mR 144, mI x1, mI x2, mI x3, mI x4, none, mI x6, mI x7] [mI 1, mI s0] w) : Wp (Cw d) cd_M_asksBest (1, 0, n1) Q 67 [mR 144, mI x1, mI x2, mI x3, mI x4, none, mI x6, mI x7] [mI s0] w :=
  Wp.s (Wp.s h)
theorem M_asksBest_144_b69 {d : Nat} {n1 : Int} {Q : MV → Wd → Prop} {x1 x2 x3 x4 x6 x7 s0 : Int} {w : Wd} (h : Wp (Cw d) cd_M_asksBest (1, 0, n1) Q 70 [mR 144, mI x1, mI x2, mI x3, mI x4, none, mI x6, mI x7] [mI 0, mI s0] w) : Wp (Cw d) cd_M_asksBest (1, 0, n1) Q 69 [mR 144, mI x1, mI x2, mI x3, mI x4, none, mI x6, mI x7] [mI s0] w :=
  Wp.s h
theorem M_asksBest_144_b70 {d : Nat} {n1 : Int} {Q : MV → Wd → Prop} {x1 x2 x3 x4 x6 x7 s0 s1 : Int} {w : Wd} (h : Wp (Cw d) cd_M_asksBest (1, 0, n1) Q 36 [mR 144, mI x1, mI x2, mI x3, mI x4, mI (w32 (s1 + s0)), mI x6, mI (w32 (x7 + 1))] [] w) : Wp (Cw d) cd_M_asksBest (1, 0, n1) Q 70 [mR 144, mI x1, mI x2, mI x3, mI x4, none, mI x6, mI x7] [mI s0, mI s1] w :=
  Wp.s (Wp.s (Wp.s (Wp.s h)))
theorem M_asksBest_144_b74 {d : Nat} {n1 : Int} {Q : MV → Wd → Prop} {x1 x2 x3 x4 x5 x6 : Int} {w : Wd} (h : Wp (Cw d) cd_M_asksBest (1, 0, n1) Q 28 [mR 144, mI x1, mI x2, mI x3, mI x4, mI x5, mI (w32 (x6 + 1)), none] [] w) : Wp (Cw d) cd_M_asksBest (1, 0, n1) Q 74 [mR 144, mI x1, mI x2, mI x3, mI x4, mI x5, mI x6, none] [] w :=
  Wp.s (Wp.s h)
theorem M_asksBest_144_b76 {d : Nat} {n1 : Int} {Q : MV → Wd → Prop} {x1 x2 x3 x4 x5 : Int} {w : Wd} (h1 : w 144 63 < w32 (x4 * x5) → Wp (Cw d) cd_M_asksBest (1, 0, n1) Q 83 [mR 144, mI x1, mI x2, none, mI x4, mI x5, none, none] [] w) (h2 : ¬ (w 144 63 < w32 (x4 * x5)) → Wp (Cw d) cd_M_asksBest (1, 0, n1) Q 82 [mR 144, mI x1, mI x2, mI x3, mI x4, none, none, none] [] w) : Wp (Cw d) cd_M_asksBest (1, 0, n1) Q 76 [mR 144, mI x1, mI x2, mI x3, mI x4, mI x5, none, none] [] w :=
  Wp.s (Wp.s (Wp.s (Wp.s (Wp.s (Wp.s ⟨fun q => Wp.fgd (leA.k (leA.k (leA.k (leA.f (leA.k (leA.k (leA.f (leA.f leA.e)))))))) (h1 q), fun q => Wp.fgd (leA.k (leA.k (leA.k (leA.k (leA.k (leA.f (leA.f (leA.f leA.e)))))))) (h2 q)⟩)))))
theorem M_asksBest_144_b82 {d : Nat} {n1 : Int} {Q : MV → Wd → Prop} {x1 x2 x3 x4 : Int} {w : Wd} (h : Wp (Cw d) cd_M_asksBest (1, 0, n1) Q 90 [mR 144, mI x1, mI x2, mI x3, mI x4, none, none, none] [] w) : Wp (Cw d) cd_M_asksBest (1, 0, n1) Q 82 [mR 144, mI x1, mI x2, mI x3, mI x4, none, none, none] [] w :=
  Wp.s h
theorem M_asksBest_144_b83 {d : Nat} {n1 : Int} {Q : MV → Wd → Prop} {x1 x2 x4 x5 : Int} {w : Wd} (h : Wp (Cw d) cd_M_asksBest (1, 0, n1) Q 90 [mR 144, mI x1, mI x2, mI x4, mI x4, none, none, none] [] (ub w 144 63 (w32 (x4 * x5)))) : Wp (Cw d) cd_M_asksBest (1, 0, n1) Q 83 [mR 144, mI x1, mI x2, none, mI x4, mI x5, none, none] [] w :=
  Wp.s (Wp.s (Wp.s (Wp.s (Wp.s (Wp.s (Wp.s (Wp.fgd (leA.k (leA.k (leA.k (leA.k (leA.k (leA.f (leA.f (leA.f leA.e)))))))) h)))))))
theorem M_asksBest_144_b90 {d : Nat} {n1 : Int} {Q : MV → Wd → Prop} {x1 x2 x3 x4 : Int} {w : Wd} (h : Wp (Cw d) cd_M_asksBest (1, 0, n1) Q 12 [mR 144, mI x1, mI x2, mI x3, mI (w32 (x4 + 1)), none, none, none] [] w) : Wp (Cw d) cd_M_asksBest (1, 0, n1) Q 90 [mR 144, mI x1, mI x2, mI x3, mI x4, none, none, none] [] w :=
  Wp.s (Wp.s h)
theorem M_asksBest_144_b92 {d : Nat} {n1 : Int} {Q : MV → Wd → Prop} {x1 x2 x3 : Int} {w : Wd} (g1 : (0 : Int) ≤ x1 ∧ x1 < 8) (h : Q (mI x3) (ub w 154 x1.toNat x2)) : Wp (Cw d) cd_M_asksBest (1, 0, n1) Q 92 [mR 144, mI x1, mI x2, mI x3, none, none, none, none] [] w :=
  Wp.s (Wp.s (Wp.s (Wp.s (Wp.s ⟨g1, Wp.s (Wp.s h)⟩))))
theorem Meeting_middleAsk_112_b0 {d : Nat} {n1 : Int} {Q : MV → Wd → Prop} {x1 : Int} {w : Wd} (h : Cw d 58 [mR 113] (ub w 113 2 x1) (fun _ w' => Wp (Cw d) cd_Meeting_middleAsk (1, 0, n1) Q 7 [mR 112, mI x1, none, none, none] [] w')) : Wp (Cw d) cd_Meeting_middleAsk (1, 0, n1) Q 0 [mR 112, mI x1, none, none, none] [] w :=
  Wp.s (Wp.s (Wp.s (Wp.s (Wp.s (Wp.s (Wp.s h))))))
theorem Meeting_middleAsk_112_b7 {d : Nat} {n1 : Int} {Q : MV → Wd → Prop} {x1 : Int} {w : Wd} (h : Wp (Cw d) cd_Meeting_middleAsk (1, 0, n1) Q 20 [mR 112, mI x1, mI 0, mI ((-1)), mI 1] [] (ub (ub w 113 2 ((-1))) 112 8 0)) : Wp (Cw d) cd_Meeting_middleAsk (1, 0, n1) Q 7 [mR 112, mI x1, none, none, none] [] w :=
  Wp.s (Wp.s (Wp.s (Wp.s (Wp.s (Wp.s (Wp.s (Wp.s (Wp.s (Wp.s (Wp.s (Wp.s (Wp.s h))))))))))))
theorem Meeting_middleAsk_112_b20 {d : Nat} {n1 : Int} {Q : MV → Wd → Prop} {x1 x2 x3 x4 : Int} {w : Wd} (h1 : 20 < x4 → Wp (Cw d) cd_Meeting_middleAsk (1, 0, n1) Q 56 [none, none, mI x2, none, none] [] w) (h2 : ¬ (20 < x4) → Wp (Cw d) cd_Meeting_middleAsk (1, 0, n1) Q 23 [mR 112, mI x1, mI x2, mI x3, mI x4] [] w) : Wp (Cw d) cd_Meeting_middleAsk (1, 0, n1) Q 20 [mR 112, mI x1, mI x2, mI x3, mI x4] [] w :=
  Wp.s (Wp.s (Wp.s ⟨fun q => Wp.fgd (leA.f (leA.f (leA.k (leA.f (leA.f leA.e))))) (h1 q), fun q => h2 q⟩))
theorem Meeting_middleAsk_112_b23 {d : Nat} {n1 : Int} {Q : MV → Wd → Prop} {x1 x2 x3 x4 : Int} {w : Wd} (h1 : x3 = (-1) → Wp (Cw d) cd_Meeting_middleAsk (1, 0, n1) Q 32 [mR 112, mI x1, mI x2, none, mI x4] [] w) (h2 : ¬ (x3 = (-1)) → Wp (Cw d) cd_Meeting_middleAsk (1, 0, n1) Q 26 [mR 112, mI x1, mI x2, mI x3, mI x4] [] w) : Wp (Cw d) cd_Meeting_middleAsk (1, 0, n1) Q 23 [mR 112, mI x1, mI x2, mI x3, mI x4] [] w :=
  Wp.s (Wp.s (Wp.s ⟨fun q => Wp.fgd (leA.k (leA.k (leA.k (leA.f (leA.k leA.e))))) (h1 q), fun q => h2 q⟩))
theorem Meeting_middleAsk_112_b26 {d : Nat} {n1 : Int} {Q : MV → Wd → Prop} {x1 x2 x3 x4 : Int} {w : Wd} (h1 : w32 (x3 * 20) ≤ w 112 8 → Wp (Cw d) cd_Meeting_middleAsk (1, 0, n1) Q 56 [none, none, mI x2, none, none] [] w) (h2 : ¬ (w32 (x3 * 20) ≤ w 112 8) → Wp (Cw d) cd_Meeting_middleAsk (1, 0, n1) Q 32 [mR 112, mI x1, mI x2, none, mI x4] [] w) : Wp (Cw d) cd_Meeting_middleAsk (1, 0, n1) Q 26 [mR 112, mI x1, mI x2, mI x3, mI x4] [] w :=
  Wp.s (Wp.s (Wp.s (Wp.s (Wp.s (Wp.s ⟨fun q => Wp.fgd (leA.f (leA.f (leA.k (leA.f (leA.f leA.e))))) (h1 q), fun q => Wp.fgd (leA.k (leA.k (leA.k (leA.f (leA.k leA.e))))) (h2 q)⟩)))))
theorem Meeting_middleAsk_112_b32 {d : Nat} {n1 : Int} {Q : MV → Wd → Prop} {x1 x2 x4 : Int} {w : Wd} (h : Cw d 69 [mR 112, mI x4] w (fun _ w' => Wp (Cw d) cd_Meeting_middleAsk (1, 0, n1) Q 35 [mR 112, mI x1, mI x2, none, mI x4] [] w')) : Wp (Cw d) cd_Meeting_middleAsk (1, 0, n1) Q 32 [mR 112, mI x1, mI x2, none, mI x4] [] w :=
  Wp.s (Wp.s (Wp.s h))
theorem Meeting_middleAsk_112_b35 {d : Nat} {n1 : Int} {Q : MV → Wd → Prop} {x1 x2 x4 : Int} {w : Wd} (h : Cw d 72 [mR 112] w (fun _ w' => Wp (Cw d) cd_Meeting_middleAsk (1, 0, n1) Q 37 [mR 112, mI x1, mI x2, none, mI x4] [] w')) : Wp (Cw d) cd_Meeting_middleAsk (1, 0, n1) Q 35 [mR 112, mI x1, mI x2, none, mI x4] [] w :=
  Wp.s (Wp.s h)
theorem Meeting_middleAsk_112_b37 {d : Nat} {n1 : Int} {Q : MV → Wd → Prop} {x1 x2 x4 : Int} {w : Wd} (h : Cw d 122 [mR 112, mI x1] w (fun r w' => Wp (Cw d) cd_Meeting_middleAsk (1, 0, n1) Q 40 [mR 112, mI x1, mI x2, none, mI x4] [r] w')) : Wp (Cw d) cd_Meeting_middleAsk (1, 0, n1) Q 37 [mR 112, mI x1, mI x2, none, mI x4] [] w :=
  Wp.s (Wp.s (Wp.s h))
theorem Meeting_middleAsk_112_b40 {d : Nat} {n1 : Int} {Q : MV → Wd → Prop} {x1 x2 x4 s0 : Int} {w : Wd} (h1 : w32 (x4 * s0) ≤ w 112 8 → Wp (Cw d) cd_Meeting_middleAsk (1, 0, n1) Q 54 [mR 112, mI x1, mI x2, mI s0, mI x4] [] w) (h2 : ¬ (w32 (x4 * s0) ≤ w 112 8) → Wp (Cw d) cd_Meeting_middleAsk (1, 0, n1) Q 47 [mR 112, mI x1, none, mI s0, mI x4] [] w) : Wp (Cw d) cd_Meeting_middleAsk (1, 0, n1) Q 40 [mR 112, mI x1, mI x2, none, mI x4] [mI s0] w :=
  Wp.s (Wp.s (Wp.s (Wp.s (Wp.s (Wp.s (Wp.s ⟨fun q => h1 q, fun q => Wp.fgd (leA.k (leA.k (leA.f (leA.k (leA.k leA.e))))) (h2 q)⟩))))))
theorem Meeting_middleAsk_112_b47 {d : Nat} {n1 : Int} {Q : MV → Wd → Prop} {x1 x3 x4 : Int} {w : Wd} (h : Wp (Cw d) cd_Meeting_middleAsk (1, 0, n1) Q 54 [mR 112, mI x1, mI x4, mI x3, mI x4] [] (ub w 112 8 (w32 (x4 * x3)))) : Wp (Cw d) cd_Meeting_middleAsk (1, 0, n1) Q 47 [mR 112, mI x1, none, mI x3, mI x4] [] w :=
  Wp.s (Wp.s (Wp.s (Wp.s (Wp.s (Wp.s (Wp.s h))))))
theorem Meeting_middleAsk_112_b54 {d : Nat} {n1 : Int} {Q : MV → Wd → Prop} {x1 x2 x3 x4 : Int} {w : Wd} (h : Wp (Cw d) cd_Meeting_middleAsk (1, 0, n1) Q 20 [mR 112, mI x1, mI x2, mI x3, mI (w32 (x4 + 1))] [] w) : Wp (Cw d) cd_Meeting_middleAsk (1, 0, n1) Q 54 [mR 112, mI x1, mI x2, mI x3, mI x4] [] w :=
  Wp.s (Wp.s h)
theorem Meeting_middleAsk_112_b56 {d : Nat} {n1 : Int} {Q : MV → Wd → Prop} {x2 : Int} {w : Wd} (h : Q (mI x2) w) : Wp (Cw d) cd_Meeting_middleAsk (1, 0, n1) Q 56 [none, none, mI x2, none, none] [] w :=
  Wp.s (Wp.s h)
theorem Ring_take_137_1_b0 {d : Nat} {n1 : Int} {Q : MV → Wd → Prop} {x2 : Int} {w : Wd} (h1 : x2 < 2 → Wp (Cw d) cd_Ring_take (2, 0, n1) Q 10 [none, none, none, none, none, none] [] w) (h2 : ¬ (x2 < 2) → Wp (Cw d) cd_Ring_take (2, 0, n1) Q 3 [mR 137, mR 1, mI x2, none, none, none] [] w) : Wp (Cw d) cd_Ring_take (2, 0, n1) Q 0 [mR 137, mR 1, mI x2, none, none, none] [] w :=
  Wp.s (Wp.s (Wp.s ⟨fun q => Wp.fgd (leA.f (leA.f (leA.f (leA.f (leA.f (leA.f leA.e)))))) (h1 q), fun q => h2 q⟩))
theorem Ring_take_137_1_b3 {d : Nat} {n1 : Int} {Q : MV → Wd → Prop} {x2 : Int} {w : Wd} (h1 : 8 < x2 → Wp (Cw d) cd_Ring_take (2, 0, n1) Q 10 [none, none, none, none, none, none] [] w) (h2 : ¬ (8 < x2) → Wp (Cw d) cd_Ring_take (2, 0, n1) Q 6 [mR 137, mR 1, mI x2, none, none, none] [] w) : Wp (Cw d) cd_Ring_take (2, 0, n1) Q 3 [mR 137, mR 1, mI x2, none, none, none] [] w :=
  Wp.s (Wp.s (Wp.s ⟨fun q => Wp.fgd (leA.f (leA.f (leA.f (leA.f (leA.f (leA.f leA.e)))))) (h1 q), fun q => h2 q⟩))
theorem Ring_take_137_1_b6 {d : Nat} {n1 : Int} {Q : MV → Wd → Prop} {x2 : Int} {w : Wd} (h1 : x2 ≤ 1040 → Wp (Cw d) cd_Ring_take (2, 0, n1) Q 12 [mR 137, mR 1, mI x2, none, none, none] [] w) (h2 : ¬ (x2 ≤ 1040) → Wp (Cw d) cd_Ring_take (2, 0, n1) Q 10 [none, none, none, none, none, none] [] w) : Wp (Cw d) cd_Ring_take (2, 0, n1) Q 6 [mR 137, mR 1, mI x2, none, none, none] [] w :=
  Wp.s (Wp.s (Wp.s (Wp.s ⟨fun q => h1 q, fun q => Wp.fgd (leA.f (leA.f (leA.f (leA.f (leA.f (leA.f leA.e)))))) (h2 q)⟩)))
theorem Ring_take_137_1_b10 {d : Nat} {n1 : Int} {Q : MV → Wd → Prop} {w : Wd} (h : Q (mI 0) w) : Wp (Cw d) cd_Ring_take (2, 0, n1) Q 10 [none, none, none, none, none, none] [] w :=
  Wp.s (Wp.s ⟨(Or.inl rfl), h⟩)
theorem Ring_take_137_1_b12 {d : Nat} {n1 : Int} {Q : MV → Wd → Prop} {x2 : Int} {w : Wd} (h : Wp (Cw d) cd_Ring_take (2, 0, n1) Q 16 [mR 137, mR 1, mI x2, mI 0, mI 0, none] [] w) : Wp (Cw d) cd_Ring_take (2, 0, n1) Q 12 [mR 137, mR 1, mI x2, none, none, none] [] w :=
  Wp.s (Wp.s (Wp.s (Wp.s h)))
theorem Ring_take_137_1_b16 {d : Nat} {n1 : Int} {Q : MV → Wd → Prop} {x2 x3 x4 : Int} {w : Wd} (h1 : x2 ≤ x4 → Wp (Cw d) cd_Ring_take (2, 0, n1) Q 47 [mR 137, none, mI x2, none, none, none] [] w) (h2 : ¬ (x2 ≤ x4) → Wp (Cw d) cd_Ring_take (2, 0, n1) Q 19 [mR 137, mR 1, mI x2, mI x3, mI x4, none] [] w) : Wp (Cw d) cd_Ring_take (2, 0, n1) Q 16 [mR 137, mR 1, mI x2, mI x3, mI x4, none] [] w :=
  Wp.s (Wp.s (Wp.s ⟨fun q => Wp.fgd (leA.k (leA.f (leA.k (leA.f (leA.f (leA.f leA.e)))))) (h1 q), fun q => h2 q⟩))
theorem Ring_take_137_1_b19 {d : Nat} {n1 : Int} {Q : MV → Wd → Prop} {x2 x3 x4 : Int} {w : Wd} (g1 : (0 : Int) ≤ x4 ∧ x4 < 1040) (h : Cw d 51 [mR 4, mI (w 1 x4.toNat)] w (fun r w' => Wp (Cw d) cd_Ring_take (2, 0, n1) Q 27 [mR 137, mR 1, mI x2, mI x3, mI x4, mI (w 1 x4.toNat)] [r] w')) : Wp (Cw d) cd_Ring_take (2, 0, n1) Q 19 [mR 137, mR 1, mI x2, mI x3, mI x4, none] [] w :=
  Wp.s (Wp.s (Wp.s ⟨g1, Wp.s (Wp.s (Wp.s (Wp.s (Wp.s h))))⟩))
theorem Ring_take_137_1_b27 {d : Nat} {n1 : Int} {Q : MV → Wd → Prop} {x2 x3 x4 x5 s0 : Int} {w : Wd} (h1 : s0 = 0 → Wp (Cw d) cd_Ring_take (2, 0, n1) Q 32 [none, none, none, none, none, none] [] w) (h2 : ¬ (s0 = 0) → Wp (Cw d) cd_Ring_take (2, 0, n1) Q 28 [mR 137, mR 1, mI x2, mI x3, mI x4, mI x5] [] w) : Wp (Cw d) cd_Ring_take (2, 0, n1) Q 27 [mR 137, mR 1, mI x2, mI x3, mI x4, mI x5] [mI s0] w :=
  Wp.s ⟨fun q => Wp.fgd (leA.f (leA.f (leA.f (leA.f (leA.f (leA.f leA.e)))))) (h1 q), fun q => h2 q⟩
theorem Ring_take_137_1_b28 {d : Nat} {n1 : Int} {Q : MV → Wd → Prop} {x2 x3 x4 x5 : Int} {w : Wd} (h : Cw d 66 [mI x3, mI x5] w (fun r w' => Wp (Cw d) cd_Ring_take (2, 0, n1) Q 31 [mR 137, mR 1, mI x2, mI x3, mI x4, mI x5] [r] w')) : Wp (Cw d) cd_Ring_take (2, 0, n1) Q 28 [mR 137, mR 1, mI x2, mI x3, mI x4, mI x5] [] w :=
  Wp.s (Wp.s (Wp.s h))
theorem Ring_take_137_1_b31 {d : Nat} {n1 : Int} {Q : MV → Wd → Prop} {x2 x3 x4 x5 s0 : Int} {w : Wd} (h1 : s0 = 0 → Wp (Cw d) cd_Ring_take (2, 0, n1) Q 34 [mR 137, mR 1, mI x2, mI x3, mI x4, mI x5] [] w) (h2 : ¬ (s0 = 0) → Wp (Cw d) cd_Ring_take (2, 0, n1) Q 32 [none, none, none, none, none, none] [] w) : Wp (Cw d) cd_Ring_take (2, 0, n1) Q 31 [mR 137, mR 1, mI x2, mI x3, mI x4, mI x5] [mI s0] w :=
  Wp.s ⟨fun q => h1 q, fun q => Wp.fgd (leA.f (leA.f (leA.f (leA.f (leA.f (leA.f leA.e)))))) (h2 q)⟩
theorem Ring_take_137_1_b32 {d : Nat} {n1 : Int} {Q : MV → Wd → Prop} {w : Wd} (h : Q (mI 0) w) : Wp (Cw d) cd_Ring_take (2, 0, n1) Q 32 [none, none, none, none, none, none] [] w :=
  Wp.s (Wp.s ⟨(Or.inl rfl), h⟩)
theorem Ring_take_137_1_b34 {d : Nat} {n1 : Int} {Q : MV → Wd → Prop} {x2 x3 x4 x5 : Int} {w : Wd} (g1 : (0 : Int) ≤ x4 ∧ x4 < 8) (h : Wp (Cw d) cd_Ring_take (2, 0, n1) Q 16 [mR 137, mR 1, mI x2, mI (ior x3 (ishl 1 x5)), mI (w32 (x4 + 1)), none] [] (ub w 138 x4.toNat x5)) : Wp (Cw d) cd_Ring_take (2, 0, n1) Q 34 [mR 137, mR 1, mI x2, mI x3, mI x4, mI x5] [] w :=
  Wp.s (Wp.s (Wp.s (Wp.s (Wp.s (Wp.s (Wp.s (Wp.s (Wp.s (Wp.s (Wp.s ⟨g1, Wp.s (Wp.s (Wp.fgd (leA.k (leA.k (leA.k (leA.k (leA.k (leA.f leA.e)))))) h))⟩))))))))))
theorem Ring_take_137_1_b47 {d : Nat} {n1 : Int} {Q : MV → Wd → Prop} {x2 : Int} {w : Wd} (h : Q (mI 1) (ub w 137 2 x2)) : Wp (Cw d) cd_Ring_take (2, 0, n1) Q 47 [mR 137, none, mI x2, none, none, none] [] w :=
  Wp.s (Wp.s (Wp.s (Wp.s (Wp.s ⟨(Or.inr rfl), h⟩))))
theorem Ring_closes_137_b0 {d : Nat} {n1 : Int} {Q : MV → Wd → Prop} {w : Wd} (h : Wp (Cw d) cd_Ring_closes (2, 0, n1) Q 2 [mR 137, mI 0] [] w) : Wp (Cw d) cd_Ring_closes (2, 0, n1) Q 0 [mR 137, none] [] w :=
  Wp.s (Wp.s h)
theorem Ring_closes_137_b2 {d : Nat} {n1 : Int} {Q : MV → Wd → Prop} {x1 : Int} {w : Wd} (h1 : w 137 2 ≤ x1 → Wp (Cw d) cd_Ring_closes (2, 0, n1) Q 15 [none, none] [] w) (h2 : ¬ (w 137 2 ≤ x1) → Wp (Cw d) cd_Ring_closes (2, 0, n1) Q 6 [mR 137, mI x1] [] w) : Wp (Cw d) cd_Ring_closes (2, 0, n1) Q 2 [mR 137, mI x1] [] w :=
  Wp.s (Wp.s (Wp.s (Wp.s ⟨fun q => Wp.fgd (leA.f (leA.f leA.e)) (h1 q), fun q => h2 q⟩)))
theorem Ring_closes_137_b6 {d : Nat} {n1 : Int} {Q : MV → Wd → Prop} {x1 : Int} {w : Wd} (h : Cw d 131 [mR 137, mI x1] w (fun r w' => Wp (Cw d) cd_Ring_closes (2, 0, n1) Q 9 [mR 137, mI x1] [r] w')) : Wp (Cw d) cd_Ring_closes (2, 0, n1) Q 6 [mR 137, mI x1] [] w :=
  Wp.s (Wp.s (Wp.s h))
theorem Ring_closes_137_b9 {d : Nat} {n1 : Int} {Q : MV → Wd → Prop} {x1 s0 : Int} {w : Wd} (h1 : ¬ s0 = (-1) → Wp (Cw d) cd_Ring_closes (2, 0, n1) Q 13 [mR 137, mI x1] [] w) (h2 : ¬ (¬ s0 = (-1)) → Wp (Cw d) cd_Ring_closes (2, 0, n1) Q 11 [none, none] [] w) : Wp (Cw d) cd_Ring_closes (2, 0, n1) Q 9 [mR 137, mI x1] [mI s0] w :=
  Wp.s (Wp.s ⟨fun q => h1 q, fun q => Wp.fgd (leA.f (leA.f leA.e)) (h2 q)⟩)
theorem Ring_closes_137_b11 {d : Nat} {n1 : Int} {Q : MV → Wd → Prop} {w : Wd} (h : Q (mI 0) w) : Wp (Cw d) cd_Ring_closes (2, 0, n1) Q 11 [none, none] [] w :=
  Wp.s (Wp.s ⟨(Or.inl rfl), h⟩)
theorem Ring_closes_137_b13 {d : Nat} {n1 : Int} {Q : MV → Wd → Prop} {x1 : Int} {w : Wd} (h : Wp (Cw d) cd_Ring_closes (2, 0, n1) Q 2 [mR 137, mI (w32 (x1 + 1))] [] w) : Wp (Cw d) cd_Ring_closes (2, 0, n1) Q 13 [mR 137, mI x1] [] w :=
  Wp.s (Wp.s h)
theorem Ring_closes_137_b15 {d : Nat} {n1 : Int} {Q : MV → Wd → Prop} {w : Wd} (h : Q (mI 1) w) : Wp (Cw d) cd_Ring_closes (2, 0, n1) Q 15 [none, none] [] w :=
  Wp.s (Wp.s ⟨(Or.inr rfl), h⟩)
theorem Ring_reckon_137_b0 {d : Nat} {n1 : Int} {Q : MV → Wd → Prop} {w : Wd} (h : Cw d 276 [mR 139, mI 0] w (fun _ w' => Wp (Cw d) cd_Ring_reckon (0, 0, n1) Q 4 [mR 137, none, none] [] w')) : Wp (Cw d) cd_Ring_reckon (0, 0, n1) Q 0 [mR 137, none, none] [] w :=
  Wp.s (Wp.s (Wp.s (Wp.s h)))
theorem Ring_reckon_137_b4 {d : Nat} {n1 : Int} {Q : MV → Wd → Prop} {w : Wd} (h : Wp (Cw d) cd_Ring_reckon (0, 0, n1) Q 6 [mR 137, mI 0, none] [] w) : Wp (Cw d) cd_Ring_reckon (0, 0, n1) Q 4 [mR 137, none, none] [] w :=
  Wp.s (Wp.s h)
theorem Ring_reckon_137_b6 {d : Nat} {n1 : Int} {Q : MV → Wd → Prop} {x1 : Int} {w : Wd} (h1 : w 137 2 ≤ x1 → Wp (Cw d) cd_Ring_reckon (0, 0, n1) Q 31 [none, none, none] [] w) (h2 : ¬ (w 137 2 ≤ x1) → Wp (Cw d) cd_Ring_reckon (0, 0, n1) Q 10 [mR 137, mI x1, none] [] w) : Wp (Cw d) cd_Ring_reckon (0, 0, n1) Q 6 [mR 137, mI x1, none] [] w :=
  Wp.s (Wp.s (Wp.s (Wp.s ⟨fun q => Wp.fgd (leA.f (leA.f (leA.f leA.e))) (h1 q), fun q => h2 q⟩)))
theorem Ring_reckon_137_b10 {d : Nat} {n1 : Int} {Q : MV → Wd → Prop} {x1 : Int} {w : Wd} (g1 : (0 : Int) ≤ x1 ∧ x1 < 8) (h : Cw d 135 [mR 137, mI (w 138 x1.toNat)] w (fun r w' => Wp (Cw d) cd_Ring_reckon (0, 0, n1) Q 16 [mR 137, mI x1, none] [r] w')) : Wp (Cw d) cd_Ring_reckon (0, 0, n1) Q 10 [mR 137, mI x1, none] [] w :=
  Wp.s (Wp.s (Wp.s (Wp.s (Wp.s ⟨g1, Wp.s h⟩))))
theorem Ring_reckon_137_b16 {d : Nat} {n1 : Int} {Q : MV → Wd → Prop} {x1 s0 : Int} {w : Wd} (h1 : s0 = (-1) → Wp (Cw d) cd_Ring_reckon (0, 0, n1) Q 29 [mR 137, mI x1, none] [] w) (h2 : ¬ (s0 = (-1)) → Wp (Cw d) cd_Ring_reckon (0, 0, n1) Q 20 [mR 137, mI x1, mI s0] [] w) : Wp (Cw d) cd_Ring_reckon (0, 0, n1) Q 16 [mR 137, mI x1, none] [mI s0] w :=
  Wp.s (Wp.s (Wp.s (Wp.s ⟨fun q => Wp.fgd (leA.k (leA.k (leA.f leA.e))) (h1 q), fun q => h2 q⟩)))
theorem Ring_reckon_137_b20 {d : Nat} {n1 : Int} {Q : MV → Wd → Prop} {x1 x2 : Int} {w : Wd} (h : Cw d 136 [mR 137, mI x2, mI x1] w (fun r w' => Wp (Cw d) cd_Ring_reckon (0, 0, n1) Q 24 [mR 137, mI x1, mI x2] [r] w')) : Wp (Cw d) cd_Ring_reckon (0, 0, n1) Q 20 [mR 137, mI x1, mI x2] [] w :=
  Wp.s (Wp.s (Wp.s (Wp.s h)))
theorem Ring_reckon_137_b24 {d : Nat} {n1 : Int} {Q : MV → Wd → Prop} {x1 x2 s0 : Int} {w : Wd} (h1 : s0 = 0 → Wp (Cw d) cd_Ring_reckon (0, 0, n1) Q 29 [mR 137, mI x1, none] [] w) (h2 : ¬ (s0 = 0) → Wp (Cw d) cd_Ring_reckon (0, 0, n1) Q 25 [mR 137, mI x1, mI x2] [] w) : Wp (Cw d) cd_Ring_reckon (0, 0, n1) Q 24 [mR 137, mI x1, mI x2] [mI s0] w :=
  Wp.s ⟨fun q => Wp.fgd (leA.k (leA.k (leA.f leA.e))) (h1 q), fun q => h2 q⟩
theorem Ring_reckon_137_b25 {d : Nat} {n1 : Int} {Q : MV → Wd → Prop} {x1 x2 : Int} {w : Wd} (h : Cw d 137 [mR 137, mI x2, mI x1] w (fun _ w' => Wp (Cw d) cd_Ring_reckon (0, 0, n1) Q 29 [mR 137, mI x1, none] [] w')) : Wp (Cw d) cd_Ring_reckon (0, 0, n1) Q 25 [mR 137, mI x1, mI x2] [] w :=
  Wp.s (Wp.s (Wp.s (Wp.s (Cw_mono _ _ _ _ _ _ (fun r w' q => Wp.fgd (leA.k (leA.k (leA.f leA.e))) q) h))))
theorem Ring_reckon_137_b29 {d : Nat} {n1 : Int} {Q : MV → Wd → Prop} {x1 : Int} {w : Wd} (h : Wp (Cw d) cd_Ring_reckon (0, 0, n1) Q 6 [mR 137, mI (w32 (x1 + 1)), none] [] w) : Wp (Cw d) cd_Ring_reckon (0, 0, n1) Q 29 [mR 137, mI x1, none] [] w :=
  Wp.s (Wp.s h)
theorem Ring_reckon_137_b31 {d : Nat} {n1 : Int} {Q : MV → Wd → Prop} {w : Wd} (h : Q none w) : Wp (Cw d) cd_Ring_reckon (0, 0, n1) Q 31 [none, none, none] [] w :=
  Wp.s h
theorem Told_keepGains_140_139_b0 {d : Nat} {n1 : Int} {Q : MV → Wd → Prop} {x2 : Int} {w : Wd} (h : Cw d 48 [mR 139, mR 143] w (fun _ w' => Wp (Cw d) cd_Told_keepGains (0, 0, n1) Q 4 [mR 140, none, mI x2] [] w')) : Wp (Cw d) cd_Told_keepGains (0, 0, n1) Q 0 [mR 140, mR 139, mI x2] [] w :=
  Wp.s (Wp.s (Wp.s (Wp.s (Cw_mono _ _ _ _ _ _ (fun r w' q => Wp.fgd (leA.k (leA.f (leA.k leA.e))) q) h))))
theorem Told_keepGains_140_139_b4 {d : Nat} {n1 : Int} {Q : MV → Wd → Prop} {x2 : Int} {w : Wd} (h : Q none (ub w 140 5 x2)) : Wp (Cw d) cd_Told_keepGains (0, 0, n1) Q 4 [mR 140, none, mI x2] [] w :=
  Wp.s (Wp.s (Wp.s (Wp.s h)))
theorem Ring_losers_137_b0 {d : Nat} {n1 : Int} {Q : MV → Wd → Prop} {w : Wd} (h : Wp (Cw d) cd_Ring_losers (1, 0, n1) Q 4 [mR 137, mI 0, mI 0] [] w) : Wp (Cw d) cd_Ring_losers (1, 0, n1) Q 0 [mR 137, none, none] [] w :=
  Wp.s (Wp.s (Wp.s (Wp.s h)))
theorem Ring_losers_137_b4 {d : Nat} {n1 : Int} {Q : MV → Wd → Prop} {x1 x2 : Int} {w : Wd} (h1 : w 137 2 ≤ x2 → Wp (Cw d) cd_Ring_losers (1, 0, n1) Q 26 [none, mI x1, none] [] w) (h2 : ¬ (w 137 2 ≤ x2) → Wp (Cw d) cd_Ring_losers (1, 0, n1) Q 8 [mR 137, mI x1, mI x2] [] w) : Wp (Cw d) cd_Ring_losers (1, 0, n1) Q 4 [mR 137, mI x1, mI x2] [] w :=
  Wp.s (Wp.s (Wp.s (Wp.s ⟨fun q => Wp.fgd (leA.f (leA.k (leA.f leA.e))) (h1 q), fun q => h2 q⟩)))
theorem Ring_losers_137_b8 {d : Nat} {n1 : Int} {Q : MV → Wd → Prop} {x1 x2 : Int} {w : Wd} (g1 : (0 : Int) ≤ x2 ∧ x2 < 8) (h1 : 0 ≤ w 139 x2.toNat → Wp (Cw d) cd_Ring_losers (1, 0, n1) Q 21 [mR 137, none, mI x2] [mI x1] w) (h2 : ¬ (0 ≤ w 139 x2.toNat) → Wp (Cw d) cd_Ring_losers (1, 0, n1) Q 14 [mR 137, none, mI x2] [mI x1] w) : Wp (Cw d) cd_Ring_losers (1, 0, n1) Q 8 [mR 137, mI x1, mI x2] [] w :=
  Wp.s (Wp.s (Wp.s (Wp.s (Wp.s ⟨g1, Wp.s ⟨fun q => Wp.fgd (leA.k (leA.f (leA.k leA.e))) (h1 q), fun q => Wp.fgd (leA.k (leA.f (leA.k leA.e))) (h2 q)⟩⟩))))
theorem Ring_losers_137_b14 {d : Nat} {n1 : Int} {Q : MV → Wd → Prop} {x2 s0 : Int} {w : Wd} (g1 : (0 : Int) ≤ x2 ∧ x2 < 8) (h : Wp (Cw d) cd_Ring_losers (1, 0, n1) Q 22 [mR 137, none, mI x2] [mI (ishl 1 (w 138 x2.toNat)), mI s0] w) : Wp (Cw d) cd_Ring_losers (1, 0, n1) Q 14 [mR 137, none, mI x2] [mI s0] w :=
  Wp.s (Wp.s (Wp.s (Wp.s (Wp.s ⟨g1, Wp.s (Wp.s h)⟩))))
theorem Ring_losers_137_b21 {d : Nat} {n1 : Int} {Q : MV → Wd → Prop} {x2 s0 : Int} {w : Wd} (h : Wp (Cw d) cd_Ring_losers (1, 0, n1) Q 22 [mR 137, none, mI x2] [mI 0, mI s0] w) : Wp (Cw d) cd_Ring_losers (1, 0, n1) Q 21 [mR 137, none, mI x2] [mI s0] w :=
  Wp.s h
theorem Ring_losers_137_b22 {d : Nat} {n1 : Int} {Q : MV → Wd → Prop} {x2 s0 s1 : Int} {w : Wd} (h : Wp (Cw d) cd_Ring_losers (1, 0, n1) Q 4 [mR 137, mI (ior s1 s0), mI (w32 (x2 + 1))] [] w) : Wp (Cw d) cd_Ring_losers (1, 0, n1) Q 22 [mR 137, none, mI x2] [mI s0, mI s1] w :=
  Wp.s (Wp.s (Wp.s (Wp.s h)))
theorem Ring_losers_137_b26 {d : Nat} {n1 : Int} {Q : MV → Wd → Prop} {x1 : Int} {w : Wd} (h : Q (mI x1) w) : Wp (Cw d) cd_Ring_losers (1, 0, n1) Q 26 [none, mI x1, none] [] w :=
  Wp.s (Wp.s h)
theorem M_isRing_144_b0 {d : Nat} {n1 : Int} {Q : MV → Wd → Prop} {w : Wd} (h : Cw d 187 [mI (w 144 3), mI 2, mI 8] w (fun r w' => Wp (Cw d) cd_M_isRing (2, 0, n1) Q 5 [mR 144, none, none] [r] w')) : Wp (Cw d) cd_M_isRing (2, 0, n1) Q 0 [mR 144, none, none] [] w :=
  Wp.s (Wp.s (Wp.s (Wp.s (Wp.s h))))
theorem M_isRing_144_b5 {d : Nat} {n1 : Int} {Q : MV → Wd → Prop} {s0 : Int} {w : Wd} (h1 : ¬ s0 = 0 → Wp (Cw d) cd_M_isRing (2, 0, n1) Q 8 [mR 144, none, none] [] w) (h2 : ¬ (¬ s0 = 0) → Wp (Cw d) cd_M_isRing (2, 0, n1) Q 6 [none, none, none] [] w) : Wp (Cw d) cd_M_isRing (2, 0, n1) Q 5 [mR 144, none, none] [mI s0] w :=
  Wp.s ⟨fun q => h1 q, fun q => Wp.fgd (leA.f (leA.f (leA.f leA.e))) (h2 q)⟩
theorem M_isRing_144_b6 {d : Nat} {n1 : Int} {Q : MV → Wd → Prop} {w : Wd} (h : Q (mI 0) w) : Wp (Cw d) cd_M_isRing (2, 0, n1) Q 6 [none, none, none] [] w :=
  Wp.s (Wp.s ⟨(Or.inl rfl), h⟩)
theorem M_isRing_144_b8 {d : Nat} {n1 : Int} {Q : MV → Wd → Prop} {w : Wd} (h : Wp (Cw d) cd_M_isRing (2, 0, n1) Q 16 [mR 144, mI 0, mI 0] [] (ub w 144 70 (w 144 3))) : Wp (Cw d) cd_M_isRing (2, 0, n1) Q 8 [mR 144, none, none] [] w :=
  Wp.s (Wp.s (Wp.s (Wp.s (Wp.s (Wp.s (Wp.s (Wp.s h)))))))
theorem M_isRing_144_b16 {d : Nat} {n1 : Int} {Q : MV → Wd → Prop} {x1 x2 : Int} {w : Wd} (h1 : w 144 3 ≤ x2 → Wp (Cw d) cd_M_isRing (2, 0, n1) Q 54 [none, none, none] [] w) (h2 : ¬ (w 144 3 ≤ x2) → Wp (Cw d) cd_M_isRing (2, 0, n1) Q 20 [mR 144, mI x1, mI x2] [] w) : Wp (Cw d) cd_M_isRing (2, 0, n1) Q 16 [mR 144, mI x1, mI x2] [] w :=
  Wp.s (Wp.s (Wp.s (Wp.s ⟨fun q => Wp.fgd (leA.f (leA.f (leA.f leA.e))) (h1 q), fun q => h2 q⟩)))
theorem M_isRing_144_b20 {d : Nat} {n1 : Int} {Q : MV → Wd → Prop} {x1 x2 : Int} {w : Wd} (h : Cw d 256 [mR 144, mI x2] w (fun r w' => Wp (Cw d) cd_M_isRing (2, 0, n1) Q 26 [mR 144, mI x1, mI x2] [r, mI x2, mR 177] w')) : Wp (Cw d) cd_M_isRing (2, 0, n1) Q 20 [mR 144, mI x1, mI x2] [] w :=
  Wp.s (Wp.s (Wp.s (Wp.s (Wp.s (Wp.s h)))))
theorem M_isRing_144_b26 {d : Nat} {n1 : Int} {Q : MV → Wd → Prop} {x1 x2 s0 s1 : Int} {w : Wd} (g1 : (0 : Int) ≤ s1 ∧ s1 < 8) (g2 : (0 : Int) ≤ x2 ∧ x2 < 8) (h : Cw d 206 [mR 144, mI ((up1 (w 177) s1.toNat s0) x2.toNat)] (ub w 177 s1.toNat s0) (fun r w' => Wp (Cw d) cd_M_isRing (2, 0, n1) Q 33 [mR 144, mI x1, mI x2] [r] w')) : Wp (Cw d) cd_M_isRing (2, 0, n1) Q 26 [mR 144, mI x1, mI x2] [mI s0, mI s1, mR 177] w :=
  Wp.s ⟨g1, Wp.s (Wp.s (Wp.s (Wp.s (Wp.s ⟨g2, Wp.s h⟩))))⟩
theorem M_isRing_144_b33 {d : Nat} {n1 : Int} {Q : MV → Wd → Prop} {x1 x2 s0 : Int} {w : Wd} (h1 : s0 = 0 → Wp (Cw d) cd_M_isRing (2, 0, n1) Q 41 [none, none, none] [] w) (h2 : ¬ (s0 = 0) → Wp (Cw d) cd_M_isRing (2, 0, n1) Q 34 [mR 144, mI x1, mI x2] [] w) : Wp (Cw d) cd_M_isRing (2, 0, n1) Q 33 [mR 144, mI x1, mI x2] [mI s0] w :=
  Wp.s ⟨fun q => Wp.fgd (leA.f (leA.f (leA.f leA.e))) (h1 q), fun q => h2 q⟩
theorem M_isRing_144_b34 {d : Nat} {n1 : Int} {Q : MV → Wd → Prop} {x1 x2 : Int} {w : Wd} (g1 : (0 : Int) ≤ x2 ∧ x2 < 8) (h : Cw d 211 [mI x1, mI (w 177 x2.toNat)] w (fun r w' => Wp (Cw d) cd_M_isRing (2, 0, n1) Q 40 [mR 144, mI x1, mI x2] [r] w')) : Wp (Cw d) cd_M_isRing (2, 0, n1) Q 34 [mR 144, mI x1, mI x2] [] w :=
  Wp.s (Wp.s (Wp.s (Wp.s (Wp.s ⟨g1, Wp.s h⟩))))
theorem M_isRing_144_b40 {d : Nat} {n1 : Int} {Q : MV → Wd → Prop} {x1 x2 s0 : Int} {w : Wd} (h1 : s0 = 0 → Wp (Cw d) cd_M_isRing (2, 0, n1) Q 43 [mR 144, mI x1, mI x2] [] w) (h2 : ¬ (s0 = 0) → Wp (Cw d) cd_M_isRing (2, 0, n1) Q 41 [none, none, none] [] w) : Wp (Cw d) cd_M_isRing (2, 0, n1) Q 40 [mR 144, mI x1, mI x2] [mI s0] w :=
  Wp.s ⟨fun q => h1 q, fun q => Wp.fgd (leA.f (leA.f (leA.f leA.e))) (h2 q)⟩
theorem M_isRing_144_b41 {d : Nat} {n1 : Int} {Q : MV → Wd → Prop} {w : Wd} (h : Q (mI 0) w) : Wp (Cw d) cd_M_isRing (2, 0, n1) Q 41 [none, none, none] [] w :=
  Wp.s (Wp.s ⟨(Or.inl rfl), h⟩)
theorem M_isRing_144_b43 {d : Nat} {n1 : Int} {Q : MV → Wd → Prop} {x1 x2 : Int} {w : Wd} (g1 : (0 : Int) ≤ x2 ∧ x2 < 8) (h : Wp (Cw d) cd_M_isRing (2, 0, n1) Q 16 [mR 144, mI (ior x1 (ishl 1 (w 177 x2.toNat))), mI (w32 (x2 + 1))] [] w) : Wp (Cw d) cd_M_isRing (2, 0, n1) Q 43 [mR 144, mI x1, mI x2] [] w :=
  Wp.s (Wp.s (Wp.s (Wp.s (Wp.s (Wp.s ⟨g1, Wp.s (Wp.s (Wp.s (Wp.s (Wp.s h))))⟩)))))
theorem M_isRing_144_b54 {d : Nat} {n1 : Int} {Q : MV → Wd → Prop} {w : Wd} (h : Q (mI 1) w) : Wp (Cw d) cd_M_isRing (2, 0, n1) Q 54 [none, none, none] [] w :=
  Wp.s (Wp.s ⟨(Or.inr rfl), h⟩)
theorem M_goesRound_144_b0 {d : Nat} {n1 : Int} {Q : MV → Wd → Prop} {w : Wd} (h : Wp (Cw d) cd_M_goesRound (2, 0, n1) Q 2 [mR 144, mI 0] [] w) : Wp (Cw d) cd_M_goesRound (2, 0, n1) Q 0 [mR 144, none] [] w :=
  Wp.s (Wp.s h)
theorem M_goesRound_144_b2 {d : Nat} {n1 : Int} {Q : MV → Wd → Prop} {x1 : Int} {w : Wd} (h1 : w 144 70 ≤ x1 → Wp (Cw d) cd_M_goesRound (2, 0, n1) Q 32 [none, none] [] w) (h2 : ¬ (w 144 70 ≤ x1) → Wp (Cw d) cd_M_goesRound (2, 0, n1) Q 6 [mR 144, mI x1] [] w) : Wp (Cw d) cd_M_goesRound (2, 0, n1) Q 2 [mR 144, mI x1] [] w :=
  Wp.s (Wp.s (Wp.s (Wp.s ⟨fun q => Wp.fgd (leA.f (leA.f leA.e)) (h1 q), fun q => h2 q⟩)))
theorem M_goesRound_144_b6 {d : Nat} {n1 : Int} {Q : MV → Wd → Prop} {x1 : Int} {w : Wd} (g1 : (0 : Int) ≤ x1 ∧ x1 < 8) (g2 : ¬ w 144 70 = 0) (g3 : (0 : Int) ≤ Int.tmod (w32 (x1 + 1)) (w 144 70) ∧ Int.tmod (w32 (x1 + 1)) (w 144 70) < 8) (g4 : (0 : Int) ≤ w32 ((w32 (269 + (w32 (8 * (w 177 x1.toNat))))) + (w 177 (Int.tmod (w32 (x1 + 1)) (w 144 70)).toNat)) ∧ w32 ((w32 (269 + (w32 (8 * (w 177 x1.toNat))))) + (w 177 (Int.tmod (w32 (x1 + 1)) (w 144 70)).toNat)) < 645) (h1 : ¬ w 146 (w32 ((w32 (269 + (w32 (8 * (w 177 x1.toNat))))) + (w 177 (Int.tmod (w32 (x1 + 1)) (w 144 70)).toNat))).toNat = 0 → Wp (Cw d) cd_M_goesRound (2, 0, n1) Q 30 [mR 144, mI x1] [] w) (h2 : ¬ (¬ w 146 (w32 ((w32 (269 + (w32 (8 * (w 177 x1.toNat))))) + (w 177 (Int.tmod (w32 (x1 + 1)) (w 144 70)).toNat))).toNat = 0) → Wp (Cw d) cd_M_goesRound (2, 0, n1) Q 28 [none, none] [] w) : Wp (Cw d) cd_M_goesRound (2, 0, n1) Q 6 [mR 144, mI x1] [] w :=
  Wp.s (Wp.s (Wp.s (Wp.s (Wp.s (Wp.s (Wp.s (Wp.s ⟨g1, Wp.s (Wp.s (Wp.s (Wp.s (Wp.s (Wp.s (Wp.s (Wp.s (Wp.s (Wp.s ⟨g2, Wp.s ⟨g3, Wp.s (Wp.s ⟨g4, Wp.s ⟨fun q => h1 q, fun q => Wp.fgd (leA.f (leA.f leA.e)) (h2 q)⟩⟩)⟩⟩)))))))))⟩)))))))
theorem M_goesRound_144_b28 {d : Nat} {n1 : Int} {Q : MV → Wd → Prop} {w : Wd} (h : Q (mI 0) w) : Wp (Cw d) cd_M_goesRound (2, 0, n1) Q 28 [none, none] [] w :=
  Wp.s (Wp.s ⟨(Or.inl rfl), h⟩)
theorem M_goesRound_144_b30 {d : Nat} {n1 : Int} {Q : MV → Wd → Prop} {x1 : Int} {w : Wd} (h : Wp (Cw d) cd_M_goesRound (2, 0, n1) Q 2 [mR 144, mI (w32 (x1 + 1))] [] w) : Wp (Cw d) cd_M_goesRound (2, 0, n1) Q 30 [mR 144, mI x1] [] w :=
  Wp.s (Wp.s h)
theorem M_goesRound_144_b32 {d : Nat} {n1 : Int} {Q : MV → Wd → Prop} {w : Wd} (h : Q (mI 1) w) : Wp (Cw d) cd_M_goesRound (2, 0, n1) Q 32 [none, none] [] w :=
  Wp.s (Wp.s ⟨(Or.inr rfl), h⟩)
theorem M_gain0_144_b0 {d : Nat} {n1 : Int} {Q : MV → Wd → Prop} {w : Wd} (h : Wp (Cw d) cd_M_gain0 (0, 0, n1) Q 2 [mR 144, mI 0, none, none, none, none] [] w) : Wp (Cw d) cd_M_gain0 (0, 0, n1) Q 0 [mR 144, none, none, none, none, none] [] w :=
  Wp.s (Wp.s h)
theorem M_gain0_144_b2 {d : Nat} {n1 : Int} {Q : MV → Wd → Prop} {x1 : Int} {w : Wd} (h1 : w 144 70 ≤ x1 → Wp (Cw d) cd_M_gain0 (0, 0, n1) Q 13 [mR 144, none, none, none, none, none] [] w) (h2 : ¬ (w 144 70 ≤ x1) → Wp (Cw d) cd_M_gain0 (0, 0, n1) Q 6 [mR 144, mI x1, none, none, none, none] [] w) : Wp (Cw d) cd_M_gain0 (0, 0, n1) Q 2 [mR 144, mI x1, none, none, none, none] [] w :=
  Wp.s (Wp.s (Wp.s (Wp.s ⟨fun q => Wp.fgd (leA.k (leA.f (leA.f (leA.f (leA.f (leA.f leA.e)))))) (h1 q), fun q => h2 q⟩)))
theorem M_gain0_144_b6 {d : Nat} {n1 : Int} {Q : MV → Wd → Prop} {x1 : Int} {w : Wd} (g1 : (0 : Int) ≤ x1 ∧ x1 < 8) (h : Wp (Cw d) cd_M_gain0 (0, 0, n1) Q 2 [mR 144, mI (w32 (x1 + 1)), none, none, none, none] [] (ub w 178 x1.toNat 0)) : Wp (Cw d) cd_M_gain0 (0, 0, n1) Q 6 [mR 144, mI x1, none, none, none, none] [] w :=
  Wp.s (Wp.s (Wp.s (Wp.s (Wp.s ⟨g1, Wp.s (Wp.s h)⟩))))
theorem M_gain0_144_b13 {d : Nat} {n1 : Int} {Q : MV → Wd → Prop} {w : Wd} (h : Wp (Cw d) cd_M_gain0 (0, 0, n1) Q 15 [mR 144, mI 0, none, none, none, none] [] w) : Wp (Cw d) cd_M_gain0 (0, 0, n1) Q 13 [mR 144, none, none, none, none, none] [] w :=
  Wp.s (Wp.s h)
theorem M_gain0_144_b15 {d : Nat} {n1 : Int} {Q : MV → Wd → Prop} {x1 : Int} {w : Wd} (h1 : w 144 70 ≤ x1 → Wp (Cw d) cd_M_gain0 (0, 0, n1) Q 164 [none, none, none, none, none, none] [] w) (h2 : ¬ (w 144 70 ≤ x1) → Wp (Cw d) cd_M_gain0 (0, 0, n1) Q 19 [mR 144, mI x1, none, none, none, none] [] w) : Wp (Cw d) cd_M_gain0 (0, 0, n1) Q 15 [mR 144, mI x1, none, none, none, none] [] w :=
  Wp.s (Wp.s (Wp.s (Wp.s ⟨fun q => Wp.fgd (leA.f (leA.f (leA.f (leA.f (leA.f (leA.f leA.e)))))) (h1 q), fun q => h2 q⟩)))
theorem M_gain0_144_b19 {d : Nat} {n1 : Int} {Q : MV → Wd → Prop} {x1 : Int} {w : Wd} (g1 : (0 : Int) ≤ x1 ∧ x1 < 8) (h : Cw d 259 [mR 144, mI (w 177 x1.toNat)] w (fun r w' => Wp (Cw d) cd_M_gain0 (0, 0, n1) Q 25 [mR 144, mI x1, none, none, none, none] [r] w')) : Wp (Cw d) cd_M_gain0 (0, 0, n1) Q 19 [mR 144, mI x1, none, none, none, none] [] w :=
  Wp.s (Wp.s (Wp.s (Wp.s (Wp.s ⟨g1, Wp.s h⟩))))
theorem M_gain0_144_b25 {d : Nat} {n1 : Int} {Q : MV → Wd → Prop} {x1 s0 : Int} {w : Wd} (h1 : s0 < 0 → Wp (Cw d) cd_M_gain0 (0, 0, n1) Q 162 [mR 144, mI x1, none, none, none, none] [] w) (h2 : ¬ (s0 < 0) → Wp (Cw d) cd_M_gain0 (0, 0, n1) Q 28 [mR 144, mI x1, mI s0, none, none, none] [] w) : Wp (Cw d) cd_M_gain0 (0, 0, n1) Q 25 [mR 144, mI x1, none, none, none, none] [mI s0] w :=
  Wp.s (Wp.s (Wp.s ⟨fun q => Wp.fgd (leA.k (leA.k (leA.f (leA.f (leA.f (leA.f leA.e)))))) (h1 q), fun q => h2 q⟩))
theorem M_gain0_144_b28 {d : Nat} {n1 : Int} {Q : MV → Wd → Prop} {x1 x2 : Int} {w : Wd} (h : Cw d 260 [mR 144, mI x2, mI x1] w (fun r w' => Wp (Cw d) cd_M_gain0 (0, 0, n1) Q 32 [mR 144, mI x1, mI x2, none, none, none] [r] w')) : Wp (Cw d) cd_M_gain0 (0, 0, n1) Q 28 [mR 144, mI x1, mI x2, none, none, none] [] w :=
  Wp.s (Wp.s (Wp.s (Wp.s h)))
theorem M_gain0_144_b32 {d : Nat} {n1 : Int} {Q : MV → Wd → Prop} {x1 x2 s0 : Int} {w : Wd} (h1 : ¬ s0 = 0 → Wp (Cw d) cd_M_gain0 (0, 0, n1) Q 34 [mR 144, mI x1, mI x2, none, none, none] [] w) (h2 : ¬ (¬ s0 = 0) → Wp (Cw d) cd_M_gain0 (0, 0, n1) Q 33 [mR 144, mI x1, none, none, none, none] [] w) : Wp (Cw d) cd_M_gain0 (0, 0, n1) Q 32 [mR 144, mI x1, mI x2, none, none, none] [mI s0] w :=
  Wp.s ⟨fun q => h1 q, fun q => Wp.fgd (leA.k (leA.k (leA.f (leA.f (leA.f (leA.f leA.e)))))) (h2 q)⟩
theorem M_gain0_144_b33 {d : Nat} {n1 : Int} {Q : MV → Wd → Prop} {x1 : Int} {w : Wd} (h : Wp (Cw d) cd_M_gain0 (0, 0, n1) Q 162 [mR 144, mI x1, none, none, none, none] [] w) : Wp (Cw d) cd_M_gain0 (0, 0, n1) Q 33 [mR 144, mI x1, none, none, none, none] [] w :=
  Wp.s h
theorem M_gain0_144_b34 {d : Nat} {n1 : Int} {Q : MV → Wd → Prop} {x1 x2 : Int} {w : Wd} (h : Wp (Cw d) cd_M_gain0 (0, 0, n1) Q 36 [mR 144, mI x1, mI x2, mI 0, none, none] [] w) : Wp (Cw d) cd_M_gain0 (0, 0, n1) Q 34 [mR 144, mI x1, mI x2, none, none, none] [] w :=
  Wp.s (Wp.s h)
theorem M_gain0_144_b36 {d : Nat} {n1 : Int} {Q : MV → Wd → Prop} {x1 x2 x3 : Int} {w : Wd} (h1 : w 146 4.toNat ≤ w32 (x3 + 1) → Wp (Cw d) cd_M_gain0 (0, 0, n1) Q 86 [mR 144, mI x1, mI x2, none, none, none] [] w) (h2 : ¬ (w 146 4.toNat ≤ w32 (x3 + 1)) → Wp (Cw d) cd_M_gain0 (0, 0, n1) Q 44 [mR 144, mI x1, mI x2, mI x3, none, none] [] w) : Wp (Cw d) cd_M_gain0 (0, 0, n1) Q 36 [mR 144, mI x1, mI x2, mI x3, none, none] [] w :=
  Wp.s (Wp.s (Wp.s (Wp.s (Wp.s (Wp.s (Wp.s ⟨(by decide), Wp.s ⟨fun q => Wp.fgd (leA.k (leA.k (leA.k (leA.f (leA.f (leA.f leA.e)))))) (h1 q), fun q => h2 q⟩⟩))))))
theorem M_gain0_144_b44 {d : Nat} {n1 : Int} {Q : MV → Wd → Prop} {x1 x2 x3 : Int} {w : Wd} (g1 : ¬ w 144 70 = 0) (g2 : (0 : Int) ≤ Int.tmod (w32 (x1 + x3)) (w 144 70) ∧ Int.tmod (w32 (x1 + x3)) (w 144 70) < 8) (g3 : ¬ w 144 70 = 0) (g4 : (0 : Int) ≤ Int.tmod (w32 (x1 + x3)) (w 144 70) ∧ Int.tmod (w32 (x1 + x3)) (w 144 70) < 8) (g5 : ¬ w 144 70 = 0) (g6 : (0 : Int) ≤ Int.tmod (w32 ((w32 (x1 + x3)) + 1)) (w 144 70) ∧ Int.tmod (w32 ((w32 (x1 + x3)) + 1)) (w 144 70) < 8) (g7 : (0 : Int) ≤ w32 ((w32 (141 + (w32 (8 * (w 177 (Int.tmod (w32 (x1 + x3)) (w 144 70)).toNat))))) + (w 177 (Int.tmod (w32 ((w32 (x1 + x3)) + 1)) (w 144 70)).toNat)) ∧ w32 ((w32 (141 + (w32 (8 * (w 177 (Int.tmod (w32 (x1 + x3)) (w 144 70)).toNat))))) + (w 177 (Int.tmod (w32 ((w32 (x1 + x3)) + 1)) (w 144 70)).toNat)) < 645) (g8 : (0 : Int) ≤ Int.tmod (w32 (x1 + x3)) (w 144 70) ∧ Int.tmod (w32 (x1 + x3)) (w 144 70) < 8) (h : Wp (Cw d) cd_M_gain0 (0, 0, n1) Q 36 [mR 144, mI x1, mI x2, mI (w32 (x3 + 1)), none, none] [] (ub w 178 (Int.tmod (w32 (x1 + x3)) (w 144 70)).toNat (w32 ((w 178 (Int.tmod (w32 (x1 + x3)) (w 144 70)).toNat) - (w 146 (w32 ((w32 (141 + (w32 (8 * (w 177 (Int.tmod (w32 (x1 + x3)) (w 144 70)).toNat))))) + (w 177 (Int.tmod (w32 ((w32 (x1 + x3)) + 1)) (w 144 70)).toNat))).toNat))))) : Wp (Cw d) cd_M_gain0 (0, 0, n1) Q 44 [mR 144, mI x1, mI x2, mI x3, none, none] [] w :=
  Wp.s (Wp.s (Wp.s (Wp.s (Wp.s (Wp.s (Wp.s (Wp.s ⟨g1, Wp.s (Wp.s ⟨g2, Wp.s (Wp.s (Wp.s (Wp.s (Wp.s (Wp.s (Wp.s (Wp.s (Wp.s (Wp.s (Wp.s (Wp.s ⟨g3, Wp.s ⟨g4, Wp.s (Wp.s (Wp.s (Wp.s (Wp.s (Wp.s (Wp.s (Wp.s (Wp.s (Wp.s (Wp.s (Wp.s ⟨g5, Wp.s ⟨g6, Wp.s (Wp.s ⟨g7, Wp.s (Wp.s ⟨g8, Wp.s (Wp.s h)⟩)⟩)⟩⟩)))))))))))⟩⟩)))))))))))⟩)⟩)))))))
theorem M_gain0_144_b86 {d : Nat} {n1 : Int} {Q : MV → Wd → Prop} {x1 x2 : Int} {w : Wd} (g2 : ¬ w 144 70 = 0) (h : Wp (Cw d) cd_M_gain0 (0, 0, n1) Q 102 [mR 144, mI x1, mI x2, mI (Int.tmod (w32 ((w32 (x1 + (w 146 4.toNat))) - 1)) (w 144 70)), mI ((-1)), mI 0] [] w) : Wp (Cw d) cd_M_gain0 (0, 0, n1) Q 86 [mR 144, mI x1, mI x2, none, none, none] [] w :=
  Wp.s (Wp.s (Wp.s (Wp.s (Wp.s ⟨(by decide), Wp.s (Wp.s (Wp.s (Wp.s (Wp.s (Wp.s ⟨g2, Wp.s (Wp.s (Wp.s (Wp.s (Wp.s h))))⟩)))))⟩))))
theorem M_gain0_144_b102 {d : Nat} {n1 : Int} {Q : MV → Wd → Prop} {x1 x2 x3 x4 x5 : Int} {w : Wd} (h1 : w 146 3.toNat ≤ x5 → Wp (Cw d) cd_M_gain0 (0, 0, n1) Q 150 [mR 144, mI x1, none, mI x3, mI x4, none] [] w) (h2 : ¬ (w 146 3.toNat ≤ x5) → Wp (Cw d) cd_M_gain0 (0, 0, n1) Q 108 [mR 144, mI x1, mI x2, mI x3, mI x4, mI x5] [] w) : Wp (Cw d) cd_M_gain0 (0, 0, n1) Q 102 [mR 144, mI x1, mI x2, mI x3, mI x4, mI x5] [] w :=
  Wp.s (Wp.s (Wp.s (Wp.s (Wp.s ⟨(by decide), Wp.s ⟨fun q => Wp.fgd (leA.k (leA.k (leA.f (leA.k (leA.k (leA.f leA.e)))))) (h1 q), fun q => h2 q⟩⟩))))
theorem M_gain0_144_b108 {d : Nat} {n1 : Int} {Q : MV → Wd → Prop} {x1 x2 x3 x4 x5 : Int} {w : Wd} (h1 : 0 ≤ x4 → Wp (Cw d) cd_M_gain0 (0, 0, n1) Q 150 [mR 144, mI x1, none, mI x3, mI x4, none] [] w) (h2 : ¬ (0 ≤ x4) → Wp (Cw d) cd_M_gain0 (0, 0, n1) Q 110 [mR 144, mI x1, mI x2, mI x3, mI x4, mI x5] [] w) : Wp (Cw d) cd_M_gain0 (0, 0, n1) Q 108 [mR 144, mI x1, mI x2, mI x3, mI x4, mI x5] [] w :=
  Wp.s (Wp.s ⟨fun q => Wp.fgd (leA.k (leA.k (leA.f (leA.k (leA.k (leA.f leA.e)))))) (h1 q), fun q => h2 q⟩)
theorem M_gain0_144_b110 {d : Nat} {n1 : Int} {Q : MV → Wd → Prop} {x1 x2 x3 x4 x5 : Int} {w : Wd} (g1 : (0 : Int) ≤ w32 (109 + (w32 (4 * x5))) ∧ w32 (109 + (w32 (4 * x5))) < 645) (g2 : (0 : Int) ≤ x3 ∧ x3 < 8) (h1 : ¬ w 146 (w32 (109 + (w32 (4 * x5)))).toNat = w 177 x3.toNat → Wp (Cw d) cd_M_gain0 (0, 0, n1) Q 148 [mR 144, mI x1, mI x2, mI x3, mI x4, mI x5] [] w) (h2 : ¬ (¬ w 146 (w32 (109 + (w32 (4 * x5)))).toNat = w 177 x3.toNat) → Wp (Cw d) cd_M_gain0 (0, 0, n1) Q 123 [mR 144, mI x1, mI x2, mI x3, mI x4, mI x5] [] w) : Wp (Cw d) cd_M_gain0 (0, 0, n1) Q 110 [mR 144, mI x1, mI x2, mI x3, mI x4, mI x5] [] w :=
  Wp.s (Wp.s (Wp.s (Wp.s (Wp.s (Wp.s (Wp.s (Wp.s ⟨g1, Wp.s (Wp.s (Wp.s (Wp.s ⟨g2, Wp.s ⟨fun q => h1 q, fun q => h2 q⟩⟩)))⟩)))))))
theorem M_gain0_144_b123 {d : Nat} {n1 : Int} {Q : MV → Wd → Prop} {x1 x2 x3 x4 x5 : Int} {w : Wd} (g1 : (0 : Int) ≤ w32 ((w32 (109 + (w32 (4 * x5)))) + 1) ∧ w32 ((w32 (109 + (w32 (4 * x5)))) + 1) < 645) (h : Cw d 202 [mR 144, mI x2] w (fun r w' => Wp (Cw d) cd_M_gain0 (0, 0, n1) Q 136 [mR 144, mI x1, mI x2, mI x3, mI x4, mI x5] [r, mI (w 146 (w32 ((w32 (109 + (w32 (4 * x5)))) + 1)).toNat)] w')) : Wp (Cw d) cd_M_gain0 (0, 0, n1) Q 123 [mR 144, mI x1, mI x2, mI x3, mI x4, mI x5] [] w :=
  Wp.s (Wp.s (Wp.s (Wp.s (Wp.s (Wp.s (Wp.s (Wp.s (Wp.s (Wp.s ⟨g1, Wp.s (Wp.s (Wp.s h))⟩)))))))))
theorem M_gain0_144_b136 {d : Nat} {n1 : Int} {Q : MV → Wd → Prop} {x1 x2 x3 x4 x5 s0 s1 : Int} {w : Wd} (h1 : ¬ s1 = s0 → Wp (Cw d) cd_M_gain0 (0, 0, n1) Q 148 [mR 144, mI x1, mI x2, mI x3, mI x4, mI x5] [] w) (h2 : ¬ (¬ s1 = s0) → Wp (Cw d) cd_M_gain0 (0, 0, n1) Q 137 [mR 144, mI x1, mI x2, mI x3, none, mI x5] [] w) : Wp (Cw d) cd_M_gain0 (0, 0, n1) Q 136 [mR 144, mI x1, mI x2, mI x3, mI x4, mI x5] [mI s0, mI s1] w :=
  Wp.s ⟨fun q => h1 q, fun q => Wp.fgd (leA.k (leA.k (leA.k (leA.k (leA.f (leA.k leA.e)))))) (h2 q)⟩
theorem M_gain0_144_b137 {d : Nat} {n1 : Int} {Q : MV → Wd → Prop} {x1 x2 x3 x5 : Int} {w : Wd} (g1 : (0 : Int) ≤ w32 ((w32 (109 + (w32 (4 * x5)))) + 2) ∧ w32 ((w32 (109 + (w32 (4 * x5)))) + 2) < 645) (h : Wp (Cw d) cd_M_gain0 (0, 0, n1) Q 148 [mR 144, mI x1, mI x2, mI x3, mI (w 146 (w32 ((w32 (109 + (w32 (4 * x5)))) + 2)).toNat), mI x5] [] w) : Wp (Cw d) cd_M_gain0 (0, 0, n1) Q 137 [mR 144, mI x1, mI x2, mI x3, none, mI x5] [] w :=
  Wp.s (Wp.s (Wp.s (Wp.s (Wp.s (Wp.s (Wp.s (Wp.s (Wp.s (Wp.s ⟨g1, Wp.s h⟩)))))))))
theorem M_gain0_144_b148 {d : Nat} {n1 : Int} {Q : MV → Wd → Prop} {x1 x2 x3 x4 x5 : Int} {w : Wd} (h : Wp (Cw d) cd_M_gain0 (0, 0, n1) Q 102 [mR 144, mI x1, mI x2, mI x3, mI x4, mI (w32 (x5 + 1))] [] w) : Wp (Cw d) cd_M_gain0 (0, 0, n1) Q 148 [mR 144, mI x1, mI x2, mI x3, mI x4, mI x5] [] w :=
  Wp.s (Wp.s h)
theorem M_gain0_144_b150 {d : Nat} {n1 : Int} {Q : MV → Wd → Prop} {x1 x3 x4 : Int} {w : Wd} (g1 : (0 : Int) ≤ x3 ∧ x3 < 8) (h1 : 0 ≤ x4 → Wp (Cw d) cd_M_gain0 (0, 0, n1) Q 159 [mR 144, mI x1, none, none, mI x4, none] [mI (w 178 x3.toNat), mI x3, mR 178] w) (h2 : ¬ (0 ≤ x4) → Wp (Cw d) cd_M_gain0 (0, 0, n1) Q 157 [mR 144, mI x1, none, none, none, none] [mI (w 178 x3.toNat), mI x3, mR 178] w) : Wp (Cw d) cd_M_gain0 (0, 0, n1) Q 150 [mR 144, mI x1, none, mI x3, mI x4, none] [] w :=
  Wp.s (Wp.s (Wp.s (Wp.s (Wp.s ⟨g1, Wp.s (Wp.s ⟨fun q => Wp.fgd (leA.k (leA.k (leA.f (leA.f (leA.k (leA.f leA.e)))))) (h1 q), fun q => Wp.fgd (leA.k (leA.k (leA.f (leA.f (leA.f (leA.f leA.e)))))) (h2 q)⟩)⟩))))
theorem M_gain0_144_b157 {d : Nat} {n1 : Int} {Q : MV → Wd → Prop} {x1 s0 s1 : Int} {w : Wd} (h : Wp (Cw d) cd_M_gain0 (0, 0, n1) Q 160 [mR 144, mI x1, none, none, none, none] [mI 0, mI s0, mI s1, mR 178] w) : Wp (Cw d) cd_M_gain0 (0, 0, n1) Q 157 [mR 144, mI x1, none, none, none, none] [mI s0, mI s1, mR 178] w :=
  Wp.s (Wp.s h)
theorem M_gain0_144_b159 {d : Nat} {n1 : Int} {Q : MV → Wd → Prop} {x1 x4 s0 s1 : Int} {w : Wd} (h : Wp (Cw d) cd_M_gain0 (0, 0, n1) Q 160 [mR 144, mI x1, none, none, none, none] [mI x4, mI s0, mI s1, mR 178] w) : Wp (Cw d) cd_M_gain0 (0, 0, n1) Q 159 [mR 144, mI x1, none, none, mI x4, none] [mI s0, mI s1, mR 178] w :=
  Wp.s (Wp.fgd (leA.k (leA.k (leA.f (leA.f (leA.f (leA.f leA.e)))))) h)
theorem M_gain0_144_b160 {d : Nat} {n1 : Int} {Q : MV → Wd → Prop} {x1 s0 s1 s2 : Int} {w : Wd} (g1 : (0 : Int) ≤ s2 ∧ s2 < 8) (h : Wp (Cw d) cd_M_gain0 (0, 0, n1) Q 162 [mR 144, mI x1, none, none, none, none] [] (ub w 178 s2.toNat (w32 (s1 + s0)))) : Wp (Cw d) cd_M_gain0 (0, 0, n1) Q 160 [mR 144, mI x1, none, none, none, none] [mI s0, mI s1, mI s2, mR 178] w :=
  Wp.s (Wp.s ⟨g1, h⟩)
theorem M_gain0_144_b162 {d : Nat} {n1 : Int} {Q : MV → Wd → Prop} {x1 : Int} {w : Wd} (h : Wp (Cw d) cd_M_gain0 (0, 0, n1) Q 15 [mR 144, mI (w32 (x1 + 1)), none, none, none, none] [] w) : Wp (Cw d) cd_M_gain0 (0, 0, n1) Q 162 [mR 144, mI x1, none, none, none, none] [] w :=
  Wp.s (Wp.s h)
theorem M_gain0_144_b164 {d : Nat} {n1 : Int} {Q : MV → Wd → Prop} {w : Wd} (h : Q none w) : Wp (Cw d) cd_M_gain0 (0, 0, n1) Q 164 [none, none, none, none, none, none] [] w :=
  Wp.s h
theorem Ring_members_137_b0 {d : Nat} {n1 : Int} {Q : MV → Wd → Prop} {w : Wd} (h : Wp (Cw d) cd_Ring_members (1, 0, n1) Q 4 [mR 137, mI 0, mI 0] [] w) : Wp (Cw d) cd_Ring_members (1, 0, n1) Q 0 [mR 137, none, none] [] w :=
  Wp.s (Wp.s (Wp.s (Wp.s h)))
theorem Ring_members_137_b4 {d : Nat} {n1 : Int} {Q : MV → Wd → Prop} {x1 x2 : Int} {w : Wd} (h1 : w 137 2 ≤ x2 → Wp (Cw d) cd_Ring_members (1, 0, n1) Q 19 [none, mI x1, none] [] w) (h2 : ¬ (w 137 2 ≤ x2) → Wp (Cw d) cd_Ring_members (1, 0, n1) Q 8 [mR 137, mI x1, mI x2] [] w) : Wp (Cw d) cd_Ring_members (1, 0, n1) Q 4 [mR 137, mI x1, mI x2] [] w :=
  Wp.s (Wp.s (Wp.s (Wp.s ⟨fun q => Wp.fgd (leA.f (leA.k (leA.f leA.e))) (h1 q), fun q => h2 q⟩)))
theorem Ring_members_137_b8 {d : Nat} {n1 : Int} {Q : MV → Wd → Prop} {x1 x2 : Int} {w : Wd} (g1 : (0 : Int) ≤ x2 ∧ x2 < 8) (h : Wp (Cw d) cd_Ring_members (1, 0, n1) Q 4 [mR 137, mI (ior x1 (ishl 1 (w 138 x2.toNat))), mI (w32 (x2 + 1))] [] w) : Wp (Cw d) cd_Ring_members (1, 0, n1) Q 8 [mR 137, mI x1, mI x2] [] w :=
  Wp.s (Wp.s (Wp.s (Wp.s (Wp.s (Wp.s ⟨g1, Wp.s (Wp.s (Wp.s (Wp.s (Wp.s h))))⟩)))))
theorem Ring_members_137_b19 {d : Nat} {n1 : Int} {Q : MV → Wd → Prop} {x1 : Int} {w : Wd} (h : Q (mI x1) w) : Wp (Cw d) cd_Ring_members (1, 0, n1) Q 19 [none, mI x1, none] [] w :=
  Wp.s (Wp.s h)
theorem Ring_leave_137_b0 {d : Nat} {n1 : Int} {Q : MV → Wd → Prop} {x1 : Int} {w : Wd} (h : Wp (Cw d) cd_Ring_leave (0, 0, n1) Q 4 [mR 137, mI x1, mI 0, mI 0] [] w) : Wp (Cw d) cd_Ring_leave (0, 0, n1) Q 0 [mR 137, mI x1, none, none] [] w :=
  Wp.s (Wp.s (Wp.s (Wp.s h)))
theorem Ring_leave_137_b4 {d : Nat} {n1 : Int} {Q : MV → Wd → Prop} {x1 x2 x3 : Int} {w : Wd} (h1 : w 137 2 ≤ x3 → Wp (Cw d) cd_Ring_leave (0, 0, n1) Q 26 [mR 137, none, mI x2, none] [] w) (h2 : ¬ (w 137 2 ≤ x3) → Wp (Cw d) cd_Ring_leave (0, 0, n1) Q 8 [mR 137, mI x1, mI x2, mI x3] [] w) : Wp (Cw d) cd_Ring_leave (0, 0, n1) Q 4 [mR 137, mI x1, mI x2, mI x3] [] w :=
  Wp.s (Wp.s (Wp.s (Wp.s ⟨fun q => Wp.fgd (leA.k (leA.f (leA.k (leA.f leA.e)))) (h1 q), fun q => h2 q⟩)))
theorem Ring_leave_137_b8 {d : Nat} {n1 : Int} {Q : MV → Wd → Prop} {x1 x2 x3 : Int} {w : Wd} (g1 : (0 : Int) ≤ x3 ∧ x3 < 8) (h : Cw d 66 [mI x1, mI (w 138 x3.toNat)] w (fun r w' => Wp (Cw d) cd_Ring_leave (0, 0, n1) Q 14 [mR 137, mI x1, mI x2, mI x3] [r] w')) : Wp (Cw d) cd_Ring_leave (0, 0, n1) Q 8 [mR 137, mI x1, mI x2, mI x3] [] w :=
  Wp.s (Wp.s (Wp.s (Wp.s (Wp.s ⟨g1, Wp.s h⟩))))
theorem Ring_leave_137_b14 {d : Nat} {n1 : Int} {Q : MV → Wd → Prop} {x1 x2 x3 s0 : Int} {w : Wd} (h1 : ¬ s0 = 0 → Wp (Cw d) cd_Ring_leave (0, 0, n1) Q 24 [mR 137, mI x1, mI x2, mI x3] [] w) (h2 : ¬ (¬ s0 = 0) → Wp (Cw d) cd_Ring_leave (0, 0, n1) Q 15 [mR 137, mI x1, mI x2, mI x3] [] w) : Wp (Cw d) cd_Ring_leave (0, 0, n1) Q 14 [mR 137, mI x1, mI x2, mI x3] [mI s0] w :=
  Wp.s ⟨fun q => h1 q, fun q => h2 q⟩
theorem Ring_leave_137_b15 {d : Nat} {n1 : Int} {Q : MV → Wd → Prop} {x1 x2 x3 : Int} {w : Wd} (g1 : (0 : Int) ≤ x3 ∧ x3 < 8) (g2 : (0 : Int) ≤ x2 ∧ x2 < 8) (h : Wp (Cw d) cd_Ring_leave (0, 0, n1) Q 24 [mR 137, mI x1, mI (w32 (x2 + 1)), mI x3] [] (ub w 138 x2.toNat (w 138 x3.toNat))) : Wp (Cw d) cd_Ring_leave (0, 0, n1) Q 15 [mR 137, mI x1, mI x2, mI x3] [] w :=
  Wp.s (Wp.s (Wp.s (Wp.s (Wp.s (Wp.s (Wp.s ⟨g1, Wp.s ⟨g2, Wp.s h⟩⟩))))))
theorem Ring_leave_137_b24 {d : Nat} {n1 : Int} {Q : MV → Wd → Prop} {x1 x2 x3 : Int} {w : Wd} (h : Wp (Cw d) cd_Ring_leave (0, 0, n1) Q 4 [mR 137, mI x1, mI x2, mI (w32 (x3 + 1))] [] w) : Wp (Cw d) cd_Ring_leave (0, 0, n1) Q 24 [mR 137, mI x1, mI x2, mI x3] [] w :=
  Wp.s (Wp.s h)
theorem Ring_leave_137_b26 {d : Nat} {n1 : Int} {Q : MV → Wd → Prop} {x2 : Int} {w : Wd} (h : Q none (ub w 137 2 x2)) : Wp (Cw d) cd_Ring_leave (0, 0, n1) Q 26 [mR 137, none, mI x2, none] [] w :=
  Wp.s (Wp.s (Wp.s (Wp.s h)))
theorem Meeting_weigh_112_b0 {d : Nat} {n1 : Int} {Q : MV → Wd → Prop} {w : Wd} (h : Cw d 58 [mR 113] w (fun _ w' => Wp (Cw d) cd_Meeting_weigh (0, 0, n1) Q 3 [mR 112] [] w')) : Wp (Cw d) cd_Meeting_weigh (0, 0, n1) Q 0 [mR 112] [] w :=
  Wp.s (Wp.s (Wp.s h))
theorem Meeting_weigh_112_b3 {d : Nat} {n1 : Int} {Q : MV → Wd → Prop} {w : Wd} (h : Cw d 69 [mR 112, mI 0] w (fun _ w' => Wp (Cw d) cd_Meeting_weigh (0, 0, n1) Q 6 [mR 112] [] w')) : Wp (Cw d) cd_Meeting_weigh (0, 0, n1) Q 3 [mR 112] [] w :=
  Wp.s (Wp.s (Wp.s h))
theorem Meeting_weigh_112_b6 {d : Nat} {n1 : Int} {Q : MV → Wd → Prop} {w : Wd} (h : Cw d 72 [mR 112] w (fun _ w' => Wp (Cw d) cd_Meeting_weigh (0, 0, n1) Q 8 [none] [] w')) : Wp (Cw d) cd_Meeting_weigh (0, 0, n1) Q 6 [mR 112] [] w :=
  Wp.s (Wp.s (Cw_mono _ _ _ _ _ _ (fun r w' q => Wp.fgd (leA.f leA.e) q) h))
theorem Meeting_weigh_112_b8 {d : Nat} {n1 : Int} {Q : MV → Wd → Prop} {w : Wd} (h : Q none w) : Wp (Cw d) cd_Meeting_weigh (0, 0, n1) Q 8 [none] [] w :=
  Wp.s h
theorem Village_allWants_4_b0 {d : Nat} {n1 : Int} {Q : MV → Wd → Prop} {w : Wd} (h : Q (mI (w32 ((ishl 1 (w 4 11)) - 1))) w) : Wp (Cw d) cd_Village_allWants (1, 0, n1) Q 0 [mR 4] [] w :=
  Wp.s (Wp.s (Wp.s (Wp.s (Wp.s (Wp.s (Wp.s h))))))
theorem Meeting_metWants_112_b0 {d : Nat} {n1 : Int} {Q : MV → Wd → Prop} {w : Wd} (h : Wp (Cw d) cd_Meeting_metWants (1, 0, n1) Q 4 [mR 112, mI 0, mI 0] [] w) : Wp (Cw d) cd_Meeting_metWants (1, 0, n1) Q 0 [mR 112, none, none] [] w :=
  Wp.s (Wp.s (Wp.s (Wp.s h)))
theorem Meeting_metWants_112_b4 {d : Nat} {n1 : Int} {Q : MV → Wd → Prop} {x1 x2 : Int} {w : Wd} (h1 : w 4 11 ≤ x2 → Wp (Cw d) cd_Meeting_metWants (1, 0, n1) Q 24 [none, mI x1, none] [] w) (h2 : ¬ (w 4 11 ≤ x2) → Wp (Cw d) cd_Meeting_metWants (1, 0, n1) Q 9 [mR 112, mI x1, mI x2] [] w) : Wp (Cw d) cd_Meeting_metWants (1, 0, n1) Q 4 [mR 112, mI x1, mI x2] [] w :=
  Wp.s (Wp.s (Wp.s (Wp.s (Wp.s ⟨fun q => Wp.fgd (leA.f (leA.k (leA.f leA.e))) (h1 q), fun q => h2 q⟩))))
theorem Meeting_metWants_112_b9 {d : Nat} {n1 : Int} {Q : MV → Wd → Prop} {x1 x2 : Int} {w : Wd} (h : Cw d 95 [mR 112, mI x2] w (fun r w' => Wp (Cw d) cd_Meeting_metWants (1, 0, n1) Q 13 [mR 112, none, mI x2] [r, mI x1] w')) : Wp (Cw d) cd_Meeting_metWants (1, 0, n1) Q 9 [mR 112, mI x1, mI x2] [] w :=
  Wp.s (Wp.s (Wp.s (Wp.s (Cw_mono _ _ _ _ _ _ (fun r w' q => Wp.fgd (leA.k (leA.f (leA.k leA.e))) q) h))))
theorem Meeting_metWants_112_b13 {d : Nat} {n1 : Int} {Q : MV → Wd → Prop} {x2 s0 s1 : Int} {w : Wd} (h1 : ¬ s0 = (-1) → Wp (Cw d) cd_Meeting_metWants (1, 0, n1) Q 17 [mR 112, none, mI x2] [mI s1] w) (h2 : ¬ (¬ s0 = (-1)) → Wp (Cw d) cd_Meeting_metWants (1, 0, n1) Q 15 [mR 112, none, mI x2] [mI s1] w) : Wp (Cw d) cd_Meeting_metWants (1, 0, n1) Q 13 [mR 112, none, mI x2] [mI s0, mI s1] w :=
  Wp.s (Wp.s ⟨fun q => h1 q, fun q => h2 q⟩)
theorem Meeting_metWants_112_b15 {d : Nat} {n1 : Int} {Q : MV → Wd → Prop} {x2 s0 : Int} {w : Wd} (h : Wp (Cw d) cd_Meeting_metWants (1, 0, n1) Q 20 [mR 112, none, mI x2] [mI 0, mI s0] w) : Wp (Cw d) cd_Meeting_metWants (1, 0, n1) Q 15 [mR 112, none, mI x2] [mI s0] w :=
  Wp.s (Wp.s h)
theorem Meeting_metWants_112_b17 {d : Nat} {n1 : Int} {Q : MV → Wd → Prop} {x2 s0 : Int} {w : Wd} (h : Wp (Cw d) cd_Meeting_metWants (1, 0, n1) Q 20 [mR 112, none, mI x2] [mI (ishl 1 x2), mI s0] w) : Wp (Cw d) cd_Meeting_metWants (1, 0, n1) Q 17 [mR 112, none, mI x2] [mI s0] w :=
  Wp.s (Wp.s (Wp.s h))
theorem Meeting_metWants_112_b20 {d : Nat} {n1 : Int} {Q : MV → Wd → Prop} {x2 s0 s1 : Int} {w : Wd} (h : Wp (Cw d) cd_Meeting_metWants (1, 0, n1) Q 4 [mR 112, mI (ior s1 s0), mI (w32 (x2 + 1))] [] w) : Wp (Cw d) cd_Meeting_metWants (1, 0, n1) Q 20 [mR 112, none, mI x2] [mI s0, mI s1] w :=
  Wp.s (Wp.s (Wp.s (Wp.s h)))
theorem Meeting_metWants_112_b24 {d : Nat} {n1 : Int} {Q : MV → Wd → Prop} {x1 : Int} {w : Wd} (h : Q (mI x1) w) : Wp (Cw d) cd_Meeting_metWants (1, 0, n1) Q 24 [none, mI x1, none] [] w :=
  Wp.s (Wp.s h)
theorem Meeting_matched_112_b0 {d : Nat} {n1 : Int} {Q : MV → Wd → Prop} {w : Wd} (h : Cw d 88 [mR 112] w (fun _ w' => Wp (Cw d) cd_Meeting_matched (1, 0, n1) Q 2 [mR 112, none, none] [] w')) : Wp (Cw d) cd_Meeting_matched (1, 0, n1) Q 0 [mR 112, none, none] [] w :=
  Wp.s (Wp.s h)
theorem Meeting_matched_112_b2 {d : Nat} {n1 : Int} {Q : MV → Wd → Prop} {w : Wd} (h : Wp (Cw d) cd_Meeting_matched (1, 0, n1) Q 6 [mR 112, mI 0, mI 1] [] w) : Wp (Cw d) cd_Meeting_matched (1, 0, n1) Q 2 [mR 112, none, none] [] w :=
  Wp.s (Wp.s (Wp.s (Wp.s h)))
theorem Meeting_matched_112_b6 {d : Nat} {n1 : Int} {Q : MV → Wd → Prop} {x1 x2 : Int} {w : Wd} (h1 : ishl 1 (w 4 11) ≤ x2 → Wp (Cw d) cd_Meeting_matched (1, 0, n1) Q 26 [mR 112, mI x1, none] [] w) (h2 : ¬ (ishl 1 (w 4 11) ≤ x2) → Wp (Cw d) cd_Meeting_matched (1, 0, n1) Q 13 [mR 112, mI x1, mI x2] [] w) : Wp (Cw d) cd_Meeting_matched (1, 0, n1) Q 6 [mR 112, mI x1, mI x2] [] w :=
  Wp.s (Wp.s (Wp.s (Wp.s (Wp.s (Wp.s (Wp.s ⟨fun q => Wp.fgd (leA.k (leA.k (leA.f leA.e))) (h1 q), fun q => h2 q⟩))))))
theorem Meeting_matched_112_b13 {d : Nat} {n1 : Int} {Q : MV → Wd → Prop} {x1 x2 : Int} {w : Wd} (h : Cw d 278 [mI x2] w (fun r w' => Wp (Cw d) cd_Meeting_matched (1, 0, n1) Q 16 [mR 112, none, mI x2] [r, mI x1] w')) : Wp (Cw d) cd_Meeting_matched (1, 0, n1) Q 13 [mR 112, mI x1, mI x2] [] w :=
  Wp.s (Wp.s (Wp.s (Cw_mono _ _ _ _ _ _ (fun r w' q => Wp.fgd (leA.k (leA.f (leA.k leA.e))) q) h)))
theorem Meeting_matched_112_b16 {d : Nat} {n1 : Int} {Q : MV → Wd → Prop} {x2 s0 s1 : Int} {w : Wd} (g1 : (0 : Int) ≤ x2 ∧ x2 < 256) (h : Cw d 278 [mI (w 129 x2.toNat)] w (fun r w' => Wp (Cw d) cd_Meeting_matched (1, 0, n1) Q 21 [mR 112, none, mI x2] [r, mI s0, mI s1] w')) : Wp (Cw d) cd_Meeting_matched (1, 0, n1) Q 16 [mR 112, none, mI x2] [mI s0, mI s1] w :=
  Wp.s (Wp.s (Wp.s (Wp.s ⟨g1, Wp.s h⟩)))
theorem Meeting_matched_112_b21 {d : Nat} {n1 : Int} {Q : MV → Wd → Prop} {x2 s0 s1 s2 : Int} {w : Wd} (h : Wp (Cw d) cd_Meeting_matched (1, 0, n1) Q 6 [mR 112, mI (max s2 (w32 (s1 - s0))), mI (w32 (x2 + 1))] [] w) : Wp (Cw d) cd_Meeting_matched (1, 0, n1) Q 21 [mR 112, none, mI x2] [mI s0, mI s1, mI s2] w :=
  Wp.s (Wp.s (Wp.s (Wp.s (Wp.s h))))
theorem Meeting_matched_112_b26 {d : Nat} {n1 : Int} {Q : MV → Wd → Prop} {x1 : Int} {w : Wd} (h : Q (mI (w32 ((w 4 11) - x1))) w) : Wp (Cw d) cd_Meeting_matched (1, 0, n1) Q 26 [mR 112, mI x1, none] [] w :=
  Wp.s (Wp.s (Wp.s (Wp.s (Wp.s (Wp.s h)))))
theorem X_mendedMost_0_112_b0 {d : Nat} {n1 : Int} {Q : MV → Wd → Prop} {x2 : Int} {w : Wd} (g1 : (0 : Int) ≤ x2 ∧ x2 < 64) (h1 : w 116 x2.toNat = (-1) → Wp (Cw d) cd_X_mendedMost (1, 0, n1) Q 12 [none, mR 112, mI x2, mR 114] [] w) (h2 : ¬ (w 116 x2.toNat = (-1)) → Wp (Cw d) cd_X_mendedMost (1, 0, n1) Q 10 [none, none, none, none] [] w) : Wp (Cw d) cd_X_mendedMost (1, 0, n1) Q 0 [none, mR 112, mI x2, none] [] w :=
  Wp.s (Wp.s (Wp.s (Wp.s (Wp.s (Wp.s (Wp.s (Wp.s ⟨g1, Wp.s (Wp.s ⟨fun q => h1 q, fun q => Wp.fgd (leA.f (leA.f (leA.f (leA.f leA.e)))) (h2 q)⟩)⟩)))))))
theorem X_mendedMost_0_112_b10 {d : Nat} {n1 : Int} {Q : MV → Wd → Prop} {w : Wd} (h : Q (mI ((-1))) w) : Wp (Cw d) cd_X_mendedMost (1, 0, n1) Q 10 [none, none, none, none] [] w :=
  Wp.s (Wp.s h)
theorem X_mendedMost_0_112_b12 {d : Nat} {n1 : Int} {Q : MV → Wd → Prop} {x2 : Int} {w : Wd} (g1 : (0 : Int) ≤ x2 ∧ x2 < 64) (g2 : (0 : Int) ≤ x2 ∧ x2 < 64) (h : Cw d 150 [mR 112] (ub (ub w 116 x2.toNat 0) 117 x2.toNat 1) (fun _ w' => Wp (Cw d) cd_X_mendedMost (1, 0, n1) Q 24 [none, mR 112, mI x2, mR 114] [] w')) : Wp (Cw d) cd_X_mendedMost (1, 0, n1) Q 12 [none, mR 112, mI x2, mR 114] [] w :=
  Wp.s (Wp.s (Wp.s (Wp.s (Wp.s ⟨g1, Wp.s (Wp.s (Wp.s (Wp.s (Wp.s ⟨g2, Wp.s (Wp.s h)⟩))))⟩))))
theorem X_mendedMost_0_112_b24 {d : Nat} {n1 : Int} {Q : MV → Wd → Prop} {x2 : Int} {w : Wd} (g1 : (0 : Int) ≤ x2 ∧ x2 < 64) (h : Cw d 87 [mR 112] (ub w 116 x2.toNat ((-1))) (fun r w' => Wp (Cw d) cd_X_mendedMost (1, 0, n1) Q 31 [none, none, none, none] [r] w')) : Wp (Cw d) cd_X_mendedMost (1, 0, n1) Q 24 [none, mR 112, mI x2, mR 114] [] w :=
  Wp.s (Wp.s (Wp.s (Wp.s (Wp.s ⟨g1, Wp.s (Wp.s (Cw_mono _ _ _ _ _ _ (fun r w' q => Wp.fgd (leA.f (leA.f (leA.f (leA.f leA.e)))) q) h))⟩))))
theorem X_mendedMost_0_112_b31 {d : Nat} {n1 : Int} {Q : MV → Wd → Prop} {s0 : Int} {w : Wd} (h : Q (mI s0) w) : Wp (Cw d) cd_X_mendedMost (1, 0, n1) Q 31 [none, none, none, none] [mI s0] w :=
  Wp.s h
theorem JI_bitCount_b0 {d : Nat} {n1 : Int} {Q : MV → Wd → Prop} {x0 : Int} {w : Wd} (h : Q (mI (iand (w32 ((w32 ((iand (w32 ((w32 ((iand (w32 (x0 - (iand (iushr x0 1) 1431655765))) 858993459) + (iand (iushr (w32 (x0 - (iand (iushr x0 1) 1431655765))) 2) 858993459))) + (iushr (w32 ((iand (w32 (x0 - (iand (iushr x0 1) 1431655765))) 858993459) + (iand (iushr (w32 (x0 - (iand (iushr x0 1) 1431655765))) 2) 858993459))) 4))) 252645135) + (iushr (iand (w32 ((w32 ((iand (w32 (x0 - (iand (iushr x0 1) 1431655765))) 858993459) + (iand (iushr (w32 (x0 - (iand (iushr x0 1) 1431655765))) 2) 858993459))) + (iushr (w32 ((iand (w32 (x0 - (iand (iushr x0 1) 1431655765))) 858993459) + (iand (iushr (w32 (x0 - (iand (iushr x0 1) 1431655765))) 2) 858993459))) 4))) 252645135) 8))) + (iushr (w32 ((iand (w32 ((w32 ((iand (w32 (x0 - (iand (iushr x0 1) 1431655765))) 858993459) + (iand (iushr (w32 (x0 - (iand (iushr x0 1) 1431655765))) 2) 858993459))) + (iushr (w32 ((iand (w32 (x0 - (iand (iushr x0 1) 1431655765))) 858993459) + (iand (iushr (w32 (x0 - (iand (iushr x0 1) 1431655765))) 2) 858993459))) 4))) 252645135) + (iushr (iand (w32 ((w32 ((iand (w32 (x0 - (iand (iushr x0 1) 1431655765))) 858993459) + (iand (iushr (w32 (x0 - (iand (iushr x0 1) 1431655765))) 2) 858993459))) + (iushr (w32 ((iand (w32 (x0 - (iand (iushr x0 1) 1431655765))) 858993459) + (iand (iushr (w32 (x0 - (iand (iushr x0 1) 1431655765))) 2) 858993459))) 4))) 252645135) 8))) 16))) 63)) w) : Wp (Cw d) cd_JI_bitCount (1, 0, n1) Q 0 [mI x0] [] w :=
  Wp.s (Wp.s (Wp.s (Wp.s (Wp.s (Wp.s (Wp.s (Wp.s (Wp.s (Wp.s (Wp.s (Wp.s (Wp.s (Wp.s (Wp.s (Wp.s (Wp.s (Wp.s (Wp.s (Wp.s (Wp.s (Wp.s (Wp.s (Wp.s (Wp.s (Wp.s (Wp.s (Wp.s (Wp.s (Wp.s (Wp.s (Wp.s (Wp.s (Wp.s (Wp.s (Wp.s (Wp.s (Wp.s (Wp.s (Wp.s (Wp.s (Wp.s h)))))))))))))))))))))))))))))))))))))))))
theorem X_livesBy_0_112_b0 {d : Nat} {n1 : Int} {Q : MV → Wd → Prop} {x2 : Int} {w : Wd} (h : Cw d 153 [mR 4, mI x2] w (fun r w' => Wp (Cw d) cd_X_livesBy (2, 0, n1) Q 4 [none, mR 112, mI x2, none] [r] w')) : Wp (Cw d) cd_X_livesBy (2, 0, n1) Q 0 [mR 0, mR 112, mI x2, none] [] w :=
  Wp.s (Wp.s (Wp.s (Wp.s (Cw_mono _ _ _ _ _ _ (fun r w' q => Wp.fgd (leA.f (leA.k (leA.k (leA.f leA.e)))) q) h))))
theorem X_livesBy_0_112_b4 {d : Nat} {n1 : Int} {Q : MV → Wd → Prop} {x2 s0 : Int} {w : Wd} (h1 : ¬ s0 = 0 → Wp (Cw d) cd_X_livesBy (2, 0, n1) Q 9 [none, mR 112, mI x2, mI s0] [] w) (h2 : ¬ (¬ s0 = 0) → Wp (Cw d) cd_X_livesBy (2, 0, n1) Q 7 [none, none, none, none] [] w) : Wp (Cw d) cd_X_livesBy (2, 0, n1) Q 4 [none, mR 112, mI x2, none] [mI s0] w :=
  Wp.s (Wp.s (Wp.s ⟨fun q => h1 q, fun q => Wp.fgd (leA.f (leA.f (leA.f (leA.f leA.e)))) (h2 q)⟩))
theorem X_livesBy_0_112_b7 {d : Nat} {n1 : Int} {Q : MV → Wd → Prop} {w : Wd} (h : Q (mI 0) w) : Wp (Cw d) cd_X_livesBy (2, 0, n1) Q 7 [none, none, none, none] [] w :=
  Wp.s (Wp.s ⟨(Or.inl rfl), h⟩)
theorem X_livesBy_0_112_b9 {d : Nat} {n1 : Int} {Q : MV → Wd → Prop} {x2 x3 : Int} {w : Wd} (h : Cw d 150 [mR 112] (ub w 114 6 x2) (fun _ w' => Wp (Cw d) cd_X_livesBy (2, 0, n1) Q 16 [none, mR 112, none, mI x3] [] w')) : Wp (Cw d) cd_X_livesBy (2, 0, n1) Q 9 [none, mR 112, mI x2, mI x3] [] w :=
  Wp.s (Wp.s (Wp.s (Wp.s (Wp.s (Wp.s (Wp.s (Cw_mono _ _ _ _ _ _ (fun r w' q => Wp.fgd (leA.f (leA.k (leA.f (leA.k leA.e)))) q) h)))))))
theorem X_livesBy_0_112_b16 {d : Nat} {n1 : Int} {Q : MV → Wd → Prop} {x3 : Int} {w : Wd} (h : Cw d 87 [mR 112] w (fun r w' => Wp (Cw d) cd_X_livesBy (2, 0, n1) Q 18 [none, none, none, mI x3] [r] w')) : Wp (Cw d) cd_X_livesBy (2, 0, n1) Q 16 [none, mR 112, none, mI x3] [] w :=
  Wp.s (Wp.s (Cw_mono _ _ _ _ _ _ (fun r w' q => Wp.fgd (leA.f (leA.f (leA.f (leA.k leA.e)))) q) h))
theorem X_livesBy_0_112_b18 {d : Nat} {n1 : Int} {Q : MV → Wd → Prop} {x3 s0 : Int} {w : Wd} (h : Cw d 278 [mI x3] w (fun r w' => Wp (Cw d) cd_X_livesBy (2, 0, n1) Q 20 [none, none, none, none] [r, mI s0] w')) : Wp (Cw d) cd_X_livesBy (2, 0, n1) Q 18 [none, none, none, mI x3] [mI s0] w :=
  Wp.s (Wp.s (Cw_mono _ _ _ _ _ _ (fun r w' q => Wp.fgd (leA.f (leA.f (leA.f (leA.f leA.e)))) q) h))
theorem X_livesBy_0_112_b20 {d : Nat} {n1 : Int} {Q : MV → Wd → Prop} {s0 s1 : Int} {w : Wd} (h1 : ¬ s1 = s0 → Wp (Cw d) cd_X_livesBy (2, 0, n1) Q 23 [none, none, none, none] [] w) (h2 : ¬ (¬ s1 = s0) → Wp (Cw d) cd_X_livesBy (2, 0, n1) Q 21 [none, none, none, none] [] w) : Wp (Cw d) cd_X_livesBy (2, 0, n1) Q 20 [none, none, none, none] [mI s0, mI s1] w :=
  Wp.s ⟨fun q => h1 q, fun q => h2 q⟩
theorem X_livesBy_0_112_b21 {d : Nat} {n1 : Int} {Q : MV → Wd → Prop} {w : Wd} (h : Wp (Cw d) cd_X_livesBy (2, 0, n1) Q 24 [none, none, none, none] [mI 1] w) : Wp (Cw d) cd_X_livesBy (2, 0, n1) Q 21 [none, none, none, none] [] w :=
  Wp.s (Wp.s h)
theorem X_livesBy_0_112_b23 {d : Nat} {n1 : Int} {Q : MV → Wd → Prop} {w : Wd} (h : Wp (Cw d) cd_X_livesBy (2, 0, n1) Q 24 [none, none, none, none] [mI 0] w) : Wp (Cw d) cd_X_livesBy (2, 0, n1) Q 23 [none, none, none, none] [] w :=
  Wp.s h
theorem X_livesBy_0_112_b24 {d : Nat} {n1 : Int} {Q : MV → Wd → Prop} {s0 : Int} {w : Wd} (g1 : s0 = 0 ∨ s0 = 1) (h : Q (mI s0) w) : Wp (Cw d) cd_X_livesBy (2, 0, n1) Q 24 [none, none, none, none] [mI s0] w :=
  Wp.s ⟨g1, h⟩
theorem M_meets_144_b0 {d : Nat} {n1 : Int} {Q : MV → Wd → Prop} {w : Wd} (h : Wp (Cw d) cd_M_meets (0, 0, n1) Q 2 [mR 144, mI 0, none, none] [] w) : Wp (Cw d) cd_M_meets (0, 0, n1) Q 0 [mR 144, none, none, none] [] w :=
  Wp.s (Wp.s h)
theorem M_meets_144_b2 {d : Nat} {n1 : Int} {Q : MV → Wd → Prop} {x1 : Int} {w : Wd} (h1 : 256 ≤ x1 → Wp (Cw d) cd_M_meets (0, 0, n1) Q 16 [mR 144, none, none, none] [] w) (h2 : ¬ (256 ≤ x1) → Wp (Cw d) cd_M_meets (0, 0, n1) Q 5 [mR 144, mI x1, none, none] [] w) : Wp (Cw d) cd_M_meets (0, 0, n1) Q 2 [mR 144, mI x1, none, none] [] w :=
  Wp.s (Wp.s (Wp.s ⟨fun q => Wp.fgd (leA.k (leA.f (leA.f (leA.f leA.e)))) (h1 q), fun q => h2 q⟩))
theorem M_meets_144_b5 {d : Nat} {n1 : Int} {Q : MV → Wd → Prop} {x1 : Int} {w : Wd} (h1 : ¬ x1 = 0 → Wp (Cw d) cd_M_meets (0, 0, n1) Q 12 [mR 144, mI x1, none, none] [mI x1, mR 165] w) (h2 : ¬ (¬ x1 = 0) → Wp (Cw d) cd_M_meets (0, 0, n1) Q 10 [mR 144, mI x1, none, none] [mI x1, mR 165] w) : Wp (Cw d) cd_M_meets (0, 0, n1) Q 5 [mR 144, mI x1, none, none] [] w :=
  Wp.s (Wp.s (Wp.s (Wp.s (Wp.s ⟨fun q => h1 q, fun q => h2 q⟩))))
theorem M_meets_144_b10 {d : Nat} {n1 : Int} {Q : MV → Wd → Prop} {x1 s0 : Int} {w : Wd} (h : Wp (Cw d) cd_M_meets (0, 0, n1) Q 13 [mR 144, mI x1, none, none] [mI 1, mI s0, mR 165] w) : Wp (Cw d) cd_M_meets (0, 0, n1) Q 10 [mR 144, mI x1, none, none] [mI s0, mR 165] w :=
  Wp.s (Wp.s h)
theorem M_meets_144_b12 {d : Nat} {n1 : Int} {Q : MV → Wd → Prop} {x1 s0 : Int} {w : Wd} (h : Wp (Cw d) cd_M_meets (0, 0, n1) Q 13 [mR 144, mI x1, none, none] [mI 0, mI s0, mR 165] w) : Wp (Cw d) cd_M_meets (0, 0, n1) Q 12 [mR 144, mI x1, none, none] [mI s0, mR 165] w :=
  Wp.s h
theorem M_meets_144_b13 {d : Nat} {n1 : Int} {Q : MV → Wd → Prop} {x1 s0 s1 : Int} {w : Wd} (g1 : (0 : Int) ≤ s1 ∧ s1 < 256) (g2 : s0 = 0 ∨ s0 = 1) (h : Wp (Cw d) cd_M_meets (0, 0, n1) Q 2 [mR 144, mI (w32 (x1 + 1)), none, none] [] (ub w 165 s1.toNat s0)) : Wp (Cw d) cd_M_meets (0, 0, n1) Q 13 [mR 144, mI x1, none, none] [mI s0, mI s1, mR 165] w :=
  Wp.s ⟨g1, g2, Wp.s (Wp.s h)⟩
theorem M_meets_144_b16 {d : Nat} {n1 : Int} {Q : MV → Wd → Prop} {w : Wd} (h : Wp (Cw d) cd_M_meets (0, 0, n1) Q 18 [mR 144, mI 0, none, none] [] w) : Wp (Cw d) cd_M_meets (0, 0, n1) Q 16 [mR 144, none, none, none] [] w :=
  Wp.s (Wp.s h)
theorem M_meets_144_b18 {d : Nat} {n1 : Int} {Q : MV → Wd → Prop} {x1 : Int} {w : Wd} (h1 : w 146 2.toNat ≤ x1 → Wp (Cw d) cd_M_meets (0, 0, n1) Q 72 [none, none, none, none] [] w) (h2 : ¬ (w 146 2.toNat ≤ x1) → Wp (Cw d) cd_M_meets (0, 0, n1) Q 24 [mR 144, mI x1, none, none] [] w) : Wp (Cw d) cd_M_meets (0, 0, n1) Q 18 [mR 144, mI x1, none, none] [] w :=
  Wp.s (Wp.s (Wp.s (Wp.s (Wp.s ⟨(by decide), Wp.s ⟨fun q => Wp.fgd (leA.f (leA.f (leA.f (leA.f leA.e)))) (h1 q), fun q => h2 q⟩⟩))))
theorem M_meets_144_b24 {d : Nat} {n1 : Int} {Q : MV → Wd → Prop} {x1 : Int} {w : Wd} (h : Wp (Cw d) cd_M_meets (0, 0, n1) Q 26 [mR 144, mI x1, mI 255, none] [] w) : Wp (Cw d) cd_M_meets (0, 0, n1) Q 24 [mR 144, mI x1, none, none] [] w :=
  Wp.s (Wp.s h)
theorem M_meets_144_b26 {d : Nat} {n1 : Int} {Q : MV → Wd → Prop} {x1 x2 : Int} {w : Wd} (h1 : x2 ≤ 0 → Wp (Cw d) cd_M_meets (0, 0, n1) Q 70 [mR 144, mI x1, none, none] [] w) (h2 : ¬ (x2 ≤ 0) → Wp (Cw d) cd_M_meets (0, 0, n1) Q 28 [mR 144, mI x1, mI x2, none] [] w) : Wp (Cw d) cd_M_meets (0, 0, n1) Q 26 [mR 144, mI x1, mI x2, none] [] w :=
  Wp.s (Wp.s ⟨fun q => Wp.fgd (leA.k (leA.k (leA.f (leA.f leA.e)))) (h1 q), fun q => h2 q⟩)
theorem M_meets_144_b28 {d : Nat} {n1 : Int} {Q : MV → Wd → Prop} {x1 x2 : Int} {w : Wd} (h : Wp (Cw d) cd_M_meets (0, 0, n1) Q 30 [mR 144, mI x1, mI x2, mI 0] [] w) : Wp (Cw d) cd_M_meets (0, 0, n1) Q 28 [mR 144, mI x1, mI x2, none] [] w :=
  Wp.s (Wp.s h)
theorem M_meets_144_b30 {d : Nat} {n1 : Int} {Q : MV → Wd → Prop} {x1 x2 x3 : Int} {w : Wd} (h1 : w 146 3.toNat ≤ x3 → Wp (Cw d) cd_M_meets (0, 0, n1) Q 68 [mR 144, mI x1, mI x2, none] [] w) (h2 : ¬ (w 146 3.toNat ≤ x3) → Wp (Cw d) cd_M_meets (0, 0, n1) Q 36 [mR 144, mI x1, mI x2, mI x3] [] w) : Wp (Cw d) cd_M_meets (0, 0, n1) Q 30 [mR 144, mI x1, mI x2, mI x3] [] w :=
  Wp.s (Wp.s (Wp.s (Wp.s (Wp.s ⟨(by decide), Wp.s ⟨fun q => Wp.fgd (leA.k (leA.k (leA.k (leA.f leA.e)))) (h1 q), fun q => h2 q⟩⟩))))
theorem M_meets_144_b36 {d : Nat} {n1 : Int} {Q : MV → Wd → Prop} {x1 x2 x3 : Int} {w : Wd} (g1 : (0 : Int) ≤ x2 ∧ x2 < 256) (h1 : ¬ w 165 x2.toNat = 0 → Wp (Cw d) cd_M_meets (0, 0, n1) Q 68 [mR 144, mI x1, mI x2, none] [] w) (h2 : ¬ (¬ w 165 x2.toNat = 0) → Wp (Cw d) cd_M_meets (0, 0, n1) Q 41 [mR 144, mI x1, mI x2, mI x3] [] w) : Wp (Cw d) cd_M_meets (0, 0, n1) Q 36 [mR 144, mI x1, mI x2, mI x3] [] w :=
  Wp.s (Wp.s (Wp.s (Wp.s ⟨g1, Wp.s ⟨fun q => Wp.fgd (leA.k (leA.k (leA.k (leA.f leA.e)))) (h1 q), fun q => h2 q⟩⟩)))
theorem M_meets_144_b41 {d : Nat} {n1 : Int} {Q : MV → Wd → Prop} {x1 x2 x3 : Int} {w : Wd} (h : Cw d 211 [mI x2, mI x3] w (fun r w' => Wp (Cw d) cd_M_meets (0, 0, n1) Q 47 [mR 144, mI x1, mI x2, mI x3] [r, mI x2, mR 165] w')) : Wp (Cw d) cd_M_meets (0, 0, n1) Q 41 [mR 144, mI x1, mI x2, mI x3] [] w :=
  Wp.s (Wp.s (Wp.s (Wp.s (Wp.s (Wp.s h)))))
theorem M_meets_144_b47 {d : Nat} {n1 : Int} {Q : MV → Wd → Prop} {x1 x2 x3 s0 s1 : Int} {w : Wd} (h1 : s0 = 0 → Wp (Cw d) cd_M_meets (0, 0, n1) Q 64 [mR 144, mI x1, mI x2, mI x3] [mI s1, mR 165] w) (h2 : ¬ (s0 = 0) → Wp (Cw d) cd_M_meets (0, 0, n1) Q 48 [mR 144, mI x1, mI x2, mI x3] [mI s1, mR 165] w) : Wp (Cw d) cd_M_meets (0, 0, n1) Q 47 [mR 144, mI x1, mI x2, mI x3] [mI s0, mI s1, mR 165] w :=
  Wp.s ⟨fun q => h1 q, fun q => h2 q⟩
theorem M_meets_144_b48 {d : Nat} {n1 : Int} {Q : MV → Wd → Prop} {x1 x2 x3 s0 : Int} {w : Wd} (g1 : (0 : Int) ≤ ixor x2 (ishl 1 x3) ∧ ixor x2 (ishl 1 x3) < 256) (h1 : w 165 (ixor x2 (ishl 1 x3)).toNat = 0 → Wp (Cw d) cd_M_meets (0, 0, n1) Q 64 [mR 144, mI x1, mI x2, mI x3] [mI s0, mR 165] w) (h2 : ¬ (w 165 (ixor x2 (ishl 1 x3)).toNat = 0) → Wp (Cw d) cd_M_meets (0, 0, n1) Q 57 [mR 144, mI x1, mI x2, mI x3] [mI s0, mR 165] w) : Wp (Cw d) cd_M_meets (0, 0, n1) Q 48 [mR 144, mI x1, mI x2, mI x3] [mI s0, mR 165] w :=
  Wp.s (Wp.s (Wp.s (Wp.s (Wp.s (Wp.s (Wp.s (Wp.s ⟨g1, Wp.s ⟨fun q => h1 q, fun q => h2 q⟩⟩)))))))
theorem M_meets_144_b57 {d : Nat} {n1 : Int} {Q : MV → Wd → Prop} {x1 x2 x3 s0 : Int} {w : Wd} (h : Cw d 220 [mR 144, mI x1, mI x3] w (fun r w' => Wp (Cw d) cd_M_meets (0, 0, n1) Q 61 [mR 144, mI x1, mI x2, mI x3] [r, mI s0, mR 165] w')) : Wp (Cw d) cd_M_meets (0, 0, n1) Q 57 [mR 144, mI x1, mI x2, mI x3] [mI s0, mR 165] w :=
  Wp.s (Wp.s (Wp.s (Wp.s h)))
theorem M_meets_144_b61 {d : Nat} {n1 : Int} {Q : MV → Wd → Prop} {x1 x2 x3 s0 s1 : Int} {w : Wd} (h1 : s0 = 0 → Wp (Cw d) cd_M_meets (0, 0, n1) Q 64 [mR 144, mI x1, mI x2, mI x3] [mI s1, mR 165] w) (h2 : ¬ (s0 = 0) → Wp (Cw d) cd_M_meets (0, 0, n1) Q 62 [mR 144, mI x1, mI x2, mI x3] [mI s1, mR 165] w) : Wp (Cw d) cd_M_meets (0, 0, n1) Q 61 [mR 144, mI x1, mI x2, mI x3] [mI s0, mI s1, mR 165] w :=
  Wp.s ⟨fun q => h1 q, fun q => h2 q⟩
theorem M_meets_144_b62 {d : Nat} {n1 : Int} {Q : MV → Wd → Prop} {x1 x2 x3 s0 : Int} {w : Wd} (h : Wp (Cw d) cd_M_meets (0, 0, n1) Q 65 [mR 144, mI x1, mI x2, mI x3] [mI 1, mI s0, mR 165] w) : Wp (Cw d) cd_M_meets (0, 0, n1) Q 62 [mR 144, mI x1, mI x2, mI x3] [mI s0, mR 165] w :=
  Wp.s (Wp.s h)
theorem M_meets_144_b64 {d : Nat} {n1 : Int} {Q : MV → Wd → Prop} {x1 x2 x3 s0 : Int} {w : Wd} (h : Wp (Cw d) cd_M_meets (0, 0, n1) Q 65 [mR 144, mI x1, mI x2, mI x3] [mI 0, mI s0, mR 165] w) : Wp (Cw d) cd_M_meets (0, 0, n1) Q 64 [mR 144, mI x1, mI x2, mI x3] [mI s0, mR 165] w :=
  Wp.s h
theorem M_meets_144_b65 {d : Nat} {n1 : Int} {Q : MV → Wd → Prop} {x1 x2 x3 s0 s1 : Int} {w : Wd} (g1 : (0 : Int) ≤ s1 ∧ s1 < 256) (g2 : s0 = 0 ∨ s0 = 1) (h : Wp (Cw d) cd_M_meets (0, 0, n1) Q 30 [mR 144, mI x1, mI x2, mI (w32 (x3 + 1))] [] (ub w 165 s1.toNat s0)) : Wp (Cw d) cd_M_meets (0, 0, n1) Q 65 [mR 144, mI x1, mI x2, mI x3] [mI s0, mI s1, mR 165] w :=
  Wp.s ⟨g1, g2, Wp.s (Wp.s h)⟩
theorem M_meets_144_b68 {d : Nat} {n1 : Int} {Q : MV → Wd → Prop} {x1 x2 : Int} {w : Wd} (h : Wp (Cw d) cd_M_meets (0, 0, n1) Q 26 [mR 144, mI x1, mI (w32 (x2 + (-1))), none] [] w) : Wp (Cw d) cd_M_meets (0, 0, n1) Q 68 [mR 144, mI x1, mI x2, none] [] w :=
  Wp.s (Wp.s h)
theorem M_meets_144_b70 {d : Nat} {n1 : Int} {Q : MV → Wd → Prop} {x1 : Int} {w : Wd} (h : Wp (Cw d) cd_M_meets (0, 0, n1) Q 18 [mR 144, mI (w32 (x1 + 1)), none, none] [] w) : Wp (Cw d) cd_M_meets (0, 0, n1) Q 70 [mR 144, mI x1, none, none] [] w :=
  Wp.s (Wp.s h)
theorem M_meets_144_b72 {d : Nat} {n1 : Int} {Q : MV → Wd → Prop} {w : Wd} (h : Q none w) : Wp (Cw d) cd_M_meets (0, 0, n1) Q 72 [none, none, none, none] [] w :=
  Wp.s h
theorem X_stopsBy_0_112_b0 {d : Nat} {n1 : Int} {Q : MV → Wd → Prop} {x2 : Int} {w : Wd} (h : Cw d 150 [mR 112] (ub w 114 7 (ixor x2 ((-1)))) (fun _ w' => Wp (Cw d) cd_X_stopsBy (2, 0, n1) Q 9 [none, mR 112, none] [] w')) : Wp (Cw d) cd_X_stopsBy (2, 0, n1) Q 0 [none, mR 112, mI x2] [] w :=
  Wp.s (Wp.s (Wp.s (Wp.s (Wp.s (Wp.s (Wp.s (Wp.s (Wp.s (Cw_mono _ _ _ _ _ _ (fun r w' q => Wp.fgd (leA.f (leA.k (leA.f leA.e))) q) h)))))))))
theorem X_stopsBy_0_112_b9 {d : Nat} {n1 : Int} {Q : MV → Wd → Prop} {w : Wd} (h : Cw d 87 [mR 112] w (fun r w' => Wp (Cw d) cd_X_stopsBy (2, 0, n1) Q 11 [none, none, none] [r] w')) : Wp (Cw d) cd_X_stopsBy (2, 0, n1) Q 9 [none, mR 112, none] [] w :=
  Wp.s (Wp.s (Cw_mono _ _ _ _ _ _ (fun r w' q => Wp.fgd (leA.f (leA.f (leA.f leA.e))) q) h))
theorem X_stopsBy_0_112_b11 {d : Nat} {n1 : Int} {Q : MV → Wd → Prop} {s0 : Int} {w : Wd} (h1 : ¬ s0 = 0 → Wp (Cw d) cd_X_stopsBy (2, 0, n1) Q 14 [none, none, none] [] w) (h2 : ¬ (¬ s0 = 0) → Wp (Cw d) cd_X_stopsBy (2, 0, n1) Q 12 [none, none, none] [] w) : Wp (Cw d) cd_X_stopsBy (2, 0, n1) Q 11 [none, none, none] [mI s0] w :=
  Wp.s ⟨fun q => h1 q, fun q => h2 q⟩
theorem X_stopsBy_0_112_b12 {d : Nat} {n1 : Int} {Q : MV → Wd → Prop} {w : Wd} (h : Wp (Cw d) cd_X_stopsBy (2, 0, n1) Q 15 [none, none, none] [mI 1] w) : Wp (Cw d) cd_X_stopsBy (2, 0, n1) Q 12 [none, none, none] [] w :=
  Wp.s (Wp.s h)
theorem X_stopsBy_0_112_b14 {d : Nat} {n1 : Int} {Q : MV → Wd → Prop} {w : Wd} (h : Wp (Cw d) cd_X_stopsBy (2, 0, n1) Q 15 [none, none, none] [mI 0] w) : Wp (Cw d) cd_X_stopsBy (2, 0, n1) Q 14 [none, none, none] [] w :=
  Wp.s h
theorem X_stopsBy_0_112_b15 {d : Nat} {n1 : Int} {Q : MV → Wd → Prop} {s0 : Int} {w : Wd} (g1 : s0 = 0 ∨ s0 = 1) (h : Q (mI s0) w) : Wp (Cw d) cd_X_stopsBy (2, 0, n1) Q 15 [none, none, none] [mI s0] w :=
  Wp.s ⟨g1, h⟩
theorem Meeting_sum_112_b0 {d : Nat} {n1 : Int} {Q : MV → Wd → Prop} {w : Wd} (h : Q (mI (w32 (lshr (w 112 7) 44))) w) : Wp (Cw d) cd_Meeting_sum (1, 0, n1) Q 0 [mR 112] [] w :=
  Wp.s (Wp.s (Wp.s (Wp.s (Wp.s (Wp.s h)))))
theorem Meeting_painsMet_112_b0 {d : Nat} {n1 : Int} {Q : MV → Wd → Prop} {w : Wd} (h : Wp (Cw d) cd_Meeting_painsMet (1, 0, n1) Q 4 [mR 112, mI 0, mI 0, none] [] w) : Wp (Cw d) cd_Meeting_painsMet (1, 0, n1) Q 0 [mR 112, none, none, none] [] w :=
  Wp.s (Wp.s (Wp.s (Wp.s h)))
theorem Meeting_painsMet_112_b4 {d : Nat} {n1 : Int} {Q : MV → Wd → Prop} {x1 x2 : Int} {w : Wd} (h1 : w 4 11 ≤ x2 → Wp (Cw d) cd_Meeting_painsMet (1, 0, n1) Q 30 [none, mI x1, none, none] [] w) (h2 : ¬ (w 4 11 ≤ x2) → Wp (Cw d) cd_Meeting_painsMet (1, 0, n1) Q 9 [mR 112, mI x1, mI x2, none] [] w) : Wp (Cw d) cd_Meeting_painsMet (1, 0, n1) Q 4 [mR 112, mI x1, mI x2, none] [] w :=
  Wp.s (Wp.s (Wp.s (Wp.s (Wp.s ⟨fun q => Wp.fgd (leA.f (leA.k (leA.f (leA.f leA.e)))) (h1 q), fun q => h2 q⟩))))
theorem Meeting_painsMet_112_b9 {d : Nat} {n1 : Int} {Q : MV → Wd → Prop} {x1 x2 : Int} {w : Wd} (h : Cw d 95 [mR 112, mI x2] w (fun r w' => Wp (Cw d) cd_Meeting_painsMet (1, 0, n1) Q 12 [mR 112, mI x1, mI x2, none] [r] w')) : Wp (Cw d) cd_Meeting_painsMet (1, 0, n1) Q 9 [mR 112, mI x1, mI x2, none] [] w :=
  Wp.s (Wp.s (Wp.s h))
theorem Meeting_painsMet_112_b12 {d : Nat} {n1 : Int} {Q : MV → Wd → Prop} {x1 x2 s0 : Int} {w : Wd} (h1 : ¬ s0 = (-1) → Wp (Cw d) cd_Meeting_painsMet (1, 0, n1) Q 19 [mR 112, none, mI x2, mI s0] [mI x1] w) (h2 : ¬ (¬ s0 = (-1)) → Wp (Cw d) cd_Meeting_painsMet (1, 0, n1) Q 17 [mR 112, none, mI x2, none] [mI x1] w) : Wp (Cw d) cd_Meeting_painsMet (1, 0, n1) Q 12 [mR 112, mI x1, mI x2, none] [mI s0] w :=
  Wp.s (Wp.s (Wp.s (Wp.s (Wp.s ⟨fun q => Wp.fgd (leA.k (leA.f (leA.k (leA.k leA.e)))) (h1 q), fun q => Wp.fgd (leA.k (leA.f (leA.k (leA.f leA.e)))) (h2 q)⟩))))
theorem Meeting_painsMet_112_b17 {d : Nat} {n1 : Int} {Q : MV → Wd → Prop} {x2 s0 : Int} {w : Wd} (h : Wp (Cw d) cd_Meeting_painsMet (1, 0, n1) Q 26 [mR 112, none, mI x2, none] [mI 0, mI s0] w) : Wp (Cw d) cd_Meeting_painsMet (1, 0, n1) Q 17 [mR 112, none, mI x2, none] [mI s0] w :=
  Wp.s (Wp.s h)
theorem Meeting_painsMet_112_b19 {d : Nat} {n1 : Int} {Q : MV → Wd → Prop} {x2 x3 s0 : Int} {w : Wd} (h : Cw d 77 [mR 112, mI x3, mI x2] w (fun r w' => Wp (Cw d) cd_Meeting_painsMet (1, 0, n1) Q 25 [mR 112, none, mI x2, none] [r, mR 113, mI s0] w')) : Wp (Cw d) cd_Meeting_painsMet (1, 0, n1) Q 19 [mR 112, none, mI x2, mI x3] [mI s0] w :=
  Wp.s (Wp.s (Wp.s (Wp.s (Wp.s (Wp.s (Cw_mono _ _ _ _ _ _ (fun r w' q => Wp.fgd (leA.k (leA.f (leA.k (leA.f leA.e)))) q) h))))))
theorem Meeting_painsMet_112_b25 {d : Nat} {n1 : Int} {Q : MV → Wd → Prop} {x2 s0 s2 : Int} {w : Wd} (h : Cw d 84 [mR 113, mL s0] w (fun r w' => Wp (Cw d) cd_Meeting_painsMet (1, 0, n1) Q 26 [mR 112, none, mI x2, none] [r, mI s2] w')) : Wp (Cw d) cd_Meeting_painsMet (1, 0, n1) Q 25 [mR 112, none, mI x2, none] [mL s0, mR 113, mI s2] w :=
  Wp.s h
theorem Meeting_painsMet_112_b26 {d : Nat} {n1 : Int} {Q : MV → Wd → Prop} {x2 s0 s1 : Int} {w : Wd} (h : Wp (Cw d) cd_Meeting_painsMet (1, 0, n1) Q 4 [mR 112, mI (w32 (s1 + s0)), mI (w32 (x2 + 1)), none] [] w) : Wp (Cw d) cd_Meeting_painsMet (1, 0, n1) Q 26 [mR 112, none, mI x2, none] [mI s0, mI s1] w :=
  Wp.s (Wp.s (Wp.s (Wp.s h)))
theorem Meeting_painsMet_112_b30 {d : Nat} {n1 : Int} {Q : MV → Wd → Prop} {x1 : Int} {w : Wd} (h : Q (mI x1) w) : Wp (Cw d) cd_Meeting_painsMet (1, 0, n1) Q 30 [none, mI x1, none, none] [] w :=
  Wp.s (Wp.s h)
theorem Book_add_36_b0 {d : Nat} {n1 : Int} {Q : MV → Wd → Prop} {x1 x2 x3 x4 : Int} {w : Wd} (h : Wp (Cw d) cd_Book_add (1, 0, n1) Q 4 [mR 36, mI x1, mI x2, mI x3, mI x4, mI 0, mI 0] [] w) : Wp (Cw d) cd_Book_add (1, 0, n1) Q 0 [mR 36, mI x1, mI x2, mI x3, mI x4, none, none] [] w :=
  Wp.s (Wp.s (Wp.s (Wp.s h)))
theorem Book_add_36_b4 {d : Nat} {n1 : Int} {Q : MV → Wd → Prop} {x1 x2 x3 x4 x5 x6 : Int} {w : Wd} (h1 : w 36 0 ≤ x6 → Wp (Cw d) cd_Book_add (1, 0, n1) Q 22 [mR 36, mI x1, mI x2, mI x3, mI x4, mI x5, none] [] w) (h2 : ¬ (w 36 0 ≤ x6) → Wp (Cw d) cd_Book_add (1, 0, n1) Q 8 [mR 36, mI x1, mI x2, mI x3, mI x4, mI x5, mI x6] [] w) : Wp (Cw d) cd_Book_add (1, 0, n1) Q 4 [mR 36, mI x1, mI x2, mI x3, mI x4, mI x5, mI x6] [] w :=
  Wp.s (Wp.s (Wp.s (Wp.s ⟨fun q => Wp.fgd (leA.k (leA.k (leA.k (leA.k (leA.k (leA.k (leA.f leA.e))))))) (h1 q), fun q => h2 q⟩)))
theorem Book_add_36_b8 {d : Nat} {n1 : Int} {Q : MV → Wd → Prop} {x1 x2 x3 x4 x5 x6 : Int} {w : Wd} (g1 : (0 : Int) ≤ x6 ∧ x6 < 40) (h1 : ¬ w 37 x6.toNat = x1 → Wp (Cw d) cd_Book_add (1, 0, n1) Q 17 [mR 36, mI x1, mI x2, mI x3, mI x4, none, mI x6] [mI x5] w) (h2 : ¬ (¬ w 37 x6.toNat = x1) → Wp (Cw d) cd_Book_add (1, 0, n1) Q 15 [mR 36, mI x1, mI x2, mI x3, mI x4, none, mI x6] [mI x5] w) : Wp (Cw d) cd_Book_add (1, 0, n1) Q 8 [mR 36, mI x1, mI x2, mI x3, mI x4, mI x5, mI x6] [] w :=
  Wp.s (Wp.s (Wp.s (Wp.s (Wp.s ⟨g1, Wp.s (Wp.s ⟨fun q => Wp.fgd (leA.k (leA.k (leA.k (leA.k (leA.k (leA.f (leA.k leA.e))))))) (h1 q), fun q => Wp.fgd (leA.k (leA.k (leA.k (leA.k (leA.k (leA.f (leA.k leA.e))))))) (h2 q)⟩)⟩))))
theorem Book_add_36_b15 {d : Nat} {n1 : Int} {Q : MV → Wd → Prop} {x1 x2 x3 x4 x6 s0 : Int} {w : Wd} (h : Wp (Cw d) cd_Book_add (1, 0, n1) Q 18 [mR 36, mI x1, mI x2, mI x3, mI x4, none, mI x6] [mI 1, mI s0] w) : Wp (Cw d) cd_Book_add (1, 0, n1) Q 15 [mR 36, mI x1, mI x2, mI x3, mI x4, none, mI x6] [mI s0] w :=
  Wp.s (Wp.s h)
theorem Book_add_36_b17 {d : Nat} {n1 : Int} {Q : MV → Wd → Prop} {x1 x2 x3 x4 x6 s0 : Int} {w : Wd} (h : Wp (Cw d) cd_Book_add (1, 0, n1) Q 18 [mR 36, mI x1, mI x2, mI x3, mI x4, none, mI x6] [mI 0, mI s0] w) : Wp (Cw d) cd_Book_add (1, 0, n1) Q 17 [mR 36, mI x1, mI x2, mI x3, mI x4, none, mI x6] [mI s0] w :=
  Wp.s h
theorem Book_add_36_b18 {d : Nat} {n1 : Int} {Q : MV → Wd → Prop} {x1 x2 x3 x4 x6 s0 s1 : Int} {w : Wd} (h : Wp (Cw d) cd_Book_add (1, 0, n1) Q 4 [mR 36, mI x1, mI x2, mI x3, mI x4, mI (w32 (s1 + s0)), mI (w32 (x6 + 1))] [] w) : Wp (Cw d) cd_Book_add (1, 0, n1) Q 18 [mR 36, mI x1, mI x2, mI x3, mI x4, none, mI x6] [mI s0, mI s1] w :=
  Wp.s (Wp.s (Wp.s (Wp.s h)))
theorem Book_add_36_b22 {d : Nat} {n1 : Int} {Q : MV → Wd → Prop} {x1 x2 x3 x4 x5 : Int} {w : Wd} (h1 : 40 ≤ w 36 0 → Wp (Cw d) cd_Book_add (1, 0, n1) Q 29 [none, none, none, none, none, none, none] [] w) (h2 : ¬ (40 ≤ w 36 0) → Wp (Cw d) cd_Book_add (1, 0, n1) Q 26 [mR 36, mI x1, mI x2, mI x3, mI x4, mI x5, none] [] w) : Wp (Cw d) cd_Book_add (1, 0, n1) Q 22 [mR 36, mI x1, mI x2, mI x3, mI x4, mI x5, none] [] w :=
  Wp.s (Wp.s (Wp.s (Wp.s ⟨fun q => Wp.fgd (leA.f (leA.f (leA.f (leA.f (leA.f (leA.f (leA.f leA.e))))))) (h1 q), fun q => h2 q⟩)))
theorem Book_add_36_b26 {d : Nat} {n1 : Int} {Q : MV → Wd → Prop} {x1 x2 x3 x4 x5 : Int} {w : Wd} (h1 : x5 < 8 → Wp (Cw d) cd_Book_add (1, 0, n1) Q 31 [mR 36, mI x1, mI x2, mI x3, mI x4, none, none] [] w) (h2 : ¬ (x5 < 8) → Wp (Cw d) cd_Book_add (1, 0, n1) Q 29 [none, none, none, none, none, none, none] [] w) : Wp (Cw d) cd_Book_add (1, 0, n1) Q 26 [mR 36, mI x1, mI x2, mI x3, mI x4, mI x5, none] [] w :=
  Wp.s (Wp.s (Wp.s ⟨fun q => Wp.fgd (leA.k (leA.k (leA.k (leA.k (leA.k (leA.f (leA.f leA.e))))))) (h1 q), fun q => Wp.fgd (leA.f (leA.f (leA.f (leA.f (leA.f (leA.f (leA.f leA.e))))))) (h2 q)⟩))
theorem Book_add_36_b29 {d : Nat} {n1 : Int} {Q : MV → Wd → Prop} {w : Wd} (h : Q (mI ((-1))) w) : Wp (Cw d) cd_Book_add (1, 0, n1) Q 29 [none, none, none, none, none, none, none] [] w :=
  Wp.s (Wp.s h)
theorem Book_add_36_b31 {d : Nat} {n1 : Int} {Q : MV → Wd → Prop} {x1 x2 x3 x4 : Int} {w : Wd} (g1 : (0 : Int) ≤ w 36 0 ∧ w 36 0 < 40) (g2 : (0 : Int) ≤ w 36 0 ∧ w 36 0 < 40) (g3 : (0 : Int) ≤ w 36 0 ∧ w 36 0 < 40) (g4 : (0 : Int) ≤ w 36 0 ∧ w 36 0 < 40) (h : Q (mI (w32 (((up1 (w 36) 0 (w32 ((w 36 0) + 1))) 0) - 1))) (ub (ub (ub (ub (ub w 37 (w 36 0).toNat x1) 38 (w 36 0).toNat x2) 39 (w 36 0).toNat x3) 40 (w 36 0).toNat x4) 36 0 (w32 ((w 36 0) + 1)))) : Wp (Cw d) cd_Book_add (1, 0, n1) Q 31 [mR 36, mI x1, mI x2, mI x3, mI x4, none, none] [] w :=
  Wp.s (Wp.s (Wp.s (Wp.s (Wp.s (Wp.s ⟨g1, Wp.s (Wp.s (Wp.s (Wp.s (Wp.s (Wp.s ⟨g2, Wp.s (Wp.s (Wp.s (Wp.s (Wp.s (Wp.s ⟨g3, Wp.s (Wp.s (Wp.s (Wp.s (Wp.s (Wp.s ⟨g4, Wp.s (Wp.s (Wp.s (Wp.s (Wp.s (Wp.s (Wp.s (Wp.s (Wp.s (Wp.s (Wp.s h))))))))))⟩)))))⟩)))))⟩)))))⟩)))))
theorem M_notesOf_144_b0 {d : Nat} {n1 : Int} {Q : MV → Wd → Prop} {x1 : Int} {w : Wd} (h : Wp (Cw d) cd_M_notesOf (0, 0, n1) Q 5 [mR 144, mI x1, mI 0, none] [] (ub w 144 75 0)) : Wp (Cw d) cd_M_notesOf (0, 0, n1) Q 0 [mR 144, mI x1, none, none] [] w :=
  Wp.s (Wp.s (Wp.s (Wp.s (Wp.s h))))
theorem M_notesOf_144_b5 {d : Nat} {n1 : Int} {Q : MV → Wd → Prop} {x1 x2 : Int} {w : Wd} (h1 : w 146 484.toNat ≤ x2 → Wp (Cw d) cd_M_notesOf (0, 0, n1) Q 88 [none, none, none, none] [] w) (h2 : ¬ (w 146 484.toNat ≤ x2) → Wp (Cw d) cd_M_notesOf (0, 0, n1) Q 11 [mR 144, mI x1, mI x2, none] [] w) : Wp (Cw d) cd_M_notesOf (0, 0, n1) Q 5 [mR 144, mI x1, mI x2, none] [] w :=
  Wp.s (Wp.s (Wp.s (Wp.s (Wp.s ⟨(by decide), Wp.s ⟨fun q => Wp.fgd (leA.f (leA.f (leA.f (leA.f leA.e)))) (h1 q), fun q => h2 q⟩⟩))))
theorem M_notesOf_144_b11 {d : Nat} {n1 : Int} {Q : MV → Wd → Prop} {x1 x2 : Int} {w : Wd} (g1 : (0 : Int) ≤ w32 (485 + (w32 (4 * x2))) ∧ w32 (485 + (w32 (4 * x2))) < 645) (h1 : w 146 (w32 (485 + (w32 (4 * x2)))).toNat = x1 → Wp (Cw d) cd_M_notesOf (0, 0, n1) Q 22 [mR 144, mI x1, mI x2, none] [] w) (h2 : ¬ (w 146 (w32 (485 + (w32 (4 * x2)))).toNat = x1) → Wp (Cw d) cd_M_notesOf (0, 0, n1) Q 21 [mR 144, mI x1, mI x2, none] [] w) : Wp (Cw d) cd_M_notesOf (0, 0, n1) Q 11 [mR 144, mI x1, mI x2, none] [] w :=
  Wp.s (Wp.s (Wp.s (Wp.s (Wp.s (Wp.s (Wp.s (Wp.s ⟨g1, Wp.s (Wp.s ⟨fun q => h1 q, fun q => h2 q⟩)⟩)))))))
theorem M_notesOf_144_b21 {d : Nat} {n1 : Int} {Q : MV → Wd → Prop} {x1 x2 : Int} {w : Wd} (h : Wp (Cw d) cd_M_notesOf (0, 0, n1) Q 86 [mR 144, mI x1, mI x2, none] [] w) : Wp (Cw d) cd_M_notesOf (0, 0, n1) Q 21 [mR 144, mI x1, mI x2, none] [] w :=
  Wp.s h
theorem M_notesOf_144_b22 {d : Nat} {n1 : Int} {Q : MV → Wd → Prop} {x1 x2 : Int} {w : Wd} (g1 : (0 : Int) ≤ w 144 75 ∧ w 144 75 < 8) (h : Wp (Cw d) cd_M_notesOf (0, 0, n1) Q 35 [mR 144, mI x1, mI x2, mI (w 144 75)] [] (ub w 180 (w 144 75).toNat (w32 (485 + (w32 (4 * x2)))))) : Wp (Cw d) cd_M_notesOf (0, 0, n1) Q 22 [mR 144, mI x1, mI x2, none] [] w :=
  Wp.s (Wp.s (Wp.s (Wp.s (Wp.s (Wp.s (Wp.s (Wp.s (Wp.s (Wp.s ⟨g1, Wp.s (Wp.s (Wp.s h))⟩)))))))))
theorem M_notesOf_144_b35 {d : Nat} {n1 : Int} {Q : MV → Wd → Prop} {x1 x2 x3 : Int} {w : Wd} (h1 : x3 ≤ 0 → Wp (Cw d) cd_M_notesOf (0, 0, n1) Q 74 [mR 144, mI x1, mI x2, mI x3] [] w) (h2 : ¬ (x3 ≤ 0) → Wp (Cw d) cd_M_notesOf (0, 0, n1) Q 37 [mR 144, mI x1, mI x2, mI x3] [] w) : Wp (Cw d) cd_M_notesOf (0, 0, n1) Q 35 [mR 144, mI x1, mI x2, mI x3] [] w :=
  Wp.s (Wp.s ⟨fun q => h1 q, fun q => h2 q⟩)
theorem M_notesOf_144_b37 {d : Nat} {n1 : Int} {Q : MV → Wd → Prop} {x1 x2 x3 : Int} {w : Wd} (g1 : (0 : Int) ≤ w32 (x3 - 1) ∧ w32 (x3 - 1) < 8) (g2 : (0 : Int) ≤ w 181 (w32 (x3 - 1)).toNat ∧ w 181 (w32 (x3 - 1)).toNat < 8) (g3 : (0 : Int) ≤ w32 ((w 180 (w 181 (w32 (x3 - 1)).toNat).toNat) + 3) ∧ w32 ((w 180 (w 181 (w32 (x3 - 1)).toNat).toNat) + 3) < 645) (g4 : (0 : Int) ≤ w32 ((w32 (485 + (w32 (4 * x2)))) + 3) ∧ w32 ((w32 (485 + (w32 (4 * x2)))) + 3) < 645) (h1 : w 146 (w32 ((w 180 (w 181 (w32 (x3 - 1)).toNat).toNat) + 3)).toNat ≤ w 146 (w32 ((w32 (485 + (w32 (4 * x2)))) + 3)).toNat → Wp (Cw d) cd_M_notesOf (0, 0, n1) Q 74 [mR 144, mI x1, mI x2, mI x3] [] w) (h2 : ¬ (w 146 (w32 ((w 180 (w 181 (w32 (x3 - 1)).toNat).toNat) + 3)).toNat ≤ w 146 (w32 ((w32 (485 + (w32 (4 * x2)))) + 3)).toNat) → Wp (Cw d) cd_M_notesOf (0, 0, n1) Q 62 [mR 144, mI x1, mI x2, mI x3] [] w) : Wp (Cw d) cd_M_notesOf (0, 0, n1) Q 37 [mR 144, mI x1, mI x2, mI x3] [] w :=
  Wp.s (Wp.s (Wp.s (Wp.s (Wp.s (Wp.s (Wp.s (Wp.s (Wp.s (Wp.s ⟨g1, Wp.s ⟨g2, Wp.s (Wp.s (Wp.s ⟨g3, Wp.s (Wp.s (Wp.s (Wp.s (Wp.s (Wp.s (Wp.s (Wp.s (Wp.s (Wp.s ⟨g4, Wp.s ⟨fun q => h1 q, fun q => h2 q⟩⟩)))))))))⟩))⟩⟩)))))))))
theorem M_notesOf_144_b62 {d : Nat} {n1 : Int} {Q : MV → Wd → Prop} {x1 x2 x3 : Int} {w : Wd} (g1 : (0 : Int) ≤ w32 (x3 - 1) ∧ w32 (x3 - 1) < 8) (g2 : (0 : Int) ≤ x3 ∧ x3 < 8) (h : Wp (Cw d) cd_M_notesOf (0, 0, n1) Q 35 [mR 144, mI x1, mI x2, mI (w32 (x3 + (-1)))] [] (ub w 181 x3.toNat (w 181 (w32 (x3 - 1)).toNat))) : Wp (Cw d) cd_M_notesOf (0, 0, n1) Q 62 [mR 144, mI x1, mI x2, mI x3] [] w :=
  Wp.s (Wp.s (Wp.s (Wp.s (Wp.s (Wp.s (Wp.s (Wp.s (Wp.s ⟨g1, Wp.s ⟨g2, Wp.s (Wp.s h)⟩⟩))))))))
theorem M_notesOf_144_b74 {d : Nat} {n1 : Int} {Q : MV → Wd → Prop} {x1 x2 x3 : Int} {w : Wd} (g1 : (0 : Int) ≤ x3 ∧ x3 < 8) (h : Wp (Cw d) cd_M_notesOf (0, 0, n1) Q 86 [mR 144, mI x1, mI x2, none] [] (ub (ub w 181 x3.toNat (w 144 75)) 144 75 (w32 ((w 144 75) + 1)))) : Wp (Cw d) cd_M_notesOf (0, 0, n1) Q 74 [mR 144, mI x1, mI x2, mI x3] [] w :=
  Wp.s (Wp.s (Wp.s (Wp.s (Wp.s (Wp.s ⟨g1, Wp.s (Wp.s (Wp.s (Wp.s (Wp.s (Wp.s (Wp.fgd (leA.k (leA.k (leA.k (leA.f leA.e)))) h))))))⟩)))))
theorem M_notesOf_144_b86 {d : Nat} {n1 : Int} {Q : MV → Wd → Prop} {x1 x2 : Int} {w : Wd} (h : Wp (Cw d) cd_M_notesOf (0, 0, n1) Q 5 [mR 144, mI x1, mI (w32 (x2 + 1)), none] [] w) : Wp (Cw d) cd_M_notesOf (0, 0, n1) Q 86 [mR 144, mI x1, mI x2, none] [] w :=
  Wp.s (Wp.s h)
theorem M_notesOf_144_b88 {d : Nat} {n1 : Int} {Q : MV → Wd → Prop} {w : Wd} (h : Q none w) : Wp (Cw d) cd_M_notesOf (0, 0, n1) Q 88 [none, none, none, none] [] w :=
  Wp.s h
theorem Book_found_36_4_b0 {d : Nat} {n1 : Int} {Q : MV → Wd → Prop} {x1 : Int} {w : Wd} (h : Cw d 161 [mR 36, mI x1] w (fun r w' => Wp (Cw d) cd_Book_found (1, 0, n1) Q 3 [mR 36, mI x1, mR 4, none, none, none, none] [r] w')) : Wp (Cw d) cd_Book_found (1, 0, n1) Q 0 [mR 36, mI x1, mR 4, none, none, none, none] [] w :=
  Wp.s (Wp.s (Wp.s h))
theorem Book_found_36_4_b3 {d : Nat} {n1 : Int} {Q : MV → Wd → Prop} {x1 s0 : Int} {w : Wd} (h : Wp (Cw d) cd_Book_found (1, 0, n1) Q 14 [mR 36, mI x1, mR 4, mI s0, mI (w32 ((ishl 1 s0) - 1)), mI (w32 ((ishl 1 s0) - 1)), mI 0] [] w) : Wp (Cw d) cd_Book_found (1, 0, n1) Q 3 [mR 36, mI x1, mR 4, none, none, none, none] [mI s0] w :=
  Wp.s (Wp.s (Wp.s (Wp.s (Wp.s (Wp.s (Wp.s (Wp.s (Wp.s (Wp.s (Wp.s h))))))))))
theorem Book_found_36_4_b14 {d : Nat} {n1 : Int} {Q : MV → Wd → Prop} {x1 x3 x4 x5 x6 : Int} {w : Wd} (h1 : x4 ≤ x6 → Wp (Cw d) cd_Book_found (1, 0, n1) Q 33 [none, none, none, none, none, mI x5, none] [] w) (h2 : ¬ (x4 ≤ x6) → Wp (Cw d) cd_Book_found (1, 0, n1) Q 17 [mR 36, mI x1, mR 4, mI x3, mI x4, mI x5, mI x6] [] w) : Wp (Cw d) cd_Book_found (1, 0, n1) Q 14 [mR 36, mI x1, mR 4, mI x3, mI x4, mI x5, mI x6] [] w :=
  Wp.s (Wp.s (Wp.s ⟨fun q => Wp.fgd (leA.f (leA.f (leA.f (leA.f (leA.f (leA.k (leA.f leA.e))))))) (h1 q), fun q => h2 q⟩))
theorem Book_found_36_4_b17 {d : Nat} {n1 : Int} {Q : MV → Wd → Prop} {x1 x3 x4 x5 x6 : Int} {w : Wd} (h : Cw d 278 [mI x6] w (fun r w' => Wp (Cw d) cd_Book_found (1, 0, n1) Q 19 [mR 36, mI x1, mR 4, mI x3, mI x4, mI x5, mI x6] [r] w')) : Wp (Cw d) cd_Book_found (1, 0, n1) Q 17 [mR 36, mI x1, mR 4, mI x3, mI x4, mI x5, mI x6] [] w :=
  Wp.s (Wp.s h)
theorem Book_found_36_4_b19 {d : Nat} {n1 : Int} {Q : MV → Wd → Prop} {x1 x3 x4 x5 x6 s0 : Int} {w : Wd} (h : Cw d 278 [mI x5] w (fun r w' => Wp (Cw d) cd_Book_found (1, 0, n1) Q 21 [mR 36, mI x1, mR 4, mI x3, mI x4, mI x5, mI x6] [r, mI s0] w')) : Wp (Cw d) cd_Book_found (1, 0, n1) Q 19 [mR 36, mI x1, mR 4, mI x3, mI x4, mI x5, mI x6] [mI s0] w :=
  Wp.s (Wp.s h)
theorem Book_found_36_4_b21 {d : Nat} {n1 : Int} {Q : MV → Wd → Prop} {x1 x3 x4 x5 x6 s0 s1 : Int} {w : Wd} (h1 : s0 ≤ s1 → Wp (Cw d) cd_Book_found (1, 0, n1) Q 31 [mR 36, mI x1, mR 4, mI x3, mI x4, mI x5, mI x6] [] w) (h2 : ¬ (s0 ≤ s1) → Wp (Cw d) cd_Book_found (1, 0, n1) Q 22 [mR 36, mI x1, mR 4, mI x3, mI x4, mI x5, mI x6] [] w) : Wp (Cw d) cd_Book_found (1, 0, n1) Q 21 [mR 36, mI x1, mR 4, mI x3, mI x4, mI x5, mI x6] [mI s0, mI s1] w :=
  Wp.s ⟨fun q => h1 q, fun q => h2 q⟩
theorem Book_found_36_4_b22 {d : Nat} {n1 : Int} {Q : MV → Wd → Prop} {x1 x3 x4 x5 x6 : Int} {w : Wd} (h : Cw d 162 [mR 36, mI x1, mI x3, mI x6, mR 4] w (fun r w' => Wp (Cw d) cd_Book_found (1, 0, n1) Q 28 [mR 36, mI x1, mR 4, mI x3, mI x4, mI x5, mI x6] [r] w')) : Wp (Cw d) cd_Book_found (1, 0, n1) Q 22 [mR 36, mI x1, mR 4, mI x3, mI x4, mI x5, mI x6] [] w :=
  Wp.s (Wp.s (Wp.s (Wp.s (Wp.s (Wp.s h)))))
theorem Book_found_36_4_b28 {d : Nat} {n1 : Int} {Q : MV → Wd → Prop} {x1 x3 x4 x5 x6 s0 : Int} {w : Wd} (h1 : s0 = 0 → Wp (Cw d) cd_Book_found (1, 0, n1) Q 31 [mR 36, mI x1, mR 4, mI x3, mI x4, mI x5, mI x6] [] w) (h2 : ¬ (s0 = 0) → Wp (Cw d) cd_Book_found (1, 0, n1) Q 29 [mR 36, mI x1, mR 4, mI x3, mI x4, none, mI x6] [] w) : Wp (Cw d) cd_Book_found (1, 0, n1) Q 28 [mR 36, mI x1, mR 4, mI x3, mI x4, mI x5, mI x6] [mI s0] w :=
  Wp.s ⟨fun q => h1 q, fun q => Wp.fgd (leA.k (leA.k (leA.k (leA.k (leA.k (leA.f (leA.k leA.e))))))) (h2 q)⟩
theorem Book_found_36_4_b29 {d : Nat} {n1 : Int} {Q : MV → Wd → Prop} {x1 x3 x4 x6 : Int} {w : Wd} (h : Wp (Cw d) cd_Book_found (1, 0, n1) Q 31 [mR 36, mI x1, mR 4, mI x3, mI x4, mI x6, mI x6] [] w) : Wp (Cw d) cd_Book_found (1, 0, n1) Q 29 [mR 36, mI x1, mR 4, mI x3, mI x4, none, mI x6] [] w :=
  Wp.s (Wp.s h)
theorem Book_found_36_4_b31 {d : Nat} {n1 : Int} {Q : MV → Wd → Prop} {x1 x3 x4 x5 x6 : Int} {w : Wd} (h : Wp (Cw d) cd_Book_found (1, 0, n1) Q 14 [mR 36, mI x1, mR 4, mI x3, mI x4, mI x5, mI (w32 (x6 + 1))] [] w) : Wp (Cw d) cd_Book_found (1, 0, n1) Q 31 [mR 36, mI x1, mR 4, mI x3, mI x4, mI x5, mI x6] [] w :=
  Wp.s (Wp.s h)
theorem Book_found_36_4_b33 {d : Nat} {n1 : Int} {Q : MV → Wd → Prop} {x5 : Int} {w : Wd} (h : Q (mI x5) w) : Wp (Cw d) cd_Book_found (1, 0, n1) Q 33 [none, none, none, none, none, mI x5, none] [] w :=
  Wp.s (Wp.s h)
theorem Book_holder_36_4_b0 {d : Nat} {n1 : Int} {Q : MV → Wd → Prop} {x1 x2 : Int} {w : Wd} (h : Cw d 161 [mR 36, mI x1] w (fun r w' => Wp (Cw d) cd_Book_holder (1, 0, n1) Q 3 [mR 36, mI x1, mI x2, mR 4, none, none, none] [r] w')) : Wp (Cw d) cd_Book_holder (1, 0, n1) Q 0 [mR 36, mI x1, mI x2, mR 4, none, none, none] [] w :=
  Wp.s (Wp.s (Wp.s h))
theorem Book_holder_36_4_b3 {d : Nat} {n1 : Int} {Q : MV → Wd → Prop} {x1 x2 s0 : Int} {w : Wd} (h : Cw d 61 [mR 4, mI x1, mI 1] w (fun r w' => Wp (Cw d) cd_Book_holder (1, 0, n1) Q 8 [mR 36, none, mI x2, none, mI s0, none, none] [r] w')) : Wp (Cw d) cd_Book_holder (1, 0, n1) Q 3 [mR 36, mI x1, mI x2, mR 4, none, none, none] [mI s0] w :=
  Wp.s (Wp.s (Wp.s (Wp.s (Wp.s (Cw_mono _ _ _ _ _ _ (fun r w' q => Wp.fgd (leA.k (leA.f (leA.k (leA.f (leA.k (leA.f (leA.f leA.e))))))) q) h)))))
theorem Book_holder_36_4_b8 {d : Nat} {n1 : Int} {Q : MV → Wd → Prop} {x2 x4 s0 : Int} {w : Wd} (h : Wp (Cw d) cd_Book_holder (1, 0, n1) Q 11 [mR 36, none, mI x2, none, mI x4, mI s0, mI 0] [] w) : Wp (Cw d) cd_Book_holder (1, 0, n1) Q 8 [mR 36, none, mI x2, none, mI x4, none, none] [mI s0] w :=
  Wp.s (Wp.s (Wp.s h))
theorem Book_holder_36_4_b11 {d : Nat} {n1 : Int} {Q : MV → Wd → Prop} {x2 x4 x5 x6 : Int} {w : Wd} (h1 : x4 ≤ x6 → Wp (Cw d) cd_Book_holder (1, 0, n1) Q 33 [none, none, none, none, none, mI x5, none] [] w) (h2 : ¬ (x4 ≤ x6) → Wp (Cw d) cd_Book_holder (1, 0, n1) Q 14 [mR 36, none, mI x2, none, mI x4, mI x5, mI x6] [] w) : Wp (Cw d) cd_Book_holder (1, 0, n1) Q 11 [mR 36, none, mI x2, none, mI x4, mI x5, mI x6] [] w :=
  Wp.s (Wp.s (Wp.s ⟨fun q => Wp.fgd (leA.f (leA.f (leA.f (leA.f (leA.f (leA.k (leA.f leA.e))))))) (h1 q), fun q => h2 q⟩))
theorem Book_holder_36_4_b14 {d : Nat} {n1 : Int} {Q : MV → Wd → Prop} {x2 x4 x5 x6 : Int} {w : Wd} (g1 : (0 : Int) ≤ x6 ∧ x6 < 8) (h : Cw d 66 [mI x2, mI (w 42 x6.toNat)] w (fun r w' => Wp (Cw d) cd_Book_holder (1, 0, n1) Q 20 [mR 36, none, mI x2, none, mI x4, mI x5, mI x6] [r] w')) : Wp (Cw d) cd_Book_holder (1, 0, n1) Q 14 [mR 36, none, mI x2, none, mI x4, mI x5, mI x6] [] w :=
  Wp.s (Wp.s (Wp.s (Wp.s (Wp.s ⟨g1, Wp.s h⟩))))
theorem Book_holder_36_4_b20 {d : Nat} {n1 : Int} {Q : MV → Wd → Prop} {x2 x4 x5 x6 s0 : Int} {w : Wd} (h1 : s0 = 0 → Wp (Cw d) cd_Book_holder (1, 0, n1) Q 23 [mR 36, none, mI x2, none, mI x4, none, mI x6] [] w) (h2 : ¬ (s0 = 0) → Wp (Cw d) cd_Book_holder (1, 0, n1) Q 21 [mR 36, none, mI x2, none, mI x4, mI x5, mI x6] [] w) : Wp (Cw d) cd_Book_holder (1, 0, n1) Q 20 [mR 36, none, mI x2, none, mI x4, mI x5, mI x6] [mI s0] w :=
  Wp.s ⟨fun q => Wp.fgd (leA.k (leA.f (leA.k (leA.f (leA.k (leA.f (leA.k leA.e))))))) (h1 q), fun q => h2 q⟩
theorem Book_holder_36_4_b21 {d : Nat} {n1 : Int} {Q : MV → Wd → Prop} {x2 x4 x5 x6 : Int} {w : Wd} (h : Wp (Cw d) cd_Book_holder (1, 0, n1) Q 30 [mR 36, none, mI x2, none, mI x4, none, mI x6] [mI x5] w) : Wp (Cw d) cd_Book_holder (1, 0, n1) Q 21 [mR 36, none, mI x2, none, mI x4, mI x5, mI x6] [] w :=
  Wp.s (Wp.s (Wp.fgd (leA.k (leA.f (leA.k (leA.f (leA.k (leA.f (leA.k leA.e))))))) h))
theorem Book_holder_36_4_b23 {d : Nat} {n1 : Int} {Q : MV → Wd → Prop} {x2 x4 x6 : Int} {w : Wd} (g1 : (0 : Int) ≤ x6 ∧ x6 < 8) (g2 : (0 : Int) ≤ w 41 x6.toNat ∧ w 41 x6.toNat < 40) (h : Wp (Cw d) cd_Book_holder (1, 0, n1) Q 30 [mR 36, none, mI x2, none, mI x4, none, mI x6] [mI (w 39 (w 41 x6.toNat).toNat)] w) : Wp (Cw d) cd_Book_holder (1, 0, n1) Q 23 [mR 36, none, mI x2, none, mI x4, none, mI x6] [] w :=
  Wp.s (Wp.s (Wp.s (Wp.s (Wp.s (Wp.s ⟨g1, Wp.s ⟨g2, h⟩⟩)))))
theorem Book_holder_36_4_b30 {d : Nat} {n1 : Int} {Q : MV → Wd → Prop} {x2 x4 x6 s0 : Int} {w : Wd} (h : Wp (Cw d) cd_Book_holder (1, 0, n1) Q 11 [mR 36, none, mI x2, none, mI x4, mI s0, mI (w32 (x6 + 1))] [] w) : Wp (Cw d) cd_Book_holder (1, 0, n1) Q 30 [mR 36, none, mI x2, none, mI x4, none, mI x6] [mI s0] w :=
  Wp.s (Wp.s (Wp.s h))
theorem Book_holder_36_4_b33 {d : Nat} {n1 : Int} {Q : MV → Wd → Prop} {x5 : Int} {w : Wd} (h : Q (mI x5) w) : Wp (Cw d) cd_Book_holder (1, 0, n1) Q 33 [none, none, none, none, none, mI x5, none] [] w :=
  Wp.s (Wp.s h)
theorem M_areTrue_144_b0 {d : Nat} {n1 : Int} {Q : MV → Wd → Prop} {x1 x2 : Int} {w : Wd} (h : Wp (Cw d) cd_M_areTrue (2, 0, n1) Q 5 [mR 144, mI x1, mI x2, mI 0, none] [] (ub w 144 76 ((-1)))) : Wp (Cw d) cd_M_areTrue (2, 0, n1) Q 0 [mR 144, mI x1, mI x2, none, none] [] w :=
  Wp.s (Wp.s (Wp.s (Wp.s (Wp.s h))))
theorem M_areTrue_144_b5 {d : Nat} {n1 : Int} {Q : MV → Wd → Prop} {x1 x2 x3 : Int} {w : Wd} (h1 : w 144 75 ≤ x3 → Wp (Cw d) cd_M_areTrue (2, 0, n1) Q 79 [none, none, none, none, none] [] w) (h2 : ¬ (w 144 75 ≤ x3) → Wp (Cw d) cd_M_areTrue (2, 0, n1) Q 9 [mR 144, mI x1, mI x2, mI x3, none] [] w) : Wp (Cw d) cd_M_areTrue (2, 0, n1) Q 5 [mR 144, mI x1, mI x2, mI x3, none] [] w :=
  Wp.s (Wp.s (Wp.s (Wp.s ⟨fun q => Wp.fgd (leA.f (leA.f (leA.f (leA.f (leA.f leA.e))))) (h1 q), fun q => h2 q⟩)))
theorem M_areTrue_144_b9 {d : Nat} {n1 : Int} {Q : MV → Wd → Prop} {x1 x2 x3 : Int} {w : Wd} (g1 : (0 : Int) ≤ x3 ∧ x3 < 8) (h : Cw d 211 [mI x2, mI (w 181 x3.toNat)] w (fun r w' => Wp (Cw d) cd_M_areTrue (2, 0, n1) Q 15 [mR 144, mI x1, mI x2, mI x3, none] [r] w')) : Wp (Cw d) cd_M_areTrue (2, 0, n1) Q 9 [mR 144, mI x1, mI x2, mI x3, none] [] w :=
  Wp.s (Wp.s (Wp.s (Wp.s (Wp.s ⟨g1, Wp.s h⟩))))
theorem M_areTrue_144_b15 {d : Nat} {n1 : Int} {Q : MV → Wd → Prop} {x1 x2 x3 s0 : Int} {w : Wd} (h1 : s0 = 0 → Wp (Cw d) cd_M_areTrue (2, 0, n1) Q 17 [mR 144, mI x1, mI x2, mI x3, none] [] w) (h2 : ¬ (s0 = 0) → Wp (Cw d) cd_M_areTrue (2, 0, n1) Q 16 [mR 144, mI x1, mI x2, mI x3, none] [] w) : Wp (Cw d) cd_M_areTrue (2, 0, n1) Q 15 [mR 144, mI x1, mI x2, mI x3, none] [mI s0] w :=
  Wp.s ⟨fun q => h1 q, fun q => h2 q⟩
theorem M_areTrue_144_b16 {d : Nat} {n1 : Int} {Q : MV → Wd → Prop} {x1 x2 x3 : Int} {w : Wd} (h : Wp (Cw d) cd_M_areTrue (2, 0, n1) Q 77 [mR 144, mI x1, mI x2, mI x3, none] [] w) : Wp (Cw d) cd_M_areTrue (2, 0, n1) Q 16 [mR 144, mI x1, mI x2, mI x3, none] [] w :=
  Wp.s h
theorem M_areTrue_144_b17 {d : Nat} {n1 : Int} {Q : MV → Wd → Prop} {x1 x2 x3 : Int} {w : Wd} (g1 : (0 : Int) ≤ x3 ∧ x3 < 8) (g2 : (0 : Int) ≤ w 181 x3.toNat ∧ w 181 x3.toNat < 8) (g3 : (0 : Int) ≤ w32 ((w 180 (w 181 x3.toNat).toNat) + 3) ∧ w32 ((w 180 (w 181 x3.toNat).toNat) + 3) < 645) (g4 : (0 : Int) ≤ w32 ((w32 (29 + (w32 (5 * x1)))) + 4) ∧ w32 ((w32 (29 + (w32 (5 * x1)))) + 4) < 645) (h1 : w 146 (w32 ((w32 (29 + (w32 (5 * x1)))) + 4)).toNat ≤ w 146 (w32 ((w 180 (w 181 x3.toNat).toNat) + 3)).toNat → Wp (Cw d) cd_M_areTrue (2, 0, n1) Q 44 [mR 144, mI x1, mI x2, mI x3, mI (w 180 (w 181 x3.toNat).toNat)] [] w) (h2 : ¬ (w 146 (w32 ((w32 (29 + (w32 (5 * x1)))) + 4)).toNat ≤ w 146 (w32 ((w 180 (w 181 x3.toNat).toNat) + 3)).toNat) → Wp (Cw d) cd_M_areTrue (2, 0, n1) Q 42 [none, none, none, none, none] [] w) : Wp (Cw d) cd_M_areTrue (2, 0, n1) Q 17 [mR 144, mI x1, mI x2, mI x3, none] [] w :=
  Wp.s (Wp.s (Wp.s (Wp.s (Wp.s (Wp.s ⟨g1, Wp.s ⟨g2, Wp.s (Wp.s (Wp.s (Wp.s (Wp.s (Wp.s (Wp.s ⟨g3, Wp.s (Wp.s (Wp.s (Wp.s (Wp.s (Wp.s (Wp.s (Wp.s (Wp.s (Wp.s ⟨g4, Wp.s ⟨fun q => h1 q, fun q => Wp.fgd (leA.f (leA.f (leA.f (leA.f (leA.f leA.e))))) (h2 q)⟩⟩)))))))))⟩))))))⟩⟩)))))
theorem M_areTrue_144_b42 {d : Nat} {n1 : Int} {Q : MV → Wd → Prop} {w : Wd} (h : Q (mI 0) w) : Wp (Cw d) cd_M_areTrue (2, 0, n1) Q 42 [none, none, none, none, none] [] w :=
  Wp.s (Wp.s ⟨(Or.inl rfl), h⟩)
theorem M_areTrue_144_b44 {d : Nat} {n1 : Int} {Q : MV → Wd → Prop} {x1 x2 x3 x4 : Int} {w : Wd} (h1 : 0 ≤ w 144 76 → Wp (Cw d) cd_M_areTrue (2, 0, n1) Q 58 [mR 144, mI x1, mI x2, mI x3, mI x4] [] w) (h2 : ¬ (0 ≤ w 144 76) → Wp (Cw d) cd_M_areTrue (2, 0, n1) Q 47 [mR 144, mI x1, mI x2, mI x3, mI x4] [] w) : Wp (Cw d) cd_M_areTrue (2, 0, n1) Q 44 [mR 144, mI x1, mI x2, mI x3, mI x4] [] w :=
  Wp.s (Wp.s (Wp.s ⟨fun q => h1 q, fun q => h2 q⟩))
theorem M_areTrue_144_b47 {d : Nat} {n1 : Int} {Q : MV → Wd → Prop} {x1 x2 x3 x4 : Int} {w : Wd} (g1 : (0 : Int) ≤ w32 (x4 + 1) ∧ w32 (x4 + 1) < 645) (h : Cw d 217 [mR 144, mI x1, mI (w 146 (w32 (x4 + 1)).toNat)] w (fun r w' => Wp (Cw d) cd_M_areTrue (2, 0, n1) Q 56 [mR 144, mI x1, mI x2, mI x3, mI x4] [r] w')) : Wp (Cw d) cd_M_areTrue (2, 0, n1) Q 47 [mR 144, mI x1, mI x2, mI x3, mI x4] [] w :=
  Wp.s (Wp.s (Wp.s (Wp.s (Wp.s (Wp.s (Wp.s (Wp.s ⟨g1, Wp.s h⟩)))))))
theorem M_areTrue_144_b56 {d : Nat} {n1 : Int} {Q : MV → Wd → Prop} {x1 x2 x3 x4 s0 : Int} {w : Wd} (h1 : ¬ s0 = 0 → Wp (Cw d) cd_M_areTrue (2, 0, n1) Q 69 [mR 144, mI x1, mI x2, mI x3, mI x4] [] w) (h2 : ¬ (¬ s0 = 0) → Wp (Cw d) cd_M_areTrue (2, 0, n1) Q 57 [none, none, none, none, none] [] w) : Wp (Cw d) cd_M_areTrue (2, 0, n1) Q 56 [mR 144, mI x1, mI x2, mI x3, mI x4] [mI s0] w :=
  Wp.s ⟨fun q => h1 q, fun q => Wp.fgd (leA.f (leA.f (leA.f (leA.f (leA.f leA.e))))) (h2 q)⟩
theorem M_areTrue_144_b57 {d : Nat} {n1 : Int} {Q : MV → Wd → Prop} {w : Wd} (h : Wp (Cw d) cd_M_areTrue (2, 0, n1) Q 67 [none, none, none, none, none] [] w) : Wp (Cw d) cd_M_areTrue (2, 0, n1) Q 57 [none, none, none, none, none] [] w :=
  Wp.s h
theorem M_areTrue_144_b58 {d : Nat} {n1 : Int} {Q : MV → Wd → Prop} {x1 x2 x3 x4 : Int} {w : Wd} (g1 : (0 : Int) ≤ w32 (x4 + 1) ∧ w32 (x4 + 1) < 645) (h1 : w 146 (w32 (x4 + 1)).toNat = w 144 76 → Wp (Cw d) cd_M_areTrue (2, 0, n1) Q 69 [mR 144, mI x1, mI x2, mI x3, mI x4] [] w) (h2 : ¬ (w 146 (w32 (x4 + 1)).toNat = w 144 76) → Wp (Cw d) cd_M_areTrue (2, 0, n1) Q 67 [none, none, none, none, none] [] w) : Wp (Cw d) cd_M_areTrue (2, 0, n1) Q 58 [mR 144, mI x1, mI x2, mI x3, mI x4] [] w :=
  Wp.s (Wp.s (Wp.s (Wp.s (Wp.s (Wp.s ⟨g1, Wp.s (Wp.s (Wp.s ⟨fun q => h1 q, fun q => Wp.fgd (leA.f (leA.f (leA.f (leA.f (leA.f leA.e))))) (h2 q)⟩))⟩)))))
theorem M_areTrue_144_b67 {d : Nat} {n1 : Int} {Q : MV → Wd → Prop} {w : Wd} (h : Q (mI 0) w) : Wp (Cw d) cd_M_areTrue (2, 0, n1) Q 67 [none, none, none, none, none] [] w :=
  Wp.s (Wp.s ⟨(Or.inl rfl), h⟩)
theorem M_areTrue_144_b69 {d : Nat} {n1 : Int} {Q : MV → Wd → Prop} {x1 x2 x3 x4 : Int} {w : Wd} (g1 : (0 : Int) ≤ w32 (x4 + 2) ∧ w32 (x4 + 2) < 645) (h : Wp (Cw d) cd_M_areTrue (2, 0, n1) Q 77 [mR 144, mI x1, mI x2, mI x3, none] [] (ub w 144 76 (w 146 (w32 (x4 + 2)).toNat))) : Wp (Cw d) cd_M_areTrue (2, 0, n1) Q 69 [mR 144, mI x1, mI x2, mI x3, mI x4] [] w :=
  Wp.s (Wp.s (Wp.s (Wp.s (Wp.s (Wp.s (Wp.s ⟨g1, Wp.s (Wp.fgd (leA.k (leA.k (leA.k (leA.k (leA.f leA.e))))) h)⟩))))))
theorem M_areTrue_144_b77 {d : Nat} {n1 : Int} {Q : MV → Wd → Prop} {x1 x2 x3 : Int} {w : Wd} (h : Wp (Cw d) cd_M_areTrue (2, 0, n1) Q 5 [mR 144, mI x1, mI x2, mI (w32 (x3 + 1)), none] [] w) : Wp (Cw d) cd_M_areTrue (2, 0, n1) Q 77 [mR 144, mI x1, mI x2, mI x3, none] [] w :=
  Wp.s (Wp.s h)
theorem M_areTrue_144_b79 {d : Nat} {n1 : Int} {Q : MV → Wd → Prop} {w : Wd} (h : Q (mI 1) w) : Wp (Cw d) cd_M_areTrue (2, 0, n1) Q 79 [none, none, none, none, none] [] w :=
  Wp.s (Wp.s ⟨(Or.inr rfl), h⟩)
theorem Village_copy_45_4_b0 {d : Nat} {n1 : Int} {Q : MV → Wd → Prop} {w : Wd} (h : Cw d 48 [mR 5, mR 46] (ub w 45 0 (w 4 0)) (fun _ w' => Wp (Cw d) cd_Village_copy (0, 0, n1) Q 9 [mR 45, mR 4] [] w')) : Wp (Cw d) cd_Village_copy (0, 0, n1) Q 0 [mR 45, mR 4] [] w :=
  Wp.s (Wp.s (Wp.s (Wp.s (Wp.s (Wp.s (Wp.s (Wp.s (Wp.s h))))))))
theorem Village_copy_45_4_b9 {d : Nat} {n1 : Int} {Q : MV → Wd → Prop} {w : Wd} (h : Cw d 48 [mR 6, mR 47] w (fun _ w' => Wp (Cw d) cd_Village_copy (0, 0, n1) Q 14 [mR 45, mR 4] [] w')) : Wp (Cw d) cd_Village_copy (0, 0, n1) Q 9 [mR 45, mR 4] [] w :=
  Wp.s (Wp.s (Wp.s (Wp.s (Wp.s h))))
theorem Village_copy_45_4_b14 {d : Nat} {n1 : Int} {Q : MV → Wd → Prop} {w : Wd} (h : Cw d 48 [mR 7, mR 48] w (fun _ w' => Wp (Cw d) cd_Village_copy (0, 0, n1) Q 19 [mR 45, mR 4] [] w')) : Wp (Cw d) cd_Village_copy (0, 0, n1) Q 14 [mR 45, mR 4] [] w :=
  Wp.s (Wp.s (Wp.s (Wp.s (Wp.s h))))
theorem Village_copy_45_4_b19 {d : Nat} {n1 : Int} {Q : MV → Wd → Prop} {w : Wd} (h : Cw d 48 [mR 8, mR 49] w (fun _ w' => Wp (Cw d) cd_Village_copy (0, 0, n1) Q 24 [mR 45, mR 4] [] w')) : Wp (Cw d) cd_Village_copy (0, 0, n1) Q 19 [mR 45, mR 4] [] w :=
  Wp.s (Wp.s (Wp.s (Wp.s (Wp.s h))))
theorem Village_copy_45_4_b24 {d : Nat} {n1 : Int} {Q : MV → Wd → Prop} {w : Wd} (h : Cw d 48 [mR 9, mR 50] (ub w 45 5 (w 4 5)) (fun _ w' => Wp (Cw d) cd_Village_copy (0, 0, n1) Q 33 [mR 45, mR 4] [] w')) : Wp (Cw d) cd_Village_copy (0, 0, n1) Q 24 [mR 45, mR 4] [] w :=
  Wp.s (Wp.s (Wp.s (Wp.s (Wp.s (Wp.s (Wp.s (Wp.s (Wp.s h))))))))
theorem Village_copy_45_4_b33 {d : Nat} {n1 : Int} {Q : MV → Wd → Prop} {w : Wd} (h : Cw d 48 [mR 10, mR 51] w (fun _ w' => Wp (Cw d) cd_Village_copy (0, 0, n1) Q 38 [mR 45, mR 4] [] w')) : Wp (Cw d) cd_Village_copy (0, 0, n1) Q 33 [mR 45, mR 4] [] w :=
  Wp.s (Wp.s (Wp.s (Wp.s (Wp.s h))))
theorem Village_copy_45_4_b38 {d : Nat} {n1 : Int} {Q : MV → Wd → Prop} {w : Wd} (h : Cw d 48 [mR 11, mR 52] (ub w 45 8 (w 4 8)) (fun _ w' => Wp (Cw d) cd_Village_copy (0, 0, n1) Q 47 [mR 45, mR 4] [] w')) : Wp (Cw d) cd_Village_copy (0, 0, n1) Q 38 [mR 45, mR 4] [] w :=
  Wp.s (Wp.s (Wp.s (Wp.s (Wp.s (Wp.s (Wp.s (Wp.s (Wp.s h))))))))
theorem Village_copy_45_4_b47 {d : Nat} {n1 : Int} {Q : MV → Wd → Prop} {w : Wd} (h : Cw d 48 [mR 12, mR 53] w (fun _ w' => Wp (Cw d) cd_Village_copy (0, 0, n1) Q 52 [mR 45, mR 4] [] w')) : Wp (Cw d) cd_Village_copy (0, 0, n1) Q 47 [mR 45, mR 4] [] w :=
  Wp.s (Wp.s (Wp.s (Wp.s (Wp.s h))))
theorem Village_copy_45_4_b52 {d : Nat} {n1 : Int} {Q : MV → Wd → Prop} {w : Wd} (h : Cw d 48 [mR 13, mR 54] (ub w 45 11 (w 4 11)) (fun _ w' => Wp (Cw d) cd_Village_copy (0, 0, n1) Q 61 [mR 45, mR 4] [] w')) : Wp (Cw d) cd_Village_copy (0, 0, n1) Q 52 [mR 45, mR 4] [] w :=
  Wp.s (Wp.s (Wp.s (Wp.s (Wp.s (Wp.s (Wp.s (Wp.s (Wp.s h))))))))
theorem Village_copy_45_4_b61 {d : Nat} {n1 : Int} {Q : MV → Wd → Prop} {w : Wd} (h : Cw d 48 [mR 14, mR 55] w (fun _ w' => Wp (Cw d) cd_Village_copy (0, 0, n1) Q 66 [mR 45, mR 4] [] w')) : Wp (Cw d) cd_Village_copy (0, 0, n1) Q 61 [mR 45, mR 4] [] w :=
  Wp.s (Wp.s (Wp.s (Wp.s (Wp.s h))))
theorem Village_copy_45_4_b66 {d : Nat} {n1 : Int} {Q : MV → Wd → Prop} {w : Wd} (h : Cw d 48 [mR 15, mR 56] w (fun _ w' => Wp (Cw d) cd_Village_copy (0, 0, n1) Q 71 [mR 45, mR 4] [] w')) : Wp (Cw d) cd_Village_copy (0, 0, n1) Q 66 [mR 45, mR 4] [] w :=
  Wp.s (Wp.s (Wp.s (Wp.s (Wp.s h))))
theorem Village_copy_45_4_b71 {d : Nat} {n1 : Int} {Q : MV → Wd → Prop} {w : Wd} (h : Q none (ub (ub w 45 15 (w 4 15)) 45 16 (w 4 16))) : Wp (Cw d) cd_Village_copy (0, 0, n1) Q 71 [mR 45, mR 4] [] w :=
  Wp.s (Wp.s (Wp.s (Wp.s (Wp.s (Wp.s (Wp.s (Wp.s (Wp.s h))))))))
theorem Plan_copy_57_28_b0 {d : Nat} {n1 : Int} {Q : MV → Wd → Prop} {w : Wd} (h : Cw d 48 [mR 29, mR 58] (ub w 57 0 (w 28 0)) (fun _ w' => Wp (Cw d) cd_Plan_copy (0, 0, n1) Q 9 [mR 57, mR 28] [] w')) : Wp (Cw d) cd_Plan_copy (0, 0, n1) Q 0 [mR 57, mR 28] [] w :=
  Wp.s (Wp.s (Wp.s (Wp.s (Wp.s (Wp.s (Wp.s (Wp.s (Wp.s h))))))))
theorem Plan_copy_57_28_b9 {d : Nat} {n1 : Int} {Q : MV → Wd → Prop} {w : Wd} (h : Cw d 48 [mR 30, mR 59] w (fun _ w' => Wp (Cw d) cd_Plan_copy (0, 0, n1) Q 14 [mR 57, mR 28] [] w')) : Wp (Cw d) cd_Plan_copy (0, 0, n1) Q 9 [mR 57, mR 28] [] w :=
  Wp.s (Wp.s (Wp.s (Wp.s (Wp.s h))))
theorem Plan_copy_57_28_b14 {d : Nat} {n1 : Int} {Q : MV → Wd → Prop} {w : Wd} (h : Cw d 48 [mR 31, mR 60] w (fun _ w' => Wp (Cw d) cd_Plan_copy (0, 0, n1) Q 19 [none, none] [] w')) : Wp (Cw d) cd_Plan_copy (0, 0, n1) Q 14 [mR 57, mR 28] [] w :=
  Wp.s (Wp.s (Wp.s (Wp.s (Wp.s (Cw_mono _ _ _ _ _ _ (fun r w' q => Wp.fgd (leA.f (leA.f leA.e)) q) h)))))
theorem Plan_copy_57_28_b19 {d : Nat} {n1 : Int} {Q : MV → Wd → Prop} {w : Wd} (h : Q none w) : Wp (Cw d) cd_Plan_copy (0, 0, n1) Q 19 [none, none] [] w :=
  Wp.s h
theorem Book_copy_61_36_b0 {d : Nat} {n1 : Int} {Q : MV → Wd → Prop} {w : Wd} (h : Cw d 48 [mR 37, mR 62] (ub w 61 0 (w 36 0)) (fun _ w' => Wp (Cw d) cd_Book_copy (0, 0, n1) Q 9 [mR 61, mR 36] [] w')) : Wp (Cw d) cd_Book_copy (0, 0, n1) Q 0 [mR 61, mR 36] [] w :=
  Wp.s (Wp.s (Wp.s (Wp.s (Wp.s (Wp.s (Wp.s (Wp.s (Wp.s h))))))))
theorem Book_copy_61_36_b9 {d : Nat} {n1 : Int} {Q : MV → Wd → Prop} {w : Wd} (h : Cw d 48 [mR 38, mR 63] w (fun _ w' => Wp (Cw d) cd_Book_copy (0, 0, n1) Q 14 [mR 61, mR 36] [] w')) : Wp (Cw d) cd_Book_copy (0, 0, n1) Q 9 [mR 61, mR 36] [] w :=
  Wp.s (Wp.s (Wp.s (Wp.s (Wp.s h))))
theorem Book_copy_61_36_b14 {d : Nat} {n1 : Int} {Q : MV → Wd → Prop} {w : Wd} (h : Cw d 48 [mR 39, mR 64] w (fun _ w' => Wp (Cw d) cd_Book_copy (0, 0, n1) Q 19 [mR 61, mR 36] [] w')) : Wp (Cw d) cd_Book_copy (0, 0, n1) Q 14 [mR 61, mR 36] [] w :=
  Wp.s (Wp.s (Wp.s (Wp.s (Wp.s h))))
theorem Book_copy_61_36_b19 {d : Nat} {n1 : Int} {Q : MV → Wd → Prop} {w : Wd} (h : Cw d 48 [mR 40, mR 65] w (fun _ w' => Wp (Cw d) cd_Book_copy (0, 0, n1) Q 24 [none, none] [] w')) : Wp (Cw d) cd_Book_copy (0, 0, n1) Q 19 [mR 61, mR 36] [] w :=
  Wp.s (Wp.s (Wp.s (Wp.s (Wp.s (Cw_mono _ _ _ _ _ _ (fun r w' q => Wp.fgd (leA.f (leA.f leA.e)) q) h)))))
theorem Book_copy_61_36_b24 {d : Nat} {n1 : Int} {Q : MV → Wd → Prop} {w : Wd} (h : Q none w) : Wp (Cw d) cd_Book_copy (0, 0, n1) Q 24 [none, none] [] w :=
  Wp.s h
theorem Village_copy_69_4_b0 {d : Nat} {n1 : Int} {Q : MV → Wd → Prop} {w : Wd} (h : Cw d 48 [mR 5, mR 70] (ub w 69 0 (w 4 0)) (fun _ w' => Wp (Cw d) cd_Village_copy (0, 0, n1) Q 9 [mR 69, mR 4] [] w')) : Wp (Cw d) cd_Village_copy (0, 0, n1) Q 0 [mR 69, mR 4] [] w :=
  Wp.s (Wp.s (Wp.s (Wp.s (Wp.s (Wp.s (Wp.s (Wp.s (Wp.s h))))))))
theorem Village_copy_69_4_b9 {d : Nat} {n1 : Int} {Q : MV → Wd → Prop} {w : Wd} (h : Cw d 48 [mR 6, mR 71] w (fun _ w' => Wp (Cw d) cd_Village_copy (0, 0, n1) Q 14 [mR 69, mR 4] [] w')) : Wp (Cw d) cd_Village_copy (0, 0, n1) Q 9 [mR 69, mR 4] [] w :=
  Wp.s (Wp.s (Wp.s (Wp.s (Wp.s h))))
theorem Village_copy_69_4_b14 {d : Nat} {n1 : Int} {Q : MV → Wd → Prop} {w : Wd} (h : Cw d 48 [mR 7, mR 72] w (fun _ w' => Wp (Cw d) cd_Village_copy (0, 0, n1) Q 19 [mR 69, mR 4] [] w')) : Wp (Cw d) cd_Village_copy (0, 0, n1) Q 14 [mR 69, mR 4] [] w :=
  Wp.s (Wp.s (Wp.s (Wp.s (Wp.s h))))
theorem Village_copy_69_4_b19 {d : Nat} {n1 : Int} {Q : MV → Wd → Prop} {w : Wd} (h : Cw d 48 [mR 8, mR 73] w (fun _ w' => Wp (Cw d) cd_Village_copy (0, 0, n1) Q 24 [mR 69, mR 4] [] w')) : Wp (Cw d) cd_Village_copy (0, 0, n1) Q 19 [mR 69, mR 4] [] w :=
  Wp.s (Wp.s (Wp.s (Wp.s (Wp.s h))))
theorem Village_copy_69_4_b24 {d : Nat} {n1 : Int} {Q : MV → Wd → Prop} {w : Wd} (h : Cw d 48 [mR 9, mR 74] (ub w 69 5 (w 4 5)) (fun _ w' => Wp (Cw d) cd_Village_copy (0, 0, n1) Q 33 [mR 69, mR 4] [] w')) : Wp (Cw d) cd_Village_copy (0, 0, n1) Q 24 [mR 69, mR 4] [] w :=
  Wp.s (Wp.s (Wp.s (Wp.s (Wp.s (Wp.s (Wp.s (Wp.s (Wp.s h))))))))
theorem Village_copy_69_4_b33 {d : Nat} {n1 : Int} {Q : MV → Wd → Prop} {w : Wd} (h : Cw d 48 [mR 10, mR 75] w (fun _ w' => Wp (Cw d) cd_Village_copy (0, 0, n1) Q 38 [mR 69, mR 4] [] w')) : Wp (Cw d) cd_Village_copy (0, 0, n1) Q 33 [mR 69, mR 4] [] w :=
  Wp.s (Wp.s (Wp.s (Wp.s (Wp.s h))))
theorem Village_copy_69_4_b38 {d : Nat} {n1 : Int} {Q : MV → Wd → Prop} {w : Wd} (h : Cw d 48 [mR 11, mR 76] (ub w 69 8 (w 4 8)) (fun _ w' => Wp (Cw d) cd_Village_copy (0, 0, n1) Q 47 [mR 69, mR 4] [] w')) : Wp (Cw d) cd_Village_copy (0, 0, n1) Q 38 [mR 69, mR 4] [] w :=
  Wp.s (Wp.s (Wp.s (Wp.s (Wp.s (Wp.s (Wp.s (Wp.s (Wp.s h))))))))
theorem Village_copy_69_4_b47 {d : Nat} {n1 : Int} {Q : MV → Wd → Prop} {w : Wd} (h : Cw d 48 [mR 12, mR 77] w (fun _ w' => Wp (Cw d) cd_Village_copy (0, 0, n1) Q 52 [mR 69, mR 4] [] w')) : Wp (Cw d) cd_Village_copy (0, 0, n1) Q 47 [mR 69, mR 4] [] w :=
  Wp.s (Wp.s (Wp.s (Wp.s (Wp.s h))))
theorem Village_copy_69_4_b52 {d : Nat} {n1 : Int} {Q : MV → Wd → Prop} {w : Wd} (h : Cw d 48 [mR 13, mR 78] (ub w 69 11 (w 4 11)) (fun _ w' => Wp (Cw d) cd_Village_copy (0, 0, n1) Q 61 [mR 69, mR 4] [] w')) : Wp (Cw d) cd_Village_copy (0, 0, n1) Q 52 [mR 69, mR 4] [] w :=
  Wp.s (Wp.s (Wp.s (Wp.s (Wp.s (Wp.s (Wp.s (Wp.s (Wp.s h))))))))
theorem Village_copy_69_4_b61 {d : Nat} {n1 : Int} {Q : MV → Wd → Prop} {w : Wd} (h : Cw d 48 [mR 14, mR 79] w (fun _ w' => Wp (Cw d) cd_Village_copy (0, 0, n1) Q 66 [mR 69, mR 4] [] w')) : Wp (Cw d) cd_Village_copy (0, 0, n1) Q 61 [mR 69, mR 4] [] w :=
  Wp.s (Wp.s (Wp.s (Wp.s (Wp.s h))))
theorem Village_copy_69_4_b66 {d : Nat} {n1 : Int} {Q : MV → Wd → Prop} {w : Wd} (h : Cw d 48 [mR 15, mR 80] w (fun _ w' => Wp (Cw d) cd_Village_copy (0, 0, n1) Q 71 [mR 69, mR 4] [] w')) : Wp (Cw d) cd_Village_copy (0, 0, n1) Q 66 [mR 69, mR 4] [] w :=
  Wp.s (Wp.s (Wp.s (Wp.s (Wp.s h))))
theorem Village_copy_69_4_b71 {d : Nat} {n1 : Int} {Q : MV → Wd → Prop} {w : Wd} (h : Q none (ub (ub w 69 15 (w 4 15)) 69 16 (w 4 16))) : Wp (Cw d) cd_Village_copy (0, 0, n1) Q 71 [mR 69, mR 4] [] w :=
  Wp.s (Wp.s (Wp.s (Wp.s (Wp.s (Wp.s (Wp.s (Wp.s (Wp.s h))))))))
theorem Plan_copy_81_28_b0 {d : Nat} {n1 : Int} {Q : MV → Wd → Prop} {w : Wd} (h : Cw d 48 [mR 29, mR 82] (ub w 81 0 (w 28 0)) (fun _ w' => Wp (Cw d) cd_Plan_copy (0, 0, n1) Q 9 [mR 81, mR 28] [] w')) : Wp (Cw d) cd_Plan_copy (0, 0, n1) Q 0 [mR 81, mR 28] [] w :=
  Wp.s (Wp.s (Wp.s (Wp.s (Wp.s (Wp.s (Wp.s (Wp.s (Wp.s h))))))))
theorem Plan_copy_81_28_b9 {d : Nat} {n1 : Int} {Q : MV → Wd → Prop} {w : Wd} (h : Cw d 48 [mR 30, mR 83] w (fun _ w' => Wp (Cw d) cd_Plan_copy (0, 0, n1) Q 14 [mR 81, mR 28] [] w')) : Wp (Cw d) cd_Plan_copy (0, 0, n1) Q 9 [mR 81, mR 28] [] w :=
  Wp.s (Wp.s (Wp.s (Wp.s (Wp.s h))))
theorem Plan_copy_81_28_b14 {d : Nat} {n1 : Int} {Q : MV → Wd → Prop} {w : Wd} (h : Cw d 48 [mR 31, mR 84] w (fun _ w' => Wp (Cw d) cd_Plan_copy (0, 0, n1) Q 19 [none, none] [] w')) : Wp (Cw d) cd_Plan_copy (0, 0, n1) Q 14 [mR 81, mR 28] [] w :=
  Wp.s (Wp.s (Wp.s (Wp.s (Wp.s (Cw_mono _ _ _ _ _ _ (fun r w' q => Wp.fgd (leA.f (leA.f leA.e)) q) h)))))
theorem Plan_copy_81_28_b19 {d : Nat} {n1 : Int} {Q : MV → Wd → Prop} {w : Wd} (h : Q none w) : Wp (Cw d) cd_Plan_copy (0, 0, n1) Q 19 [none, none] [] w :=
  Wp.s h
theorem Book_copy_85_36_b0 {d : Nat} {n1 : Int} {Q : MV → Wd → Prop} {w : Wd} (h : Cw d 48 [mR 37, mR 86] (ub w 85 0 (w 36 0)) (fun _ w' => Wp (Cw d) cd_Book_copy (0, 0, n1) Q 9 [mR 85, mR 36] [] w')) : Wp (Cw d) cd_Book_copy (0, 0, n1) Q 0 [mR 85, mR 36] [] w :=
  Wp.s (Wp.s (Wp.s (Wp.s (Wp.s (Wp.s (Wp.s (Wp.s (Wp.s h))))))))
theorem Book_copy_85_36_b9 {d : Nat} {n1 : Int} {Q : MV → Wd → Prop} {w : Wd} (h : Cw d 48 [mR 38, mR 87] w (fun _ w' => Wp (Cw d) cd_Book_copy (0, 0, n1) Q 14 [mR 85, mR 36] [] w')) : Wp (Cw d) cd_Book_copy (0, 0, n1) Q 9 [mR 85, mR 36] [] w :=
  Wp.s (Wp.s (Wp.s (Wp.s (Wp.s h))))
theorem Book_copy_85_36_b14 {d : Nat} {n1 : Int} {Q : MV → Wd → Prop} {w : Wd} (h : Cw d 48 [mR 39, mR 88] w (fun _ w' => Wp (Cw d) cd_Book_copy (0, 0, n1) Q 19 [mR 85, mR 36] [] w')) : Wp (Cw d) cd_Book_copy (0, 0, n1) Q 14 [mR 85, mR 36] [] w :=
  Wp.s (Wp.s (Wp.s (Wp.s (Wp.s h))))
theorem Book_copy_85_36_b19 {d : Nat} {n1 : Int} {Q : MV → Wd → Prop} {w : Wd} (h : Cw d 48 [mR 40, mR 89] w (fun _ w' => Wp (Cw d) cd_Book_copy (0, 0, n1) Q 24 [none, none] [] w')) : Wp (Cw d) cd_Book_copy (0, 0, n1) Q 19 [mR 85, mR 36] [] w :=
  Wp.s (Wp.s (Wp.s (Wp.s (Wp.s (Cw_mono _ _ _ _ _ _ (fun r w' q => Wp.fgd (leA.f (leA.f leA.e)) q) h)))))
theorem Book_copy_85_36_b24 {d : Nat} {n1 : Int} {Q : MV → Wd → Prop} {w : Wd} (h : Q none w) : Wp (Cw d) cd_Book_copy (0, 0, n1) Q 24 [none, none] [] w :=
  Wp.s h
theorem Village_copy_4_45_b0 {d : Nat} {n1 : Int} {Q : MV → Wd → Prop} {w : Wd} (h : Cw d 48 [mR 46, mR 5] (ub w 4 0 (w 45 0)) (fun _ w' => Wp (Cw d) cd_Village_copy (0, 0, n1) Q 9 [mR 4, mR 45] [] w')) : Wp (Cw d) cd_Village_copy (0, 0, n1) Q 0 [mR 4, mR 45] [] w :=
  Wp.s (Wp.s (Wp.s (Wp.s (Wp.s (Wp.s (Wp.s (Wp.s (Wp.s h))))))))
theorem Village_copy_4_45_b9 {d : Nat} {n1 : Int} {Q : MV → Wd → Prop} {w : Wd} (h : Cw d 48 [mR 47, mR 6] w (fun _ w' => Wp (Cw d) cd_Village_copy (0, 0, n1) Q 14 [mR 4, mR 45] [] w')) : Wp (Cw d) cd_Village_copy (0, 0, n1) Q 9 [mR 4, mR 45] [] w :=
  Wp.s (Wp.s (Wp.s (Wp.s (Wp.s h))))
theorem Village_copy_4_45_b14 {d : Nat} {n1 : Int} {Q : MV → Wd → Prop} {w : Wd} (h : Cw d 48 [mR 48, mR 7] w (fun _ w' => Wp (Cw d) cd_Village_copy (0, 0, n1) Q 19 [mR 4, mR 45] [] w')) : Wp (Cw d) cd_Village_copy (0, 0, n1) Q 14 [mR 4, mR 45] [] w :=
  Wp.s (Wp.s (Wp.s (Wp.s (Wp.s h))))
theorem Village_copy_4_45_b19 {d : Nat} {n1 : Int} {Q : MV → Wd → Prop} {w : Wd} (h : Cw d 48 [mR 49, mR 8] w (fun _ w' => Wp (Cw d) cd_Village_copy (0, 0, n1) Q 24 [mR 4, mR 45] [] w')) : Wp (Cw d) cd_Village_copy (0, 0, n1) Q 19 [mR 4, mR 45] [] w :=
  Wp.s (Wp.s (Wp.s (Wp.s (Wp.s h))))
theorem Village_copy_4_45_b24 {d : Nat} {n1 : Int} {Q : MV → Wd → Prop} {w : Wd} (h : Cw d 48 [mR 50, mR 9] (ub w 4 5 (w 45 5)) (fun _ w' => Wp (Cw d) cd_Village_copy (0, 0, n1) Q 33 [mR 4, mR 45] [] w')) : Wp (Cw d) cd_Village_copy (0, 0, n1) Q 24 [mR 4, mR 45] [] w :=
  Wp.s (Wp.s (Wp.s (Wp.s (Wp.s (Wp.s (Wp.s (Wp.s (Wp.s h))))))))
theorem Village_copy_4_45_b33 {d : Nat} {n1 : Int} {Q : MV → Wd → Prop} {w : Wd} (h : Cw d 48 [mR 51, mR 10] w (fun _ w' => Wp (Cw d) cd_Village_copy (0, 0, n1) Q 38 [mR 4, mR 45] [] w')) : Wp (Cw d) cd_Village_copy (0, 0, n1) Q 33 [mR 4, mR 45] [] w :=
  Wp.s (Wp.s (Wp.s (Wp.s (Wp.s h))))
theorem Village_copy_4_45_b38 {d : Nat} {n1 : Int} {Q : MV → Wd → Prop} {w : Wd} (h : Cw d 48 [mR 52, mR 11] (ub w 4 8 (w 45 8)) (fun _ w' => Wp (Cw d) cd_Village_copy (0, 0, n1) Q 47 [mR 4, mR 45] [] w')) : Wp (Cw d) cd_Village_copy (0, 0, n1) Q 38 [mR 4, mR 45] [] w :=
  Wp.s (Wp.s (Wp.s (Wp.s (Wp.s (Wp.s (Wp.s (Wp.s (Wp.s h))))))))
theorem Village_copy_4_45_b47 {d : Nat} {n1 : Int} {Q : MV → Wd → Prop} {w : Wd} (h : Cw d 48 [mR 53, mR 12] w (fun _ w' => Wp (Cw d) cd_Village_copy (0, 0, n1) Q 52 [mR 4, mR 45] [] w')) : Wp (Cw d) cd_Village_copy (0, 0, n1) Q 47 [mR 4, mR 45] [] w :=
  Wp.s (Wp.s (Wp.s (Wp.s (Wp.s h))))
theorem Village_copy_4_45_b52 {d : Nat} {n1 : Int} {Q : MV → Wd → Prop} {w : Wd} (h : Cw d 48 [mR 54, mR 13] (ub w 4 11 (w 45 11)) (fun _ w' => Wp (Cw d) cd_Village_copy (0, 0, n1) Q 61 [mR 4, mR 45] [] w')) : Wp (Cw d) cd_Village_copy (0, 0, n1) Q 52 [mR 4, mR 45] [] w :=
  Wp.s (Wp.s (Wp.s (Wp.s (Wp.s (Wp.s (Wp.s (Wp.s (Wp.s h))))))))
theorem Village_copy_4_45_b61 {d : Nat} {n1 : Int} {Q : MV → Wd → Prop} {w : Wd} (h : Cw d 48 [mR 55, mR 14] w (fun _ w' => Wp (Cw d) cd_Village_copy (0, 0, n1) Q 66 [mR 4, mR 45] [] w')) : Wp (Cw d) cd_Village_copy (0, 0, n1) Q 61 [mR 4, mR 45] [] w :=
  Wp.s (Wp.s (Wp.s (Wp.s (Wp.s h))))
theorem Village_copy_4_45_b66 {d : Nat} {n1 : Int} {Q : MV → Wd → Prop} {w : Wd} (h : Cw d 48 [mR 56, mR 15] w (fun _ w' => Wp (Cw d) cd_Village_copy (0, 0, n1) Q 71 [mR 4, mR 45] [] w')) : Wp (Cw d) cd_Village_copy (0, 0, n1) Q 66 [mR 4, mR 45] [] w :=
  Wp.s (Wp.s (Wp.s (Wp.s (Wp.s h))))
theorem Village_copy_4_45_b71 {d : Nat} {n1 : Int} {Q : MV → Wd → Prop} {w : Wd} (h : Q none (ub (ub w 4 15 (w 45 15)) 4 16 (w 45 16))) : Wp (Cw d) cd_Village_copy (0, 0, n1) Q 71 [mR 4, mR 45] [] w :=
  Wp.s (Wp.s (Wp.s (Wp.s (Wp.s (Wp.s (Wp.s (Wp.s (Wp.s h))))))))
theorem Plan_copy_28_57_b0 {d : Nat} {n1 : Int} {Q : MV → Wd → Prop} {w : Wd} (h : Cw d 48 [mR 58, mR 29] (ub w 28 0 (w 57 0)) (fun _ w' => Wp (Cw d) cd_Plan_copy (0, 0, n1) Q 9 [mR 28, mR 57] [] w')) : Wp (Cw d) cd_Plan_copy (0, 0, n1) Q 0 [mR 28, mR 57] [] w :=
  Wp.s (Wp.s (Wp.s (Wp.s (Wp.s (Wp.s (Wp.s (Wp.s (Wp.s h))))))))
theorem Plan_copy_28_57_b9 {d : Nat} {n1 : Int} {Q : MV → Wd → Prop} {w : Wd} (h : Cw d 48 [mR 59, mR 30] w (fun _ w' => Wp (Cw d) cd_Plan_copy (0, 0, n1) Q 14 [mR 28, mR 57] [] w')) : Wp (Cw d) cd_Plan_copy (0, 0, n1) Q 9 [mR 28, mR 57] [] w :=
  Wp.s (Wp.s (Wp.s (Wp.s (Wp.s h))))
theorem Plan_copy_28_57_b14 {d : Nat} {n1 : Int} {Q : MV → Wd → Prop} {w : Wd} (h : Cw d 48 [mR 60, mR 31] w (fun _ w' => Wp (Cw d) cd_Plan_copy (0, 0, n1) Q 19 [none, none] [] w')) : Wp (Cw d) cd_Plan_copy (0, 0, n1) Q 14 [mR 28, mR 57] [] w :=
  Wp.s (Wp.s (Wp.s (Wp.s (Wp.s (Cw_mono _ _ _ _ _ _ (fun r w' q => Wp.fgd (leA.f (leA.f leA.e)) q) h)))))
theorem Plan_copy_28_57_b19 {d : Nat} {n1 : Int} {Q : MV → Wd → Prop} {w : Wd} (h : Q none w) : Wp (Cw d) cd_Plan_copy (0, 0, n1) Q 19 [none, none] [] w :=
  Wp.s h
theorem Book_copy_36_61_b0 {d : Nat} {n1 : Int} {Q : MV → Wd → Prop} {w : Wd} (h : Cw d 48 [mR 62, mR 37] (ub w 36 0 (w 61 0)) (fun _ w' => Wp (Cw d) cd_Book_copy (0, 0, n1) Q 9 [mR 36, mR 61] [] w')) : Wp (Cw d) cd_Book_copy (0, 0, n1) Q 0 [mR 36, mR 61] [] w :=
  Wp.s (Wp.s (Wp.s (Wp.s (Wp.s (Wp.s (Wp.s (Wp.s (Wp.s h))))))))
theorem Book_copy_36_61_b9 {d : Nat} {n1 : Int} {Q : MV → Wd → Prop} {w : Wd} (h : Cw d 48 [mR 63, mR 38] w (fun _ w' => Wp (Cw d) cd_Book_copy (0, 0, n1) Q 14 [mR 36, mR 61] [] w')) : Wp (Cw d) cd_Book_copy (0, 0, n1) Q 9 [mR 36, mR 61] [] w :=
  Wp.s (Wp.s (Wp.s (Wp.s (Wp.s h))))
theorem Book_copy_36_61_b14 {d : Nat} {n1 : Int} {Q : MV → Wd → Prop} {w : Wd} (h : Cw d 48 [mR 64, mR 39] w (fun _ w' => Wp (Cw d) cd_Book_copy (0, 0, n1) Q 19 [mR 36, mR 61] [] w')) : Wp (Cw d) cd_Book_copy (0, 0, n1) Q 14 [mR 36, mR 61] [] w :=
  Wp.s (Wp.s (Wp.s (Wp.s (Wp.s h))))
theorem Book_copy_36_61_b19 {d : Nat} {n1 : Int} {Q : MV → Wd → Prop} {w : Wd} (h : Cw d 48 [mR 65, mR 40] w (fun _ w' => Wp (Cw d) cd_Book_copy (0, 0, n1) Q 24 [none, none] [] w')) : Wp (Cw d) cd_Book_copy (0, 0, n1) Q 19 [mR 36, mR 61] [] w :=
  Wp.s (Wp.s (Wp.s (Wp.s (Wp.s (Cw_mono _ _ _ _ _ _ (fun r w' q => Wp.fgd (leA.f (leA.f leA.e)) q) h)))))
theorem Book_copy_36_61_b24 {d : Nat} {n1 : Int} {Q : MV → Wd → Prop} {w : Wd} (h : Q none w) : Wp (Cw d) cd_Book_copy (0, 0, n1) Q 24 [none, none] [] w :=
  Wp.s h
theorem Village_copy_4_69_b0 {d : Nat} {n1 : Int} {Q : MV → Wd → Prop} {w : Wd} (h : Cw d 48 [mR 70, mR 5] (ub w 4 0 (w 69 0)) (fun _ w' => Wp (Cw d) cd_Village_copy (0, 0, n1) Q 9 [mR 4, mR 69] [] w')) : Wp (Cw d) cd_Village_copy (0, 0, n1) Q 0 [mR 4, mR 69] [] w :=
  Wp.s (Wp.s (Wp.s (Wp.s (Wp.s (Wp.s (Wp.s (Wp.s (Wp.s h))))))))
theorem Village_copy_4_69_b9 {d : Nat} {n1 : Int} {Q : MV → Wd → Prop} {w : Wd} (h : Cw d 48 [mR 71, mR 6] w (fun _ w' => Wp (Cw d) cd_Village_copy (0, 0, n1) Q 14 [mR 4, mR 69] [] w')) : Wp (Cw d) cd_Village_copy (0, 0, n1) Q 9 [mR 4, mR 69] [] w :=
  Wp.s (Wp.s (Wp.s (Wp.s (Wp.s h))))
theorem Village_copy_4_69_b14 {d : Nat} {n1 : Int} {Q : MV → Wd → Prop} {w : Wd} (h : Cw d 48 [mR 72, mR 7] w (fun _ w' => Wp (Cw d) cd_Village_copy (0, 0, n1) Q 19 [mR 4, mR 69] [] w')) : Wp (Cw d) cd_Village_copy (0, 0, n1) Q 14 [mR 4, mR 69] [] w :=
  Wp.s (Wp.s (Wp.s (Wp.s (Wp.s h))))
theorem Village_copy_4_69_b19 {d : Nat} {n1 : Int} {Q : MV → Wd → Prop} {w : Wd} (h : Cw d 48 [mR 73, mR 8] w (fun _ w' => Wp (Cw d) cd_Village_copy (0, 0, n1) Q 24 [mR 4, mR 69] [] w')) : Wp (Cw d) cd_Village_copy (0, 0, n1) Q 19 [mR 4, mR 69] [] w :=
  Wp.s (Wp.s (Wp.s (Wp.s (Wp.s h))))
theorem Village_copy_4_69_b24 {d : Nat} {n1 : Int} {Q : MV → Wd → Prop} {w : Wd} (h : Cw d 48 [mR 74, mR 9] (ub w 4 5 (w 69 5)) (fun _ w' => Wp (Cw d) cd_Village_copy (0, 0, n1) Q 33 [mR 4, mR 69] [] w')) : Wp (Cw d) cd_Village_copy (0, 0, n1) Q 24 [mR 4, mR 69] [] w :=
  Wp.s (Wp.s (Wp.s (Wp.s (Wp.s (Wp.s (Wp.s (Wp.s (Wp.s h))))))))
theorem Village_copy_4_69_b33 {d : Nat} {n1 : Int} {Q : MV → Wd → Prop} {w : Wd} (h : Cw d 48 [mR 75, mR 10] w (fun _ w' => Wp (Cw d) cd_Village_copy (0, 0, n1) Q 38 [mR 4, mR 69] [] w')) : Wp (Cw d) cd_Village_copy (0, 0, n1) Q 33 [mR 4, mR 69] [] w :=
  Wp.s (Wp.s (Wp.s (Wp.s (Wp.s h))))
theorem Village_copy_4_69_b38 {d : Nat} {n1 : Int} {Q : MV → Wd → Prop} {w : Wd} (h : Cw d 48 [mR 76, mR 11] (ub w 4 8 (w 69 8)) (fun _ w' => Wp (Cw d) cd_Village_copy (0, 0, n1) Q 47 [mR 4, mR 69] [] w')) : Wp (Cw d) cd_Village_copy (0, 0, n1) Q 38 [mR 4, mR 69] [] w :=
  Wp.s (Wp.s (Wp.s (Wp.s (Wp.s (Wp.s (Wp.s (Wp.s (Wp.s h))))))))
theorem Village_copy_4_69_b47 {d : Nat} {n1 : Int} {Q : MV → Wd → Prop} {w : Wd} (h : Cw d 48 [mR 77, mR 12] w (fun _ w' => Wp (Cw d) cd_Village_copy (0, 0, n1) Q 52 [mR 4, mR 69] [] w')) : Wp (Cw d) cd_Village_copy (0, 0, n1) Q 47 [mR 4, mR 69] [] w :=
  Wp.s (Wp.s (Wp.s (Wp.s (Wp.s h))))
theorem Village_copy_4_69_b52 {d : Nat} {n1 : Int} {Q : MV → Wd → Prop} {w : Wd} (h : Cw d 48 [mR 78, mR 13] (ub w 4 11 (w 69 11)) (fun _ w' => Wp (Cw d) cd_Village_copy (0, 0, n1) Q 61 [mR 4, mR 69] [] w')) : Wp (Cw d) cd_Village_copy (0, 0, n1) Q 52 [mR 4, mR 69] [] w :=
  Wp.s (Wp.s (Wp.s (Wp.s (Wp.s (Wp.s (Wp.s (Wp.s (Wp.s h))))))))
theorem Village_copy_4_69_b61 {d : Nat} {n1 : Int} {Q : MV → Wd → Prop} {w : Wd} (h : Cw d 48 [mR 79, mR 14] w (fun _ w' => Wp (Cw d) cd_Village_copy (0, 0, n1) Q 66 [mR 4, mR 69] [] w')) : Wp (Cw d) cd_Village_copy (0, 0, n1) Q 61 [mR 4, mR 69] [] w :=
  Wp.s (Wp.s (Wp.s (Wp.s (Wp.s h))))
theorem Village_copy_4_69_b66 {d : Nat} {n1 : Int} {Q : MV → Wd → Prop} {w : Wd} (h : Cw d 48 [mR 80, mR 15] w (fun _ w' => Wp (Cw d) cd_Village_copy (0, 0, n1) Q 71 [mR 4, mR 69] [] w')) : Wp (Cw d) cd_Village_copy (0, 0, n1) Q 66 [mR 4, mR 69] [] w :=
  Wp.s (Wp.s (Wp.s (Wp.s (Wp.s h))))
theorem Village_copy_4_69_b71 {d : Nat} {n1 : Int} {Q : MV → Wd → Prop} {w : Wd} (h : Q none (ub (ub w 4 15 (w 69 15)) 4 16 (w 69 16))) : Wp (Cw d) cd_Village_copy (0, 0, n1) Q 71 [mR 4, mR 69] [] w :=
  Wp.s (Wp.s (Wp.s (Wp.s (Wp.s (Wp.s (Wp.s (Wp.s (Wp.s h))))))))
theorem Plan_copy_28_81_b0 {d : Nat} {n1 : Int} {Q : MV → Wd → Prop} {w : Wd} (h : Cw d 48 [mR 82, mR 29] (ub w 28 0 (w 81 0)) (fun _ w' => Wp (Cw d) cd_Plan_copy (0, 0, n1) Q 9 [mR 28, mR 81] [] w')) : Wp (Cw d) cd_Plan_copy (0, 0, n1) Q 0 [mR 28, mR 81] [] w :=
  Wp.s (Wp.s (Wp.s (Wp.s (Wp.s (Wp.s (Wp.s (Wp.s (Wp.s h))))))))
theorem Plan_copy_28_81_b9 {d : Nat} {n1 : Int} {Q : MV → Wd → Prop} {w : Wd} (h : Cw d 48 [mR 83, mR 30] w (fun _ w' => Wp (Cw d) cd_Plan_copy (0, 0, n1) Q 14 [mR 28, mR 81] [] w')) : Wp (Cw d) cd_Plan_copy (0, 0, n1) Q 9 [mR 28, mR 81] [] w :=
  Wp.s (Wp.s (Wp.s (Wp.s (Wp.s h))))
theorem Plan_copy_28_81_b14 {d : Nat} {n1 : Int} {Q : MV → Wd → Prop} {w : Wd} (h : Cw d 48 [mR 84, mR 31] w (fun _ w' => Wp (Cw d) cd_Plan_copy (0, 0, n1) Q 19 [none, none] [] w')) : Wp (Cw d) cd_Plan_copy (0, 0, n1) Q 14 [mR 28, mR 81] [] w :=
  Wp.s (Wp.s (Wp.s (Wp.s (Wp.s (Cw_mono _ _ _ _ _ _ (fun r w' q => Wp.fgd (leA.f (leA.f leA.e)) q) h)))))
theorem Plan_copy_28_81_b19 {d : Nat} {n1 : Int} {Q : MV → Wd → Prop} {w : Wd} (h : Q none w) : Wp (Cw d) cd_Plan_copy (0, 0, n1) Q 19 [none, none] [] w :=
  Wp.s h
theorem Book_copy_36_85_b0 {d : Nat} {n1 : Int} {Q : MV → Wd → Prop} {w : Wd} (h : Cw d 48 [mR 86, mR 37] (ub w 36 0 (w 85 0)) (fun _ w' => Wp (Cw d) cd_Book_copy (0, 0, n1) Q 9 [mR 36, mR 85] [] w')) : Wp (Cw d) cd_Book_copy (0, 0, n1) Q 0 [mR 36, mR 85] [] w :=
  Wp.s (Wp.s (Wp.s (Wp.s (Wp.s (Wp.s (Wp.s (Wp.s (Wp.s h))))))))
theorem Book_copy_36_85_b9 {d : Nat} {n1 : Int} {Q : MV → Wd → Prop} {w : Wd} (h : Cw d 48 [mR 87, mR 38] w (fun _ w' => Wp (Cw d) cd_Book_copy (0, 0, n1) Q 14 [mR 36, mR 85] [] w')) : Wp (Cw d) cd_Book_copy (0, 0, n1) Q 9 [mR 36, mR 85] [] w :=
  Wp.s (Wp.s (Wp.s (Wp.s (Wp.s h))))
theorem Book_copy_36_85_b14 {d : Nat} {n1 : Int} {Q : MV → Wd → Prop} {w : Wd} (h : Cw d 48 [mR 88, mR 39] w (fun _ w' => Wp (Cw d) cd_Book_copy (0, 0, n1) Q 19 [mR 36, mR 85] [] w')) : Wp (Cw d) cd_Book_copy (0, 0, n1) Q 14 [mR 36, mR 85] [] w :=
  Wp.s (Wp.s (Wp.s (Wp.s (Wp.s h))))
theorem Book_copy_36_85_b19 {d : Nat} {n1 : Int} {Q : MV → Wd → Prop} {w : Wd} (h : Cw d 48 [mR 89, mR 40] w (fun _ w' => Wp (Cw d) cd_Book_copy (0, 0, n1) Q 24 [none, none] [] w')) : Wp (Cw d) cd_Book_copy (0, 0, n1) Q 19 [mR 36, mR 85] [] w :=
  Wp.s (Wp.s (Wp.s (Wp.s (Wp.s (Cw_mono _ _ _ _ _ _ (fun r w' q => Wp.fgd (leA.f (leA.f leA.e)) q) h)))))
theorem Book_copy_36_85_b24 {d : Nat} {n1 : Int} {Q : MV → Wd → Prop} {w : Wd} (h : Q none w) : Wp (Cw d) cd_Book_copy (0, 0, n1) Q 24 [none, none] [] w :=
  Wp.s h
theorem Tokens_advance_2_b0 {d : Nat} {n1 : Int} {Q : MV → Wd → Prop} {w : Wd} (h1 : w 2 3 ≤ w 2 4 → Wp (Cw d) cd_Tokens_advance (0, 0, n1) Q 26 [mR 2, none, none] [] w) (h2 : ¬ (w 2 3 ≤ w 2 4) → Wp (Cw d) cd_Tokens_advance (0, 0, n1) Q 5 [mR 2, none, none] [] w) : Wp (Cw d) cd_Tokens_advance (0, 0, n1) Q 0 [mR 2, none, none] [] w :=
  Wp.s (Wp.s (Wp.s (Wp.s (Wp.s ⟨fun q => h1 q, fun q => h2 q⟩))))
theorem Tokens_advance_2_b5 {d : Nat} {n1 : Int} {Q : MV → Wd → Prop} {w : Wd} (g1 : (0 : Int) ≤ w 2 4 ∧ w 2 4 < 1040) (h1 : w 1 (w 2 4).toNat = 32 → Wp (Cw d) cd_Tokens_advance (0, 0, n1) Q 19 [mR 2, none, none] [] w) (h2 : ¬ (w 1 (w 2 4).toNat = 32) → Wp (Cw d) cd_Tokens_advance (0, 0, n1) Q 12 [mR 2, none, none] [] w) : Wp (Cw d) cd_Tokens_advance (0, 0, n1) Q 5 [mR 2, none, none] [] w :=
  Wp.s (Wp.s (Wp.s (Wp.s (Wp.s ⟨g1, Wp.s (Wp.s ⟨fun q => h1 q, fun q => h2 q⟩)⟩))))
theorem Tokens_advance_2_b12 {d : Nat} {n1 : Int} {Q : MV → Wd → Prop} {w : Wd} (g1 : (0 : Int) ≤ w 2 4 ∧ w 2 4 < 1040) (h1 : ¬ w 1 (w 2 4).toNat = 10 → Wp (Cw d) cd_Tokens_advance (0, 0, n1) Q 26 [mR 2, none, none] [] w) (h2 : ¬ (¬ w 1 (w 2 4).toNat = 10) → Wp (Cw d) cd_Tokens_advance (0, 0, n1) Q 19 [mR 2, none, none] [] w) : Wp (Cw d) cd_Tokens_advance (0, 0, n1) Q 12 [mR 2, none, none] [] w :=
  Wp.s (Wp.s (Wp.s (Wp.s (Wp.s ⟨g1, Wp.s (Wp.s ⟨fun q => h1 q, fun q => h2 q⟩)⟩))))
theorem Tokens_advance_2_b19 {d : Nat} {n1 : Int} {Q : MV → Wd → Prop} {w : Wd} (h : Wp (Cw d) cd_Tokens_advance (0, 0, n1) Q 0 [mR 2, none, none] [] (ub w 2 4 (w32 ((w 2 4) + 1)))) : Wp (Cw d) cd_Tokens_advance (0, 0, n1) Q 19 [mR 2, none, none] [] w :=
  Wp.s (Wp.s (Wp.s (Wp.s (Wp.s (Wp.s (Wp.s h))))))
theorem Tokens_advance_2_b26 {d : Nat} {n1 : Int} {Q : MV → Wd → Prop} {w : Wd} (h1 : (up1 (up1 (w 2) 7 (min (w 2 4) (w 2 3))) 6 0) 4 < (up1 (up1 (w 2) 7 (min (w 2 4) (w 2 3))) 6 0) 3 → Wp (Cw d) cd_Tokens_advance (0, 0, n1) Q 52 [mR 2, none, none] [] (ub (ub w 2 7 (min (w 2 4) (w 2 3))) 2 6 0)) (h2 : ¬ ((up1 (up1 (w 2) 7 (min (w 2 4) (w 2 3))) 6 0) 4 < (up1 (up1 (w 2) 7 (min (w 2 4) (w 2 3))) 6 0) 3) → Wp (Cw d) cd_Tokens_advance (0, 0, n1) Q 41 [mR 2, none, none] [] (ub (ub w 2 7 (min (w 2 4) (w 2 3))) 2 6 0)) : Wp (Cw d) cd_Tokens_advance (0, 0, n1) Q 26 [mR 2, none, none] [] w :=
  Wp.s (Wp.s (Wp.s (Wp.s (Wp.s (Wp.s (Wp.s (Wp.s (Wp.s (Wp.s (Wp.s (Wp.s (Wp.s (Wp.s (Wp.s ⟨fun q => h1 q, fun q => h2 q⟩))))))))))))))
theorem Tokens_advance_2_b41 {d : Nat} {n1 : Int} {Q : MV → Wd → Prop} {w : Wd} (h1 : w 2 2 ≤ w 2 3 → Wp (Cw d) cd_Tokens_advance (0, 0, n1) Q 49 [none, none, none] [mR 2] w) (h2 : ¬ (w 2 2 ≤ w 2 3) → Wp (Cw d) cd_Tokens_advance (0, 0, n1) Q 47 [none, none, none] [mR 2] w) : Wp (Cw d) cd_Tokens_advance (0, 0, n1) Q 41 [mR 2, none, none] [] w :=
  Wp.s (Wp.s (Wp.s (Wp.s (Wp.s (Wp.s ⟨fun q => Wp.fgd (leA.f (leA.f (leA.f leA.e))) (h1 q), fun q => Wp.fgd (leA.f (leA.f (leA.f leA.e))) (h2 q)⟩)))))
theorem Tokens_advance_2_b47 {d : Nat} {n1 : Int} {Q : MV → Wd → Prop} {w : Wd} (h : Wp (Cw d) cd_Tokens_advance (0, 0, n1) Q 50 [none, none, none] [mI 1, mR 2] w) : Wp (Cw d) cd_Tokens_advance (0, 0, n1) Q 47 [none, none, none] [mR 2] w :=
  Wp.s (Wp.s h)
theorem Tokens_advance_2_b49 {d : Nat} {n1 : Int} {Q : MV → Wd → Prop} {w : Wd} (h : Wp (Cw d) cd_Tokens_advance (0, 0, n1) Q 50 [none, none, none] [mI 0, mR 2] w) : Wp (Cw d) cd_Tokens_advance (0, 0, n1) Q 49 [none, none, none] [mR 2] w :=
  Wp.s h
theorem Tokens_advance_2_b50 {d : Nat} {n1 : Int} {Q : MV → Wd → Prop} {s0 : Int} {w : Wd} (h : Q none (ub w 2 5 s0)) : Wp (Cw d) cd_Tokens_advance (0, 0, n1) Q 50 [none, none, none] [mI s0, mR 2] w :=
  Wp.s (Wp.s h)
theorem Tokens_advance_2_b52 {d : Nat} {n1 : Int} {Q : MV → Wd → Prop} {w : Wd} (h : Wp (Cw d) cd_Tokens_advance (0, 0, n1) Q 57 [mR 2, mI (w 2 4), mI 0] [] w) : Wp (Cw d) cd_Tokens_advance (0, 0, n1) Q 52 [mR 2, none, none] [] w :=
  Wp.s (Wp.s (Wp.s (Wp.s (Wp.s h))))
theorem Tokens_advance_2_b57 {d : Nat} {n1 : Int} {Q : MV → Wd → Prop} {x1 x2 : Int} {w : Wd} (h1 : w 2 2 ≤ x1 → Wp (Cw d) cd_Tokens_advance (0, 0, n1) Q 87 [mR 2, mI x1, mI x2] [] w) (h2 : ¬ (w 2 2 ≤ x1) → Wp (Cw d) cd_Tokens_advance (0, 0, n1) Q 61 [mR 2, mI x1, mI x2] [] w) : Wp (Cw d) cd_Tokens_advance (0, 0, n1) Q 57 [mR 2, mI x1, mI x2] [] w :=
  Wp.s (Wp.s (Wp.s (Wp.s ⟨fun q => h1 q, fun q => h2 q⟩)))
theorem Tokens_advance_2_b61 {d : Nat} {n1 : Int} {Q : MV → Wd → Prop} {x1 x2 : Int} {w : Wd} (g1 : (0 : Int) ≤ x1 ∧ x1 < 1040) (h : Cw d 19 [mI (w 1 x1.toNat)] w (fun r w' => Wp (Cw d) cd_Tokens_advance (0, 0, n1) Q 66 [mR 2, mI x1, mI x2] [r] w')) : Wp (Cw d) cd_Tokens_advance (0, 0, n1) Q 61 [mR 2, mI x1, mI x2] [] w :=
  Wp.s (Wp.s (Wp.s (Wp.s ⟨g1, Wp.s h⟩)))
theorem Tokens_advance_2_b66 {d : Nat} {n1 : Int} {Q : MV → Wd → Prop} {x1 x2 s0 : Int} {w : Wd} (h1 : ¬ s0 = 0 → Wp (Cw d) cd_Tokens_advance (0, 0, n1) Q 73 [mR 2, mI x1, mI x2] [] w) (h2 : ¬ (¬ s0 = 0) → Wp (Cw d) cd_Tokens_advance (0, 0, n1) Q 67 [mR 2, mI x1, mI x2] [] w) : Wp (Cw d) cd_Tokens_advance (0, 0, n1) Q 66 [mR 2, mI x1, mI x2] [mI s0] w :=
  Wp.s ⟨fun q => h1 q, fun q => h2 q⟩
theorem Tokens_advance_2_b67 {d : Nat} {n1 : Int} {Q : MV → Wd → Prop} {x1 x2 : Int} {w : Wd} (g1 : (0 : Int) ≤ x1 ∧ x1 < 1040) (h : Cw d 20 [mI (w 1 x1.toNat)] w (fun r w' => Wp (Cw d) cd_Tokens_advance (0, 0, n1) Q 72 [mR 2, mI x1, mI x2] [r] w')) : Wp (Cw d) cd_Tokens_advance (0, 0, n1) Q 67 [mR 2, mI x1, mI x2] [] w :=
  Wp.s (Wp.s (Wp.s (Wp.s ⟨g1, Wp.s h⟩)))
theorem Tokens_advance_2_b72 {d : Nat} {n1 : Int} {Q : MV → Wd → Prop} {x1 x2 s0 : Int} {w : Wd} (h1 : s0 = 0 → Wp (Cw d) cd_Tokens_advance (0, 0, n1) Q 87 [mR 2, mI x1, mI x2] [] w) (h2 : ¬ (s0 = 0) → Wp (Cw d) cd_Tokens_advance (0, 0, n1) Q 73 [mR 2, mI x1, mI x2] [] w) : Wp (Cw d) cd_Tokens_advance (0, 0, n1) Q 72 [mR 2, mI x1, mI x2] [mI s0] w :=
  Wp.s ⟨fun q => h1 q, fun q => h2 q⟩
theorem Tokens_advance_2_b73 {d : Nat} {n1 : Int} {Q : MV → Wd → Prop} {x1 x2 : Int} {w : Wd} (g1 : (0 : Int) ≤ x1 ∧ x1 < 1040) (h : Cw d 19 [mI (w 1 x1.toNat)] w (fun r w' => Wp (Cw d) cd_Tokens_advance (0, 0, n1) Q 79 [mR 2, mI x1, none] [r, mI x2] w')) : Wp (Cw d) cd_Tokens_advance (0, 0, n1) Q 73 [mR 2, mI x1, mI x2] [] w :=
  Wp.s (Wp.s (Wp.s (Wp.s (Wp.s ⟨g1, Wp.s (Cw_mono _ _ _ _ _ _ (fun r w' q => Wp.fgd (leA.k (leA.k (leA.f leA.e))) q) h)⟩))))
theorem Tokens_advance_2_b79 {d : Nat} {n1 : Int} {Q : MV → Wd → Prop} {x1 s0 s1 : Int} {w : Wd} (h1 : s0 = 0 → Wp (Cw d) cd_Tokens_advance (0, 0, n1) Q 82 [mR 2, mI x1, none] [mI s1] w) (h2 : ¬ (s0 = 0) → Wp (Cw d) cd_Tokens_advance (0, 0, n1) Q 80 [mR 2, mI x1, none] [mI s1] w) : Wp (Cw d) cd_Tokens_advance (0, 0, n1) Q 79 [mR 2, mI x1, none] [mI s0, mI s1] w :=
  Wp.s ⟨fun q => h1 q, fun q => h2 q⟩
theorem Tokens_advance_2_b80 {d : Nat} {n1 : Int} {Q : MV → Wd → Prop} {x1 s0 : Int} {w : Wd} (h : Wp (Cw d) cd_Tokens_advance (0, 0, n1) Q 83 [mR 2, mI x1, none] [mI 1, mI s0] w) : Wp (Cw d) cd_Tokens_advance (0, 0, n1) Q 80 [mR 2, mI x1, none] [mI s0] w :=
  Wp.s (Wp.s h)
theorem Tokens_advance_2_b82 {d : Nat} {n1 : Int} {Q : MV → Wd → Prop} {x1 s0 : Int} {w : Wd} (h : Wp (Cw d) cd_Tokens_advance (0, 0, n1) Q 83 [mR 2, mI x1, none] [mI 0, mI s0] w) : Wp (Cw d) cd_Tokens_advance (0, 0, n1) Q 82 [mR 2, mI x1, none] [mI s0] w :=
  Wp.s h
theorem Tokens_advance_2_b83 {d : Nat} {n1 : Int} {Q : MV → Wd → Prop} {x1 s0 s1 : Int} {w : Wd} (h : Wp (Cw d) cd_Tokens_advance (0, 0, n1) Q 57 [mR 2, mI (w32 (x1 + 1)), mI (w32 (s1 + s0))] [] w) : Wp (Cw d) cd_Tokens_advance (0, 0, n1) Q 83 [mR 2, mI x1, none] [mI s0, mI s1] w :=
  Wp.s (Wp.s (Wp.s (Wp.s h)))
theorem Tokens_advance_2_b87 {d : Nat} {n1 : Int} {Q : MV → Wd → Prop} {x1 x2 : Int} {w : Wd} (h1 : ¬ x1 = w 2 4 → Wp (Cw d) cd_Tokens_advance (0, 0, n1) Q 110 [mR 2, mI x1, mI x2] [] w) (h2 : ¬ (¬ x1 = w 2 4) → Wp (Cw d) cd_Tokens_advance (0, 0, n1) Q 91 [mR 2, none, none] [] w) : Wp (Cw d) cd_Tokens_advance (0, 0, n1) Q 87 [mR 2, mI x1, mI x2] [] w :=
  Wp.s (Wp.s (Wp.s (Wp.s ⟨fun q => h1 q, fun q => Wp.fgd (leA.k (leA.f (leA.f leA.e))) (h2 q)⟩)))
theorem Tokens_advance_2_b91 {d : Nat} {n1 : Int} {Q : MV → Wd → Prop} {w : Wd} (g1 : (0 : Int) ≤ w 2 4 ∧ w 2 4 < 1040) (h1 : ¬ w 1 (w 2 4).toNat = 59 → Wp (Cw d) cd_Tokens_advance (0, 0, n1) Q 101 [mR 2, none, none] [mR 2] w) (h2 : ¬ (¬ w 1 (w 2 4).toNat = 59) → Wp (Cw d) cd_Tokens_advance (0, 0, n1) Q 99 [mR 2, none, none] [mR 2] w) : Wp (Cw d) cd_Tokens_advance (0, 0, n1) Q 91 [mR 2, none, none] [] w :=
  Wp.s (Wp.s (Wp.s (Wp.s (Wp.s (Wp.s ⟨g1, Wp.s (Wp.s ⟨fun q => h1 q, fun q => h2 q⟩)⟩)))))
theorem Tokens_advance_2_b99 {d : Nat} {n1 : Int} {Q : MV → Wd → Prop} {w : Wd} (h : Wp (Cw d) cd_Tokens_advance (0, 0, n1) Q 102 [mR 2, none, none] [mI 3, mR 2] w) : Wp (Cw d) cd_Tokens_advance (0, 0, n1) Q 99 [mR 2, none, none] [mR 2] w :=
  Wp.s (Wp.s h)
theorem Tokens_advance_2_b101 {d : Nat} {n1 : Int} {Q : MV → Wd → Prop} {w : Wd} (h : Wp (Cw d) cd_Tokens_advance (0, 0, n1) Q 102 [mR 2, none, none] [mI 2, mR 2] w) : Wp (Cw d) cd_Tokens_advance (0, 0, n1) Q 101 [mR 2, none, none] [mR 2] w :=
  Wp.s h
theorem Tokens_advance_2_b102 {d : Nat} {n1 : Int} {Q : MV → Wd → Prop} {s0 : Int} {w : Wd} (h : Wp (Cw d) cd_Tokens_advance (0, 0, n1) Q 117 [none, none, none] [] (ub (ub w 2 5 s0) 2 4 (w32 (((up1 (w 2) 5 s0) 4) + 1)))) : Wp (Cw d) cd_Tokens_advance (0, 0, n1) Q 102 [mR 2, none, none] [mI s0, mR 2] w :=
  Wp.s (Wp.s (Wp.s (Wp.s (Wp.s (Wp.s (Wp.s (Wp.s (Wp.fgd (leA.f (leA.f (leA.f leA.e))) h))))))))
theorem Tokens_advance_2_b110 {d : Nat} {n1 : Int} {Q : MV → Wd → Prop} {x1 x2 : Int} {w : Wd} (h : Cw d 21 [mR 2, mI x1, mI x2] w (fun _ w' => Wp (Cw d) cd_Tokens_advance (0, 0, n1) Q 114 [mR 2, mI x1, none] [] w')) : Wp (Cw d) cd_Tokens_advance (0, 0, n1) Q 110 [mR 2, mI x1, mI x2] [] w :=
  Wp.s (Wp.s (Wp.s (Wp.s (Cw_mono _ _ _ _ _ _ (fun r w' q => Wp.fgd (leA.k (leA.k (leA.f leA.e))) q) h))))
theorem Tokens_advance_2_b114 {d : Nat} {n1 : Int} {Q : MV → Wd → Prop} {x1 : Int} {w : Wd} (h : Wp (Cw d) cd_Tokens_advance (0, 0, n1) Q 117 [none, none, none] [] (ub w 2 4 x1)) : Wp (Cw d) cd_Tokens_advance (0, 0, n1) Q 114 [mR 2, mI x1, none] [] w :=
  Wp.s (Wp.s (Wp.s (Wp.fgd (leA.f (leA.f (leA.f leA.e))) h)))
theorem Tokens_advance_2_b117 {d : Nat} {n1 : Int} {Q : MV → Wd → Prop} {w : Wd} (h : Q none w) : Wp (Cw d) cd_Tokens_advance (0, 0, n1) Q 117 [none, none, none] [] w :=
  Wp.s h
theorem Village_clear_16_b0 {d : Nat} {n1 : Int} {Q : MV → Wd → Prop} {w : Wd} (h : Cw d 276 [mR 26, mI ((-1))] (ub (ub (ub (ub w 16 0 0) 16 5 0) 16 8 0) 16 11 0) (fun _ w' => Wp (Cw d) cd_Village_clear (0, 0, n1) Q 16 [mR 16] [] w')) : Wp (Cw d) cd_Village_clear (0, 0, n1) Q 0 [mR 16] [] w :=
  Wp.s (Wp.s (Wp.s (Wp.s (Wp.s (Wp.s (Wp.s (Wp.s (Wp.s (Wp.s (Wp.s (Wp.s (Wp.s (Wp.s (Wp.s (Wp.s h)))))))))))))))
theorem Village_clear_16_b16 {d : Nat} {n1 : Int} {Q : MV → Wd → Prop} {w : Wd} (h : Q none (ub (ub (ub w 16 15 3) 16 16 1) 16 17 0)) : Wp (Cw d) cd_Village_clear (0, 0, n1) Q 16 [mR 16] [] w :=
  Wp.s (Wp.s (Wp.s (Wp.s (Wp.s (Wp.s (Wp.s (Wp.s (Wp.s ⟨(Or.inl rfl), Wp.s h⟩))))))))
theorem Village_line_16_2_b0 {d : Nat} {n1 : Int} {Q : MV → Wd → Prop} {w : Wd} (h : Cw d 26 [mR 2] w (fun r w' => Wp (Cw d) cd_Village_line (2, 0, n1) Q 2 [mR 16, mR 2] [r] w')) : Wp (Cw d) cd_Village_line (2, 0, n1) Q 0 [mR 16, mR 2] [] w :=
  Wp.s (Wp.s h)
theorem Village_line_16_2_b2 {d : Nat} {n1 : Int} {Q : MV → Wd → Prop} {s0 : Int} {w : Wd} (h0 : s0 = 0 → Wp (Cw d) cd_Village_line (2, 0, n1) Q 3 [mR 16, mR 2] [] w) (h1 : s0 = 1 → Wp (Cw d) cd_Village_line (2, 0, n1) Q 27 [none, mR 2] [] w) (h2 : s0 = 2 → Wp (Cw d) cd_Village_line (2, 0, n1) Q 27 [none, mR 2] [] w) (h3 : s0 = 3 → Wp (Cw d) cd_Village_line (2, 0, n1) Q 7 [mR 16, mR 2] [] w) (h4 : s0 = 4 → Wp (Cw d) cd_Village_line (2, 0, n1) Q 11 [mR 16, mR 2] [] w) (h5 : s0 = 5 → Wp (Cw d) cd_Village_line (2, 0, n1) Q 27 [none, mR 2] [] w) (h6 : s0 = 6 → Wp (Cw d) cd_Village_line (2, 0, n1) Q 15 [mR 16, mR 2] [] w) (h7 : s0 = 7 → Wp (Cw d) cd_Village_line (2, 0, n1) Q 27 [none, mR 2] [] w) (h8 : s0 = 8 → Wp (Cw d) cd_Village_line (2, 0, n1) Q 19 [mR 16, mR 2] [] w) (h9 : s0 = 9 → Wp (Cw d) cd_Village_line (2, 0, n1) Q 23 [mR 16, mR 2] [] w) (hd : ¬ s0 = 0 → ¬ s0 = 1 → ¬ s0 = 2 → ¬ s0 = 3 → ¬ s0 = 4 → ¬ s0 = 5 → ¬ s0 = 6 → ¬ s0 = 7 → ¬ s0 = 8 → ¬ s0 = 9 → Wp (Cw d) cd_Village_line (2, 0, n1) Q 27 [none, mR 2] [] w) : Wp (Cw d) cd_Village_line (2, 0, n1) Q 2 [mR 16, mR 2] [mI s0] w :=
  Wp.s ⟨fun q => h0 q, fun q0 => ⟨fun q => Wp.fgd (leA.f (leA.k leA.e)) (h1 q), fun q1 => ⟨fun q => Wp.fgd (leA.f (leA.k leA.e)) (h2 q), fun q2 => ⟨fun q => h3 q, fun q3 => ⟨fun q => h4 q, fun q4 => ⟨fun q => Wp.fgd (leA.f (leA.k leA.e)) (h5 q), fun q5 => ⟨fun q => h6 q, fun q6 => ⟨fun q => Wp.fgd (leA.f (leA.k leA.e)) (h7 q), fun q7 => ⟨fun q => h8 q, fun q8 => ⟨fun q => h9 q, fun q9 => Wp.fgd (leA.f (leA.k leA.e)) (hd q0 q1 q2 q3 q4 q5 q6 q7 q8 q9)⟩⟩⟩⟩⟩⟩⟩⟩⟩⟩
theorem Village_line_16_2_b3 {d : Nat} {n1 : Int} {Q : MV → Wd → Prop} {w : Wd} (h : Cw d 27 [mR 16, mR 2] w (fun r w' => Wp (Cw d) cd_Village_line (2, 0, n1) Q 6 [none, none] [r] w')) : Wp (Cw d) cd_Village_line (2, 0, n1) Q 3 [mR 16, mR 2] [] w :=
  Wp.s (Wp.s (Wp.s (Cw_mono _ _ _ _ _ _ (fun r w' q => Wp.fgd (leA.f (leA.f leA.e)) q) h)))
theorem Village_line_16_2_b6 {d : Nat} {n1 : Int} {Q : MV → Wd → Prop} {s0 : Int} {w : Wd} (g1 : s0 = 0 ∨ s0 = 1) (h : Q (mI s0) w) : Wp (Cw d) cd_Village_line (2, 0, n1) Q 6 [none, none] [mI s0] w :=
  Wp.s ⟨g1, h⟩
theorem Village_line_16_2_b7 {d : Nat} {n1 : Int} {Q : MV → Wd → Prop} {w : Wd} (h : Cw d 36 [mR 16, mR 2] w (fun r w' => Wp (Cw d) cd_Village_line (2, 0, n1) Q 10 [none, none] [r] w')) : Wp (Cw d) cd_Village_line (2, 0, n1) Q 7 [mR 16, mR 2] [] w :=
  Wp.s (Wp.s (Wp.s (Cw_mono _ _ _ _ _ _ (fun r w' q => Wp.fgd (leA.f (leA.f leA.e)) q) h)))
theorem Village_line_16_2_b10 {d : Nat} {n1 : Int} {Q : MV → Wd → Prop} {s0 : Int} {w : Wd} (g1 : s0 = 0 ∨ s0 = 1) (h : Q (mI s0) w) : Wp (Cw d) cd_Village_line (2, 0, n1) Q 10 [none, none] [mI s0] w :=
  Wp.s ⟨g1, h⟩
theorem Village_line_16_2_b11 {d : Nat} {n1 : Int} {Q : MV → Wd → Prop} {w : Wd} (h : Cw d 37 [mR 16, mR 2] w (fun r w' => Wp (Cw d) cd_Village_line (2, 0, n1) Q 14 [none, none] [r] w')) : Wp (Cw d) cd_Village_line (2, 0, n1) Q 11 [mR 16, mR 2] [] w :=
  Wp.s (Wp.s (Wp.s (Cw_mono _ _ _ _ _ _ (fun r w' q => Wp.fgd (leA.f (leA.f leA.e)) q) h)))
theorem Village_line_16_2_b14 {d : Nat} {n1 : Int} {Q : MV → Wd → Prop} {s0 : Int} {w : Wd} (g1 : s0 = 0 ∨ s0 = 1) (h : Q (mI s0) w) : Wp (Cw d) cd_Village_line (2, 0, n1) Q 14 [none, none] [mI s0] w :=
  Wp.s ⟨g1, h⟩
theorem Village_line_16_2_b15 {d : Nat} {n1 : Int} {Q : MV → Wd → Prop} {w : Wd} (h : Cw d 42 [mR 16, mR 2] w (fun r w' => Wp (Cw d) cd_Village_line (2, 0, n1) Q 18 [none, none] [r] w')) : Wp (Cw d) cd_Village_line (2, 0, n1) Q 15 [mR 16, mR 2] [] w :=
  Wp.s (Wp.s (Wp.s (Cw_mono _ _ _ _ _ _ (fun r w' q => Wp.fgd (leA.f (leA.f leA.e)) q) h)))
theorem Village_line_16_2_b18 {d : Nat} {n1 : Int} {Q : MV → Wd → Prop} {s0 : Int} {w : Wd} (g1 : s0 = 0 ∨ s0 = 1) (h : Q (mI s0) w) : Wp (Cw d) cd_Village_line (2, 0, n1) Q 18 [none, none] [mI s0] w :=
  Wp.s ⟨g1, h⟩
theorem Village_line_16_2_b19 {d : Nat} {n1 : Int} {Q : MV → Wd → Prop} {w : Wd} (h : Cw d 43 [mR 16, mR 2] w (fun r w' => Wp (Cw d) cd_Village_line (2, 0, n1) Q 22 [none, none] [r] w')) : Wp (Cw d) cd_Village_line (2, 0, n1) Q 19 [mR 16, mR 2] [] w :=
  Wp.s (Wp.s (Wp.s (Cw_mono _ _ _ _ _ _ (fun r w' q => Wp.fgd (leA.f (leA.f leA.e)) q) h)))
theorem Village_line_16_2_b22 {d : Nat} {n1 : Int} {Q : MV → Wd → Prop} {s0 : Int} {w : Wd} (g1 : s0 = 0 ∨ s0 = 1) (h : Q (mI s0) w) : Wp (Cw d) cd_Village_line (2, 0, n1) Q 22 [none, none] [mI s0] w :=
  Wp.s ⟨g1, h⟩
theorem Village_line_16_2_b23 {d : Nat} {n1 : Int} {Q : MV → Wd → Prop} {w : Wd} (h : Cw d 44 [mR 16, mR 2] w (fun r w' => Wp (Cw d) cd_Village_line (2, 0, n1) Q 26 [none, none] [r] w')) : Wp (Cw d) cd_Village_line (2, 0, n1) Q 23 [mR 16, mR 2] [] w :=
  Wp.s (Wp.s (Wp.s (Cw_mono _ _ _ _ _ _ (fun r w' q => Wp.fgd (leA.f (leA.f leA.e)) q) h)))
theorem Village_line_16_2_b26 {d : Nat} {n1 : Int} {Q : MV → Wd → Prop} {s0 : Int} {w : Wd} (g1 : s0 = 0 ∨ s0 = 1) (h : Q (mI s0) w) : Wp (Cw d) cd_Village_line (2, 0, n1) Q 26 [none, none] [mI s0] w :=
  Wp.s ⟨g1, h⟩
theorem Village_line_16_2_b27 {d : Nat} {n1 : Int} {Q : MV → Wd → Prop} {w : Wd} (h : Cw d 28 [mR 2, mI 1] w (fun r w' => Wp (Cw d) cd_Village_line (2, 0, n1) Q 30 [none, none] [r] w')) : Wp (Cw d) cd_Village_line (2, 0, n1) Q 27 [none, mR 2] [] w :=
  Wp.s (Wp.s (Wp.s (Cw_mono _ _ _ _ _ _ (fun r w' q => Wp.fgd (leA.f (leA.f leA.e)) q) h)))
theorem Village_line_16_2_b30 {d : Nat} {n1 : Int} {Q : MV → Wd → Prop} {s0 : Int} {w : Wd} (g1 : s0 = 0 ∨ s0 = 1) (h : Q (mI s0) w) : Wp (Cw d) cd_Village_line (2, 0, n1) Q 30 [none, none] [mI s0] w :=
  Wp.s ⟨g1, h⟩
theorem Tokens_semicolon_2_b0 {d : Nat} {n1 : Int} {Q : MV → Wd → Prop} {w : Wd} (h1 : w 2 5 = 3 → Wp (Cw d) cd_Tokens_semicolon (2, 0, n1) Q 8 [mR 2] [] w) (h2 : ¬ (w 2 5 = 3) → Wp (Cw d) cd_Tokens_semicolon (2, 0, n1) Q 4 [mR 2] [] w) : Wp (Cw d) cd_Tokens_semicolon (2, 0, n1) Q 0 [mR 2] [] w :=
  Wp.s (Wp.s (Wp.s (Wp.s ⟨fun q => h1 q, fun q => h2 q⟩)))
theorem Tokens_semicolon_2_b4 {d : Nat} {n1 : Int} {Q : MV → Wd → Prop} {w : Wd} (h : Cw d 28 [mR 2, mI 1] w (fun r w' => Wp (Cw d) cd_Tokens_semicolon (2, 0, n1) Q 7 [none] [r] w')) : Wp (Cw d) cd_Tokens_semicolon (2, 0, n1) Q 4 [mR 2] [] w :=
  Wp.s (Wp.s (Wp.s (Cw_mono _ _ _ _ _ _ (fun r w' q => Wp.fgd (leA.f leA.e) q) h)))
theorem Tokens_semicolon_2_b7 {d : Nat} {n1 : Int} {Q : MV → Wd → Prop} {s0 : Int} {w : Wd} (g1 : s0 = 0 ∨ s0 = 1) (h : Q (mI s0) w) : Wp (Cw d) cd_Tokens_semicolon (2, 0, n1) Q 7 [none] [mI s0] w :=
  Wp.s ⟨g1, h⟩
theorem Tokens_semicolon_2_b8 {d : Nat} {n1 : Int} {Q : MV → Wd → Prop} {w : Wd} (h : Cw d 18 [mR 2] w (fun _ w' => Wp (Cw d) cd_Tokens_semicolon (2, 0, n1) Q 10 [none] [] w')) : Wp (Cw d) cd_Tokens_semicolon (2, 0, n1) Q 8 [mR 2] [] w :=
  Wp.s (Wp.s (Cw_mono _ _ _ _ _ _ (fun r w' q => Wp.fgd (leA.f leA.e) q) h))
theorem Tokens_semicolon_2_b10 {d : Nat} {n1 : Int} {Q : MV → Wd → Prop} {w : Wd} (h : Q (mI 1) w) : Wp (Cw d) cd_Tokens_semicolon (2, 0, n1) Q 10 [none] [] w :=
  Wp.s (Wp.s ⟨(Or.inr rfl), h⟩)
theorem Tokens_faultAnswer_2_b0 {d : Nat} {n1 : Int} {Q : MV → Wd → Prop} {w : Wd} (h : Q (mI (w32 (((-1)) - (w 2 7)))) w) : Wp (Cw d) cd_Tokens_faultAnswer (1, 0, n1) Q 0 [mR 2] [] w :=
  Wp.s (Wp.s (Wp.s (Wp.s (Wp.s h))))
theorem M_peek_144_b0 {d : Nat} {n1 : Int} {Q : MV → Wd → Prop} {w : Wd} (h1 : w 144 3 ≤ w 144 4 → Wp (Cw d) cd_M_peek (1, 0, n1) Q 13 [none] [] w) (h2 : ¬ (w 144 3 ≤ w 144 4) → Wp (Cw d) cd_M_peek (1, 0, n1) Q 5 [mR 144] [] w) : Wp (Cw d) cd_M_peek (1, 0, n1) Q 0 [mR 144] [] w :=
  Wp.s (Wp.s (Wp.s (Wp.s (Wp.s ⟨fun q => Wp.fgd (leA.f leA.e) (h1 q), fun q => h2 q⟩))))
theorem M_peek_144_b5 {d : Nat} {n1 : Int} {Q : MV → Wd → Prop} {w : Wd} (g1 : (0 : Int) ≤ w 144 4 ∧ w 144 4 < 1040) (h : Wp (Cw d) cd_M_peek (1, 0, n1) Q 14 [none] [mI (iand (w 145 (w 144 4).toNat) 255)] w) : Wp (Cw d) cd_M_peek (1, 0, n1) Q 5 [mR 144] [] w :=
  Wp.s (Wp.s (Wp.s (Wp.s (Wp.s ⟨g1, Wp.s (Wp.s (Wp.s (Wp.fgd (leA.f leA.e) h)))⟩))))
theorem M_peek_144_b13 {d : Nat} {n1 : Int} {Q : MV → Wd → Prop} {w : Wd} (h : Wp (Cw d) cd_M_peek (1, 0, n1) Q 14 [none] [mI ((-1))] w) : Wp (Cw d) cd_M_peek (1, 0, n1) Q 13 [none] [] w :=
  Wp.s h
theorem M_peek_144_b14 {d : Nat} {n1 : Int} {Q : MV → Wd → Prop} {s0 : Int} {w : Wd} (h : Q (mI s0) w) : Wp (Cw d) cd_M_peek (1, 0, n1) Q 14 [none] [mI s0] w :=
  Wp.s h
theorem M_isSmall_b0 {d : Nat} {n1 : Int} {Q : MV → Wd → Prop} {x0 : Int} {w : Wd} (h1 : x0 < 97 → Wp (Cw d) cd_M_isSmall (2, 0, n1) Q 8 [none] [] w) (h2 : ¬ (x0 < 97) → Wp (Cw d) cd_M_isSmall (2, 0, n1) Q 3 [mI x0] [] w) : Wp (Cw d) cd_M_isSmall (2, 0, n1) Q 0 [mI x0] [] w :=
  Wp.s (Wp.s (Wp.s ⟨fun q => Wp.fgd (leA.f leA.e) (h1 q), fun q => h2 q⟩))
theorem M_isSmall_b3 {d : Nat} {n1 : Int} {Q : MV → Wd → Prop} {x0 : Int} {w : Wd} (h1 : 122 < x0 → Wp (Cw d) cd_M_isSmall (2, 0, n1) Q 8 [none] [] w) (h2 : ¬ (122 < x0) → Wp (Cw d) cd_M_isSmall (2, 0, n1) Q 6 [none] [] w) : Wp (Cw d) cd_M_isSmall (2, 0, n1) Q 3 [mI x0] [] w :=
  Wp.s (Wp.s (Wp.s ⟨fun q => Wp.fgd (leA.f leA.e) (h1 q), fun q => Wp.fgd (leA.f leA.e) (h2 q)⟩))
theorem M_isSmall_b6 {d : Nat} {n1 : Int} {Q : MV → Wd → Prop} {w : Wd} (h : Wp (Cw d) cd_M_isSmall (2, 0, n1) Q 9 [none] [mI 1] w) : Wp (Cw d) cd_M_isSmall (2, 0, n1) Q 6 [none] [] w :=
  Wp.s (Wp.s h)
theorem M_isSmall_b8 {d : Nat} {n1 : Int} {Q : MV → Wd → Prop} {w : Wd} (h : Wp (Cw d) cd_M_isSmall (2, 0, n1) Q 9 [none] [mI 0] w) : Wp (Cw d) cd_M_isSmall (2, 0, n1) Q 8 [none] [] w :=
  Wp.s h
theorem M_isSmall_b9 {d : Nat} {n1 : Int} {Q : MV → Wd → Prop} {s0 : Int} {w : Wd} (g1 : s0 = 0 ∨ s0 = 1) (h : Q (mI s0) w) : Wp (Cw d) cd_M_isSmall (2, 0, n1) Q 9 [none] [mI s0] w :=
  Wp.s ⟨g1, h⟩
theorem M_isDigit_b0 {d : Nat} {n1 : Int} {Q : MV → Wd → Prop} {x0 : Int} {w : Wd} (h1 : x0 < 48 → Wp (Cw d) cd_M_isDigit (2, 0, n1) Q 8 [none] [] w) (h2 : ¬ (x0 < 48) → Wp (Cw d) cd_M_isDigit (2, 0, n1) Q 3 [mI x0] [] w) : Wp (Cw d) cd_M_isDigit (2, 0, n1) Q 0 [mI x0] [] w :=
  Wp.s (Wp.s (Wp.s ⟨fun q => Wp.fgd (leA.f leA.e) (h1 q), fun q => h2 q⟩))
theorem M_isDigit_b3 {d : Nat} {n1 : Int} {Q : MV → Wd → Prop} {x0 : Int} {w : Wd} (h1 : 57 < x0 → Wp (Cw d) cd_M_isDigit (2, 0, n1) Q 8 [none] [] w) (h2 : ¬ (57 < x0) → Wp (Cw d) cd_M_isDigit (2, 0, n1) Q 6 [none] [] w) : Wp (Cw d) cd_M_isDigit (2, 0, n1) Q 3 [mI x0] [] w :=
  Wp.s (Wp.s (Wp.s ⟨fun q => Wp.fgd (leA.f leA.e) (h1 q), fun q => Wp.fgd (leA.f leA.e) (h2 q)⟩))
theorem M_isDigit_b6 {d : Nat} {n1 : Int} {Q : MV → Wd → Prop} {w : Wd} (h : Wp (Cw d) cd_M_isDigit (2, 0, n1) Q 9 [none] [mI 1] w) : Wp (Cw d) cd_M_isDigit (2, 0, n1) Q 6 [none] [] w :=
  Wp.s (Wp.s h)
theorem M_isDigit_b8 {d : Nat} {n1 : Int} {Q : MV → Wd → Prop} {w : Wd} (h : Wp (Cw d) cd_M_isDigit (2, 0, n1) Q 9 [none] [mI 0] w) : Wp (Cw d) cd_M_isDigit (2, 0, n1) Q 8 [none] [] w :=
  Wp.s h
theorem M_isDigit_b9 {d : Nat} {n1 : Int} {Q : MV → Wd → Prop} {s0 : Int} {w : Wd} (g1 : s0 = 0 ∨ s0 = 1) (h : Q (mI s0) w) : Wp (Cw d) cd_M_isDigit (2, 0, n1) Q 9 [none] [mI s0] w :=
  Wp.s ⟨g1, h⟩
theorem M_isWord_144_b0 {d : Nat} {n1 : Int} {Q : MV → Wd → Prop} {x1 : Int} {w : Wd} (h1 : ¬ w 144 11 = 1 → Wp (Cw d) cd_M_isWord (2, 0, n1) Q 11 [none, none, none] [] w) (h2 : ¬ (¬ w 144 11 = 1) → Wp (Cw d) cd_M_isWord (2, 0, n1) Q 4 [mR 144, mL x1, none] [] w) : Wp (Cw d) cd_M_isWord (2, 0, n1) Q 0 [mR 144, mL x1, none] [] w :=
  Wp.s (Wp.s (Wp.s (Wp.s ⟨fun q => Wp.fgd (leA.f (leA.f (leA.f leA.e))) (h1 q), fun q => h2 q⟩)))
theorem M_isWord_144_b4 {d : Nat} {n1 : Int} {Q : MV → Wd → Prop} {x1 : Int} {w : Wd} (h1 : ¬ cmp3 (w 144 17) x1 = 0 → Wp (Cw d) cd_M_isWord (2, 0, n1) Q 11 [none, none, none] [] w) (h2 : ¬ (¬ cmp3 (w 144 17) x1 = 0) → Wp (Cw d) cd_M_isWord (2, 0, n1) Q 9 [none, none, none] [] w) : Wp (Cw d) cd_M_isWord (2, 0, n1) Q 4 [mR 144, mL x1, none] [] w :=
  Wp.s (Wp.s (Wp.s (Wp.s (Wp.s ⟨fun q => Wp.fgd (leA.f (leA.f (leA.f leA.e))) (h1 q), fun q => Wp.fgd (leA.f (leA.f (leA.f leA.e))) (h2 q)⟩))))
theorem M_isWord_144_b9 {d : Nat} {n1 : Int} {Q : MV → Wd → Prop} {w : Wd} (h : Wp (Cw d) cd_M_isWord (2, 0, n1) Q 12 [none, none, none] [mI 1] w) : Wp (Cw d) cd_M_isWord (2, 0, n1) Q 9 [none, none, none] [] w :=
  Wp.s (Wp.s h)
theorem M_isWord_144_b11 {d : Nat} {n1 : Int} {Q : MV → Wd → Prop} {w : Wd} (h : Wp (Cw d) cd_M_isWord (2, 0, n1) Q 12 [none, none, none] [mI 0] w) : Wp (Cw d) cd_M_isWord (2, 0, n1) Q 11 [none, none, none] [] w :=
  Wp.s h
theorem M_isWord_144_b12 {d : Nat} {n1 : Int} {Q : MV → Wd → Prop} {s0 : Int} {w : Wd} (g1 : s0 = 0 ∨ s0 = 1) (h : Q (mI s0) w) : Wp (Cw d) cd_M_isWord (2, 0, n1) Q 12 [none, none, none] [mI s0] w :=
  Wp.s ⟨g1, h⟩
theorem M_readWho_144_b0 {d : Nat} {n1 : Int} {Q : MV → Wd → Prop} {w : Wd} (h1 : ¬ w 147 0.toNat = 8 → Wp (Cw d) cd_M_readWho (2, 0, n1) Q 12 [mR 144, mI (w 147 0.toNat)] [] w) (h2 : ¬ (¬ w 147 0.toNat = 8) → Wp (Cw d) cd_M_readWho (2, 0, n1) Q 8 [mR 144, none] [] w) : Wp (Cw d) cd_M_readWho (2, 0, n1) Q 0 [mR 144, none] [] w :=
  Wp.s (Wp.s (Wp.s (Wp.s ⟨(by decide), Wp.s (Wp.s (Wp.s (Wp.s ⟨fun q => h1 q, fun q => Wp.fgd (leA.k (leA.f leA.e)) (h2 q)⟩)))⟩)))
theorem M_readWho_144_b8 {d : Nat} {n1 : Int} {Q : MV → Wd → Prop} {w : Wd} (h : Cw d 182 [mR 144, mI 4] w (fun r w' => Wp (Cw d) cd_M_readWho (2, 0, n1) Q 11 [none, none] [r] w')) : Wp (Cw d) cd_M_readWho (2, 0, n1) Q 8 [mR 144, none] [] w :=
  Wp.s (Wp.s (Wp.s (Cw_mono _ _ _ _ _ _ (fun r w' q => Wp.fgd (leA.f (leA.f leA.e)) q) h)))
theorem M_readWho_144_b11 {d : Nat} {n1 : Int} {Q : MV → Wd → Prop} {s0 : Int} {w : Wd} (g1 : s0 = 0 ∨ s0 = 1) (h : Q (mI s0) w) : Wp (Cw d) cd_M_readWho (2, 0, n1) Q 11 [none, none] [mI s0] w :=
  Wp.s ⟨g1, h⟩
theorem M_readWho_144_b12 {d : Nat} {n1 : Int} {Q : MV → Wd → Prop} {x1 : Int} {w : Wd} (h : Cw d 175 [mR 144] w (fun _ w' => Wp (Cw d) cd_M_readWho (2, 0, n1) Q 14 [mR 144, mI x1] [] w')) : Wp (Cw d) cd_M_readWho (2, 0, n1) Q 12 [mR 144, mI x1] [] w :=
  Wp.s (Wp.s h)
theorem M_readWho_144_b14 {d : Nat} {n1 : Int} {Q : MV → Wd → Prop} {x1 : Int} {w : Wd} (h : Cw d 183 [mR 144] w (fun r w' => Wp (Cw d) cd_M_readWho (2, 0, n1) Q 16 [mR 144, mI x1] [r] w')) : Wp (Cw d) cd_M_readWho (2, 0, n1) Q 14 [mR 144, mI x1] [] w :=
  Wp.s (Wp.s h)
theorem M_readWho_144_b16 {d : Nat} {n1 : Int} {Q : MV → Wd → Prop} {x1 s0 : Int} {w : Wd} (h1 : ¬ s0 = 0 → Wp (Cw d) cd_M_readWho (2, 0, n1) Q 19 [mR 144, mI x1] [] w) (h2 : ¬ (¬ s0 = 0) → Wp (Cw d) cd_M_readWho (2, 0, n1) Q 17 [none, none] [] w) : Wp (Cw d) cd_M_readWho (2, 0, n1) Q 16 [mR 144, mI x1] [mI s0] w :=
  Wp.s ⟨fun q => h1 q, fun q => Wp.fgd (leA.f (leA.f leA.e)) (h2 q)⟩
theorem M_readWho_144_b17 {d : Nat} {n1 : Int} {Q : MV → Wd → Prop} {w : Wd} (h : Q (mI 0) w) : Wp (Cw d) cd_M_readWho (2, 0, n1) Q 17 [none, none] [] w :=
  Wp.s (Wp.s ⟨(Or.inl rfl), h⟩)
theorem M_readWho_144_b19 {d : Nat} {n1 : Int} {Q : MV → Wd → Prop} {x1 : Int} {w : Wd} (g1 : (0 : Int) ≤ w32 (14 + x1) ∧ w32 (14 + x1) < 28) (h : Cw d 175 [mR 144] (ub w 149 (w32 (14 + x1)).toNat (w 144 17)) (fun _ w' => Wp (Cw d) cd_M_readWho (2, 0, n1) Q 29 [mR 144, mI x1] [] w')) : Wp (Cw d) cd_M_readWho (2, 0, n1) Q 19 [mR 144, mI x1] [] w :=
  Wp.s (Wp.s (Wp.s (Wp.s (Wp.s (Wp.s (Wp.s (Wp.s ⟨g1, Wp.s (Wp.s h)⟩)))))))
theorem M_readWho_144_b29 {d : Nat} {n1 : Int} {Q : MV → Wd → Prop} {x1 : Int} {w : Wd} (g1 : (0 : Int) ≤ w32 (7 + x1) ∧ w32 (7 + x1) < 333) (g2 : (0 : Int) ≤ w32 (15 + x1) ∧ w32 (15 + x1) < 333) (h : Cw d 180 [mR 144, mL 28518] (ub (ub w 147 (w32 (7 + x1)).toNat 0) 147 (w32 (15 + x1)).toNat 0) (fun r w' => Wp (Cw d) cd_M_readWho (2, 0, n1) Q 46 [mR 144, mI x1] [r] w')) : Wp (Cw d) cd_M_readWho (2, 0, n1) Q 29 [mR 144, mI x1] [] w :=
  Wp.s (Wp.s (Wp.s (Wp.s (Wp.s (Wp.s (Wp.s ⟨g1, Wp.s (Wp.s (Wp.s (Wp.s (Wp.s (Wp.s (Wp.s ⟨g2, Wp.s (Wp.s (Wp.s h))⟩))))))⟩))))))
theorem M_readWho_144_b46 {d : Nat} {n1 : Int} {Q : MV → Wd → Prop} {x1 s0 : Int} {w : Wd} (h1 : s0 = 0 → Wp (Cw d) cd_M_readWho (2, 0, n1) Q 64 [mR 144, mI x1] [] w) (h2 : ¬ (s0 = 0) → Wp (Cw d) cd_M_readWho (2, 0, n1) Q 47 [mR 144, mI x1] [] w) : Wp (Cw d) cd_M_readWho (2, 0, n1) Q 46 [mR 144, mI x1] [mI s0] w :=
  Wp.s ⟨fun q => h1 q, fun q => h2 q⟩
theorem M_readWho_144_b47 {d : Nat} {n1 : Int} {Q : MV → Wd → Prop} {x1 : Int} {w : Wd} (h : Cw d 175 [mR 144] w (fun _ w' => Wp (Cw d) cd_M_readWho (2, 0, n1) Q 49 [mR 144, mI x1] [] w')) : Wp (Cw d) cd_M_readWho (2, 0, n1) Q 47 [mR 144, mI x1] [] w :=
  Wp.s (Wp.s h)
theorem M_readWho_144_b49 {d : Nat} {n1 : Int} {Q : MV → Wd → Prop} {x1 : Int} {w : Wd} (h : Cw d 186 [mR 144, mI 0, mI 9] w (fun r w' => Wp (Cw d) cd_M_readWho (2, 0, n1) Q 53 [mR 144, mI x1] [r] w')) : Wp (Cw d) cd_M_readWho (2, 0, n1) Q 49 [mR 144, mI x1] [] w :=
  Wp.s (Wp.s (Wp.s (Wp.s h)))
theorem M_readWho_144_b53 {d : Nat} {n1 : Int} {Q : MV → Wd → Prop} {x1 s0 : Int} {w : Wd} (h1 : ¬ s0 = 0 → Wp (Cw d) cd_M_readWho (2, 0, n1) Q 56 [mR 144, mI x1] [] w) (h2 : ¬ (¬ s0 = 0) → Wp (Cw d) cd_M_readWho (2, 0, n1) Q 54 [none, none] [] w) : Wp (Cw d) cd_M_readWho (2, 0, n1) Q 53 [mR 144, mI x1] [mI s0] w :=
  Wp.s ⟨fun q => h1 q, fun q => Wp.fgd (leA.f (leA.f leA.e)) (h2 q)⟩
theorem M_readWho_144_b54 {d : Nat} {n1 : Int} {Q : MV → Wd → Prop} {w : Wd} (h : Q (mI 0) w) : Wp (Cw d) cd_M_readWho (2, 0, n1) Q 54 [none, none] [] w :=
  Wp.s (Wp.s ⟨(Or.inl rfl), h⟩)
theorem M_readWho_144_b56 {d : Nat} {n1 : Int} {Q : MV → Wd → Prop} {x1 : Int} {w : Wd} (g1 : (0 : Int) ≤ w32 (7 + x1) ∧ w32 (7 + x1) < 333) (h : Wp (Cw d) cd_M_readWho (2, 0, n1) Q 64 [mR 144, mI x1] [] (ub w 147 (w32 (7 + x1)).toNat (w 144 18))) : Wp (Cw d) cd_M_readWho (2, 0, n1) Q 56 [mR 144, mI x1] [] w :=
  Wp.s (Wp.s (Wp.s (Wp.s (Wp.s (Wp.s (Wp.s (Wp.s ⟨g1, h⟩)))))))
theorem M_readWho_144_b64 {d : Nat} {n1 : Int} {Q : MV → Wd → Prop} {x1 : Int} {w : Wd} (h : Cw d 180 [mR 144, mL 1634954099] w (fun r w' => Wp (Cw d) cd_M_readWho (2, 0, n1) Q 67 [mR 144, mI x1] [r] w')) : Wp (Cw d) cd_M_readWho (2, 0, n1) Q 64 [mR 144, mI x1] [] w :=
  Wp.s (Wp.s (Wp.s h))
theorem M_readWho_144_b67 {d : Nat} {n1 : Int} {Q : MV → Wd → Prop} {x1 s0 : Int} {w : Wd} (h1 : s0 = 0 → Wp (Cw d) cd_M_readWho (2, 0, n1) Q 85 [mR 144, none] [] w) (h2 : ¬ (s0 = 0) → Wp (Cw d) cd_M_readWho (2, 0, n1) Q 68 [mR 144, mI x1] [] w) : Wp (Cw d) cd_M_readWho (2, 0, n1) Q 67 [mR 144, mI x1] [mI s0] w :=
  Wp.s ⟨fun q => Wp.fgd (leA.k (leA.f leA.e)) (h1 q), fun q => h2 q⟩
theorem M_readWho_144_b68 {d : Nat} {n1 : Int} {Q : MV → Wd → Prop} {x1 : Int} {w : Wd} (h : Cw d 175 [mR 144] w (fun _ w' => Wp (Cw d) cd_M_readWho (2, 0, n1) Q 70 [mR 144, mI x1] [] w')) : Wp (Cw d) cd_M_readWho (2, 0, n1) Q 68 [mR 144, mI x1] [] w :=
  Wp.s (Wp.s h)
theorem M_readWho_144_b70 {d : Nat} {n1 : Int} {Q : MV → Wd → Prop} {x1 : Int} {w : Wd} (h : Cw d 186 [mR 144, mI 0, mI 99] w (fun r w' => Wp (Cw d) cd_M_readWho (2, 0, n1) Q 74 [mR 144, mI x1] [r] w')) : Wp (Cw d) cd_M_readWho (2, 0, n1) Q 70 [mR 144, mI x1] [] w :=
  Wp.s (Wp.s (Wp.s (Wp.s h)))
theorem M_readWho_144_b74 {d : Nat} {n1 : Int} {Q : MV → Wd → Prop} {x1 s0 : Int} {w : Wd} (h1 : ¬ s0 = 0 → Wp (Cw d) cd_M_readWho (2, 0, n1) Q 77 [mR 144, mI x1] [] w) (h2 : ¬ (¬ s0 = 0) → Wp (Cw d) cd_M_readWho (2, 0, n1) Q 75 [none, none] [] w) : Wp (Cw d) cd_M_readWho (2, 0, n1) Q 74 [mR 144, mI x1] [mI s0] w :=
  Wp.s ⟨fun q => h1 q, fun q => Wp.fgd (leA.f (leA.f leA.e)) (h2 q)⟩
theorem M_readWho_144_b75 {d : Nat} {n1 : Int} {Q : MV → Wd → Prop} {w : Wd} (h : Q (mI 0) w) : Wp (Cw d) cd_M_readWho (2, 0, n1) Q 75 [none, none] [] w :=
  Wp.s (Wp.s ⟨(Or.inl rfl), h⟩)
theorem M_readWho_144_b77 {d : Nat} {n1 : Int} {Q : MV → Wd → Prop} {x1 : Int} {w : Wd} (g1 : (0 : Int) ≤ w32 (15 + x1) ∧ w32 (15 + x1) < 333) (h : Wp (Cw d) cd_M_readWho (2, 0, n1) Q 85 [mR 144, none] [] (ub w 147 (w32 (15 + x1)).toNat (w 144 18))) : Wp (Cw d) cd_M_readWho (2, 0, n1) Q 77 [mR 144, mI x1] [] w :=
  Wp.s (Wp.s (Wp.s (Wp.s (Wp.s (Wp.s (Wp.s (Wp.s ⟨g1, Wp.fgd (leA.k (leA.f leA.e)) h⟩)))))))
theorem M_readWho_144_b85 {d : Nat} {n1 : Int} {Q : MV → Wd → Prop} {w : Wd} (h : Q (mI 1) (ub w 147 0.toNat (w32 ((w 147 0.toNat) + 1)))) : Wp (Cw d) cd_M_readWho (2, 0, n1) Q 85 [mR 144, none] [] w :=
  Wp.s (Wp.s (Wp.s (Wp.s (Wp.s ⟨(by decide), Wp.s (Wp.s (Wp.s ⟨(by decide), Wp.s (Wp.s ⟨(Or.inr rfl), h⟩)⟩))⟩))))
theorem M_readSort_144_b0 {d : Nat} {n1 : Int} {Q : MV → Wd → Prop} {w : Wd} (h1 : ¬ w 147 1.toNat = 6 → Wp (Cw d) cd_M_readSort (2, 0, n1) Q 10 [mR 144] [] w) (h2 : ¬ (¬ w 147 1.toNat = 6) → Wp (Cw d) cd_M_readSort (2, 0, n1) Q 6 [mR 144] [] w) : Wp (Cw d) cd_M_readSort (2, 0, n1) Q 0 [mR 144] [] w :=
  Wp.s (Wp.s (Wp.s (Wp.s ⟨(by decide), Wp.s (Wp.s ⟨fun q => h1 q, fun q => h2 q⟩)⟩)))
theorem M_readSort_144_b6 {d : Nat} {n1 : Int} {Q : MV → Wd → Prop} {w : Wd} (h : Cw d 182 [mR 144, mI 4] w (fun r w' => Wp (Cw d) cd_M_readSort (2, 0, n1) Q 9 [none] [r] w')) : Wp (Cw d) cd_M_readSort (2, 0, n1) Q 6 [mR 144] [] w :=
  Wp.s (Wp.s (Wp.s (Cw_mono _ _ _ _ _ _ (fun r w' q => Wp.fgd (leA.f leA.e) q) h)))
theorem M_readSort_144_b9 {d : Nat} {n1 : Int} {Q : MV → Wd → Prop} {s0 : Int} {w : Wd} (g1 : s0 = 0 ∨ s0 = 1) (h : Q (mI s0) w) : Wp (Cw d) cd_M_readSort (2, 0, n1) Q 9 [none] [mI s0] w :=
  Wp.s ⟨g1, h⟩
theorem M_readSort_144_b10 {d : Nat} {n1 : Int} {Q : MV → Wd → Prop} {w : Wd} (h : Cw d 175 [mR 144] w (fun _ w' => Wp (Cw d) cd_M_readSort (2, 0, n1) Q 12 [mR 144] [] w')) : Wp (Cw d) cd_M_readSort (2, 0, n1) Q 10 [mR 144] [] w :=
  Wp.s (Wp.s h)
theorem M_readSort_144_b12 {d : Nat} {n1 : Int} {Q : MV → Wd → Prop} {w : Wd} (h : Cw d 183 [mR 144] w (fun r w' => Wp (Cw d) cd_M_readSort (2, 0, n1) Q 14 [mR 144] [r] w')) : Wp (Cw d) cd_M_readSort (2, 0, n1) Q 12 [mR 144] [] w :=
  Wp.s (Wp.s h)
theorem M_readSort_144_b14 {d : Nat} {n1 : Int} {Q : MV → Wd → Prop} {s0 : Int} {w : Wd} (h1 : ¬ s0 = 0 → Wp (Cw d) cd_M_readSort (2, 0, n1) Q 17 [mR 144] [] w) (h2 : ¬ (¬ s0 = 0) → Wp (Cw d) cd_M_readSort (2, 0, n1) Q 15 [none] [] w) : Wp (Cw d) cd_M_readSort (2, 0, n1) Q 14 [mR 144] [mI s0] w :=
  Wp.s ⟨fun q => h1 q, fun q => Wp.fgd (leA.f leA.e) (h2 q)⟩
theorem M_readSort_144_b15 {d : Nat} {n1 : Int} {Q : MV → Wd → Prop} {w : Wd} (h : Q (mI 0) w) : Wp (Cw d) cd_M_readSort (2, 0, n1) Q 15 [none] [] w :=
  Wp.s (Wp.s ⟨(Or.inl rfl), h⟩)
theorem M_readSort_144_b17 {d : Nat} {n1 : Int} {Q : MV → Wd → Prop} {w : Wd} (g2 : (0 : Int) ≤ w32 (22 + (w 147 1.toNat)) ∧ w32 (22 + (w 147 1.toNat)) < 28) (h : Cw d 175 [mR 144] (ub w 149 (w32 (22 + (w 147 1.toNat))).toNat (w 144 17)) (fun _ w' => Wp (Cw d) cd_M_readSort (2, 0, n1) Q 30 [mR 144] [] w')) : Wp (Cw d) cd_M_readSort (2, 0, n1) Q 17 [mR 144] [] w :=
  Wp.s (Wp.s (Wp.s (Wp.s (Wp.s (Wp.s (Wp.s ⟨(by decide), Wp.s (Wp.s (Wp.s (Wp.s ⟨g2, Wp.s (Wp.s h)⟩)))⟩))))))

theorem M_mend_144_b28 {d : Nat} {n1 : Int} {Q : MV → Wd → Prop} {x1 x2 x3 x4 : Int} {w : Wd} (h1 : x3 = x4 → Wp (Cw d) cd_M_mend (1, 0, n1) Q 97 [mR 144, mI x1, mI x2, mI x3, mI x4, none] [] w) (h2 : ¬ (x3 = x4) → Wp (Cw d) cd_M_mend (1, 0, n1) Q 31 [mR 144, mI x1, mI x2, mI x3, mI x4, none] [] w) : Wp (Cw d) cd_M_mend (1, 0, n1) Q 28 [mR 144, mI x1, mI x2, mI x3, mI x4, none] [] w :=
  Wp.s (Wp.s (Wp.s ⟨fun q => h1 q, fun q => h2 q⟩))
theorem M_mend_144_b31 {d : Nat} {n1 : Int} {Q : MV → Wd → Prop} {x1 x2 x3 x4 : Int} {w : Wd} (g1 : (0 : Int) ≤ w32 ((w32 (269 + (w32 (8 * x3)))) + x4) ∧ w32 ((w32 (269 + (w32 (8 * x3)))) + x4) < 645) (h1 : ¬ w 146 (w32 ((w32 (269 + (w32 (8 * x3)))) + x4)).toNat = 1 → Wp (Cw d) cd_M_mend (1, 0, n1) Q 44 [mR 144, mI x1, mI x2, mI x3, mI x4, none] [] w) (h2 : ¬ (¬ w 146 (w32 ((w32 (269 + (w32 (8 * x3)))) + x4)).toNat = 1) → Wp (Cw d) cd_M_mend (1, 0, n1) Q 43 [mR 144, mI x1, mI x2, mI x3, mI x4, none] [] w) : Wp (Cw d) cd_M_mend (1, 0, n1) Q 31 [mR 144, mI x1, mI x2, mI x3, mI x4, none] [] w :=
  Wp.s (Wp.s (Wp.s (Wp.s (Wp.s (Wp.s (Wp.s (Wp.s (Wp.s (Wp.s ⟨g1, Wp.s (Wp.s ⟨fun q => h1 q, fun q => h2 q⟩)⟩)))))))))
theorem M_mend_144_b43 {d : Nat} {n1 : Int} {Q : MV → Wd → Prop} {x1 x2 x3 x4 : Int} {w : Wd} (h : Wp (Cw d) cd_M_mend (1, 0, n1) Q 97 [mR 144, mI x1, mI x2, mI x3, mI x4, none] [] w) : Wp (Cw d) cd_M_mend (1, 0, n1) Q 43 [mR 144, mI x1, mI x2, mI x3, mI x4, none] [] w :=
  Wp.s h
theorem M_mend_144_b44 {d : Nat} {n1 : Int} {Q : MV → Wd → Prop} {x1 x2 x3 x4 : Int} {w : Wd} (g1 : (0 : Int) ≤ w32 ((w32 (8 * x3)) + x4) ∧ w32 ((w32 (8 * x3)) + x4) < 64) (g2 : (0 : Int) ≤ w32 ((w32 (8 * x3)) + x4) ∧ w32 ((w32 (8 * x3)) + x4) < 64) (g3 : (0 : Int) ≤ w32 ((w32 (8 * x3)) + x4) ∧ w32 ((w32 (8 * x3)) + x4) < 64) (h : Cw d 209 [mR 144] (ub (ub (ub w 151 (w32 ((w32 (8 * x3)) + x4)).toNat 1) 152 (w32 ((w32 (8 * x3)) + x4)).toNat 0) 153 (w32 ((w32 (8 * x3)) + x4)).toNat 1) (fun _ w' => Wp (Cw d) cd_M_mend (1, 0, n1) Q 73 [mR 144, mI x1, mI x2, mI x3, mI x4, none] [] w')) : Wp (Cw d) cd_M_mend (1, 0, n1) Q 44 [mR 144, mI x1, mI x2, mI x3, mI x4, none] [] w :=
  Wp.s (Wp.s (Wp.s (Wp.s (Wp.s (Wp.s (Wp.s (Wp.s (Wp.s ⟨g1, Wp.s (Wp.s (Wp.s (Wp.s (Wp.s (Wp.s (Wp.s (Wp.s (Wp.s ⟨g2, Wp.s (Wp.s (Wp.s (Wp.s (Wp.s (Wp.s (Wp.s (Wp.s (Wp.s ⟨g3, Wp.s (Wp.s h)⟩))))))))⟩))))))))⟩))))))))
theorem M_mend_144_b73 {d : Nat} {n1 : Int} {Q : MV → Wd → Prop} {x1 x2 x3 x4 : Int} {w : Wd} (h : Cw d 223 [mR 144] w (fun r w' => Wp (Cw d) cd_M_mend (1, 0, n1) Q 75 [mR 144, mI x1, mI x2, mI x3, mI x4, none] [r] w')) : Wp (Cw d) cd_M_mend (1, 0, n1) Q 73 [mR 144, mI x1, mI x2, mI x3, mI x4, none] [] w :=
  Wp.s (Wp.s h)
theorem M_mend_144_b75 {d : Nat} {n1 : Int} {Q : MV → Wd → Prop} {x1 x2 x3 x4 s0 : Int} {w : Wd} (g1 : (0 : Int) ≤ w32 ((w32 (8 * x3)) + x4) ∧ w32 ((w32 (8 * x3)) + x4) < 64) (h1 : x1 < s0 → Wp (Cw d) cd_M_mend (1, 0, n1) Q 89 [mR 144, none, none, mI x3, mI x4, mI s0] [] (ub w 151 (w32 ((w32 (8 * x3)) + x4)).toNat 0)) (h2 : ¬ (x1 < s0) → Wp (Cw d) cd_M_mend (1, 0, n1) Q 88 [mR 144, mI x1, mI x2, mI x3, mI x4, none] [] (ub w 151 (w32 ((w32 (8 * x3)) + x4)).toNat 0)) : Wp (Cw d) cd_M_mend (1, 0, n1) Q 75 [mR 144, mI x1, mI x2, mI x3, mI x4, none] [mI s0] w :=
  Wp.s (Wp.s (Wp.s (Wp.s (Wp.s (Wp.s (Wp.s (Wp.s (Wp.s (Wp.s ⟨g1, Wp.s (Wp.s (Wp.s ⟨fun q => Wp.fgd (leA.k (leA.f (leA.f (leA.k (leA.k (leA.k leA.e)))))) (h1 q), fun q => Wp.fgd (leA.k (leA.k (leA.k (leA.k (leA.k (leA.f leA.e)))))) (h2 q)⟩))⟩)))))))))
theorem M_mend_144_b88 {d : Nat} {n1 : Int} {Q : MV → Wd → Prop} {x1 x2 x3 x4 : Int} {w : Wd} (h : Wp (Cw d) cd_M_mend (1, 0, n1) Q 97 [mR 144, mI x1, mI x2, mI x3, mI x4, none] [] w) : Wp (Cw d) cd_M_mend (1, 0, n1) Q 88 [mR 144, mI x1, mI x2, mI x3, mI x4, none] [] w :=
  Wp.s h
theorem M_mend_144_b89 {d : Nat} {n1 : Int} {Q : MV → Wd → Prop} {x3 x4 x5 : Int} {w : Wd} (h : Wp (Cw d) cd_M_mend (1, 0, n1) Q 97 [mR 144, mI x5, mI (w32 ((w32 (10 * x3)) + x4)), mI x3, mI x4, none] [] w) : Wp (Cw d) cd_M_mend (1, 0, n1) Q 89 [mR 144, none, none, mI x3, mI x4, mI x5] [] w :=
  Wp.s (Wp.s (Wp.s (Wp.s (Wp.s (Wp.s (Wp.s (Wp.s (Wp.fgd (leA.k (leA.k (leA.k (leA.k (leA.k (leA.f leA.e)))))) h))))))))
theorem M_mend_144_b97 {d : Nat} {n1 : Int} {Q : MV → Wd → Prop} {x1 x2 x3 x4 : Int} {w : Wd} (h : Wp (Cw d) cd_M_mend (1, 0, n1) Q 22 [mR 144, mI x1, mI x2, mI x3, mI (w32 (x4 + 1)), none] [] w) : Wp (Cw d) cd_M_mend (1, 0, n1) Q 97 [mR 144, mI x1, mI x2, mI x3, mI x4, none] [] w :=
  Wp.s (Wp.s h)
theorem M_mend_144_b99 {d : Nat} {n1 : Int} {Q : MV → Wd → Prop} {x1 x2 x3 : Int} {w : Wd} (h : Wp (Cw d) cd_M_mend (1, 0, n1) Q 14 [mR 144, mI x1, mI x2, mI (w32 (x3 + 1)), none, none] [] w) : Wp (Cw d) cd_M_mend (1, 0, n1) Q 99 [mR 144, mI x1, mI x2, mI x3, none, none] [] w :=
  Wp.s (Wp.s h)
theorem M_mend_144_b101 {d : Nat} {n1 : Int} {Q : MV → Wd → Prop} {x2 : Int} {w : Wd} (h : Q (mI x2) w) : Wp (Cw d) cd_M_mend (1, 0, n1) Q 101 [none, none, mI x2, none, none, none] [] w :=
  Wp.s (Wp.s h)
theorem X_live_0_b0 {d : Nat} {n1 : Int} {Q : MV → Wd → Prop} {w : Wd} (h : Cw d 117 [mR 0] w (fun r w' => Wp (Cw d) cd_X_live (1, 0, n1) Q 2 [mR 0, none, none, none] [r] w')) : Wp (Cw d) cd_X_live (1, 0, n1) Q 0 [mR 0, none, none, none] [] w :=
  Wp.s (Wp.s h)
theorem X_live_0_b2 {d : Nat} {n1 : Int} {Q : MV → Wd → Prop} {w : Wd} (h : Wp (Cw d) cd_X_live (1, 0, n1) Q 5 [mR 0, mR 112, mI 1, none] [] w) : Wp (Cw d) cd_X_live (1, 0, n1) Q 2 [mR 0, none, none, none] [mR 112] w :=
  Wp.s (Wp.s (Wp.s h))
theorem X_live_0_b5 {d : Nat} {n1 : Int} {Q : MV → Wd → Prop} {x2 : Int} {w : Wd} (h1 : w 4 0 < x2 → Wp (Cw d) cd_X_live (1, 0, n1) Q 34 [none, none, none, none] [] w) (h2 : ¬ (w 4 0 < x2) → Wp (Cw d) cd_X_live (1, 0, n1) Q 10 [mR 0, mR 112, mI x2, none] [] w) : Wp (Cw d) cd_X_live (1, 0, n1) Q 5 [mR 0, mR 112, mI x2, none] [] w :=
  Wp.s (Wp.s (Wp.s (Wp.s (Wp.s ⟨fun q => Wp.fgd (leA.f (leA.f (leA.f (leA.f leA.e)))) (h1 q), fun q => h2 q⟩))))
theorem X_live_0_b10 {d : Nat} {n1 : Int} {Q : MV → Wd → Prop} {x2 : Int} {w : Wd} (h : Wp (Cw d) cd_X_live (1, 0, n1) Q 12 [mR 0, mR 112, mI x2, mI 1] [] w) : Wp (Cw d) cd_X_live (1, 0, n1) Q 10 [mR 0, mR 112, mI x2, none] [] w :=
  Wp.s (Wp.s h)
theorem X_live_0_b12 {d : Nat} {n1 : Int} {Q : MV → Wd → Prop} {x2 x3 : Int} {w : Wd} (h1 : ishl 1 (w 4 0) ≤ x3 → Wp (Cw d) cd_X_live (1, 0, n1) Q 32 [mR 0, mR 112, mI x2, none] [] w) (h2 : ¬ (ishl 1 (w 4 0) ≤ x3) → Wp (Cw d) cd_X_live (1, 0, n1) Q 19 [mR 0, mR 112, mI x2, mI x3] [] w) : Wp (Cw d) cd_X_live (1, 0, n1) Q 12 [mR 0, mR 112, mI x2, mI x3] [] w :=
  Wp.s (Wp.s (Wp.s (Wp.s (Wp.s (Wp.s (Wp.s ⟨fun q => Wp.fgd (leA.k (leA.k (leA.k (leA.f leA.e)))) (h1 q), fun q => h2 q⟩))))))
theorem X_live_0_b19 {d : Nat} {n1 : Int} {Q : MV → Wd → Prop} {x2 x3 : Int} {w : Wd} (h : Cw d 278 [mI x3] w (fun r w' => Wp (Cw d) cd_X_live (1, 0, n1) Q 21 [mR 0, mR 112, mI x2, mI x3] [r] w')) : Wp (Cw d) cd_X_live (1, 0, n1) Q 19 [mR 0, mR 112, mI x2, mI x3] [] w :=
  Wp.s (Wp.s h)
theorem X_live_0_b21 {d : Nat} {n1 : Int} {Q : MV → Wd → Prop} {x2 x3 s0 : Int} {w : Wd} (h1 : ¬ s0 = x2 → Wp (Cw d) cd_X_live (1, 0, n1) Q 30 [mR 0, mR 112, mI x2, mI x3] [] w) (h2 : ¬ (¬ s0 = x2) → Wp (Cw d) cd_X_live (1, 0, n1) Q 23 [mR 0, mR 112, mI x2, mI x3] [] w) : Wp (Cw d) cd_X_live (1, 0, n1) Q 21 [mR 0, mR 112, mI x2, mI x3] [mI s0] w :=
  Wp.s (Wp.s ⟨fun q => h1 q, fun q => h2 q⟩)
theorem X_live_0_b23 {d : Nat} {n1 : Int} {Q : MV → Wd → Prop} {x2 x3 : Int} {w : Wd} (h : Cw d 152 [mR 0, mR 112, mI x3] w (fun r w' => Wp (Cw d) cd_X_live (1, 0, n1) Q 27 [mR 0, mR 112, mI x2, mI x3] [r] w')) : Wp (Cw d) cd_X_live (1, 0, n1) Q 23 [mR 0, mR 112, mI x2, mI x3] [] w :=
  Wp.s (Wp.s (Wp.s (Wp.s h)))
theorem X_live_0_b27 {d : Nat} {n1 : Int} {Q : MV → Wd → Prop} {x2 x3 s0 : Int} {w : Wd} (h1 : s0 = 0 → Wp (Cw d) cd_X_live (1, 0, n1) Q 30 [mR 0, mR 112, mI x2, mI x3] [] w) (h2 : ¬ (s0 = 0) → Wp (Cw d) cd_X_live (1, 0, n1) Q 28 [none, none, none, mI x3] [] w) : Wp (Cw d) cd_X_live (1, 0, n1) Q 27 [mR 0, mR 112, mI x2, mI x3] [mI s0] w :=
  Wp.s ⟨fun q => h1 q, fun q => Wp.fgd (leA.f (leA.f (leA.f (leA.k leA.e)))) (h2 q)⟩
theorem X_live_0_b28 {d : Nat} {n1 : Int} {Q : MV → Wd → Prop} {x3 : Int} {w : Wd} (h : Q (mI x3) w) : Wp (Cw d) cd_X_live (1, 0, n1) Q 28 [none, none, none, mI x3] [] w :=
  Wp.s (Wp.s h)
theorem X_live_0_b30 {d : Nat} {n1 : Int} {Q : MV → Wd → Prop} {x2 x3 : Int} {w : Wd} (h : Wp (Cw d) cd_X_live (1, 0, n1) Q 12 [mR 0, mR 112, mI x2, mI (w32 (x3 + 1))] [] w) : Wp (Cw d) cd_X_live (1, 0, n1) Q 30 [mR 0, mR 112, mI x2, mI x3] [] w :=
  Wp.s (Wp.s h)
theorem X_live_0_b32 {d : Nat} {n1 : Int} {Q : MV → Wd → Prop} {x2 : Int} {w : Wd} (h : Wp (Cw d) cd_X_live (1, 0, n1) Q 5 [mR 0, mR 112, mI (w32 (x2 + 1)), none] [] w) : Wp (Cw d) cd_X_live (1, 0, n1) Q 32 [mR 0, mR 112, mI x2, none] [] w :=
  Wp.s (Wp.s h)
theorem X_live_0_b34 {d : Nat} {n1 : Int} {Q : MV → Wd → Prop} {w : Wd} (h : Q (mI 0) w) : Wp (Cw d) cd_X_live (1, 0, n1) Q 34 [none, none, none, none] [] w :=
  Wp.s (Wp.s h)
theorem M_live_144_b0 {d : Nat} {n1 : Int} {Q : MV → Wd → Prop} {w : Wd} (h : Wp (Cw d) cd_M_live (1, 0, n1) Q 7 [mR 144, mI 0, mI 1, none, none] [] (ub w 144 0 0)) : Wp (Cw d) cd_M_live (1, 0, n1) Q 0 [mR 144, none, none, none, none] [] w :=
  Wp.s (Wp.s (Wp.s (Wp.s (Wp.s (Wp.s (Wp.s h))))))
theorem M_live_144_b7 {d : Nat} {n1 : Int} {Q : MV → Wd → Prop} {x1 x2 : Int} {w : Wd} (h1 : ishl 1 (w 146 0.toNat) ≤ x2 → Wp (Cw d) cd_M_live (1, 0, n1) Q 75 [none, mI x1, none, none, none] [] w) (h2 : ¬ (ishl 1 (w 146 0.toNat) ≤ x2) → Wp (Cw d) cd_M_live (1, 0, n1) Q 15 [mR 144, mI x1, mI x2, none, none] [] w) : Wp (Cw d) cd_M_live (1, 0, n1) Q 7 [mR 144, mI x1, mI x2, none, none] [] w :=
  Wp.s (Wp.s (Wp.s (Wp.s (Wp.s (Wp.s ⟨(by decide), Wp.s (Wp.s ⟨fun q => Wp.fgd (leA.f (leA.k (leA.f (leA.f (leA.f leA.e))))) (h1 q), fun q => h2 q⟩)⟩)))))
theorem M_live_144_b15 {d : Nat} {n1 : Int} {Q : MV → Wd → Prop} {x1 x2 : Int} {w : Wd} (h1 : x1 ≤ 0 → Wp (Cw d) cd_M_live (1, 0, n1) Q 23 [mR 144, mI x1, mI x2, none, none] [] w) (h2 : ¬ (x1 ≤ 0) → Wp (Cw d) cd_M_live (1, 0, n1) Q 17 [mR 144, mI x1, mI x2, none, none] [] w) : Wp (Cw d) cd_M_live (1, 0, n1) Q 15 [mR 144, mI x1, mI x2, none, none] [] w :=
  Wp.s (Wp.s ⟨fun q => h1 q, fun q => h2 q⟩)
theorem M_live_144_b17 {d : Nat} {n1 : Int} {Q : MV → Wd → Prop} {x1 x2 : Int} {w : Wd} (h : Cw d 225 [mI x2] w (fun r w' => Wp (Cw d) cd_M_live (1, 0, n1) Q 19 [mR 144, mI x1, mI x2, none, none] [r] w')) : Wp (Cw d) cd_M_live (1, 0, n1) Q 17 [mR 144, mI x1, mI x2, none, none] [] w :=
  Wp.s (Wp.s h)
theorem M_live_144_b19 {d : Nat} {n1 : Int} {Q : MV → Wd → Prop} {x1 x2 s0 : Int} {w : Wd} (h : Cw d 225 [mI x1] w (fun r w' => Wp (Cw d) cd_M_live (1, 0, n1) Q 21 [mR 144, mI x1, mI x2, none, none] [r, mI s0] w')) : Wp (Cw d) cd_M_live (1, 0, n1) Q 19 [mR 144, mI x1, mI x2, none, none] [mI s0] w :=
  Wp.s (Wp.s h)
theorem M_live_144_b21 {d : Nat} {n1 : Int} {Q : MV → Wd → Prop} {x1 x2 s0 s1 : Int} {w : Wd} (h1 : s1 < s0 → Wp (Cw d) cd_M_live (1, 0, n1) Q 23 [mR 144, mI x1, mI x2, none, none] [] w) (h2 : ¬ (s1 < s0) → Wp (Cw d) cd_M_live (1, 0, n1) Q 22 [mR 144, mI x1, mI x2, none, none] [] w) : Wp (Cw d) cd_M_live (1, 0, n1) Q 21 [mR 144, mI x1, mI x2, none, none] [mI s0, mI s1] w :=
  Wp.s ⟨fun q => h1 q, fun q => h2 q⟩
theorem M_live_144_b22 {d : Nat} {n1 : Int} {Q : MV → Wd → Prop} {x1 x2 : Int} {w : Wd} (h : Wp (Cw d) cd_M_live (1, 0, n1) Q 73 [mR 144, mI x1, mI x2, none, none] [] w) : Wp (Cw d) cd_M_live (1, 0, n1) Q 22 [mR 144, mI x1, mI x2, none, none] [] w :=
  Wp.s h
theorem M_live_144_b23 {d : Nat} {n1 : Int} {Q : MV → Wd → Prop} {x1 x2 : Int} {w : Wd} (h : Wp (Cw d) cd_M_live (1, 0, n1) Q 27 [mR 144, mI x1, mI x2, mI 0, mI 0] [] w) : Wp (Cw d) cd_M_live (1, 0, n1) Q 23 [mR 144, mI x1, mI x2, none, none] [] w :=
  Wp.s (Wp.s (Wp.s (Wp.s h)))
theorem M_live_144_b27 {d : Nat} {n1 : Int} {Q : MV → Wd → Prop} {x1 x2 x3 x4 : Int} {w : Wd} (h1 : w 146 3.toNat ≤ x4 → Wp (Cw d) cd_M_live (1, 0, n1) Q 54 [mR 144, mI x1, mI x2, mI x3, none] [] w) (h2 : ¬ (w 146 3.toNat ≤ x4) → Wp (Cw d) cd_M_live (1, 0, n1) Q 33 [mR 144, mI x1, mI x2, mI x3, mI x4] [] w) : Wp (Cw d) cd_M_live (1, 0, n1) Q 27 [mR 144, mI x1, mI x2, mI x3, mI x4] [] w :=
  Wp.s (Wp.s (Wp.s (Wp.s (Wp.s ⟨(by decide), Wp.s ⟨fun q => Wp.fgd (leA.k (leA.k (leA.k (leA.k (leA.f leA.e))))) (h1 q), fun q => h2 q⟩⟩))))
theorem M_live_144_b33 {d : Nat} {n1 : Int} {Q : MV → Wd → Prop} {x1 x2 x3 x4 : Int} {w : Wd} (g1 : (0 : Int) ≤ w32 (109 + (w32 (4 * x4))) ∧ w32 (109 + (w32 (4 * x4))) < 645) (h : Cw d 211 [mI x2, mI (w 146 (w32 (109 + (w32 (4 * x4)))).toNat)] w (fun r w' => Wp (Cw d) cd_M_live (1, 0, n1) Q 44 [mR 144, mI x1, mI x2, none, mI x4] [r, mI x3] w')) : Wp (Cw d) cd_M_live (1, 0, n1) Q 33 [mR 144, mI x1, mI x2, mI x3, mI x4] [] w :=
  Wp.s (Wp.s (Wp.s (Wp.s (Wp.s (Wp.s (Wp.s (Wp.s (Wp.s (Wp.s ⟨g1, Wp.s (Cw_mono _ _ _ _ _ _ (fun r w' q => Wp.fgd (leA.k (leA.k (leA.k (leA.f (leA.k leA.e))))) q) h)⟩)))))))))
theorem M_live_144_b44 {d : Nat} {n1 : Int} {Q : MV → Wd → Prop} {x1 x2 x4 s0 s1 : Int} {w : Wd} (h1 : s0 = 0 → Wp (Cw d) cd_M_live (1, 0, n1) Q 49 [mR 144, mI x1, mI x2, none, mI x4] [mI s1] w) (h2 : ¬ (s0 = 0) → Wp (Cw d) cd_M_live (1, 0, n1) Q 45 [mR 144, mI x1, mI x2, none, mI x4] [mI s1] w) : Wp (Cw d) cd_M_live (1, 0, n1) Q 44 [mR 144, mI x1, mI x2, none, mI x4] [mI s0, mI s1] w :=
  Wp.s ⟨fun q => h1 q, fun q => h2 q⟩
theorem M_live_144_b45 {d : Nat} {n1 : Int} {Q : MV → Wd → Prop} {x1 x2 x4 s0 : Int} {w : Wd} (h : Wp (Cw d) cd_M_live (1, 0, n1) Q 50 [mR 144, mI x1, mI x2, none, mI x4] [mI (ishl 1 x4), mI s0] w) : Wp (Cw d) cd_M_live (1, 0, n1) Q 45 [mR 144, mI x1, mI x2, none, mI x4] [mI s0] w :=
  Wp.s (Wp.s (Wp.s (Wp.s h)))
theorem M_live_144_b49 {d : Nat} {n1 : Int} {Q : MV → Wd → Prop} {x1 x2 x4 s0 : Int} {w : Wd} (h : Wp (Cw d) cd_M_live (1, 0, n1) Q 50 [mR 144, mI x1, mI x2, none, mI x4] [mI 0, mI s0] w) : Wp (Cw d) cd_M_live (1, 0, n1) Q 49 [mR 144, mI x1, mI x2, none, mI x4] [mI s0] w :=
  Wp.s h
theorem M_live_144_b50 {d : Nat} {n1 : Int} {Q : MV → Wd → Prop} {x1 x2 x4 s0 s1 : Int} {w : Wd} (h : Wp (Cw d) cd_M_live (1, 0, n1) Q 27 [mR 144, mI x1, mI x2, mI (ior s1 s0), mI (w32 (x4 + 1))] [] w) : Wp (Cw d) cd_M_live (1, 0, n1) Q 50 [mR 144, mI x1, mI x2, none, mI x4] [mI s0, mI s1] w :=
  Wp.s (Wp.s (Wp.s (Wp.s h)))
theorem M_live_144_b54 {d : Nat} {n1 : Int} {Q : MV → Wd → Prop} {x1 x2 x3 : Int} {w : Wd} (h1 : ¬ x3 = 0 → Wp (Cw d) cd_M_live (1, 0, n1) Q 57 [mR 144, mI x1, mI x2, mI x3, none] [] w) (h2 : ¬ (¬ x3 = 0) → Wp (Cw d) cd_M_live (1, 0, n1) Q 56 [mR 144, mI x1, mI x2, none, none] [] w) : Wp (Cw d) cd_M_live (1, 0, n1) Q 54 [mR 144, mI x1, mI x2, mI x3, none] [] w :=
  Wp.s (Wp.s ⟨fun q => h1 q, fun q => Wp.fgd (leA.k (leA.k (leA.k (leA.f (leA.f leA.e))))) (h2 q)⟩)
theorem M_live_144_b56 {d : Nat} {n1 : Int} {Q : MV → Wd → Prop} {x1 x2 : Int} {w : Wd} (h : Wp (Cw d) cd_M_live (1, 0, n1) Q 73 [mR 144, mI x1, mI x2, none, none] [] w) : Wp (Cw d) cd_M_live (1, 0, n1) Q 56 [mR 144, mI x1, mI x2, none, none] [] w :=
  Wp.s h
theorem M_live_144_b57 {d : Nat} {n1 : Int} {Q : MV → Wd → Prop} {x1 x2 x3 : Int} {w : Wd} (h : Cw d 208 [mR 144] w (fun _ w' => Wp (Cw d) cd_M_live (1, 0, n1) Q 59 [mR 144, mI x1, mI x2, mI x3, none] [] w')) : Wp (Cw d) cd_M_live (1, 0, n1) Q 57 [mR 144, mI x1, mI x2, mI x3, none] [] w :=
  Wp.s (Wp.s h)
theorem M_live_144_b59 {d : Nat} {n1 : Int} {Q : MV → Wd → Prop} {x1 x2 x3 : Int} {w : Wd} (h : Cw d 209 [mR 144] (ub w 144 27 x2) (fun _ w' => Wp (Cw d) cd_M_live (1, 0, n1) Q 64 [mR 144, mI x1, mI x2, mI x3, none] [] w')) : Wp (Cw d) cd_M_live (1, 0, n1) Q 59 [mR 144, mI x1, mI x2, mI x3, none] [] w :=
  Wp.s (Wp.s (Wp.s (Wp.s (Wp.s h))))
theorem M_live_144_b64 {d : Nat} {n1 : Int} {Q : MV → Wd → Prop} {x1 x2 x3 : Int} {w : Wd} (h : Cw d 224 [mR 144] w (fun _ w' => Wp (Cw d) cd_M_live (1, 0, n1) Q 66 [mR 144, mI x1, mI x2, mI x3, none] [] w')) : Wp (Cw d) cd_M_live (1, 0, n1) Q 64 [mR 144, mI x1, mI x2, mI x3, none] [] w :=
  Wp.s (Wp.s h)
theorem M_live_144_b66 {d : Nat} {n1 : Int} {Q : MV → Wd → Prop} {x1 x2 x3 : Int} {w : Wd} (g1 : (0 : Int) ≤ x3 ∧ x3 < 256) (h1 : w 165 x3.toNat = 0 → Wp (Cw d) cd_M_live (1, 0, n1) Q 73 [mR 144, mI x1, mI x2, none, none] [] w) (h2 : ¬ (w 165 x3.toNat = 0) → Wp (Cw d) cd_M_live (1, 0, n1) Q 71 [mR 144, none, mI x2, none, none] [] w) : Wp (Cw d) cd_M_live (1, 0, n1) Q 66 [mR 144, mI x1, mI x2, mI x3, none] [] w :=
  Wp.s (Wp.s (Wp.s (Wp.s ⟨g1, Wp.s ⟨fun q => Wp.fgd (leA.k (leA.k (leA.k (leA.f (leA.f leA.e))))) (h1 q), fun q => Wp.fgd (leA.k (leA.f (leA.k (leA.f (leA.f leA.e))))) (h2 q)⟩⟩)))
theorem M_live_144_b71 {d : Nat} {n1 : Int} {Q : MV → Wd → Prop} {x2 : Int} {w : Wd} (h : Wp (Cw d) cd_M_live (1, 0, n1) Q 73 [mR 144, mI x2, mI x2, none, none] [] w) : Wp (Cw d) cd_M_live (1, 0, n1) Q 71 [mR 144, none, mI x2, none, none] [] w :=
  Wp.s (Wp.s h)
theorem M_live_144_b73 {d : Nat} {n1 : Int} {Q : MV → Wd → Prop} {x1 x2 : Int} {w : Wd} (h : Wp (Cw d) cd_M_live (1, 0, n1) Q 7 [mR 144, mI x1, mI (w32 (x2 + 1)), none, none] [] w) : Wp (Cw d) cd_M_live (1, 0, n1) Q 73 [mR 144, mI x1, mI x2, none, none] [] w :=
  Wp.s (Wp.s h)
theorem M_live_144_b75 {d : Nat} {n1 : Int} {Q : MV → Wd → Prop} {x1 : Int} {w : Wd} (h : Q (mI x1) w) : Wp (Cw d) cd_M_live (1, 0, n1) Q 75 [none, mI x1, none, none, none] [] w :=
  Wp.s (Wp.s h)
theorem X_stop_0_b0 {d : Nat} {n1 : Int} {Q : MV → Wd → Prop} {w : Wd} (h : Cw d 117 [mR 0] w (fun r w' => Wp (Cw d) cd_X_stop (1, 0, n1) Q 2 [mR 0, none, none, none] [r] w')) : Wp (Cw d) cd_X_stop (1, 0, n1) Q 0 [mR 0, none, none, none] [] w :=
  Wp.s (Wp.s h)
theorem X_stop_0_b2 {d : Nat} {n1 : Int} {Q : MV → Wd → Prop} {w : Wd} (h : Wp (Cw d) cd_X_stop (1, 0, n1) Q 5 [mR 0, mR 112, mI 0, none] [] w) : Wp (Cw d) cd_X_stop (1, 0, n1) Q 2 [mR 0, none, none, none] [mR 112] w :=
  Wp.s (Wp.s (Wp.s h))
theorem X_stop_0_b5 {d : Nat} {n1 : Int} {Q : MV → Wd → Prop} {x2 : Int} {w : Wd} (h1 : w 4 0 < x2 → Wp (Cw d) cd_X_stop (1, 0, n1) Q 34 [none, none, none, none] [] w) (h2 : ¬ (w 4 0 < x2) → Wp (Cw d) cd_X_stop (1, 0, n1) Q 10 [mR 0, mR 112, mI x2, none] [] w) : Wp (Cw d) cd_X_stop (1, 0, n1) Q 5 [mR 0, mR 112, mI x2, none] [] w :=
  Wp.s (Wp.s (Wp.s (Wp.s (Wp.s ⟨fun q => Wp.fgd (leA.f (leA.f (leA.f (leA.f leA.e)))) (h1 q), fun q => h2 q⟩))))
theorem X_stop_0_b10 {d : Nat} {n1 : Int} {Q : MV → Wd → Prop} {x2 : Int} {w : Wd} (h : Wp (Cw d) cd_X_stop (1, 0, n1) Q 12 [mR 0, mR 112, mI x2, mI 0] [] w) : Wp (Cw d) cd_X_stop (1, 0, n1) Q 10 [mR 0, mR 112, mI x2, none] [] w :=
  Wp.s (Wp.s h)
theorem X_stop_0_b12 {d : Nat} {n1 : Int} {Q : MV → Wd → Prop} {x2 x3 : Int} {w : Wd} (h1 : ishl 1 (w 4 0) ≤ x3 → Wp (Cw d) cd_X_stop (1, 0, n1) Q 32 [mR 0, mR 112, mI x2, none] [] w) (h2 : ¬ (ishl 1 (w 4 0) ≤ x3) → Wp (Cw d) cd_X_stop (1, 0, n1) Q 19 [mR 0, mR 112, mI x2, mI x3] [] w) : Wp (Cw d) cd_X_stop (1, 0, n1) Q 12 [mR 0, mR 112, mI x2, mI x3] [] w :=
  Wp.s (Wp.s (Wp.s (Wp.s (Wp.s (Wp.s (Wp.s ⟨fun q => Wp.fgd (leA.k (leA.k (leA.k (leA.f leA.e)))) (h1 q), fun q => h2 q⟩))))))
theorem X_stop_0_b19 {d : Nat} {n1 : Int} {Q : MV → Wd → Prop} {x2 x3 : Int} {w : Wd} (h : Cw d 278 [mI x3] w (fun r w' => Wp (Cw d) cd_X_stop (1, 0, n1) Q 21 [mR 0, mR 112, mI x2, mI x3] [r] w')) : Wp (Cw d) cd_X_stop (1, 0, n1) Q 19 [mR 0, mR 112, mI x2, mI x3] [] w :=
  Wp.s (Wp.s h)
theorem X_stop_0_b21 {d : Nat} {n1 : Int} {Q : MV → Wd → Prop} {x2 x3 s0 : Int} {w : Wd} (h1 : ¬ s0 = x2 → Wp (Cw d) cd_X_stop (1, 0, n1) Q 30 [mR 0, mR 112, mI x2, mI x3] [] w) (h2 : ¬ (¬ s0 = x2) → Wp (Cw d) cd_X_stop (1, 0, n1) Q 23 [mR 0, mR 112, mI x2, mI x3] [] w) : Wp (Cw d) cd_X_stop (1, 0, n1) Q 21 [mR 0, mR 112, mI x2, mI x3] [mI s0] w :=
  Wp.s (Wp.s ⟨fun q => h1 q, fun q => h2 q⟩)
theorem X_stop_0_b23 {d : Nat} {n1 : Int} {Q : MV → Wd → Prop} {x2 x3 : Int} {w : Wd} (h : Cw d 155 [mR 0, mR 112, mI x3] w (fun r w' => Wp (Cw d) cd_X_stop (1, 0, n1) Q 27 [mR 0, mR 112, mI x2, mI x3] [r] w')) : Wp (Cw d) cd_X_stop (1, 0, n1) Q 23 [mR 0, mR 112, mI x2, mI x3] [] w :=
  Wp.s (Wp.s (Wp.s (Wp.s h)))
theorem X_stop_0_b27 {d : Nat} {n1 : Int} {Q : MV → Wd → Prop} {x2 x3 s0 : Int} {w : Wd} (h1 : s0 = 0 → Wp (Cw d) cd_X_stop (1, 0, n1) Q 30 [mR 0, mR 112, mI x2, mI x3] [] w) (h2 : ¬ (s0 = 0) → Wp (Cw d) cd_X_stop (1, 0, n1) Q 28 [none, none, none, mI x3] [] w) : Wp (Cw d) cd_X_stop (1, 0, n1) Q 27 [mR 0, mR 112, mI x2, mI x3] [mI s0] w :=
  Wp.s ⟨fun q => h1 q, fun q => Wp.fgd (leA.f (leA.f (leA.f (leA.k leA.e)))) (h2 q)⟩
theorem X_stop_0_b28 {d : Nat} {n1 : Int} {Q : MV → Wd → Prop} {x3 : Int} {w : Wd} (h : Q (mI x3) w) : Wp (Cw d) cd_X_stop (1, 0, n1) Q 28 [none, none, none, mI x3] [] w :=
  Wp.s (Wp.s h)
theorem X_stop_0_b30 {d : Nat} {n1 : Int} {Q : MV → Wd → Prop} {x2 x3 : Int} {w : Wd} (h : Wp (Cw d) cd_X_stop (1, 0, n1) Q 12 [mR 0, mR 112, mI x2, mI (w32 (x3 + 1))] [] w) : Wp (Cw d) cd_X_stop (1, 0, n1) Q 30 [mR 0, mR 112, mI x2, mI x3] [] w :=
  Wp.s (Wp.s h)
theorem X_stop_0_b32 {d : Nat} {n1 : Int} {Q : MV → Wd → Prop} {x2 : Int} {w : Wd} (h : Wp (Cw d) cd_X_stop (1, 0, n1) Q 5 [mR 0, mR 112, mI (w32 (x2 + 1)), none] [] w) : Wp (Cw d) cd_X_stop (1, 0, n1) Q 32 [mR 0, mR 112, mI x2, none] [] w :=
  Wp.s (Wp.s h)
theorem X_stop_0_b34 {d : Nat} {n1 : Int} {Q : MV → Wd → Prop} {w : Wd} (h : Q (mI 0) w) : Wp (Cw d) cd_X_stop (1, 0, n1) Q 34 [none, none, none, none] [] w :=
  Wp.s (Wp.s h)
theorem M_stop_144_b0 {d : Nat} {n1 : Int} {Q : MV → Wd → Prop} {w : Wd} (h : Wp (Cw d) cd_M_stop (1, 0, n1) Q 7 [mR 144, mI ((-1)), mI 0, none] [] (ub w 144 0 0)) : Wp (Cw d) cd_M_stop (1, 0, n1) Q 0 [mR 144, none, none, none] [] w :=
  Wp.s (Wp.s (Wp.s (Wp.s (Wp.s (Wp.s (Wp.s h))))))
theorem M_stop_144_b7 {d : Nat} {n1 : Int} {Q : MV → Wd → Prop} {x1 x2 : Int} {w : Wd} (h1 : ishl 1 (w 146 0.toNat) ≤ x2 → Wp (Cw d) cd_M_stop (1, 0, n1) Q 52 [none, mI x1, none, none] [] w) (h2 : ¬ (ishl 1 (w 146 0.toNat) ≤ x2) → Wp (Cw d) cd_M_stop (1, 0, n1) Q 15 [mR 144, mI x1, mI x2, none] [] w) : Wp (Cw d) cd_M_stop (1, 0, n1) Q 7 [mR 144, mI x1, mI x2, none] [] w :=
  Wp.s (Wp.s (Wp.s (Wp.s (Wp.s (Wp.s ⟨(by decide), Wp.s (Wp.s ⟨fun q => Wp.fgd (leA.f (leA.k (leA.f (leA.f leA.e)))) (h1 q), fun q => h2 q⟩)⟩)))))
theorem M_stop_144_b15 {d : Nat} {n1 : Int} {Q : MV → Wd → Prop} {x1 x2 : Int} {w : Wd} (h1 : x1 < 0 → Wp (Cw d) cd_M_stop (1, 0, n1) Q 23 [mR 144, mI x1, mI x2, none] [] w) (h2 : ¬ (x1 < 0) → Wp (Cw d) cd_M_stop (1, 0, n1) Q 17 [mR 144, mI x1, mI x2, none] [] w) : Wp (Cw d) cd_M_stop (1, 0, n1) Q 15 [mR 144, mI x1, mI x2, none] [] w :=
  Wp.s (Wp.s ⟨fun q => h1 q, fun q => h2 q⟩)
theorem M_stop_144_b17 {d : Nat} {n1 : Int} {Q : MV → Wd → Prop} {x1 x2 : Int} {w : Wd} (h : Cw d 225 [mI x2] w (fun r w' => Wp (Cw d) cd_M_stop (1, 0, n1) Q 19 [mR 144, mI x1, mI x2, none] [r] w')) : Wp (Cw d) cd_M_stop (1, 0, n1) Q 17 [mR 144, mI x1, mI x2, none] [] w :=
  Wp.s (Wp.s h)
theorem M_stop_144_b19 {d : Nat} {n1 : Int} {Q : MV → Wd → Prop} {x1 x2 s0 : Int} {w : Wd} (h : Cw d 225 [mI x1] w (fun r w' => Wp (Cw d) cd_M_stop (1, 0, n1) Q 21 [mR 144, mI x1, mI x2, none] [r, mI s0] w')) : Wp (Cw d) cd_M_stop (1, 0, n1) Q 19 [mR 144, mI x1, mI x2, none] [mI s0] w :=
  Wp.s (Wp.s h)
theorem M_stop_144_b21 {d : Nat} {n1 : Int} {Q : MV → Wd → Prop} {x1 x2 s0 s1 : Int} {w : Wd} (h1 : s1 < s0 → Wp (Cw d) cd_M_stop (1, 0, n1) Q 23 [mR 144, mI x1, mI x2, none] [] w) (h2 : ¬ (s1 < s0) → Wp (Cw d) cd_M_stop (1, 0, n1) Q 22 [mR 144, mI x1, mI x2, none] [] w) : Wp (Cw d) cd_M_stop (1, 0, n1) Q 21 [mR 144, mI x1, mI x2, none] [mI s0, mI s1] w :=
  Wp.s ⟨fun q => h1 q, fun q => h2 q⟩
theorem M_stop_144_b22 {d : Nat} {n1 : Int} {Q : MV → Wd → Prop} {x1 x2 : Int} {w : Wd} (h : Wp (Cw d) cd_M_stop (1, 0, n1) Q 50 [mR 144, mI x1, mI x2, none] [] w) : Wp (Cw d) cd_M_stop (1, 0, n1) Q 22 [mR 144, mI x1, mI x2, none] [] w :=
  Wp.s h
theorem M_stop_144_b23 {d : Nat} {n1 : Int} {Q : MV → Wd → Prop} {x1 x2 : Int} {w : Wd} (h : Cw d 208 [mR 144] w (fun _ w' => Wp (Cw d) cd_M_stop (1, 0, n1) Q 25 [mR 144, mI x1, mI x2, none] [] w')) : Wp (Cw d) cd_M_stop (1, 0, n1) Q 23 [mR 144, mI x1, mI x2, none] [] w :=
  Wp.s (Wp.s h)
theorem M_stop_144_b25 {d : Nat} {n1 : Int} {Q : MV → Wd → Prop} {x1 x2 : Int} {w : Wd} (h : Wp (Cw d) cd_M_stop (1, 0, n1) Q 27 [mR 144, mI x1, mI x2, mI 0] [] w) : Wp (Cw d) cd_M_stop (1, 0, n1) Q 25 [mR 144, mI x1, mI x2, none] [] w :=
  Wp.s (Wp.s h)
theorem M_stop_144_b27 {d : Nat} {n1 : Int} {Q : MV → Wd → Prop} {x1 x2 x3 : Int} {w : Wd} (h1 : 64 ≤ x3 → Wp (Cw d) cd_M_stop (1, 0, n1) Q 43 [mR 144, mI x1, mI x2, none] [] w) (h2 : ¬ (64 ≤ x3) → Wp (Cw d) cd_M_stop (1, 0, n1) Q 30 [mR 144, mI x1, mI x2, mI x3] [] w) : Wp (Cw d) cd_M_stop (1, 0, n1) Q 27 [mR 144, mI x1, mI x2, mI x3] [] w :=
  Wp.s (Wp.s (Wp.s ⟨fun q => Wp.fgd (leA.k (leA.k (leA.k (leA.f leA.e)))) (h1 q), fun q => h2 q⟩))
theorem M_stop_144_b30 {d : Nat} {n1 : Int} {Q : MV → Wd → Prop} {x1 x2 x3 : Int} {w : Wd} (g1 : ¬ 8 = 0) (h : Cw d 211 [mI x2, mI (w32 (Int.tdiv x3 8))] w (fun r w' => Wp (Cw d) cd_M_stop (1, 0, n1) Q 35 [mR 144, mI x1, mI x2, mI x3] [r] w')) : Wp (Cw d) cd_M_stop (1, 0, n1) Q 30 [mR 144, mI x1, mI x2, mI x3] [] w :=
  Wp.s (Wp.s (Wp.s (Wp.s ⟨g1, Wp.s h⟩)))
theorem M_stop_144_b35 {d : Nat} {n1 : Int} {Q : MV → Wd → Prop} {x1 x2 x3 s0 : Int} {w : Wd} (h1 : s0 = 0 → Wp (Cw d) cd_M_stop (1, 0, n1) Q 41 [mR 144, mI x1, mI x2, mI x3] [] w) (h2 : ¬ (s0 = 0) → Wp (Cw d) cd_M_stop (1, 0, n1) Q 36 [mR 144, mI x1, mI x2, mI x3] [] w) : Wp (Cw d) cd_M_stop (1, 0, n1) Q 35 [mR 144, mI x1, mI x2, mI x3] [mI s0] w :=
  Wp.s ⟨fun q => h1 q, fun q => h2 q⟩
theorem M_stop_144_b36 {d : Nat} {n1 : Int} {Q : MV → Wd → Prop} {x1 x2 x3 : Int} {w : Wd} (g1 : (0 : Int) ≤ x3 ∧ x3 < 64) (h : Wp (Cw d) cd_M_stop (1, 0, n1) Q 41 [mR 144, mI x1, mI x2, mI x3] [] (ub w 151 x3.toNat 0)) : Wp (Cw d) cd_M_stop (1, 0, n1) Q 36 [mR 144, mI x1, mI x2, mI x3] [] w :=
  Wp.s (Wp.s (Wp.s (Wp.s (Wp.s ⟨g1, h⟩))))
theorem M_stop_144_b41 {d : Nat} {n1 : Int} {Q : MV → Wd → Prop} {x1 x2 x3 : Int} {w : Wd} (h : Wp (Cw d) cd_M_stop (1, 0, n1) Q 27 [mR 144, mI x1, mI x2, mI (w32 (x3 + 1))] [] w) : Wp (Cw d) cd_M_stop (1, 0, n1) Q 41 [mR 144, mI x1, mI x2, mI x3] [] w :=
  Wp.s (Wp.s h)
theorem M_stop_144_b43 {d : Nat} {n1 : Int} {Q : MV → Wd → Prop} {x1 x2 : Int} {w : Wd} (h : Cw d 209 [mR 144] w (fun _ w' => Wp (Cw d) cd_M_stop (1, 0, n1) Q 45 [mR 144, mI x1, mI x2, none] [] w')) : Wp (Cw d) cd_M_stop (1, 0, n1) Q 43 [mR 144, mI x1, mI x2, none] [] w :=
  Wp.s (Wp.s h)
theorem M_stop_144_b45 {d : Nat} {n1 : Int} {Q : MV → Wd → Prop} {x1 x2 : Int} {w : Wd} (h : Cw d 223 [mR 144] w (fun r w' => Wp (Cw d) cd_M_stop (1, 0, n1) Q 47 [mR 144, mI x1, mI x2, none] [r] w')) : Wp (Cw d) cd_M_stop (1, 0, n1) Q 45 [mR 144, mI x1, mI x2, none] [] w :=
  Wp.s (Wp.s h)
theorem M_stop_144_b47 {d : Nat} {n1 : Int} {Q : MV → Wd → Prop} {x1 x2 s0 : Int} {w : Wd} (h1 : ¬ s0 = 0 → Wp (Cw d) cd_M_stop (1, 0, n1) Q 50 [mR 144, mI x1, mI x2, none] [] w) (h2 : ¬ (¬ s0 = 0) → Wp (Cw d) cd_M_stop (1, 0, n1) Q 48 [mR 144, none, mI x2, none] [] w) : Wp (Cw d) cd_M_stop (1, 0, n1) Q 47 [mR 144, mI x1, mI x2, none] [mI s0] w :=
  Wp.s ⟨fun q => h1 q, fun q => Wp.fgd (leA.k (leA.f (leA.k (leA.f leA.e)))) (h2 q)⟩
theorem M_stop_144_b48 {d : Nat} {n1 : Int} {Q : MV → Wd → Prop} {x2 : Int} {w : Wd} (h : Wp (Cw d) cd_M_stop (1, 0, n1) Q 50 [mR 144, mI x2, mI x2, none] [] w) : Wp (Cw d) cd_M_stop (1, 0, n1) Q 48 [mR 144, none, mI x2, none] [] w :=
  Wp.s (Wp.s h)
theorem M_stop_144_b50 {d : Nat} {n1 : Int} {Q : MV → Wd → Prop} {x1 x2 : Int} {w : Wd} (h : Wp (Cw d) cd_M_stop (1, 0, n1) Q 7 [mR 144, mI x1, mI (w32 (x2 + 1)), none] [] w) : Wp (Cw d) cd_M_stop (1, 0, n1) Q 50 [mR 144, mI x1, mI x2, none] [] w :=
  Wp.s (Wp.s h)
theorem M_stop_144_b52 {d : Nat} {n1 : Int} {Q : MV → Wd → Prop} {x1 : Int} {w : Wd} (h : Q (mI x1) w) : Wp (Cw d) cd_M_stop (1, 0, n1) Q 52 [none, mI x1, none, none] [] w :=
  Wp.s (Wp.s h)
theorem X_other_0_b0 {d : Nat} {n1 : Int} {Q : MV → Wd → Prop} {x1 x2 x3 : Int} {w : Wd} (h1 : x1 < 2 → Wp (Cw d) cd_X_other (1, 0, n1) Q 16 [none, none, none, none, none] [] w) (h2 : ¬ (x1 < 2) → Wp (Cw d) cd_X_other (1, 0, n1) Q 3 [mR 0, mI x1, mI x2, mI x3, none] [] w) : Wp (Cw d) cd_X_other (1, 0, n1) Q 0 [mR 0, mI x1, mI x2, mI x3, none] [] w :=
  Wp.s (Wp.s (Wp.s ⟨fun q => Wp.fgd (leA.f (leA.f (leA.f (leA.f (leA.f leA.e))))) (h1 q), fun q => h2 q⟩))
theorem X_other_0_b3 {d : Nat} {n1 : Int} {Q : MV → Wd → Prop} {x1 x2 x3 : Int} {w : Wd} (h1 : 6 < x1 → Wp (Cw d) cd_X_other (1, 0, n1) Q 16 [none, none, none, none, none] [] w) (h2 : ¬ (6 < x1) → Wp (Cw d) cd_X_other (1, 0, n1) Q 6 [mR 0, mI x1, mI x2, mI x3, none] [] w) : Wp (Cw d) cd_X_other (1, 0, n1) Q 3 [mR 0, mI x1, mI x2, mI x3, none] [] w :=
  Wp.s (Wp.s (Wp.s ⟨fun q => Wp.fgd (leA.f (leA.f (leA.f (leA.f (leA.f leA.e))))) (h1 q), fun q => h2 q⟩))
theorem X_other_0_b6 {d : Nat} {n1 : Int} {Q : MV → Wd → Prop} {x1 x2 x3 : Int} {w : Wd} (h1 : x2 < 0 → Wp (Cw d) cd_X_other (1, 0, n1) Q 16 [none, none, none, none, none] [] w) (h2 : ¬ (x2 < 0) → Wp (Cw d) cd_X_other (1, 0, n1) Q 8 [mR 0, mI x1, mI x2, mI x3, none] [] w) : Wp (Cw d) cd_X_other (1, 0, n1) Q 6 [mR 0, mI x1, mI x2, mI x3, none] [] w :=
  Wp.s (Wp.s ⟨fun q => Wp.fgd (leA.f (leA.f (leA.f (leA.f (leA.f leA.e))))) (h1 q), fun q => h2 q⟩)
theorem X_other_0_b8 {d : Nat} {n1 : Int} {Q : MV → Wd → Prop} {x1 x2 x3 : Int} {w : Wd} (h1 : 3 < x2 → Wp (Cw d) cd_X_other (1, 0, n1) Q 16 [none, none, none, none, none] [] w) (h2 : ¬ (3 < x2) → Wp (Cw d) cd_X_other (1, 0, n1) Q 11 [mR 0, mI x1, mI x2, mI x3, none] [] w) : Wp (Cw d) cd_X_other (1, 0, n1) Q 8 [mR 0, mI x1, mI x2, mI x3, none] [] w :=
  Wp.s (Wp.s (Wp.s ⟨fun q => Wp.fgd (leA.f (leA.f (leA.f (leA.f (leA.f leA.e))))) (h1 q), fun q => h2 q⟩))
theorem X_other_0_b11 {d : Nat} {n1 : Int} {Q : MV → Wd → Prop} {x1 x2 x3 : Int} {w : Wd} (h1 : x3 < 0 → Wp (Cw d) cd_X_other (1, 0, n1) Q 16 [none, none, none, none, none] [] w) (h2 : ¬ (x3 < 0) → Wp (Cw d) cd_X_other (1, 0, n1) Q 13 [mR 0, mI x1, mI x2, mI x3, none] [] w) : Wp (Cw d) cd_X_other (1, 0, n1) Q 11 [mR 0, mI x1, mI x2, mI x3, none] [] w :=
  Wp.s (Wp.s ⟨fun q => Wp.fgd (leA.f (leA.f (leA.f (leA.f (leA.f leA.e))))) (h1 q), fun q => h2 q⟩)
theorem X_other_0_b13 {d : Nat} {n1 : Int} {Q : MV → Wd → Prop} {x1 x2 x3 : Int} {w : Wd} (h1 : x3 ≤ 2 → Wp (Cw d) cd_X_other (1, 0, n1) Q 18 [mR 0, mI x1, mI x2, mI x3, none] [] w) (h2 : ¬ (x3 ≤ 2) → Wp (Cw d) cd_X_other (1, 0, n1) Q 16 [none, none, none, none, none] [] w) : Wp (Cw d) cd_X_other (1, 0, n1) Q 13 [mR 0, mI x1, mI x2, mI x3, none] [] w :=
  Wp.s (Wp.s (Wp.s ⟨fun q => h1 q, fun q => Wp.fgd (leA.f (leA.f (leA.f (leA.f (leA.f leA.e))))) (h2 q)⟩))
theorem X_other_0_b16 {d : Nat} {n1 : Int} {Q : MV → Wd → Prop} {w : Wd} (h : Q (mI ((-1))) w) : Wp (Cw d) cd_X_other (1, 0, n1) Q 16 [none, none, none, none, none] [] w :=
  Wp.s (Wp.s h)
theorem X_other_0_b18 {d : Nat} {n1 : Int} {Q : MV → Wd → Prop} {x1 x2 x3 : Int} {w : Wd} (h : Cw d 117 [mR 0] w (fun r w' => Wp (Cw d) cd_X_other (1, 0, n1) Q 20 [none, mI x1, mI x2, mI x3, none] [r] w')) : Wp (Cw d) cd_X_other (1, 0, n1) Q 18 [mR 0, mI x1, mI x2, mI x3, none] [] w :=
  Wp.s (Wp.s (Cw_mono _ _ _ _ _ _ (fun r w' q => Wp.fgd (leA.f (leA.k (leA.k (leA.k (leA.f leA.e))))) q) h))
theorem X_other_0_b20 {d : Nat} {n1 : Int} {Q : MV → Wd → Prop} {x1 x2 x3 : Int} {w : Wd} (h : Cw d 57 [mR 112] (ub (ub w 114 1 x1) 114 2 x2) (fun _ w' => Wp (Cw d) cd_X_other (1, 0, n1) Q 33 [none, none, none, mI x3, mR 112] [] w')) : Wp (Cw d) cd_X_other (1, 0, n1) Q 20 [none, mI x1, mI x2, mI x3, none] [mR 112] w :=
  Wp.s (Wp.s (Wp.s (Wp.s (Wp.s (Wp.s (Wp.s (Wp.s (Wp.s (Wp.s (Wp.s (Wp.s (Wp.s (Cw_mono _ _ _ _ _ _ (fun r w' q => Wp.fgd (leA.f (leA.f (leA.f (leA.k (leA.k leA.e))))) q) h)))))))))))))
theorem X_other_0_b33 {d : Nat} {n1 : Int} {Q : MV → Wd → Prop} {x3 : Int} {w : Wd} (h1 : ¬ x3 = 0 → Wp (Cw d) cd_X_other (1, 0, n1) Q 38 [none, none, none, mI x3, mR 112] [] w) (h2 : ¬ (¬ x3 = 0) → Wp (Cw d) cd_X_other (1, 0, n1) Q 35 [none, none, none, none, mR 112] [] w) : Wp (Cw d) cd_X_other (1, 0, n1) Q 33 [none, none, none, mI x3, mR 112] [] w :=
  Wp.s (Wp.s ⟨fun q => h1 q, fun q => Wp.fgd (leA.f (leA.f (leA.f (leA.f (leA.k leA.e))))) (h2 q)⟩)
theorem X_other_0_b35 {d : Nat} {n1 : Int} {Q : MV → Wd → Prop} {w : Wd} (h : Cw d 87 [mR 112] w (fun r w' => Wp (Cw d) cd_X_other (1, 0, n1) Q 37 [none, none, none, none, none] [r] w')) : Wp (Cw d) cd_X_other (1, 0, n1) Q 35 [none, none, none, none, mR 112] [] w :=
  Wp.s (Wp.s (Cw_mono _ _ _ _ _ _ (fun r w' q => Wp.fgd (leA.f (leA.f (leA.f (leA.f (leA.f leA.e))))) q) h))
theorem X_other_0_b37 {d : Nat} {n1 : Int} {Q : MV → Wd → Prop} {s0 : Int} {w : Wd} (h : Q (mI s0) w) : Wp (Cw d) cd_X_other (1, 0, n1) Q 37 [none, none, none, none, none] [mI s0] w :=
  Wp.s h
theorem X_other_0_b38 {d : Nat} {n1 : Int} {Q : MV → Wd → Prop} {x3 : Int} {w : Wd} (h1 : ¬ x3 = 1 → Wp (Cw d) cd_X_other (1, 0, n1) Q 44 [none, none, none, none, mR 112] [] w) (h2 : ¬ (¬ x3 = 1) → Wp (Cw d) cd_X_other (1, 0, n1) Q 41 [none, none, none, none, mR 112] [] w) : Wp (Cw d) cd_X_other (1, 0, n1) Q 38 [none, none, none, mI x3, mR 112] [] w :=
  Wp.s (Wp.s (Wp.s ⟨fun q => Wp.fgd (leA.f (leA.f (leA.f (leA.f (leA.k leA.e))))) (h1 q), fun q => Wp.fgd (leA.f (leA.f (leA.f (leA.f (leA.k leA.e))))) (h2 q)⟩))
theorem X_other_0_b41 {d : Nat} {n1 : Int} {Q : MV → Wd → Prop} {w : Wd} (h : Cw d 92 [mR 112] w (fun r w' => Wp (Cw d) cd_X_other (1, 0, n1) Q 43 [none, none, none, none, none] [r] w')) : Wp (Cw d) cd_X_other (1, 0, n1) Q 41 [none, none, none, none, mR 112] [] w :=
  Wp.s (Wp.s (Cw_mono _ _ _ _ _ _ (fun r w' q => Wp.fgd (leA.f (leA.f (leA.f (leA.f (leA.f leA.e))))) q) h))
theorem X_other_0_b43 {d : Nat} {n1 : Int} {Q : MV → Wd → Prop} {s0 : Int} {w : Wd} (h : Wp (Cw d) cd_X_other (1, 0, n1) Q 46 [none, none, none, none, none] [mI s0] w) : Wp (Cw d) cd_X_other (1, 0, n1) Q 43 [none, none, none, none, none] [mI s0] w :=
  Wp.s h
theorem X_other_0_b44 {d : Nat} {n1 : Int} {Q : MV → Wd → Prop} {w : Wd} (h : Cw d 94 [mR 112] w (fun r w' => Wp (Cw d) cd_X_other (1, 0, n1) Q 46 [none, none, none, none, none] [r] w')) : Wp (Cw d) cd_X_other (1, 0, n1) Q 44 [none, none, none, none, mR 112] [] w :=
  Wp.s (Wp.s (Cw_mono _ _ _ _ _ _ (fun r w' q => Wp.fgd (leA.f (leA.f (leA.f (leA.f (leA.f leA.e))))) q) h))
theorem X_other_0_b46 {d : Nat} {n1 : Int} {Q : MV → Wd → Prop} {s0 : Int} {w : Wd} (h : Q (mI s0) w) : Wp (Cw d) cd_X_other (1, 0, n1) Q 46 [none, none, none, none, none] [mI s0] w :=
  Wp.s h
theorem M_other_144_b0 {d : Nat} {n1 : Int} {Q : MV → Wd → Prop} {x1 x2 x3 : Int} {w : Wd} (h : Cw d 187 [mI x1, mI 2, mI 6] (ub w 144 0 0) (fun r w' => Wp (Cw d) cd_M_other (1, 0, n1) Q 7 [mR 144, mI x1, mI x2, mI x3] [r] w')) : Wp (Cw d) cd_M_other (1, 0, n1) Q 0 [mR 144, mI x1, mI x2, mI x3] [] w :=
  Wp.s (Wp.s (Wp.s (Wp.s (Wp.s (Wp.s (Wp.s h))))))
theorem M_other_144_b7 {d : Nat} {n1 : Int} {Q : MV → Wd → Prop} {x1 x2 x3 s0 : Int} {w : Wd} (h1 : s0 = 0 → Wp (Cw d) cd_M_other (1, 0, n1) Q 18 [none, none, none, none] [] w) (h2 : ¬ (s0 = 0) → Wp (Cw d) cd_M_other (1, 0, n1) Q 8 [mR 144, mI x1, mI x2, mI x3] [] w) : Wp (Cw d) cd_M_other (1, 0, n1) Q 7 [mR 144, mI x1, mI x2, mI x3] [mI s0] w :=
  Wp.s ⟨fun q => Wp.fgd (leA.f (leA.f (leA.f (leA.f leA.e)))) (h1 q), fun q => h2 q⟩
theorem M_other_144_b8 {d : Nat} {n1 : Int} {Q : MV → Wd → Prop} {x1 x2 x3 : Int} {w : Wd} (h : Cw d 187 [mI x2, mI 0, mI 3] w (fun r w' => Wp (Cw d) cd_M_other (1, 0, n1) Q 12 [mR 144, mI x1, mI x2, mI x3] [r] w')) : Wp (Cw d) cd_M_other (1, 0, n1) Q 8 [mR 144, mI x1, mI x2, mI x3] [] w :=
  Wp.s (Wp.s (Wp.s (Wp.s h)))
theorem M_other_144_b12 {d : Nat} {n1 : Int} {Q : MV → Wd → Prop} {x1 x2 x3 s0 : Int} {w : Wd} (h1 : s0 = 0 → Wp (Cw d) cd_M_other (1, 0, n1) Q 18 [none, none, none, none] [] w) (h2 : ¬ (s0 = 0) → Wp (Cw d) cd_M_other (1, 0, n1) Q 13 [mR 144, mI x1, mI x2, mI x3] [] w) : Wp (Cw d) cd_M_other (1, 0, n1) Q 12 [mR 144, mI x1, mI x2, mI x3] [mI s0] w :=
  Wp.s ⟨fun q => Wp.fgd (leA.f (leA.f (leA.f (leA.f leA.e)))) (h1 q), fun q => h2 q⟩
theorem M_other_144_b13 {d : Nat} {n1 : Int} {Q : MV → Wd → Prop} {x1 x2 x3 : Int} {w : Wd} (h : Cw d 187 [mI x3, mI 0, mI 2] w (fun r w' => Wp (Cw d) cd_M_other (1, 0, n1) Q 17 [mR 144, mI x1, mI x2, mI x3] [r] w')) : Wp (Cw d) cd_M_other (1, 0, n1) Q 13 [mR 144, mI x1, mI x2, mI x3] [] w :=
  Wp.s (Wp.s (Wp.s (Wp.s h)))
theorem M_other_144_b17 {d : Nat} {n1 : Int} {Q : MV → Wd → Prop} {x1 x2 x3 s0 : Int} {w : Wd} (h1 : ¬ s0 = 0 → Wp (Cw d) cd_M_other (1, 0, n1) Q 20 [mR 144, mI x1, mI x2, mI x3] [] w) (h2 : ¬ (¬ s0 = 0) → Wp (Cw d) cd_M_other (1, 0, n1) Q 18 [none, none, none, none] [] w) : Wp (Cw d) cd_M_other (1, 0, n1) Q 17 [mR 144, mI x1, mI x2, mI x3] [mI s0] w :=
  Wp.s ⟨fun q => h1 q, fun q => Wp.fgd (leA.f (leA.f (leA.f (leA.f leA.e)))) (h2 q)⟩
theorem M_other_144_b18 {d : Nat} {n1 : Int} {Q : MV → Wd → Prop} {w : Wd} (h : Q (mI ((-1))) w) : Wp (Cw d) cd_M_other (1, 0, n1) Q 18 [none, none, none, none] [] w :=
  Wp.s (Wp.s h)
theorem M_other_144_b20 {d : Nat} {n1 : Int} {Q : MV → Wd → Prop} {x1 x2 x3 : Int} {w : Wd} (h : Cw d 208 [mR 144] w (fun _ w' => Wp (Cw d) cd_M_other (1, 0, n1) Q 22 [mR 144, mI x1, mI x2, mI x3] [] w')) : Wp (Cw d) cd_M_other (1, 0, n1) Q 20 [mR 144, mI x1, mI x2, mI x3] [] w :=
  Wp.s (Wp.s h)
theorem M_other_144_b22 {d : Nat} {n1 : Int} {Q : MV → Wd → Prop} {x1 x2 x3 : Int} {w : Wd} (h : Cw d 209 [mR 144] (ub (ub w 144 25 x1) 144 26 x2) (fun _ w' => Wp (Cw d) cd_M_other (1, 0, n1) Q 30 [mR 144, none, none, mI x3] [] w')) : Wp (Cw d) cd_M_other (1, 0, n1) Q 22 [mR 144, mI x1, mI x2, mI x3] [] w :=
  Wp.s (Wp.s (Wp.s (Wp.s (Wp.s (Wp.s (Wp.s (Wp.s (Cw_mono _ _ _ _ _ _ (fun r w' q => Wp.fgd (leA.k (leA.f (leA.f (leA.k leA.e)))) q) h))))))))
theorem M_other_144_b30 {d : Nat} {n1 : Int} {Q : MV → Wd → Prop} {x3 : Int} {w : Wd} (h1 : ¬ x3 = 0 → Wp (Cw d) cd_M_other (1, 0, n1) Q 35 [mR 144, none, none, mI x3] [] w) (h2 : ¬ (¬ x3 = 0) → Wp (Cw d) cd_M_other (1, 0, n1) Q 32 [mR 144, none, none, none] [] w) : Wp (Cw d) cd_M_other (1, 0, n1) Q 30 [mR 144, none, none, mI x3] [] w :=
  Wp.s (Wp.s ⟨fun q => h1 q, fun q => Wp.fgd (leA.k (leA.f (leA.f (leA.f leA.e)))) (h2 q)⟩)
theorem M_other_144_b32 {d : Nat} {n1 : Int} {Q : MV → Wd → Prop} {w : Wd} (h : Cw d 223 [mR 144] w (fun r w' => Wp (Cw d) cd_M_other (1, 0, n1) Q 34 [none, none, none, none] [r] w')) : Wp (Cw d) cd_M_other (1, 0, n1) Q 32 [mR 144, none, none, none] [] w :=
  Wp.s (Wp.s (Cw_mono _ _ _ _ _ _ (fun r w' q => Wp.fgd (leA.f (leA.f (leA.f (leA.f leA.e)))) q) h))
theorem M_other_144_b34 {d : Nat} {n1 : Int} {Q : MV → Wd → Prop} {s0 : Int} {w : Wd} (h : Q (mI s0) w) : Wp (Cw d) cd_M_other (1, 0, n1) Q 34 [none, none, none, none] [mI s0] w :=
  Wp.s h
theorem M_other_144_b35 {d : Nat} {n1 : Int} {Q : MV → Wd → Prop} {x3 : Int} {w : Wd} (h : Cw d 228 [mR 144] w (fun _ w' => Wp (Cw d) cd_M_other (1, 0, n1) Q 37 [mR 144, none, none, mI x3] [] w')) : Wp (Cw d) cd_M_other (1, 0, n1) Q 35 [mR 144, none, none, mI x3] [] w :=
  Wp.s (Wp.s h)
theorem M_other_144_b37 {d : Nat} {n1 : Int} {Q : MV → Wd → Prop} {x3 : Int} {w : Wd} (h1 : ¬ x3 = 1 → Wp (Cw d) cd_M_other (1, 0, n1) Q 43 [mR 144, none, none, none] [] w) (h2 : ¬ (¬ x3 = 1) → Wp (Cw d) cd_M_other (1, 0, n1) Q 40 [mR 144, none, none, none] [] w) : Wp (Cw d) cd_M_other (1, 0, n1) Q 37 [mR 144, none, none, mI x3] [] w :=
  Wp.s (Wp.s (Wp.s ⟨fun q => Wp.fgd (leA.k (leA.f (leA.f (leA.f leA.e)))) (h1 q), fun q => Wp.fgd (leA.k (leA.f (leA.f (leA.f leA.e)))) (h2 q)⟩))
theorem M_other_144_b40 {d : Nat} {n1 : Int} {Q : MV → Wd → Prop} {w : Wd} (h : Wp (Cw d) cd_M_other (1, 0, n1) Q 45 [none, none, none, none] [mI (w 144 47)] w) : Wp (Cw d) cd_M_other (1, 0, n1) Q 40 [mR 144, none, none, none] [] w :=
  Wp.s (Wp.s (Wp.s (Wp.fgd (leA.f (leA.f (leA.f (leA.f leA.e)))) h)))
theorem M_other_144_b43 {d : Nat} {n1 : Int} {Q : MV → Wd → Prop} {w : Wd} (h : Wp (Cw d) cd_M_other (1, 0, n1) Q 45 [none, none, none, none] [mI (w 144 49)] w) : Wp (Cw d) cd_M_other (1, 0, n1) Q 43 [mR 144, none, none, none] [] w :=
  Wp.s (Wp.s (Wp.fgd (leA.f (leA.f (leA.f (leA.f leA.e)))) h))
theorem M_other_144_b45 {d : Nat} {n1 : Int} {Q : MV → Wd → Prop} {s0 : Int} {w : Wd} (h : Q (mI s0) w) : Wp (Cw d) cd_M_other (1, 0, n1) Q 45 [none, none, none, none] [mI s0] w :=
  Wp.s h
theorem X_note_0_b0 {d : Nat} {n1 : Int} {Q : MV → Wd → Prop} {x1 x2 x3 x4 : Int} {w : Wd} (h : Cw d 53 [mR 4, mI x1] w (fun r w' => Wp (Cw d) cd_X_note (1, 0, n1) Q 4 [mR 0, mI x1, mI x2, mI x3, mI x4, none] [r] w')) : Wp (Cw d) cd_X_note (1, 0, n1) Q 0 [mR 0, mI x1, mI x2, mI x3, mI x4, none] [] w :=
  Wp.s (Wp.s (Wp.s (Wp.s h)))
theorem X_note_0_b4 {d : Nat} {n1 : Int} {Q : MV → Wd → Prop} {x1 x2 x3 x4 s0 : Int} {w : Wd} (h1 : s0 = 0 → Wp (Cw d) cd_X_note (1, 0, n1) Q 25 [mR 0, mI x1, mI x2, mI x3, mI x4, none] [] w) (h2 : ¬ (s0 = 0) → Wp (Cw d) cd_X_note (1, 0, n1) Q 5 [mR 0, mI x1, mI x2, mI x3, mI x4, none] [] w) : Wp (Cw d) cd_X_note (1, 0, n1) Q 4 [mR 0, mI x1, mI x2, mI x3, mI x4, none] [mI s0] w :=
  Wp.s ⟨fun q => h1 q, fun q => h2 q⟩
theorem X_note_0_b5 {d : Nat} {n1 : Int} {Q : MV → Wd → Prop} {x1 x2 x3 x4 : Int} {w : Wd} (h : Cw d 51 [mR 4, mI x2] w (fun r w' => Wp (Cw d) cd_X_note (1, 0, n1) Q 9 [mR 0, mI x1, mI x2, mI x3, mI x4, none] [r] w')) : Wp (Cw d) cd_X_note (1, 0, n1) Q 5 [mR 0, mI x1, mI x2, mI x3, mI x4, none] [] w :=
  Wp.s (Wp.s (Wp.s (Wp.s h)))
theorem X_note_0_b9 {d : Nat} {n1 : Int} {Q : MV → Wd → Prop} {x1 x2 x3 x4 s0 : Int} {w : Wd} (h1 : s0 = 0 → Wp (Cw d) cd_X_note (1, 0, n1) Q 25 [mR 0, mI x1, mI x2, mI x3, mI x4, none] [] w) (h2 : ¬ (s0 = 0) → Wp (Cw d) cd_X_note (1, 0, n1) Q 10 [mR 0, mI x1, mI x2, mI x3, mI x4, none] [] w) : Wp (Cw d) cd_X_note (1, 0, n1) Q 9 [mR 0, mI x1, mI x2, mI x3, mI x4, none] [mI s0] w :=
  Wp.s ⟨fun q => h1 q, fun q => h2 q⟩
theorem X_note_0_b10 {d : Nat} {n1 : Int} {Q : MV → Wd → Prop} {x1 x2 x3 x4 : Int} {w : Wd} (h : Cw d 51 [mR 4, mI x3] w (fun r w' => Wp (Cw d) cd_X_note (1, 0, n1) Q 14 [mR 0, mI x1, mI x2, mI x3, mI x4, none] [r] w')) : Wp (Cw d) cd_X_note (1, 0, n1) Q 10 [mR 0, mI x1, mI x2, mI x3, mI x4, none] [] w :=
  Wp.s (Wp.s (Wp.s (Wp.s h)))
theorem X_note_0_b14 {d : Nat} {n1 : Int} {Q : MV → Wd → Prop} {x1 x2 x3 x4 s0 : Int} {w : Wd} (h1 : s0 = 0 → Wp (Cw d) cd_X_note (1, 0, n1) Q 25 [mR 0, mI x1, mI x2, mI x3, mI x4, none] [] w) (h2 : ¬ (s0 = 0) → Wp (Cw d) cd_X_note (1, 0, n1) Q 15 [mR 0, mI x1, mI x2, mI x3, mI x4, none] [] w) : Wp (Cw d) cd_X_note (1, 0, n1) Q 14 [mR 0, mI x1, mI x2, mI x3, mI x4, none] [mI s0] w :=
  Wp.s ⟨fun q => h1 q, fun q => h2 q⟩
theorem X_note_0_b15 {d : Nat} {n1 : Int} {Q : MV → Wd → Prop} {x1 x2 x3 x4 : Int} {w : Wd} (h1 : x2 = x3 → Wp (Cw d) cd_X_note (1, 0, n1) Q 25 [mR 0, mI x1, mI x2, mI x3, mI x4, none] [] w) (h2 : ¬ (x2 = x3) → Wp (Cw d) cd_X_note (1, 0, n1) Q 18 [mR 0, mI x1, mI x2, mI x3, mI x4, none] [] w) : Wp (Cw d) cd_X_note (1, 0, n1) Q 15 [mR 0, mI x1, mI x2, mI x3, mI x4, none] [] w :=
  Wp.s (Wp.s (Wp.s ⟨fun q => h1 q, fun q => h2 q⟩))
theorem X_note_0_b18 {d : Nat} {n1 : Int} {Q : MV → Wd → Prop} {x1 x2 x3 x4 : Int} {w : Wd} (h1 : x4 < 0 → Wp (Cw d) cd_X_note (1, 0, n1) Q 25 [mR 0, mI x1, mI x2, mI x3, mI x4, none] [] w) (h2 : ¬ (x4 < 0) → Wp (Cw d) cd_X_note (1, 0, n1) Q 20 [mR 0, mI x1, mI x2, mI x3, mI x4, none] [] w) : Wp (Cw d) cd_X_note (1, 0, n1) Q 18 [mR 0, mI x1, mI x2, mI x3, mI x4, none] [] w :=
  Wp.s (Wp.s ⟨fun q => h1 q, fun q => h2 q⟩)
theorem X_note_0_b20 {d : Nat} {n1 : Int} {Q : MV → Wd → Prop} {x1 x2 x3 x4 : Int} {w : Wd} (h1 : 48 ≤ x4 → Wp (Cw d) cd_X_note (1, 0, n1) Q 25 [mR 0, mI x1, mI x2, mI x3, mI x4, none] [] w) (h2 : ¬ (48 ≤ x4) → Wp (Cw d) cd_X_note (1, 0, n1) Q 23 [mR 0, mI x1, mI x2, mI x3, mI x4, none] [] w) : Wp (Cw d) cd_X_note (1, 0, n1) Q 20 [mR 0, mI x1, mI x2, mI x3, mI x4, none] [] w :=
  Wp.s (Wp.s (Wp.s ⟨fun q => h1 q, fun q => h2 q⟩))
theorem X_note_0_b23 {d : Nat} {n1 : Int} {Q : MV → Wd → Prop} {x1 x2 x3 x4 : Int} {w : Wd} (h : Wp (Cw d) cd_X_note (1, 0, n1) Q 26 [mR 0, mI x1, mI x2, mI x3, mI x4, none] [mI 1] w) : Wp (Cw d) cd_X_note (1, 0, n1) Q 23 [mR 0, mI x1, mI x2, mI x3, mI x4, none] [] w :=
  Wp.s (Wp.s h)
theorem X_note_0_b25 {d : Nat} {n1 : Int} {Q : MV → Wd → Prop} {x1 x2 x3 x4 : Int} {w : Wd} (h : Wp (Cw d) cd_X_note (1, 0, n1) Q 26 [mR 0, mI x1, mI x2, mI x3, mI x4, none] [mI 0] w) : Wp (Cw d) cd_X_note (1, 0, n1) Q 25 [mR 0, mI x1, mI x2, mI x3, mI x4, none] [] w :=
  Wp.s h
theorem X_note_0_b26 {d : Nat} {n1 : Int} {Q : MV → Wd → Prop} {x1 x2 x3 x4 s0 : Int} {w : Wd} (h1 : s0 = 0 → Wp (Cw d) cd_X_note (1, 0, n1) Q 37 [none, none, none, none, none, none] [] w) (h2 : ¬ (s0 = 0) → Wp (Cw d) cd_X_note (1, 0, n1) Q 29 [mR 0, mI x1, mI x2, mI x3, mI x4, none] [] w) : Wp (Cw d) cd_X_note (1, 0, n1) Q 26 [mR 0, mI x1, mI x2, mI x3, mI x4, none] [mI s0] w :=
  Wp.s (Wp.s (Wp.s ⟨fun q => Wp.fgd (leA.f (leA.f (leA.f (leA.f (leA.f (leA.f leA.e)))))) (h1 q), fun q => Wp.fgd (leA.k (leA.k (leA.k (leA.k (leA.k (leA.f leA.e)))))) (h2 q)⟩))
theorem X_note_0_b29 {d : Nat} {n1 : Int} {Q : MV → Wd → Prop} {x1 x2 x3 x4 : Int} {w : Wd} (h : Cw d 158 [mR 36, mI x1, mI x2, mI x3, mI x4] w (fun r w' => Wp (Cw d) cd_X_note (1, 0, n1) Q 36 [none, none, none, none, none, none] [r] w')) : Wp (Cw d) cd_X_note (1, 0, n1) Q 29 [mR 0, mI x1, mI x2, mI x3, mI x4, none] [] w :=
  Wp.s (Wp.s (Wp.s (Wp.s (Wp.s (Wp.s (Wp.s (Cw_mono _ _ _ _ _ _ (fun r w' q => Wp.fgd (leA.f (leA.f (leA.f (leA.f (leA.f (leA.f leA.e)))))) q) h)))))))
theorem X_note_0_b36 {d : Nat} {n1 : Int} {Q : MV → Wd → Prop} {s0 : Int} {w : Wd} (h : Wp (Cw d) cd_X_note (1, 0, n1) Q 38 [none, none, none, none, none, none] [mI s0] w) : Wp (Cw d) cd_X_note (1, 0, n1) Q 36 [none, none, none, none, none, none] [mI s0] w :=
  Wp.s h
theorem X_note_0_b37 {d : Nat} {n1 : Int} {Q : MV → Wd → Prop} {w : Wd} (h : Wp (Cw d) cd_X_note (1, 0, n1) Q 38 [none, none, none, none, none, none] [mI ((-1))] w) : Wp (Cw d) cd_X_note (1, 0, n1) Q 37 [none, none, none, none, none, none] [] w :=
  Wp.s h
theorem X_note_0_b38 {d : Nat} {n1 : Int} {Q : MV → Wd → Prop} {s0 : Int} {w : Wd} (h : Q (mI s0) w) : Wp (Cw d) cd_X_note (1, 0, n1) Q 38 [none, none, none, none, none, none] [mI s0] w :=
  Wp.s h
theorem M_note_144_b0 {d : Nat} {n1 : Int} {Q : MV → Wd → Prop} {x1 x2 x3 x4 : Int} {w : Wd} (h1 : w 146 484.toNat = 40 → Wp (Cw d) cd_M_note (1, 0, n1) Q 29 [none, none, none, none, none, none] [] (ub w 144 0 0)) (h2 : ¬ (w 146 484.toNat = 40) → Wp (Cw d) cd_M_note (1, 0, n1) Q 9 [mR 144, mI x1, mI x2, mI x3, mI x4, none] [] (ub w 144 0 0)) : Wp (Cw d) cd_M_note (1, 0, n1) Q 0 [mR 144, mI x1, mI x2, mI x3, mI x4, none] [] w :=
  Wp.s (Wp.s (Wp.s (Wp.s (Wp.s (Wp.s (Wp.s ⟨(by decide), Wp.s (Wp.s ⟨fun q => Wp.fgd (leA.f (leA.f (leA.f (leA.f (leA.f (leA.f leA.e)))))) (h1 q), fun q => h2 q⟩)⟩))))))
theorem M_note_144_b9 {d : Nat} {n1 : Int} {Q : MV → Wd → Prop} {x1 x2 x3 x4 : Int} {w : Wd} (h : Cw d 199 [mR 144, mI x1] w (fun r w' => Wp (Cw d) cd_M_note (1, 0, n1) Q 12 [mR 144, mI x1, mI x2, mI x3, mI x4, none] [r] w')) : Wp (Cw d) cd_M_note (1, 0, n1) Q 9 [mR 144, mI x1, mI x2, mI x3, mI x4, none] [] w :=
  Wp.s (Wp.s (Wp.s h))
theorem M_note_144_b12 {d : Nat} {n1 : Int} {Q : MV → Wd → Prop} {x1 x2 x3 x4 s0 : Int} {w : Wd} (h1 : s0 = 0 → Wp (Cw d) cd_M_note (1, 0, n1) Q 29 [none, none, none, none, none, none] [] w) (h2 : ¬ (s0 = 0) → Wp (Cw d) cd_M_note (1, 0, n1) Q 13 [mR 144, mI x1, mI x2, mI x3, mI x4, none] [] w) : Wp (Cw d) cd_M_note (1, 0, n1) Q 12 [mR 144, mI x1, mI x2, mI x3, mI x4, none] [mI s0] w :=
  Wp.s ⟨fun q => Wp.fgd (leA.f (leA.f (leA.f (leA.f (leA.f (leA.f leA.e)))))) (h1 q), fun q => h2 q⟩
theorem M_note_144_b13 {d : Nat} {n1 : Int} {Q : MV → Wd → Prop} {x1 x2 x3 x4 : Int} {w : Wd} (h : Cw d 206 [mR 144, mI x2] w (fun r w' => Wp (Cw d) cd_M_note (1, 0, n1) Q 16 [mR 144, mI x1, mI x2, mI x3, mI x4, none] [r] w')) : Wp (Cw d) cd_M_note (1, 0, n1) Q 13 [mR 144, mI x1, mI x2, mI x3, mI x4, none] [] w :=
  Wp.s (Wp.s (Wp.s h))
theorem M_note_144_b16 {d : Nat} {n1 : Int} {Q : MV → Wd → Prop} {x1 x2 x3 x4 s0 : Int} {w : Wd} (h1 : s0 = 0 → Wp (Cw d) cd_M_note (1, 0, n1) Q 29 [none, none, none, none, none, none] [] w) (h2 : ¬ (s0 = 0) → Wp (Cw d) cd_M_note (1, 0, n1) Q 17 [mR 144, mI x1, mI x2, mI x3, mI x4, none] [] w) : Wp (Cw d) cd_M_note (1, 0, n1) Q 16 [mR 144, mI x1, mI x2, mI x3, mI x4, none] [mI s0] w :=
  Wp.s ⟨fun q => Wp.fgd (leA.f (leA.f (leA.f (leA.f (leA.f (leA.f leA.e)))))) (h1 q), fun q => h2 q⟩
theorem M_note_144_b17 {d : Nat} {n1 : Int} {Q : MV → Wd → Prop} {x1 x2 x3 x4 : Int} {w : Wd} (h : Cw d 206 [mR 144, mI x3] w (fun r w' => Wp (Cw d) cd_M_note (1, 0, n1) Q 20 [mR 144, mI x1, mI x2, mI x3, mI x4, none] [r] w')) : Wp (Cw d) cd_M_note (1, 0, n1) Q 17 [mR 144, mI x1, mI x2, mI x3, mI x4, none] [] w :=
  Wp.s (Wp.s (Wp.s h))
theorem M_note_144_b20 {d : Nat} {n1 : Int} {Q : MV → Wd → Prop} {x1 x2 x3 x4 s0 : Int} {w : Wd} (h1 : s0 = 0 → Wp (Cw d) cd_M_note (1, 0, n1) Q 29 [none, none, none, none, none, none] [] w) (h2 : ¬ (s0 = 0) → Wp (Cw d) cd_M_note (1, 0, n1) Q 21 [mR 144, mI x1, mI x2, mI x3, mI x4, none] [] w) : Wp (Cw d) cd_M_note (1, 0, n1) Q 20 [mR 144, mI x1, mI x2, mI x3, mI x4, none] [mI s0] w :=
  Wp.s ⟨fun q => Wp.fgd (leA.f (leA.f (leA.f (leA.f (leA.f (leA.f leA.e)))))) (h1 q), fun q => h2 q⟩
theorem M_note_144_b21 {d : Nat} {n1 : Int} {Q : MV → Wd → Prop} {x1 x2 x3 x4 : Int} {w : Wd} (h1 : x2 = x3 → Wp (Cw d) cd_M_note (1, 0, n1) Q 29 [none, none, none, none, none, none] [] w) (h2 : ¬ (x2 = x3) → Wp (Cw d) cd_M_note (1, 0, n1) Q 24 [mR 144, mI x1, mI x2, mI x3, mI x4, none] [] w) : Wp (Cw d) cd_M_note (1, 0, n1) Q 21 [mR 144, mI x1, mI x2, mI x3, mI x4, none] [] w :=
  Wp.s (Wp.s (Wp.s ⟨fun q => Wp.fgd (leA.f (leA.f (leA.f (leA.f (leA.f (leA.f leA.e)))))) (h1 q), fun q => h2 q⟩))
theorem M_note_144_b24 {d : Nat} {n1 : Int} {Q : MV → Wd → Prop} {x1 x2 x3 x4 : Int} {w : Wd} (h : Cw d 187 [mI x4, mI 0, mI 47] w (fun r w' => Wp (Cw d) cd_M_note (1, 0, n1) Q 28 [mR 144, mI x1, mI x2, mI x3, mI x4, none] [r] w')) : Wp (Cw d) cd_M_note (1, 0, n1) Q 24 [mR 144, mI x1, mI x2, mI x3, mI x4, none] [] w :=
  Wp.s (Wp.s (Wp.s (Wp.s h)))
theorem M_note_144_b28 {d : Nat} {n1 : Int} {Q : MV → Wd → Prop} {x1 x2 x3 x4 s0 : Int} {w : Wd} (h1 : ¬ s0 = 0 → Wp (Cw d) cd_M_note (1, 0, n1) Q 31 [mR 144, mI x1, mI x2, mI x3, mI x4, none] [] w) (h2 : ¬ (¬ s0 = 0) → Wp (Cw d) cd_M_note (1, 0, n1) Q 29 [none, none, none, none, none, none] [] w) : Wp (Cw d) cd_M_note (1, 0, n1) Q 28 [mR 144, mI x1, mI x2, mI x3, mI x4, none] [mI s0] w :=
  Wp.s ⟨fun q => h1 q, fun q => Wp.fgd (leA.f (leA.f (leA.f (leA.f (leA.f (leA.f leA.e)))))) (h2 q)⟩
theorem M_note_144_b29 {d : Nat} {n1 : Int} {Q : MV → Wd → Prop} {w : Wd} (h : Q (mI ((-1))) w) : Wp (Cw d) cd_M_note (1, 0, n1) Q 29 [none, none, none, none, none, none] [] w :=
  Wp.s (Wp.s h)
theorem M_note_144_b31 {d : Nat} {n1 : Int} {Q : MV → Wd → Prop} {x1 x2 x3 x4 : Int} {w : Wd} (h : Cw d 270 [mR 144, mI x1] w (fun _ w' => Wp (Cw d) cd_M_note (1, 0, n1) Q 34 [mR 144, mI x1, mI x2, mI x3, mI x4, none] [] w')) : Wp (Cw d) cd_M_note (1, 0, n1) Q 31 [mR 144, mI x1, mI x2, mI x3, mI x4, none] [] w :=
  Wp.s (Wp.s (Wp.s h))
theorem M_note_144_b34 {d : Nat} {n1 : Int} {Q : MV → Wd → Prop} {x1 x2 x3 x4 : Int} {w : Wd} (h1 : ¬ w 144 75 = 8 → Wp (Cw d) cd_M_note (1, 0, n1) Q 40 [mR 144, mI x1, mI x2, mI x3, mI x4, none] [] w) (h2 : ¬ (¬ w 144 75 = 8) → Wp (Cw d) cd_M_note (1, 0, n1) Q 38 [none, none, none, none, none, none] [] w) : Wp (Cw d) cd_M_note (1, 0, n1) Q 34 [mR 144, mI x1, mI x2, mI x3, mI x4, none] [] w :=
  Wp.s (Wp.s (Wp.s (Wp.s ⟨fun q => h1 q, fun q => Wp.fgd (leA.f (leA.f (leA.f (leA.f (leA.f (leA.f leA.e)))))) (h2 q)⟩)))
theorem M_note_144_b38 {d : Nat} {n1 : Int} {Q : MV → Wd → Prop} {w : Wd} (h : Q (mI ((-1))) w) : Wp (Cw d) cd_M_note (1, 0, n1) Q 38 [none, none, none, none, none, none] [] w :=
  Wp.s (Wp.s h)
theorem M_note_144_b40 {d : Nat} {n1 : Int} {Q : MV → Wd → Prop} {x1 x2 x3 x4 : Int} {w : Wd} (g2 : (0 : Int) ≤ w32 (485 + (w32 (4 * (w 146 484.toNat)))) ∧ w32 (485 + (w32 (4 * (w 146 484.toNat)))) < 645) (g3 : (0 : Int) ≤ w32 ((w32 (485 + (w32 (4 * (w 146 484.toNat))))) + 1) ∧ w32 ((w32 (485 + (w32 (4 * (w 146 484.toNat))))) + 1) < 645) (g4 : (0 : Int) ≤ w32 ((w32 (485 + (w32 (4 * (w 146 484.toNat))))) + 2) ∧ w32 ((w32 (485 + (w32 (4 * (w 146 484.toNat))))) + 2) < 645) (g5 : (0 : Int) ≤ w32 ((w32 (485 + (w32 (4 * (w 146 484.toNat))))) + 3) ∧ w32 ((w32 (485 + (w32 (4 * (w 146 484.toNat))))) + 3) < 645) (h : Q (mI (w32 (((up1 (up1 (up1 (up1 (up1 (w 146) (w32 (485 + (w32 (4 * (w 146 484.toNat))))).toNat x1) (w32 ((w32 (485 + (w32 (4 * (w 146 484.toNat))))) + 1)).toNat x2) (w32 ((w32 (485 + (w32 (4 * (w 146 484.toNat))))) + 2)).toNat x3) (w32 ((w32 (485 + (w32 (4 * (w 146 484.toNat))))) + 3)).toNat x4) 484.toNat (w32 (((up1 (up1 (up1 (up1 (w 146) (w32 (485 + (w32 (4 * (w 146 484.toNat))))).toNat x1) (w32 ((w32 (485 + (w32 (4 * (w 146 484.toNat))))) + 1)).toNat x2) (w32 ((w32 (485 + (w32 (4 * (w 146 484.toNat))))) + 2)).toNat x3) (w32 ((w32 (485 + (w32 (4 * (w 146 484.toNat))))) + 3)).toNat x4) 484.toNat) + 1))) 484.toNat) - 1))) (ub (ub (ub (ub (ub w 146 (w32 (485 + (w32 (4 * (w 146 484.toNat))))).toNat x1) 146 (w32 ((w32 (485 + (w32 (4 * (w 146 484.toNat))))) + 1)).toNat x2) 146 (w32 ((w32 (485 + (w32 (4 * (w 146 484.toNat))))) + 2)).toNat x3) 146 (w32 ((w32 (485 + (w32 (4 * (w 146 484.toNat))))) + 3)).toNat x4) 146 484.toNat (w32 (((up1 (up1 (up1 (up1 (w 146) (w32 (485 + (w32 (4 * (w 146 484.toNat))))).toNat x1) (w32 ((w32 (485 + (w32 (4 * (w 146 484.toNat))))) + 1)).toNat x2) (w32 ((w32 (485 + (w32 (4 * (w 146 484.toNat))))) + 2)).toNat x3) (w32 ((w32 (485 + (w32 (4 * (w 146 484.toNat))))) + 3)).toNat x4) 484.toNat) + 1)))) : Wp (Cw d) cd_M_note (1, 0, n1) Q 40 [mR 144, mI x1, mI x2, mI x3, mI x4, none] [] w :=
  Wp.s (Wp.s (Wp.s (Wp.s (Wp.s (Wp.s ⟨(by decide), Wp.s (Wp.s (Wp.s (Wp.s (Wp.s (Wp.s (Wp.s (Wp.s ⟨g2, Wp.s (Wp.s (Wp.s (Wp.s (Wp.s (Wp.s (Wp.s ⟨g3, Wp.s (Wp.s (Wp.s (Wp.s (Wp.s (Wp.s (Wp.s ⟨g4, Wp.s (Wp.s (Wp.s (Wp.s (Wp.s (Wp.s (Wp.s ⟨g5, Wp.s (Wp.s (Wp.s (Wp.s (Wp.s ⟨(by decide), Wp.s (Wp.s (Wp.s ⟨(by decide), Wp.s (Wp.s (Wp.s (Wp.s ⟨(by decide), Wp.s (Wp.s (Wp.s h))⟩)))⟩))⟩))))⟩))))))⟩))))))⟩))))))⟩)))))))⟩)))))
theorem X_lies_0_b0 {d : Nat} {n1 : Int} {Q : MV → Wd → Prop} {x1 x2 : Int} {w : Wd} (h : Cw d 53 [mR 4, mI x1] w (fun r w' => Wp (Cw d) cd_X_lies (1, 0, n1) Q 4 [mR 0, mI x1, mI x2, none] [r] w')) : Wp (Cw d) cd_X_lies (1, 0, n1) Q 0 [mR 0, mI x1, mI x2, none] [] w :=
  Wp.s (Wp.s (Wp.s (Wp.s h)))
theorem X_lies_0_b4 {d : Nat} {n1 : Int} {Q : MV → Wd → Prop} {x1 x2 s0 : Int} {w : Wd} (h1 : s0 = 0 → Wp (Cw d) cd_X_lies (1, 0, n1) Q 10 [none, none, none, none] [] w) (h2 : ¬ (s0 = 0) → Wp (Cw d) cd_X_lies (1, 0, n1) Q 5 [mR 0, mI x1, mI x2, none] [] w) : Wp (Cw d) cd_X_lies (1, 0, n1) Q 4 [mR 0, mI x1, mI x2, none] [mI s0] w :=
  Wp.s ⟨fun q => Wp.fgd (leA.f (leA.f (leA.f (leA.f leA.e)))) (h1 q), fun q => h2 q⟩
theorem X_lies_0_b5 {d : Nat} {n1 : Int} {Q : MV → Wd → Prop} {x1 x2 : Int} {w : Wd} (h1 : x2 < 0 → Wp (Cw d) cd_X_lies (1, 0, n1) Q 10 [none, none, none, none] [] w) (h2 : ¬ (x2 < 0) → Wp (Cw d) cd_X_lies (1, 0, n1) Q 7 [mR 0, mI x1, mI x2, none] [] w) : Wp (Cw d) cd_X_lies (1, 0, n1) Q 5 [mR 0, mI x1, mI x2, none] [] w :=
  Wp.s (Wp.s ⟨fun q => Wp.fgd (leA.f (leA.f (leA.f (leA.f leA.e)))) (h1 q), fun q => h2 q⟩)
theorem X_lies_0_b7 {d : Nat} {n1 : Int} {Q : MV → Wd → Prop} {x1 x2 : Int} {w : Wd} (h1 : x2 ≤ 2 → Wp (Cw d) cd_X_lies (1, 0, n1) Q 12 [mR 0, mI x1, mI x2, none] [] w) (h2 : ¬ (x2 ≤ 2) → Wp (Cw d) cd_X_lies (1, 0, n1) Q 10 [none, none, none, none] [] w) : Wp (Cw d) cd_X_lies (1, 0, n1) Q 7 [mR 0, mI x1, mI x2, none] [] w :=
  Wp.s (Wp.s (Wp.s ⟨fun q => h1 q, fun q => Wp.fgd (leA.f (leA.f (leA.f (leA.f leA.e)))) (h2 q)⟩))
theorem X_lies_0_b10 {d : Nat} {n1 : Int} {Q : MV → Wd → Prop} {w : Wd} (h : Q (mI ((-1))) w) : Wp (Cw d) cd_X_lies (1, 0, n1) Q 10 [none, none, none, none] [] w :=
  Wp.s (Wp.s h)
theorem X_lies_0_b12 {d : Nat} {n1 : Int} {Q : MV → Wd → Prop} {x1 x2 : Int} {w : Wd} (h : Cw d 160 [mR 36, mI x1, mR 4] w (fun r w' => Wp (Cw d) cd_X_lies (1, 0, n1) Q 18 [mR 0, mI x1, mI x2, none] [r] w')) : Wp (Cw d) cd_X_lies (1, 0, n1) Q 12 [mR 0, mI x1, mI x2, none] [] w :=
  Wp.s (Wp.s (Wp.s (Wp.s (Wp.s (Wp.s h)))))
theorem X_lies_0_b18 {d : Nat} {n1 : Int} {Q : MV → Wd → Prop} {x1 x2 s0 : Int} {w : Wd} (h1 : ¬ x2 = 0 → Wp (Cw d) cd_X_lies (1, 0, n1) Q 24 [mR 0, mI x1, mI x2, mI s0] [] w) (h2 : ¬ (¬ x2 = 0) → Wp (Cw d) cd_X_lies (1, 0, n1) Q 21 [none, none, none, mI s0] [] w) : Wp (Cw d) cd_X_lies (1, 0, n1) Q 18 [mR 0, mI x1, mI x2, none] [mI s0] w :=
  Wp.s (Wp.s (Wp.s ⟨fun q => h1 q, fun q => Wp.fgd (leA.f (leA.f (leA.f (leA.k leA.e)))) (h2 q)⟩))
theorem X_lies_0_b21 {d : Nat} {n1 : Int} {Q : MV → Wd → Prop} {x3 : Int} {w : Wd} (h : Cw d 278 [mI x3] w (fun r w' => Wp (Cw d) cd_X_lies (1, 0, n1) Q 23 [none, none, none, none] [r] w')) : Wp (Cw d) cd_X_lies (1, 0, n1) Q 21 [none, none, none, mI x3] [] w :=
  Wp.s (Wp.s (Cw_mono _ _ _ _ _ _ (fun r w' q => Wp.fgd (leA.f (leA.f (leA.f (leA.f leA.e)))) q) h))
theorem X_lies_0_b23 {d : Nat} {n1 : Int} {Q : MV → Wd → Prop} {s0 : Int} {w : Wd} (h : Q (mI s0) w) : Wp (Cw d) cd_X_lies (1, 0, n1) Q 23 [none, none, none, none] [mI s0] w :=
  Wp.s h
theorem X_lies_0_b24 {d : Nat} {n1 : Int} {Q : MV → Wd → Prop} {x1 x2 x3 : Int} {w : Wd} (h1 : ¬ x2 = 1 → Wp (Cw d) cd_X_lies (1, 0, n1) Q 29 [mR 0, mI x1, none, mI x3] [] w) (h2 : ¬ (¬ x2 = 1) → Wp (Cw d) cd_X_lies (1, 0, n1) Q 27 [none, none, none, mI x3] [] w) : Wp (Cw d) cd_X_lies (1, 0, n1) Q 24 [mR 0, mI x1, mI x2, mI x3] [] w :=
  Wp.s (Wp.s (Wp.s ⟨fun q => Wp.fgd (leA.k (leA.k (leA.f (leA.k leA.e)))) (h1 q), fun q => Wp.fgd (leA.f (leA.f (leA.f (leA.k leA.e)))) (h2 q)⟩))
theorem X_lies_0_b27 {d : Nat} {n1 : Int} {Q : MV → Wd → Prop} {x3 : Int} {w : Wd} (h : Wp (Cw d) cd_X_lies (1, 0, n1) Q 36 [none, none, none, none] [mI x3] w) : Wp (Cw d) cd_X_lies (1, 0, n1) Q 27 [none, none, none, mI x3] [] w :=
  Wp.s (Wp.s (Wp.fgd (leA.f (leA.f (leA.f (leA.f leA.e)))) h))
theorem X_lies_0_b29 {d : Nat} {n1 : Int} {Q : MV → Wd → Prop} {x1 x3 : Int} {w : Wd} (h : Cw d 163 [mR 36, mI x1, mI x3, mR 4] w (fun r w' => Wp (Cw d) cd_X_lies (1, 0, n1) Q 36 [none, none, none, none] [r] w')) : Wp (Cw d) cd_X_lies (1, 0, n1) Q 29 [mR 0, mI x1, none, mI x3] [] w :=
  Wp.s (Wp.s (Wp.s (Wp.s (Wp.s (Wp.s (Wp.s (Cw_mono _ _ _ _ _ _ (fun r w' q => Wp.fgd (leA.f (leA.f (leA.f (leA.f leA.e)))) q) h)))))))
theorem X_lies_0_b36 {d : Nat} {n1 : Int} {Q : MV → Wd → Prop} {s0 : Int} {w : Wd} (h : Q (mI s0) w) : Wp (Cw d) cd_X_lies (1, 0, n1) Q 36 [none, none, none, none] [mI s0] w :=
  Wp.s h
theorem M_lies_144_b0 {d : Nat} {n1 : Int} {Q : MV → Wd → Prop} {x1 x2 : Int} {w : Wd} (h : Cw d 199 [mR 144, mI x1] (ub w 144 0 0) (fun r w' => Wp (Cw d) cd_M_lies (1, 0, n1) Q 6 [mR 144, mI x1, mI x2, none, none] [r] w')) : Wp (Cw d) cd_M_lies (1, 0, n1) Q 0 [mR 144, mI x1, mI x2, none, none] [] w :=
  Wp.s (Wp.s (Wp.s (Wp.s (Wp.s (Wp.s h)))))
theorem M_lies_144_b6 {d : Nat} {n1 : Int} {Q : MV → Wd → Prop} {x1 x2 s0 : Int} {w : Wd} (h1 : s0 = 0 → Wp (Cw d) cd_M_lies (1, 0, n1) Q 12 [none, none, none, none, none] [] w) (h2 : ¬ (s0 = 0) → Wp (Cw d) cd_M_lies (1, 0, n1) Q 7 [mR 144, mI x1, mI x2, none, none] [] w) : Wp (Cw d) cd_M_lies (1, 0, n1) Q 6 [mR 144, mI x1, mI x2, none, none] [mI s0] w :=
  Wp.s ⟨fun q => Wp.fgd (leA.f (leA.f (leA.f (leA.f (leA.f leA.e))))) (h1 q), fun q => h2 q⟩
theorem M_lies_144_b7 {d : Nat} {n1 : Int} {Q : MV → Wd → Prop} {x1 x2 : Int} {w : Wd} (h : Cw d 187 [mI x2, mI 0, mI 2] w (fun r w' => Wp (Cw d) cd_M_lies (1, 0, n1) Q 11 [mR 144, mI x1, mI x2, none, none] [r] w')) : Wp (Cw d) cd_M_lies (1, 0, n1) Q 7 [mR 144, mI x1, mI x2, none, none] [] w :=
  Wp.s (Wp.s (Wp.s (Wp.s h)))
theorem M_lies_144_b11 {d : Nat} {n1 : Int} {Q : MV → Wd → Prop} {x1 x2 s0 : Int} {w : Wd} (h1 : ¬ s0 = 0 → Wp (Cw d) cd_M_lies (1, 0, n1) Q 14 [mR 144, mI x1, mI x2, none, none] [] w) (h2 : ¬ (¬ s0 = 0) → Wp (Cw d) cd_M_lies (1, 0, n1) Q 12 [none, none, none, none, none] [] w) : Wp (Cw d) cd_M_lies (1, 0, n1) Q 11 [mR 144, mI x1, mI x2, none, none] [mI s0] w :=
  Wp.s ⟨fun q => h1 q, fun q => Wp.fgd (leA.f (leA.f (leA.f (leA.f (leA.f leA.e))))) (h2 q)⟩
theorem M_lies_144_b12 {d : Nat} {n1 : Int} {Q : MV → Wd → Prop} {w : Wd} (h : Q (mI ((-1))) w) : Wp (Cw d) cd_M_lies (1, 0, n1) Q 12 [none, none, none, none, none] [] w :=
  Wp.s (Wp.s h)
theorem M_lies_144_b14 {d : Nat} {n1 : Int} {Q : MV → Wd → Prop} {x1 x2 : Int} {w : Wd} (h : Cw d 270 [mR 144, mI x1] w (fun _ w' => Wp (Cw d) cd_M_lies (1, 0, n1) Q 17 [mR 144, mI x1, mI x2, none, none] [] w')) : Wp (Cw d) cd_M_lies (1, 0, n1) Q 14 [mR 144, mI x1, mI x2, none, none] [] w :=
  Wp.s (Wp.s (Wp.s h))
theorem M_lies_144_b17 {d : Nat} {n1 : Int} {Q : MV → Wd → Prop} {x1 x2 : Int} {w : Wd} (h : Wp (Cw d) cd_M_lies (1, 0, n1) Q 26 [mR 144, mI x1, mI x2, mI (w32 ((ishl 1 (w 144 75)) - 1)), mI 0] [] w) : Wp (Cw d) cd_M_lies (1, 0, n1) Q 17 [mR 144, mI x1, mI x2, none, none] [] w :=
  Wp.s (Wp.s (Wp.s (Wp.s (Wp.s (Wp.s (Wp.s (Wp.s (Wp.s h))))))))
theorem M_lies_144_b26 {d : Nat} {n1 : Int} {Q : MV → Wd → Prop} {x1 x2 x3 x4 : Int} {w : Wd} (h1 : ishl 1 (w 144 75) ≤ x4 → Wp (Cw d) cd_M_lies (1, 0, n1) Q 46 [mR 144, mI x1, mI x2, mI x3, none] [] w) (h2 : ¬ (ishl 1 (w 144 75) ≤ x4) → Wp (Cw d) cd_M_lies (1, 0, n1) Q 32 [mR 144, mI x1, mI x2, mI x3, mI x4] [] w) : Wp (Cw d) cd_M_lies (1, 0, n1) Q 26 [mR 144, mI x1, mI x2, mI x3, mI x4] [] w :=
  Wp.s (Wp.s (Wp.s (Wp.s (Wp.s (Wp.s ⟨fun q => Wp.fgd (leA.k (leA.k (leA.k (leA.k (leA.f leA.e))))) (h1 q), fun q => h2 q⟩)))))
theorem M_lies_144_b32 {d : Nat} {n1 : Int} {Q : MV → Wd → Prop} {x1 x2 x3 x4 : Int} {w : Wd} (h : Cw d 225 [mI x4] w (fun r w' => Wp (Cw d) cd_M_lies (1, 0, n1) Q 34 [mR 144, mI x1, mI x2, mI x3, mI x4] [r] w')) : Wp (Cw d) cd_M_lies (1, 0, n1) Q 32 [mR 144, mI x1, mI x2, mI x3, mI x4] [] w :=
  Wp.s (Wp.s h)
theorem M_lies_144_b34 {d : Nat} {n1 : Int} {Q : MV → Wd → Prop} {x1 x2 x3 x4 s0 : Int} {w : Wd} (h : Cw d 225 [mI x3] w (fun r w' => Wp (Cw d) cd_M_lies (1, 0, n1) Q 36 [mR 144, mI x1, mI x2, mI x3, mI x4] [r, mI s0] w')) : Wp (Cw d) cd_M_lies (1, 0, n1) Q 34 [mR 144, mI x1, mI x2, mI x3, mI x4] [mI s0] w :=
  Wp.s (Wp.s h)
theorem M_lies_144_b36 {d : Nat} {n1 : Int} {Q : MV → Wd → Prop} {x1 x2 x3 x4 s0 s1 : Int} {w : Wd} (h1 : s0 ≤ s1 → Wp (Cw d) cd_M_lies (1, 0, n1) Q 44 [mR 144, mI x1, mI x2, mI x3, mI x4] [] w) (h2 : ¬ (s0 ≤ s1) → Wp (Cw d) cd_M_lies (1, 0, n1) Q 37 [mR 144, mI x1, mI x2, mI x3, mI x4] [] w) : Wp (Cw d) cd_M_lies (1, 0, n1) Q 36 [mR 144, mI x1, mI x2, mI x3, mI x4] [mI s0, mI s1] w :=
  Wp.s ⟨fun q => h1 q, fun q => h2 q⟩
theorem M_lies_144_b37 {d : Nat} {n1 : Int} {Q : MV → Wd → Prop} {x1 x2 x3 x4 : Int} {w : Wd} (h : Cw d 272 [mR 144, mI x1, mI x4] w (fun r w' => Wp (Cw d) cd_M_lies (1, 0, n1) Q 41 [mR 144, mI x1, mI x2, mI x3, mI x4] [r] w')) : Wp (Cw d) cd_M_lies (1, 0, n1) Q 37 [mR 144, mI x1, mI x2, mI x3, mI x4] [] w :=
  Wp.s (Wp.s (Wp.s (Wp.s h)))
theorem M_lies_144_b41 {d : Nat} {n1 : Int} {Q : MV → Wd → Prop} {x1 x2 x3 x4 s0 : Int} {w : Wd} (h1 : s0 = 0 → Wp (Cw d) cd_M_lies (1, 0, n1) Q 44 [mR 144, mI x1, mI x2, mI x3, mI x4] [] w) (h2 : ¬ (s0 = 0) → Wp (Cw d) cd_M_lies (1, 0, n1) Q 42 [mR 144, mI x1, mI x2, none, mI x4] [] w) : Wp (Cw d) cd_M_lies (1, 0, n1) Q 41 [mR 144, mI x1, mI x2, mI x3, mI x4] [mI s0] w :=
  Wp.s ⟨fun q => h1 q, fun q => Wp.fgd (leA.k (leA.k (leA.k (leA.f (leA.k leA.e))))) (h2 q)⟩
theorem M_lies_144_b42 {d : Nat} {n1 : Int} {Q : MV → Wd → Prop} {x1 x2 x4 : Int} {w : Wd} (h : Wp (Cw d) cd_M_lies (1, 0, n1) Q 44 [mR 144, mI x1, mI x2, mI x4, mI x4] [] w) : Wp (Cw d) cd_M_lies (1, 0, n1) Q 42 [mR 144, mI x1, mI x2, none, mI x4] [] w :=
  Wp.s (Wp.s h)
theorem M_lies_144_b44 {d : Nat} {n1 : Int} {Q : MV → Wd → Prop} {x1 x2 x3 x4 : Int} {w : Wd} (h : Wp (Cw d) cd_M_lies (1, 0, n1) Q 26 [mR 144, mI x1, mI x2, mI x3, mI (w32 (x4 + 1))] [] w) : Wp (Cw d) cd_M_lies (1, 0, n1) Q 44 [mR 144, mI x1, mI x2, mI x3, mI x4] [] w :=
  Wp.s (Wp.s h)
theorem M_lies_144_b46 {d : Nat} {n1 : Int} {Q : MV → Wd → Prop} {x1 x2 x3 : Int} {w : Wd} (h1 : 2 ≤ x2 → Wp (Cw d) cd_M_lies (1, 0, n1) Q 56 [mR 144, mI x1, none, mI x3, none] [] w) (h2 : ¬ (2 ≤ x2) → Wp (Cw d) cd_M_lies (1, 0, n1) Q 49 [none, none, mI x2, mI x3, none] [] w) : Wp (Cw d) cd_M_lies (1, 0, n1) Q 46 [mR 144, mI x1, mI x2, mI x3, none] [] w :=
  Wp.s (Wp.s (Wp.s ⟨fun q => Wp.fgd (leA.k (leA.k (leA.f (leA.k (leA.f leA.e))))) (h1 q), fun q => Wp.fgd (leA.f (leA.f (leA.k (leA.k (leA.f leA.e))))) (h2 q)⟩))
theorem M_lies_144_b49 {d : Nat} {n1 : Int} {Q : MV → Wd → Prop} {x2 x3 : Int} {w : Wd} (h1 : ¬ x2 = 0 → Wp (Cw d) cd_M_lies (1, 0, n1) Q 54 [none, none, none, mI x3, none] [] w) (h2 : ¬ (¬ x2 = 0) → Wp (Cw d) cd_M_lies (1, 0, n1) Q 51 [none, none, none, mI x3, none] [] w) : Wp (Cw d) cd_M_lies (1, 0, n1) Q 49 [none, none, mI x2, mI x3, none] [] w :=
  Wp.s (Wp.s ⟨fun q => Wp.fgd (leA.f (leA.f (leA.f (leA.k (leA.f leA.e))))) (h1 q), fun q => Wp.fgd (leA.f (leA.f (leA.f (leA.k (leA.f leA.e))))) (h2 q)⟩)
theorem M_lies_144_b51 {d : Nat} {n1 : Int} {Q : MV → Wd → Prop} {x3 : Int} {w : Wd} (h : Cw d 225 [mI x3] w (fun r w' => Wp (Cw d) cd_M_lies (1, 0, n1) Q 53 [none, none, none, none, none] [r] w')) : Wp (Cw d) cd_M_lies (1, 0, n1) Q 51 [none, none, none, mI x3, none] [] w :=
  Wp.s (Wp.s (Cw_mono _ _ _ _ _ _ (fun r w' q => Wp.fgd (leA.f (leA.f (leA.f (leA.f (leA.f leA.e))))) q) h))
theorem M_lies_144_b53 {d : Nat} {n1 : Int} {Q : MV → Wd → Prop} {s0 : Int} {w : Wd} (h : Wp (Cw d) cd_M_lies (1, 0, n1) Q 55 [none, none, none, none, none] [mI s0] w) : Wp (Cw d) cd_M_lies (1, 0, n1) Q 53 [none, none, none, none, none] [mI s0] w :=
  Wp.s h
theorem M_lies_144_b54 {d : Nat} {n1 : Int} {Q : MV → Wd → Prop} {x3 : Int} {w : Wd} (h : Wp (Cw d) cd_M_lies (1, 0, n1) Q 55 [none, none, none, none, none] [mI x3] w) : Wp (Cw d) cd_M_lies (1, 0, n1) Q 54 [none, none, none, mI x3, none] [] w :=
  Wp.s (Wp.fgd (leA.f (leA.f (leA.f (leA.f (leA.f leA.e))))) h)
theorem M_lies_144_b55 {d : Nat} {n1 : Int} {Q : MV → Wd → Prop} {s0 : Int} {w : Wd} (h : Q (mI s0) w) : Wp (Cw d) cd_M_lies (1, 0, n1) Q 55 [none, none, none, none, none] [mI s0] w :=
  Wp.s h
theorem M_lies_144_b56 {d : Nat} {n1 : Int} {Q : MV → Wd → Prop} {x1 x3 : Int} {w : Wd} (h : Cw d 272 [mR 144, mI x1, mI x3] w (fun r w' => Wp (Cw d) cd_M_lies (1, 0, n1) Q 60 [mR 144, mI x1, none, none, none] [r] w')) : Wp (Cw d) cd_M_lies (1, 0, n1) Q 56 [mR 144, mI x1, none, mI x3, none] [] w :=
  Wp.s (Wp.s (Wp.s (Wp.s (Cw_mono _ _ _ _ _ _ (fun r w' q => Wp.fgd (leA.k (leA.k (leA.f (leA.f (leA.f leA.e))))) q) h))))
theorem M_lies_144_b60 {d : Nat} {n1 : Int} {Q : MV → Wd → Prop} {x1 s0 : Int} {w : Wd} (h1 : 0 ≤ w 144 76 → Wp (Cw d) cd_M_lies (1, 0, n1) Q 75 [mR 144, none, none, none, none] [] w) (h2 : ¬ (0 ≤ w 144 76) → Wp (Cw d) cd_M_lies (1, 0, n1) Q 64 [mR 144, mI x1, none, none, none] [] w) : Wp (Cw d) cd_M_lies (1, 0, n1) Q 60 [mR 144, mI x1, none, none, none] [mI s0] w :=
  Wp.s (Wp.s (Wp.s (Wp.s ⟨fun q => Wp.fgd (leA.k (leA.f (leA.f (leA.f (leA.f leA.e))))) (h1 q), fun q => h2 q⟩)))
theorem M_lies_144_b64 {d : Nat} {n1 : Int} {Q : MV → Wd → Prop} {x1 : Int} {w : Wd} (g1 : (0 : Int) ≤ w32 ((w32 (29 + (w32 (5 * x1)))) + 2) ∧ w32 ((w32 (29 + (w32 (5 * x1)))) + 2) < 645) (h : Wp (Cw d) cd_M_lies (1, 0, n1) Q 77 [none, none, none, none, none] [mI (w 146 (w32 ((w32 (29 + (w32 (5 * x1)))) + 2)).toNat)] w) : Wp (Cw d) cd_M_lies (1, 0, n1) Q 64 [mR 144, mI x1, none, none, none] [] w :=
  Wp.s (Wp.s (Wp.s (Wp.s (Wp.s (Wp.s (Wp.s (Wp.s (Wp.s (Wp.s ⟨g1, Wp.s (Wp.fgd (leA.f (leA.f (leA.f (leA.f (leA.f leA.e))))) h)⟩)))))))))
theorem M_lies_144_b75 {d : Nat} {n1 : Int} {Q : MV → Wd → Prop} {w : Wd} (h : Wp (Cw d) cd_M_lies (1, 0, n1) Q 77 [none, none, none, none, none] [mI (w 144 76)] w) : Wp (Cw d) cd_M_lies (1, 0, n1) Q 75 [mR 144, none, none, none, none] [] w :=
  Wp.s (Wp.s (Wp.fgd (leA.f (leA.f (leA.f (leA.f (leA.f leA.e))))) h))
theorem M_lies_144_b77 {d : Nat} {n1 : Int} {Q : MV → Wd → Prop} {s0 : Int} {w : Wd} (h : Q (mI s0) w) : Wp (Cw d) cd_M_lies (1, 0, n1) Q 77 [none, none, none, none, none] [mI s0] w :=
  Wp.s h
theorem X_image_0_k0_b0 {d : Nat} {n1 : Int} {Q : MV → Wd → Prop} {w : Wd} (h1 : (0 : Int) < 0 → Wp (Cw d) cd_X_image (2, 0, n1) Q 7 [none, none, none] [] w) (h2 : ¬ ((0 : Int) < 0) → Wp (Cw d) cd_X_image (2, 0, n1) Q 2 [mR 0, mI 0, none] [] w) : Wp (Cw d) cd_X_image (2, 0, n1) Q 0 [mR 0, mI 0, none] [] w :=
  Wp.s (Wp.s ⟨fun q => Wp.fgd (leA.f (leA.f (leA.f leA.e))) (h1 q), fun q => h2 q⟩)
theorem X_image_0_k0_b2 {d : Nat} {n1 : Int} {Q : MV → Wd → Prop} {w : Wd} (h1 : (0 : Int) < 2 → Wp (Cw d) cd_X_image (2, 0, n1) Q 9 [mR 0, mI 0, none] [] w) (h2 : ¬ ((0 : Int) < 2) → Wp (Cw d) cd_X_image (2, 0, n1) Q 7 [none, none, none] [] w) : Wp (Cw d) cd_X_image (2, 0, n1) Q 2 [mR 0, mI 0, none] [] w :=
  Wp.s (Wp.s (Wp.s (Wp.s (Wp.s ⟨fun q => h1 q, fun q => Wp.fgd (leA.f (leA.f (leA.f leA.e))) (h2 q)⟩))))
theorem X_image_0_k0_b7 {d : Nat} {n1 : Int} {Q : MV → Wd → Prop} {w : Wd} (h : Q (mI 0) w) : Wp (Cw d) cd_X_image (2, 0, n1) Q 7 [none, none, none] [] w :=
  Wp.s (Wp.s ⟨(Or.inl rfl), h⟩)
theorem X_image_0_k0_b9 {d : Nat} {n1 : Int} {Q : MV → Wd → Prop} {w : Wd} (h : Cw d 47 [mR 45, mR 4] w (fun _ w' => Wp (Cw d) cd_X_image (2, 0, n1) Q 19 [mR 0, none, mR 44] [] w')) : Wp (Cw d) cd_X_image (2, 0, n1) Q 9 [mR 0, mI 0, none] [] w :=
  Wp.s (Wp.s (Wp.s (Wp.s ⟨(by decide), Wp.s (Wp.s (Wp.s (Wp.s (Wp.s (Wp.s (Cw_mono _ _ _ _ _ _ (fun r w' q => Wp.fgd (leA.k (leA.f (leA.k leA.e))) q) h))))))⟩)))
theorem X_image_0_k0_b19 {d : Nat} {n1 : Int} {Q : MV → Wd → Prop} {w : Wd} (h : Cw d 101 [mR 57, mR 28] w (fun _ w' => Wp (Cw d) cd_X_image (2, 0, n1) Q 24 [mR 0, none, mR 44] [] w')) : Wp (Cw d) cd_X_image (2, 0, n1) Q 19 [mR 0, none, mR 44] [] w :=
  Wp.s (Wp.s (Wp.s (Wp.s (Wp.s h))))
theorem X_image_0_k0_b24 {d : Nat} {n1 : Int} {Q : MV → Wd → Prop} {w : Wd} (h : Cw d 165 [mR 61, mR 36] w (fun _ w' => Wp (Cw d) cd_X_image (2, 0, n1) Q 29 [none, none, mR 44] [] w')) : Wp (Cw d) cd_X_image (2, 0, n1) Q 24 [mR 0, none, mR 44] [] w :=
  Wp.s (Wp.s (Wp.s (Wp.s (Wp.s (Cw_mono _ _ _ _ _ _ (fun r w' q => Wp.fgd (leA.f (leA.f (leA.k leA.e))) q) h)))))
theorem X_image_0_k0_b29 {d : Nat} {n1 : Int} {Q : MV → Wd → Prop} {w : Wd} (h : Q (mI 1) (ub w 44 0 1)) : Wp (Cw d) cd_X_image (2, 0, n1) Q 29 [none, none, mR 44] [] w :=
  Wp.s (Wp.s (Wp.s ⟨(Or.inr rfl), Wp.s (Wp.s ⟨(Or.inr rfl), h⟩)⟩))
theorem X_image_0_k1_b0 {d : Nat} {n1 : Int} {Q : MV → Wd → Prop} {w : Wd} (h1 : (1 : Int) < 0 → Wp (Cw d) cd_X_image (2, 0, n1) Q 7 [none, none, none] [] w) (h2 : ¬ ((1 : Int) < 0) → Wp (Cw d) cd_X_image (2, 0, n1) Q 2 [mR 0, mI 1, none] [] w) : Wp (Cw d) cd_X_image (2, 0, n1) Q 0 [mR 0, mI 1, none] [] w :=
  Wp.s (Wp.s ⟨fun q => Wp.fgd (leA.f (leA.f (leA.f leA.e))) (h1 q), fun q => h2 q⟩)
theorem X_image_0_k1_b2 {d : Nat} {n1 : Int} {Q : MV → Wd → Prop} {w : Wd} (h1 : (1 : Int) < 2 → Wp (Cw d) cd_X_image (2, 0, n1) Q 9 [mR 0, mI 1, none] [] w) (h2 : ¬ ((1 : Int) < 2) → Wp (Cw d) cd_X_image (2, 0, n1) Q 7 [none, none, none] [] w) : Wp (Cw d) cd_X_image (2, 0, n1) Q 2 [mR 0, mI 1, none] [] w :=
  Wp.s (Wp.s (Wp.s (Wp.s (Wp.s ⟨fun q => h1 q, fun q => Wp.fgd (leA.f (leA.f (leA.f leA.e))) (h2 q)⟩))))
theorem X_image_0_k1_b7 {d : Nat} {n1 : Int} {Q : MV → Wd → Prop} {w : Wd} (h : Q (mI 0) w) : Wp (Cw d) cd_X_image (2, 0, n1) Q 7 [none, none, none] [] w :=
  Wp.s (Wp.s ⟨(Or.inl rfl), h⟩)
theorem X_image_0_k1_b9 {d : Nat} {n1 : Int} {Q : MV → Wd → Prop} {w : Wd} (h : Cw d 47 [mR 69, mR 4] w (fun _ w' => Wp (Cw d) cd_X_image (2, 0, n1) Q 19 [mR 0, none, mR 68] [] w')) : Wp (Cw d) cd_X_image (2, 0, n1) Q 9 [mR 0, mI 1, none] [] w :=
  Wp.s (Wp.s (Wp.s (Wp.s ⟨(by decide), Wp.s (Wp.s (Wp.s (Wp.s (Wp.s (Wp.s (Cw_mono _ _ _ _ _ _ (fun r w' q => Wp.fgd (leA.k (leA.f (leA.k leA.e))) q) h))))))⟩)))
theorem X_image_0_k1_b19 {d : Nat} {n1 : Int} {Q : MV → Wd → Prop} {w : Wd} (h : Cw d 101 [mR 81, mR 28] w (fun _ w' => Wp (Cw d) cd_X_image (2, 0, n1) Q 24 [mR 0, none, mR 68] [] w')) : Wp (Cw d) cd_X_image (2, 0, n1) Q 19 [mR 0, none, mR 68] [] w :=
  Wp.s (Wp.s (Wp.s (Wp.s (Wp.s h))))
theorem X_image_0_k1_b24 {d : Nat} {n1 : Int} {Q : MV → Wd → Prop} {w : Wd} (h : Cw d 165 [mR 85, mR 36] w (fun _ w' => Wp (Cw d) cd_X_image (2, 0, n1) Q 29 [none, none, mR 68] [] w')) : Wp (Cw d) cd_X_image (2, 0, n1) Q 24 [mR 0, none, mR 68] [] w :=
  Wp.s (Wp.s (Wp.s (Wp.s (Wp.s (Cw_mono _ _ _ _ _ _ (fun r w' q => Wp.fgd (leA.f (leA.f (leA.k leA.e))) q) h)))))
theorem X_image_0_k1_b29 {d : Nat} {n1 : Int} {Q : MV → Wd → Prop} {w : Wd} (h : Q (mI 1) (ub w 68 0 1)) : Wp (Cw d) cd_X_image (2, 0, n1) Q 29 [none, none, mR 68] [] w :=
  Wp.s (Wp.s (Wp.s ⟨(Or.inr rfl), Wp.s (Wp.s ⟨(Or.inr rfl), h⟩)⟩))
theorem M_image_144_b0 {d : Nat} {n1 : Int} {Q : MV → Wd → Prop} {x1 : Int} {w : Wd} (h : Cw d 187 [mI x1, mI 0, mI 1] (ub w 144 0 0) (fun r w' => Wp (Cw d) cd_M_image (2, 0, n1) Q 7 [mR 144, mI x1, none] [r] w')) : Wp (Cw d) cd_M_image (2, 0, n1) Q 0 [mR 144, mI x1, none] [] w :=
  Wp.s (Wp.s (Wp.s (Wp.s (Wp.s (Wp.s (Wp.s h))))))
theorem M_image_144_b7 {d : Nat} {n1 : Int} {Q : MV → Wd → Prop} {x1 s0 : Int} {w : Wd} (h1 : ¬ s0 = 0 → Wp (Cw d) cd_M_image (2, 0, n1) Q 10 [mR 144, mI x1, none] [] w) (h2 : ¬ (¬ s0 = 0) → Wp (Cw d) cd_M_image (2, 0, n1) Q 8 [none, none, none] [] w) : Wp (Cw d) cd_M_image (2, 0, n1) Q 7 [mR 144, mI x1, none] [mI s0] w :=
  Wp.s ⟨fun q => h1 q, fun q => Wp.fgd (leA.f (leA.f (leA.f leA.e))) (h2 q)⟩
theorem M_image_144_b8 {d : Nat} {n1 : Int} {Q : MV → Wd → Prop} {w : Wd} (h : Q (mI 0) w) : Wp (Cw d) cd_M_image (2, 0, n1) Q 8 [none, none, none] [] w :=
  Wp.s (Wp.s ⟨(Or.inl rfl), h⟩)
theorem M_image_144_b10 {d : Nat} {n1 : Int} {Q : MV → Wd → Prop} {x1 : Int} {w : Wd} (h : Wp (Cw d) cd_M_image (2, 0, n1) Q 12 [mR 144, mI x1, mI 0] [] w) : Wp (Cw d) cd_M_image (2, 0, n1) Q 10 [mR 144, mI x1, none] [] w :=
  Wp.s (Wp.s h)
theorem M_image_144_b12 {d : Nat} {n1 : Int} {Q : MV → Wd → Prop} {x1 x2 : Int} {w : Wd} (h1 : 645 ≤ x2 → Wp (Cw d) cd_M_image (2, 0, n1) Q 29 [mR 144, mI x1, none] [] w) (h2 : ¬ (645 ≤ x2) → Wp (Cw d) cd_M_image (2, 0, n1) Q 15 [mR 144, mI x1, mI x2] [] w) : Wp (Cw d) cd_M_image (2, 0, n1) Q 12 [mR 144, mI x1, mI x2] [] w :=
  Wp.s (Wp.s (Wp.s ⟨fun q => Wp.fgd (leA.k (leA.k (leA.f leA.e))) (h1 q), fun q => h2 q⟩))
theorem M_image_144_b15 {d : Nat} {n1 : Int} {Q : MV → Wd → Prop} {x1 x2 : Int} {w : Wd} (g1 : (0 : Int) ≤ x2 ∧ x2 < 645) (g2 : (0 : Int) ≤ w32 ((w32 (645 * x1)) + x2) ∧ w32 ((w32 (645 * x1)) + x2) < 1290) (h : Wp (Cw d) cd_M_image (2, 0, n1) Q 12 [mR 144, mI x1, mI (w32 (x2 + 1))] [] (ub w 182 (w32 ((w32 (645 * x1)) + x2)).toNat (w 146 x2.toNat))) : Wp (Cw d) cd_M_image (2, 0, n1) Q 15 [mR 144, mI x1, mI x2] [] w :=
  Wp.s (Wp.s (Wp.s (Wp.s (Wp.s (Wp.s (Wp.s (Wp.s (Wp.s (Wp.s (Wp.s ⟨g1, Wp.s ⟨g2, Wp.s (Wp.s h)⟩⟩))))))))))
theorem M_image_144_b29 {d : Nat} {n1 : Int} {Q : MV → Wd → Prop} {x1 : Int} {w : Wd} (h : Wp (Cw d) cd_M_image (2, 0, n1) Q 31 [mR 144, mI x1, mI 0] [] w) : Wp (Cw d) cd_M_image (2, 0, n1) Q 29 [mR 144, mI x1, none] [] w :=
  Wp.s (Wp.s h)
theorem M_image_144_b31 {d : Nat} {n1 : Int} {Q : MV → Wd → Prop} {x1 x2 : Int} {w : Wd} (h1 : 14 ≤ x2 → Wp (Cw d) cd_M_image (2, 0, n1) Q 48 [mR 144, mI x1, none] [] w) (h2 : ¬ (14 ≤ x2) → Wp (Cw d) cd_M_image (2, 0, n1) Q 34 [mR 144, mI x1, mI x2] [] w) : Wp (Cw d) cd_M_image (2, 0, n1) Q 31 [mR 144, mI x1, mI x2] [] w :=
  Wp.s (Wp.s (Wp.s ⟨fun q => Wp.fgd (leA.k (leA.k (leA.f leA.e))) (h1 q), fun q => h2 q⟩))
theorem M_image_144_b34 {d : Nat} {n1 : Int} {Q : MV → Wd → Prop} {x1 x2 : Int} {w : Wd} (g1 : (0 : Int) ≤ x2 ∧ x2 < 28) (g2 : (0 : Int) ≤ w32 ((w32 (14 * x1)) + x2) ∧ w32 ((w32 (14 * x1)) + x2) < 28) (h : Wp (Cw d) cd_M_image (2, 0, n1) Q 31 [mR 144, mI x1, mI (w32 (x2 + 1))] [] (ub w 183 (w32 ((w32 (14 * x1)) + x2)).toNat (w 149 x2.toNat))) : Wp (Cw d) cd_M_image (2, 0, n1) Q 34 [mR 144, mI x1, mI x2] [] w :=
  Wp.s (Wp.s (Wp.s (Wp.s (Wp.s (Wp.s (Wp.s (Wp.s (Wp.s (Wp.s (Wp.s ⟨g1, Wp.s ⟨g2, Wp.s (Wp.s h)⟩⟩))))))))))
theorem M_image_144_b48 {d : Nat} {n1 : Int} {Q : MV → Wd → Prop} {x1 : Int} {w : Wd} (g1 : (0 : Int) ≤ x1 ∧ x1 < 2) (h : Q (mI 1) (ub w 184 x1.toNat 1)) : Wp (Cw d) cd_M_image (2, 0, n1) Q 48 [mR 144, mI x1, none] [] w :=
  Wp.s (Wp.s (Wp.s (Wp.s (Wp.s ⟨g1, (Or.inr rfl), Wp.s (Wp.s ⟨(Or.inr rfl), h⟩)⟩))))
theorem X_restore_0_k0_b0 {d : Nat} {n1 : Int} {Q : MV → Wd → Prop} {w : Wd} (h1 : (0 : Int) < 0 → Wp (Cw d) cd_X_restore (2, 0, n1) Q 13 [none, none, none] [] w) (h2 : ¬ ((0 : Int) < 0) → Wp (Cw d) cd_X_restore (2, 0, n1) Q 2 [mR 0, mI 0, none] [] w) : Wp (Cw d) cd_X_restore (2, 0, n1) Q 0 [mR 0, mI 0, none] [] w :=
  Wp.s (Wp.s ⟨fun q => Wp.fgd (leA.f (leA.f (leA.f leA.e))) (h1 q), fun q => h2 q⟩)
theorem X_restore_0_k0_b2 {d : Nat} {n1 : Int} {Q : MV → Wd → Prop} {w : Wd} (h1 : 2 ≤ (0 : Int) → Wp (Cw d) cd_X_restore (2, 0, n1) Q 13 [none, none, none] [] w) (h2 : ¬ (2 ≤ (0 : Int)) → Wp (Cw d) cd_X_restore (2, 0, n1) Q 7 [mR 0, mI 0, none] [] w) : Wp (Cw d) cd_X_restore (2, 0, n1) Q 2 [mR 0, mI 0, none] [] w :=
  Wp.s (Wp.s (Wp.s (Wp.s (Wp.s ⟨fun q => Wp.fgd (leA.f (leA.f (leA.f leA.e))) (h1 q), fun q => h2 q⟩))))
theorem X_restore_0_k0_b7 {d : Nat} {n1 : Int} {Q : MV → Wd → Prop} {w : Wd} (h1 : ¬ w 44 0 = 0 → Wp (Cw d) cd_X_restore (2, 0, n1) Q 15 [mR 0, mI 0, none] [] w) (h2 : ¬ (¬ w 44 0 = 0) → Wp (Cw d) cd_X_restore (2, 0, n1) Q 13 [none, none, none] [] w) : Wp (Cw d) cd_X_restore (2, 0, n1) Q 7 [mR 0, mI 0, none] [] w :=
  Wp.s (Wp.s (Wp.s (Wp.s ⟨(by decide), Wp.s (Wp.s ⟨fun q => h1 q, fun q => Wp.fgd (leA.f (leA.f (leA.f leA.e))) (h2 q)⟩)⟩)))
theorem X_restore_0_k0_b13 {d : Nat} {n1 : Int} {Q : MV → Wd → Prop} {w : Wd} (h : Q (mI 0) w) : Wp (Cw d) cd_X_restore (2, 0, n1) Q 13 [none, none, none] [] w :=
  Wp.s (Wp.s ⟨(Or.inl rfl), h⟩)
theorem X_restore_0_k0_b15 {d : Nat} {n1 : Int} {Q : MV → Wd → Prop} {w : Wd} (h : Cw d 47 [mR 4, mR 45] w (fun _ w' => Wp (Cw d) cd_X_restore (2, 0, n1) Q 25 [mR 0, none, mR 44] [] w')) : Wp (Cw d) cd_X_restore (2, 0, n1) Q 15 [mR 0, mI 0, none] [] w :=
  Wp.s (Wp.s (Wp.s (Wp.s ⟨(by decide), Wp.s (Wp.s (Wp.s (Wp.s (Wp.s (Wp.s (Cw_mono _ _ _ _ _ _ (fun r w' q => Wp.fgd (leA.k (leA.f (leA.k leA.e))) q) h))))))⟩)))
theorem X_restore_0_k0_b25 {d : Nat} {n1 : Int} {Q : MV → Wd → Prop} {w : Wd} (h : Cw d 101 [mR 28, mR 57] w (fun _ w' => Wp (Cw d) cd_X_restore (2, 0, n1) Q 30 [mR 0, none, mR 44] [] w')) : Wp (Cw d) cd_X_restore (2, 0, n1) Q 25 [mR 0, none, mR 44] [] w :=
  Wp.s (Wp.s (Wp.s (Wp.s (Wp.s h))))
theorem X_restore_0_k0_b30 {d : Nat} {n1 : Int} {Q : MV → Wd → Prop} {w : Wd} (h : Cw d 165 [mR 36, mR 61] w (fun _ w' => Wp (Cw d) cd_X_restore (2, 0, n1) Q 35 [mR 0, none, none] [] w')) : Wp (Cw d) cd_X_restore (2, 0, n1) Q 30 [mR 0, none, mR 44] [] w :=
  Wp.s (Wp.s (Wp.s (Wp.s (Wp.s (Cw_mono _ _ _ _ _ _ (fun r w' q => Wp.fgd (leA.k (leA.f (leA.f leA.e))) q) h)))))
theorem X_restore_0_k0_b35 {d : Nat} {n1 : Int} {Q : MV → Wd → Prop} {w : Wd} (h : Q (mI 1) (ub w 0 12 1)) : Wp (Cw d) cd_X_restore (2, 0, n1) Q 35 [mR 0, none, none] [] w :=
  Wp.s (Wp.s (Wp.s ⟨(Or.inr rfl), Wp.s (Wp.s ⟨(Or.inr rfl), h⟩)⟩))
theorem X_restore_0_k1_b0 {d : Nat} {n1 : Int} {Q : MV → Wd → Prop} {w : Wd} (h1 : (1 : Int) < 0 → Wp (Cw d) cd_X_restore (2, 0, n1) Q 13 [none, none, none] [] w) (h2 : ¬ ((1 : Int) < 0) → Wp (Cw d) cd_X_restore (2, 0, n1) Q 2 [mR 0, mI 1, none] [] w) : Wp (Cw d) cd_X_restore (2, 0, n1) Q 0 [mR 0, mI 1, none] [] w :=
  Wp.s (Wp.s ⟨fun q => Wp.fgd (leA.f (leA.f (leA.f leA.e))) (h1 q), fun q => h2 q⟩)
theorem X_restore_0_k1_b2 {d : Nat} {n1 : Int} {Q : MV → Wd → Prop} {w : Wd} (h1 : 2 ≤ (1 : Int) → Wp (Cw d) cd_X_restore (2, 0, n1) Q 13 [none, none, none] [] w) (h2 : ¬ (2 ≤ (1 : Int)) → Wp (Cw d) cd_X_restore (2, 0, n1) Q 7 [mR 0, mI 1, none] [] w) : Wp (Cw d) cd_X_restore (2, 0, n1) Q 2 [mR 0, mI 1, none] [] w :=
  Wp.s (Wp.s (Wp.s (Wp.s (Wp.s ⟨fun q => Wp.fgd (leA.f (leA.f (leA.f leA.e))) (h1 q), fun q => h2 q⟩))))
theorem X_restore_0_k1_b7 {d : Nat} {n1 : Int} {Q : MV → Wd → Prop} {w : Wd} (h1 : ¬ w 68 0 = 0 → Wp (Cw d) cd_X_restore (2, 0, n1) Q 15 [mR 0, mI 1, none] [] w) (h2 : ¬ (¬ w 68 0 = 0) → Wp (Cw d) cd_X_restore (2, 0, n1) Q 13 [none, none, none] [] w) : Wp (Cw d) cd_X_restore (2, 0, n1) Q 7 [mR 0, mI 1, none] [] w :=
  Wp.s (Wp.s (Wp.s (Wp.s ⟨(by decide), Wp.s (Wp.s ⟨fun q => h1 q, fun q => Wp.fgd (leA.f (leA.f (leA.f leA.e))) (h2 q)⟩)⟩)))
theorem X_restore_0_k1_b13 {d : Nat} {n1 : Int} {Q : MV → Wd → Prop} {w : Wd} (h : Q (mI 0) w) : Wp (Cw d) cd_X_restore (2, 0, n1) Q 13 [none, none, none] [] w :=
  Wp.s (Wp.s ⟨(Or.inl rfl), h⟩)
theorem X_restore_0_k1_b15 {d : Nat} {n1 : Int} {Q : MV → Wd → Prop} {w : Wd} (h : Cw d 47 [mR 4, mR 69] w (fun _ w' => Wp (Cw d) cd_X_restore (2, 0, n1) Q 25 [mR 0, none, mR 68] [] w')) : Wp (Cw d) cd_X_restore (2, 0, n1) Q 15 [mR 0, mI 1, none] [] w :=
  Wp.s (Wp.s (Wp.s (Wp.s ⟨(by decide), Wp.s (Wp.s (Wp.s (Wp.s (Wp.s (Wp.s (Cw_mono _ _ _ _ _ _ (fun r w' q => Wp.fgd (leA.k (leA.f (leA.k leA.e))) q) h))))))⟩)))
theorem X_restore_0_k1_b25 {d : Nat} {n1 : Int} {Q : MV → Wd → Prop} {w : Wd} (h : Cw d 101 [mR 28, mR 81] w (fun _ w' => Wp (Cw d) cd_X_restore (2, 0, n1) Q 30 [mR 0, none, mR 68] [] w')) : Wp (Cw d) cd_X_restore (2, 0, n1) Q 25 [mR 0, none, mR 68] [] w :=
  Wp.s (Wp.s (Wp.s (Wp.s (Wp.s h))))
theorem X_restore_0_k1_b30 {d : Nat} {n1 : Int} {Q : MV → Wd → Prop} {w : Wd} (h : Cw d 165 [mR 36, mR 85] w (fun _ w' => Wp (Cw d) cd_X_restore (2, 0, n1) Q 35 [mR 0, none, none] [] w')) : Wp (Cw d) cd_X_restore (2, 0, n1) Q 30 [mR 0, none, mR 68] [] w :=
  Wp.s (Wp.s (Wp.s (Wp.s (Wp.s (Cw_mono _ _ _ _ _ _ (fun r w' q => Wp.fgd (leA.k (leA.f (leA.f leA.e))) q) h)))))
theorem X_restore_0_k1_b35 {d : Nat} {n1 : Int} {Q : MV → Wd → Prop} {w : Wd} (h : Q (mI 1) (ub w 0 12 1)) : Wp (Cw d) cd_X_restore (2, 0, n1) Q 35 [mR 0, none, none] [] w :=
  Wp.s (Wp.s (Wp.s ⟨(Or.inr rfl), Wp.s (Wp.s ⟨(Or.inr rfl), h⟩)⟩))
theorem M_restore_144_b0 {d : Nat} {n1 : Int} {Q : MV → Wd → Prop} {x1 : Int} {w : Wd} (h : Cw d 187 [mI x1, mI 0, mI 1] (ub w 144 0 0) (fun r w' => Wp (Cw d) cd_M_restore (2, 0, n1) Q 7 [mR 144, mI x1, none] [r] w')) : Wp (Cw d) cd_M_restore (2, 0, n1) Q 0 [mR 144, mI x1, none] [] w :=
  Wp.s (Wp.s (Wp.s (Wp.s (Wp.s (Wp.s (Wp.s h))))))
theorem M_restore_144_b7 {d : Nat} {n1 : Int} {Q : MV → Wd → Prop} {x1 s0 : Int} {w : Wd} (h1 : s0 = 0 → Wp (Cw d) cd_M_restore (2, 0, n1) Q 13 [none, none, none] [] w) (h2 : ¬ (s0 = 0) → Wp (Cw d) cd_M_restore (2, 0, n1) Q 8 [mR 144, mI x1, none] [] w) : Wp (Cw d) cd_M_restore (2, 0, n1) Q 7 [mR 144, mI x1, none] [mI s0] w :=
  Wp.s ⟨fun q => Wp.fgd (leA.f (leA.f (leA.f leA.e))) (h1 q), fun q => h2 q⟩
theorem M_restore_144_b8 {d : Nat} {n1 : Int} {Q : MV → Wd → Prop} {x1 : Int} {w : Wd} (g1 : (0 : Int) ≤ x1 ∧ x1 < 2) (h1 : ¬ w 184 x1.toNat = 0 → Wp (Cw d) cd_M_restore (2, 0, n1) Q 15 [mR 144, mI x1, none] [] w) (h2 : ¬ (¬ w 184 x1.toNat = 0) → Wp (Cw d) cd_M_restore (2, 0, n1) Q 13 [none, none, none] [] w) : Wp (Cw d) cd_M_restore (2, 0, n1) Q 8 [mR 144, mI x1, none] [] w :=
  Wp.s (Wp.s (Wp.s (Wp.s ⟨g1, Wp.s ⟨fun q => h1 q, fun q => Wp.fgd (leA.f (leA.f (leA.f leA.e))) (h2 q)⟩⟩)))
theorem M_restore_144_b13 {d : Nat} {n1 : Int} {Q : MV → Wd → Prop} {w : Wd} (h : Q (mI 0) w) : Wp (Cw d) cd_M_restore (2, 0, n1) Q 13 [none, none, none] [] w :=
  Wp.s (Wp.s ⟨(Or.inl rfl), h⟩)
theorem M_restore_144_b15 {d : Nat} {n1 : Int} {Q : MV → Wd → Prop} {x1 : Int} {w : Wd} (h : Wp (Cw d) cd_M_restore (2, 0, n1) Q 17 [mR 144, mI x1, mI 0] [] w) : Wp (Cw d) cd_M_restore (2, 0, n1) Q 15 [mR 144, mI x1, none] [] w :=
  Wp.s (Wp.s h)
theorem M_restore_144_b17 {d : Nat} {n1 : Int} {Q : MV → Wd → Prop} {x1 x2 : Int} {w : Wd} (h1 : 645 ≤ x2 → Wp (Cw d) cd_M_restore (2, 0, n1) Q 34 [mR 144, mI x1, none] [] w) (h2 : ¬ (645 ≤ x2) → Wp (Cw d) cd_M_restore (2, 0, n1) Q 20 [mR 144, mI x1, mI x2] [] w) : Wp (Cw d) cd_M_restore (2, 0, n1) Q 17 [mR 144, mI x1, mI x2] [] w :=
  Wp.s (Wp.s (Wp.s ⟨fun q => Wp.fgd (leA.k (leA.k (leA.f leA.e))) (h1 q), fun q => h2 q⟩))
theorem M_restore_144_b20 {d : Nat} {n1 : Int} {Q : MV → Wd → Prop} {x1 x2 : Int} {w : Wd} (g1 : (0 : Int) ≤ w32 ((w32 (645 * x1)) + x2) ∧ w32 ((w32 (645 * x1)) + x2) < 1290) (g2 : (0 : Int) ≤ x2 ∧ x2 < 645) (h : Wp (Cw d) cd_M_restore (2, 0, n1) Q 17 [mR 144, mI x1, mI (w32 (x2 + 1))] [] (ub w 146 x2.toNat (w 182 (w32 ((w32 (645 * x1)) + x2)).toNat))) : Wp (Cw d) cd_M_restore (2, 0, n1) Q 20 [mR 144, mI x1, mI x2] [] w :=
  Wp.s (Wp.s (Wp.s (Wp.s (Wp.s (Wp.s (Wp.s (Wp.s (Wp.s (Wp.s (Wp.s ⟨g1, Wp.s ⟨g2, Wp.s (Wp.s h)⟩⟩))))))))))
theorem M_restore_144_b34 {d : Nat} {n1 : Int} {Q : MV → Wd → Prop} {x1 : Int} {w : Wd} (h : Wp (Cw d) cd_M_restore (2, 0, n1) Q 36 [mR 144, mI x1, mI 0] [] w) : Wp (Cw d) cd_M_restore (2, 0, n1) Q 34 [mR 144, mI x1, none] [] w :=
  Wp.s (Wp.s h)
theorem M_restore_144_b36 {d : Nat} {n1 : Int} {Q : MV → Wd → Prop} {x1 x2 : Int} {w : Wd} (h1 : 14 ≤ x2 → Wp (Cw d) cd_M_restore (2, 0, n1) Q 53 [none, none, none] [] w) (h2 : ¬ (14 ≤ x2) → Wp (Cw d) cd_M_restore (2, 0, n1) Q 39 [mR 144, mI x1, mI x2] [] w) : Wp (Cw d) cd_M_restore (2, 0, n1) Q 36 [mR 144, mI x1, mI x2] [] w :=
  Wp.s (Wp.s (Wp.s ⟨fun q => Wp.fgd (leA.f (leA.f (leA.f leA.e))) (h1 q), fun q => h2 q⟩))
theorem M_restore_144_b39 {d : Nat} {n1 : Int} {Q : MV → Wd → Prop} {x1 x2 : Int} {w : Wd} (g1 : (0 : Int) ≤ w32 ((w32 (14 * x1)) + x2) ∧ w32 ((w32 (14 * x1)) + x2) < 28) (g2 : (0 : Int) ≤ x2 ∧ x2 < 28) (h : Wp (Cw d) cd_M_restore (2, 0, n1) Q 36 [mR 144, mI x1, mI (w32 (x2 + 1))] [] (ub w 149 x2.toNat (w 183 (w32 ((w32 (14 * x1)) + x2)).toNat))) : Wp (Cw d) cd_M_restore (2, 0, n1) Q 39 [mR 144, mI x1, mI x2] [] w :=
  Wp.s (Wp.s (Wp.s (Wp.s (Wp.s (Wp.s (Wp.s (Wp.s (Wp.s (Wp.s (Wp.s ⟨g1, Wp.s ⟨g2, Wp.s (Wp.s h)⟩⟩))))))))))
theorem M_restore_144_b53 {d : Nat} {n1 : Int} {Q : MV → Wd → Prop} {w : Wd} (h : Q (mI 1) w) : Wp (Cw d) cd_M_restore (2, 0, n1) Q 53 [none, none, none] [] w :=
  Wp.s (Wp.s ⟨(Or.inr rfl), h⟩)
theorem X_count_0_b0 {d : Nat} {n1 : Int} {Q : MV → Wd → Prop} {x1 : Int} {w : Wd} (h0 : x1 = 0 → Wp (Cw d) cd_X_count (1, 0, n1) Q 2 [mR 0, none] [] w) (h1 : x1 = 1 → Wp (Cw d) cd_X_count (1, 0, n1) Q 6 [mR 0, none] [] w) (h2 : x1 = 2 → Wp (Cw d) cd_X_count (1, 0, n1) Q 10 [mR 0, none] [] w) (h3 : x1 = 3 → Wp (Cw d) cd_X_count (1, 0, n1) Q 14 [mR 0, none] [] w) (h4 : x1 = 4 → Wp (Cw d) cd_X_count (1, 0, n1) Q 18 [mR 0, none] [] w) (h5 : x1 = 5 → Wp (Cw d) cd_X_count (1, 0, n1) Q 22 [mR 0, none] [] w) (h6 : x1 = 6 → Wp (Cw d) cd_X_count (1, 0, n1) Q 26 [mR 0, none] [] w) (h7 : x1 = 7 → Wp (Cw d) cd_X_count (1, 0, n1) Q 30 [mR 0, none] [] w) (h8 : x1 = 8 → Wp (Cw d) cd_X_count (1, 0, n1) Q 34 [mR 0, none] [] w) (hd : ¬ x1 = 0 → ¬ x1 = 1 → ¬ x1 = 2 → ¬ x1 = 3 → ¬ x1 = 4 → ¬ x1 = 5 → ¬ x1 = 6 → ¬ x1 = 7 → ¬ x1 = 8 → Wp (Cw d) cd_X_count (1, 0, n1) Q 37 [none, none] [] w) : Wp (Cw d) cd_X_count (1, 0, n1) Q 0 [mR 0, mI x1] [] w :=
  Wp.s (Wp.s ⟨fun q => Wp.fgd (leA.k (leA.f leA.e)) (h0 q), fun q0 => ⟨fun q => Wp.fgd (leA.k (leA.f leA.e)) (h1 q), fun q1 => ⟨fun q => Wp.fgd (leA.k (leA.f leA.e)) (h2 q), fun q2 => ⟨fun q => Wp.fgd (leA.k (leA.f leA.e)) (h3 q), fun q3 => ⟨fun q => Wp.fgd (leA.k (leA.f leA.e)) (h4 q), fun q4 => ⟨fun q => Wp.fgd (leA.k (leA.f leA.e)) (h5 q), fun q5 => ⟨fun q => Wp.fgd (leA.k (leA.f leA.e)) (h6 q), fun q6 => ⟨fun q => Wp.fgd (leA.k (leA.f leA.e)) (h7 q), fun q7 => ⟨fun q => Wp.fgd (leA.k (leA.f leA.e)) (h8 q), fun q8 => Wp.fgd (leA.f (leA.f leA.e)) (hd q0 q1 q2 q3 q4 q5 q6 q7 q8)⟩⟩⟩⟩⟩⟩⟩⟩⟩)
theorem X_count_0_b2 {d : Nat} {n1 : Int} {Q : MV → Wd → Prop} {w : Wd} (h : Q (mI (w 4 0)) w) : Wp (Cw d) cd_X_count (1, 0, n1) Q 2 [mR 0, none] [] w :=
  Wp.s (Wp.s (Wp.s (Wp.s h)))
theorem X_count_0_b6 {d : Nat} {n1 : Int} {Q : MV → Wd → Prop} {w : Wd} (h : Q (mI (w 4 5)) w) : Wp (Cw d) cd_X_count (1, 0, n1) Q 6 [mR 0, none] [] w :=
  Wp.s (Wp.s (Wp.s (Wp.s h)))
theorem X_count_0_b10 {d : Nat} {n1 : Int} {Q : MV → Wd → Prop} {w : Wd} (h : Q (mI (w 4 8)) w) : Wp (Cw d) cd_X_count (1, 0, n1) Q 10 [mR 0, none] [] w :=
  Wp.s (Wp.s (Wp.s (Wp.s h)))
theorem X_count_0_b14 {d : Nat} {n1 : Int} {Q : MV → Wd → Prop} {w : Wd} (h : Q (mI (w 4 11)) w) : Wp (Cw d) cd_X_count (1, 0, n1) Q 14 [mR 0, none] [] w :=
  Wp.s (Wp.s (Wp.s (Wp.s h)))
theorem X_count_0_b18 {d : Nat} {n1 : Int} {Q : MV → Wd → Prop} {w : Wd} (h : Q (mI (w 4 15)) w) : Wp (Cw d) cd_X_count (1, 0, n1) Q 18 [mR 0, none] [] w :=
  Wp.s (Wp.s (Wp.s (Wp.s h)))
theorem X_count_0_b22 {d : Nat} {n1 : Int} {Q : MV → Wd → Prop} {w : Wd} (h : Q (mI (w 4 16)) w) : Wp (Cw d) cd_X_count (1, 0, n1) Q 22 [mR 0, none] [] w :=
  Wp.s (Wp.s (Wp.s (Wp.s h)))
theorem X_count_0_b26 {d : Nat} {n1 : Int} {Q : MV → Wd → Prop} {w : Wd} (h : Q (mI (w 28 0)) w) : Wp (Cw d) cd_X_count (1, 0, n1) Q 26 [mR 0, none] [] w :=
  Wp.s (Wp.s (Wp.s (Wp.s h)))
theorem X_count_0_b30 {d : Nat} {n1 : Int} {Q : MV → Wd → Prop} {w : Wd} (h : Q (mI (w 36 0)) w) : Wp (Cw d) cd_X_count (1, 0, n1) Q 30 [mR 0, none] [] w :=
  Wp.s (Wp.s (Wp.s (Wp.s h)))
theorem X_count_0_b34 {d : Nat} {n1 : Int} {Q : MV → Wd → Prop} {w : Wd} (h : Q (mI (w 0 1)) w) : Wp (Cw d) cd_X_count (1, 0, n1) Q 34 [mR 0, none] [] w :=
  Wp.s (Wp.s (Wp.s h))
theorem X_count_0_b37 {d : Nat} {n1 : Int} {Q : MV → Wd → Prop} {w : Wd} (h : Q (mI ((-1))) w) : Wp (Cw d) cd_X_count (1, 0, n1) Q 37 [none, none] [] w :=
  Wp.s (Wp.s h)
theorem M_count_144_b0 {d : Nat} {n1 : Int} {Q : MV → Wd → Prop} {x1 : Int} {w : Wd} (h0 : x1 = 0 → Wp (Cw d) cd_M_count (1, 0, n1) Q 5 [mR 144, none] [] (ub w 144 0 0)) (h1 : x1 = 1 → Wp (Cw d) cd_M_count (1, 0, n1) Q 10 [mR 144, none] [] (ub w 144 0 0)) (h2 : x1 = 2 → Wp (Cw d) cd_M_count (1, 0, n1) Q 15 [mR 144, none] [] (ub w 144 0 0)) (h3 : x1 = 3 → Wp (Cw d) cd_M_count (1, 0, n1) Q 20 [mR 144, none] [] (ub w 144 0 0)) (h4 : x1 = 4 → Wp (Cw d) cd_M_count (1, 0, n1) Q 25 [mR 144, none] [] (ub w 144 0 0)) (h5 : x1 = 5 → Wp (Cw d) cd_M_count (1, 0, n1) Q 30 [mR 144, none] [] (ub w 144 0 0)) (h6 : x1 = 6 → Wp (Cw d) cd_M_count (1, 0, n1) Q 35 [mR 144, none] [] (ub w 144 0 0)) (h7 : x1 = 7 → Wp (Cw d) cd_M_count (1, 0, n1) Q 40 [mR 144, none] [] (ub w 144 0 0)) (h8 : x1 = 8 → Wp (Cw d) cd_M_count (1, 0, n1) Q 45 [mR 144, none] [] (ub w 144 0 0)) (hd : ¬ x1 = 0 → ¬ x1 = 1 → ¬ x1 = 2 → ¬ x1 = 3 → ¬ x1 = 4 → ¬ x1 = 5 → ¬ x1 = 6 → ¬ x1 = 7 → ¬ x1 = 8 → Wp (Cw d) cd_M_count (1, 0, n1) Q 48 [none, none] [] (ub w 144 0 0)) : Wp (Cw d) cd_M_count (1, 0, n1) Q 0 [mR 144, mI x1] [] w :=
  Wp.s (Wp.s (Wp.s (Wp.s (Wp.s ⟨fun q => Wp.fgd (leA.k (leA.f leA.e)) (h0 q), fun q0 => ⟨fun q => Wp.fgd (leA.k (leA.f leA.e)) (h1 q), fun q1 => ⟨fun q => Wp.fgd (leA.k (leA.f leA.e)) (h2 q), fun q2 => ⟨fun q => Wp.fgd (leA.k (leA.f leA.e)) (h3 q), fun q3 => ⟨fun q => Wp.fgd (leA.k (leA.f leA.e)) (h4 q), fun q4 => ⟨fun q => Wp.fgd (leA.k (leA.f leA.e)) (h5 q), fun q5 => ⟨fun q => Wp.fgd (leA.k (leA.f leA.e)) (h6 q), fun q6 => ⟨fun q => Wp.fgd (leA.k (leA.f leA.e)) (h7 q), fun q7 => ⟨fun q => Wp.fgd (leA.k (leA.f leA.e)) (h8 q), fun q8 => Wp.fgd (leA.f (leA.f leA.e)) (hd q0 q1 q2 q3 q4 q5 q6 q7 q8)⟩⟩⟩⟩⟩⟩⟩⟩⟩))))
theorem M_count_144_b5 {d : Nat} {n1 : Int} {Q : MV → Wd → Prop} {w : Wd} (h : Q (mI (w 146 0.toNat)) w) : Wp (Cw d) cd_M_count (1, 0, n1) Q 5 [mR 144, none] [] w :=
  Wp.s (Wp.s (Wp.s (Wp.s ⟨(by decide), Wp.s h⟩)))
theorem M_count_144_b10 {d : Nat} {n1 : Int} {Q : MV → Wd → Prop} {w : Wd} (h : Q (mI (w 146 1.toNat)) w) : Wp (Cw d) cd_M_count (1, 0, n1) Q 10 [mR 144, none] [] w :=
  Wp.s (Wp.s (Wp.s (Wp.s ⟨(by decide), Wp.s h⟩)))
theorem M_count_144_b15 {d : Nat} {n1 : Int} {Q : MV → Wd → Prop} {w : Wd} (h : Q (mI (w 146 2.toNat)) w) : Wp (Cw d) cd_M_count (1, 0, n1) Q 15 [mR 144, none] [] w :=
  Wp.s (Wp.s (Wp.s (Wp.s ⟨(by decide), Wp.s h⟩)))
theorem M_count_144_b20 {d : Nat} {n1 : Int} {Q : MV → Wd → Prop} {w : Wd} (h : Q (mI (w 146 3.toNat)) w) : Wp (Cw d) cd_M_count (1, 0, n1) Q 20 [mR 144, none] [] w :=
  Wp.s (Wp.s (Wp.s (Wp.s ⟨(by decide), Wp.s h⟩)))
theorem M_count_144_b25 {d : Nat} {n1 : Int} {Q : MV → Wd → Prop} {w : Wd} (h : Q (mI (w 146 4.toNat)) w) : Wp (Cw d) cd_M_count (1, 0, n1) Q 25 [mR 144, none] [] w :=
  Wp.s (Wp.s (Wp.s (Wp.s ⟨(by decide), Wp.s h⟩)))
theorem M_count_144_b30 {d : Nat} {n1 : Int} {Q : MV → Wd → Prop} {w : Wd} (h : Q (mI (w 146 5.toNat)) w) : Wp (Cw d) cd_M_count (1, 0, n1) Q 30 [mR 144, none] [] w :=
  Wp.s (Wp.s (Wp.s (Wp.s ⟨(by decide), Wp.s h⟩)))
theorem M_count_144_b35 {d : Nat} {n1 : Int} {Q : MV → Wd → Prop} {w : Wd} (h : Q (mI (w 146 333.toNat)) w) : Wp (Cw d) cd_M_count (1, 0, n1) Q 35 [mR 144, none] [] w :=
  Wp.s (Wp.s (Wp.s (Wp.s ⟨(by decide), Wp.s h⟩)))
theorem M_count_144_b40 {d : Nat} {n1 : Int} {Q : MV → Wd → Prop} {w : Wd} (h : Q (mI (w 146 484.toNat)) w) : Wp (Cw d) cd_M_count (1, 0, n1) Q 40 [mR 144, none] [] w :=
  Wp.s (Wp.s (Wp.s (Wp.s ⟨(by decide), Wp.s h⟩)))
theorem M_count_144_b45 {d : Nat} {n1 : Int} {Q : MV → Wd → Prop} {w : Wd} (h : Q (mI (w 144 2)) w) : Wp (Cw d) cd_M_count (1, 0, n1) Q 45 [mR 144, none] [] w :=
  Wp.s (Wp.s (Wp.s h))
theorem M_count_144_b48 {d : Nat} {n1 : Int} {Q : MV → Wd → Prop} {w : Wd} (h : Q (mI ((-1))) w) : Wp (Cw d) cd_M_count (1, 0, n1) Q 48 [none, none] [] w :=
  Wp.s (Wp.s h)
theorem X_feedNumber_0_b0 {d : Nat} {n1 : Int} {Q : MV → Wd → Prop} {x1 : Int} {w : Wd} (h : Wp (Cw d) cd_X_feedNumber (0, 0, n1) Q 2 [mR 0, mI x1, mI 24] [] w) : Wp (Cw d) cd_X_feedNumber (0, 0, n1) Q 0 [mR 0, mI x1, none] [] w :=
  Wp.s (Wp.s h)
theorem X_feedNumber_0_b2 {d : Nat} {n1 : Int} {Q : MV → Wd → Prop} {x1 x2 : Int} {w : Wd} (h1 : x2 < 0 → Wp (Cw d) cd_X_feedNumber (0, 0, n1) Q 26 [none, none, none] [] w) (h2 : ¬ (x2 < 0) → Wp (Cw d) cd_X_feedNumber (0, 0, n1) Q 4 [mR 0, mI x1, mI x2] [] w) : Wp (Cw d) cd_X_feedNumber (0, 0, n1) Q 2 [mR 0, mI x1, mI x2] [] w :=
  Wp.s (Wp.s ⟨fun q => Wp.fgd (leA.f (leA.f (leA.f leA.e))) (h1 q), fun q => h2 q⟩)
theorem X_feedNumber_0_b4 {d : Nat} {n1 : Int} {Q : MV → Wd → Prop} {x1 x2 : Int} {w : Wd} (h1 : 1040 ≤ w 0 1 → Wp (Cw d) cd_X_feedNumber (0, 0, n1) Q 26 [none, none, none] [] w) (h2 : ¬ (1040 ≤ w 0 1) → Wp (Cw d) cd_X_feedNumber (0, 0, n1) Q 8 [mR 0, mI x1, mI x2] [] w) : Wp (Cw d) cd_X_feedNumber (0, 0, n1) Q 4 [mR 0, mI x1, mI x2] [] w :=
  Wp.s (Wp.s (Wp.s (Wp.s ⟨fun q => Wp.fgd (leA.f (leA.f (leA.f leA.e))) (h1 q), fun q => h2 q⟩)))
theorem X_feedNumber_0_b8 {d : Nat} {n1 : Int} {Q : MV → Wd → Prop} {x1 x2 : Int} {w : Wd} (g1 : (0 : Int) ≤ w 0 1 ∧ w 0 1 < 1040) (h : Wp (Cw d) cd_X_feedNumber (0, 0, n1) Q 2 [mR 0, mI x1, mI (w32 (x2 + (-8)))] [] (ub (ub w 1 (w 0 1).toNat (iand (iushr x1 x2) 255)) 0 1 (w32 ((w 0 1) + 1)))) : Wp (Cw d) cd_X_feedNumber (0, 0, n1) Q 8 [mR 0, mI x1, mI x2] [] w :=
  Wp.s (Wp.s (Wp.s (Wp.s (Wp.s (Wp.s (Wp.s (Wp.s (Wp.s (Wp.s ⟨g1, Wp.s (Wp.s (Wp.s (Wp.s (Wp.s (Wp.s (Wp.s (Wp.s h)))))))⟩)))))))))
theorem X_feedNumber_0_b26 {d : Nat} {n1 : Int} {Q : MV → Wd → Prop} {w : Wd} (h : Q none w) : Wp (Cw d) cd_X_feedNumber (0, 0, n1) Q 26 [none, none, none] [] w :=
  Wp.s h
theorem M_four_144_b0 {d : Nat} {n1 : Int} {Q : MV → Wd → Prop} {x1 : Int} {w : Wd} (h : Wp (Cw d) cd_M_four (0, 0, n1) Q 2 [mR 144, mI x1, mI 24] [] w) : Wp (Cw d) cd_M_four (0, 0, n1) Q 0 [mR 144, mI x1, none] [] w :=
  Wp.s (Wp.s h)
theorem M_four_144_b2 {d : Nat} {n1 : Int} {Q : MV → Wd → Prop} {x1 x2 : Int} {w : Wd} (h1 : x2 < 0 → Wp (Cw d) cd_M_four (0, 0, n1) Q 21 [none, none, none] [] w) (h2 : ¬ (x2 < 0) → Wp (Cw d) cd_M_four (0, 0, n1) Q 4 [mR 144, mI x1, mI x2] [] w) : Wp (Cw d) cd_M_four (0, 0, n1) Q 2 [mR 144, mI x1, mI x2] [] w :=
  Wp.s (Wp.s ⟨fun q => Wp.fgd (leA.f (leA.f (leA.f leA.e))) (h1 q), fun q => h2 q⟩)
theorem M_four_144_b4 {d : Nat} {n1 : Int} {Q : MV → Wd → Prop} {x1 x2 : Int} {w : Wd} (g1 : (0 : Int) ≤ w 144 2 ∧ w 144 2 < 1040) (h : Wp (Cw d) cd_M_four (0, 0, n1) Q 2 [mR 144, mI x1, mI (w32 (x2 + (-8)))] [] (ub (ub w 145 (w 144 2).toNat (w8 (w8 (ishr x1 x2)))) 144 2 (w32 ((w 144 2) + 1)))) : Wp (Cw d) cd_M_four (0, 0, n1) Q 4 [mR 144, mI x1, mI x2] [] w :=
  Wp.s (Wp.s (Wp.s (Wp.s (Wp.s (Wp.s (Wp.s (Wp.s (Wp.s ⟨g1, Wp.s (Wp.s (Wp.s (Wp.s (Wp.s (Wp.s (Wp.s (Wp.s h)))))))⟩))))))))
theorem M_four_144_b21 {d : Nat} {n1 : Int} {Q : MV → Wd → Prop} {w : Wd} (h : Q none w) : Wp (Cw d) cd_M_four (0, 0, n1) Q 21 [none, none, none] [] w :=
  Wp.s h
theorem X_takeTape_0_b0 {d : Nat} {n1 : Int} {Q : MV → Wd → Prop} {w : Wd} (h : Q (mI (w 0 1)) (ub w 0 1 0)) : Wp (Cw d) cd_X_takeTape (1, 0, n1) Q 0 [mR 0, none] [] w :=
  Wp.s (Wp.s (Wp.s (Wp.s (Wp.s (Wp.s (Wp.s (Wp.s h)))))))
theorem Tokens_start_2_b0 {d : Nat} {n1 : Int} {Q : MV → Wd → Prop} {x1 x2 : Int} {w : Wd} (h : Cw d 18 [mR 2] (ub (ub (ub (ub w 2 2 (min x1 1040)) 2 3 (min ((up1 (w 2) 2 (min x1 1040)) 2) x2)) 2 4 0) 2 8 0) (fun _ w' => Wp (Cw d) cd_Tokens_start (0, 0, n1) Q 21 [none, none, none] [] w')) : Wp (Cw d) cd_Tokens_start (0, 0, n1) Q 0 [mR 2, mI x1, mI x2] [] w :=
  Wp.s (Wp.s (Wp.s (Wp.s (Wp.s (Wp.s (Wp.s (Wp.s (Wp.s (Wp.s (Wp.s (Wp.s (Wp.s (Wp.s (Wp.s (Wp.s (Wp.s (Wp.s (Wp.s (Wp.s (Wp.s (Cw_mono _ _ _ _ _ _ (fun r w' q => Wp.fgd (leA.f (leA.f (leA.f leA.e))) q) h)))))))))))))))))))))
theorem Tokens_start_2_b21 {d : Nat} {n1 : Int} {Q : MV → Wd → Prop} {w : Wd} (h : Q none w) : Wp (Cw d) cd_Tokens_start (0, 0, n1) Q 21 [none, none, none] [] w :=
  Wp.s h
theorem Village_read_16_2_b0 {d : Nat} {n1 : Int} {Q : MV → Wd → Prop} {w : Wd} (h : Cw d 24 [mR 16] w (fun _ w' => Wp (Cw d) cd_Village_read (1, 0, n1) Q 2 [mR 16, mR 2, none] [] w')) : Wp (Cw d) cd_Village_read (1, 0, n1) Q 0 [mR 16, mR 2, none] [] w :=
  Wp.s (Wp.s h)
theorem Village_read_16_2_b2 {d : Nat} {n1 : Int} {Q : MV → Wd → Prop} {w : Wd} (h : Wp (Cw d) cd_Village_read (1, 0, n1) Q 4 [mR 16, mR 2, mI 0] [] w) : Wp (Cw d) cd_Village_read (1, 0, n1) Q 2 [mR 16, mR 2, none] [] w :=
  Wp.s (Wp.s h)
theorem Village_read_16_2_b4 {d : Nat} {n1 : Int} {Q : MV → Wd → Prop} {x2 : Int} {w : Wd} (h1 : 1040 ≤ x2 → Wp (Cw d) cd_Village_read (1, 0, n1) Q 22 [none, none, mI x2] [] w) (h2 : ¬ (1040 ≤ x2) → Wp (Cw d) cd_Village_read (1, 0, n1) Q 7 [mR 16, mR 2, mI x2] [] w) : Wp (Cw d) cd_Village_read (1, 0, n1) Q 4 [mR 16, mR 2, mI x2] [] w :=
  Wp.s (Wp.s (Wp.s ⟨fun q => Wp.fgd (leA.f (leA.f (leA.k leA.e))) (h1 q), fun q => h2 q⟩))
theorem Village_read_16_2_b7 {d : Nat} {n1 : Int} {Q : MV → Wd → Prop} {x2 : Int} {w : Wd} (h1 : w 2 5 = 0 → Wp (Cw d) cd_Village_read (1, 0, n1) Q 22 [none, none, mI x2] [] w) (h2 : ¬ (w 2 5 = 0) → Wp (Cw d) cd_Village_read (1, 0, n1) Q 10 [mR 16, mR 2, mI x2] [] w) : Wp (Cw d) cd_Village_read (1, 0, n1) Q 7 [mR 16, mR 2, mI x2] [] w :=
  Wp.s (Wp.s (Wp.s ⟨fun q => Wp.fgd (leA.f (leA.f (leA.k leA.e))) (h1 q), fun q => h2 q⟩))
theorem Village_read_16_2_b10 {d : Nat} {n1 : Int} {Q : MV → Wd → Prop} {x2 : Int} {w : Wd} (h : Cw d 25 [mR 16, mR 2] w (fun r w' => Wp (Cw d) cd_Village_read (1, 0, n1) Q 13 [mR 16, mR 2, mI x2] [r] w')) : Wp (Cw d) cd_Village_read (1, 0, n1) Q 10 [mR 16, mR 2, mI x2] [] w :=
  Wp.s (Wp.s (Wp.s h))
theorem Village_read_16_2_b13 {d : Nat} {n1 : Int} {Q : MV → Wd → Prop} {x2 s0 : Int} {w : Wd} (h1 : s0 = 0 → Wp (Cw d) cd_Village_read (1, 0, n1) Q 17 [none, mR 2, none] [] w) (h2 : ¬ (s0 = 0) → Wp (Cw d) cd_Village_read (1, 0, n1) Q 14 [mR 16, mR 2, mI x2] [] w) : Wp (Cw d) cd_Village_read (1, 0, n1) Q 13 [mR 16, mR 2, mI x2] [mI s0] w :=
  Wp.s ⟨fun q => Wp.fgd (leA.f (leA.k (leA.f leA.e))) (h1 q), fun q => h2 q⟩
theorem Village_read_16_2_b14 {d : Nat} {n1 : Int} {Q : MV → Wd → Prop} {x2 : Int} {w : Wd} (h : Cw d 45 [mR 2] w (fun r w' => Wp (Cw d) cd_Village_read (1, 0, n1) Q 16 [mR 16, mR 2, mI x2] [r] w')) : Wp (Cw d) cd_Village_read (1, 0, n1) Q 14 [mR 16, mR 2, mI x2] [] w :=
  Wp.s (Wp.s h)
theorem Village_read_16_2_b16 {d : Nat} {n1 : Int} {Q : MV → Wd → Prop} {x2 s0 : Int} {w : Wd} (h1 : ¬ s0 = 0 → Wp (Cw d) cd_Village_read (1, 0, n1) Q 20 [mR 16, mR 2, mI x2] [] w) (h2 : ¬ (¬ s0 = 0) → Wp (Cw d) cd_Village_read (1, 0, n1) Q 17 [none, mR 2, none] [] w) : Wp (Cw d) cd_Village_read (1, 0, n1) Q 16 [mR 16, mR 2, mI x2] [mI s0] w :=
  Wp.s ⟨fun q => h1 q, fun q => Wp.fgd (leA.f (leA.k (leA.f leA.e))) (h2 q)⟩
theorem Village_read_16_2_b17 {d : Nat} {n1 : Int} {Q : MV → Wd → Prop} {w : Wd} (h : Cw d 46 [mR 2] w (fun r w' => Wp (Cw d) cd_Village_read (1, 0, n1) Q 19 [none, none, none] [r] w')) : Wp (Cw d) cd_Village_read (1, 0, n1) Q 17 [none, mR 2, none] [] w :=
  Wp.s (Wp.s (Cw_mono _ _ _ _ _ _ (fun r w' q => Wp.fgd (leA.f (leA.f (leA.f leA.e))) q) h))
theorem Village_read_16_2_b19 {d : Nat} {n1 : Int} {Q : MV → Wd → Prop} {s0 : Int} {w : Wd} (h : Q (mI s0) w) : Wp (Cw d) cd_Village_read (1, 0, n1) Q 19 [none, none, none] [mI s0] w :=
  Wp.s h
theorem Village_read_16_2_b20 {d : Nat} {n1 : Int} {Q : MV → Wd → Prop} {x2 : Int} {w : Wd} (h : Wp (Cw d) cd_Village_read (1, 0, n1) Q 4 [mR 16, mR 2, mI (w32 (x2 + 1))] [] w) : Wp (Cw d) cd_Village_read (1, 0, n1) Q 20 [mR 16, mR 2, mI x2] [] w :=
  Wp.s (Wp.s h)
theorem Village_read_16_2_b22 {d : Nat} {n1 : Int} {Q : MV → Wd → Prop} {x2 : Int} {w : Wd} (h : Q (mI x2) w) : Wp (Cw d) cd_Village_read (1, 0, n1) Q 22 [none, none, mI x2] [] w :=
  Wp.s (Wp.s h)
theorem Village_copy_4_16_b0 {d : Nat} {n1 : Int} {Q : MV → Wd → Prop} {w : Wd} (h : Cw d 48 [mR 17, mR 5] (ub w 4 0 (w 16 0)) (fun _ w' => Wp (Cw d) cd_Village_copy (0, 0, n1) Q 9 [mR 4, mR 16] [] w')) : Wp (Cw d) cd_Village_copy (0, 0, n1) Q 0 [mR 4, mR 16] [] w :=
  Wp.s (Wp.s (Wp.s (Wp.s (Wp.s (Wp.s (Wp.s (Wp.s (Wp.s h))))))))
theorem Village_copy_4_16_b9 {d : Nat} {n1 : Int} {Q : MV → Wd → Prop} {w : Wd} (h : Cw d 48 [mR 18, mR 6] w (fun _ w' => Wp (Cw d) cd_Village_copy (0, 0, n1) Q 14 [mR 4, mR 16] [] w')) : Wp (Cw d) cd_Village_copy (0, 0, n1) Q 9 [mR 4, mR 16] [] w :=
  Wp.s (Wp.s (Wp.s (Wp.s (Wp.s h))))
theorem Village_copy_4_16_b14 {d : Nat} {n1 : Int} {Q : MV → Wd → Prop} {w : Wd} (h : Cw d 48 [mR 19, mR 7] w (fun _ w' => Wp (Cw d) cd_Village_copy (0, 0, n1) Q 19 [mR 4, mR 16] [] w')) : Wp (Cw d) cd_Village_copy (0, 0, n1) Q 14 [mR 4, mR 16] [] w :=
  Wp.s (Wp.s (Wp.s (Wp.s (Wp.s h))))
theorem Village_copy_4_16_b19 {d : Nat} {n1 : Int} {Q : MV → Wd → Prop} {w : Wd} (h : Cw d 48 [mR 20, mR 8] w (fun _ w' => Wp (Cw d) cd_Village_copy (0, 0, n1) Q 24 [mR 4, mR 16] [] w')) : Wp (Cw d) cd_Village_copy (0, 0, n1) Q 19 [mR 4, mR 16] [] w :=
  Wp.s (Wp.s (Wp.s (Wp.s (Wp.s h))))
theorem Village_copy_4_16_b24 {d : Nat} {n1 : Int} {Q : MV → Wd → Prop} {w : Wd} (h : Cw d 48 [mR 21, mR 9] (ub w 4 5 (w 16 5)) (fun _ w' => Wp (Cw d) cd_Village_copy (0, 0, n1) Q 33 [mR 4, mR 16] [] w')) : Wp (Cw d) cd_Village_copy (0, 0, n1) Q 24 [mR 4, mR 16] [] w :=
  Wp.s (Wp.s (Wp.s (Wp.s (Wp.s (Wp.s (Wp.s (Wp.s (Wp.s h))))))))
theorem Village_copy_4_16_b33 {d : Nat} {n1 : Int} {Q : MV → Wd → Prop} {w : Wd} (h : Cw d 48 [mR 22, mR 10] w (fun _ w' => Wp (Cw d) cd_Village_copy (0, 0, n1) Q 38 [mR 4, mR 16] [] w')) : Wp (Cw d) cd_Village_copy (0, 0, n1) Q 33 [mR 4, mR 16] [] w :=
  Wp.s (Wp.s (Wp.s (Wp.s (Wp.s h))))
theorem Village_copy_4_16_b38 {d : Nat} {n1 : Int} {Q : MV → Wd → Prop} {w : Wd} (h : Cw d 48 [mR 23, mR 11] (ub w 4 8 (w 16 8)) (fun _ w' => Wp (Cw d) cd_Village_copy (0, 0, n1) Q 47 [mR 4, mR 16] [] w')) : Wp (Cw d) cd_Village_copy (0, 0, n1) Q 38 [mR 4, mR 16] [] w :=
  Wp.s (Wp.s (Wp.s (Wp.s (Wp.s (Wp.s (Wp.s (Wp.s (Wp.s h))))))))
theorem Village_copy_4_16_b47 {d : Nat} {n1 : Int} {Q : MV → Wd → Prop} {w : Wd} (h : Cw d 48 [mR 24, mR 12] w (fun _ w' => Wp (Cw d) cd_Village_copy (0, 0, n1) Q 52 [mR 4, mR 16] [] w')) : Wp (Cw d) cd_Village_copy (0, 0, n1) Q 47 [mR 4, mR 16] [] w :=
  Wp.s (Wp.s (Wp.s (Wp.s (Wp.s h))))
theorem Village_copy_4_16_b52 {d : Nat} {n1 : Int} {Q : MV → Wd → Prop} {w : Wd} (h : Cw d 48 [mR 25, mR 13] (ub w 4 11 (w 16 11)) (fun _ w' => Wp (Cw d) cd_Village_copy (0, 0, n1) Q 61 [mR 4, mR 16] [] w')) : Wp (Cw d) cd_Village_copy (0, 0, n1) Q 52 [mR 4, mR 16] [] w :=
  Wp.s (Wp.s (Wp.s (Wp.s (Wp.s (Wp.s (Wp.s (Wp.s (Wp.s h))))))))
theorem Village_copy_4_16_b61 {d : Nat} {n1 : Int} {Q : MV → Wd → Prop} {w : Wd} (h : Cw d 48 [mR 26, mR 14] w (fun _ w' => Wp (Cw d) cd_Village_copy (0, 0, n1) Q 66 [mR 4, mR 16] [] w')) : Wp (Cw d) cd_Village_copy (0, 0, n1) Q 61 [mR 4, mR 16] [] w :=
  Wp.s (Wp.s (Wp.s (Wp.s (Wp.s h))))
theorem Village_copy_4_16_b66 {d : Nat} {n1 : Int} {Q : MV → Wd → Prop} {w : Wd} (h : Cw d 48 [mR 27, mR 15] w (fun _ w' => Wp (Cw d) cd_Village_copy (0, 0, n1) Q 71 [mR 4, mR 16] [] w')) : Wp (Cw d) cd_Village_copy (0, 0, n1) Q 66 [mR 4, mR 16] [] w :=
  Wp.s (Wp.s (Wp.s (Wp.s (Wp.s h))))
theorem Village_copy_4_16_b71 {d : Nat} {n1 : Int} {Q : MV → Wd → Prop} {w : Wd} (h : Q none (ub (ub w 4 15 (w 16 15)) 4 16 (w 16 16))) : Wp (Cw d) cd_Village_copy (0, 0, n1) Q 71 [mR 4, mR 16] [] w :=
  Wp.s (Wp.s (Wp.s (Wp.s (Wp.s (Wp.s (Wp.s (Wp.s (Wp.s h))))))))
theorem M_taken_144_b0 {d : Nat} {n1 : Int} {Q : MV → Wd → Prop} {x1 : Int} {w : Wd} (h : Q none (ub (ub (ub (ub w 144 3 (w 144 2)) 144 2 0) 144 4 0) 144 5 x1)) : Wp (Cw d) cd_M_taken (0, 0, n1) Q 0 [mR 144, mI x1] [] w :=
  Wp.s (Wp.s (Wp.s (Wp.s (Wp.s (Wp.s (Wp.s (Wp.s (Wp.s (Wp.s (Wp.s (Wp.s (Wp.s (Wp.s h)))))))))))))
theorem M_next_144_b0 {d : Nat} {n1 : Int} {Q : MV → Wd → Prop} {w : Wd} (h : Cw d 176 [mR 144] w (fun r w' => Wp (Cw d) cd_M_next (0, 0, n1) Q 2 [mR 144, none, none, none] [r] w')) : Wp (Cw d) cd_M_next (0, 0, n1) Q 0 [mR 144, none, none, none] [] w :=
  Wp.s (Wp.s h)
theorem M_next_144_b2 {d : Nat} {n1 : Int} {Q : MV → Wd → Prop} {s0 : Int} {w : Wd} (h1 : s0 = 32 → Wp (Cw d) cd_M_next (0, 0, n1) Q 8 [mR 144, none, none, none] [] w) (h2 : ¬ (s0 = 32) → Wp (Cw d) cd_M_next (0, 0, n1) Q 4 [mR 144, none, none, none] [] w) : Wp (Cw d) cd_M_next (0, 0, n1) Q 2 [mR 144, none, none, none] [mI s0] w :=
  Wp.s (Wp.s ⟨fun q => h1 q, fun q => h2 q⟩)
theorem M_next_144_b4 {d : Nat} {n1 : Int} {Q : MV → Wd → Prop} {w : Wd} (h : Cw d 176 [mR 144] w (fun r w' => Wp (Cw d) cd_M_next (0, 0, n1) Q 6 [mR 144, none, none, none] [r] w')) : Wp (Cw d) cd_M_next (0, 0, n1) Q 4 [mR 144, none, none, none] [] w :=
  Wp.s (Wp.s h)
theorem M_next_144_b6 {d : Nat} {n1 : Int} {Q : MV → Wd → Prop} {s0 : Int} {w : Wd} (h1 : ¬ s0 = 10 → Wp (Cw d) cd_M_next (0, 0, n1) Q 15 [mR 144, none, none, none] [] w) (h2 : ¬ (¬ s0 = 10) → Wp (Cw d) cd_M_next (0, 0, n1) Q 8 [mR 144, none, none, none] [] w) : Wp (Cw d) cd_M_next (0, 0, n1) Q 6 [mR 144, none, none, none] [mI s0] w :=
  Wp.s (Wp.s ⟨fun q => h1 q, fun q => h2 q⟩)
theorem M_next_144_b8 {d : Nat} {n1 : Int} {Q : MV → Wd → Prop} {w : Wd} (h : Wp (Cw d) cd_M_next (0, 0, n1) Q 0 [mR 144, none, none, none] [] (ub w 144 4 (w32 ((w 144 4) + 1)))) : Wp (Cw d) cd_M_next (0, 0, n1) Q 8 [mR 144, none, none, none] [] w :=
  Wp.s (Wp.s (Wp.s (Wp.s (Wp.s (Wp.s (Wp.s h))))))
theorem M_next_144_b15 {d : Nat} {n1 : Int} {Q : MV → Wd → Prop} {w : Wd} (h1 : (up1 (up1 (w 144) 12 (w 144 4)) 13 0) 3 ≤ (up1 (up1 (w 144) 12 (w 144 4)) 13 0) 5 → Wp (Cw d) cd_M_next (0, 0, n1) Q 40 [mR 144, none, none, none] [] (ub (ub w 144 12 (w 144 4)) 144 13 0)) (h2 : ¬ ((up1 (up1 (w 144) 12 (w 144 4)) 13 0) 3 ≤ (up1 (up1 (w 144) 12 (w 144 4)) 13 0) 5) → Wp (Cw d) cd_M_next (0, 0, n1) Q 27 [mR 144, none, none, none] [] (ub (ub w 144 12 (w 144 4)) 144 13 0)) : Wp (Cw d) cd_M_next (0, 0, n1) Q 15 [mR 144, none, none, none] [] w :=
  Wp.s (Wp.s (Wp.s (Wp.s (Wp.s (Wp.s (Wp.s (Wp.s (Wp.s (Wp.s (Wp.s (Wp.s ⟨fun q => h1 q, fun q => h2 q⟩)))))))))))
theorem M_next_144_b27 {d : Nat} {n1 : Int} {Q : MV → Wd → Prop} {w : Wd} (h1 : w 144 4 < w 144 5 → Wp (Cw d) cd_M_next (0, 0, n1) Q 40 [mR 144, none, none, none] [] w) (h2 : ¬ (w 144 4 < w 144 5) → Wp (Cw d) cd_M_next (0, 0, n1) Q 32 [mR 144, none, none, none] [] w) : Wp (Cw d) cd_M_next (0, 0, n1) Q 27 [mR 144, none, none, none] [] w :=
  Wp.s (Wp.s (Wp.s (Wp.s (Wp.s ⟨fun q => h1 q, fun q => h2 q⟩))))
theorem M_next_144_b32 {d : Nat} {n1 : Int} {Q : MV → Wd → Prop} {w : Wd} (h : Q none (ub (ub w 144 12 (w 144 5)) 144 11 4)) : Wp (Cw d) cd_M_next (0, 0, n1) Q 32 [mR 144, none, none, none] [] w :=
  Wp.s (Wp.s (Wp.s (Wp.s (Wp.s (Wp.s (Wp.s (Wp.s h)))))))
theorem M_next_144_b40 {d : Nat} {n1 : Int} {Q : MV → Wd → Prop} {w : Wd} (h : Cw d 176 [mR 144] w (fun r w' => Wp (Cw d) cd_M_next (0, 0, n1) Q 42 [mR 144, none, none, none] [r] w')) : Wp (Cw d) cd_M_next (0, 0, n1) Q 40 [mR 144, none, none, none] [] w :=
  Wp.s (Wp.s h)
theorem M_next_144_b42 {d : Nat} {n1 : Int} {Q : MV → Wd → Prop} {s0 : Int} {w : Wd} (h1 : 0 ≤ s0 → Wp (Cw d) cd_M_next (0, 0, n1) Q 49 [mR 144, mI s0, none, none] [] w) (h2 : ¬ (0 ≤ s0) → Wp (Cw d) cd_M_next (0, 0, n1) Q 45 [mR 144, none, none, none] [] w) : Wp (Cw d) cd_M_next (0, 0, n1) Q 42 [mR 144, none, none, none] [mI s0] w :=
  Wp.s (Wp.s (Wp.s ⟨fun q => h1 q, fun q => Wp.fgd (leA.k (leA.f (leA.f (leA.f leA.e)))) (h2 q)⟩))
theorem M_next_144_b45 {d : Nat} {n1 : Int} {Q : MV → Wd → Prop} {w : Wd} (h : Q none (ub w 144 11 0)) : Wp (Cw d) cd_M_next (0, 0, n1) Q 45 [mR 144, none, none, none] [] w :=
  Wp.s (Wp.s (Wp.s (Wp.s h)))
theorem M_next_144_b49 {d : Nat} {n1 : Int} {Q : MV → Wd → Prop} {x1 : Int} {w : Wd} (h : Cw d 177 [mI x1] w (fun r w' => Wp (Cw d) cd_M_next (0, 0, n1) Q 51 [mR 144, mI x1, none, none] [r] w')) : Wp (Cw d) cd_M_next (0, 0, n1) Q 49 [mR 144, mI x1, none, none] [] w :=
  Wp.s (Wp.s h)
theorem M_next_144_b51 {d : Nat} {n1 : Int} {Q : MV → Wd → Prop} {x1 s0 : Int} {w : Wd} (h1 : ¬ s0 = 0 → Wp (Cw d) cd_M_next (0, 0, n1) Q 73 [mR 144, mI x1, none, none] [] w) (h2 : ¬ (¬ s0 = 0) → Wp (Cw d) cd_M_next (0, 0, n1) Q 52 [mR 144, mI x1, none, none] [] w) : Wp (Cw d) cd_M_next (0, 0, n1) Q 51 [mR 144, mI x1, none, none] [mI s0] w :=
  Wp.s ⟨fun q => h1 q, fun q => h2 q⟩
theorem M_next_144_b52 {d : Nat} {n1 : Int} {Q : MV → Wd → Prop} {x1 : Int} {w : Wd} (h : Cw d 178 [mI x1] w (fun r w' => Wp (Cw d) cd_M_next (0, 0, n1) Q 54 [mR 144, mI x1, none, none] [r] w')) : Wp (Cw d) cd_M_next (0, 0, n1) Q 52 [mR 144, mI x1, none, none] [] w :=
  Wp.s (Wp.s h)
theorem M_next_144_b54 {d : Nat} {n1 : Int} {Q : MV → Wd → Prop} {x1 s0 : Int} {w : Wd} (h1 : ¬ s0 = 0 → Wp (Cw d) cd_M_next (0, 0, n1) Q 73 [mR 144, mI x1, none, none] [] w) (h2 : ¬ (¬ s0 = 0) → Wp (Cw d) cd_M_next (0, 0, n1) Q 55 [mR 144, mI x1, none, none] [] w) : Wp (Cw d) cd_M_next (0, 0, n1) Q 54 [mR 144, mI x1, none, none] [mI s0] w :=
  Wp.s ⟨fun q => h1 q, fun q => h2 q⟩
theorem M_next_144_b55 {d : Nat} {n1 : Int} {Q : MV → Wd → Prop} {x1 : Int} {w : Wd} (h1 : ¬ x1 = 59 → Wp (Cw d) cd_M_next (0, 0, n1) Q 61 [mR 144, mI x1, none, none] [mR 144] w) (h2 : ¬ (¬ x1 = 59) → Wp (Cw d) cd_M_next (0, 0, n1) Q 59 [mR 144, mI x1, none, none] [mR 144] w) : Wp (Cw d) cd_M_next (0, 0, n1) Q 55 [mR 144, mI x1, none, none] [] w :=
  Wp.s (Wp.s (Wp.s (Wp.s ⟨fun q => h1 q, fun q => h2 q⟩)))
theorem M_next_144_b59 {d : Nat} {n1 : Int} {Q : MV → Wd → Prop} {x1 : Int} {w : Wd} (h : Wp (Cw d) cd_M_next (0, 0, n1) Q 62 [mR 144, mI x1, none, none] [mI 3, mR 144] w) : Wp (Cw d) cd_M_next (0, 0, n1) Q 59 [mR 144, mI x1, none, none] [mR 144] w :=
  Wp.s (Wp.s h)
theorem M_next_144_b61 {d : Nat} {n1 : Int} {Q : MV → Wd → Prop} {x1 : Int} {w : Wd} (h : Wp (Cw d) cd_M_next (0, 0, n1) Q 62 [mR 144, mI x1, none, none] [mI 4, mR 144] w) : Wp (Cw d) cd_M_next (0, 0, n1) Q 61 [mR 144, mI x1, none, none] [mR 144] w :=
  Wp.s h
theorem M_next_144_b62 {d : Nat} {n1 : Int} {Q : MV → Wd → Prop} {x1 s0 : Int} {w : Wd} (h : Q none (ub (ub (ub w 144 11 s0) 144 14 x1) 144 4 (w32 (((up1 (up1 (w 144) 11 s0) 14 x1) 4) + 1)))) : Wp (Cw d) cd_M_next (0, 0, n1) Q 62 [mR 144, mI x1, none, none] [mI s0, mR 144] w :=
  Wp.s (Wp.s (Wp.s (Wp.s (Wp.s (Wp.s (Wp.s (Wp.s (Wp.s (Wp.s (Wp.s h))))))))))
theorem M_next_144_b73 {d : Nat} {n1 : Int} {Q : MV → Wd → Prop} {x1 : Int} {w : Wd} (h : Cw d 177 [mI x1] w (fun r w' => Wp (Cw d) cd_M_next (0, 0, n1) Q 75 [mR 144, none, none, none] [r] w')) : Wp (Cw d) cd_M_next (0, 0, n1) Q 73 [mR 144, mI x1, none, none] [] w :=
  Wp.s (Wp.s (Cw_mono _ _ _ _ _ _ (fun r w' q => Wp.fgd (leA.k (leA.f (leA.f (leA.f leA.e)))) q) h))
theorem M_next_144_b75 {d : Nat} {n1 : Int} {Q : MV → Wd → Prop} {s0 : Int} {w : Wd} (h : Wp (Cw d) cd_M_next (0, 0, n1) Q 84 [mR 144, none, mI s0, mI 1] [] (ub (ub w 144 17 0) 144 14 0)) : Wp (Cw d) cd_M_next (0, 0, n1) Q 75 [mR 144, none, none, none] [mI s0] w :=
  Wp.s (Wp.s (Wp.s (Wp.s (Wp.s (Wp.s (Wp.s (Wp.s (Wp.s h))))))))
theorem M_next_144_b84 {d : Nat} {n1 : Int} {Q : MV → Wd → Prop} {x2 x3 : Int} {w : Wd} (h : Cw d 176 [mR 144] w (fun r w' => Wp (Cw d) cd_M_next (0, 0, n1) Q 86 [mR 144, none, mI x2, mI x3] [r] w')) : Wp (Cw d) cd_M_next (0, 0, n1) Q 84 [mR 144, none, mI x2, mI x3] [] w :=
  Wp.s (Wp.s h)
theorem M_next_144_b86 {d : Nat} {n1 : Int} {Q : MV → Wd → Prop} {x2 x3 s0 : Int} {w : Wd} (h : Cw d 177 [mI s0] w (fun r w' => Wp (Cw d) cd_M_next (0, 0, n1) Q 87 [mR 144, none, mI x2, mI x3] [r] w')) : Wp (Cw d) cd_M_next (0, 0, n1) Q 86 [mR 144, none, mI x2, mI x3] [mI s0] w :=
  Wp.s h
theorem M_next_144_b87 {d : Nat} {n1 : Int} {Q : MV → Wd → Prop} {x2 x3 s0 : Int} {w : Wd} (h1 : ¬ s0 = 0 → Wp (Cw d) cd_M_next (0, 0, n1) Q 92 [mR 144, none, mI x2, mI x3] [] w) (h2 : ¬ (¬ s0 = 0) → Wp (Cw d) cd_M_next (0, 0, n1) Q 88 [mR 144, none, mI x2, mI x3] [] w) : Wp (Cw d) cd_M_next (0, 0, n1) Q 87 [mR 144, none, mI x2, mI x3] [mI s0] w :=
  Wp.s ⟨fun q => h1 q, fun q => h2 q⟩
theorem M_next_144_b88 {d : Nat} {n1 : Int} {Q : MV → Wd → Prop} {x2 x3 : Int} {w : Wd} (h : Cw d 176 [mR 144] w (fun r w' => Wp (Cw d) cd_M_next (0, 0, n1) Q 90 [mR 144, none, mI x2, mI x3] [r] w')) : Wp (Cw d) cd_M_next (0, 0, n1) Q 88 [mR 144, none, mI x2, mI x3] [] w :=
  Wp.s (Wp.s h)
theorem M_next_144_b90 {d : Nat} {n1 : Int} {Q : MV → Wd → Prop} {x2 x3 s0 : Int} {w : Wd} (h : Cw d 178 [mI s0] w (fun r w' => Wp (Cw d) cd_M_next (0, 0, n1) Q 91 [mR 144, none, mI x2, mI x3] [r] w')) : Wp (Cw d) cd_M_next (0, 0, n1) Q 90 [mR 144, none, mI x2, mI x3] [mI s0] w :=
  Wp.s h
theorem M_next_144_b91 {d : Nat} {n1 : Int} {Q : MV → Wd → Prop} {x2 x3 s0 : Int} {w : Wd} (h1 : s0 = 0 → Wp (Cw d) cd_M_next (0, 0, n1) Q 145 [mR 144, none, mI x2, mI x3] [] w) (h2 : ¬ (s0 = 0) → Wp (Cw d) cd_M_next (0, 0, n1) Q 92 [mR 144, none, mI x2, mI x3] [] w) : Wp (Cw d) cd_M_next (0, 0, n1) Q 91 [mR 144, none, mI x2, mI x3] [mI s0] w :=
  Wp.s ⟨fun q => h1 q, fun q => h2 q⟩
theorem M_next_144_b92 {d : Nat} {n1 : Int} {Q : MV → Wd → Prop} {x2 x3 : Int} {w : Wd} (h1 : x3 = 0 → Wp (Cw d) cd_M_next (0, 0, n1) Q 101 [mR 144, none, mI x2, none] [] w) (h2 : ¬ (x3 = 0) → Wp (Cw d) cd_M_next (0, 0, n1) Q 94 [mR 144, none, mI x2, none] [] w) : Wp (Cw d) cd_M_next (0, 0, n1) Q 92 [mR 144, none, mI x2, mI x3] [] w :=
  Wp.s (Wp.s ⟨fun q => Wp.fgd (leA.k (leA.f (leA.k (leA.f leA.e)))) (h1 q), fun q => Wp.fgd (leA.k (leA.f (leA.k (leA.f leA.e)))) (h2 q)⟩)
theorem M_next_144_b94 {d : Nat} {n1 : Int} {Q : MV → Wd → Prop} {x2 : Int} {w : Wd} (h : Cw d 176 [mR 144] w (fun r w' => Wp (Cw d) cd_M_next (0, 0, n1) Q 96 [mR 144, none, mI x2, none] [r] w')) : Wp (Cw d) cd_M_next (0, 0, n1) Q 94 [mR 144, none, mI x2, none] [] w :=
  Wp.s (Wp.s h)
theorem M_next_144_b96 {d : Nat} {n1 : Int} {Q : MV → Wd → Prop} {x2 s0 : Int} {w : Wd} (h : Cw d 177 [mI s0] w (fun r w' => Wp (Cw d) cd_M_next (0, 0, n1) Q 97 [mR 144, none, mI x2, none] [r] w')) : Wp (Cw d) cd_M_next (0, 0, n1) Q 96 [mR 144, none, mI x2, none] [mI s0] w :=
  Wp.s h
theorem M_next_144_b97 {d : Nat} {n1 : Int} {Q : MV → Wd → Prop} {x2 s0 : Int} {w : Wd} (h1 : ¬ s0 = x2 → Wp (Cw d) cd_M_next (0, 0, n1) Q 101 [mR 144, none, mI x2, none] [] w) (h2 : ¬ (¬ s0 = x2) → Wp (Cw d) cd_M_next (0, 0, n1) Q 99 [mR 144, none, mI x2, none] [] w) : Wp (Cw d) cd_M_next (0, 0, n1) Q 97 [mR 144, none, mI x2, none] [mI s0] w :=
  Wp.s (Wp.s ⟨fun q => h1 q, fun q => h2 q⟩)
theorem M_next_144_b99 {d : Nat} {n1 : Int} {Q : MV → Wd → Prop} {x2 : Int} {w : Wd} (h : Wp (Cw d) cd_M_next (0, 0, n1) Q 102 [mR 144, none, mI x2, none] [mI 1] w) : Wp (Cw d) cd_M_next (0, 0, n1) Q 99 [mR 144, none, mI x2, none] [] w :=
  Wp.s (Wp.s h)
theorem M_next_144_b101 {d : Nat} {n1 : Int} {Q : MV → Wd → Prop} {x2 : Int} {w : Wd} (h : Wp (Cw d) cd_M_next (0, 0, n1) Q 102 [mR 144, none, mI x2, none] [mI 0] w) : Wp (Cw d) cd_M_next (0, 0, n1) Q 101 [mR 144, none, mI x2, none] [] w :=
  Wp.s h
theorem M_next_144_b102 {d : Nat} {n1 : Int} {Q : MV → Wd → Prop} {x2 s0 : Int} {w : Wd} (h1 : 6 ≤ w 144 13 → Wp (Cw d) cd_M_next (0, 0, n1) Q 117 [mR 144, none, mI x2, mI s0] [] w) (h2 : ¬ (6 ≤ w 144 13) → Wp (Cw d) cd_M_next (0, 0, n1) Q 107 [mR 144, none, mI x2, mI s0] [] w) : Wp (Cw d) cd_M_next (0, 0, n1) Q 102 [mR 144, none, mI x2, none] [mI s0] w :=
  Wp.s (Wp.s (Wp.s (Wp.s (Wp.s ⟨fun q => h1 q, fun q => h2 q⟩))))
theorem M_next_144_b107 {d : Nat} {n1 : Int} {Q : MV → Wd → Prop} {x2 x3 : Int} {w : Wd} (h : Cw d 176 [mR 144] w (fun r w' => Wp (Cw d) cd_M_next (0, 0, n1) Q 114 [mR 144, none, mI x2, mI x3] [r, mL (lshl (w 144 17) 8), mR 144] w')) : Wp (Cw d) cd_M_next (0, 0, n1) Q 107 [mR 144, none, mI x2, mI x3] [] w :=
  Wp.s (Wp.s (Wp.s (Wp.s (Wp.s (Wp.s (Wp.s h))))))
theorem M_next_144_b114 {d : Nat} {n1 : Int} {Q : MV → Wd → Prop} {x2 x3 s0 s1 : Int} {w : Wd} (h : Wp (Cw d) cd_M_next (0, 0, n1) Q 117 [mR 144, none, mI x2, mI x3] [] (ub w 144 17 (lor64 s1 s0))) : Wp (Cw d) cd_M_next (0, 0, n1) Q 114 [mR 144, none, mI x2, mI x3] [mI s0, mL s1, mR 144] w :=
  Wp.s (Wp.s (Wp.s h))
theorem M_next_144_b117 {d : Nat} {n1 : Int} {Q : MV → Wd → Prop} {x2 x3 : Int} {w : Wd} (h1 : 3 ≤ w 144 13 → Wp (Cw d) cd_M_next (0, 0, n1) Q 132 [mR 144, none, mI x2, mI x3] [] w) (h2 : ¬ (3 ≤ w 144 13) → Wp (Cw d) cd_M_next (0, 0, n1) Q 121 [mR 144, none, mI x2, mI x3] [] w) : Wp (Cw d) cd_M_next (0, 0, n1) Q 117 [mR 144, none, mI x2, mI x3] [] w :=
  Wp.s (Wp.s (Wp.s (Wp.s ⟨fun q => h1 q, fun q => h2 q⟩)))
theorem M_next_144_b121 {d : Nat} {n1 : Int} {Q : MV → Wd → Prop} {x2 x3 : Int} {w : Wd} (h : Cw d 176 [mR 144] w (fun r w' => Wp (Cw d) cd_M_next (0, 0, n1) Q 128 [mR 144, none, mI x2, mI x3] [r, mI (w32 (10 * (w 144 14))), mR 144] w')) : Wp (Cw d) cd_M_next (0, 0, n1) Q 121 [mR 144, none, mI x2, mI x3] [] w :=
  Wp.s (Wp.s (Wp.s (Wp.s (Wp.s (Wp.s (Wp.s h))))))
theorem M_next_144_b128 {d : Nat} {n1 : Int} {Q : MV → Wd → Prop} {x2 x3 s0 s1 : Int} {w : Wd} (h : Wp (Cw d) cd_M_next (0, 0, n1) Q 132 [mR 144, none, mI x2, mI x3] [] (ub w 144 14 (w32 ((w32 (s1 + s0)) - 48)))) : Wp (Cw d) cd_M_next (0, 0, n1) Q 128 [mR 144, none, mI x2, mI x3] [mI s0, mI s1, mR 144] w :=
  Wp.s (Wp.s (Wp.s (Wp.s h)))
theorem M_next_144_b132 {d : Nat} {n1 : Int} {Q : MV → Wd → Prop} {x2 x3 : Int} {w : Wd} (h : Wp (Cw d) cd_M_next (0, 0, n1) Q 84 [mR 144, none, mI x2, mI x3] [] (ub (ub w 144 13 (w32 ((w 144 13) + 1))) 144 4 (w32 (((up1 (w 144) 13 (w32 ((w 144 13) + 1))) 4) + 1)))) : Wp (Cw d) cd_M_next (0, 0, n1) Q 132 [mR 144, none, mI x2, mI x3] [] w :=
  Wp.s (Wp.s (Wp.s (Wp.s (Wp.s (Wp.s (Wp.s (Wp.s (Wp.s (Wp.s (Wp.s (Wp.s (Wp.s h))))))))))))
theorem M_next_144_b145 {d : Nat} {n1 : Int} {Q : MV → Wd → Prop} {x2 x3 : Int} {w : Wd} (h1 : x3 = 0 → Wp (Cw d) cd_M_next (0, 0, n1) Q 156 [none, none, none, none] [mR 144] w) (h2 : ¬ (x3 = 0) → Wp (Cw d) cd_M_next (0, 0, n1) Q 148 [mR 144, none, mI x2, none] [mR 144] w) : Wp (Cw d) cd_M_next (0, 0, n1) Q 145 [mR 144, none, mI x2, mI x3] [] w :=
  Wp.s (Wp.s (Wp.s ⟨fun q => Wp.fgd (leA.f (leA.f (leA.f (leA.f leA.e)))) (h1 q), fun q => Wp.fgd (leA.k (leA.f (leA.k (leA.f leA.e)))) (h2 q)⟩))
theorem M_next_144_b148 {d : Nat} {n1 : Int} {Q : MV → Wd → Prop} {x2 : Int} {w : Wd} (h1 : x2 = 0 → Wp (Cw d) cd_M_next (0, 0, n1) Q 154 [none, none, mI x2, none] [mI (w 144 13), mR 144] w) (h2 : ¬ (x2 = 0) → Wp (Cw d) cd_M_next (0, 0, n1) Q 152 [none, none, mI x2, none] [mI (w 144 13), mR 144] w) : Wp (Cw d) cd_M_next (0, 0, n1) Q 148 [mR 144, none, mI x2, none] [mR 144] w :=
  Wp.s (Wp.s (Wp.s (Wp.s ⟨fun q => Wp.fgd (leA.f (leA.f (leA.k (leA.f leA.e)))) (h1 q), fun q => Wp.fgd (leA.f (leA.f (leA.k (leA.f leA.e)))) (h2 q)⟩)))
theorem M_next_144_b152 {d : Nat} {n1 : Int} {Q : MV → Wd → Prop} {x2 s0 : Int} {w : Wd} (h : Wp (Cw d) cd_M_next (0, 0, n1) Q 155 [none, none, mI x2, none] [mI 6, mI s0, mR 144] w) : Wp (Cw d) cd_M_next (0, 0, n1) Q 152 [none, none, mI x2, none] [mI s0, mR 144] w :=
  Wp.s (Wp.s h)
theorem M_next_144_b154 {d : Nat} {n1 : Int} {Q : MV → Wd → Prop} {x2 s0 : Int} {w : Wd} (h : Wp (Cw d) cd_M_next (0, 0, n1) Q 155 [none, none, mI x2, none] [mI 3, mI s0, mR 144] w) : Wp (Cw d) cd_M_next (0, 0, n1) Q 154 [none, none, mI x2, none] [mI s0, mR 144] w :=
  Wp.s h
theorem M_next_144_b155 {d : Nat} {n1 : Int} {Q : MV → Wd → Prop} {x2 s0 s1 : Int} {w : Wd} (h1 : s1 ≤ s0 → Wp (Cw d) cd_M_next (0, 0, n1) Q 158 [none, none, mI x2, none] [mR 144] w) (h2 : ¬ (s1 ≤ s0) → Wp (Cw d) cd_M_next (0, 0, n1) Q 156 [none, none, none, none] [mR 144] w) : Wp (Cw d) cd_M_next (0, 0, n1) Q 155 [none, none, mI x2, none] [mI s0, mI s1, mR 144] w :=
  Wp.s ⟨fun q => h1 q, fun q => Wp.fgd (leA.f (leA.f (leA.f (leA.f leA.e)))) (h2 q)⟩
theorem M_next_144_b156 {d : Nat} {n1 : Int} {Q : MV → Wd → Prop} {w : Wd} (h : Wp (Cw d) cd_M_next (0, 0, n1) Q 163 [none, none, none, none] [mI 4, mR 144] w) : Wp (Cw d) cd_M_next (0, 0, n1) Q 156 [none, none, none, none] [mR 144] w :=
  Wp.s (Wp.s h)
theorem M_next_144_b158 {d : Nat} {n1 : Int} {Q : MV → Wd → Prop} {x2 : Int} {w : Wd} (h1 : x2 = 0 → Wp (Cw d) cd_M_next (0, 0, n1) Q 162 [none, none, none, none] [mR 144] w) (h2 : ¬ (x2 = 0) → Wp (Cw d) cd_M_next (0, 0, n1) Q 160 [none, none, none, none] [mR 144] w) : Wp (Cw d) cd_M_next (0, 0, n1) Q 158 [none, none, mI x2, none] [mR 144] w :=
  Wp.s (Wp.s ⟨fun q => Wp.fgd (leA.f (leA.f (leA.f (leA.f leA.e)))) (h1 q), fun q => Wp.fgd (leA.f (leA.f (leA.f (leA.f leA.e)))) (h2 q)⟩)
theorem M_next_144_b160 {d : Nat} {n1 : Int} {Q : MV → Wd → Prop} {w : Wd} (h : Wp (Cw d) cd_M_next (0, 0, n1) Q 163 [none, none, none, none] [mI 1, mR 144] w) : Wp (Cw d) cd_M_next (0, 0, n1) Q 160 [none, none, none, none] [mR 144] w :=
  Wp.s (Wp.s h)
theorem M_next_144_b162 {d : Nat} {n1 : Int} {Q : MV → Wd → Prop} {w : Wd} (h : Wp (Cw d) cd_M_next (0, 0, n1) Q 163 [none, none, none, none] [mI 2, mR 144] w) : Wp (Cw d) cd_M_next (0, 0, n1) Q 162 [none, none, none, none] [mR 144] w :=
  Wp.s h
theorem M_next_144_b163 {d : Nat} {n1 : Int} {Q : MV → Wd → Prop} {s0 : Int} {w : Wd} (h : Q none (ub w 144 11 s0)) : Wp (Cw d) cd_M_next (0, 0, n1) Q 163 [none, none, none, none] [mI s0, mR 144] w :=
  Wp.s (Wp.s h)
theorem M_line_144_b0 {d : Nat} {n1 : Int} {Q : MV → Wd → Prop} {w : Wd} (h : Cw d 180 [mR 144, mL 7825519] w (fun r w' => Wp (Cw d) cd_M_line (2, 0, n1) Q 3 [mR 144] [r] w')) : Wp (Cw d) cd_M_line (2, 0, n1) Q 0 [mR 144] [] w :=
  Wp.s (Wp.s (Wp.s h))
theorem M_line_144_b3 {d : Nat} {n1 : Int} {Q : MV → Wd → Prop} {s0 : Int} {w : Wd} (h1 : s0 = 0 → Wp (Cw d) cd_M_line (2, 0, n1) Q 7 [mR 144] [] w) (h2 : ¬ (s0 = 0) → Wp (Cw d) cd_M_line (2, 0, n1) Q 4 [mR 144] [] w) : Wp (Cw d) cd_M_line (2, 0, n1) Q 3 [mR 144] [mI s0] w :=
  Wp.s ⟨fun q => h1 q, fun q => h2 q⟩
theorem M_line_144_b4 {d : Nat} {n1 : Int} {Q : MV → Wd → Prop} {w : Wd} (h : Cw d 181 [mR 144] w (fun r w' => Wp (Cw d) cd_M_line (2, 0, n1) Q 6 [none] [r] w')) : Wp (Cw d) cd_M_line (2, 0, n1) Q 4 [mR 144] [] w :=
  Wp.s (Wp.s (Cw_mono _ _ _ _ _ _ (fun r w' q => Wp.fgd (leA.f leA.e) q) h))
theorem M_line_144_b6 {d : Nat} {n1 : Int} {Q : MV → Wd → Prop} {s0 : Int} {w : Wd} (g1 : s0 = 0 ∨ s0 = 1) (h : Q (mI s0) w) : Wp (Cw d) cd_M_line (2, 0, n1) Q 6 [none] [mI s0] w :=
  Wp.s ⟨g1, h⟩
theorem M_line_144_b7 {d : Nat} {n1 : Int} {Q : MV → Wd → Prop} {w : Wd} (h : Cw d 180 [mR 144, mL 1936683636] w (fun r w' => Wp (Cw d) cd_M_line (2, 0, n1) Q 10 [mR 144] [r] w')) : Wp (Cw d) cd_M_line (2, 0, n1) Q 7 [mR 144] [] w :=
  Wp.s (Wp.s (Wp.s h))
theorem M_line_144_b10 {d : Nat} {n1 : Int} {Q : MV → Wd → Prop} {s0 : Int} {w : Wd} (h1 : s0 = 0 → Wp (Cw d) cd_M_line (2, 0, n1) Q 14 [mR 144] [] w) (h2 : ¬ (s0 = 0) → Wp (Cw d) cd_M_line (2, 0, n1) Q 11 [mR 144] [] w) : Wp (Cw d) cd_M_line (2, 0, n1) Q 10 [mR 144] [mI s0] w :=
  Wp.s ⟨fun q => h1 q, fun q => h2 q⟩
theorem M_line_144_b11 {d : Nat} {n1 : Int} {Q : MV → Wd → Prop} {w : Wd} (h : Cw d 188 [mR 144] w (fun r w' => Wp (Cw d) cd_M_line (2, 0, n1) Q 13 [none] [r] w')) : Wp (Cw d) cd_M_line (2, 0, n1) Q 11 [mR 144] [] w :=
  Wp.s (Wp.s (Cw_mono _ _ _ _ _ _ (fun r w' q => Wp.fgd (leA.f leA.e) q) h))
theorem M_line_144_b13 {d : Nat} {n1 : Int} {Q : MV → Wd → Prop} {s0 : Int} {w : Wd} (g1 : s0 = 0 ∨ s0 = 1) (h : Q (mI s0) w) : Wp (Cw d) cd_M_line (2, 0, n1) Q 13 [none] [mI s0] w :=
  Wp.s ⟨g1, h⟩
theorem M_line_144_b14 {d : Nat} {n1 : Int} {Q : MV → Wd → Prop} {w : Wd} (h : Cw d 180 [mR 144, mL 469785863539] w (fun r w' => Wp (Cw d) cd_M_line (2, 0, n1) Q 17 [mR 144] [r] w')) : Wp (Cw d) cd_M_line (2, 0, n1) Q 14 [mR 144] [] w :=
  Wp.s (Wp.s (Wp.s h))
theorem M_line_144_b17 {d : Nat} {n1 : Int} {Q : MV → Wd → Prop} {s0 : Int} {w : Wd} (h1 : s0 = 0 → Wp (Cw d) cd_M_line (2, 0, n1) Q 21 [mR 144] [] w) (h2 : ¬ (s0 = 0) → Wp (Cw d) cd_M_line (2, 0, n1) Q 18 [mR 144] [] w) : Wp (Cw d) cd_M_line (2, 0, n1) Q 17 [mR 144] [mI s0] w :=
  Wp.s ⟨fun q => h1 q, fun q => h2 q⟩
theorem M_line_144_b18 {d : Nat} {n1 : Int} {Q : MV → Wd → Prop} {w : Wd} (h : Cw d 189 [mR 144] w (fun r w' => Wp (Cw d) cd_M_line (2, 0, n1) Q 20 [none] [r] w')) : Wp (Cw d) cd_M_line (2, 0, n1) Q 18 [mR 144] [] w :=
  Wp.s (Wp.s (Cw_mono _ _ _ _ _ _ (fun r w' q => Wp.fgd (leA.f leA.e) q) h))
theorem M_line_144_b20 {d : Nat} {n1 : Int} {Q : MV → Wd → Prop} {s0 : Int} {w : Wd} (g1 : s0 = 0 ∨ s0 = 1) (h : Q (mI s0) w) : Wp (Cw d) cd_M_line (2, 0, n1) Q 20 [none] [mI s0] w :=
  Wp.s ⟨g1, h⟩
theorem M_line_144_b21 {d : Nat} {n1 : Int} {Q : MV → Wd → Prop} {w : Wd} (h : Cw d 180 [mR 144, mL 512735736947] w (fun r w' => Wp (Cw d) cd_M_line (2, 0, n1) Q 24 [mR 144] [r] w')) : Wp (Cw d) cd_M_line (2, 0, n1) Q 21 [mR 144] [] w :=
  Wp.s (Wp.s (Wp.s h))
theorem M_line_144_b24 {d : Nat} {n1 : Int} {Q : MV → Wd → Prop} {s0 : Int} {w : Wd} (h1 : s0 = 0 → Wp (Cw d) cd_M_line (2, 0, n1) Q 28 [mR 144] [] w) (h2 : ¬ (s0 = 0) → Wp (Cw d) cd_M_line (2, 0, n1) Q 25 [mR 144] [] w) : Wp (Cw d) cd_M_line (2, 0, n1) Q 24 [mR 144] [mI s0] w :=
  Wp.s ⟨fun q => h1 q, fun q => h2 q⟩
theorem M_line_144_b25 {d : Nat} {n1 : Int} {Q : MV → Wd → Prop} {w : Wd} (h : Cw d 192 [mR 144] w (fun r w' => Wp (Cw d) cd_M_line (2, 0, n1) Q 27 [none] [r] w')) : Wp (Cw d) cd_M_line (2, 0, n1) Q 25 [mR 144] [] w :=
  Wp.s (Wp.s (Cw_mono _ _ _ _ _ _ (fun r w' q => Wp.fgd (leA.f leA.e) q) h))
theorem M_line_144_b27 {d : Nat} {n1 : Int} {Q : MV → Wd → Prop} {s0 : Int} {w : Wd} (g1 : s0 = 0 ∨ s0 = 1) (h : Q (mI s0) w) : Wp (Cw d) cd_M_line (2, 0, n1) Q 27 [none] [mI s0] w :=
  Wp.s ⟨g1, h⟩
theorem M_line_144_b28 {d : Nat} {n1 : Int} {Q : MV → Wd → Prop} {w : Wd} (h : Cw d 180 [mR 144, mL 444150998387] w (fun r w' => Wp (Cw d) cd_M_line (2, 0, n1) Q 31 [mR 144] [r] w')) : Wp (Cw d) cd_M_line (2, 0, n1) Q 28 [mR 144] [] w :=
  Wp.s (Wp.s (Wp.s h))
theorem M_line_144_b31 {d : Nat} {n1 : Int} {Q : MV → Wd → Prop} {s0 : Int} {w : Wd} (h1 : s0 = 0 → Wp (Cw d) cd_M_line (2, 0, n1) Q 35 [mR 144] [] w) (h2 : ¬ (s0 = 0) → Wp (Cw d) cd_M_line (2, 0, n1) Q 32 [mR 144] [] w) : Wp (Cw d) cd_M_line (2, 0, n1) Q 31 [mR 144] [mI s0] w :=
  Wp.s ⟨fun q => h1 q, fun q => h2 q⟩
theorem M_line_144_b32 {d : Nat} {n1 : Int} {Q : MV → Wd → Prop} {w : Wd} (h : Cw d 193 [mR 144] w (fun r w' => Wp (Cw d) cd_M_line (2, 0, n1) Q 34 [none] [r] w')) : Wp (Cw d) cd_M_line (2, 0, n1) Q 32 [mR 144] [] w :=
  Wp.s (Wp.s (Cw_mono _ _ _ _ _ _ (fun r w' q => Wp.fgd (leA.f leA.e) q) h))
theorem M_line_144_b34 {d : Nat} {n1 : Int} {Q : MV → Wd → Prop} {s0 : Int} {w : Wd} (g1 : s0 = 0 ∨ s0 = 1) (h : Q (mI s0) w) : Wp (Cw d) cd_M_line (2, 0, n1) Q 34 [none] [mI s0] w :=
  Wp.s ⟨g1, h⟩
theorem M_line_144_b35 {d : Nat} {n1 : Int} {Q : MV → Wd → Prop} {w : Wd} (h : Cw d 180 [mR 144, mL 7102839] w (fun r w' => Wp (Cw d) cd_M_line (2, 0, n1) Q 38 [mR 144] [r] w')) : Wp (Cw d) cd_M_line (2, 0, n1) Q 35 [mR 144] [] w :=
  Wp.s (Wp.s (Wp.s h))
theorem M_line_144_b38 {d : Nat} {n1 : Int} {Q : MV → Wd → Prop} {s0 : Int} {w : Wd} (h1 : s0 = 0 → Wp (Cw d) cd_M_line (2, 0, n1) Q 42 [mR 144] [] w) (h2 : ¬ (s0 = 0) → Wp (Cw d) cd_M_line (2, 0, n1) Q 39 [mR 144] [] w) : Wp (Cw d) cd_M_line (2, 0, n1) Q 38 [mR 144] [mI s0] w :=
  Wp.s ⟨fun q => h1 q, fun q => h2 q⟩
theorem M_line_144_b39 {d : Nat} {n1 : Int} {Q : MV → Wd → Prop} {w : Wd} (h : Cw d 194 [mR 144] w (fun r w' => Wp (Cw d) cd_M_line (2, 0, n1) Q 41 [none] [r] w')) : Wp (Cw d) cd_M_line (2, 0, n1) Q 39 [mR 144] [] w :=
  Wp.s (Wp.s (Cw_mono _ _ _ _ _ _ (fun r w' q => Wp.fgd (leA.f leA.e) q) h))
theorem M_line_144_b41 {d : Nat} {n1 : Int} {Q : MV → Wd → Prop} {s0 : Int} {w : Wd} (h : Wp (Cw d) cd_M_line (2, 0, n1) Q 45 [none] [mI s0] w) : Wp (Cw d) cd_M_line (2, 0, n1) Q 41 [none] [mI s0] w :=
  Wp.s h
theorem M_line_144_b42 {d : Nat} {n1 : Int} {Q : MV → Wd → Prop} {w : Wd} (h : Cw d 182 [mR 144, mI 1] w (fun r w' => Wp (Cw d) cd_M_line (2, 0, n1) Q 45 [none] [r] w')) : Wp (Cw d) cd_M_line (2, 0, n1) Q 42 [mR 144] [] w :=
  Wp.s (Wp.s (Wp.s (Cw_mono _ _ _ _ _ _ (fun r w' q => Wp.fgd (leA.f leA.e) q) h)))
theorem M_line_144_b45 {d : Nat} {n1 : Int} {Q : MV → Wd → Prop} {s0 : Int} {w : Wd} (g1 : s0 = 0 ∨ s0 = 1) (h : Q (mI s0) w) : Wp (Cw d) cd_M_line (2, 0, n1) Q 45 [none] [mI s0] w :=
  Wp.s ⟨g1, h⟩
theorem M_sign_144_b0 {d : Nat} {n1 : Int} {Q : MV → Wd → Prop} {x1 : Int} {w : Wd} (h : Cw d 196 [mR 144, mI x1] w (fun r w' => Wp (Cw d) cd_M_sign (2, 0, n1) Q 3 [mR 144, none] [r] w')) : Wp (Cw d) cd_M_sign (2, 0, n1) Q 0 [mR 144, mI x1] [] w :=
  Wp.s (Wp.s (Wp.s (Cw_mono _ _ _ _ _ _ (fun r w' q => Wp.fgd (leA.k (leA.f leA.e)) q) h)))
theorem M_sign_144_b3 {d : Nat} {n1 : Int} {Q : MV → Wd → Prop} {s0 : Int} {w : Wd} (h1 : ¬ s0 = 0 → Wp (Cw d) cd_M_sign (2, 0, n1) Q 8 [mR 144, none] [] w) (h2 : ¬ (¬ s0 = 0) → Wp (Cw d) cd_M_sign (2, 0, n1) Q 4 [mR 144, none] [] w) : Wp (Cw d) cd_M_sign (2, 0, n1) Q 3 [mR 144, none] [mI s0] w :=
  Wp.s ⟨fun q => h1 q, fun q => h2 q⟩
theorem M_sign_144_b4 {d : Nat} {n1 : Int} {Q : MV → Wd → Prop} {w : Wd} (h : Cw d 182 [mR 144, mI 1] w (fun r w' => Wp (Cw d) cd_M_sign (2, 0, n1) Q 7 [none, none] [r] w')) : Wp (Cw d) cd_M_sign (2, 0, n1) Q 4 [mR 144, none] [] w :=
  Wp.s (Wp.s (Wp.s (Cw_mono _ _ _ _ _ _ (fun r w' q => Wp.fgd (leA.f (leA.f leA.e)) q) h)))
theorem M_sign_144_b7 {d : Nat} {n1 : Int} {Q : MV → Wd → Prop} {s0 : Int} {w : Wd} (g1 : s0 = 0 ∨ s0 = 1) (h : Q (mI s0) w) : Wp (Cw d) cd_M_sign (2, 0, n1) Q 7 [none, none] [mI s0] w :=
  Wp.s ⟨g1, h⟩
theorem M_sign_144_b8 {d : Nat} {n1 : Int} {Q : MV → Wd → Prop} {w : Wd} (h : Cw d 175 [mR 144] w (fun _ w' => Wp (Cw d) cd_M_sign (2, 0, n1) Q 10 [none, none] [] w')) : Wp (Cw d) cd_M_sign (2, 0, n1) Q 8 [mR 144, none] [] w :=
  Wp.s (Wp.s (Cw_mono _ _ _ _ _ _ (fun r w' q => Wp.fgd (leA.f (leA.f leA.e)) q) h))
theorem M_sign_144_b10 {d : Nat} {n1 : Int} {Q : MV → Wd → Prop} {w : Wd} (h : Q (mI 1) w) : Wp (Cw d) cd_M_sign (2, 0, n1) Q 10 [none, none] [] w :=
  Wp.s (Wp.s ⟨(Or.inr rfl), h⟩)
theorem M_isUnit_144_b0 {d : Nat} {n1 : Int} {Q : MV → Wd → Prop} {x1 : Int} {w : Wd} (h : Cw d 187 [mI x1, mI 0, mI (w32 ((w 146 2.toNat) - 1))] w (fun r w' => Wp (Cw d) cd_M_isUnit (2, 0, n1) Q 9 [none, none] [r] w')) : Wp (Cw d) cd_M_isUnit (2, 0, n1) Q 0 [mR 144, mI x1] [] w :=
  Wp.s (Wp.s (Wp.s (Wp.s (Wp.s (Wp.s ⟨(by decide), Wp.s (Wp.s (Wp.s (Cw_mono _ _ _ _ _ _ (fun r w' q => Wp.fgd (leA.f (leA.f leA.e)) q) h)))⟩)))))
theorem M_isUnit_144_b9 {d : Nat} {n1 : Int} {Q : MV → Wd → Prop} {s0 : Int} {w : Wd} (g1 : s0 = 0 ∨ s0 = 1) (h : Q (mI s0) w) : Wp (Cw d) cd_M_isUnit (2, 0, n1) Q 9 [none, none] [mI s0] w :=
  Wp.s ⟨g1, h⟩
theorem M_isIn_b0 {d : Nat} {n1 : Int} {Q : MV → Wd → Prop} {x0 x1 x2 : Int} {w : Wd} (h1 : x0 < x1 → Wp (Cw d) cd_M_isIn (2, 0, n1) Q 8 [none, none, none] [] w) (h2 : ¬ (x0 < x1) → Wp (Cw d) cd_M_isIn (2, 0, n1) Q 3 [mI x0, none, mI x2] [] w) : Wp (Cw d) cd_M_isIn (2, 0, n1) Q 0 [mI x0, mI x1, mI x2] [] w :=
  Wp.s (Wp.s (Wp.s ⟨fun q => Wp.fgd (leA.f (leA.f (leA.f leA.e))) (h1 q), fun q => Wp.fgd (leA.k (leA.f (leA.k leA.e))) (h2 q)⟩))
theorem M_isIn_b3 {d : Nat} {n1 : Int} {Q : MV → Wd → Prop} {x0 x2 : Int} {w : Wd} (h1 : x2 < x0 → Wp (Cw d) cd_M_isIn (2, 0, n1) Q 8 [none, none, none] [] w) (h2 : ¬ (x2 < x0) → Wp (Cw d) cd_M_isIn (2, 0, n1) Q 6 [none, none, none] [] w) : Wp (Cw d) cd_M_isIn (2, 0, n1) Q 3 [mI x0, none, mI x2] [] w :=
  Wp.s (Wp.s (Wp.s ⟨fun q => Wp.fgd (leA.f (leA.f (leA.f leA.e))) (h1 q), fun q => Wp.fgd (leA.f (leA.f (leA.f leA.e))) (h2 q)⟩))
theorem M_isIn_b6 {d : Nat} {n1 : Int} {Q : MV → Wd → Prop} {w : Wd} (h : Wp (Cw d) cd_M_isIn (2, 0, n1) Q 9 [none, none, none] [mI 1] w) : Wp (Cw d) cd_M_isIn (2, 0, n1) Q 6 [none, none, none] [] w :=
  Wp.s (Wp.s h)
theorem M_isIn_b8 {d : Nat} {n1 : Int} {Q : MV → Wd → Prop} {w : Wd} (h : Wp (Cw d) cd_M_isIn (2, 0, n1) Q 9 [none, none, none] [mI 0] w) : Wp (Cw d) cd_M_isIn (2, 0, n1) Q 8 [none, none, none] [] w :=
  Wp.s h
theorem M_isIn_b9 {d : Nat} {n1 : Int} {Q : MV → Wd → Prop} {s0 : Int} {w : Wd} (g1 : s0 = 0 ∨ s0 = 1) (h : Q (mI s0) w) : Wp (Cw d) cd_M_isIn (2, 0, n1) Q 9 [none, none, none] [mI s0] w :=
  Wp.s ⟨g1, h⟩
theorem M_throwsIf_144_b0 {d : Nat} {n1 : Int} {Q : MV → Wd → Prop} {x1 : Int} {w : Wd} (h1 : x1 = 0 → Wp (Cw d) cd_M_throwsIf (2, 0, n1) Q 5 [none, mI x1] [mR 144] w) (h2 : ¬ (x1 = 0) → Wp (Cw d) cd_M_throwsIf (2, 0, n1) Q 3 [none, mI x1] [mR 144] w) : Wp (Cw d) cd_M_throwsIf (2, 0, n1) Q 0 [mR 144, mI x1] [] w :=
  Wp.s (Wp.s (Wp.s ⟨fun q => Wp.fgd (leA.f (leA.k leA.e)) (h1 q), fun q => Wp.fgd (leA.f (leA.k leA.e)) (h2 q)⟩))
theorem M_throwsIf_144_b3 {d : Nat} {n1 : Int} {Q : MV → Wd → Prop} {x1 : Int} {w : Wd} (h : Wp (Cw d) cd_M_throwsIf (2, 0, n1) Q 6 [none, mI x1] [mI 1, mR 144] w) : Wp (Cw d) cd_M_throwsIf (2, 0, n1) Q 3 [none, mI x1] [mR 144] w :=
  Wp.s (Wp.s h)
theorem M_throwsIf_144_b5 {d : Nat} {n1 : Int} {Q : MV → Wd → Prop} {x1 : Int} {w : Wd} (h : Wp (Cw d) cd_M_throwsIf (2, 0, n1) Q 6 [none, mI x1] [mI 0, mR 144] w) : Wp (Cw d) cd_M_throwsIf (2, 0, n1) Q 5 [none, mI x1] [mR 144] w :=
  Wp.s h
theorem M_throwsIf_144_b6 {d : Nat} {n1 : Int} {Q : MV → Wd → Prop} {x1 s0 : Int} {w : Wd} (g1 : x1 = 0 ∨ x1 = 1) (h : Q (mI x1) (ub w 144 0 s0)) : Wp (Cw d) cd_M_throwsIf (2, 0, n1) Q 6 [none, mI x1] [mI s0, mR 144] w :=
  Wp.s (Wp.s (Wp.s ⟨g1, h⟩))
theorem M_spoils_144_b0 {d : Nat} {n1 : Int} {Q : MV → Wd → Prop} {x1 : Int} {w : Wd} (g1 : (0 : Int) ≤ w32 ((w32 (29 + (w32 (5 * x1)))) + 4) ∧ w32 ((w32 (29 + (w32 (5 * x1)))) + 4) < 645) (h : Cw d 202 [mR 144, mI x1] w (fun r w' => Wp (Cw d) cd_M_spoils (1, 0, n1) Q 16 [none, none] [r, mI 23, mR 146, mI (w 146 (w32 ((w32 (29 + (w32 (5 * x1)))) + 4)).toNat)] w')) : Wp (Cw d) cd_M_spoils (1, 0, n1) Q 0 [mR 144, mI x1] [] w :=
  Wp.s (Wp.s (Wp.s (Wp.s (Wp.s (Wp.s (Wp.s (Wp.s (Wp.s (Wp.s ⟨g1, Wp.s (Wp.s (Wp.s (Wp.s (Wp.s (Wp.s (Cw_mono _ _ _ _ _ _ (fun r w' q => Wp.fgd (leA.f (leA.f leA.e)) q) h))))))⟩)))))))))
theorem M_spoils_144_b16 {d : Nat} {n1 : Int} {Q : MV → Wd → Prop} {s0 s1 s3 : Int} {w : Wd} (g1 : (0 : Int) ≤ w32 (s1 + s0) ∧ w32 (s1 + s0) < 645) (h : Q (mI (w32 (s3 + (w 146 (w32 (s1 + s0)).toNat)))) w) : Wp (Cw d) cd_M_spoils (1, 0, n1) Q 16 [none, none] [mI s0, mI s1, mR 146, mI s3] w :=
  Wp.s (Wp.s ⟨g1, Wp.s (Wp.s h)⟩)
theorem M_isWant_144_b0 {d : Nat} {n1 : Int} {Q : MV → Wd → Prop} {x1 : Int} {w : Wd} (h : Cw d 187 [mI x1, mI 0, mI (w32 ((w 146 3.toNat) - 1))] w (fun r w' => Wp (Cw d) cd_M_isWant (2, 0, n1) Q 9 [none, none] [r] w')) : Wp (Cw d) cd_M_isWant (2, 0, n1) Q 0 [mR 144, mI x1] [] w :=
  Wp.s (Wp.s (Wp.s (Wp.s (Wp.s (Wp.s ⟨(by decide), Wp.s (Wp.s (Wp.s (Cw_mono _ _ _ _ _ _ (fun r w' q => Wp.fgd (leA.f (leA.f leA.e)) q) h)))⟩)))))
theorem M_isWant_144_b9 {d : Nat} {n1 : Int} {Q : MV → Wd → Prop} {s0 : Int} {w : Wd} (g1 : s0 = 0 ∨ s0 = 1) (h : Q (mI s0) w) : Wp (Cw d) cd_M_isWant (2, 0, n1) Q 9 [none, none] [mI s0] w :=
  Wp.s ⟨g1, h⟩
theorem Village_hasPerson_4_b0 {d : Nat} {n1 : Int} {Q : MV → Wd → Prop} {x1 : Int} {w : Wd} (h1 : x1 < 0 → Wp (Cw d) cd_Village_hasPerson (2, 0, n1) Q 8 [none, none] [] w) (h2 : ¬ (x1 < 0) → Wp (Cw d) cd_Village_hasPerson (2, 0, n1) Q 2 [mR 4, mI x1] [] w) : Wp (Cw d) cd_Village_hasPerson (2, 0, n1) Q 0 [mR 4, mI x1] [] w :=
  Wp.s (Wp.s ⟨fun q => Wp.fgd (leA.f (leA.f leA.e)) (h1 q), fun q => h2 q⟩)
theorem Village_hasPerson_4_b2 {d : Nat} {n1 : Int} {Q : MV → Wd → Prop} {x1 : Int} {w : Wd} (h1 : w 4 0 ≤ x1 → Wp (Cw d) cd_Village_hasPerson (2, 0, n1) Q 8 [none, none] [] w) (h2 : ¬ (w 4 0 ≤ x1) → Wp (Cw d) cd_Village_hasPerson (2, 0, n1) Q 6 [none, none] [] w) : Wp (Cw d) cd_Village_hasPerson (2, 0, n1) Q 2 [mR 4, mI x1] [] w :=
  Wp.s (Wp.s (Wp.s (Wp.s ⟨fun q => Wp.fgd (leA.f (leA.f leA.e)) (h1 q), fun q => Wp.fgd (leA.f (leA.f leA.e)) (h2 q)⟩)))
theorem Village_hasPerson_4_b6 {d : Nat} {n1 : Int} {Q : MV → Wd → Prop} {w : Wd} (h : Wp (Cw d) cd_Village_hasPerson (2, 0, n1) Q 9 [none, none] [mI 1] w) : Wp (Cw d) cd_Village_hasPerson (2, 0, n1) Q 6 [none, none] [] w :=
  Wp.s (Wp.s h)
theorem Village_hasPerson_4_b8 {d : Nat} {n1 : Int} {Q : MV → Wd → Prop} {w : Wd} (h : Wp (Cw d) cd_Village_hasPerson (2, 0, n1) Q 9 [none, none] [mI 0] w) : Wp (Cw d) cd_Village_hasPerson (2, 0, n1) Q 8 [none, none] [] w :=
  Wp.s h
theorem Village_hasPerson_4_b9 {d : Nat} {n1 : Int} {Q : MV → Wd → Prop} {s0 : Int} {w : Wd} (g1 : s0 = 0 ∨ s0 = 1) (h : Q (mI s0) w) : Wp (Cw d) cd_Village_hasPerson (2, 0, n1) Q 9 [none, none] [mI s0] w :=
  Wp.s ⟨g1, h⟩
theorem M_isWho_144_b0 {d : Nat} {n1 : Int} {Q : MV → Wd → Prop} {x1 : Int} {w : Wd} (h : Cw d 187 [mI x1, mI 0, mI (w32 ((w 146 0.toNat) - 1))] w (fun r w' => Wp (Cw d) cd_M_isWho (2, 0, n1) Q 9 [none, none] [r] w')) : Wp (Cw d) cd_M_isWho (2, 0, n1) Q 0 [mR 144, mI x1] [] w :=
  Wp.s (Wp.s (Wp.s (Wp.s (Wp.s (Wp.s ⟨(by decide), Wp.s (Wp.s (Wp.s (Cw_mono _ _ _ _ _ _ (fun r w' q => Wp.fgd (leA.f (leA.f leA.e)) q) h)))⟩)))))
theorem M_isWho_144_b9 {d : Nat} {n1 : Int} {Q : MV → Wd → Prop} {s0 : Int} {w : Wd} (g1 : s0 = 0 ∨ s0 = 1) (h : Q (mI s0) w) : Wp (Cw d) cd_M_isWho (2, 0, n1) Q 9 [none, none] [mI s0] w :=
  Wp.s ⟨g1, h⟩
theorem Village_hasUnit_4_b0 {d : Nat} {n1 : Int} {Q : MV → Wd → Prop} {x1 : Int} {w : Wd} (h1 : x1 < 0 → Wp (Cw d) cd_Village_hasUnit (2, 0, n1) Q 8 [none, none] [] w) (h2 : ¬ (x1 < 0) → Wp (Cw d) cd_Village_hasUnit (2, 0, n1) Q 2 [mR 4, mI x1] [] w) : Wp (Cw d) cd_Village_hasUnit (2, 0, n1) Q 0 [mR 4, mI x1] [] w :=
  Wp.s (Wp.s ⟨fun q => Wp.fgd (leA.f (leA.f leA.e)) (h1 q), fun q => h2 q⟩)
theorem Village_hasUnit_4_b2 {d : Nat} {n1 : Int} {Q : MV → Wd → Prop} {x1 : Int} {w : Wd} (h1 : w 4 8 ≤ x1 → Wp (Cw d) cd_Village_hasUnit (2, 0, n1) Q 8 [none, none] [] w) (h2 : ¬ (w 4 8 ≤ x1) → Wp (Cw d) cd_Village_hasUnit (2, 0, n1) Q 6 [none, none] [] w) : Wp (Cw d) cd_Village_hasUnit (2, 0, n1) Q 2 [mR 4, mI x1] [] w :=
  Wp.s (Wp.s (Wp.s (Wp.s ⟨fun q => Wp.fgd (leA.f (leA.f leA.e)) (h1 q), fun q => Wp.fgd (leA.f (leA.f leA.e)) (h2 q)⟩)))
theorem Village_hasUnit_4_b6 {d : Nat} {n1 : Int} {Q : MV → Wd → Prop} {w : Wd} (h : Wp (Cw d) cd_Village_hasUnit (2, 0, n1) Q 9 [none, none] [mI 1] w) : Wp (Cw d) cd_Village_hasUnit (2, 0, n1) Q 6 [none, none] [] w :=
  Wp.s (Wp.s h)
theorem Village_hasUnit_4_b8 {d : Nat} {n1 : Int} {Q : MV → Wd → Prop} {w : Wd} (h : Wp (Cw d) cd_Village_hasUnit (2, 0, n1) Q 9 [none, none] [mI 0] w) : Wp (Cw d) cd_Village_hasUnit (2, 0, n1) Q 8 [none, none] [] w :=
  Wp.s h
theorem Village_hasUnit_4_b9 {d : Nat} {n1 : Int} {Q : MV → Wd → Prop} {s0 : Int} {w : Wd} (g1 : s0 = 0 ∨ s0 = 1) (h : Q (mI s0) w) : Wp (Cw d) cd_Village_hasUnit (2, 0, n1) Q 9 [none, none] [mI s0] w :=
  Wp.s ⟨g1, h⟩
theorem Village_hasWant_4_b0 {d : Nat} {n1 : Int} {Q : MV → Wd → Prop} {x1 : Int} {w : Wd} (h1 : x1 < 0 → Wp (Cw d) cd_Village_hasWant (2, 0, n1) Q 8 [none, none] [] w) (h2 : ¬ (x1 < 0) → Wp (Cw d) cd_Village_hasWant (2, 0, n1) Q 2 [mR 4, mI x1] [] w) : Wp (Cw d) cd_Village_hasWant (2, 0, n1) Q 0 [mR 4, mI x1] [] w :=
  Wp.s (Wp.s ⟨fun q => Wp.fgd (leA.f (leA.f leA.e)) (h1 q), fun q => h2 q⟩)
theorem Village_hasWant_4_b2 {d : Nat} {n1 : Int} {Q : MV → Wd → Prop} {x1 : Int} {w : Wd} (h1 : w 4 11 ≤ x1 → Wp (Cw d) cd_Village_hasWant (2, 0, n1) Q 8 [none, none] [] w) (h2 : ¬ (w 4 11 ≤ x1) → Wp (Cw d) cd_Village_hasWant (2, 0, n1) Q 6 [none, none] [] w) : Wp (Cw d) cd_Village_hasWant (2, 0, n1) Q 2 [mR 4, mI x1] [] w :=
  Wp.s (Wp.s (Wp.s (Wp.s ⟨fun q => Wp.fgd (leA.f (leA.f leA.e)) (h1 q), fun q => Wp.fgd (leA.f (leA.f leA.e)) (h2 q)⟩)))
theorem Village_hasWant_4_b6 {d : Nat} {n1 : Int} {Q : MV → Wd → Prop} {w : Wd} (h : Wp (Cw d) cd_Village_hasWant (2, 0, n1) Q 9 [none, none] [mI 1] w) : Wp (Cw d) cd_Village_hasWant (2, 0, n1) Q 6 [none, none] [] w :=
  Wp.s (Wp.s h)
theorem Village_hasWant_4_b8 {d : Nat} {n1 : Int} {Q : MV → Wd → Prop} {w : Wd} (h : Wp (Cw d) cd_Village_hasWant (2, 0, n1) Q 9 [none, none] [mI 0] w) : Wp (Cw d) cd_Village_hasWant (2, 0, n1) Q 8 [none, none] [] w :=
  Wp.s h
theorem Village_hasWant_4_b9 {d : Nat} {n1 : Int} {Q : MV → Wd → Prop} {s0 : Int} {w : Wd} (g1 : s0 = 0 ∨ s0 = 1) (h : Q (mI s0) w) : Wp (Cw d) cd_Village_hasWant (2, 0, n1) Q 9 [none, none] [mI s0] w :=
  Wp.s ⟨g1, h⟩
theorem X_asTold_0_b0 {d : Nat} {n1 : Int} {Q : MV → Wd → Prop} {w : Wd} (h1 : w 0 12 = 0 → Wp (Cw d) cd_X_asTold (4, 0, n1) Q 14 [mR 0] [] w) (h2 : ¬ (w 0 12 = 0) → Wp (Cw d) cd_X_asTold (4, 0, n1) Q 3 [mR 0] [] w) : Wp (Cw d) cd_X_asTold (4, 0, n1) Q 0 [mR 0] [] w :=
  Wp.s (Wp.s (Wp.s ⟨fun q => h1 q, fun q => h2 q⟩))
theorem X_asTold_0_b3 {d : Nat} {n1 : Int} {Q : MV → Wd → Prop} {w : Wd} (h : Cw d 56 [mR 94] w (fun _ w' => Wp (Cw d) cd_X_asTold (4, 0, n1) Q 8 [mR 0] [] w')) : Wp (Cw d) cd_X_asTold (4, 0, n1) Q 3 [mR 0] [] w :=
  Wp.s (Wp.s (Wp.s (Wp.s (Wp.s h))))
theorem X_asTold_0_b8 {d : Nat} {n1 : Int} {Q : MV → Wd → Prop} {w : Wd} (h : Cw d 57 [mR 92] w (fun _ w' => Wp (Cw d) cd_X_asTold (4, 0, n1) Q 11 [mR 0] [] w')) : Wp (Cw d) cd_X_asTold (4, 0, n1) Q 8 [mR 0] [] w :=
  Wp.s (Wp.s (Wp.s h))
theorem X_asTold_0_b11 {d : Nat} {n1 : Int} {Q : MV → Wd → Prop} {w : Wd} (h : Wp (Cw d) cd_X_asTold (4, 0, n1) Q 14 [mR 0] [] (ub w 0 12 0)) : Wp (Cw d) cd_X_asTold (4, 0, n1) Q 11 [mR 0] [] w :=
  Wp.s (Wp.s (Wp.s ⟨(Or.inl rfl), h⟩))
theorem X_asTold_0_b14 {d : Nat} {n1 : Int} {Q : MV → Wd → Prop} {w : Wd} (h : Q (mR 92) w) : Wp (Cw d) cd_X_asTold (4, 0, n1) Q 14 [mR 0] [] w :=
  Wp.s (Wp.s (Wp.s h))
theorem Meeting_taken_92_b0 {d : Nat} {n1 : Int} {Q : MV → Wd → Prop} {x1 x2 : Int} {w : Wd} (g1 : (0 : Int) ≤ w32 ((w32 (x1 * 8)) + x2) ∧ w32 ((w32 (x1 * 8)) + x2) < 128) (h : Q (mL (w 107 (w32 ((w32 (x1 * 8)) + x2)).toNat)) w) : Wp (Cw d) cd_Meeting_taken (3, 0, n1) Q 0 [mR 92, mI x1, mI x2] [] w :=
  Wp.s (Wp.s (Wp.s (Wp.s (Wp.s (Wp.s (Wp.s (Wp.s ⟨g1, Wp.s h⟩)))))))
theorem Ways_path_b0 {d : Nat} {n1 : Int} {Q : MV → Wd → Prop} {x0 : Int} {w : Wd} (h : Q (mI (iand (w32 x0) 262143)) w) : Wp (Cw d) cd_Ways_path (1, 0, n1) Q 0 [mL x0, none] [] w :=
  Wp.s (Wp.s (Wp.s (Wp.s (Wp.s h))))
theorem Told_keepWay_140_b0 {d : Nat} {n1 : Int} {Q : MV → Wd → Prop} {x1 x2 : Int} {w : Wd} (h : Wp (Cw d) cd_Told_keepWay (0, 0, n1) Q 5 [mR 140, mI x1, mI x2, mI 0] [] (ub w 140 1 x2)) : Wp (Cw d) cd_Told_keepWay (0, 0, n1) Q 0 [mR 140, mI x1, mI x2, none] [] w :=
  Wp.s (Wp.s (Wp.s (Wp.s (Wp.s h))))
theorem Told_keepWay_140_b5 {d : Nat} {n1 : Int} {Q : MV → Wd → Prop} {x1 x2 x3 : Int} {w : Wd} (h1 : x2 ≤ x3 → Wp (Cw d) cd_Told_keepWay (0, 0, n1) Q 21 [none, none, none, none] [] w) (h2 : ¬ (x2 ≤ x3) → Wp (Cw d) cd_Told_keepWay (0, 0, n1) Q 8 [mR 140, mI x1, mI x2, mI x3] [] w) : Wp (Cw d) cd_Told_keepWay (0, 0, n1) Q 5 [mR 140, mI x1, mI x2, mI x3] [] w :=
  Wp.s (Wp.s (Wp.s ⟨fun q => Wp.fgd (leA.f (leA.f (leA.f (leA.f leA.e)))) (h1 q), fun q => h2 q⟩))
theorem Told_keepWay_140_b8 {d : Nat} {n1 : Int} {Q : MV → Wd → Prop} {x1 x2 x3 : Int} {w : Wd} (h1 : 6 ≤ x3 → Wp (Cw d) cd_Told_keepWay (0, 0, n1) Q 21 [none, none, none, none] [] w) (h2 : ¬ (6 ≤ x3) → Wp (Cw d) cd_Told_keepWay (0, 0, n1) Q 11 [mR 140, mI x1, mI x2, mI x3] [] w) : Wp (Cw d) cd_Told_keepWay (0, 0, n1) Q 8 [mR 140, mI x1, mI x2, mI x3] [] w :=
  Wp.s (Wp.s (Wp.s ⟨fun q => Wp.fgd (leA.f (leA.f (leA.f (leA.f leA.e)))) (h1 q), fun q => h2 q⟩))
theorem Told_keepWay_140_b11 {d : Nat} {n1 : Int} {Q : MV → Wd → Prop} {x1 x2 x3 : Int} {w : Wd} (h : Cw d 82 [mI x1, mI x3, mI x2] w (fun r w' => Wp (Cw d) cd_Told_keepWay (0, 0, n1) Q 18 [mR 140, mI x1, mI x2, mI x3] [r, mI x3, mR 141] w')) : Wp (Cw d) cd_Told_keepWay (0, 0, n1) Q 11 [mR 140, mI x1, mI x2, mI x3] [] w :=
  Wp.s (Wp.s (Wp.s (Wp.s (Wp.s (Wp.s (Wp.s h))))))
theorem Told_keepWay_140_b18 {d : Nat} {n1 : Int} {Q : MV → Wd → Prop} {x1 x2 x3 s0 s1 : Int} {w : Wd} (g1 : (0 : Int) ≤ s1 ∧ s1 < 6) (h : Wp (Cw d) cd_Told_keepWay (0, 0, n1) Q 5 [mR 140, mI x1, mI x2, mI (w32 (x3 + 1))] [] (ub w 141 s1.toNat s0)) : Wp (Cw d) cd_Told_keepWay (0, 0, n1) Q 18 [mR 140, mI x1, mI x2, mI x3] [mI s0, mI s1, mR 141] w :=
  Wp.s ⟨g1, Wp.s (Wp.s h)⟩
theorem Told_keepWay_140_b21 {d : Nat} {n1 : Int} {Q : MV → Wd → Prop} {w : Wd} (h : Q none w) : Wp (Cw d) cd_Told_keepWay (0, 0, n1) Q 21 [none, none, none, none] [] w :=
  Wp.s h
theorem Ways_cost_b0 {d : Nat} {n1 : Int} {Q : MV → Wd → Prop} {x0 : Int} {w : Wd} (h : Q (mI (w32 (lushr x0 24))) w) : Wp (Cw d) cd_Ways_cost (1, 0, n1) Q 0 [mL x0, none] [] w :=
  Wp.s (Wp.s (Wp.s (Wp.s (Wp.s h))))
theorem Ways_hours_b0 {d : Nat} {n1 : Int} {Q : MV → Wd → Prop} {x0 : Int} {w : Wd} (h : Q (mI (iand (w32 (lushr x0 18)) 63)) w) : Wp (Cw d) cd_Ways_hours (1, 0, n1) Q 0 [mL x0, none] [] w :=
  Wp.s (Wp.s (Wp.s (Wp.s (Wp.s (Wp.s (Wp.s h))))))
theorem Ways_pains_93_b0 {d : Nat} {n1 : Int} {Q : MV → Wd → Prop} {x1 : Int} {w : Wd} (h : Cw d 80 [mL x1] w (fun r w' => Wp (Cw d) cd_Ways_pains (1, 0, n1) Q 2 [mR 93, none, none, none, none, none] [r] w')) : Wp (Cw d) cd_Ways_pains (1, 0, n1) Q 0 [mR 93, mL x1, none, none, none, none] [] w :=
  Wp.s (Wp.s (Cw_mono _ _ _ _ _ _ (fun r w' q => Wp.fgd (leA.k (leA.f (leA.f (leA.f (leA.f (leA.f leA.e)))))) q) h))
theorem Ways_pains_93_b2 {d : Nat} {n1 : Int} {Q : MV → Wd → Prop} {s0 : Int} {w : Wd} (h : Wp (Cw d) cd_Ways_pains (1, 0, n1) Q 7 [mR 93, none, none, mI s0, mI 0, mI 1] [] w) : Wp (Cw d) cd_Ways_pains (1, 0, n1) Q 2 [mR 93, none, none, none, none, none] [mI s0] w :=
  Wp.s (Wp.s (Wp.s (Wp.s (Wp.s h))))
theorem Ways_pains_93_b7 {d : Nat} {n1 : Int} {Q : MV → Wd → Prop} {x3 x4 x5 : Int} {w : Wd} (h1 : w 94 1 ≤ x5 → Wp (Cw d) cd_Ways_pains (1, 0, n1) Q 38 [none, none, none, none, mI x4, none] [] w) (h2 : ¬ (w 94 1 ≤ x5) → Wp (Cw d) cd_Ways_pains (1, 0, n1) Q 12 [mR 93, none, none, mI x3, mI x4, mI x5] [] w) : Wp (Cw d) cd_Ways_pains (1, 0, n1) Q 7 [mR 93, none, none, mI x3, mI x4, mI x5] [] w :=
  Wp.s (Wp.s (Wp.s (Wp.s (Wp.s ⟨fun q => Wp.fgd (leA.f (leA.f (leA.f (leA.f (leA.k (leA.f leA.e)))))) (h1 q), fun q => h2 q⟩))))
theorem Ways_pains_93_b12 {d : Nat} {n1 : Int} {Q : MV → Wd → Prop} {x3 x4 x5 : Int} {w : Wd} (h : Cw d 82 [mI x3, mI (w32 (x5 - 1)), mI (w 94 1)] w (fun r w' => Wp (Cw d) cd_Ways_pains (1, 0, n1) Q 24 [mR 93, none, none, mI x3, none, mI x5] [r, mR 96, mI x4] w')) : Wp (Cw d) cd_Ways_pains (1, 0, n1) Q 12 [mR 93, none, none, mI x3, mI x4, mI x5] [] w :=
  Wp.s (Wp.s (Wp.s (Wp.s (Wp.s (Wp.s (Wp.s (Wp.s (Wp.s (Wp.s (Wp.s (Wp.s (Cw_mono _ _ _ _ _ _ (fun r w' q => Wp.fgd (leA.k (leA.f (leA.f (leA.k (leA.f (leA.k leA.e)))))) q) h))))))))))))
theorem Ways_pains_93_b24 {d : Nat} {n1 : Int} {Q : MV → Wd → Prop} {x3 x5 s0 s2 : Int} {w : Wd} (h : Cw d 82 [mI x3, mI x5, mI (w 94 1)] w (fun r w' => Wp (Cw d) cd_Ways_pains (1, 0, n1) Q 32 [mR 93, none, none, mI x3, none, mI x5] [r, mI (w32 (s0 * 8)), mR 96, mI s2] w')) : Wp (Cw d) cd_Ways_pains (1, 0, n1) Q 24 [mR 93, none, none, mI x3, none, mI x5] [mI s0, mR 96, mI s2] w :=
  Wp.s (Wp.s (Wp.s (Wp.s (Wp.s (Wp.s (Wp.s (Wp.s h)))))))
theorem Ways_pains_93_b32 {d : Nat} {n1 : Int} {Q : MV → Wd → Prop} {x3 x5 s0 s1 s3 : Int} {w : Wd} (g1 : (0 : Int) ≤ w32 (s1 + s0) ∧ w32 (s1 + s0) < 64) (h : Wp (Cw d) cd_Ways_pains (1, 0, n1) Q 7 [mR 93, none, none, mI x3, mI (w32 (s3 + (w 96 (w32 (s1 + s0)).toNat))), mI (w32 (x5 + 1))] [] w) : Wp (Cw d) cd_Ways_pains (1, 0, n1) Q 32 [mR 93, none, none, mI x3, none, mI x5] [mI s0, mI s1, mR 96, mI s3] w :=
  Wp.s (Wp.s ⟨g1, Wp.s (Wp.s (Wp.s (Wp.s h)))⟩)
theorem Ways_pains_93_b38 {d : Nat} {n1 : Int} {Q : MV → Wd → Prop} {x4 : Int} {w : Wd} (h : Q (mI x4) w) : Wp (Cw d) cd_Ways_pains (1, 0, n1) Q 38 [none, none, none, none, mI x4, none] [] w :=
  Wp.s (Wp.s h)
theorem M_asTold_144_b0 {d : Nat} {n1 : Int} {Q : MV → Wd → Prop} {w : Wd} (h : Wp (Cw d) cd_M_asTold (0, 0, n1) Q 2 [mR 144, mI 0] [] w) : Wp (Cw d) cd_M_asTold (0, 0, n1) Q 0 [mR 144, none] [] w :=
  Wp.s (Wp.s h)
theorem M_asTold_144_b2 {d : Nat} {n1 : Int} {Q : MV → Wd → Prop} {x1 : Int} {w : Wd} (h1 : 64 ≤ x1 → Wp (Cw d) cd_M_asTold (0, 0, n1) Q 37 [mR 144, none] [] w) (h2 : ¬ (64 ≤ x1) → Wp (Cw d) cd_M_asTold (0, 0, n1) Q 5 [mR 144, mI x1] [] w) : Wp (Cw d) cd_M_asTold (0, 0, n1) Q 2 [mR 144, mI x1] [] w :=
  Wp.s (Wp.s (Wp.s ⟨fun q => Wp.fgd (leA.k (leA.f leA.e)) (h1 q), fun q => h2 q⟩))
theorem M_asTold_144_b5 {d : Nat} {n1 : Int} {Q : MV → Wd → Prop} {x1 : Int} {w : Wd} (g1 : (0 : Int) ≤ w32 (269 + x1) ∧ w32 (269 + x1) < 645) (g2 : (0 : Int) ≤ x1 ∧ x1 < 64) (g3 : (0 : Int) ≤ w32 (141 + x1) ∧ w32 (141 + x1) < 645) (g4 : (0 : Int) ≤ x1 ∧ x1 < 64) (g5 : (0 : Int) ≤ w32 (205 + x1) ∧ w32 (205 + x1) < 645) (g6 : (0 : Int) ≤ x1 ∧ x1 < 64) (h : Wp (Cw d) cd_M_asTold (0, 0, n1) Q 2 [mR 144, mI (w32 (x1 + 1))] [] (ub (ub (ub w 151 x1.toNat (w 146 (w32 (269 + x1)).toNat)) 152 x1.toNat (w 146 (w32 (141 + x1)).toNat)) 153 x1.toNat (w 146 (w32 (205 + x1)).toNat))) : Wp (Cw d) cd_M_asTold (0, 0, n1) Q 5 [mR 144, mI x1] [] w :=
  Wp.s (Wp.s (Wp.s (Wp.s (Wp.s (Wp.s (Wp.s (Wp.s (Wp.s ⟨g1, Wp.s ⟨g2, Wp.s (Wp.s (Wp.s (Wp.s (Wp.s (Wp.s (Wp.s (Wp.s (Wp.s ⟨g3, Wp.s ⟨g4, Wp.s (Wp.s (Wp.s (Wp.s (Wp.s (Wp.s (Wp.s (Wp.s (Wp.s ⟨g5, Wp.s ⟨g6, Wp.s (Wp.s h)⟩⟩))))))))⟩⟩))))))))⟩⟩))))))))
theorem M_asTold_144_b37 {d : Nat} {n1 : Int} {Q : MV → Wd → Prop} {w : Wd} (h : Wp (Cw d) cd_M_asTold (0, 0, n1) Q 39 [mR 144, mI 0] [] w) : Wp (Cw d) cd_M_asTold (0, 0, n1) Q 37 [mR 144, none] [] w :=
  Wp.s (Wp.s h)
theorem M_asTold_144_b39 {d : Nat} {n1 : Int} {Q : MV → Wd → Prop} {x1 : Int} {w : Wd} (h1 : 8 ≤ x1 → Wp (Cw d) cd_M_asTold (0, 0, n1) Q 54 [mR 144, none] [] w) (h2 : ¬ (8 ≤ x1) → Wp (Cw d) cd_M_asTold (0, 0, n1) Q 42 [mR 144, mI x1] [] w) : Wp (Cw d) cd_M_asTold (0, 0, n1) Q 39 [mR 144, mI x1] [] w :=
  Wp.s (Wp.s (Wp.s ⟨fun q => Wp.fgd (leA.k (leA.f leA.e)) (h1 q), fun q => h2 q⟩))
theorem M_asTold_144_b42 {d : Nat} {n1 : Int} {Q : MV → Wd → Prop} {x1 : Int} {w : Wd} (g1 : (0 : Int) ≤ w32 (15 + x1) ∧ w32 (15 + x1) < 645) (g2 : (0 : Int) ≤ x1 ∧ x1 < 8) (h : Wp (Cw d) cd_M_asTold (0, 0, n1) Q 39 [mR 144, mI (w32 (x1 + 1))] [] (ub w 154 x1.toNat (w 146 (w32 (15 + x1)).toNat))) : Wp (Cw d) cd_M_asTold (0, 0, n1) Q 42 [mR 144, mI x1] [] w :=
  Wp.s (Wp.s (Wp.s (Wp.s (Wp.s (Wp.s (Wp.s (Wp.s (Wp.s ⟨g1, Wp.s ⟨g2, Wp.s (Wp.s h)⟩⟩))))))))
theorem M_asTold_144_b54 {d : Nat} {n1 : Int} {Q : MV → Wd → Prop} {w : Wd} (h : Q none (ub (ub (ub w 144 25 (w 146 4.toNat)) 144 26 (w 146 5.toNat)) 144 27 255)) : Wp (Cw d) cd_M_asTold (0, 0, n1) Q 54 [mR 144, none] [] w :=
  Wp.s (Wp.s (Wp.s (Wp.s (Wp.s ⟨(by decide), Wp.s (Wp.s (Wp.s (Wp.s (Wp.s (Wp.s ⟨(by decide), Wp.s (Wp.s (Wp.s (Wp.s (Wp.s h))))⟩)))))⟩))))
theorem M_weigh_144_b0 {d : Nat} {n1 : Int} {Q : MV → Wd → Prop} {w : Wd} (h : Wp (Cw d) cd_M_weigh (0, 0, n1) Q 2 [mR 144, mI 0, none] [] w) : Wp (Cw d) cd_M_weigh (0, 0, n1) Q 0 [mR 144, none, none] [] w :=
  Wp.s (Wp.s h)
theorem M_weigh_144_b2 {d : Nat} {n1 : Int} {Q : MV → Wd → Prop} {x1 : Int} {w : Wd} (h1 : w 146 2.toNat ≤ x1 → Wp (Cw d) cd_M_weigh (0, 0, n1) Q 135 [none, none, none] [] w) (h2 : ¬ (w 146 2.toNat ≤ x1) → Wp (Cw d) cd_M_weigh (0, 0, n1) Q 8 [mR 144, mI x1, none] [] w) : Wp (Cw d) cd_M_weigh (0, 0, n1) Q 2 [mR 144, mI x1, none] [] w :=
  Wp.s (Wp.s (Wp.s (Wp.s (Wp.s ⟨(by decide), Wp.s ⟨fun q => Wp.fgd (leA.f (leA.f (leA.f leA.e))) (h1 q), fun q => h2 q⟩⟩))))
theorem M_weigh_144_b8 {d : Nat} {n1 : Int} {Q : MV → Wd → Prop} {x1 : Int} {w : Wd} (h1 : x1 ≤ 0 → Wp (Cw d) cd_M_weigh (0, 0, n1) Q 109 [mR 144, mI x1, none] [] w) (h2 : ¬ (x1 ≤ 0) → Wp (Cw d) cd_M_weigh (0, 0, n1) Q 10 [mR 144, mI x1, none] [] w) : Wp (Cw d) cd_M_weigh (0, 0, n1) Q 8 [mR 144, mI x1, none] [] w :=
  Wp.s (Wp.s ⟨fun q => h1 q, fun q => h2 q⟩)
theorem M_weigh_144_b10 {d : Nat} {n1 : Int} {Q : MV → Wd → Prop} {x1 : Int} {w : Wd} (g1 : (0 : Int) ≤ w32 (29 + (w32 (5 * x1))) ∧ w32 (29 + (w32 (5 * x1))) < 645) (g2 : (0 : Int) ≤ w32 ((w32 (29 + (w32 (5 * x1)))) - 5) ∧ w32 ((w32 (29 + (w32 (5 * x1)))) - 5) < 645) (h1 : ¬ w 146 (w32 (29 + (w32 (5 * x1)))).toNat = w 146 (w32 ((w32 (29 + (w32 (5 * x1)))) - 5)).toNat → Wp (Cw d) cd_M_weigh (0, 0, n1) Q 109 [mR 144, mI x1, none] [] w) (h2 : ¬ (¬ w 146 (w32 (29 + (w32 (5 * x1)))).toNat = w 146 (w32 ((w32 (29 + (w32 (5 * x1)))) - 5)).toNat) → Wp (Cw d) cd_M_weigh (0, 0, n1) Q 29 [mR 144, mI x1, none] [] w) : Wp (Cw d) cd_M_weigh (0, 0, n1) Q 10 [mR 144, mI x1, none] [] w :=
  Wp.s (Wp.s (Wp.s (Wp.s (Wp.s (Wp.s (Wp.s (Wp.s ⟨g1, Wp.s (Wp.s (Wp.s (Wp.s (Wp.s (Wp.s (Wp.s (Wp.s (Wp.s (Wp.s ⟨g2, Wp.s ⟨fun q => h1 q, fun q => h2 q⟩⟩)))))))))⟩)))))))
theorem M_weigh_144_b29 {d : Nat} {n1 : Int} {Q : MV → Wd → Prop} {x1 : Int} {w : Wd} (h : Wp (Cw d) cd_M_weigh (0, 0, n1) Q 31 [mR 144, mI x1, mI 0] [] w) : Wp (Cw d) cd_M_weigh (0, 0, n1) Q 29 [mR 144, mI x1, none] [] w :=
  Wp.s (Wp.s h)
theorem M_weigh_144_b31 {d : Nat} {n1 : Int} {Q : MV → Wd → Prop} {x1 x2 : Int} {w : Wd} (h1 : 8 ≤ x2 → Wp (Cw d) cd_M_weigh (0, 0, n1) Q 108 [mR 144, mI x1, none] [] w) (h2 : ¬ (8 ≤ x2) → Wp (Cw d) cd_M_weigh (0, 0, n1) Q 34 [mR 144, mI x1, mI x2] [] w) : Wp (Cw d) cd_M_weigh (0, 0, n1) Q 31 [mR 144, mI x1, mI x2] [] w :=
  Wp.s (Wp.s (Wp.s ⟨fun q => Wp.fgd (leA.k (leA.k (leA.f leA.e))) (h1 q), fun q => h2 q⟩))
theorem M_weigh_144_b34 {d : Nat} {n1 : Int} {Q : MV → Wd → Prop} {x1 x2 : Int} {w : Wd} (g1 : (0 : Int) ≤ w32 ((w32 ((w32 (8 * x1)) + x2)) - 8) ∧ w32 ((w32 ((w32 (8 * x1)) + x2)) - 8) < 128) (g2 : (0 : Int) ≤ w32 ((w32 (8 * x1)) + x2) ∧ w32 ((w32 (8 * x1)) + x2) < 128) (g3 : (0 : Int) ≤ w32 ((w32 ((w32 (8 * x1)) + x2)) - 8) ∧ w32 ((w32 ((w32 (8 * x1)) + x2)) - 8) < 128) (g4 : (0 : Int) ≤ w32 ((w32 (8 * x1)) + x2) ∧ w32 ((w32 (8 * x1)) + x2) < 128) (g5 : (0 : Int) ≤ w32 ((w32 ((w32 (8 * x1)) + x2)) - 8) ∧ w32 ((w32 ((w32 (8 * x1)) + x2)) - 8) < 128) (g6 : (0 : Int) ≤ w32 ((w32 (8 * x1)) + x2) ∧ w32 ((w32 (8 * x1)) + x2) < 128) (g7 : (0 : Int) ≤ w32 ((w32 ((w32 (8 * x1)) + x2)) - 8) ∧ w32 ((w32 ((w32 (8 * x1)) + x2)) - 8) < 128) (g8 : (0 : Int) ≤ w32 ((w32 (8 * x1)) + x2) ∧ w32 ((w32 (8 * x1)) + x2) < 128) (h : Wp (Cw d) cd_M_weigh (0, 0, n1) Q 31 [mR 144, mI x1, mI (w32 (x2 + 1))] [] (ub (ub (ub (ub w 161 (w32 ((w32 (8 * x1)) + x2)).toNat (w 161 (w32 ((w32 ((w32 (8 * x1)) + x2)) - 8)).toNat)) 162 (w32 ((w32 (8 * x1)) + x2)).toNat (w 162 (w32 ((w32 ((w32 (8 * x1)) + x2)) - 8)).toNat)) 163 (w32 ((w32 (8 * x1)) + x2)).toNat (w 163 (w32 ((w32 ((w32 (8 * x1)) + x2)) - 8)).toNat)) 164 (w32 ((w32 (8 * x1)) + x2)).toNat (w 164 (w32 ((w32 ((w32 (8 * x1)) + x2)) - 8)).toNat))) : Wp (Cw d) cd_M_weigh (0, 0, n1) Q 34 [mR 144, mI x1, mI x2] [] w :=
  Wp.s (Wp.s (Wp.s (Wp.s (Wp.s (Wp.s (Wp.s (Wp.s (Wp.s (Wp.s (Wp.s (Wp.s (Wp.s (Wp.s (Wp.s (Wp.s (Wp.s ⟨g1, Wp.s ⟨g2, Wp.s (Wp.s (Wp.s (Wp.s (Wp.s (Wp.s (Wp.s (Wp.s (Wp.s (Wp.s (Wp.s (Wp.s (Wp.s (Wp.s (Wp.s (Wp.s (Wp.s ⟨g3, Wp.s ⟨g4, Wp.s (Wp.s (Wp.s (Wp.s (Wp.s (Wp.s (Wp.s (Wp.s (Wp.s (Wp.s (Wp.s (Wp.s (Wp.s (Wp.s (Wp.s (Wp.s (Wp.s ⟨g5, Wp.s ⟨g6, Wp.s (Wp.s (Wp.s (Wp.s (Wp.s (Wp.s (Wp.s (Wp.s (Wp.s (Wp.s (Wp.s (Wp.s (Wp.s (Wp.s (Wp.s (Wp.s (Wp.s ⟨g7, Wp.s ⟨g8, Wp.s (Wp.s h)⟩⟩))))))))))))))))⟩⟩))))))))))))))))⟩⟩))))))))))))))))⟩⟩))))))))))))))))
theorem M_weigh_144_b108 {d : Nat} {n1 : Int} {Q : MV → Wd → Prop} {x1 : Int} {w : Wd} (h : Wp (Cw d) cd_M_weigh (0, 0, n1) Q 133 [mR 144, mI x1, none] [] w) : Wp (Cw d) cd_M_weigh (0, 0, n1) Q 108 [mR 144, mI x1, none] [] w :=
  Wp.s h
theorem M_weigh_144_b109 {d : Nat} {n1 : Int} {Q : MV → Wd → Prop} {x1 : Int} {w : Wd} (h : Cw d 210 [mR 144, mI x1] w (fun r w' => Wp (Cw d) cd_M_weigh (0, 0, n1) Q 112 [mR 144, mI x1, none] [r] w')) : Wp (Cw d) cd_M_weigh (0, 0, n1) Q 109 [mR 144, mI x1, none] [] w :=
  Wp.s (Wp.s (Wp.s h))
theorem M_weigh_144_b112 {d : Nat} {n1 : Int} {Q : MV → Wd → Prop} {x1 s0 : Int} {w : Wd} (h1 : s0 = 0 → Wp (Cw d) cd_M_weigh (0, 0, n1) Q 117 [mR 144, mI x1, none] [] w) (h2 : ¬ (s0 = 0) → Wp (Cw d) cd_M_weigh (0, 0, n1) Q 113 [mR 144, mI x1, none] [] w) : Wp (Cw d) cd_M_weigh (0, 0, n1) Q 112 [mR 144, mI x1, none] [mI s0] w :=
  Wp.s ⟨fun q => h1 q, fun q => h2 q⟩
theorem M_weigh_144_b113 {d : Nat} {n1 : Int} {Q : MV → Wd → Prop} {x1 : Int} {w : Wd} (h : Cw d 212 [mR 144, mI x1] w (fun _ w' => Wp (Cw d) cd_M_weigh (0, 0, n1) Q 116 [mR 144, mI x1, none] [] w')) : Wp (Cw d) cd_M_weigh (0, 0, n1) Q 113 [mR 144, mI x1, none] [] w :=
  Wp.s (Wp.s (Wp.s h))
theorem M_weigh_144_b116 {d : Nat} {n1 : Int} {Q : MV → Wd → Prop} {x1 : Int} {w : Wd} (h : Wp (Cw d) cd_M_weigh (0, 0, n1) Q 133 [mR 144, mI x1, none] [] w) : Wp (Cw d) cd_M_weigh (0, 0, n1) Q 116 [mR 144, mI x1, none] [] w :=
  Wp.s h
theorem M_weigh_144_b117 {d : Nat} {n1 : Int} {Q : MV → Wd → Prop} {x1 : Int} {w : Wd} (h : Wp (Cw d) cd_M_weigh (0, 0, n1) Q 119 [mR 144, mI x1, mI 0] [] w) : Wp (Cw d) cd_M_weigh (0, 0, n1) Q 117 [mR 144, mI x1, none] [] w :=
  Wp.s (Wp.s h)
theorem M_weigh_144_b119 {d : Nat} {n1 : Int} {Q : MV → Wd → Prop} {x1 x2 : Int} {w : Wd} (h1 : 8 ≤ x2 → Wp (Cw d) cd_M_weigh (0, 0, n1) Q 133 [mR 144, mI x1, none] [] w) (h2 : ¬ (8 ≤ x2) → Wp (Cw d) cd_M_weigh (0, 0, n1) Q 122 [mR 144, mI x1, mI x2] [] w) : Wp (Cw d) cd_M_weigh (0, 0, n1) Q 119 [mR 144, mI x1, mI x2] [] w :=
  Wp.s (Wp.s (Wp.s ⟨fun q => Wp.fgd (leA.k (leA.k (leA.f leA.e))) (h1 q), fun q => h2 q⟩))
theorem M_weigh_144_b122 {d : Nat} {n1 : Int} {Q : MV → Wd → Prop} {x1 x2 : Int} {w : Wd} (g1 : (0 : Int) ≤ w32 ((w32 (8 * x1)) + x2) ∧ w32 ((w32 (8 * x1)) + x2) < 128) (h : Wp (Cw d) cd_M_weigh (0, 0, n1) Q 119 [mR 144, mI x1, mI (w32 (x2 + 1))] [] (ub w 161 (w32 ((w32 (8 * x1)) + x2)).toNat 1000000000)) : Wp (Cw d) cd_M_weigh (0, 0, n1) Q 122 [mR 144, mI x1, mI x2] [] w :=
  Wp.s (Wp.s (Wp.s (Wp.s (Wp.s (Wp.s (Wp.s (Wp.s (Wp.s ⟨g1, Wp.s (Wp.s h)⟩))))))))
theorem M_weigh_144_b133 {d : Nat} {n1 : Int} {Q : MV → Wd → Prop} {x1 : Int} {w : Wd} (h : Wp (Cw d) cd_M_weigh (0, 0, n1) Q 2 [mR 144, mI (w32 (x1 + 1)), none] [] w) : Wp (Cw d) cd_M_weigh (0, 0, n1) Q 133 [mR 144, mI x1, none] [] w :=
  Wp.s (Wp.s h)
theorem M_weigh_144_b135 {d : Nat} {n1 : Int} {Q : MV → Wd → Prop} {w : Wd} (h : Q none w) : Wp (Cw d) cd_M_weigh (0, 0, n1) Q 135 [none, none, none] [] w :=
  Wp.s h
theorem M_isWay_144_b0 {d : Nat} {n1 : Int} {Q : MV → Wd → Prop} {x1 x2 : Int} {w : Wd} (g1 : (0 : Int) ≤ w32 ((w32 (8 * x1)) + x2) ∧ w32 ((w32 (8 * x1)) + x2) < 128) (h1 : 1000000000 ≤ w 161 (w32 ((w32 (8 * x1)) + x2)).toNat → Wp (Cw d) cd_M_isWay (2, 0, n1) Q 12 [none, none, none] [] w) (h2 : ¬ (1000000000 ≤ w 161 (w32 ((w32 (8 * x1)) + x2)).toNat) → Wp (Cw d) cd_M_isWay (2, 0, n1) Q 10 [none, none, none] [] w) : Wp (Cw d) cd_M_isWay (2, 0, n1) Q 0 [mR 144, mI x1, mI x2] [] w :=
  Wp.s (Wp.s (Wp.s (Wp.s (Wp.s (Wp.s (Wp.s (Wp.s ⟨g1, Wp.s (Wp.s ⟨fun q => Wp.fgd (leA.f (leA.f (leA.f leA.e))) (h1 q), fun q => Wp.fgd (leA.f (leA.f (leA.f leA.e))) (h2 q)⟩)⟩)))))))
theorem M_isWay_144_b10 {d : Nat} {n1 : Int} {Q : MV → Wd → Prop} {w : Wd} (h : Wp (Cw d) cd_M_isWay (2, 0, n1) Q 13 [none, none, none] [mI 1] w) : Wp (Cw d) cd_M_isWay (2, 0, n1) Q 10 [none, none, none] [] w :=
  Wp.s (Wp.s h)
theorem M_isWay_144_b12 {d : Nat} {n1 : Int} {Q : MV → Wd → Prop} {w : Wd} (h : Wp (Cw d) cd_M_isWay (2, 0, n1) Q 13 [none, none, none] [mI 0] w) : Wp (Cw d) cd_M_isWay (2, 0, n1) Q 12 [none, none, none] [] w :=
  Wp.s h
theorem M_isWay_144_b13 {d : Nat} {n1 : Int} {Q : MV → Wd → Prop} {s0 : Int} {w : Wd} (g1 : s0 = 0 ∨ s0 = 1) (h : Q (mI s0) w) : Wp (Cw d) cd_M_isWay (2, 0, n1) Q 13 [none, none, none] [mI s0] w :=
  Wp.s ⟨g1, h⟩
theorem Meeting_matched_92_b0 {d : Nat} {n1 : Int} {Q : MV → Wd → Prop} {w : Wd} (h : Cw d 88 [mR 92] w (fun _ w' => Wp (Cw d) cd_Meeting_matched (1, 0, n1) Q 2 [mR 92, none, none] [] w')) : Wp (Cw d) cd_Meeting_matched (1, 0, n1) Q 0 [mR 92, none, none] [] w :=
  Wp.s (Wp.s h)
theorem Meeting_matched_92_b2 {d : Nat} {n1 : Int} {Q : MV → Wd → Prop} {w : Wd} (h : Wp (Cw d) cd_Meeting_matched (1, 0, n1) Q 6 [mR 92, mI 0, mI 1] [] w) : Wp (Cw d) cd_Meeting_matched (1, 0, n1) Q 2 [mR 92, none, none] [] w :=
  Wp.s (Wp.s (Wp.s (Wp.s h)))
theorem Meeting_matched_92_b6 {d : Nat} {n1 : Int} {Q : MV → Wd → Prop} {x1 x2 : Int} {w : Wd} (h1 : ishl 1 (w 4 11) ≤ x2 → Wp (Cw d) cd_Meeting_matched (1, 0, n1) Q 26 [mR 92, mI x1, none] [] w) (h2 : ¬ (ishl 1 (w 4 11) ≤ x2) → Wp (Cw d) cd_Meeting_matched (1, 0, n1) Q 13 [mR 92, mI x1, mI x2] [] w) : Wp (Cw d) cd_Meeting_matched (1, 0, n1) Q 6 [mR 92, mI x1, mI x2] [] w :=
  Wp.s (Wp.s (Wp.s (Wp.s (Wp.s (Wp.s (Wp.s ⟨fun q => Wp.fgd (leA.k (leA.k (leA.f leA.e))) (h1 q), fun q => h2 q⟩))))))
theorem Meeting_matched_92_b13 {d : Nat} {n1 : Int} {Q : MV → Wd → Prop} {x1 x2 : Int} {w : Wd} (h : Cw d 278 [mI x2] w (fun r w' => Wp (Cw d) cd_Meeting_matched (1, 0, n1) Q 16 [mR 92, none, mI x2] [r, mI x1] w')) : Wp (Cw d) cd_Meeting_matched (1, 0, n1) Q 13 [mR 92, mI x1, mI x2] [] w :=
  Wp.s (Wp.s (Wp.s (Cw_mono _ _ _ _ _ _ (fun r w' q => Wp.fgd (leA.k (leA.f (leA.k leA.e))) q) h)))
theorem Meeting_matched_92_b16 {d : Nat} {n1 : Int} {Q : MV → Wd → Prop} {x2 s0 s1 : Int} {w : Wd} (g1 : (0 : Int) ≤ x2 ∧ x2 < 256) (h : Cw d 278 [mI (w 109 x2.toNat)] w (fun r w' => Wp (Cw d) cd_Meeting_matched (1, 0, n1) Q 21 [mR 92, none, mI x2] [r, mI s0, mI s1] w')) : Wp (Cw d) cd_Meeting_matched (1, 0, n1) Q 16 [mR 92, none, mI x2] [mI s0, mI s1] w :=
  Wp.s (Wp.s (Wp.s (Wp.s ⟨g1, Wp.s h⟩)))
theorem Meeting_matched_92_b21 {d : Nat} {n1 : Int} {Q : MV → Wd → Prop} {x2 s0 s1 s2 : Int} {w : Wd} (h : Wp (Cw d) cd_Meeting_matched (1, 0, n1) Q 6 [mR 92, mI (max s2 (w32 (s1 - s0))), mI (w32 (x2 + 1))] [] w) : Wp (Cw d) cd_Meeting_matched (1, 0, n1) Q 21 [mR 92, none, mI x2] [mI s0, mI s1, mI s2] w :=
  Wp.s (Wp.s (Wp.s (Wp.s (Wp.s h))))
theorem Meeting_matched_92_b26 {d : Nat} {n1 : Int} {Q : MV → Wd → Prop} {x1 : Int} {w : Wd} (h : Q (mI (w32 ((w 4 11) - x1))) w) : Wp (Cw d) cd_Meeting_matched (1, 0, n1) Q 26 [mR 92, mI x1, none] [] w :=
  Wp.s (Wp.s (Wp.s (Wp.s (Wp.s (Wp.s h)))))
theorem M_mostMet_144_b0 {d : Nat} {n1 : Int} {Q : MV → Wd → Prop} {w : Wd} (h : Cw d 224 [mR 144] w (fun _ w' => Wp (Cw d) cd_M_mostMet (1, 0, n1) Q 2 [mR 144, none, none] [] w')) : Wp (Cw d) cd_M_mostMet (1, 0, n1) Q 0 [mR 144, none, none] [] w :=
  Wp.s (Wp.s h)
theorem M_mostMet_144_b2 {d : Nat} {n1 : Int} {Q : MV → Wd → Prop} {w : Wd} (h : Wp (Cw d) cd_M_mostMet (1, 0, n1) Q 6 [mR 144, mI 0, mI 0] [] w) : Wp (Cw d) cd_M_mostMet (1, 0, n1) Q 2 [mR 144, none, none] [] w :=
  Wp.s (Wp.s (Wp.s (Wp.s h)))
theorem M_mostMet_144_b6 {d : Nat} {n1 : Int} {Q : MV → Wd → Prop} {x1 x2 : Int} {w : Wd} (h1 : 256 ≤ x2 → Wp (Cw d) cd_M_mostMet (1, 0, n1) Q 23 [none, mI x1, none] [] w) (h2 : ¬ (256 ≤ x2) → Wp (Cw d) cd_M_mostMet (1, 0, n1) Q 9 [mR 144, mI x1, mI x2] [] w) : Wp (Cw d) cd_M_mostMet (1, 0, n1) Q 6 [mR 144, mI x1, mI x2] [] w :=
  Wp.s (Wp.s (Wp.s ⟨fun q => Wp.fgd (leA.f (leA.k (leA.f leA.e))) (h1 q), fun q => h2 q⟩))
theorem M_mostMet_144_b9 {d : Nat} {n1 : Int} {Q : MV → Wd → Prop} {x1 x2 : Int} {w : Wd} (g1 : (0 : Int) ≤ x2 ∧ x2 < 256) (h1 : w 165 x2.toNat = 0 → Wp (Cw d) cd_M_mostMet (1, 0, n1) Q 21 [mR 144, mI x1, mI x2] [] w) (h2 : ¬ (w 165 x2.toNat = 0) → Wp (Cw d) cd_M_mostMet (1, 0, n1) Q 14 [mR 144, mI x1, mI x2] [] w) : Wp (Cw d) cd_M_mostMet (1, 0, n1) Q 9 [mR 144, mI x1, mI x2] [] w :=
  Wp.s (Wp.s (Wp.s (Wp.s ⟨g1, Wp.s ⟨fun q => h1 q, fun q => h2 q⟩⟩)))
theorem M_mostMet_144_b14 {d : Nat} {n1 : Int} {Q : MV → Wd → Prop} {x1 x2 : Int} {w : Wd} (h : Cw d 225 [mI x2] w (fun r w' => Wp (Cw d) cd_M_mostMet (1, 0, n1) Q 16 [mR 144, mI x1, mI x2] [r] w')) : Wp (Cw d) cd_M_mostMet (1, 0, n1) Q 14 [mR 144, mI x1, mI x2] [] w :=
  Wp.s (Wp.s h)
theorem M_mostMet_144_b16 {d : Nat} {n1 : Int} {Q : MV → Wd → Prop} {x1 x2 s0 : Int} {w : Wd} (h1 : s0 ≤ x1 → Wp (Cw d) cd_M_mostMet (1, 0, n1) Q 21 [mR 144, mI x1, mI x2] [] w) (h2 : ¬ (s0 ≤ x1) → Wp (Cw d) cd_M_mostMet (1, 0, n1) Q 18 [mR 144, none, mI x2] [] w) : Wp (Cw d) cd_M_mostMet (1, 0, n1) Q 16 [mR 144, mI x1, mI x2] [mI s0] w :=
  Wp.s (Wp.s ⟨fun q => h1 q, fun q => Wp.fgd (leA.k (leA.f (leA.k leA.e))) (h2 q)⟩)
theorem M_mostMet_144_b18 {d : Nat} {n1 : Int} {Q : MV → Wd → Prop} {x2 : Int} {w : Wd} (h : Cw d 225 [mI x2] w (fun r w' => Wp (Cw d) cd_M_mostMet (1, 0, n1) Q 20 [mR 144, none, mI x2] [r] w')) : Wp (Cw d) cd_M_mostMet (1, 0, n1) Q 18 [mR 144, none, mI x2] [] w :=
  Wp.s (Wp.s h)
theorem M_mostMet_144_b20 {d : Nat} {n1 : Int} {Q : MV → Wd → Prop} {x2 s0 : Int} {w : Wd} (h : Wp (Cw d) cd_M_mostMet (1, 0, n1) Q 21 [mR 144, mI s0, mI x2] [] w) : Wp (Cw d) cd_M_mostMet (1, 0, n1) Q 20 [mR 144, none, mI x2] [mI s0] w :=
  Wp.s h
theorem M_mostMet_144_b21 {d : Nat} {n1 : Int} {Q : MV → Wd → Prop} {x1 x2 : Int} {w : Wd} (h : Wp (Cw d) cd_M_mostMet (1, 0, n1) Q 6 [mR 144, mI x1, mI (w32 (x2 + 1))] [] w) : Wp (Cw d) cd_M_mostMet (1, 0, n1) Q 21 [mR 144, mI x1, mI x2] [] w :=
  Wp.s (Wp.s h)
theorem M_mostMet_144_b23 {d : Nat} {n1 : Int} {Q : MV → Wd → Prop} {x1 : Int} {w : Wd} (h : Q (mI x1) w) : Wp (Cw d) cd_M_mostMet (1, 0, n1) Q 23 [none, mI x1, none] [] w :=
  Wp.s (Wp.s h)
theorem Meeting_barring_92_b0 {d : Nat} {n1 : Int} {Q : MV → Wd → Prop} {w : Wd} (h : Cw d 88 [mR 92] w (fun _ w' => Wp (Cw d) cd_Meeting_barring (1, 0, n1) Q 2 [mR 92, none, none, none] [] w')) : Wp (Cw d) cd_Meeting_barring (1, 0, n1) Q 0 [mR 92, none, none, none] [] w :=
  Wp.s (Wp.s h)
theorem Meeting_barring_92_b2 {d : Nat} {n1 : Int} {Q : MV → Wd → Prop} {w : Wd} (h : Wp (Cw d) cd_Meeting_barring (1, 0, n1) Q 6 [mR 92, mI 0, mI 1, none] [] w) : Wp (Cw d) cd_Meeting_barring (1, 0, n1) Q 2 [mR 92, none, none, none] [] w :=
  Wp.s (Wp.s (Wp.s (Wp.s h)))
theorem Meeting_barring_92_b6 {d : Nat} {n1 : Int} {Q : MV → Wd → Prop} {x1 x2 : Int} {w : Wd} (h1 : ishl 1 (w 4 11) ≤ x2 → Wp (Cw d) cd_Meeting_barring (1, 0, n1) Q 38 [none, mI x1, none, none] [] w) (h2 : ¬ (ishl 1 (w 4 11) ≤ x2) → Wp (Cw d) cd_Meeting_barring (1, 0, n1) Q 13 [mR 92, mI x1, mI x2, none] [] w) : Wp (Cw d) cd_Meeting_barring (1, 0, n1) Q 6 [mR 92, mI x1, mI x2, none] [] w :=
  Wp.s (Wp.s (Wp.s (Wp.s (Wp.s (Wp.s (Wp.s ⟨fun q => Wp.fgd (leA.f (leA.k (leA.f (leA.f leA.e)))) (h1 q), fun q => h2 q⟩))))))
theorem Meeting_barring_92_b13 {d : Nat} {n1 : Int} {Q : MV → Wd → Prop} {x1 x2 : Int} {w : Wd} (h : Cw d 278 [mI x2] w (fun r w' => Wp (Cw d) cd_Meeting_barring (1, 0, n1) Q 15 [mR 92, mI x1, mI x2, none] [r] w')) : Wp (Cw d) cd_Meeting_barring (1, 0, n1) Q 13 [mR 92, mI x1, mI x2, none] [] w :=
  Wp.s (Wp.s h)
theorem Meeting_barring_92_b15 {d : Nat} {n1 : Int} {Q : MV → Wd → Prop} {x1 x2 s0 : Int} {w : Wd} (g1 : (0 : Int) ≤ x2 ∧ x2 < 256) (h : Cw d 278 [mI (w 109 x2.toNat)] w (fun r w' => Wp (Cw d) cd_Meeting_barring (1, 0, n1) Q 20 [mR 92, mI x1, mI x2, none] [r, mI s0] w')) : Wp (Cw d) cd_Meeting_barring (1, 0, n1) Q 15 [mR 92, mI x1, mI x2, none] [mI s0] w :=
  Wp.s (Wp.s (Wp.s (Wp.s ⟨g1, Wp.s h⟩)))
theorem Meeting_barring_92_b20 {d : Nat} {n1 : Int} {Q : MV → Wd → Prop} {x1 x2 s0 s1 : Int} {w : Wd} (h1 : s1 ≤ s0 → Wp (Cw d) cd_Meeting_barring (1, 0, n1) Q 23 [mR 92, mI x1, mI x2, none] [] w) (h2 : ¬ (s1 ≤ s0) → Wp (Cw d) cd_Meeting_barring (1, 0, n1) Q 21 [mR 92, mI x1, mI x2, none] [] w) : Wp (Cw d) cd_Meeting_barring (1, 0, n1) Q 20 [mR 92, mI x1, mI x2, none] [mI s0, mI s1] w :=
  Wp.s ⟨fun q => h1 q, fun q => h2 q⟩
theorem Meeting_barring_92_b21 {d : Nat} {n1 : Int} {Q : MV → Wd → Prop} {x1 x2 : Int} {w : Wd} (h : Wp (Cw d) cd_Meeting_barring (1, 0, n1) Q 24 [mR 92, mI x1, mI x2, none] [mI 1] w) : Wp (Cw d) cd_Meeting_barring (1, 0, n1) Q 21 [mR 92, mI x1, mI x2, none] [] w :=
  Wp.s (Wp.s h)
theorem Meeting_barring_92_b23 {d : Nat} {n1 : Int} {Q : MV → Wd → Prop} {x1 x2 : Int} {w : Wd} (h : Wp (Cw d) cd_Meeting_barring (1, 0, n1) Q 24 [mR 92, mI x1, mI x2, none] [mI 0] w) : Wp (Cw d) cd_Meeting_barring (1, 0, n1) Q 23 [mR 92, mI x1, mI x2, none] [] w :=
  Wp.s h
theorem Meeting_barring_92_b24 {d : Nat} {n1 : Int} {Q : MV → Wd → Prop} {x1 x2 s0 : Int} {w : Wd} (h1 : s0 = 0 → Wp (Cw d) cd_Meeting_barring (1, 0, n1) Q 36 [mR 92, mI x1, mI x2, none] [] w) (h2 : ¬ (s0 = 0) → Wp (Cw d) cd_Meeting_barring (1, 0, n1) Q 27 [mR 92, mI x1, mI x2, none] [] w) : Wp (Cw d) cd_Meeting_barring (1, 0, n1) Q 24 [mR 92, mI x1, mI x2, none] [mI s0] w :=
  Wp.s (Wp.s (Wp.s ⟨fun q => Wp.fgd (leA.k (leA.k (leA.k (leA.f leA.e)))) (h1 q), fun q => Wp.fgd (leA.k (leA.k (leA.k (leA.f leA.e)))) (h2 q)⟩))
theorem Meeting_barring_92_b27 {d : Nat} {n1 : Int} {Q : MV → Wd → Prop} {x1 x2 : Int} {w : Wd} (h1 : x1 = 0 → Wp (Cw d) cd_Meeting_barring (1, 0, n1) Q 34 [mR 92, none, mI x2, none] [] w) (h2 : ¬ (x1 = 0) → Wp (Cw d) cd_Meeting_barring (1, 0, n1) Q 29 [mR 92, mI x1, mI x2, none] [] w) : Wp (Cw d) cd_Meeting_barring (1, 0, n1) Q 27 [mR 92, mI x1, mI x2, none] [] w :=
  Wp.s (Wp.s ⟨fun q => Wp.fgd (leA.k (leA.f (leA.k (leA.f leA.e)))) (h1 q), fun q => h2 q⟩)
theorem Meeting_barring_92_b29 {d : Nat} {n1 : Int} {Q : MV → Wd → Prop} {x1 x2 : Int} {w : Wd} (h : Cw d 278 [mI x2] w (fun r w' => Wp (Cw d) cd_Meeting_barring (1, 0, n1) Q 31 [mR 92, mI x1, mI x2, none] [r] w')) : Wp (Cw d) cd_Meeting_barring (1, 0, n1) Q 29 [mR 92, mI x1, mI x2, none] [] w :=
  Wp.s (Wp.s h)
theorem Meeting_barring_92_b31 {d : Nat} {n1 : Int} {Q : MV → Wd → Prop} {x1 x2 s0 : Int} {w : Wd} (h : Cw d 278 [mI x1] w (fun r w' => Wp (Cw d) cd_Meeting_barring (1, 0, n1) Q 33 [mR 92, mI x1, mI x2, none] [r, mI s0] w')) : Wp (Cw d) cd_Meeting_barring (1, 0, n1) Q 31 [mR 92, mI x1, mI x2, none] [mI s0] w :=
  Wp.s (Wp.s h)
theorem Meeting_barring_92_b33 {d : Nat} {n1 : Int} {Q : MV → Wd → Prop} {x1 x2 s0 s1 : Int} {w : Wd} (h1 : s0 ≤ s1 → Wp (Cw d) cd_Meeting_barring (1, 0, n1) Q 36 [mR 92, mI x1, mI x2, none] [] w) (h2 : ¬ (s0 ≤ s1) → Wp (Cw d) cd_Meeting_barring (1, 0, n1) Q 34 [mR 92, none, mI x2, none] [] w) : Wp (Cw d) cd_Meeting_barring (1, 0, n1) Q 33 [mR 92, mI x1, mI x2, none] [mI s0, mI s1] w :=
  Wp.s ⟨fun q => h1 q, fun q => Wp.fgd (leA.k (leA.f (leA.k (leA.f leA.e)))) (h2 q)⟩
theorem Meeting_barring_92_b34 {d : Nat} {n1 : Int} {Q : MV → Wd → Prop} {x2 : Int} {w : Wd} (h : Wp (Cw d) cd_Meeting_barring (1, 0, n1) Q 36 [mR 92, mI x2, mI x2, none] [] w) : Wp (Cw d) cd_Meeting_barring (1, 0, n1) Q 34 [mR 92, none, mI x2, none] [] w :=
  Wp.s (Wp.s h)
theorem Meeting_barring_92_b36 {d : Nat} {n1 : Int} {Q : MV → Wd → Prop} {x1 x2 : Int} {w : Wd} (h : Wp (Cw d) cd_Meeting_barring (1, 0, n1) Q 6 [mR 92, mI x1, mI (w32 (x2 + 1)), none] [] w) : Wp (Cw d) cd_Meeting_barring (1, 0, n1) Q 36 [mR 92, mI x1, mI x2, none] [] w :=
  Wp.s (Wp.s h)
theorem Meeting_barring_92_b38 {d : Nat} {n1 : Int} {Q : MV → Wd → Prop} {x1 : Int} {w : Wd} (h : Q (mI x1) w) : Wp (Cw d) cd_Meeting_barring (1, 0, n1) Q 38 [none, mI x1, none, none] [] w :=
  Wp.s (Wp.s h)
theorem M_has_b0 {d : Nat} {n1 : Int} {Q : MV → Wd → Prop} {x0 x1 : Int} {w : Wd} (h1 : ¬ iand (ishr x0 x1) 1 = 1 → Wp (Cw d) cd_M_has (2, 0, n1) Q 9 [none, none] [] w) (h2 : ¬ (¬ iand (ishr x0 x1) 1 = 1) → Wp (Cw d) cd_M_has (2, 0, n1) Q 7 [none, none] [] w) : Wp (Cw d) cd_M_has (2, 0, n1) Q 0 [mI x0, mI x1] [] w :=
  Wp.s (Wp.s (Wp.s (Wp.s (Wp.s (Wp.s (Wp.s ⟨fun q => Wp.fgd (leA.f (leA.f leA.e)) (h1 q), fun q => Wp.fgd (leA.f (leA.f leA.e)) (h2 q)⟩))))))
theorem M_has_b7 {d : Nat} {n1 : Int} {Q : MV → Wd → Prop} {w : Wd} (h : Wp (Cw d) cd_M_has (2, 0, n1) Q 10 [none, none] [mI 1] w) : Wp (Cw d) cd_M_has (2, 0, n1) Q 7 [none, none] [] w :=
  Wp.s (Wp.s h)
theorem M_has_b9 {d : Nat} {n1 : Int} {Q : MV → Wd → Prop} {w : Wd} (h : Wp (Cw d) cd_M_has (2, 0, n1) Q 10 [none, none] [mI 0] w) : Wp (Cw d) cd_M_has (2, 0, n1) Q 9 [none, none] [] w :=
  Wp.s h
theorem M_has_b10 {d : Nat} {n1 : Int} {Q : MV → Wd → Prop} {s0 : Int} {w : Wd} (g1 : s0 = 0 ∨ s0 = 1) (h : Q (mI s0) w) : Wp (Cw d) cd_M_has (2, 0, n1) Q 10 [none, none] [mI s0] w :=
  Wp.s ⟨g1, h⟩
theorem M_count1_b0 {d : Nat} {n1 : Int} {Q : MV → Wd → Prop} {x0 : Int} {w : Wd} (h : Wp (Cw d) cd_M_count1 (1, 0, n1) Q 4 [none, mI 0, mI x0] [] w) : Wp (Cw d) cd_M_count1 (1, 0, n1) Q 0 [mI x0, none, none] [] w :=
  Wp.s (Wp.s (Wp.s (Wp.s (Wp.fgd (leA.f (leA.k (leA.k leA.e))) h))))
theorem M_count1_b4 {d : Nat} {n1 : Int} {Q : MV → Wd → Prop} {x1 x2 : Int} {w : Wd} (h1 : x2 = 0 → Wp (Cw d) cd_M_count1 (1, 0, n1) Q 14 [none, mI x1, none] [] w) (h2 : ¬ (x2 = 0) → Wp (Cw d) cd_M_count1 (1, 0, n1) Q 6 [none, mI x1, mI x2] [] w) : Wp (Cw d) cd_M_count1 (1, 0, n1) Q 4 [none, mI x1, mI x2] [] w :=
  Wp.s (Wp.s ⟨fun q => Wp.fgd (leA.f (leA.k (leA.f leA.e))) (h1 q), fun q => h2 q⟩)
theorem M_count1_b6 {d : Nat} {n1 : Int} {Q : MV → Wd → Prop} {x1 x2 : Int} {w : Wd} (h : Wp (Cw d) cd_M_count1 (1, 0, n1) Q 4 [none, mI (w32 (x1 + 1)), mI (iand x2 (w32 (x2 - 1)))] [] w) : Wp (Cw d) cd_M_count1 (1, 0, n1) Q 6 [none, mI x1, mI x2] [] w :=
  Wp.s (Wp.s (Wp.s (Wp.s (Wp.s (Wp.s (Wp.s (Wp.s h)))))))
theorem M_count1_b14 {d : Nat} {n1 : Int} {Q : MV → Wd → Prop} {x1 : Int} {w : Wd} (h : Q (mI x1) w) : Wp (Cw d) cd_M_count1 (1, 0, n1) Q 14 [none, mI x1, none] [] w :=
  Wp.s (Wp.s h)
theorem Meeting_painsMet_92_b0 {d : Nat} {n1 : Int} {Q : MV → Wd → Prop} {w : Wd} (h : Wp (Cw d) cd_Meeting_painsMet (1, 0, n1) Q 4 [mR 92, mI 0, mI 0, none] [] w) : Wp (Cw d) cd_Meeting_painsMet (1, 0, n1) Q 0 [mR 92, none, none, none] [] w :=
  Wp.s (Wp.s (Wp.s (Wp.s h)))
theorem Meeting_painsMet_92_b4 {d : Nat} {n1 : Int} {Q : MV → Wd → Prop} {x1 x2 : Int} {w : Wd} (h1 : w 4 11 ≤ x2 → Wp (Cw d) cd_Meeting_painsMet (1, 0, n1) Q 30 [none, mI x1, none, none] [] w) (h2 : ¬ (w 4 11 ≤ x2) → Wp (Cw d) cd_Meeting_painsMet (1, 0, n1) Q 9 [mR 92, mI x1, mI x2, none] [] w) : Wp (Cw d) cd_Meeting_painsMet (1, 0, n1) Q 4 [mR 92, mI x1, mI x2, none] [] w :=
  Wp.s (Wp.s (Wp.s (Wp.s (Wp.s ⟨fun q => Wp.fgd (leA.f (leA.k (leA.f (leA.f leA.e)))) (h1 q), fun q => h2 q⟩))))
theorem Meeting_painsMet_92_b9 {d : Nat} {n1 : Int} {Q : MV → Wd → Prop} {x1 x2 : Int} {w : Wd} (h : Cw d 95 [mR 92, mI x2] w (fun r w' => Wp (Cw d) cd_Meeting_painsMet (1, 0, n1) Q 12 [mR 92, mI x1, mI x2, none] [r] w')) : Wp (Cw d) cd_Meeting_painsMet (1, 0, n1) Q 9 [mR 92, mI x1, mI x2, none] [] w :=
  Wp.s (Wp.s (Wp.s h))
theorem Meeting_painsMet_92_b12 {d : Nat} {n1 : Int} {Q : MV → Wd → Prop} {x1 x2 s0 : Int} {w : Wd} (h1 : ¬ s0 = (-1) → Wp (Cw d) cd_Meeting_painsMet (1, 0, n1) Q 19 [mR 92, none, mI x2, mI s0] [mI x1] w) (h2 : ¬ (¬ s0 = (-1)) → Wp (Cw d) cd_Meeting_painsMet (1, 0, n1) Q 17 [mR 92, none, mI x2, none] [mI x1] w) : Wp (Cw d) cd_Meeting_painsMet (1, 0, n1) Q 12 [mR 92, mI x1, mI x2, none] [mI s0] w :=
  Wp.s (Wp.s (Wp.s (Wp.s (Wp.s ⟨fun q => Wp.fgd (leA.k (leA.f (leA.k (leA.k leA.e)))) (h1 q), fun q => Wp.fgd (leA.k (leA.f (leA.k (leA.f leA.e)))) (h2 q)⟩))))
theorem Meeting_painsMet_92_b17 {d : Nat} {n1 : Int} {Q : MV → Wd → Prop} {x2 s0 : Int} {w : Wd} (h : Wp (Cw d) cd_Meeting_painsMet (1, 0, n1) Q 26 [mR 92, none, mI x2, none] [mI 0, mI s0] w) : Wp (Cw d) cd_Meeting_painsMet (1, 0, n1) Q 17 [mR 92, none, mI x2, none] [mI s0] w :=
  Wp.s (Wp.s h)
theorem Meeting_painsMet_92_b19 {d : Nat} {n1 : Int} {Q : MV → Wd → Prop} {x2 x3 s0 : Int} {w : Wd} (h : Cw d 77 [mR 92, mI x3, mI x2] w (fun r w' => Wp (Cw d) cd_Meeting_painsMet (1, 0, n1) Q 25 [mR 92, none, mI x2, none] [r, mR 93, mI s0] w')) : Wp (Cw d) cd_Meeting_painsMet (1, 0, n1) Q 19 [mR 92, none, mI x2, mI x3] [mI s0] w :=
  Wp.s (Wp.s (Wp.s (Wp.s (Wp.s (Wp.s (Cw_mono _ _ _ _ _ _ (fun r w' q => Wp.fgd (leA.k (leA.f (leA.k (leA.f leA.e)))) q) h))))))
theorem Meeting_painsMet_92_b25 {d : Nat} {n1 : Int} {Q : MV → Wd → Prop} {x2 s0 s2 : Int} {w : Wd} (h : Cw d 84 [mR 93, mL s0] w (fun r w' => Wp (Cw d) cd_Meeting_painsMet (1, 0, n1) Q 26 [mR 92, none, mI x2, none] [r, mI s2] w')) : Wp (Cw d) cd_Meeting_painsMet (1, 0, n1) Q 25 [mR 92, none, mI x2, none] [mL s0, mR 93, mI s2] w :=
  Wp.s h
theorem Meeting_painsMet_92_b26 {d : Nat} {n1 : Int} {Q : MV → Wd → Prop} {x2 s0 s1 : Int} {w : Wd} (h : Wp (Cw d) cd_Meeting_painsMet (1, 0, n1) Q 4 [mR 92, mI (w32 (s1 + s0)), mI (w32 (x2 + 1)), none] [] w) : Wp (Cw d) cd_Meeting_painsMet (1, 0, n1) Q 26 [mR 92, none, mI x2, none] [mI s0, mI s1] w :=
  Wp.s (Wp.s (Wp.s (Wp.s h)))
theorem Meeting_painsMet_92_b30 {d : Nat} {n1 : Int} {Q : MV → Wd → Prop} {x1 : Int} {w : Wd} (h : Q (mI x1) w) : Wp (Cw d) cd_Meeting_painsMet (1, 0, n1) Q 30 [none, mI x1, none, none] [] w :=
  Wp.s (Wp.s h)
theorem Meeting_metCount_92_b0 {d : Nat} {n1 : Int} {Q : MV → Wd → Prop} {w : Wd} (h : Q (mI (iand (w32 (lshr (w 92 7) 40)) 15)) w) : Wp (Cw d) cd_Meeting_metCount (1, 0, n1) Q 0 [mR 92] [] w :=
  Wp.s (Wp.s (Wp.s (Wp.s (Wp.s (Wp.s (Wp.s (Wp.s h)))))))
theorem Meeting_sum_92_b0 {d : Nat} {n1 : Int} {Q : MV → Wd → Prop} {w : Wd} (h : Q (mI (w32 (lshr (w 92 7) 44))) w) : Wp (Cw d) cd_Meeting_sum (1, 0, n1) Q 0 [mR 92] [] w :=
  Wp.s (Wp.s (Wp.s (Wp.s (Wp.s (Wp.s h)))))
theorem M_bestDay_144_b0 {d : Nat} {n1 : Int} {Q : MV → Wd → Prop} {w : Wd} (h : Wp (Cw d) cd_M_bestDay (0, 0, n1) Q 4 [mR 144, mL 0, none, mI 0, none, none, none, none, none, none] [] w) : Wp (Cw d) cd_M_bestDay (0, 0, n1) Q 0 [mR 144, none, none, none, none, none, none, none, none, none] [] w :=
  Wp.s (Wp.s (Wp.s (Wp.s h)))
theorem M_bestDay_144_b4 {d : Nat} {n1 : Int} {Q : MV → Wd → Prop} {x1 x3 : Int} {w : Wd} (h1 : 8 ≤ x3 → Wp (Cw d) cd_M_bestDay (0, 0, n1) Q 16 [mR 144, mL x1, none, none, none, none, none, none, none, none] [] w) (h2 : ¬ (8 ≤ x3) → Wp (Cw d) cd_M_bestDay (0, 0, n1) Q 7 [mR 144, mL x1, none, mI x3, none, none, none, none, none, none] [] w) : Wp (Cw d) cd_M_bestDay (0, 0, n1) Q 4 [mR 144, mL x1, none, mI x3, none, none, none, none, none, none] [] w :=
  Wp.s (Wp.s (Wp.s ⟨fun q => Wp.fgd (leA.k (leA.k (leA.f (leA.f (leA.f (leA.f (leA.f (leA.f (leA.f (leA.f leA.e)))))))))) (h1 q), fun q => h2 q⟩))
theorem M_bestDay_144_b7 {d : Nat} {n1 : Int} {Q : MV → Wd → Prop} {x1 x3 : Int} {w : Wd} (h : Cw d 229 [mI x3] w (fun r w' => Wp (Cw d) cd_M_bestDay (0, 0, n1) Q 11 [mR 144, none, none, mI x3, none, none, none, none, none, none] [r, mL 16, mL x1] w')) : Wp (Cw d) cd_M_bestDay (0, 0, n1) Q 7 [mR 144, mL x1, none, mI x3, none, none, none, none, none, none] [] w :=
  Wp.s (Wp.s (Wp.s (Wp.s (Cw_mono _ _ _ _ _ _ (fun r w' q => Wp.fgd (leA.k (leA.f (leA.f (leA.k (leA.f (leA.f (leA.f (leA.f (leA.f (leA.f leA.e)))))))))) q) h))))
theorem M_bestDay_144_b11 {d : Nat} {n1 : Int} {Q : MV → Wd → Prop} {x3 s0 s1 s2 : Int} {w : Wd} (h : Wp (Cw d) cd_M_bestDay (0, 0, n1) Q 4 [mR 144, mL (w64 (s2 + (w64 (s1 * s0)))), none, mI (w32 (x3 + 1)), none, none, none, none, none, none] [] w) : Wp (Cw d) cd_M_bestDay (0, 0, n1) Q 11 [mR 144, none, none, mI x3, none, none, none, none, none, none] [mL s0, mL s1, mL s2] w :=
  Wp.s (Wp.s (Wp.s (Wp.s (Wp.s h))))
theorem M_bestDay_144_b16 {d : Nat} {n1 : Int} {Q : MV → Wd → Prop} {x1 : Int} {w : Wd} (h : Wp (Cw d) cd_M_bestDay (0, 0, n1) Q 18 [mR 144, mL x1, none, mI 0, none, none, none, none, none, none] [] w) : Wp (Cw d) cd_M_bestDay (0, 0, n1) Q 16 [mR 144, mL x1, none, none, none, none, none, none, none, none] [] w :=
  Wp.s (Wp.s h)
theorem M_bestDay_144_b18 {d : Nat} {n1 : Int} {Q : MV → Wd → Prop} {x1 x3 : Int} {w : Wd} (h1 : 256 ≤ x3 → Wp (Cw d) cd_M_bestDay (0, 0, n1) Q 37 [mR 144, none, none, none, none, none, none, none, none, none] [] w) (h2 : ¬ (256 ≤ x3) → Wp (Cw d) cd_M_bestDay (0, 0, n1) Q 21 [mR 144, mL x1, none, mI x3, none, none, none, none, none, none] [] w) : Wp (Cw d) cd_M_bestDay (0, 0, n1) Q 18 [mR 144, mL x1, none, mI x3, none, none, none, none, none, none] [] w :=
  Wp.s (Wp.s (Wp.s ⟨fun q => Wp.fgd (leA.k (leA.f (leA.f (leA.f (leA.f (leA.f (leA.f (leA.f (leA.f (leA.f leA.e)))))))))) (h1 q), fun q => h2 q⟩))
theorem M_bestDay_144_b21 {d : Nat} {n1 : Int} {Q : MV → Wd → Prop} {x1 x3 : Int} {w : Wd} (h1 : ¬ x3 = 0 → Wp (Cw d) cd_M_bestDay (0, 0, n1) Q 28 [mR 144, mL x1, none, mI x3, none, none, none, none, none, none] [mI x3, mR 166] w) (h2 : ¬ (¬ x3 = 0) → Wp (Cw d) cd_M_bestDay (0, 0, n1) Q 26 [mR 144, mL x1, none, mI x3, none, none, none, none, none, none] [mI x3, mR 166] w) : Wp (Cw d) cd_M_bestDay (0, 0, n1) Q 21 [mR 144, mL x1, none, mI x3, none, none, none, none, none, none] [] w :=
  Wp.s (Wp.s (Wp.s (Wp.s (Wp.s ⟨fun q => h1 q, fun q => h2 q⟩))))
theorem M_bestDay_144_b26 {d : Nat} {n1 : Int} {Q : MV → Wd → Prop} {x1 x3 s0 : Int} {w : Wd} (h : Wp (Cw d) cd_M_bestDay (0, 0, n1) Q 29 [mR 144, mL x1, none, mI x3, none, none, none, none, none, none] [mI 0, mI s0, mR 166] w) : Wp (Cw d) cd_M_bestDay (0, 0, n1) Q 26 [mR 144, mL x1, none, mI x3, none, none, none, none, none, none] [mI s0, mR 166] w :=
  Wp.s (Wp.s h)
theorem M_bestDay_144_b28 {d : Nat} {n1 : Int} {Q : MV → Wd → Prop} {x1 x3 s0 : Int} {w : Wd} (h : Wp (Cw d) cd_M_bestDay (0, 0, n1) Q 29 [mR 144, mL x1, none, mI x3, none, none, none, none, none, none] [mI ((-1000000000)), mI s0, mR 166] w) : Wp (Cw d) cd_M_bestDay (0, 0, n1) Q 28 [mR 144, mL x1, none, mI x3, none, none, none, none, none, none] [mI s0, mR 166] w :=
  Wp.s h
theorem M_bestDay_144_b29 {d : Nat} {n1 : Int} {Q : MV → Wd → Prop} {x1 x3 s0 s1 : Int} {w : Wd} (g1 : (0 : Int) ≤ s1 ∧ s1 < 256) (g2 : (0 : Int) ≤ x3 ∧ x3 < 256) (h : Wp (Cw d) cd_M_bestDay (0, 0, n1) Q 18 [mR 144, mL x1, none, mI (w32 (x3 + 1)), none, none, none, none, none, none] [] (ub (ub w 166 s1.toNat s0) 168 x3.toNat x1)) : Wp (Cw d) cd_M_bestDay (0, 0, n1) Q 29 [mR 144, mL x1, none, mI x3, none, none, none, none, none, none] [mI s0, mI s1, mR 166] w :=
  Wp.s ⟨g1, Wp.s (Wp.s (Wp.s (Wp.s (Wp.s ⟨g2, Wp.s (Wp.s h)⟩))))⟩
theorem M_bestDay_144_b37 {d : Nat} {n1 : Int} {Q : MV → Wd → Prop} {w : Wd} (h : Wp (Cw d) cd_M_bestDay (0, 0, n1) Q 39 [mR 144, none, none, mI 0, none, none, none, none, none, none] [] w) : Wp (Cw d) cd_M_bestDay (0, 0, n1) Q 37 [mR 144, none, none, none, none, none, none, none, none, none] [] w :=
  Wp.s (Wp.s h)
theorem M_bestDay_144_b39 {d : Nat} {n1 : Int} {Q : MV → Wd → Prop} {x3 : Int} {w : Wd} (h1 : w 146 2.toNat ≤ x3 → Wp (Cw d) cd_M_bestDay (0, 0, n1) Q 153 [mR 144, none, none, none, none, none, none, none, none, none] [] w) (h2 : ¬ (w 146 2.toNat ≤ x3) → Wp (Cw d) cd_M_bestDay (0, 0, n1) Q 45 [mR 144, none, none, mI x3, none, none, none, none, none, none] [] w) : Wp (Cw d) cd_M_bestDay (0, 0, n1) Q 39 [mR 144, none, none, mI x3, none, none, none, none, none, none] [] w :=
  Wp.s (Wp.s (Wp.s (Wp.s (Wp.s ⟨(by decide), Wp.s ⟨fun q => Wp.fgd (leA.k (leA.f (leA.f (leA.f (leA.f (leA.f (leA.f (leA.f (leA.f (leA.f leA.e)))))))))) (h1 q), fun q => h2 q⟩⟩))))
theorem M_bestDay_144_b45 {d : Nat} {n1 : Int} {Q : MV → Wd → Prop} {x3 : Int} {w : Wd} (h : Wp (Cw d) cd_M_bestDay (0, 0, n1) Q 47 [mR 144, none, none, mI x3, mI 255, none, none, none, none, none] [] w) : Wp (Cw d) cd_M_bestDay (0, 0, n1) Q 45 [mR 144, none, none, mI x3, none, none, none, none, none, none] [] w :=
  Wp.s (Wp.s h)
theorem M_bestDay_144_b47 {d : Nat} {n1 : Int} {Q : MV → Wd → Prop} {x3 x4 : Int} {w : Wd} (h1 : x4 ≤ 0 → Wp (Cw d) cd_M_bestDay (0, 0, n1) Q 151 [mR 144, none, none, mI x3, none, none, none, none, none, none] [] w) (h2 : ¬ (x4 ≤ 0) → Wp (Cw d) cd_M_bestDay (0, 0, n1) Q 49 [mR 144, none, none, mI x3, mI x4, none, none, none, none, none] [] w) : Wp (Cw d) cd_M_bestDay (0, 0, n1) Q 47 [mR 144, none, none, mI x3, mI x4, none, none, none, none, none] [] w :=
  Wp.s (Wp.s ⟨fun q => Wp.fgd (leA.k (leA.f (leA.f (leA.k (leA.f (leA.f (leA.f (leA.f (leA.f (leA.f leA.e)))))))))) (h1 q), fun q => h2 q⟩)
theorem M_bestDay_144_b49 {d : Nat} {n1 : Int} {Q : MV → Wd → Prop} {x3 x4 : Int} {w : Wd} (h : Wp (Cw d) cd_M_bestDay (0, 0, n1) Q 51 [mR 144, none, none, mI x3, mI x4, mI 0, none, none, none, none] [] w) : Wp (Cw d) cd_M_bestDay (0, 0, n1) Q 49 [mR 144, none, none, mI x3, mI x4, none, none, none, none, none] [] w :=
  Wp.s (Wp.s h)
theorem M_bestDay_144_b51 {d : Nat} {n1 : Int} {Q : MV → Wd → Prop} {x3 x4 x5 : Int} {w : Wd} (h1 : w 146 3.toNat ≤ x5 → Wp (Cw d) cd_M_bestDay (0, 0, n1) Q 149 [mR 144, none, none, mI x3, mI x4, none, none, none, none, none] [] w) (h2 : ¬ (w 146 3.toNat ≤ x5) → Wp (Cw d) cd_M_bestDay (0, 0, n1) Q 57 [mR 144, none, none, mI x3, mI x4, mI x5, none, none, none, none] [] w) : Wp (Cw d) cd_M_bestDay (0, 0, n1) Q 51 [mR 144, none, none, mI x3, mI x4, mI x5, none, none, none, none] [] w :=
  Wp.s (Wp.s (Wp.s (Wp.s (Wp.s ⟨(by decide), Wp.s ⟨fun q => Wp.fgd (leA.k (leA.f (leA.f (leA.k (leA.k (leA.f (leA.f (leA.f (leA.f (leA.f leA.e)))))))))) (h1 q), fun q => h2 q⟩⟩))))
theorem M_bestDay_144_b57 {d : Nat} {n1 : Int} {Q : MV → Wd → Prop} {x3 x4 x5 : Int} {w : Wd} (h : Cw d 211 [mI x4, mI x5] w (fun r w' => Wp (Cw d) cd_M_bestDay (0, 0, n1) Q 66 [mR 144, none, none, mI x3, mI x4, mI x5, mI (ixor x4 (ishl 1 x5)), none, none, none] [r] w')) : Wp (Cw d) cd_M_bestDay (0, 0, n1) Q 57 [mR 144, none, none, mI x3, mI x4, mI x5, none, none, none, none] [] w :=
  Wp.s (Wp.s (Wp.s (Wp.s (Wp.s (Wp.s (Wp.s (Wp.s (Wp.s h))))))))
theorem M_bestDay_144_b66 {d : Nat} {n1 : Int} {Q : MV → Wd → Prop} {x3 x4 x5 x6 s0 : Int} {w : Wd} (h1 : s0 = 0 → Wp (Cw d) cd_M_bestDay (0, 0, n1) Q 147 [mR 144, none, none, mI x3, mI x4, mI x5, none, none, none, none] [] w) (h2 : ¬ (s0 = 0) → Wp (Cw d) cd_M_bestDay (0, 0, n1) Q 67 [mR 144, none, none, mI x3, mI x4, mI x5, mI x6, none, none, none] [] w) : Wp (Cw d) cd_M_bestDay (0, 0, n1) Q 66 [mR 144, none, none, mI x3, mI x4, mI x5, mI x6, none, none, none] [mI s0] w :=
  Wp.s ⟨fun q => Wp.fgd (leA.k (leA.f (leA.f (leA.k (leA.k (leA.k (leA.f (leA.f (leA.f (leA.f leA.e)))))))))) (h1 q), fun q => h2 q⟩
theorem M_bestDay_144_b67 {d : Nat} {n1 : Int} {Q : MV → Wd → Prop} {x3 x4 x5 x6 : Int} {w : Wd} (h : Cw d 220 [mR 144, mI x3, mI x5] w (fun r w' => Wp (Cw d) cd_M_bestDay (0, 0, n1) Q 71 [mR 144, none, none, mI x3, mI x4, mI x5, mI x6, none, none, none] [r] w')) : Wp (Cw d) cd_M_bestDay (0, 0, n1) Q 67 [mR 144, none, none, mI x3, mI x4, mI x5, mI x6, none, none, none] [] w :=
  Wp.s (Wp.s (Wp.s (Wp.s h)))
theorem M_bestDay_144_b71 {d : Nat} {n1 : Int} {Q : MV → Wd → Prop} {x3 x4 x5 x6 s0 : Int} {w : Wd} (h1 : s0 = 0 → Wp (Cw d) cd_M_bestDay (0, 0, n1) Q 147 [mR 144, none, none, mI x3, mI x4, mI x5, none, none, none, none] [] w) (h2 : ¬ (s0 = 0) → Wp (Cw d) cd_M_bestDay (0, 0, n1) Q 72 [mR 144, none, none, mI x3, mI x4, mI x5, mI x6, none, none, none] [] w) : Wp (Cw d) cd_M_bestDay (0, 0, n1) Q 71 [mR 144, none, none, mI x3, mI x4, mI x5, mI x6, none, none, none] [mI s0] w :=
  Wp.s ⟨fun q => Wp.fgd (leA.k (leA.f (leA.f (leA.k (leA.k (leA.k (leA.f (leA.f (leA.f (leA.f leA.e)))))))))) (h1 q), fun q => h2 q⟩
theorem M_bestDay_144_b72 {d : Nat} {n1 : Int} {Q : MV → Wd → Prop} {x3 x4 x5 x6 : Int} {w : Wd} (g1 : (0 : Int) ≤ x6 ∧ x6 < 256) (h1 : ¬ w 166 x6.toNat = (-1000000000) → Wp (Cw d) cd_M_bestDay (0, 0, n1) Q 79 [mR 144, none, none, mI x3, mI x4, mI x5, mI x6, none, none, none] [] w) (h2 : ¬ (¬ w 166 x6.toNat = (-1000000000)) → Wp (Cw d) cd_M_bestDay (0, 0, n1) Q 78 [mR 144, none, none, mI x3, mI x4, mI x5, none, none, none, none] [] w) : Wp (Cw d) cd_M_bestDay (0, 0, n1) Q 72 [mR 144, none, none, mI x3, mI x4, mI x5, mI x6, none, none, none] [] w :=
  Wp.s (Wp.s (Wp.s (Wp.s ⟨g1, Wp.s (Wp.s ⟨fun q => h1 q, fun q => Wp.fgd (leA.k (leA.f (leA.f (leA.k (leA.k (leA.k (leA.f (leA.f (leA.f (leA.f leA.e)))))))))) (h2 q)⟩)⟩)))
theorem M_bestDay_144_b78 {d : Nat} {n1 : Int} {Q : MV → Wd → Prop} {x3 x4 x5 : Int} {w : Wd} (h : Wp (Cw d) cd_M_bestDay (0, 0, n1) Q 147 [mR 144, none, none, mI x3, mI x4, mI x5, none, none, none, none] [] w) : Wp (Cw d) cd_M_bestDay (0, 0, n1) Q 78 [mR 144, none, none, mI x3, mI x4, mI x5, none, none, none, none] [] w :=
  Wp.s h
theorem M_bestDay_144_b79 {d : Nat} {n1 : Int} {Q : MV → Wd → Prop} {x3 x4 x5 x6 : Int} {w : Wd} (g1 : (0 : Int) ≤ x6 ∧ x6 < 256) (g2 : (0 : Int) ≤ w32 ((w32 (109 + (w32 (4 * x5)))) + 2) ∧ w32 ((w32 (109 + (w32 (4 * x5)))) + 2) < 645) (g3 : (0 : Int) ≤ w32 ((w32 (8 * x3)) + x5) ∧ w32 ((w32 (8 * x3)) + x5) < 128) (g4 : (0 : Int) ≤ x6 ∧ x6 < 256) (h : Cw d 229 [mI x5] w (fun r w' => Wp (Cw d) cd_M_bestDay (0, 0, n1) Q 114 [mR 144, none, none, mI x3, mI x4, mI x5, none, mI (w32 ((w32 ((w 166 x6.toNat) + (w 146 (w32 ((w32 (109 + (w32 (4 * x5)))) + 2)).toNat))) - (w 161 (w32 ((w32 (8 * x3)) + x5)).toNat))), none, none] [r, mL (w32 (16 - x3)), mL (w 168 x6.toNat)] w')) : Wp (Cw d) cd_M_bestDay (0, 0, n1) Q 79 [mR 144, none, none, mI x3, mI x4, mI x5, mI x6, none, none, none] [] w :=
  Wp.s (Wp.s (Wp.s (Wp.s ⟨g1, Wp.s (Wp.s (Wp.s (Wp.s (Wp.s (Wp.s (Wp.s (Wp.s (Wp.s (Wp.s ⟨g2, Wp.s (Wp.s (Wp.s (Wp.s (Wp.s (Wp.s (Wp.s (Wp.s (Wp.s ⟨g3, Wp.s (Wp.s (Wp.s (Wp.s (Wp.s (Wp.s ⟨g4, Wp.s (Wp.s (Wp.s (Wp.s (Wp.s (Wp.s (Cw_mono _ _ _ _ _ _ (fun r w' q => Wp.fgd (leA.k (leA.f (leA.f (leA.k (leA.k (leA.k (leA.f (leA.k (leA.f (leA.f leA.e)))))))))) q) h))))))⟩)))))⟩))))))))⟩)))))))))⟩)))
theorem M_bestDay_144_b114 {d : Nat} {n1 : Int} {Q : MV → Wd → Prop} {x3 x4 x5 x7 s0 s1 s2 : Int} {w : Wd} (g1 : (0 : Int) ≤ x4 ∧ x4 < 256) (h1 : x7 < w 166 x4.toNat → Wp (Cw d) cd_M_bestDay (0, 0, n1) Q 147 [mR 144, none, none, mI x3, mI x4, mI x5, none, none, none, none] [] w) (h2 : ¬ (x7 < w 166 x4.toNat) → Wp (Cw d) cd_M_bestDay (0, 0, n1) Q 123 [mR 144, none, none, mI x3, mI x4, mI x5, none, mI x7, mL (w64 (s2 - (w64 (s1 * s0)))), none] [] w) : Wp (Cw d) cd_M_bestDay (0, 0, n1) Q 114 [mR 144, none, none, mI x3, mI x4, mI x5, none, mI x7, none, none] [mL s0, mL s1, mL s2] w :=
  Wp.s (Wp.s (Wp.s (Wp.s (Wp.s (Wp.s (Wp.s (Wp.s ⟨g1, Wp.s ⟨fun q => Wp.fgd (leA.k (leA.f (leA.f (leA.k (leA.k (leA.k (leA.f (leA.f (leA.f (leA.f leA.e)))))))))) (h1 q), fun q => h2 q⟩⟩)))))))
theorem M_bestDay_144_b123 {d : Nat} {n1 : Int} {Q : MV → Wd → Prop} {x3 x4 x5 x7 x8 : Int} {w : Wd} (g1 : (0 : Int) ≤ x4 ∧ x4 < 256) (h1 : ¬ x7 = w 166 x4.toNat → Wp (Cw d) cd_M_bestDay (0, 0, n1) Q 137 [mR 144, none, none, mI x3, mI x4, mI x5, none, mI x7, mL x8, none] [] w) (h2 : ¬ (¬ x7 = w 166 x4.toNat) → Wp (Cw d) cd_M_bestDay (0, 0, n1) Q 129 [mR 144, none, none, mI x3, mI x4, mI x5, none, mI x7, mL x8, none] [] w) : Wp (Cw d) cd_M_bestDay (0, 0, n1) Q 123 [mR 144, none, none, mI x3, mI x4, mI x5, none, mI x7, mL x8, none] [] w :=
  Wp.s (Wp.s (Wp.s (Wp.s (Wp.s ⟨g1, Wp.s ⟨fun q => h1 q, fun q => h2 q⟩⟩))))
theorem M_bestDay_144_b129 {d : Nat} {n1 : Int} {Q : MV → Wd → Prop} {x3 x4 x5 x7 x8 : Int} {w : Wd} (g1 : (0 : Int) ≤ x4 ∧ x4 < 256) (h1 : cmp3 x8 (w 168 x4.toNat) < 0 → Wp (Cw d) cd_M_bestDay (0, 0, n1) Q 137 [mR 144, none, none, mI x3, mI x4, mI x5, none, mI x7, mL x8, none] [] w) (h2 : ¬ (cmp3 x8 (w 168 x4.toNat) < 0) → Wp (Cw d) cd_M_bestDay (0, 0, n1) Q 136 [mR 144, none, none, mI x3, mI x4, mI x5, none, none, none, none] [] w) : Wp (Cw d) cd_M_bestDay (0, 0, n1) Q 129 [mR 144, none, none, mI x3, mI x4, mI x5, none, mI x7, mL x8, none] [] w :=
  Wp.s (Wp.s (Wp.s (Wp.s (Wp.s ⟨g1, Wp.s (Wp.s ⟨fun q => h1 q, fun q => Wp.fgd (leA.k (leA.f (leA.f (leA.k (leA.k (leA.k (leA.f (leA.f (leA.f (leA.f leA.e)))))))))) (h2 q)⟩)⟩))))
theorem M_bestDay_144_b136 {d : Nat} {n1 : Int} {Q : MV → Wd → Prop} {x3 x4 x5 : Int} {w : Wd} (h : Wp (Cw d) cd_M_bestDay (0, 0, n1) Q 147 [mR 144, none, none, mI x3, mI x4, mI x5, none, none, none, none] [] w) : Wp (Cw d) cd_M_bestDay (0, 0, n1) Q 136 [mR 144, none, none, mI x3, mI x4, mI x5, none, none, none, none] [] w :=
  Wp.s h
theorem M_bestDay_144_b137 {d : Nat} {n1 : Int} {Q : MV → Wd → Prop} {x3 x4 x5 x7 x8 : Int} {w : Wd} (g1 : (0 : Int) ≤ x4 ∧ x4 < 256) (g2 : (0 : Int) ≤ x4 ∧ x4 < 256) (h : Wp (Cw d) cd_M_bestDay (0, 0, n1) Q 147 [mR 144, none, none, mI x3, mI x4, mI x5, none, none, none, none] [] (ub (ub w 166 x4.toNat x7) 168 x4.toNat x8)) : Wp (Cw d) cd_M_bestDay (0, 0, n1) Q 137 [mR 144, none, none, mI x3, mI x4, mI x5, none, mI x7, mL x8, none] [] w :=
  Wp.s (Wp.s (Wp.s (Wp.s (Wp.s ⟨g1, Wp.s (Wp.s (Wp.s (Wp.s (Wp.s ⟨g2, Wp.fgd (leA.k (leA.f (leA.f (leA.k (leA.k (leA.k (leA.f (leA.f (leA.f (leA.f leA.e)))))))))) h⟩))))⟩))))
theorem M_bestDay_144_b147 {d : Nat} {n1 : Int} {Q : MV → Wd → Prop} {x3 x4 x5 : Int} {w : Wd} (h : Wp (Cw d) cd_M_bestDay (0, 0, n1) Q 51 [mR 144, none, none, mI x3, mI x4, mI (w32 (x5 + 1)), none, none, none, none] [] w) : Wp (Cw d) cd_M_bestDay (0, 0, n1) Q 147 [mR 144, none, none, mI x3, mI x4, mI x5, none, none, none, none] [] w :=
  Wp.s (Wp.s h)
theorem M_bestDay_144_b149 {d : Nat} {n1 : Int} {Q : MV → Wd → Prop} {x3 x4 : Int} {w : Wd} (h : Wp (Cw d) cd_M_bestDay (0, 0, n1) Q 47 [mR 144, none, none, mI x3, mI (w32 (x4 + (-1))), none, none, none, none, none] [] w) : Wp (Cw d) cd_M_bestDay (0, 0, n1) Q 149 [mR 144, none, none, mI x3, mI x4, none, none, none, none, none] [] w :=
  Wp.s (Wp.s h)
theorem M_bestDay_144_b151 {d : Nat} {n1 : Int} {Q : MV → Wd → Prop} {x3 : Int} {w : Wd} (h : Wp (Cw d) cd_M_bestDay (0, 0, n1) Q 39 [mR 144, none, none, mI (w32 (x3 + 1)), none, none, none, none, none, none] [] w) : Wp (Cw d) cd_M_bestDay (0, 0, n1) Q 151 [mR 144, none, none, mI x3, none, none, none, none, none, none] [] w :=
  Wp.s (Wp.s h)
theorem M_bestDay_144_b153 {d : Nat} {n1 : Int} {Q : MV → Wd → Prop} {w : Wd} (h : Wp (Cw d) cd_M_bestDay (0, 0, n1) Q 157 [mR 144, none, none, mI 0, mI 1, none, none, none, none, none] [] w) : Wp (Cw d) cd_M_bestDay (0, 0, n1) Q 153 [mR 144, none, none, none, none, none, none, none, none, none] [] w :=
  Wp.s (Wp.s (Wp.s (Wp.s h)))
theorem M_bestDay_144_b157 {d : Nat} {n1 : Int} {Q : MV → Wd → Prop} {x3 x4 : Int} {w : Wd} (h1 : 256 ≤ x4 → Wp (Cw d) cd_M_bestDay (0, 0, n1) Q 209 [mR 144, none, none, mI x3, none, none, none, none, none, none] [] w) (h2 : ¬ (256 ≤ x4) → Wp (Cw d) cd_M_bestDay (0, 0, n1) Q 160 [mR 144, none, none, mI x3, mI x4, none, none, none, none, none] [] w) : Wp (Cw d) cd_M_bestDay (0, 0, n1) Q 157 [mR 144, none, none, mI x3, mI x4, none, none, none, none, none] [] w :=
  Wp.s (Wp.s (Wp.s ⟨fun q => Wp.fgd (leA.k (leA.f (leA.f (leA.k (leA.f (leA.f (leA.f (leA.f (leA.f (leA.f leA.e)))))))))) (h1 q), fun q => h2 q⟩))
theorem M_bestDay_144_b160 {d : Nat} {n1 : Int} {Q : MV → Wd → Prop} {x3 x4 : Int} {w : Wd} (g1 : (0 : Int) ≤ x4 ∧ x4 < 256) (h1 : w 166 x4.toNat = (-1000000000) → Wp (Cw d) cd_M_bestDay (0, 0, n1) Q 207 [mR 144, none, none, mI x3, mI x4, none, none, none, none, none] [] w) (h2 : ¬ (w 166 x4.toNat = (-1000000000)) → Wp (Cw d) cd_M_bestDay (0, 0, n1) Q 166 [mR 144, none, none, mI x3, mI x4, none, none, none, none, none] [] w) : Wp (Cw d) cd_M_bestDay (0, 0, n1) Q 160 [mR 144, none, none, mI x3, mI x4, none, none, none, none, none] [] w :=
  Wp.s (Wp.s (Wp.s (Wp.s ⟨g1, Wp.s (Wp.s ⟨fun q => h1 q, fun q => h2 q⟩)⟩)))
theorem M_bestDay_144_b166 {d : Nat} {n1 : Int} {Q : MV → Wd → Prop} {x3 x4 : Int} {w : Wd} (g1 : (0 : Int) ≤ x4 ∧ x4 < 256) (g2 : (0 : Int) ≤ x3 ∧ x3 < 256) (h1 : w 166 x3.toNat ≤ w 166 x4.toNat → Wp (Cw d) cd_M_bestDay (0, 0, n1) Q 176 [mR 144, none, none, mI x3, mI x4, none, none, none, none, none] [] w) (h2 : ¬ (w 166 x3.toNat ≤ w 166 x4.toNat) → Wp (Cw d) cd_M_bestDay (0, 0, n1) Q 175 [mR 144, none, none, mI x3, mI x4, none, none, none, none, none] [] w) : Wp (Cw d) cd_M_bestDay (0, 0, n1) Q 166 [mR 144, none, none, mI x3, mI x4, none, none, none, none, none] [] w :=
  Wp.s (Wp.s (Wp.s (Wp.s ⟨g1, Wp.s (Wp.s (Wp.s (Wp.s ⟨g2, Wp.s ⟨fun q => h1 q, fun q => h2 q⟩⟩)))⟩)))
theorem M_bestDay_144_b175 {d : Nat} {n1 : Int} {Q : MV → Wd → Prop} {x3 x4 : Int} {w : Wd} (h : Wp (Cw d) cd_M_bestDay (0, 0, n1) Q 207 [mR 144, none, none, mI x3, mI x4, none, none, none, none, none] [] w) : Wp (Cw d) cd_M_bestDay (0, 0, n1) Q 175 [mR 144, none, none, mI x3, mI x4, none, none, none, none, none] [] w :=
  Wp.s h
theorem M_bestDay_144_b176 {d : Nat} {n1 : Int} {Q : MV → Wd → Prop} {x3 x4 : Int} {w : Wd} (h : Cw d 225 [mI x4] w (fun r w' => Wp (Cw d) cd_M_bestDay (0, 0, n1) Q 178 [mR 144, none, none, mI x3, mI x4, none, none, none, none, none] [r] w')) : Wp (Cw d) cd_M_bestDay (0, 0, n1) Q 176 [mR 144, none, none, mI x3, mI x4, none, none, none, none, none] [] w :=
  Wp.s (Wp.s h)
theorem M_bestDay_144_b178 {d : Nat} {n1 : Int} {Q : MV → Wd → Prop} {x3 x4 s0 : Int} {w : Wd} (h : Cw d 225 [mI x3] w (fun r w' => Wp (Cw d) cd_M_bestDay (0, 0, n1) Q 180 [mR 144, none, none, mI x3, mI x4, none, none, none, none, none] [r, mI s0] w')) : Wp (Cw d) cd_M_bestDay (0, 0, n1) Q 178 [mR 144, none, none, mI x3, mI x4, none, none, none, none, none] [mI s0] w :=
  Wp.s (Wp.s h)
theorem M_bestDay_144_b180 {d : Nat} {n1 : Int} {Q : MV → Wd → Prop} {x3 x4 s0 s1 : Int} {w : Wd} (g1 : (0 : Int) ≤ x4 ∧ x4 < 256) (g2 : (0 : Int) ≤ x3 ∧ x3 < 256) (h1 : w 166 x3.toNat < w 166 x4.toNat → Wp (Cw d) cd_M_bestDay (0, 0, n1) Q 205 [mR 144, none, none, none, mI x4, none, none, none, none, none] [] w) (h2 : ¬ (w 166 x3.toNat < w 166 x4.toNat) → Wp (Cw d) cd_M_bestDay (0, 0, n1) Q 191 [mR 144, none, none, mI x3, mI x4, mI (w32 (s1 - s0)), none, none, none, none] [] w) : Wp (Cw d) cd_M_bestDay (0, 0, n1) Q 180 [mR 144, none, none, mI x3, mI x4, none, none, none, none, none] [mI s0, mI s1] w :=
  Wp.s (Wp.s (Wp.s (Wp.s (Wp.s (Wp.s ⟨g1, Wp.s (Wp.s (Wp.s (Wp.s ⟨g2, Wp.s ⟨fun q => Wp.fgd (leA.k (leA.f (leA.f (leA.f (leA.k (leA.f (leA.f (leA.f (leA.f (leA.f leA.e)))))))))) (h1 q), fun q => h2 q⟩⟩)))⟩)))))
theorem M_bestDay_144_b191 {d : Nat} {n1 : Int} {Q : MV → Wd → Prop} {x3 x4 x5 : Int} {w : Wd} (h1 : 0 < x5 → Wp (Cw d) cd_M_bestDay (0, 0, n1) Q 205 [mR 144, none, none, none, mI x4, none, none, none, none, none] [] w) (h2 : ¬ (0 < x5) → Wp (Cw d) cd_M_bestDay (0, 0, n1) Q 193 [mR 144, none, none, mI x3, mI x4, mI x5, none, none, none, none] [] w) : Wp (Cw d) cd_M_bestDay (0, 0, n1) Q 191 [mR 144, none, none, mI x3, mI x4, mI x5, none, none, none, none] [] w :=
  Wp.s (Wp.s ⟨fun q => Wp.fgd (leA.k (leA.f (leA.f (leA.f (leA.k (leA.f (leA.f (leA.f (leA.f (leA.f leA.e)))))))))) (h1 q), fun q => h2 q⟩)
theorem M_bestDay_144_b193 {d : Nat} {n1 : Int} {Q : MV → Wd → Prop} {x3 x4 x5 : Int} {w : Wd} (h1 : ¬ x5 = 0 → Wp (Cw d) cd_M_bestDay (0, 0, n1) Q 207 [mR 144, none, none, mI x3, mI x4, none, none, none, none, none] [] w) (h2 : ¬ (¬ x5 = 0) → Wp (Cw d) cd_M_bestDay (0, 0, n1) Q 195 [mR 144, none, none, mI x3, mI x4, none, none, none, none, none] [] w) : Wp (Cw d) cd_M_bestDay (0, 0, n1) Q 193 [mR 144, none, none, mI x3, mI x4, mI x5, none, none, none, none] [] w :=
  Wp.s (Wp.s ⟨fun q => Wp.fgd (leA.k (leA.f (leA.f (leA.k (leA.k (leA.f (leA.f (leA.f (leA.f (leA.f leA.e)))))))))) (h1 q), fun q => Wp.fgd (leA.k (leA.f (leA.f (leA.k (leA.k (leA.f (leA.f (leA.f (leA.f (leA.f leA.e)))))))))) (h2 q)⟩)
theorem M_bestDay_144_b195 {d : Nat} {n1 : Int} {Q : MV → Wd → Prop} {x3 x4 : Int} {w : Wd} (g1 : (0 : Int) ≤ x4 ∧ x4 < 256) (g2 : (0 : Int) ≤ x3 ∧ x3 < 256) (h1 : 0 ≤ cmp3 (w 168 x4.toNat) (w 168 x3.toNat) → Wp (Cw d) cd_M_bestDay (0, 0, n1) Q 207 [mR 144, none, none, mI x3, mI x4, none, none, none, none, none] [] w) (h2 : ¬ (0 ≤ cmp3 (w 168 x4.toNat) (w 168 x3.toNat)) → Wp (Cw d) cd_M_bestDay (0, 0, n1) Q 205 [mR 144, none, none, none, mI x4, none, none, none, none, none] [] w) : Wp (Cw d) cd_M_bestDay (0, 0, n1) Q 195 [mR 144, none, none, mI x3, mI x4, none, none, none, none, none] [] w :=
  Wp.s (Wp.s (Wp.s (Wp.s ⟨g1, Wp.s (Wp.s (Wp.s (Wp.s ⟨g2, Wp.s (Wp.s ⟨fun q => h1 q, fun q => Wp.fgd (leA.k (leA.f (leA.f (leA.f (leA.k (leA.f (leA.f (leA.f (leA.f (leA.f leA.e)))))))))) (h2 q)⟩)⟩)))⟩)))
theorem M_bestDay_144_b205 {d : Nat} {n1 : Int} {Q : MV → Wd → Prop} {x4 : Int} {w : Wd} (h : Wp (Cw d) cd_M_bestDay (0, 0, n1) Q 207 [mR 144, none, none, mI x4, mI x4, none, none, none, none, none] [] w) : Wp (Cw d) cd_M_bestDay (0, 0, n1) Q 205 [mR 144, none, none, none, mI x4, none, none, none, none, none] [] w :=
  Wp.s (Wp.s h)
theorem M_bestDay_144_b207 {d : Nat} {n1 : Int} {Q : MV → Wd → Prop} {x3 x4 : Int} {w : Wd} (h : Wp (Cw d) cd_M_bestDay (0, 0, n1) Q 157 [mR 144, none, none, mI x3, mI (w32 (x4 + 1)), none, none, none, none, none] [] w) : Wp (Cw d) cd_M_bestDay (0, 0, n1) Q 207 [mR 144, none, none, mI x3, mI x4, none, none, none, none, none] [] w :=
  Wp.s (Wp.s h)
theorem M_bestDay_144_b209 {d : Nat} {n1 : Int} {Q : MV → Wd → Prop} {x3 : Int} {w : Wd} (g1 : (0 : Int) ≤ x3 ∧ x3 < 256) (h : Cw d 225 [mI x3] (ub w 144 47 (w 166 x3.toNat)) (fun r w' => Wp (Cw d) cd_M_bestDay (0, 0, n1) Q 218 [mR 144, none, none, mI x3, none, none, none, none, none, none] [r, mR 144] w')) : Wp (Cw d) cd_M_bestDay (0, 0, n1) Q 209 [mR 144, none, none, mI x3, none, none, none, none, none, none] [] w :=
  Wp.s (Wp.s (Wp.s (Wp.s (Wp.s ⟨g1, Wp.s (Wp.s (Wp.s (Wp.s h)))⟩))))
theorem M_bestDay_144_b218 {d : Nat} {n1 : Int} {Q : MV → Wd → Prop} {x3 s0 : Int} {w : Wd} (g1 : (0 : Int) ≤ x3 ∧ x3 < 256) (h : Wp (Cw d) cd_M_bestDay (0, 0, n1) Q 229 [mR 144, none, none, none, mL (w 168 x3.toNat), none, mI 7, none, none, none] [] (ub (ub w 144 48 s0) 144 49 0)) : Wp (Cw d) cd_M_bestDay (0, 0, n1) Q 218 [mR 144, none, none, mI x3, none, none, none, none, none, none] [mI s0, mR 144] w :=
  Wp.s (Wp.s (Wp.s (Wp.s (Wp.s (Wp.s (Wp.s (Wp.s ⟨g1, Wp.s (Wp.s (Wp.s (Wp.fgd (leA.k (leA.f (leA.f (leA.f (leA.k (leA.f (leA.k (leA.f (leA.f (leA.f leA.e)))))))))) h)))⟩)))))))
theorem M_bestDay_144_b229 {d : Nat} {n1 : Int} {Q : MV → Wd → Prop} {x4 x6 : Int} {w : Wd} (h1 : x6 < 0 → Wp (Cw d) cd_M_bestDay (0, 0, n1) Q 270 [none, none, none, none, none, none, none, none, none, none] [] w) (h2 : ¬ (x6 < 0) → Wp (Cw d) cd_M_bestDay (0, 0, n1) Q 231 [mR 144, none, none, none, mL x4, none, mI x6, none, none, none] [] w) : Wp (Cw d) cd_M_bestDay (0, 0, n1) Q 229 [mR 144, none, none, none, mL x4, none, mI x6, none, none, none] [] w :=
  Wp.s (Wp.s ⟨fun q => Wp.fgd (leA.f (leA.f (leA.f (leA.f (leA.f (leA.f (leA.f (leA.f (leA.f (leA.f leA.e)))))))))) (h1 q), fun q => h2 q⟩)
theorem M_bestDay_144_b231 {d : Nat} {n1 : Int} {Q : MV → Wd → Prop} {x4 x6 : Int} {w : Wd} (g1 : ¬ 17 = 0) (g2 : ¬ 17 = 0) (h1 : ¬ w32 (Int.tmod x4 17) = 16 → Wp (Cw d) cd_M_bestDay (0, 0, n1) Q 248 [mR 144, none, none, none, mL (w64 (Int.tdiv x4 17)), none, mI x6, mI (w32 (Int.tmod x4 17)), none, none] [mI x6, mR 167] w) (h2 : ¬ (¬ w32 (Int.tmod x4 17) = 16) → Wp (Cw d) cd_M_bestDay (0, 0, n1) Q 246 [mR 144, none, none, none, mL (w64 (Int.tdiv x4 17)), none, mI x6, mI (w32 (Int.tmod x4 17)), none, none] [mI x6, mR 167] w) : Wp (Cw d) cd_M_bestDay (0, 0, n1) Q 231 [mR 144, none, none, none, mL x4, none, mI x6, none, none, none] [] w :=
  Wp.s (Wp.s (Wp.s ⟨g1, Wp.s (Wp.s (Wp.s (Wp.s (Wp.s ⟨g2, Wp.s (Wp.s (Wp.s (Wp.s (Wp.s (Wp.s (Wp.s ⟨fun q => h1 q, fun q => h2 q⟩))))))⟩))))⟩))
theorem M_bestDay_144_b246 {d : Nat} {n1 : Int} {Q : MV → Wd → Prop} {x4 x6 x7 s0 : Int} {w : Wd} (h : Wp (Cw d) cd_M_bestDay (0, 0, n1) Q 249 [mR 144, none, none, none, mL x4, none, mI x6, mI x7, none, none] [mI ((-1)), mI s0, mR 167] w) : Wp (Cw d) cd_M_bestDay (0, 0, n1) Q 246 [mR 144, none, none, none, mL x4, none, mI x6, mI x7, none, none] [mI s0, mR 167] w :=
  Wp.s (Wp.s h)
theorem M_bestDay_144_b248 {d : Nat} {n1 : Int} {Q : MV → Wd → Prop} {x4 x6 x7 s0 : Int} {w : Wd} (h : Wp (Cw d) cd_M_bestDay (0, 0, n1) Q 249 [mR 144, none, none, none, mL x4, none, mI x6, mI x7, none, none] [mI x7, mI s0, mR 167] w) : Wp (Cw d) cd_M_bestDay (0, 0, n1) Q 248 [mR 144, none, none, none, mL x4, none, mI x6, mI x7, none, none] [mI s0, mR 167] w :=
  Wp.s h
theorem M_bestDay_144_b249 {d : Nat} {n1 : Int} {Q : MV → Wd → Prop} {x4 x6 x7 s0 s1 : Int} {w : Wd} (g1 : (0 : Int) ≤ s1 ∧ s1 < 8) (h1 : ¬ x7 = 16 → Wp (Cw d) cd_M_bestDay (0, 0, n1) Q 258 [mR 144, none, none, none, mL x4, none, mI x6, mI x7, none, none] [mI (w 144 49), mR 144] (ub w 167 s1.toNat s0)) (h2 : ¬ (¬ x7 = 16) → Wp (Cw d) cd_M_bestDay (0, 0, n1) Q 256 [mR 144, none, none, none, mL x4, none, mI x6, none, none, none] [mI (w 144 49), mR 144] (ub w 167 s1.toNat s0)) : Wp (Cw d) cd_M_bestDay (0, 0, n1) Q 249 [mR 144, none, none, none, mL x4, none, mI x6, mI x7, none, none] [mI s0, mI s1, mR 167] w :=
  Wp.s ⟨g1, Wp.s (Wp.s (Wp.s (Wp.s (Wp.s (Wp.s ⟨fun q => h1 q, fun q => Wp.fgd (leA.k (leA.f (leA.f (leA.f (leA.k (leA.f (leA.k (leA.f (leA.f (leA.f leA.e)))))))))) (h2 q)⟩)))))⟩
theorem M_bestDay_144_b256 {d : Nat} {n1 : Int} {Q : MV → Wd → Prop} {x4 x6 s0 : Int} {w : Wd} (h : Wp (Cw d) cd_M_bestDay (0, 0, n1) Q 266 [mR 144, none, none, none, mL x4, none, mI x6, none, none, none] [mI 0, mI s0, mR 144] w) : Wp (Cw d) cd_M_bestDay (0, 0, n1) Q 256 [mR 144, none, none, none, mL x4, none, mI x6, none, none, none] [mI s0, mR 144] w :=
  Wp.s (Wp.s h)
theorem M_bestDay_144_b258 {d : Nat} {n1 : Int} {Q : MV → Wd → Prop} {x4 x6 x7 s0 : Int} {w : Wd} (g1 : (0 : Int) ≤ w32 ((w32 (8 * x7)) + x6) ∧ w32 ((w32 (8 * x7)) + x6) < 128) (h : Wp (Cw d) cd_M_bestDay (0, 0, n1) Q 266 [mR 144, none, none, none, mL x4, none, mI x6, none, none, none] [mI (w 163 (w32 ((w32 (8 * x7)) + x6)).toNat), mI s0, mR 144] w) : Wp (Cw d) cd_M_bestDay (0, 0, n1) Q 258 [mR 144, none, none, none, mL x4, none, mI x6, mI x7, none, none] [mI s0, mR 144] w :=
  Wp.s (Wp.s (Wp.s (Wp.s (Wp.s (Wp.s (Wp.s (Wp.s ⟨g1, Wp.fgd (leA.k (leA.f (leA.f (leA.f (leA.k (leA.f (leA.k (leA.f (leA.f (leA.f leA.e)))))))))) h⟩)))))))
theorem M_bestDay_144_b266 {d : Nat} {n1 : Int} {Q : MV → Wd → Prop} {x4 x6 s0 s1 : Int} {w : Wd} (h : Wp (Cw d) cd_M_bestDay (0, 0, n1) Q 229 [mR 144, none, none, none, mL x4, none, mI (w32 (x6 + (-1))), none, none, none] [] (ub w 144 49 (w32 (s1 + s0)))) : Wp (Cw d) cd_M_bestDay (0, 0, n1) Q 266 [mR 144, none, none, none, mL x4, none, mI x6, none, none, none] [mI s0, mI s1, mR 144] w :=
  Wp.s (Wp.s (Wp.s (Wp.s h)))
theorem M_bestDay_144_b270 {d : Nat} {n1 : Int} {Q : MV → Wd → Prop} {w : Wd} (h : Q none w) : Wp (Cw d) cd_M_bestDay (0, 0, n1) Q 270 [none, none, none, none, none, none, none, none, none, none] [] w :=
  Wp.s h
theorem Meeting_unitFor_92_b0 {d : Nat} {n1 : Int} {Q : MV → Wd → Prop} {x1 : Int} {w : Wd} (h : Cw d 79 [mI x1] w (fun r w' => Wp (Cw d) cd_Meeting_unitFor (1, 0, n1) Q 4 [none, none, none] [r, mL (w 92 7)] w')) : Wp (Cw d) cd_Meeting_unitFor (1, 0, n1) Q 0 [mR 92, mI x1, none] [] w :=
  Wp.s (Wp.s (Wp.s (Wp.s (Cw_mono _ _ _ _ _ _ (fun r w' q => Wp.fgd (leA.f (leA.f (leA.f leA.e))) q) h))))
theorem Meeting_unitFor_92_b4 {d : Nat} {n1 : Int} {Q : MV → Wd → Prop} {s0 s1 : Int} {w : Wd} (h1 : ¬ iand (w32 (lshr s1 s0)) 31 = 0 → Wp (Cw d) cd_Meeting_unitFor (1, 0, n1) Q 13 [none, none, mI (iand (w32 (lshr s1 s0)) 31)] [] w) (h2 : ¬ (¬ iand (w32 (lshr s1 s0)) 31 = 0) → Wp (Cw d) cd_Meeting_unitFor (1, 0, n1) Q 11 [none, none, none] [] w) : Wp (Cw d) cd_Meeting_unitFor (1, 0, n1) Q 4 [none, none, none] [mI s0, mL s1] w :=
  Wp.s (Wp.s (Wp.s (Wp.s (Wp.s (Wp.s (Wp.s ⟨fun q => h1 q, fun q => Wp.fgd (leA.f (leA.f (leA.f leA.e))) (h2 q)⟩))))))
theorem Meeting_unitFor_92_b11 {d : Nat} {n1 : Int} {Q : MV → Wd → Prop} {w : Wd} (h : Wp (Cw d) cd_Meeting_unitFor (1, 0, n1) Q 16 [none, none, none] [mI ((-1))] w) : Wp (Cw d) cd_Meeting_unitFor (1, 0, n1) Q 11 [none, none, none] [] w :=
  Wp.s (Wp.s h)
theorem Meeting_unitFor_92_b13 {d : Nat} {n1 : Int} {Q : MV → Wd → Prop} {x2 : Int} {w : Wd} (h : Wp (Cw d) cd_Meeting_unitFor (1, 0, n1) Q 16 [none, none, none] [mI (w32 (16 - x2))] w) : Wp (Cw d) cd_Meeting_unitFor (1, 0, n1) Q 13 [none, none, mI x2] [] w :=
  Wp.s (Wp.s (Wp.s (Wp.fgd (leA.f (leA.f (leA.f leA.e))) h)))
theorem Meeting_unitFor_92_b16 {d : Nat} {n1 : Int} {Q : MV → Wd → Prop} {s0 : Int} {w : Wd} (h : Q (mI s0) w) : Wp (Cw d) cd_Meeting_unitFor (1, 0, n1) Q 16 [none, none, none] [mI s0] w :=
  Wp.s h
theorem Plan_read_32_2_4_b0 {d : Nat} {n1 : Int} {Q : MV → Wd → Prop} {w : Wd} (h : Wp (Cw d) cd_Plan_read (1, 0, n1) Q 5 [mR 32, mR 2, mR 4, mI 0] [] (ub w 32 0 0)) : Wp (Cw d) cd_Plan_read (1, 0, n1) Q 0 [mR 32, mR 2, mR 4, none] [] w :=
  Wp.s (Wp.s (Wp.s (Wp.s (Wp.s h))))
theorem Plan_read_32_2_4_b5 {d : Nat} {n1 : Int} {Q : MV → Wd → Prop} {x3 : Int} {w : Wd} (h1 : 50 < x3 → Wp (Cw d) cd_Plan_read (1, 0, n1) Q 24 [mR 32, none, none, none] [] w) (h2 : ¬ (50 < x3) → Wp (Cw d) cd_Plan_read (1, 0, n1) Q 8 [mR 32, mR 2, mR 4, mI x3] [] w) : Wp (Cw d) cd_Plan_read (1, 0, n1) Q 5 [mR 32, mR 2, mR 4, mI x3] [] w :=
  Wp.s (Wp.s (Wp.s ⟨fun q => Wp.fgd (leA.k (leA.f (leA.f (leA.f leA.e)))) (h1 q), fun q => h2 q⟩))
theorem Plan_read_32_2_4_b8 {d : Nat} {n1 : Int} {Q : MV → Wd → Prop} {x3 : Int} {w : Wd} (h1 : w 2 5 = 0 → Wp (Cw d) cd_Plan_read (1, 0, n1) Q 24 [mR 32, none, none, none] [] w) (h2 : ¬ (w 2 5 = 0) → Wp (Cw d) cd_Plan_read (1, 0, n1) Q 11 [mR 32, mR 2, mR 4, mI x3] [] w) : Wp (Cw d) cd_Plan_read (1, 0, n1) Q 8 [mR 32, mR 2, mR 4, mI x3] [] w :=
  Wp.s (Wp.s (Wp.s ⟨fun q => Wp.fgd (leA.k (leA.f (leA.f (leA.f leA.e)))) (h1 q), fun q => h2 q⟩))
theorem Plan_read_32_2_4_b11 {d : Nat} {n1 : Int} {Q : MV → Wd → Prop} {x3 : Int} {w : Wd} (h : Cw d 99 [mR 32, mR 2, mR 4] w (fun r w' => Wp (Cw d) cd_Plan_read (1, 0, n1) Q 15 [mR 32, mR 2, mR 4, mI x3] [r] w')) : Wp (Cw d) cd_Plan_read (1, 0, n1) Q 11 [mR 32, mR 2, mR 4, mI x3] [] w :=
  Wp.s (Wp.s (Wp.s (Wp.s h)))
theorem Plan_read_32_2_4_b15 {d : Nat} {n1 : Int} {Q : MV → Wd → Prop} {x3 s0 : Int} {w : Wd} (h1 : s0 = 0 → Wp (Cw d) cd_Plan_read (1, 0, n1) Q 19 [none, mR 2, none, none] [] w) (h2 : ¬ (s0 = 0) → Wp (Cw d) cd_Plan_read (1, 0, n1) Q 16 [mR 32, mR 2, mR 4, mI x3] [] w) : Wp (Cw d) cd_Plan_read (1, 0, n1) Q 15 [mR 32, mR 2, mR 4, mI x3] [mI s0] w :=
  Wp.s ⟨fun q => Wp.fgd (leA.f (leA.k (leA.f (leA.f leA.e)))) (h1 q), fun q => h2 q⟩
theorem Plan_read_32_2_4_b16 {d : Nat} {n1 : Int} {Q : MV → Wd → Prop} {x3 : Int} {w : Wd} (h : Cw d 45 [mR 2] w (fun r w' => Wp (Cw d) cd_Plan_read (1, 0, n1) Q 18 [mR 32, mR 2, mR 4, mI x3] [r] w')) : Wp (Cw d) cd_Plan_read (1, 0, n1) Q 16 [mR 32, mR 2, mR 4, mI x3] [] w :=
  Wp.s (Wp.s h)
theorem Plan_read_32_2_4_b18 {d : Nat} {n1 : Int} {Q : MV → Wd → Prop} {x3 s0 : Int} {w : Wd} (h1 : ¬ s0 = 0 → Wp (Cw d) cd_Plan_read (1, 0, n1) Q 22 [mR 32, mR 2, mR 4, mI x3] [] w) (h2 : ¬ (¬ s0 = 0) → Wp (Cw d) cd_Plan_read (1, 0, n1) Q 19 [none, mR 2, none, none] [] w) : Wp (Cw d) cd_Plan_read (1, 0, n1) Q 18 [mR 32, mR 2, mR 4, mI x3] [mI s0] w :=
  Wp.s ⟨fun q => h1 q, fun q => Wp.fgd (leA.f (leA.k (leA.f (leA.f leA.e)))) (h2 q)⟩
theorem Plan_read_32_2_4_b19 {d : Nat} {n1 : Int} {Q : MV → Wd → Prop} {w : Wd} (h : Cw d 46 [mR 2] w (fun r w' => Wp (Cw d) cd_Plan_read (1, 0, n1) Q 21 [none, none, none, none] [r] w')) : Wp (Cw d) cd_Plan_read (1, 0, n1) Q 19 [none, mR 2, none, none] [] w :=
  Wp.s (Wp.s (Cw_mono _ _ _ _ _ _ (fun r w' q => Wp.fgd (leA.f (leA.f (leA.f (leA.f leA.e)))) q) h))
theorem Plan_read_32_2_4_b21 {d : Nat} {n1 : Int} {Q : MV → Wd → Prop} {s0 : Int} {w : Wd} (h : Q (mI s0) w) : Wp (Cw d) cd_Plan_read (1, 0, n1) Q 21 [none, none, none, none] [mI s0] w :=
  Wp.s h
theorem Plan_read_32_2_4_b22 {d : Nat} {n1 : Int} {Q : MV → Wd → Prop} {x3 : Int} {w : Wd} (h : Wp (Cw d) cd_Plan_read (1, 0, n1) Q 5 [mR 32, mR 2, mR 4, mI (w32 (x3 + 1))] [] w) : Wp (Cw d) cd_Plan_read (1, 0, n1) Q 22 [mR 32, mR 2, mR 4, mI x3] [] w :=
  Wp.s (Wp.s h)
theorem Plan_read_32_2_4_b24 {d : Nat} {n1 : Int} {Q : MV → Wd → Prop} {w : Wd} (h : Q (mI (w 32 0)) w) : Wp (Cw d) cd_Plan_read (1, 0, n1) Q 24 [mR 32, none, none, none] [] w :=
  Wp.s (Wp.s (Wp.s h))
theorem Plan_copy_28_32_b0 {d : Nat} {n1 : Int} {Q : MV → Wd → Prop} {w : Wd} (h : Cw d 48 [mR 33, mR 29] (ub w 28 0 (w 32 0)) (fun _ w' => Wp (Cw d) cd_Plan_copy (0, 0, n1) Q 9 [mR 28, mR 32] [] w')) : Wp (Cw d) cd_Plan_copy (0, 0, n1) Q 0 [mR 28, mR 32] [] w :=
  Wp.s (Wp.s (Wp.s (Wp.s (Wp.s (Wp.s (Wp.s (Wp.s (Wp.s h))))))))
theorem Plan_copy_28_32_b9 {d : Nat} {n1 : Int} {Q : MV → Wd → Prop} {w : Wd} (h : Cw d 48 [mR 34, mR 30] w (fun _ w' => Wp (Cw d) cd_Plan_copy (0, 0, n1) Q 14 [mR 28, mR 32] [] w')) : Wp (Cw d) cd_Plan_copy (0, 0, n1) Q 9 [mR 28, mR 32] [] w :=
  Wp.s (Wp.s (Wp.s (Wp.s (Wp.s h))))
theorem Plan_copy_28_32_b14 {d : Nat} {n1 : Int} {Q : MV → Wd → Prop} {w : Wd} (h : Cw d 48 [mR 35, mR 31] w (fun _ w' => Wp (Cw d) cd_Plan_copy (0, 0, n1) Q 19 [none, none] [] w')) : Wp (Cw d) cd_Plan_copy (0, 0, n1) Q 14 [mR 28, mR 32] [] w :=
  Wp.s (Wp.s (Wp.s (Wp.s (Wp.s (Cw_mono _ _ _ _ _ _ (fun r w' q => Wp.fgd (leA.f (leA.f leA.e)) q) h)))))
theorem Plan_copy_28_32_b19 {d : Nat} {n1 : Int} {Q : MV → Wd → Prop} {w : Wd} (h : Q none w) : Wp (Cw d) cd_Plan_copy (0, 0, n1) Q 19 [none, none] [] w :=
  Wp.s h
theorem M_act0_144_b0 {d : Nat} {n1 : Int} {Q : MV → Wd → Prop} {w : Wd} (h : Cw d 180 [mR 144, mL 1734964837] w (fun r w' => Wp (Cw d) cd_M_act0 (2, 0, n1) Q 3 [mR 144, none, none] [r] w')) : Wp (Cw d) cd_M_act0 (2, 0, n1) Q 0 [mR 144, none, none] [] w :=
  Wp.s (Wp.s (Wp.s h))
theorem M_act0_144_b3 {d : Nat} {n1 : Int} {Q : MV → Wd → Prop} {s0 : Int} {w : Wd} (h1 : s0 = 0 → Wp (Cw d) cd_M_act0 (2, 0, n1) Q 6 [mR 144, none, none] [] w) (h2 : ¬ (s0 = 0) → Wp (Cw d) cd_M_act0 (2, 0, n1) Q 4 [mR 144, none, none] [] w) : Wp (Cw d) cd_M_act0 (2, 0, n1) Q 3 [mR 144, none, none] [mI s0] w :=
  Wp.s ⟨fun q => h1 q, fun q => h2 q⟩
theorem M_act0_144_b4 {d : Nat} {n1 : Int} {Q : MV → Wd → Prop} {w : Wd} (h : Wp (Cw d) cd_M_act0 (2, 0, n1) Q 19 [mR 144, none, none] [mI 0] w) : Wp (Cw d) cd_M_act0 (2, 0, n1) Q 4 [mR 144, none, none] [] w :=
  Wp.s (Wp.s h)
theorem M_act0_144_b6 {d : Nat} {n1 : Int} {Q : MV → Wd → Prop} {w : Wd} (h : Cw d 180 [mR 144, mL 7697253] w (fun r w' => Wp (Cw d) cd_M_act0 (2, 0, n1) Q 9 [mR 144, none, none] [r] w')) : Wp (Cw d) cd_M_act0 (2, 0, n1) Q 6 [mR 144, none, none] [] w :=
  Wp.s (Wp.s (Wp.s h))
theorem M_act0_144_b9 {d : Nat} {n1 : Int} {Q : MV → Wd → Prop} {s0 : Int} {w : Wd} (h1 : s0 = 0 → Wp (Cw d) cd_M_act0 (2, 0, n1) Q 12 [mR 144, none, none] [] w) (h2 : ¬ (s0 = 0) → Wp (Cw d) cd_M_act0 (2, 0, n1) Q 10 [mR 144, none, none] [] w) : Wp (Cw d) cd_M_act0 (2, 0, n1) Q 9 [mR 144, none, none] [mI s0] w :=
  Wp.s ⟨fun q => h1 q, fun q => h2 q⟩
theorem M_act0_144_b10 {d : Nat} {n1 : Int} {Q : MV → Wd → Prop} {w : Wd} (h : Wp (Cw d) cd_M_act0 (2, 0, n1) Q 19 [mR 144, none, none] [mI 1] w) : Wp (Cw d) cd_M_act0 (2, 0, n1) Q 10 [mR 144, none, none] [] w :=
  Wp.s (Wp.s h)
theorem M_act0_144_b12 {d : Nat} {n1 : Int} {Q : MV → Wd → Prop} {w : Wd} (h : Cw d 180 [mR 144, mL 2002872692] w (fun r w' => Wp (Cw d) cd_M_act0 (2, 0, n1) Q 15 [mR 144, none, none] [r] w')) : Wp (Cw d) cd_M_act0 (2, 0, n1) Q 12 [mR 144, none, none] [] w :=
  Wp.s (Wp.s (Wp.s h))
theorem M_act0_144_b15 {d : Nat} {n1 : Int} {Q : MV → Wd → Prop} {s0 : Int} {w : Wd} (h1 : s0 = 0 → Wp (Cw d) cd_M_act0 (2, 0, n1) Q 18 [mR 144, none, none] [] w) (h2 : ¬ (s0 = 0) → Wp (Cw d) cd_M_act0 (2, 0, n1) Q 16 [mR 144, none, none] [] w) : Wp (Cw d) cd_M_act0 (2, 0, n1) Q 15 [mR 144, none, none] [mI s0] w :=
  Wp.s ⟨fun q => h1 q, fun q => h2 q⟩
theorem M_act0_144_b16 {d : Nat} {n1 : Int} {Q : MV → Wd → Prop} {w : Wd} (h : Wp (Cw d) cd_M_act0 (2, 0, n1) Q 19 [mR 144, none, none] [mI 2] w) : Wp (Cw d) cd_M_act0 (2, 0, n1) Q 16 [mR 144, none, none] [] w :=
  Wp.s (Wp.s h)
theorem M_act0_144_b18 {d : Nat} {n1 : Int} {Q : MV → Wd → Prop} {w : Wd} (h : Wp (Cw d) cd_M_act0 (2, 0, n1) Q 19 [mR 144, none, none] [mI ((-1))] w) : Wp (Cw d) cd_M_act0 (2, 0, n1) Q 18 [mR 144, none, none] [] w :=
  Wp.s h
theorem M_act0_144_b19 {d : Nat} {n1 : Int} {Q : MV → Wd → Prop} {s0 : Int} {w : Wd} (h1 : 0 ≤ s0 → Wp (Cw d) cd_M_act0 (2, 0, n1) Q 26 [mR 144, mI s0, none] [] w) (h2 : ¬ (0 ≤ s0) → Wp (Cw d) cd_M_act0 (2, 0, n1) Q 22 [mR 144, none, none] [] w) : Wp (Cw d) cd_M_act0 (2, 0, n1) Q 19 [mR 144, none, none] [mI s0] w :=
  Wp.s (Wp.s (Wp.s ⟨fun q => h1 q, fun q => Wp.fgd (leA.k (leA.f (leA.f leA.e))) (h2 q)⟩))
